/-! PURE, 30: TERM, side by side. -/
section PM2
variable {K : Nat} {gc gr : jm_Rec} {B : Nat → Fin 256} {n : Nat} {off : Nat → Int32} {N : List NE} {op pt s lo : Nat} {L : Nat × Nat × Nat} {c : Nat → Int32} {xC xR : jm_X}
theorem s_term (hK : 20000 ≤ K) (hp : PS B n gc gr lo) (hT : TS B n gc gr (lo + 1)) (hlo : lo ≤ op) (ho : op ≤ 60) (hN : NOk n N) (hn : N.length ≤ 21 * op) (hL : LX B n L) (hC : SC B n L (cO c off) N xC) (hR : SR B n L c N op pt xR) :
    SimV B (Go B n off N op pt L.1) (f_G_term K gc (nI op) xC) (f_M_term K gr xR) := by
  have hF := hL.facts
  have hn4 := hC.1.2.2.2
  have hl := hF.2.2.1
  have tail : ∀ yC yR, Go B n off N op pt L.1 yC yR → SimV B (Go B n off N op pt L.1) (J_G_term_205 K gc (nI op) yC) (L_M_term_295 K gr K yR) := fun yC yR h => s_tail hK hp hlo ho hN hn hn4 h
  simp only [f_G_term, f_S_sign, f_JE_ordinal, hC.2.1.2.2]
  rw [jm_bA_some, if_pos (cn_sgn hl), if_pos (cn_sgn hl), jm_bI_some, Nat.add_sub_cancel_left, if_pos (by decide), show Int32.ofNat L.2.2 = nI L.2.2 from rfl, if_pos (pu_ix hl (by omega)), nI_clamp (by omega)]
  by_cases h2 : L.2.2 = 2
  · have e : sg_swm.getD L.2.2 0 = 14 := by rw [h2]; decide
    have t : tokS L.2.2 = 1 := by rw [h2]; decide
    simp (decide := true) only [f_M_term, hR.2.1.2.2, e, t, if_true, if_false]
    exact SimV.bind (s_call hK hp hlo ho hN hn hL h2 hC hR) tail
  by_cases h19 : L.2.2 = 19
  · have e : sg_swm.getD L.2.2 0 = 15 := by rw [h19]; decide
    have t : tokS L.2.2 = 1 := by rw [h19]; decide
    simp (decide := true) only [f_M_term, hR.2.1.2.2, e, t, if_true, if_false]
    exact SimV.bind (s_leave hK hL h19 hN hC hR) tail
  by_cases h6 : L.2.2 = 6
  · have e : sg_swm.getD L.2.2 0 = 10 := by rw [h6]; decide
    have t : tokS L.2.2 = 5 := by rw [h6]; decide
    simp (decide := true) only [f_M_term, hR.2.1.2.2, e, t, if_true, if_false]
    exact SimV.bind (s_string hK hp hlo ho hN hn hL h6 hC hR) tail
  by_cases h16 : L.2.2 = 16
  · have e : sg_swm.getD L.2.2 0 = 13 := by rw [h16]; decide
    have t : tokS L.2.2 = 20 := by rw [h16]; decide
    simp (decide := true) only [f_M_term, hR.2.1.2.2, e, t, if_true, if_false]
    exact SimV.bind (s_object hK hp hT hlo ho hN hn hL h16 hC hR) tail
  by_cases h14 : L.2.2 = 14
  · have e : sg_swm.getD L.2.2 0 = 12 := by rw [h14]; decide
    have t : tokS L.2.2 = 18 := by rw [h14]; decide
    have er := r_cnt_eq (k := 9) (a := 9) (by omega) rfl (fun x36 => jm_bV (f_M_scan K gr x36) (fun x37 => (if (x37.1 11) = 19 then J_M_term_245 K gr x37 else jm_bV (gr 0 [.ref 0] x37) (fun x38 => J_M_term_245 K gr x38)))) xR
    simp (decide := true) only [if_true] at er
    simp (decide := true) only [f_M_term, hR.2.1.2.2, e, t, if_true, if_false]
    rw [er]
    exact s_array hK hp hlo ho hN hn hL h14 hC hR
  by_cases h12 : L.2.2 = 12
  · have e : sg_swm.getD L.2.2 0 = 11 := by rw [h12]; decide
    have t : tokS L.2.2 = 16 := by rw [h12]; decide
    simp (decide := true) only [f_M_term, hR.2.1.2.2, e, t, if_true, if_false]
    have key := SimV.bind (s_group hK hp hlo ho hN hn hL h12 hC hR) tail
    simp only [jm_bV_assoc, jm_bV_some] at key ⊢
    exact key
  by_cases h8 : L.2.2 = 8
  · have e : sg_swm.getD L.2.2 0 = 8 := by rw [h8]; decide
    have t : tokS L.2.2 = 15 := by rw [h8]; decide
    obtain ⟨y1, y2, e1, e2, s1, s2⟩ := s_takeAs (K := K) (gc := gc) (gr := gr) hK hL (by omega) (by omega) hC hR (k := 1) (by omega) (a := 1) rfl
    have er := r_cnt_eq (k := 1) (a := 1) (by omega) rfl (fun x29 => jm_bV (f_M_scan K gr x29) (fun x30 => L_M_term_295 K gr K x30)) xR
    simp (decide := true) only [if_true] at er
    simp (decide := true) only [f_M_term, hR.2.1.2.2, e, t, if_true, if_false]
    rw [er, e1, e2, jm_bV_some, jm_bV_some]
    exact tail _ _ ⟨_, _, hL.next, hL.gt (by omega) (by omega), s1, s2⟩
  by_cases h5 : L.2.2 = 5
  · have e : sg_swm.getD L.2.2 0 = 9 := by rw [h5]; decide
    have t : tokS L.2.2 = 4 := by rw [h5]; decide
    obtain ⟨y1, y2, e1, e2, s1, s2⟩ := s_takeAs (K := K) (gc := gc) (gr := gr) hK hL (by omega) (by omega) hC hR (k := 6) (by omega) (a := 6) rfl
    have er := r_cnt_eq (k := 6) (a := 6) (by omega) rfl (fun x29 => jm_bV (f_M_scan K gr x29) (fun x30 => L_M_term_295 K gr K x30)) xR
    simp (decide := true) only [if_true] at er
    simp (decide := true) only [f_M_term, hR.2.1.2.2, e, t, if_true, if_false]
    rw [er, e1, e2, jm_bV_some, jm_bV_some]
    exact tail _ _ ⟨_, _, hL.next, hL.gt (by omega) (by omega), s1, s2⟩
  by_cases h3 : L.2.2 = 3
  · have e : sg_swm.getD L.2.2 0 = 7 := by rw [h3]; decide
    have t : tokS L.2.2 = 2 := by rw [h3]; decide
    obtain ⟨y0, e0, s0⟩ := c_count (K := K) (g := gc) hC (k := 0) (by omega) (a := 0) rfl
    rw [← cO_cnt] at s0
    obtain ⟨y1, y2, e1, e2, hg⟩ := s_field (K := K) (gc := gc) (gr := gr) hK hL (by omega) (by omega) s0 (r_cnt hR 0)
    have er := r_cnt_eq (k := 0) (a := 0) (by omega) rfl (fun x2 => jm_bV (f_M_field K gr x2) (fun x3 => L_M_term_295 K gr K x3)) xR
    simp (decide := true) only [if_true] at er
    simp (decide := true) only [f_M_term, hR.2.1.2.2, e, t, if_true, if_false]
    rw [er, e0, jm_bV_some, e1, e2, jm_bV_some, jm_bV_some]
    exact tail _ _ hg
  by_cases h7 : L.2.2 = 7
  · have e : sg_swm.getD L.2.2 0 = 6 := by rw [h7]; decide
    have t : tokS L.2.2 = 14 := by rw [h7]; decide
    have u5 : tkU 5 6 := tkU.of (by decide)
    obtain ⟨y1, y2, e1, e2, s1, s2⟩ := s_takeAs (K := K) (gc := gc) (gr := gr) hK hL (by omega) (by omega) hC hR (k := 0) (by omega) (a := 0) rfl
    have hL1 := hL.next
    have hF1 := hL1.facts
    have hgt := hL.gt (by omega) (by omega)
    have er2 := r_cnt_eq (k := 2) (a := 2) (by omega) rfl (fun x27 => jm_bV (f_M_string K gr 1 x27) (fun x28 => L_M_term_295 K gr K x28))
    simp (decide := true) only [if_true] at er2
    have er := r_cnt_eq (k := 0) (a := 0) (by omega) rfl (fun x25 => jm_bV (f_M_scan K gr x25) (fun x26 => (if (x26.1 11) = 5 then jm_then (jm_ua x26 4 2 ((x26.2.2 4 (Int32.toNatClampNeg 2)) + 1)) (fun x27 => jm_bV (f_M_string K gr 1 x27) (fun x28 => L_M_term_295 K gr K x28)) else L_M_term_295 K gr K x26))) xR
    simp (decide := true) only [if_true] at er
    simp (decide := true) only [f_M_term, hR.2.1.2.2, e, t, if_true, if_false]
    rw [er, e1, e2, jm_bV_some, jm_bV_some, c_is s1 hF1.2.2.1 (k := 6) (by omega) rfl, jm_bI_some, bI_ite, s2.2.1.2.2, er2]
    by_cases h6' : (lexB B n L.2.1).2.2 = 6
    · obtain ⟨y3, e3, s3⟩ := c_count (K := K) (g := gc) s1 (k := 2) (by omega) (a := 2) rfl
      rw [← cO_cnt] at s3
      rw [if_pos (decide_eq_true h6'), if_pos ((u5 _ hF1.2.2.1).mpr h6'), e3, jm_bV_some]
      refine SimV.bind (s_string hK hp hlo ho hN hn hL1 h6' s3 (r_cnt s2 2)) ?_
      rintro zC zR ⟨L2, c2, q1, q2, q3⟩
      exact tail zC zR ⟨L2, c2, q1, by omega, q3⟩
    · rw [if_neg (by rw [decide_eq_false h6']; exact Bool.false_ne_true), if_neg (fun z => h6' ((u5 _ hF1.2.2.1).mp z))]
      exact tail _ _ ⟨_, _, hL1, hgt, s1, s2⟩
  by_cases h4 : L.2.2 = 4
  · have e : sg_swm.getD L.2.2 0 = 16 := by rw [h4]; decide
    have t : tokS L.2.2 = 3 := by rw [h4]; decide
    have er := r_cnt_eq (k := 11) (a := 11) (by omega) rfl (fun x5 => L_M_term_295 K gr K x5)
    simp (decide := true) only [if_true] at er
    simp (decide := true) only [f_M_term, hR.2.1.2.2, e, t, if_true, if_false]
    rcases s_variable (K := K) (gc := gc) (gr := gr) hK hL h4 hN hC hR with ⟨v, zC, zR, e4, e5, hb⟩ | ⟨e4, zR, e5, s5⟩
    · rw [e4, e5, jm_bV_thr, jm_bV_thr]
      exact Or.inr ⟨v, zC, zR, rfl, rfl, hb⟩
    · obtain ⟨z1, e6, s6⟩ := c_takeAs (K := K) (g := gc) hK hC hF.2.1 (k := 11) (by omega) (a := 11) rfl
      rw [← cO_cnt] at s6
      rw [e4, jm_bV_some, e6, jm_bV_some, e5, jm_bV_some, er]
      exact tail _ _ ⟨_, _, hL.next, hL.gt (by omega) (by omega), s6, r_cnt s5 11⟩
  -- nothing that begins a TERM
  obtain ⟨w1, w2⟩ := swm_else hl (by simp [h7, h3, h8, h5, h6, h12, h14, h16, h2, h19, h4])
  obtain ⟨y, ey, hb⟩ := c_broken (K := K) (g := gc) hK hC (nI L.1)
  obtain ⟨b1, b2⟩ := r_bad (K := K) (g := gr) hR (nI L.1)
  have hne : ∀ v : Int32, 5 < v → ¬ sg_swm.getD L.2.2 0 = v := fun v hv z => by rw [z] at w1; exact absurd hv (Int32.not_lt.mpr w1)
  refine Sim.thr (v := nI L.1) ?_ ?_ hb b2
  · rw [if_neg (hne 6 (by decide)), if_neg (hne 7 (by decide)), if_neg (hne 8 (by decide)), if_neg (hne 9 (by decide)), if_neg (hne 10 (by decide)), if_neg (hne 11 (by decide)), if_neg (hne 12 (by decide)), if_neg (hne 13 (by decide)), if_neg (hne 14 (by decide)), if_neg (hne 15 (by decide)), if_neg (hne 16 (by decide))]
    simp only [f_S_start]
    rw [jm_bI_some, hC.2.1.1, ey, jm_bV_thr]
  · by_cases t1 : tokS L.2.2 = 1
    · obtain ⟨-, r1⟩ := r_skip_s (K := K) (g := gr) hK hR hF (j := 5) (by omega) (by omega) (a := 2005) rfl
      have r1' := r1 h19
      have r2 := r_isWord (K := K) (g := gr) hK hR hF
      simp only [f_M_term, hR.2.1.2.2, if_pos t1, f_M_named]
      rw [r1', jm_bI_some, if_pos rfl, r2, decide_eq_true ⟨t1, h2⟩, jm_bI_some, bI_ite, if_pos rfl, hR.2.1.1, b1, jm_bV_thr]
    · simp only [f_M_term, hR.2.1.2.2, t1, w2 2 (by simp), w2 3 (by simp), w2 4 (by simp), w2 5 (by simp), w2 14 (by simp), w2 15 (by simp), w2 16 (by simp), w2 18 (by simp), w2 20 (by simp), if_false, ite_self, hR.2.1.1]
      exact b1
end PM2

/-! PURE, 27: entries of objects, side by side. -/
theorem now_tok : ∀ k, k < 55 → ((k = 2 ∨ ¬ sg_word.getD k 0 = 0) ↔ tokS k = 1) := by decide +kernel
section PJ
variable {K : Nat} {gc gr : jm_Rec} {B : Nat → Fin 256} {n : Nat} {off : Nat → Int32} {N : List NE} {op pt s lo : Nat} {L : Nat × Nat × Nat} {c : Nat → Int32} {xC xR : jm_X}
theorem c_isNOW (h : SC B n L c N xC) (hl : L.2.2 < 55) : f_S_isNameOrWord K gc xC = rI (bI (decide (tokS L.2.2 = 1))) xC := by
  have h3 := h.2.1.2.2
  have hk := now_tok _ hl
  simp only [f_S_isNameOrWord, J_S_isNameOrWord_20, J_S_isNameOrWord_25, h3, cn_sgn hl, show jm_cn 1000 55 1002 = true by decide, if_true, Nat.add_sub_cancel_left]
  by_cases h2 : L.2.2 = 2
  · rw [if_pos (by omega), decide_eq_true (hk.mp (Or.inl h2))]; rfl
  · rw [if_neg (by omega)]
    by_cases hw : sg_word.getD L.2.2 0 = 0
    · rw [if_pos hw, decide_eq_false (fun z => (hk.mpr z).elim h2 (fun w => w hw))]; rfl
    · rw [if_neg hw, decide_eq_true (hk.mp (Or.inr hw))]; rfl
/-- a name or word that is taken as a key -/
theorem c_entryName (hK : 20000 ≤ K) (hL : LX B n L) (hC : SC B n L (cO c off) N xC) :
    (tokS L.2.2 = 1 → ∃ y, f_G_entryName K gc xC = rV y ∧ SC B n (lexB B n L.2.1) (cO (cnt c 7) off) N y) ∧ (tokS L.2.2 ≠ 1 → ∃ y, f_G_entryName K gc xC = some (.inr (UOE, y)) ∧ BrC B (nI L.1) y) := by
  have hF := hL.facts
  simp only [f_G_entryName, J_G_entryName_21, f_S_start]
  rw [c_isNOW hC hF.2.2.1, jm_bI_some, bI_ite]
  constructor
  · intro h
    obtain ⟨y, e, sy⟩ := c_takeAs (K := K) (g := gc) hK hC hF.2.1 (k := 7) (by omega) (a := 7) rfl
    rw [← cO_cnt] at sy
    exact ⟨y, by rw [if_pos (decide_eq_true h), e, jm_bV_some], sy⟩
  · intro h
    obtain ⟨y, e, hb⟩ := c_broken (K := K) (g := gc) hK hC (nI L.1)
    exact ⟨y, by rw [if_neg (by rw [decide_eq_false h]; exact Bool.false_ne_true), jm_bI_some, hC.2.1.1, e, jm_bV_thr], hb⟩
theorem s_entry (hK : 20000 ≤ K) (hp : PS B n gc gr lo) (hT : TS B n gc gr lo) (hlo : lo ≤ op) (ho : op ≤ 60) (hN : NOk n N) (hn : N.length ≤ 21 * op) (hL : LX B n L) (hC : SC B n L (cO c off) N xC) (hR : SR B n L c N op pt xR) :
    SimV B (Go B n off N op pt L.1) (f_G_entry K gc (nI op) xC) (f_M_entry K gr xR) := by
  have hF := hL.facts
  obtain ⟨y0, e0, s0⟩ := c_count (K := K) (g := gc) hC (k := 33) (by omega) (a := 33) rfl
  rw [← cO_cnt] at s0
  have t0 := r_cnt hR 33
  have u16 : tkU 16 12 := tkU.of (by decide)
  have u3 : tkU 3 4 := tkU.of (by decide)
  have u5 : tkU 5 6 := tkU.of (by decide)
  simp only [f_G_entry, f_M_entry]
  rw [e0, jm_bV_some, r_cnt_eq (k := 33) (a := 33) (by omega) rfl, c_is s0 hF.2.2.1 (k := 12) (by omega) rfl, jm_bI_some, c_is s0 hF.2.2.1 (k := 4) (by omega) rfl, jm_bI_some, c_is s0 hF.2.2.1 (k := 6) (by omega) rfl, jm_bI_some]
  simp only [J_M_entry_25, J_M_entry_39]
  rw [t0.2.1.2.2]
  by_cases h12 : L.2.2 = 12
  · have t1 : ¬ tokS L.2.2 = 1 := by rw [h12]; decide
    have t3 : ¬ tokS L.2.2 = 3 := by rw [h12]; decide
    have t5 : ¬ tokS L.2.2 = 5 := by rw [h12]; decide
    have t16 : tokS L.2.2 = 16 := by rw [h12]; decide
    simp only [decide_eq_true h12, decide_eq_false (show ¬ L.2.2 = 4 by omega), bI_ite, if_true, t1, t3, t5, t16, if_false, show ¬ ((1 : Int32) = 0) by decide]
    have key := s_group hK hp hlo ho hN hn hL h12 s0 t0
    rcases key with ⟨vC, zC, vR, zR, e4, e5, rfl, rfl, L2, c2, q1, q2, q3, q4⟩ | ⟨v, zC, zR, e4, e5, hb⟩
    · have e6 : ∀ (F : jm_X → Option jm_R), jm_bV (f_M_scan K gr (cR xR 33)) (fun x => jm_bV (gr 0 [.ref 0] x) (fun x => jm_bV (f_M_need_i K gr 17 x) (fun x => F x))) = F zR := by
        intro F
        have : jm_bV (f_M_scan K gr (cR xR 33)) (fun x => jm_bV (gr 0 [.ref 0] x) (fun x => jm_bV (f_M_need_i K gr 17 x) (fun x => F x))) = jm_bV (jm_bV (f_M_scan K gr (cR xR 33)) (fun x => jm_bV (gr 0 [.ref 0] x) (fun x => jm_bV (f_M_need_i K gr 17 x) (fun x => rV x)))) F := by
          simp only [jm_bV_assoc, jm_bV_some]
        rw [this, e5, jm_bV_some]
      rw [e4, jm_bV_some, e6]
      exact s_entryEnd hK hT hlo ho hN hn q1 q2 q3 q4 true false
    · have e6 : ∀ (F : jm_X → Option jm_R), jm_bV (f_M_scan K gr (cR xR 33)) (fun x => jm_bV (gr 0 [.ref 0] x) (fun x => jm_bV (f_M_need_i K gr 17 x) (fun x => F x))) = some (.inr (ISE, zR)) := by
        intro F
        have : jm_bV (f_M_scan K gr (cR xR 33)) (fun x => jm_bV (gr 0 [.ref 0] x) (fun x => jm_bV (f_M_need_i K gr 17 x) (fun x => F x))) = jm_bV (jm_bV (f_M_scan K gr (cR xR 33)) (fun x => jm_bV (gr 0 [.ref 0] x) (fun x => jm_bV (f_M_need_i K gr 17 x) (fun x => rV x)))) F := by
          simp only [jm_bV_assoc, jm_bV_some]
        rw [this, e5, jm_bV_thr]
      rw [e4, jm_bV_thr, e6]
      exact Or.inr ⟨v, zC, zR, rfl, rfl, hb⟩
  · have t16 : ¬ tokS L.2.2 = 16 := fun z => h12 ((u16 _ hF.2.2.1).mp z)
    simp only [decide_eq_false h12, bI_ite, if_false, Bool.false_eq_true, t16]
    by_cases h6 : L.2.2 = 6
    · have t1 : ¬ tokS L.2.2 = 1 := by rw [h6]; decide
      have t3 : ¬ tokS L.2.2 = 3 := by rw [h6]; decide
      have t5 : tokS L.2.2 = 5 := by rw [h6]; decide
      simp only [decide_eq_true h6, decide_eq_false (show ¬ L.2.2 = 4 by omega), if_true, t1, t3, t5, if_false]
      refine SimV.bind (s_string hK hp hlo ho hN hn hL h6 s0 t0) ?_
      rintro zC zR ⟨L2, c2, q1, q2, q3, q4⟩
      exact s_entryEnd hK hT hlo ho hN hn q1 q2 q3 q4 false false
    · have t5 : ¬ tokS L.2.2 = 5 := fun z => h6 ((u5 _ hF.2.2.1).mp z)
      simp only [decide_eq_false h6, if_false, Bool.false_eq_true, t5]
      by_cases h4 : L.2.2 = 4
      · have t1 : ¬ tokS L.2.2 = 1 := by rw [h4]; decide
        have t3 : tokS L.2.2 = 3 := by rw [h4]; decide
        simp only [decide_eq_true h4, if_true, t1, t3, if_false, show ¬ ((1 : Int32) = 0) by decide]
        rcases s_variable (K := K) (gc := gc) (gr := gr) hK hL h4 hN s0 t0 with ⟨v, zC, zR, e4, e5, hb⟩ | ⟨e4, zR, e5, s5⟩
        · rw [e4, e5, jm_bV_thr, jm_bV_thr]
          exact Or.inr ⟨v, zC, zR, rfl, rfl, hb⟩
        · obtain ⟨z1, e6, s6⟩ := c_takeAs (K := K) (g := gc) hK s0 hF.2.1 (k := 7) (by omega) (a := 7) rfl
          rw [← cO_cnt] at s6
          rw [e4, jm_bV_some, e6, jm_bV_some, e5, jm_bV_some, r_cnt_eq (k := 7) (a := 7) (by omega) rfl]
          exact s_entryEnd hK hT hlo ho hN hn hL.next (hL.gt (by omega) (by omega)) s6 (r_cnt s5 7) false true
      · have t3 : ¬ tokS L.2.2 = 3 := fun z => h4 ((u3 _ hF.2.2.1).mp z)
        simp only [decide_eq_false h4, if_false, Bool.false_eq_true, t3, if_true]
        obtain ⟨k1, k2⟩ := c_entryName (K := K) (gc := gc) hK hL s0
        by_cases t1 : tokS L.2.2 = 1
        · obtain ⟨z1, e6, s6⟩ := k1 t1
          have h0 : L.2.2 ≠ 0 := fun z => by rw [z] at t1; exact absurd t1 (by decide)
          have h1 : L.2.2 ≠ 1 := fun z => by rw [z] at t1; exact absurd t1 (by decide)
          obtain ⟨z2, e7, s7⟩ := r_scan (K := K) (g := gr) hK (r_cnt t0 7) hF.2.1 h0 h1
          rw [e6, jm_bV_some, if_pos t1, r_cnt_eq (k := 7) (a := 7) (by omega) rfl, e7, jm_bV_some]
          exact s_entryEnd hK hT hlo ho hN hn hL.next (hL.gt h0 h1) s6 s7 false false
        · obtain ⟨z1, e6, hb⟩ := k2 t1
          obtain ⟨g1, g2⟩ := r_bad (K := K) (g := gr) t0 (nI L.1)
          refine Sim.thr (v := nI L.1) ?_ ?_ hb g2
          · rw [e6, jm_bV_thr]
          · rw [if_neg t1, t0.2.1.1]; exact g1
end PJ

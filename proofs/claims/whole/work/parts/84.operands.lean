/-! PURE, 35: conditions and operands, side by side. -/
section PS2
variable {K : Nat} {gc gr : jm_Rec} {B : Nat → Fin 256} {n : Nat} {off : Nat → Int32} {N : List NE} {op pt s lo : Nat} {L : Nat × Nat × Nat} {c : Nat → Int32} {xC xR : jm_X}
/-- P then P -/
theorem s_branch (hK : 20000 ≤ K) (hP : PS B n gc gr lo) (hlo : lo ≤ op) (ho : op ≤ 60) (hN : NOk n N) (hn : N.length ≤ 21 * op) (hL : LX B n L) (hC : SC B n L (cO c off) N xC) (hR : SR B n L c N op pt xR)
    {Po : Option Value → jm_X → Option Value → jm_X → Prop} {kC kR : jm_X → Option jm_R} (h : op ≤ 59 → ∀ yC yR, Go B n off N op pt L.1 yC yR → Sim B Po (kC yC) (kR yR)) :
    Sim B Po (jm_bV (jm_bV (gc 0 [.ref 2, .int (nI op)] xC) (fun x2 => jm_bV (f_G_take K gc 1029 x2) (fun x3 => jm_bV (gc 0 [.ref 2, .int (nI op)] x3) (fun x4 => rV x4)))) kC) (jm_bV (gr 0 [.ref 0] xR) (fun x1 => jm_bV (f_M_need_s K gr 2016 x1) (fun x2 => jm_bV (gr 0 [.ref 0] x2) kR))) := by
  simp only [jm_bV_assoc, jm_bV_some]
  refine SimV.bind (hP off N op pt _ c xC xR hlo ho hN hn hL hC hR) ?_
  rintro yC yR ⟨h59, L1, c1, q1, q2, q3, q4⟩
  refine SimV.bind (s_takeW hK q1 q3 q4 (j := 16) (by omega) (by omega) rfl rfl) ?_
  rintro zC zR ⟨p1, -, p3, p4⟩
  refine SimV.bind (hP off N op pt _ c1 zC zR hlo ho hN hn q1.next p3 p4) ?_
  rintro wC wR ⟨-, hg⟩
  exact h h59 wC wR (hg.mono (by omega))
theorem s_condEnd (hK : 20000 ≤ K) {d : Nat} (hL : LX B n L) (hs : s ≤ L.1) (hC : SC B n L (cO c off) N xC) (hR : SR B n L c N (op + d) pt xR) : SimV B (Go B n off N op pt s) (J_G_condition_62 K gc xC) (J_M_condition_73 K gr (nI d) xR) := by
  simp only [J_G_condition_62, J_M_condition_73, jm_then]
  refine SimV.bind (s_takeW hK hL hC hR (j := 10) (by omega) (by omega) rfl rfl) ?_
  rintro wC wR ⟨p1, -, p3, p4⟩
  exact SimV.ok ⟨_, c, hL.next, by omega, p3, p4.setOp (by rw [p4.2.2.2.2.1.1, pu_sub (by omega), Nat.add_sub_cancel])⟩
theorem s_cond_L (hK : 20000 ≤ K) (hP : PS B n gc gr lo) (hlo : lo ≤ op) (hN : NOk n N) (hn : N.length ≤ 21 * op) (hn4 : n ≤ 16384) : ∀ (f f' d : Nat) (L : Nat × Nat × Nat) (c : Nat → Int32) (xC xR : jm_X), op + d ≤ 59 → n - L.1 < f → n - L.1 < f' → s ≤ L.1 → LX B n L → SC B n L (cO c off) N xC → SR B n L c N (op + d) pt xR →
    SimV B (Go B n off N op pt s) (L_G_condition_9 K gc f (nI (op + d)) (nI d) xC) (L_M_condition_16 K gr f' (nI d) xR)
  | 0, f', d, L, c, xC, xR, _, hf, _, _, _, _, _ => absurd hf (Nat.not_lt_zero _)
  | f + 1, 0, d, L, c, xC, xR, _, _, hf, _, _, _, _ => absurd hf (Nat.not_lt_zero _)
  | f + 1, f' + 1, d, L, c, xC, xR, hd, hf, hf', hs, hL, hC, hR => by
    have hF := hL.facts
    have hLn : L.1 ≤ n := Nat.le_trans hF.1 hF.2.1
    obtain ⟨r1, r2⟩ := r_skip_s (K := K) (g := gr) hK hR hF (j := 8) (by omega) (by omega) (a := 2008) rfl
    simp only [L_G_condition_9, B_G_condition_9, L_M_condition_16, B_M_condition_16]
    rw [show (60 : Int32) = nI 60 from rfl, if_neg (nI_ge (by omega) (by omega)), c_is hC hF.2.2.1 (k := 22) (by omega) rfl, jm_bI_some, bI_ite]
    by_cases hz : L.2.2 = 22
    · obtain ⟨y2, e2, t2⟩ := r1 hz
      have hgt := hL.gt (by omega) (by omega)
      obtain ⟨o1, -⟩ := c_opened (K := K) (gc := gc) hK hC (q := op + d + 1) (by omega)
      obtain ⟨y3, e3, s3⟩ := c_takeAs (K := K) (g := gc) hK hC hF.2.1 (k := 25) (by omega) (a := 25) rfl
      rw [← cO_cnt] at s3
      obtain ⟨-, n2⟩ := r_enter (K := K) (g := gr) (r_cnt t2 25) (by omega)
      obtain ⟨y4, e4, t4⟩ := n2 (by omega)
      rw [decide_eq_true hz, if_pos rfl, e2, jm_bI_some, if_neg (show ¬ ((1 : Int32) = 0) by decide), nI_1, o1 (by omega), jm_bI_some, r_cnt_eq (k := 25) (a := 25) (by omega) rfl, e4, jm_bV_some]
      simp only [f_G_branch]
      rw [e3, jm_bV_some]
      refine s_branch (op := op + d + 1) hK hP (by omega) (by omega) hN (by omega) hL.next s3 t4 ?_
      rintro h59 zC zR ⟨L2, c2, q1, q2, q3, q4⟩
      have hn2 : L2.1 ≤ n := Nat.le_trans q1.facts.1 q1.facts.2.1
      rw [nI_1, show op + d + 1 = op + (d + 1) from rfl]
      exact s_cond_L hK hP hlo hN hn hn4 f f' (d + 1) L2 c2 zC zR (by omega) (by omega) (by omega) (by omega) q1 q3 q4
    · rw [decide_eq_false hz, if_neg Bool.false_ne_true, r2 hz, jm_bI_some, if_pos rfl]
      obtain ⟨k1, k2⟩ := c_takes (K := K) (g := gc) hK hC hF.2.2.1 hF.2.1 (k := 23) (by omega) (a := 1023) rfl
      obtain ⟨r3, r4⟩ := r_skip_s (K := K) (g := gr) hK hR hF (j := 9) (by omega) (by omega) (a := 2009) rfl
      simp only [J_G_condition_47]
      by_cases hy : L.2.2 = 23
      · obtain ⟨y1, e1, s1⟩ := k1 hy
        obtain ⟨y2, e2, s2⟩ := r3 hy
        have hgt := hL.gt (by omega) (by omega)
        rw [e1, e2, jm_bI_some, jm_bI_some, if_neg (show ¬ ((1 : Int32) = 0) by decide), if_neg (show ¬ ((1 : Int32) = 0) by decide)]
        refine SimV.bind (hP off N (op + d) pt _ c y1 y2 (by omega) (by omega) hN (by omega) hL.next s1 s2) ?_
        rintro zC zR ⟨-, L2, c2, q1, q2, q3, q4⟩
        exact s_condEnd hK q1 (by omega) q3 q4
      · rw [k2 hy, r4 hy, jm_bI_some, jm_bI_some, if_pos rfl, if_pos rfl]
        exact s_condEnd hK hL hs hC hR
/-- if, from behind it on the reference's side -/
theorem s_condition (hK : 20000 ≤ K) (hP : PS B n gc gr lo) (hlo : lo ≤ op) (ho : op ≤ 60) (hN : NOk n N) (hn : N.length ≤ 21 * op) (hL : LX B n L) (h26 : L.2.2 = 26) (hC : SC B n L (cO c off) N xC) {yR : jm_X} (hR : SR B n (lexB B n L.2.1) c N op pt yR) :
    SimV B (Go B n off N op pt L.1) (f_G_condition K gc (nI op) xC) (f_M_condition K gr (cR yR 25)) := by
  have hF := hL.facts
  have hn4 := hC.1.2.2.2
  have hgt := hL.gt (by omega) (by omega)
  obtain ⟨y3, e3, s3⟩ := c_takeAs (K := K) (g := gc) hK hC hF.2.1 (k := 25) (by omega) (a := 25) rfl
  rw [← cO_cnt] at s3
  simp only [f_G_condition, f_M_condition, f_G_branch]
  rw [e3, jm_bV_some]
  refine s_branch hK hP hlo ho hN hn hL.next s3 (r_cnt hR 25) ?_
  rintro h59 zC zR ⟨L2, c2, q1, q2, q3, q4⟩
  have hn2 : L2.1 ≤ n := Nat.le_trans q1.facts.1 q1.facts.2.1
  have key := s_cond_L (op := op) (pt := pt) (s := L.1) hK hP hlo hN hn hn4 K K 0 L2 c2 zC zR (by omega) (by omega) (by omega) (by omega) q1 q3 q4
  rw [nI_0, Nat.add_zero] at key
  exact key
theorem wd_elseB : ∀ k : Fin 55, (([51, 28, 25, 26, 30] : List Nat).contains k.val || (([1, 2, 3, 4, 5] : List Int32).all (fun t => sg_swm.getD k.val 0 != t) && (tokS k.val != 12))) = true := by decide +kernel
theorem wd_else {k : Nat} (hk : k < 55) (h51 : k ≠ 51) (h28 : k ≠ 28) (h25 : k ≠ 25) (h26 : k ≠ 26) (h30 : k ≠ 30) : (¬ sg_swm.getD k 0 = 1 ∧ ¬ sg_swm.getD k 0 = 2 ∧ ¬ sg_swm.getD k 0 = 3 ∧ ¬ sg_swm.getD k 0 = 4 ∧ ¬ sg_swm.getD k 0 = 5) ∧ ¬ tokS k = 12 := by
  have h := wd_elseB ⟨k, hk⟩
  have hc : ([51, 28, 25, 26, 30] : List Nat).contains k = false := by
    simp [h51, h28, h25, h26, h30]
  simp only [hc, Bool.false_or, Bool.and_eq_true, bne_iff_ne, ne_eq] at h
  have h1 := List.all_eq_true.mp h.1
  have g : ∀ t ∈ ([1, 2, 3, 4, 5] : List Int32), ¬ sg_swm.getD k 0 = t := by
    intro t ht
    have := h1 t ht
    simpa using this
  exact ⟨⟨g 1 (by simp), g 2 (by simp), g 3 (by simp), g 4 (by simp), g 5 (by simp)⟩, h.2⟩
theorem s_operand (hK : 20000 ≤ K) (hP : PS B n gc gr lo) (hq : QS B n gc gr lo) (hT : TF K B n gc gr op) (hlo : lo ≤ op) (ho : op ≤ 60) (hN : NOk n N) (hn : N.length + 21 ≤ 21 * op) (hL : LX B n L) (hC : SC B n L (cO c off) N xC) (hR : SR B n L c N op pt xR) :
    SimV B (Go B n off N op pt L.1) (f_G_operand K gc (nI op) xC) (f_M_part K gr xR) := by
  have hF := hL.facts
  have hl := hF.2.2.1
  have fin : ∀ yC yR, Go B n off N op pt L.1 yC yR → SimV B (Go B n off N op pt L.1) (J_G_operand_161 K gc yC) (J_M_part_171 K gr yR) := fun yC yR h => SimV.ok h
  have i15 := r_is (K := K) (g := gr) hK hR hF (j := 15) (by omega) (by omega) (a := 2015) rfl
  have i11 := r_is (K := K) (g := gr) hK hR hF (j := 11) (by omega) (by omega) (a := 2011) rfl
  obtain ⟨i12, j12⟩ := r_skip_s (K := K) (g := gr) hK hR hF (j := 12) (by omega) (by omega) (a := 2012) rfl
  obtain ⟨i17, j17⟩ := r_skip_s (K := K) (g := gr) hK hR hF (j := 17) (by omega) (by omega) (a := 2017) rfl
  have o15 : ordW 15 = 28 := by decide
  have o11 : ordW 11 = 25 := by decide
  have o12 : ordW 12 = 26 := by decide
  have o17 : ordW 17 = 30 := by decide
  rw [o15] at i15; rw [o11] at i11; rw [o12] at i12 j12; rw [o17] at i17 j17
  simp only [f_G_operand]
  rw [c_switch hC hl (fun b x3 => (if b = 1 then jm_bV (f_G_takeAs K gc 22 x3) (fun x5 => jm_bV (f_G_term K gc (nI op) x5) (fun x6 => J_G_operand_161 K gc x6)) else (if b = 2 then jm_bV (f_G_takeAs K gc 23 x3) (fun x7 => jm_bV (f_G_term K gc (nI op) x7) (fun x8 => jm_bV (f_G_fold K gc (nI op) 0 x8) (fun x9 => J_G_operand_161 K gc x9))) else (if b = 3 then jm_bV (f_G_takeAs K gc 24 x3) (fun x10 => jm_bV (f_G_term K gc (nI op) x10) (fun x11 => jm_bV (f_G_fold K gc (nI op) 1 x11) (fun x12 => J_G_operand_161 K gc x12))) else (if b = 4 then jm_bV (f_G_condition K gc (nI op) x3) (fun x13 => J_G_operand_161 K gc x13) else (if b = 5 then jm_bV (f_G_takeAs K gc 5 x3) (fun x14 => jm_bV (f_G_term K gc (nI op) x14) (fun x15 => jm_bI (f_G_takes K gc 1020 x15) (fun b17 x16 => (if b17 = 0 then J_G_operand_161 K gc x16 else jm_bV (f_G_term K gc (nI op) x16) (fun x18 => J_G_operand_161 K gc x18))))) else jm_bV (f_G_term K gc (nI op) x3) (fun x19 => jm_bI (f_S_is K gc 1018 x19) (fun b21 x20 => (if b21 = 0 then J_G_operand_161 K gc x20 else jm_bV (f_G_bind K gc (nI op) x20) (fun x22 => J_G_operand_161 K gc x22))))))))))]
  by_cases h51 : L.2.2 = 51
  · have e : sg_swm.getD L.2.2 0 = 1 := by rw [h51]; decide
    have t : tokS L.2.2 = 12 := by rw [h51]; decide
    have hgt := hL.gt (by omega) (by omega)
    obtain ⟨y1, y2, e1, e2, s1, s2⟩ := s_takeAs (K := K) (gc := gc) (gr := gr) hK hL (by omega) (by omega) hC hR (k := 22) (by omega) (a := 22) rfl
    simp only [f_M_part, hR.2.1.2.2, t, if_true]
    rw [if_pos e, r_cnt_eq (k := 22) (a := 22) (by omega) rfl, e1, e2, jm_bV_some, jm_bV_some]
    refine SimV.bind (hT off N pt _ _ y1 y2 hN (by omega) hL.next s1 s2) ?_
    intro zC zR hz
    exact fin _ _ (hz.mono (by omega))
  by_cases h28 : L.2.2 = 28
  · have e : sg_swm.getD L.2.2 0 = 2 := by rw [h28]; decide
    have t : ¬ tokS L.2.2 = 12 := by rw [h28]; decide
    have hgt := hL.gt (by omega) (by omega)
    obtain ⟨y1, y2, e1, e2, s1, s2⟩ := s_takeAs (K := K) (gc := gc) (gr := gr) hK hL (by omega) (by omega) hC hR (k := 23) (by omega) (a := 23) rfl
    rw [show decide (L.2.2 = 28) = true from decide_eq_true h28] at i15
    rw [show decide (L.2.2 = 25) = false from decide_eq_false (by omega)] at i11
    simp only [f_M_part, hR.2.1.2.2, t, if_false, J_M_part_49, f_M_folded, J_M_folded_22]
    rw [if_neg (by rw [e]; decide), if_pos e, i15, jm_bI_some, if_neg (show ¬ (bI true = 0) by decide), i11, jm_bI_some, if_pos (show bI false = 0 from rfl), r_cnt_eq (k := 23) (a := 23) (by omega) rfl, e1, e2, jm_bV_some, jm_bV_some, jm_bV_assoc]
    refine SimV.bind (hT off N pt _ _ y1 y2 hN (by omega) hL.next s1 s2) ?_
    rintro zC zR ⟨L2, c2, q1, q2, q3, q4⟩
    refine SimV.bind (s_fold hK hP hq hlo ho hN hn q1 q3 q4 false) ?_
    intro wC wR hw
    exact fin _ _ (hw.mono (by omega))
  by_cases h25 : L.2.2 = 25
  · have e : sg_swm.getD L.2.2 0 = 3 := by rw [h25]; decide
    have t : ¬ tokS L.2.2 = 12 := by rw [h25]; decide
    have hgt := hL.gt (by omega) (by omega)
    obtain ⟨y1, y2, e1, e2, s1, s2⟩ := s_takeAs (K := K) (gc := gc) (gr := gr) hK hL (by omega) (by omega) hC hR (k := 24) (by omega) (a := 24) rfl
    rw [show decide (L.2.2 = 28) = false from decide_eq_false (by omega)] at i15
    rw [show decide (L.2.2 = 25) = true from decide_eq_true h25] at i11
    simp only [f_M_part, hR.2.1.2.2, t, if_false, J_M_part_49, f_M_folded, J_M_folded_22]
    rw [if_neg (by rw [e]; decide), if_neg (by rw [e]; decide), if_pos e, i15, jm_bI_some, if_pos (show bI false = 0 from rfl), i11, jm_bI_some, if_neg (show ¬ (bI true = 0) by decide), i11, jm_bI_some, if_neg (show ¬ (bI true = 0) by decide), r_cnt_eq (k := 24) (a := 24) (by omega) rfl, e1, e2, jm_bV_some, jm_bV_some, jm_bV_assoc]
    refine SimV.bind (hT off N pt _ _ y1 y2 hN (by omega) hL.next s1 s2) ?_
    rintro zC zR ⟨L2, c2, q1, q2, q3, q4⟩
    refine SimV.bind (s_fold hK hP hq hlo ho hN hn q1 q3 q4 true) ?_
    intro wC wR hw
    exact fin _ _ (hw.mono (by omega))
  rw [show decide (L.2.2 = 28) = false from decide_eq_false h28] at i15
  rw [show decide (L.2.2 = 25) = false from decide_eq_false h25] at i11
  by_cases h26 : L.2.2 = 26
  · have e : sg_swm.getD L.2.2 0 = 4 := by rw [h26]; decide
    have t : ¬ tokS L.2.2 = 12 := by rw [h26]; decide
    obtain ⟨y2, e2, t2⟩ := i12 h26
    simp only [f_M_part, hR.2.1.2.2, t, if_false]
    rw [if_neg (by rw [e]; decide), if_neg (by rw [e]; decide), if_neg (by rw [e]; decide), if_pos e, i15, jm_bI_some, if_pos (show bI false = 0 from rfl), i11, jm_bI_some, if_pos (show bI false = 0 from rfl), e2, jm_bI_some, if_neg (show ¬ ((1 : Int32) = 0) by decide), r_cnt_eq (k := 25) (a := 25) (by omega) rfl]
    exact SimV.bind (s_condition hK hP hlo ho hN (by omega) hL h26 hC t2) fin
  by_cases h30 : L.2.2 = 30
  · have e : sg_swm.getD L.2.2 0 = 5 := by rw [h30]; decide
    have t : ¬ tokS L.2.2 = 12 := by rw [h30]; decide
    have hgt := hL.gt (by omega) (by omega)
    obtain ⟨y2, e2, t2⟩ := i17 h30
    obtain ⟨y1, e1, s1⟩ := c_takeAs (K := K) (g := gc) hK hC hF.2.1 (k := 5) (by omega) (a := 5) rfl
    rw [← cO_cnt] at s1
    simp only [f_M_part, hR.2.1.2.2, t, if_false]
    rw [if_neg (by rw [e]; decide), if_neg (by rw [e]; decide), if_neg (by rw [e]; decide), if_neg (by rw [e]; decide), if_pos e, i15, jm_bI_some, if_pos (show bI false = 0 from rfl), i11, jm_bI_some, if_pos (show bI false = 0 from rfl), j12 h26, jm_bI_some, if_pos rfl, e2, jm_bI_some, if_neg (show ¬ ((1 : Int32) = 0) by decide), r_cnt_eq (k := 5) (a := 5) (by omega) rfl, e1, jm_bV_some]
    refine SimV.bind (hT off N pt _ _ y1 (cR y2 5) hN (by omega) hL.next s1 (r_cnt t2 5)) ?_
    rintro zC zR ⟨L2, c2, q1, q2, q3, q4⟩
    have hF2 := q1.facts
    obtain ⟨k1, k2⟩ := c_takes (K := K) (g := gc) hK q3 hF2.2.2.1 hF2.2.1 (k := 20) (by omega) (a := 1020) rfl
    obtain ⟨r3, r4⟩ := r_skip_s (K := K) (g := gr) hK q4 hF2 (j := 6) (by omega) (by omega) (a := 2006) rfl
    by_cases hy : L2.2.2 = 20
    · obtain ⟨y5, e5, s5⟩ := k1 hy
      obtain ⟨y6, e6, s6⟩ := r3 hy
      have hgt2 := q1.gt (by omega) (by omega)
      rw [e5, e6, jm_bI_some, jm_bI_some, if_neg (show ¬ ((1 : Int32) = 0) by decide), if_neg (show ¬ ((1 : Int32) = 0) by decide)]
      refine SimV.bind (hT off N pt _ _ y5 y6 hN (by omega) q1.next s5 s6) ?_
      intro wC wR hw
      exact fin _ _ (hw.mono (by omega))
    · rw [k2 hy, r4 hy, jm_bI_some, jm_bI_some, if_pos rfl, if_pos rfl]
      exact fin _ _ ⟨L2, c2, q1, by omega, q3, q4⟩
  obtain ⟨⟨w1, w2, w3, w4, w5⟩, wt⟩ := wd_else hl h51 h28 h25 h26 h30
  simp only [f_M_part, hR.2.1.2.2, wt, if_false]
  rw [if_neg w1, if_neg w2, if_neg w3, if_neg w4, if_neg w5, i15, jm_bI_some, if_pos (show bI false = 0 from rfl), i11, jm_bI_some, if_pos (show bI false = 0 from rfl), j12 h26, jm_bI_some, if_pos rfl, j17 h30, jm_bI_some, if_pos rfl]
  refine SimV.bind (hT off N pt _ _ xC xR hN (by omega) hL hC hR) ?_
  rintro zC zR ⟨L2, c2, q1, q2, q3, q4⟩
  have hF2 := q1.facts
  obtain ⟨r3, r4⟩ := r_skip_s (K := K) (g := gr) hK q4 hF2 (j := 4) (by omega) (by omega) (a := 2004) rfl
  rw [c_is q3 hF2.2.2.1 (k := 18) (by omega) rfl, jm_bI_some, bI_ite]
  by_cases hy : L2.2.2 = 18
  · obtain ⟨y6, e6, s6⟩ := r3 hy
    rw [decide_eq_true hy, if_pos rfl, e6, jm_bI_some, if_neg (show ¬ ((1 : Int32) = 0) by decide), r_cnt_eq (k := 26) (a := 26) (by omega) rfl]
    have key := SimV.bind (s_bind hK hP hq hlo ho hN hn q1 hy q3 s6) (fun yC yR h => fin yC yR (h.mono (Nat.le_of_lt q2)))
    simp only [jm_bV_assoc, jm_bV_some] at key
    simp only [jm_then]
    exact key
  · rw [decide_eq_false hy, if_neg Bool.false_ne_true, r4 hy, jm_bI_some, if_pos rfl]
    exact fin _ _ ⟨L2, c2, q1, by omega, q3, q4⟩
end PS2

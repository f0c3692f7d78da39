/-! PURE, 29: TERMs, side by side. -/
theorem swm_elseF : ∀ k : Fin 55, (([7, 3, 8, 5, 6, 12, 14, 16, 2, 19, 4] : List Nat).contains k.val || (decide (sg_swm.getD k.val 0 ≤ 5) && ([2, 3, 4, 5, 14, 15, 16, 18, 20] : List Int32).all (fun t => tokS k.val != t))) = true := by decide +kernel
theorem swm_else {k : Nat} (hk : k < 55) (h : ([7, 3, 8, 5, 6, 12, 14, 16, 2, 19, 4] : List Nat).contains k = false) : sg_swm.getD k 0 ≤ 5 ∧ ∀ t ∈ ([2, 3, 4, 5, 14, 15, 16, 18, 20] : List Int32), tokS k ≠ t := by
  have h1 := swm_elseF ⟨k, hk⟩
  simp only [h, Bool.false_or, Bool.and_eq_true, decide_eq_true_eq] at h1
  refine ⟨h1.1, fun t ht => ?_⟩
  have := List.all_eq_true.mp h1.2 t ht
  simpa using this
section PL2
variable {K : Nat} {gc gr : jm_Rec} {B : Nat → Fin 256} {n : Nat} {off : Nat → Int32} {N : List NE} {op pt s lo : Nat} {L : Nat × Nat × Nat} {c : Nat → Int32} {xC xR : jm_X}
/-- the sign as the switches see it -/
theorem c_switch (hC : SC B n L c N xC) (hl : L.2.2 < 55) (F : Int32 → jm_X → Option jm_R) : jm_bA (f_S_sign K gc xC) (fun b2 x1 => (if jm_cn 1000 55 b2 then jm_bI (f_JE_ordinal K gc b2 x1) (fun b4 x3 => (if jm_cn 901 1 901 then (if jm_ix 55 b4 then F (sg_swm.getD (Int32.toNatClampNeg b4) 0) x3 else none) else none)) else none)) = F (sg_swm.getD L.2.2 0) xC := by
  simp only [f_S_sign, f_JE_ordinal, hC.2.1.2.2]
  rw [jm_bA_some, if_pos (cn_sgn hl), if_pos (cn_sgn hl), jm_bI_some, Nat.add_sub_cancel_left, if_pos (by decide), show Int32.ofNat L.2.2 = nI L.2.2 from rfl, if_pos (pu_ix hl (by omega)), nI_clamp (by omega)]
theorem s_tail (hK : 20000 ≤ K) (hp : PS B n gc gr lo) (hlo : lo ≤ op) (ho : op ≤ 60) (hN : NOk n N) (hn : N.length ≤ 21 * op) (hn4 : n ≤ 16384) {yC yR : jm_X} (h : Go B n off N op pt s yC yR) : SimV B (Go B n off N op pt s) (J_G_term_205 K gc (nI op) yC) (L_M_term_295 K gr K yR) := by
  obtain ⟨L1, c1, q1, q2, q3, q4⟩ := h
  have hn1 : L1.1 ≤ n := Nat.le_trans q1.facts.1 q1.facts.2.1
  simp only [J_G_term_205]
  rw [← nI_0]
  exact s_behind hK hp hlo ho hN hn hn4 K 0 K L1 c1 yC yR (by omega) (by omega) (by omega) (by omega) q1 q3 q4
theorem s_array (hK : 20000 ≤ K) (hp : PS B n gc gr lo) (hlo : lo ≤ op) (ho : op ≤ 60) (hN : NOk n N) (hn : N.length ≤ 21 * op) (hL : LX B n L) (h14 : L.2.2 = 14) (hC : SC B n L (cO c off) N xC) (hR : SR B n L c N op pt xR) :
    SimV B (Go B n off N op pt L.1) (jm_bV (f_G_array K gc (nI op) xC) (fun x => J_G_term_205 K gc (nI op) x)) (jm_bV (f_M_scan K gr (cR xR 9)) (fun x37 => (if (x37.1 11) = 19 then J_M_term_245 K gr x37 else jm_bV (gr 0 [.ref 0] x37) (fun x38 => J_M_term_245 K gr x38)))) := by
  have hF := hL.facts
  have hn4 := hC.1.2.2.2
  have hL1 := hL.next
  have hF1 := hL1.facts
  have hgt := hL.gt (by omega) (by omega)
  have u19 : tkU 19 15 := tkU.of (by decide)
  obtain ⟨y1, y2, e1, e2, s1, s2⟩ := s_takeAs (K := K) (gc := gc) (gr := gr) hK hL (by omega) (by omega) hC hR (k := 9) (by omega) (a := 9) rfl
  have close : ∀ (L1 : Nat × Nat × Nat) (c1 : Nat → Int32) (zC zR : jm_X), LX B n L1 → L.1 < L1.1 → SC B n L1 (cO c1 off) N zC → SR B n L1 c1 N op pt zR → SimV B (Go B n off N op pt L.1) (jm_bV (J_G_array_24 K gc zC) (fun x => J_G_term_205 K gc (nI op) x)) (J_M_term_245 K gr zR) := by
    intro L1 c1 zC zR q1 q2 q3 q4
    simp only [J_G_array_24, J_M_term_245, jm_bV_assoc, jm_bV_some]
    refine SimV.bind (s_take hK q1 q3 q4 (k := 15) (by omega) (by omega) rfl (b := 19) (by decide)) ?_
    rintro wC wR ⟨p1, -, p3, p4⟩
    exact s_tail hK hp hlo ho hN hn hn4 ⟨_, c1, q1.next, by omega, p3, p4⟩
  simp only [f_G_array]
  rw [e1, jm_bV_some, e2, jm_bV_some, c_is s1 hF1.2.2.1 (k := 15) (by omega) rfl, jm_bI_some, bI_ite, s2.2.1.2.2]
  by_cases hz : (lexB B n L.2.1).2.2 = 15
  · rw [if_pos (decide_eq_true hz), if_pos ((u19 _ hF1.2.2.1).mpr hz)]
    exact close _ _ y1 y2 hL1 hgt s1 s2
  · rw [if_neg (by rw [decide_eq_false hz]; exact Bool.false_ne_true), if_neg (fun z => hz ((u19 _ hF1.2.2.1).mp z)), jm_bV_assoc]
    refine SimV.bind (hp off N op pt _ _ y1 y2 hlo ho hN hn hL1 s1 s2) ?_
    rintro zC zR ⟨-, L2, c2, q1, q2, q3, q4⟩
    exact close L2 c2 zC zR q1 (by omega) q3 q4
end PL2

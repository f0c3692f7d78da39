/-! PURE, 31: the $NAMES of patterns. -/
section PN2
variable {K : Nat} {gc gr : jm_Rec} {B : Nat → Fin 256} {n : Nat} {off : Nat → Int32} {N : List NE} {op pt s lo : Nat} {L : Nat × Nat × Nat} {c : Nat → Int32} {xC xR : jm_X}
theorem r_another (h : SR B n L c N op pt xR) (hp : pt ≤ 10) :
    (pt = 10 → ∃ x', f_M_another K gr xR = some (.inr (ISE, x')) ∧ BrR B (nI L.1) x') ∧ (pt ≠ 10 → ∃ x', f_M_another K gr xR = rV x' ∧ SR B n L c N op (pt + 1) x') := by
  constructor
  · intro hz
    obtain ⟨b1, b2⟩ := r_bad (K := K) (g := gr) h (nI L.1)
    refine ⟨_, ?_, b2⟩
    simp only [f_M_another, h.2.2.2.2.1.2, h.2.1.1]
    rw [if_pos (by rw [hz]; rfl)]; exact b1
  · intro hz
    refine ⟨_, ?_, h.setPt (q := pt + 1) rfl⟩
    simp only [f_M_another, h.2.2.2.2.1.2, jm_then]
    rw [show (10 : Int32) = nI 10 from rfl, if_neg (fun z => hz ((nI_eq (by omega) (by omega)).mp z)), nI_1]
theorem c_patternName (hK : 20000 ≤ K) (hL : LX B n L) (h4 : L.2.2 = 4) (hN : N.length < 1400) (hC : SC B n L c N xC) {q : Nat} (hq : q ≤ 10) :
    (q ≠ 10 → ∃ y, f_G_patternName K gc (nI q) xC = rI (nI (q + 1)) y ∧ SC B n (lexB B n L.2.1) c (N ++ [(2, L.1 + 1, L.2.1 - (L.1 + 1), 0)]) y) ∧ (q = 10 → ∃ y, f_G_patternName K gc (nI q) xC = some (.inr (UOE, y)) ∧ BrC B (nI L.1) y) := by
  have hF := hL.facts
  have hlt := hF.2.2.2.1 (by omega) (by omega)
  have e0 : nmS L = L.1 + 1 := by rw [nmS, if_pos (Or.inl h4)]
  simp only [f_G_patternName, J_G_patternName_17, f_S_start]
  rw [show (10 : Int32) = nI 10 from rfl]
  constructor
  · intro hz
    obtain ⟨y1, e1, s1⟩ := c_learn (K := K) (g := gc) hC hF hN (a := 2) (by omega) (s := -2) rfl
    obtain ⟨y2, e2, s2⟩ := c_next (K := K) (g := gc) hK s1 hF.2.1
    rw [e0] at s2
    refine ⟨y2, ?_, s2⟩
    rw [if_pos (nI_lt (by omega) (by omega)), e1, jm_bV_some, e2, jm_bV_some, nI_1]
  · intro hz
    obtain ⟨y, e, hb⟩ := c_broken (K := K) (g := gc) hK hC (nI L.1)
    refine ⟨y, ?_, hb⟩
    rw [if_neg (nI_nlt (by omega) (by omega)), jm_bI_some, hC.2.1.1, e, jm_bV_thr]
/-- the reference learns a sign's variable -/
theorem r_knowV (hL : LX B n L) (h4 : L.2.2 = 4) (hN : N.length < 1400) (hR : SR B n L c N op pt xR) : ∃ y, f_M_know K gr 2 ((xR.1 9) + 1) (((xR.1 10) - (xR.1 9)) - 1) 0 0 xR = rV y ∧ SR B n L c (N ++ [(2, L.1 + 1, L.2.1 - (L.1 + 1), 0)]) op pt y := by
  have hF := hL.facts
  have hlt := hF.2.2.2.1 (by omega) (by omega)
  refine r_know hR hN (a := 2) (by omega) rfl ?_ ?_ rfl rfl
  · rw [hR.2.1.1, nI_1]
  · rw [hR.2.1.1, hR.2.1.2.1 (by omega) (by omega), pu_sub (by omega), show (1 : Int32) = nI 1 from rfl, pu_sub (by omega), Nat.sub_sub]
end PN2

/-! PURE, 24: variables and labels that are asked for, side by side. -/
section PF
variable {K : Nat} {gc gr : jm_Rec} {B : Nat → Fin 256} {n : Nat} {L : Nat × Nat × Nat} {c off : Nat → Int32} {N : List NE} {op pt s lo : Nat} {xC xR : jm_X}
theorem c_needKnown (hK : 20000 ≤ K) (hL : LX B n L) (h4 : L.2.2 = 4) (hN : NOk n N) (hC : SC B n L c N xC) {a : Nat} (ha : a < 5) {v : Int32} (hv : v = sC a) :
    (hsN B N a (L.1 + 1) (L.2.1 - (L.1 + 1)) N.length = true → f_G_needKnown K gc v xC = rV xC) ∧ (hsN B N a (L.1 + 1) (L.2.1 - (L.1 + 1)) N.length = false → ∃ x', f_G_needKnown K gc v xC = some (.inr (UOE, x')) ∧ BrC B (nI L.1) x') := by
  have hF := hL.facts
  have hlt := hF.2.2.2.1 (by omega) (by omega)
  have e0 : nmS L = L.1 + 1 := by rw [nmS, if_pos (Or.inl h4)]
  simp only [f_G_needKnown, J_G_needKnown_36, f_S_behind, f_S_start]
  rw [c_nameStart hC hF.2.2.1, jm_bI_some, jm_bI_some, hC.2.1.2.1, e0, c_has hK hC hN ha (by omega) hF.2.1 hv, jm_bI_some, bI_ite]
  constructor
  · intro h; rw [h, if_pos rfl]
  · intro h
    obtain ⟨x', e, hb⟩ := c_broken (K := K) (g := gc) hK hC (nI L.1)
    refine ⟨x', ?_, hb⟩
    rw [h, if_neg Bool.false_ne_true, jm_bI_some, hC.2.1.1, e, jm_bV_thr]
theorem r_hasV (hK : 20000 ≤ K) (hL : LX B n L) (h4 : L.2.2 = 4) (hN : NOk n N) (hR : SR B n L c N op pt xR) {a : Nat} {w : Int32} (hw : ∀ b, b < 5 → ((wR b = w ∧ lR b = 0) ↔ b = a)) :
    f_M_has K gr w ((xR.1 9) + 1) (((xR.1 10) - (xR.1 9)) - 1) xR = rI (bI (hsN B N a (L.1 + 1) (L.2.1 - (L.1 + 1)) N.length)) xR := by
  have hF := hL.facts
  have hlt := hF.2.2.2.1 (by omega) (by omega)
  have hb := hF.2.1
  rw [hR.2.1.1, hR.2.1.2.1 (by omega) (by omega), nI_1, pu_sub (by omega), show nI (L.2.1 - L.1) - 1 = nI (L.2.1 - (L.1 + 1)) from by rw [show (1 : Int32) = nI 1 from rfl, pu_sub (by omega), Nat.sub_sub]]
  exact r_has hK hR hN hw (by omega)
/-- a variable that is asked for: broken, or read -/
theorem s_variable (hK : 20000 ≤ K) (hL : LX B n L) (h4 : L.2.2 = 4) (hN : NOk n N) (hC : SC B n L (cO c off) N xC) (hR : SR B n L c N op pt xR) :
    (∃ v yC yR, f_G_needKnown K gc (-2) xC = some (.inr (UOE, yC)) ∧ f_M_variable K gr xR = some (.inr (ISE, yR)) ∧ BrC B v yC ∧ BrR B v yR) ∨
    (f_G_needKnown K gc (-2) xC = rV xC ∧ ∃ yR, f_M_variable K gr xR = rV yR ∧ SR B n (lexB B n L.2.1) c N op pt yR) := by
  have hF := hL.facts
  obtain ⟨c1, c2⟩ := c_needKnown (K := K) (gc := gc) hK hL h4 hN hC (a := 2) (by omega) (v := -2) rfl
  have e1 := r_hasV (K := K) (gr := gr) hK hL h4 hN hR (a := 2) (w := 2) wR_2
  simp only [f_M_variable]
  rw [e1, jm_bI_some, bI_ite]
  cases hz : hsN B N 2 (L.1 + 1) (L.2.1 - (L.1 + 1)) N.length with
  | true =>
    obtain ⟨y, e2, s2⟩ := r_scan (K := K) (g := gr) hK hR hF.2.1 (by omega) (by omega)
    exact Or.inr ⟨c1 hz, y, by rw [if_pos rfl, e2, jm_bV_some], s2⟩
  | false =>
    obtain ⟨y, e2, s2⟩ := c2 hz
    obtain ⟨b1, b2⟩ := r_bad (K := K) (g := gr) hR (nI L.1)
    exact Or.inl ⟨nI L.1, y, _, e2, by rw [if_neg Bool.false_ne_true, hR.2.1.1]; exact b1, s2, b2⟩
/-- break $NAME -/
theorem s_leave (hK : 20000 ≤ K) (hL : LX B n L) (h19 : L.2.2 = 19) (hN : NOk n N) (hC : SC B n L (cO c off) N xC) (hR : SR B n L c N op pt xR) :
    SimV B (Go B n off N op pt L.1) (f_G_leave K gc xC) (f_M_named K gr xR) := by
  have hF := hL.facts
  have hL1 := hL.next
  have hF1 := hL1.facts
  have hgt := hL.gt (by omega) (by omega)
  obtain ⟨y1, e1, s1⟩ := c_takeAs (K := K) (g := gc) hK hC hF.2.1 (k := 15) (by omega) (a := 15) rfl
  obtain ⟨r1, -⟩ := r_skip_s (K := K) (g := gr) hK hR hF (j := 5) (by omega) (by omega) (a := 2005) rfl
  obtain ⟨y2, e2, s2⟩ := r1 h19
  obtain ⟨n1, n2⟩ := c_need (K := K) (g := gc) hK s1 hF1.2.2.1 (k := 4) (by omega) (a := 1004) rfl
  obtain ⟨b1, b2⟩ := r_bad (K := K) (g := gr) s2 (nI (lexB B n L.2.1).1)
  have u3 : tkU 3 4 := tkU.of (by decide)
  simp only [f_G_leave, f_M_named, J_M_named_42]
  rw [e1, jm_bV_some, e2, jm_bI_some, if_neg (show ¬ ((1 : Int32) = 0) by decide), s2.2.1.2.2]
  by_cases h4 : (lexB B n L.2.1).2.2 = 4
  · obtain ⟨k1, k2⟩ := c_needKnown (K := K) (gc := gc) hK hL1 h4 hN s1 (a := 3) (by omega) (v := -3) rfl
    have e3 := r_hasV (K := K) (gr := gr) hK hL1 h4 hN s2 (a := 3) (w := 3) wR_3
    rw [n1 h4, jm_bV_some, if_pos ((u3 _ hF1.2.2.1).mpr h4), e3, jm_bI_some, bI_ite]
    cases hz : hsN B N 3 ((lexB B n L.2.1).1 + 1) ((lexB B n L.2.1).2.1 - ((lexB B n L.2.1).1 + 1)) N.length with
    | true =>
      obtain ⟨y3, e4, s4⟩ := c_next (K := K) (g := gc) hK s1 hF1.2.1
      rw [← cO_cnt] at s4
      obtain ⟨y5, e5, s5⟩ := r_scan (K := K) (g := gr) hK (r_cnt s2 15) hF1.2.1 (by omega) (by omega)
      have hgt1 := hL1.gt (by omega) (by omega)
      rw [k1 hz, jm_bV_some, e4, jm_bV_some, if_pos rfl, r_cnt_eq (k := 15) (a := 15) (by omega) rfl, e5, jm_bV_some]
      exact SimV.ok ⟨_, _, hL1.next, by omega, s4, s5⟩
    | false =>
      obtain ⟨y3, e4, s4⟩ := k2 hz
      refine Sim.thr (v := nI (lexB B n L.2.1).1) ?_ ?_ s4 b2
      · rw [e4, jm_bV_thr]
      · rw [if_neg Bool.false_ne_true, s2.2.1.1]; exact b1
  · obtain ⟨y3, e4, s4⟩ := n2 h4
    refine Sim.thr (v := nI (lexB B n L.2.1).1) ?_ ?_ s4 b2
    · rw [e4, jm_bV_thr]
    · rw [if_neg (fun z => h4 ((u3 _ hF1.2.2.1).mp z)), s2.2.1.1]; exact b1
end PF

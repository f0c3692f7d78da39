/-! PURE, 41: feed, end, many, place, taped, side by side. -/
theorem by_all : ∀ b : Fin 256, vp_nar .byte (Int8.toInt32 (Int8.ofBitVec (BitVec.ofFin b))) = sB b := by decide +kernel
theorem by_ex (u : Int32) : ∃ b : Fin 256, vp_nar .byte (Int8.toInt32 (Int32.toInt8 u)) = sB b := ⟨(Int32.toInt8 u).toBitVec.toFin, by_all _⟩
/-- while a call of feed runs -/
def FRel (B : Nat → Fin 256) (n : Nat) (xC xR : jm_X) : Prop := xC.2.2 1 = tpB B ∧ xR.2.2 3 = tpB B ∧ xC.1 2 = nI n ∧ xR.1 6 = nI n ∧ (∀ k, k < 34 → xC.2.2 3 k = xR.2.2 4 k) ∧ xC.1 204 = xR.1 7 ∧ xR.1 5 = 0
section PY
variable {K : Nat} {g g' : jm_Rec} {B : Nat → Fin 256} {n : Nat} {xC xR : jm_X} {a : Int32}
theorem s_ap1 {v2 : Int32} (hv : ¬ v2 < 0) (hn : n < 16384) (h : FRel B n xC xR) : ∃ B' yC yR, (∀ f, L_FR_append_3 K g (f + 1) a v2 xC = L_FR_append_3 K g f a (v2 + (-8)) yC) ∧ (∀ f, L_M_four_3 K g' (f + 1) a v2 xR = L_M_four_3 K g' f a (v2 + (-8)) yR) ∧ FRel B' (n + 1) yC yR := by
  obtain ⟨h1, h2, h3, h4, h5, h6, h7⟩ := h
  obtain ⟨b, hb⟩ := by_ex (a >>> (v2 &&& 31))
  refine ⟨fun i => if i = n then b else B i, (va_up xC.1 2 (nI (n + 1)), xC.2.1, va_up xC.2.2 1 (upd (xC.2.2 1) n (sB b))), (va_up xR.1 6 (nI (n + 1)), xR.2.1, va_up xR.2.2 3 (upd (xR.2.2 3) n (sB b))), ?_, ?_, ?_⟩
  · intro f
    rw [L_FR_append_3, B_FR_append_3, if_neg hv, h3, show (16384 : Int32) = nI 16384 from rfl, if_neg (nI_ge hn (by omega)), if_pos (pu_in (n := 16384) rfl hn (by omega)), hb]
    simp only [jm_then, jm_ua, nI_clamp (show n < 2 ^ 31 by omega)]
    rw [h3, nI_1]
  · intro f
    rw [L_M_four_3, B_M_four_3, if_neg hv, h4, if_pos (pu_in (n := 16384) rfl hn (by omega)), hb]
    simp only [jm_then, jm_ua, nI_clamp (show n < 2 ^ 31 by omega)]
    rw [h4, nI_1]
  · have et : upd (tpB B) n (sB b) = tpB (fun i => if i = n then b else B i) := by
      funext i
      simp only [upd, tpB]
      by_cases hi : i = n
      · rw [if_pos hi, if_pos hi]
      · rw [if_neg hi, if_neg hi]
    refine ⟨?_, ?_, ?_, ?_, ?_, ?_, ?_⟩
    · simp [va_up, h1, et]
    · simp [va_up, h2, et]
    · simp [va_up]
    · simp [va_up]
    · intro k hk; simp [va_up, h5 k hk]
    · simp [va_up, h6]
    · simp [va_up, h7]
theorem s_ap4 (hK : 20000 ≤ K) (hn : n + 4 ≤ 16384) (h : FRel B n xC xR) : ∃ B' yC yR, f_FR_append K g a xC = rV yC ∧ f_M_four K g' a xR = rV yR ∧ FRel B' (n + 4) yC yR := by
  obtain ⟨K, rfl⟩ : ∃ k, K = k + 5 := ⟨K - 5, by omega⟩
  obtain ⟨B1, y1, z1, e1, f1, h1⟩ := s_ap1 (K := K + 5) (g := g) (g' := g') (a := a) (v2 := 24) (by decide) (by omega) h
  obtain ⟨B2, y2, z2, e2, f2, h2⟩ := s_ap1 (K := K + 5) (g := g) (g' := g') (a := a) (v2 := 24 + (-8)) (by decide) (by omega) h1
  obtain ⟨B3, y3, z3, e3, f3, h3⟩ := s_ap1 (K := K + 5) (g := g) (g' := g') (a := a) (v2 := 24 + (-8) + (-8)) (by decide) (by omega) h2
  obtain ⟨B4, y4, z4, e4, f4, h4⟩ := s_ap1 (K := K + 5) (g := g) (g' := g') (a := a) (v2 := 24 + (-8) + (-8) + (-8)) (by decide) (by omega) h3
  refine ⟨B4, y4, z4, ?_, ?_, h4⟩
  · simp only [f_FR_append]
    rw [e1, e2, e3, e4, L_FR_append_3, B_FR_append_3, if_pos (by decide), J_FR_append_46]
  · simp only [f_M_four]
    rw [f1, f2, f3, f4, L_M_four_3, B_M_four_3, if_pos (by decide)]
theorem FRel.rel (hn : n ≤ 16384) (h : FRel B n xC xR) : Rel xC xR := ⟨B, n, hn, h.1, h.2.1, h.2.2.1, h.2.2.2.1, h.2.2.2.2.1, h.2.2.2.2.2.1⟩
theorem Rel.up5 (h : Rel xC xR) (v : Int32) : Rel xC (va_up xR.1 5 v, xR.2) := by
  obtain ⟨B, n, hn, h1, h2, h3, h4, h5, h6⟩ := h
  refine ⟨B, n, hn, h1, h2, h3, ?_, h5, ?_⟩
  · simp [va_up, h4]
  · simp [va_up, h6]
theorem up5_2 (x : jm_X) (v w : Int32) : ((va_up (va_up x.1 5 v) 5 w, x.2) : jm_X) = (va_up x.1 5 w, x.2) := by rw [pu_up2]
theorem p_feed (hK : 20000 ≤ K) (a1 a2 a3 a4 a5 : Int32) (h : Rel xC xR) : Ans "java/lang/IndexOutOfBoundsException" (f_FR_feed K g a1 a2 a3 a4 a5 xC) (f_M_feed K g' a1 a2 a3 a4 a5 xR) := by
  obtain ⟨B, n, hn, h1, h2, h3, h4, h5, h6⟩ := id h
  have e6 : (va_up xR.1 5 0) 6 = nI n := by simp [va_up, h4]
  simp only [f_FR_feed, f_M_feed, jm_then, h3, e6]
  rw [show (16364 : Int32) = nI 16364 from rfl, show (16384 : Int32) = nI 16384 from rfl, show nI n + 20 = nI (n + 20) from (Int32.ofNat_add n 20).symm]
  by_cases hz : n + 20 ≤ 16384
  · have hF : FRel B n xC (va_up xR.1 5 0, xR.2) := ⟨h1, h2, h3, e6, h5, by simp [va_up, h6], by simp [va_up]⟩
    obtain ⟨B1, y1, z1, c1, r1, f1⟩ := s_ap4 (K := K) (g := g) (g' := g') (a := a1) hK (by omega) hF
    obtain ⟨B2, y2, z2, c2, r2, f2⟩ := s_ap4 (K := K) (g := g) (g' := g') (a := a2) hK (by omega) f1
    obtain ⟨B3, y3, z3, c3, r3, f3⟩ := s_ap4 (K := K) (g := g) (g' := g') (a := a3) hK (by omega) f2
    obtain ⟨B4, y4, z4, c4, r4, f4⟩ := s_ap4 (K := K) (g := g) (g' := g') (a := a4) hK (by omega) f3
    obtain ⟨B5, y5, z5, c5, r5, f5⟩ := s_ap4 (K := K) (g := g) (g' := g') (a := a5) hK (by omega) f4
    rw [if_pos (nI_le (by omega) (by omega)), if_pos (nI_le hz (by omega)), c1, jm_bV_some, c2, jm_bV_some, c3, jm_bV_some, c4, jm_bV_some, c5, jm_bV_some, r1, jm_bV_some, r2, jm_bV_some, r3, jm_bV_some, r4, jm_bV_some, r5, jm_bV_some]
    exact ⟨y5, z5, z5.1 6, f5.rel (by omega), rfl, Or.inl ⟨by rw [f5.2.2.1, f5.2.2.2.1], f5.2.2.2.2.2.2⟩⟩
  · rw [if_neg (nI_ge (by omega) (by omega)), if_neg (nI_ge (by omega) (by omega))]
    simp only [f_M_fail, jm_then]
    rw [jm_bI_some, up5_2]
    exact ⟨xC, _, 0, h.up5 1, rfl, Or.inr ⟨rfl, by simp [va_up]⟩⟩
theorem nI_mem {v : Int32} {n : Nat} (h0 : ¬ v < 0) (hn : n < 2 ^ 31) (h : v ≤ nI n) : ∃ m, m ≤ n ∧ v = nI m := by
  have e : (nI n).toInt = n := nI_toInt hn
  have h1 : ¬ v.toInt < 0 := fun z => h0 (Int32.lt_iff_toInt_lt.mpr z)
  have h2 : v.toInt ≤ n := by rw [← e]; exact Int32.le_iff_toInt_le.mp h
  refine ⟨v.toInt.toNat, by omega, ?_⟩
  apply Int32.toInt_inj.mp
  rw [nI_toInt (by omega)]
  omega
theorem p_end (a1 : Int32) (h : Rel xC xR) : Ans "java/lang/IllegalArgumentException" (f_FR_end K g a1 xC) (f_M_end K g' a1 xR) := by
  obtain ⟨B, n, hn, h1, h2, h3, h4, h5, h6⟩ := id h
  have e6 : (va_up xR.1 5 0) 6 = nI n := by simp [va_up, h4]
  have bad : Ans "java/lang/IllegalArgumentException" (some (.inr ("java/lang/IllegalArgumentException", xC))) (jm_bI (f_M_fail K g' 1 (va_up xR.1 5 0, xR.2)) (fun b4 x3 => some (.inl (some (.int b4), x3)))) := by
    simp only [f_M_fail, jm_then]
    rw [jm_bI_some, up5_2]
    exact ⟨xC, _, 0, h.up5 1, rfl, Or.inr ⟨rfl, by simp [va_up]⟩⟩
  simp only [f_FR_end, f_M_end, J_FR_end_12, J_M_end_17, jm_then, h3, e6]
  by_cases hz : a1 < 0
  · rw [if_pos hz, if_pos hz]; exact bad
  · rw [if_neg hz, if_neg hz]
    by_cases hy : a1 ≤ nI n
    · rw [if_pos hy, if_pos hy]
      obtain ⟨m, hm, rfl⟩ := nI_mem hz (by omega) hy
      refine ⟨(va_up xC.1 2 (nI m), xC.2), _, nI m, ?_, rfl, Or.inl ⟨?_, ?_⟩⟩
      · refine ⟨B, m, by omega, ?_, ?_, ?_, ?_, ?_, ?_⟩
        · exact h1
        · exact h2
        · simp [va_up]
        · simp [va_up]
        · exact h5
        · simp [va_up, h6]
      · simp [va_up]
      · simp [va_up]
    · rw [if_neg hy, if_neg hy]; exact bad
theorem p_many (a1 : Int32) (h : Rel xC xR) : Ans "java/lang/IllegalArgumentException" (f_FR_many K g a1 xC) (f_M_many K g' a1 xR) := by
  obtain ⟨B, n, hn, h1, h2, h3, h4, h5, h6⟩ := id h
  have bad : Ans "java/lang/IllegalArgumentException" (some (.inr ("java/lang/IllegalArgumentException", xC))) (jm_bI (f_M_fail K g' 1 (va_up xR.1 5 0, xR.2)) (fun b4 x3 => some (.inl (some (.int b4), x3)))) := by
    simp only [f_M_fail, jm_then]
    rw [jm_bI_some, up5_2]
    exact ⟨xC, _, 0, h.up5 1, rfl, Or.inr ⟨rfl, by simp [va_up]⟩⟩
  have z0 : vp_nar .boolean 0 = 0 := by decide
  have z1 : vp_nar .boolean 1 = 1 := by decide
  simp only [f_FR_many, f_M_many, f_K_isKind, J_K_isKind_20, J_K_isKind_21, f_G_countOf, J_G_countOf_22, J_G_countOf_23, J_M_many_21, J_M_many_35, jm_then, z0, z1]
  by_cases hz : a1 < 0
  · rw [if_pos hz, if_pos hz, jm_bI_some, if_pos rfl]; exact bad
  · rw [if_neg hz, if_neg hz]
    by_cases hy : a1 ≤ nI 33
    · have hy1 : ¬ (34 : Int32) ≤ a1 := by
        intro w
        have w1 := Int32.le_iff_toInt_le.mp w
        have w2 := Int32.le_iff_toInt_le.mp hy
        have e1 : (34 : Int32).toInt = 34 := by decide
        have e2 : (nI 33).toInt = 33 := by decide
        omega
      have hy2 : ¬ (33 : Int32) < a1 := by
        intro w
        have w1 := Int32.lt_iff_toInt_lt.mp w
        have w2 := Int32.le_iff_toInt_le.mp hy
        have e1 : (33 : Int32).toInt = 33 := by decide
        have e2 : (nI 33).toInt = 33 := by decide
        omega
      rw [if_neg hy1, if_neg hy2]
      by_cases hx : a1 = 29
      · rw [if_pos hx, if_pos hx, jm_bI_some, if_pos rfl]; exact bad
      · rw [if_neg hx, if_neg hx, jm_bI_some, if_neg (show ¬ ((1 : Int32) = 0) by decide), if_neg hz, if_pos (by rfl), show Int32.ofNat 34 = (34 : Int32) from rfl, if_neg hy1]
        obtain ⟨m, hm, rfl⟩ := nI_mem hz (by omega) hy
        rw [if_pos (pu_in (n := 34) rfl (by omega) (by omega)), if_pos (pu_in (n := 34) rfl (by omega) (by omega)), jm_bI_some, nI_clamp (by omega)]
        exact ⟨xC, _, xR.2.2 4 m, h.up5 0, rfl, Or.inl ⟨by rw [h5 m (by omega)], by simp [va_up]⟩⟩
    · have hy1 : (34 : Int32) ≤ a1 := by
        apply Int32.le_iff_toInt_le.mpr
        have w2 : ¬ a1.toInt ≤ (nI 33).toInt := fun w => hy (Int32.le_iff_toInt_le.mpr w)
        have e1 : (34 : Int32).toInt = 34 := by decide
        have e2 : (nI 33).toInt = 33 := by decide
        omega
      have hy2 : (33 : Int32) < a1 := by
        apply Int32.lt_iff_toInt_lt.mpr
        have w2 : ¬ a1.toInt ≤ (nI 33).toInt := fun w => hy (Int32.le_iff_toInt_le.mpr w)
        have e1 : (33 : Int32).toInt = 33 := by decide
        have e2 : (nI 33).toInt = 33 := by decide
        omega
      rw [if_pos hy1, if_pos hy2, jm_bI_some, if_pos rfl]; exact bad
theorem p_place (h : Rel xC xR) : ∃ yR b, f_FR_place K g xC = rI b xC ∧ f_M_place K g' xR = rI b yR ∧ Rel xC yR := by
  obtain ⟨B, n, hn, h1, h2, h3, h4, h5, h6⟩ := id h
  refine ⟨_, xC.1 204, ?_, ?_, h.up5 0⟩
  · simp only [f_FR_place, f_G_brokenPlace]; rw [jm_bI_some]
  · simp only [f_M_place, jm_then]
    rw [show (va_up xR.1 5 0) 7 = xC.1 204 from by simp [va_up, h6]]
theorem p_taped (h : Rel xC xR) : ∃ yR b, f_FR_taped K g xC = rI b xC ∧ f_M_taped K g' xR = rI b yR ∧ Rel xC yR := by
  obtain ⟨B, n, hn, h1, h2, h3, h4, h5, h6⟩ := id h
  refine ⟨_, xC.1 2, ?_, ?_, h.up5 0⟩
  · simp only [f_FR_taped]
  · simp only [f_M_taped, jm_then]
    rw [show (va_up xR.1 5 0) 6 = xC.1 2 from by simp [va_up, h3, h4]]
end PY

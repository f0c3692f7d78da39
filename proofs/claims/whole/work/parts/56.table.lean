/-! PURE, 7: the next sign: the reference. -/
set_option maxRecDepth 100000 in
theorem v_M_sign (K : Nat) (g : jm_Rec) (x : jm_X) (c : Fin 256) (d e : Int32) : f_M_sign K g (sB c) d e x = rV (tkR x (sgP (sB c) d e)) := by
  simp only [f_M_sign, J_M_sign_768, J_M_sign_422, J_M_sign_411, J_M_sign_469, J_M_sign_458, J_M_sign_500, J_M_sign_489, J_M_sign_531, J_M_sign_520, J_M_sign_551, J_M_sign_572, J_M_sign_603, J_M_sign_592, J_M_sign_634, J_M_sign_623, J_M_sign_665, J_M_sign_654, v_M_take, jm_bV_some, tk_ite]
  refine congrArg (fun v => rV (tkR x v)) ?_
  unfold sgP
  by_cases h1 : d = 61
  · subst h1
    by_cases h3 : e = 61
    · subst h3; revert c; decide +kernel
    · simp only [h3, if_true, if_false, show ¬ ((61 : Int32) = 47) by decide]; revert c; decide +kernel
  · by_cases h2 : d = 47
    · subst h2
      by_cases h3 : e = 61
      · subst h3; revert c; decide +kernel
      · simp only [h3, if_true, if_false, show ¬ ((47 : Int32) = 61) by decide]; revert c; decide +kernel
    · by_cases h3 : e = 61
      · subst h3; simp only [h1, h2, if_true, if_false]; revert c; decide +kernel
      · simp only [h1, h2, h3, if_true, if_false]; revert c; decide +kernel
theorem isDg_nm : ∀ c : Fin 256, isDg c = true → isNm0 c = false := by decide +kernel
theorem tok_wd : ∀ i, i < 55 → ¬ sg_word.getD i 0 = 0 → tokS i = 1 := by decide +kernel
theorem tok_ofNm (B : Nat → Fin 256) (p e : Nat) : ∀ f i, i + f ≤ 55 → tokS (ofNm B p e f i) = 1
  | 0, i, _ => rfl
  | f + 1, i, h => by
    simp only [ofNm]
    split
    · rename_i hc; exact tok_wd i (by omega) hc.1
    · exact tok_ofNm B p e f (i + 1) (by omega)
theorem syF_36 : ∀ d ∈ ([61, 47, 46, 0] : List Int32), ∀ e ∈ ([61, 0] : List Int32), syF (nI 36) d e 55 0 1 = 1 := by decide +kernel
theorem syF_46 : ∀ d ∈ ([61, 47, 46, 0] : List Int32), ∀ e ∈ ([61, 0] : List Int32), syF (nI 46) d e 55 0 1 = if d = 46 then 8 else 7 := by decide +kernel
theorem rpD_mem (d : Int32) : rpD d ∈ ([61, 47, 46, 0] : List Int32) := by
  unfold rpD
  by_cases h1 : d = 61
  · simp [h1]
  · by_cases h2 : d = 47
    · simp [h2]
    · by_cases h3 : d = 46
      · simp [h3]
      · simp [h1, h2, h3]
theorem rpE_mem (e : Int32) : rpE e ∈ ([61, 0] : List Int32) := by unfold rpE; split <;> simp
theorem sgP_ok (c : Fin 256) (h1 : c.val ≠ 36) (h2 : c.val ≠ 46) (h3 : isNm0 c = false) (h4 : isDg c = false) (d e : Int32) : (sgP (sB c) d e).1 = tokS (syF (sB c) d e 55 0 1) ∧ (syF (sB c) d e 55 0 1 ≠ 1 → (sgP (sB c) d e).2 = nI (tx (sg_txt.getD (syF (sB c) d e 55 0 1) 0)).length) := by
  rw [sgP_rp, syF_rp _ d e 55 0 1 (by omega)]
  exact sgP_syF c h1 h2 h3 h4 _ (rpD_mem d) _ (rpE_mem e)

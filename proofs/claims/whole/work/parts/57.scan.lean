/-! PURE, 8: the next sign: the reference, as a whole. -/
def lxR (x : jm_X) (q : Nat × Nat × Nat) (b : Int32) : jm_X := (va_up (va_up (va_up x.1 9 (nI q.1)) 11 (tokS q.2.2)) 10 b, x.2)
section PS
variable {K : Nat} {g : jm_Rec} {B : Nat → Fin 256} {n : Nat}
theorem v_M_first_lk (x : jm_X) (i : Nat) : f_M_first K g (lkR B n i) x = rI (bI (decide (i < n) && isNm0 (B i))) x := by
  unfold lkR
  by_cases h : i < n
  · rw [if_pos h, v_M_first, decide_eq_true h, Bool.true_and]
  · rw [if_neg h, v_M_first_no, decide_eq_false h, Bool.false_and]
theorem RL.up {x : jm_X} (h : RL B n x) {k : Nat} (hk : k ≠ 8) (v : Int32) : RL B n (va_up x.1 k v, x.2) := ⟨(va_up_ne _ _ (Ne.symm hk)).trans h.1, h.2⟩
theorem tkR_at (x : jm_X) (s : Nat) (q : Int32 × Int32) : tkR (va_up x.1 9 (nI s), x.2) q = (va_up (va_up (va_up x.1 9 (nI s)) 11 q.1) 10 (nI s + q.2), x.2) := by
  show (va_up (va_up (va_up x.1 9 (nI s)) 11 q.1) 10 (va_up x.1 9 (nI s) 9 + q.2), x.2) = _
  rw [va_up_self]
theorem v_M_scan (hK : 20000 ≤ K) {x : jm_X} (h : RL B n x) {p : Nat} (hp : x.1 10 = nI p) (hn : p ≤ n) :
    ∃ b, f_M_scan K g x = rV (lxR x (lexB B n p) b) ∧ ((lexB B n p).2.2 ≠ 0 → (lexB B n p).2.2 ≠ 1 → b = nI (lexB B n p).2.1) := by
  have h4 := h.2.2
  have hsn : skB B n (n - p) false p ≤ n := skB_le B n _ _ _ hn
  simp only [f_M_scan, hp]
  rw [v_M_skip_L hK h (n - p) p K (by omega) (by omega)]
  unfold lexB
  generalize skB B n (n - p) false p = s at hsn
  simp only [J_M_scan_103, jm_then]
  have hA : RL B n (va_up x.1 9 (nI s), x.2) := h.up (by decide) _
  have hA2 : (va_up x.1 9 (nI s), x.2).1 9 = nI s := va_up_self x.1 9 (nI s)
  simp only [show va_up x.1 9 (nI s) 8 = nI n from hA.1]
  by_cases hs : s < n
  · rw [if_neg (nI_ge hs (by omega)), v_M_look_in hA hs, jm_bI_some, if_pos hs]
    simp only [J_M_scan_125, J_M_scan_329]
    simp only [show va_up x.1 9 (nI s) 8 = nI n from hA.1]
    rw [if_neg (fun z => by rw [nI_eq (by omega) (by omega)] at z; omega), v_M_first, jm_bI_some, bI_ite]
    by_cases hd : isDg (B s) = true
    · have hm := isDg_nm _ hd
      rw [if_neg (by rw [hm]; decide), v_M_digit, jm_bI_some, bI_ite, if_pos hd, if_pos hd, v_M_digits hK hA hA2 hsn, jm_bV_some, tkR_at]
      have hg := rnB_ge isDg B n (n - s) s
      refine ⟨_, ?_, fun _ _ => rfl⟩
      simp only [nI_add, lxR, show s + (rnB isDg B n (n - s) s - s) = rnB isDg B n (n - s) s by omega]
      unfold nvT nvS
      split <;> rfl
    · by_cases hm : isNm0 (B s) = true
      · have hg := rnB_ge isNm B n (n - s) s
        rw [if_neg hd, if_pos hm, if_pos hm, v_M_nameFrom hK hA hsn, jm_bI_some, pu_sub hg, v_M_take, jm_bV_some, tkR_at]
        refine ⟨_, ?_, fun _ _ => rfl⟩
        simp only [nI_add, lxR, show s + (rnB isNm B n (n - s) s - s) = rnB isNm B n (n - s) s by omega, tok_ofNm B s _ 55 0 (by omega)]
      · have hm2 : isNm0 (B s) = false := by simpa using hm
        have hd2 : isDg (B s) = false := by simpa using hd
        rw [if_neg hd, if_neg hm, if_neg hm, v_M_digit, jm_bI_some, bI_ite, if_neg hd]
        have e36 : (sB (B s) = 36) = ((B s).val = 36) := sB_eq (B s) ⟨36, by omega⟩
        have e46 : (sB (B s) = 46) = ((B s).val = 46) := sB_eq (B s) ⟨46, by omega⟩
        have hg1 := rnB_ge isNm B n (n - (s + 1)) (s + 1)
        simp only [e36, e46, nI_1]
        rw [show nI s + 2 = nI (s + 2) from nI_add s 2]
        simp only [v_M_look hA (show s + 1 < 2 ^ 31 by omega), v_M_look hA (show s + 2 < 2 ^ 31 by omega), jm_bI_some, v_M_first_lk, bI_ite, Bool.and_eq_true, decide_eq_true_eq]
        by_cases h36 : (B s).val = 36
        · have eb : B s = ⟨36, by omega⟩ := Fin.ext h36
          simp only [h36, if_true, or_true, true_and, J_M_scan_204, nI_1]
          rw [v_M_nameFrom hK hA (show s + 1 ≤ n by omega), jm_bI_some, pu_sub (by omega)]
          simp only [v_M_take, jm_bV_some, tkR_at, J_M_scan_329]
          by_cases hv : s + 1 < n ∧ isNm0 (B (s + 1)) = true
          · rw [if_pos hv, if_pos hv]
            refine ⟨_, ?_, fun _ _ => rfl⟩
            simp only [nI_add, lxR, show s + (rnB isNm B n (n - (s + 1)) (s + 1) - s) = rnB isNm B n (n - (s + 1)) (s + 1) by omega]
            rfl
          · rw [if_neg hv, if_neg hv]
            have es : ofSy B s n 55 0 1 = 1 := by
              rw [ofSy_syF hs 55 0 1 (by omega), syF_rp _ _ _ 55 0 1 (by omega), eb]
              exact syF_36 _ (rpD_mem _) _ (rpE_mem _)
            rw [es]
            exact ⟨_, rfl, fun _ z => absurd rfl z⟩
        · by_cases h46 : (B s).val = 46
          · have eb : B s = ⟨46, by omega⟩ := Fin.ext h46
            simp only [h46, if_true, true_or, true_and, J_M_scan_262, J_M_scan_304, show ¬ ((46 : Nat) = 36) by decide, if_false, nI_1, v_M_look hA (show s + 1 < 2 ^ 31 by omega), jm_bI_some, v_M_first_lk, bI_ite, Bool.and_eq_true, decide_eq_true_eq]
            by_cases hv : s + 1 < n ∧ isNm0 (B (s + 1)) = true
            · simp only [if_pos hv]
              rw [v_M_nameFrom hK hA (show s + 1 ≤ n by omega), jm_bI_some, pu_sub (by omega), v_M_take, jm_bV_some, tkR_at]
              refine ⟨_, ?_, fun _ _ => rfl⟩
              simp only [nI_add, lxR, show s + (rnB isNm B n (n - (s + 1)) (s + 1) - s) = rnB isNm B n (n - (s + 1)) (s + 1) by omega]
              rfl
            · simp only [if_neg hv]
              have es : ofSy B s n 55 0 1 = if lkR B n (s + 1) = 46 then 8 else 7 := by
                rw [ofSy_syF hs 55 0 1 (by omega), syF_rp _ _ _ 55 0 1 (by omega), eb]
                have := syF_46 _ (rpD_mem (lkR B n (s + 1))) _ (rpE_mem (lkR B n (s + 2)))
                simp only [← rpD_iff _ 46 (Or.inr (Or.inr rfl))] at this
                exact this
              rw [es]
              by_cases hl : lkR B n (s + 1) = 46
              · simp only [if_pos hl, v_M_take, jm_bV_some, tkR_at]
                exact ⟨_, rfl, fun _ _ => nI_add s 2⟩
              · simp only [if_neg hl, v_M_take, jm_bV_some, tkR_at]
                exact ⟨_, rfl, fun _ _ => nI_add s 1⟩
          · simp only [h36, h46, if_false, or_self, false_and]
            obtain ⟨g1, g2⟩ := sgP_ok (B s) h36 h46 hm2 hd2 (lkR B n (s + 1)) (lkR B n (s + 2))
            rw [v_M_sign, jm_bV_some, tkR_at, ofSy_syF hs 55 0 1 (by omega), g1]
            refine ⟨_, rfl, fun _ z => ?_⟩
            rw [g2 z, nI_add]
  · have hs' : s = n := by omega
    rw [if_pos (nI_le (by omega) (by omega)), if_neg hs]
    simp only [J_M_scan_125, J_M_scan_329, jm_then]
    simp only [show va_up x.1 9 (nI s) 8 = nI n from hA.1]
    rw [if_pos (by rw [hs'])]
    refine ⟨x.1 10, ?_, fun z => absurd rfl z⟩
    simp only [lxR]
    rw [pu_up_eq' (f := va_up (va_up x.1 9 (nI s)) 11 (tokS 0)) (k := 10) (by rw [va_up_ne _ _ (by decide), va_up_ne _ _ (by decide)])]
    rfl
end PS

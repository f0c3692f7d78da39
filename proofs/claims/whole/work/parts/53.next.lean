/-! PURE, 4: numbers read, and the next sign: the class. -/
theorem pu_up_eq {α : Type} (f : Nat → α) (k : Nat) : va_up f k (f k) = f := by
  funext j; unfold va_up; split
  · rename_i h; rw [h]
  · rfl
theorem pu_up_eq' {α : Type} {f : Nat → α} {k : Nat} {v : α} (h : f k = v) : va_up f k v = f := by rw [← h]; exact pu_up_eq f k
theorem pu_up2 {α : Type} (f : Nat → α) (k : Nat) (a b : α) : va_up (va_up f k a) k b = va_up f k b := by
  funext j; unfold va_up; split <;> rfl
theorem pu_upc {α : Type} (f : Nat → α) {k j : Nat} (a b : α) (h : k ≠ j) : va_up (va_up f k a) j b = va_up (va_up f j b) k a := by
  funext i; unfold va_up
  by_cases h1 : i = j
  · subst h1; simp [Ne.symm h]
  · simp [h1]
theorem pu_cmp0 {a b : Nat} (ha : a < 2 ^ 63) (hb : b < 2 ^ 63) : (0 ≤ lg_cmp (lN a) (lN b)) ↔ b ≤ a := by
  unfold lg_cmp
  by_cases h : b < a
  · rw [if_pos (show lN a > lN b from (pk_lLT hb ha).mpr h)]
    exact ⟨fun _ => by omega, fun _ => by decide⟩
  · rw [if_neg (show ¬ lN a > lN b from fun z => h ((pk_lLT hb ha).mp z))]
    by_cases h2 : a = b
    · rw [if_pos (by rw [h2])]; exact ⟨fun _ => by omega, fun _ => by decide⟩
    · rw [if_neg (fun z => h2 ((pk_lEQ ha hb).mp z))]
      exact ⟨fun z => absurd z (by decide), fun z => by omega⟩
theorem pu_cmp1 {a b : Nat} (ha : a < 2 ^ 63) (hb : b < 2 ^ 63) : (0 < lg_cmp (lN a) (lN b)) ↔ b < a := by
  unfold lg_cmp
  by_cases h : b < a
  · rw [if_pos (show lN a > lN b from (pk_lLT hb ha).mpr h)]
    exact ⟨fun _ => by omega, fun _ => by decide⟩
  · rw [if_neg (show ¬ lN a > lN b from fun z => h ((pk_lLT hb ha).mp z))]
    by_cases h2 : a = b
    · rw [if_pos (by rw [h2])]; exact ⟨fun z => absurd z (by decide), fun _ => by omega⟩
    · rw [if_neg (fun z => h2 ((pk_lEQ ha hb).mp z))]
      exact ⟨fun z => absurd z (by decide), fun z => by omega⟩
/-- the value of digits, no further once it is too large -/
def nvB (B : Nat → Fin 256) (n : Nat) : Nat → Nat → Nat → Nat
  | 0, _, r => r
  | f + 1, p, r => if p < n then (if isDg (B p) = true then nvB B n f (p + 1) (if r < 9007199254740992 then 10 * r + ((B p).val - 48) else r) else r) else r
def nvS (v : Nat) : Nat := if v < 9007199254740992 then 5 else 1
/-- the next sign from p on: its start, its end, which -/
def lexB (B : Nat → Fin 256) (n p : Nat) : Nat × Nat × Nat :=
  if skB B n (n - p) false p < n then
    (if isDg (B (skB B n (n - p) false p)) = true then (skB B n (n - p) false p, rnB isDg B n (n - skB B n (n - p) false p) (skB B n (n - p) false p), nvS (nvB B n (n - skB B n (n - p) false p) (skB B n (n - p) false p) 0))
    else if isNm0 (B (skB B n (n - p) false p)) = true then (skB B n (n - p) false p, rnB isNm B n (n - skB B n (n - p) false p) (skB B n (n - p) false p), ofNm B (skB B n (n - p) false p) (rnB isNm B n (n - skB B n (n - p) false p) (skB B n (n - p) false p)) 55 0)
    else if ((B (skB B n (n - p) false p)).val = 46 ∨ (B (skB B n (n - p) false p)).val = 36) ∧ skB B n (n - p) false p + 1 < n ∧ isNm0 (B (skB B n (n - p) false p + 1)) = true then (skB B n (n - p) false p, rnB isNm B n (n - (skB B n (n - p) false p + 1)) (skB B n (n - p) false p + 1), if (B (skB B n (n - p) false p)).val = 46 then 3 else 4)
    else (skB B n (n - p) false p, skB B n (n - p) false p + (tx (sg_txt.getD (ofSy B (skB B n (n - p) false p) n 55 0 1) 0)).length, ofSy B (skB B n (n - p) false p) n 55 0 1))
  else (skB B n (n - p) false p, skB B n (n - p) false p, 0)
theorem ofSy_lt (B : Nat → Fin 256) (p n : Nat) : ∀ f i l, i + f ≤ 55 → l < 55 → ofSy B p n f i l < 55
  | 0, i, l, _, h => h
  | f + 1, i, l, hi, h => by
    simp only [ofSy]
    split
    · exact ofSy_lt B p n f (i + 1) i (by omega) (by omega)
    · exact ofSy_lt B p n f (i + 1) l (by omega) h
def lxC (x : jm_X) (q : Nat × Nat × Nat) : jm_X := (va_up (va_up x.1 402 (nI q.1)) 403 (nI q.2.1), va_up x.2.1 404 (1000 + q.2.2), x.2.2)
theorem uB_pos (b : Fin 256) : 0 ≤ uB b := nI_pos' (by omega)
section PN
variable {K : Nat} {g : jm_Rec} {B : Nat → Fin 256} {n : Nat}
theorem SL.up {x : jm_X} (h : SL B n x) {k : Nat} (hk : k ≠ 401) (v : Int32) : SL B n (va_up x.1 k v, x.2) := ⟨(va_up_ne _ _ (Ne.symm hk)).trans h.1, h.2⟩
theorem SL.up2 {x : jm_X} (h : SL B n x) {k : Nat} (hk : k ≠ 400) (v : Nat) : SL B n (x.1, va_up x.2.1 k v, x.2.2) := ⟨h.1, (va_up_ne _ _ (Ne.symm hk)).trans h.2.1, h.2.2⟩
theorem v_S_number_L : ∀ (m p r f : Nat) (x : jm_X), SL B n x → x.1 403 = nI p → m < f → p + m = n → r < 2 ^ 57 →
    L_S_number_10 K g f (lN (min r 9007199254740992)) x = rV (va_up x.1 403 (nI (rnB isDg B n m p)), va_up x.2.1 404 (1000 + nvS (nvB B n m p r)), x.2.2)
  | m, p, r, 0, x, h, h3, hf, _, _ => absurd hf (Nat.not_lt_zero _)
  | 0, p, r, f + 1, x, h, h3, hf, hp, hr => by
    have h4 := h.2.2.2
    simp only [L_S_number_10, B_S_number_10, J_S_number_74, J_S_number_92, h.1, h3, jm_then]
    rw [if_pos (nI_le (by omega) (by omega)), show (9007199254740992 : Int64) = lN 9007199254740992 from rfl]
    simp only [pu_cmp0 (a := min r 9007199254740992) (b := 9007199254740992) (by omega) (by omega), rnB, nvB, pu_up_eq' h3]
    by_cases hq : r < 9007199254740992
    · rw [if_neg (by omega), nvS, if_pos hq]
    · rw [if_pos (by omega), nvS, if_neg hq]
  | m + 1, p, r, f + 1, x, h, h3, hf, hp, hr => by
    have h4 := h.2.2.2
    simp only [L_S_number_10, B_S_number_10, J_S_number_74, J_S_number_92, h.1, h3, jm_then]
    rw [if_neg (nI_ge (by omega) (by omega)), v_S_byteAt_in h (by omega), jm_bI_some, v_B_isDigit, jm_bI_some, bI_ite]
    simp only [rnB, nvB, if_pos (show p < n by omega), h3]
    by_cases hd : isDg (B p) = true
    · have hd2 : 48 ≤ (B p).val ∧ (B p).val ≤ 57 := by simpa [isDg] using hd
      rw [if_pos hd, if_pos hd, if_pos hd, v_S_byteAt_in h (by omega), jm_bI_some]
      simp only [f_JM_min_ll, J_JM_min_ll_11]
      rw [show (9007199254740992 : Int64) = lN 9007199254740992 from rfl, show (48 : Int64) = lN 48 from rfl, show (10 : Int64) = lN 10 from rfl, show Int32.toInt64 (uB (B p)) = lN (B p).val from nI_l (by omega), lN_mul, lN_add, lN_sub (by omega)]
      simp only [pu_cmp1 (a := min r 9007199254740992 * 10 + (B p).val - 48) (b := 9007199254740992) (by omega) (by omega)]
      have key := v_S_number_L m (p + 1) (if r < 9007199254740992 then 10 * r + ((B p).val - 48) else r) f (va_up x.1 403 (nI (p + 1)), x.2) (h.up (by decide) _) (va_up_self x.1 403 (nI (p + 1))) (by omega) (by omega) (by split <;> omega)
      simp only [pu_up2] at key
      have em : min (if r < 9007199254740992 then 10 * r + ((B p).val - 48) else r) 9007199254740992 = min (min r 9007199254740992 * 10 + (B p).val - 48) 9007199254740992 := by
        split <;> omega
      rw [em] at key
      by_cases hq : 9007199254740992 < min r 9007199254740992 * 10 + (B p).val - 48
      · rw [if_pos hq, jm_bL_some, h3, nI_1]
        rw [Nat.min_eq_right (Nat.le_of_lt hq)] at key
        exact key
      · rw [if_neg hq, jm_bL_some, h3, nI_1]
        rw [Nat.min_eq_left (Nat.le_of_not_lt hq)] at key
        exact key
    · rw [if_neg hd, if_neg hd, if_neg hd, show (9007199254740992 : Int64) = lN 9007199254740992 from rfl]
      simp only [pu_cmp0 (a := min r 9007199254740992) (b := 9007199254740992) (by omega) (by omega), pu_up_eq' h3]
      by_cases hq : r < 9007199254740992
      · rw [if_neg (by omega), nvS, if_pos hq]
      · rw [if_pos (by omega), nvS, if_neg hq]
theorem v_S_number (hK : 20000 ≤ K) {x : jm_X} (h : SL B n x) {s : Nat} (hs : x.1 402 = nI s) (hn : s ≤ n) : f_S_number K g x = rV (lxC x (s, rnB isDg B n (n - s) s, nvS (nvB B n (n - s) s 0))) := by
  have h4 := h.2.2.2
  have key := v_S_number_L (K := K) (g := g) (n - s) s 0 K (va_up x.1 403 (x.1 402), x.2) (h.up (by decide) _) ((va_up_self x.1 403 (x.1 402)).trans hs) (by omega) (by omega) (by omega)
  simp only [pu_up2] at key
  simp only [f_S_number, jm_then, lxC, pu_up_eq' hs]
  exact key
theorem v_S_next (hK : 20000 ≤ K) {x : jm_X} (h : SL B n x) {p : Nat} (hp : x.1 403 = nI p) (hn : p ≤ n) : f_S_next K g x = rV (lxC x (lexB B n p)) := by
  have h4 := h.2.2.2
  simp only [f_S_next, hp]
  rw [v_S_skip hK h hn, jm_bI_some]
  have hsn : skB B n (n - p) false p ≤ n := skB_le B n _ _ _ hn
  unfold lexB
  generalize skB B n (n - p) false p = s at hsn
  simp only [jm_then, va_up_self]
  have hA : SL B n (va_up x.1 402 (nI s), x.2) := h.up (by decide) _
  have hA2 : (va_up x.1 402 (nI s), x.2).1 402 = nI s := va_up_self x.1 402 (nI s)
  rw [v_S_byteAt hA (by omega), jm_bI_some]
  by_cases hs : s < n
  · have hb46 : (uB (B s) = 46 ↔ (B s).val = 46) := nI_eq (b := 46) (by omega) (by omega)
    have hb36 : (uB (B s) = 36 ↔ (B s).val = 36) := nI_eq (b := 36) (by omega) (by omega)
    rw [byC, if_pos hs, if_pos (uB_pos _), v_B_isDigit, jm_bI_some, bI_ite, if_pos hs]
    by_cases hd : isDg (B s) = true
    · rw [if_pos hd, if_pos hd, v_S_number hK hA hA2 hsn, jm_bV_some]
      simp only [J_S_next_200, lxC, pu_up2]
    · rw [if_neg hd, if_neg hd, v_B_startsName, jm_bI_some, bI_ite]
      by_cases hm : isNm0 (B s) = true
      · rw [if_pos hm, if_pos hm, hA2, v_S_nameEnd hK hA hsn, jm_bI_some]
        have he := rnB_le isNm B n (n - s) s hsn
        have hg := rnB_ge isNm B n (n - s) s
        change jm_bA (f_E_ofName K g (x.2.1 400) (va_up (va_up x.1 402 (nI s)) 403 _ 402) _ (va_up (va_up x.1 402 (nI s)) 403 _, x.2)) _ = _
        rw [show x.2.1 400 = 1 from h.2.1, va_up_ne _ _ (show (402 : Nat) ≠ 403 by decide), va_up_self, v_E_ofName hK (by exact h.2.2.1) hg (by omega), jm_bA_some]
        rfl
      · rw [if_neg hm, if_neg hm]
        have e162 : J_S_next_162 K g (va_up x.1 402 (nI s), x.2) = rV (lxC x (s, s + (tx (sg_txt.getD (ofSy B s n 55 0 1) 0)).length, ofSy B s n 55 0 1)) := by
          have hlt := ofSy_lt B s n 55 0 1 (by omega) (by omega)
          simp only [J_S_next_162, va_up_self, jm_then]
          rw [show x.2.1 400 = 1 from h.2.1, va_up_ne _ _ (by decide), h.1, v_E_ofSymbol hK (by exact h.2.2.1) hsn h4, jm_bA_some]
          simp only [va_up_self]
          rw [if_pos (cn_sgn hlt), Nat.add_sub_cancel_left, if_pos (cn_str (sg_txt_lt _ hlt)), v_JS_length K g _ (sg_txt_lt _ hlt), jm_bI_some, nI_add]
          rfl
        have e110 : J_S_next_110 K g (uB (B s)) (va_up x.1 402 (nI s), x.2) = rV (lxC x (if s + 1 < n ∧ isNm0 (B (s + 1)) = true then (s, rnB isNm B n (n - (s + 1)) (s + 1), if (B s).val = 46 then 3 else 4) else (s, s + (tx (sg_txt.getD (ofSy B s n 55 0 1) 0)).length, ofSy B s n 55 0 1))) := by
          simp only [J_S_next_110, va_up_self, nI_1]
          rw [v_S_byteAt hA (by omega), jm_bI_some]
          by_cases h1 : s + 1 < n
          · rw [byC, if_pos h1, v_B_startsName, jm_bI_some, bI_ite]
            by_cases h2 : isNm0 (B (s + 1)) = true
            · rw [if_pos h2, if_pos ⟨h1, h2⟩, hA2, nI_1, v_S_nameEnd hK hA (by omega), jm_bI_some]
              simp only [J_S_next_156, J_S_next_200, jm_then, hb46]
              split <;> rfl
            · rw [if_neg h2, if_neg (fun z => h2 z.2), e162]
          · rw [byC, if_neg h1, v_B_startsName_no, jm_bI_some, bI_ite, if_neg (by decide), if_neg (fun z => h1 z.1), e162]
        simp only [hb46, hb36, e110, e162]
        by_cases h46 : (B s).val = 46
        · simp only [h46, if_true, true_or, true_and]
        · by_cases h36 : (B s).val = 36
          · simp only [h36, if_true, or_true, true_and, if_false, h46, show ¬ ((36 : Nat) = 46) by decide]
          · simp only [h46, h36, if_false, or_self, false_and]
  · rw [byC, if_neg hs, if_neg (by decide), if_neg hs]
    simp only [jm_then, va_up_self, J_S_next_200]
    rfl
end PN

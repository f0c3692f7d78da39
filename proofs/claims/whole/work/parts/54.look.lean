/-! PURE, 5: the small steps of the reference's lexer. -/
def RL (B : Nat → Fin 256) (n : Nat) (x : jm_X) : Prop := x.1 8 = nI n ∧ x.2.2 3 = tpB B ∧ n ≤ 16384
def lkR (B : Nat → Fin 256) (n i : Nat) : Int32 := if i < n then sB (B i) else -1
theorem sB_toInt : ∀ b : Fin 256, (sB b).toInt = if b.val < 128 then (b.val : Int) else (b.val : Int) - 256 := by decide +kernel
theorem sB_eq (b : Fin 256) (c : Fin 128) : (sB b = nI c.val) = (b.val = c.val) := by
  apply propext
  rw [← Int32.toInt_inj, sB_toInt, nI_toInt (by omega)]
  split <;> omega
section PR
variable {K : Nat} {g : jm_Rec} {B : Nat → Fin 256} {n : Nat}
theorem v_M_look {x : jm_X} (h : RL B n x) {i : Nat} (hi : i < 2 ^ 31) : f_M_look K g (nI i) x = rI (lkR B n i) x := by
  obtain ⟨h1, h3, h4⟩ := h
  simp only [f_M_look, J_M_look_18, h1, h3, lkR]
  by_cases hn : i < n
  · rw [if_neg (nI_ge hn (by omega)), if_pos hn, if_pos (pu_in (n := 16384) rfl (by omega) (by omega)), nI_clamp hi]; rfl
  · rw [if_pos (nI_le (by omega) hi), if_neg hn]
theorem v_M_look_in {x : jm_X} (h : RL B n x) {i : Nat} (hi : i < n) : f_M_look K g (nI i) x = rI (sB (B i)) x := by
  have := h.2.2
  rw [v_M_look h (by omega), lkR, if_pos hi]
theorem v_M_look_out {x : jm_X} (h : RL B n x) {i : Nat} (hi : n ≤ i) (h2 : i < 2 ^ 31) : f_M_look K g (nI i) x = rI (-1) x := by
  rw [v_M_look h h2, lkR, if_neg (by omega)]
theorem v_M_nameFrom_L {x : jm_X} (h : RL B n x) : ∀ (m p f : Nat), m < f → p + m = n → L_M_nameFrom_2 K g f (nI p) x = rI (nI (rnB isNm B n m p)) x
  | m, p, 0, hf, _ => absurd hf (Nat.not_lt_zero _)
  | 0, p, f + 1, hf, hp => by
    have h4 := h.2.2
    simp only [L_M_nameFrom_2, B_M_nameFrom_2]
    rw [v_M_look_out h (by omega) (by omega), jm_bI_some, v_M_first_no, jm_bI_some, bI_ite, if_neg (by decide), v_M_look_out h (by omega) (by omega), jm_bI_some, v_M_digit_no, jm_bI_some, bI_ite, if_neg (by decide)]; rfl
  | m + 1, p, f + 1, hf, hp => by
    have h4 := h.2.2
    have ih := v_M_nameFrom_L h m (p + 1) f (by omega) (by omega)
    simp only [L_M_nameFrom_2, B_M_nameFrom_2, J_M_nameFrom_24]
    rw [v_M_look_in h (by omega), jm_bI_some, v_M_first, jm_bI_some, bI_ite, v_M_look_in h (by omega), jm_bI_some, v_M_digit, jm_bI_some, bI_ite, nI_1, ih]
    simp only [rnB, if_pos (show p < n by omega), isNm, Bool.or_eq_true]
    by_cases h1 : isNm0 (B p) = true
    · rw [if_pos h1, if_pos (Or.inl h1)]
    · rw [if_neg h1]
      by_cases h2 : isDg (B p) = true
      · rw [if_pos h2, if_pos (Or.inr h2)]
      · rw [if_neg h2, if_neg (fun z => z.elim h1 h2)]
theorem v_M_nameFrom (hK : 20000 ≤ K) {x : jm_X} (h : RL B n x) {p : Nat} (hp : p ≤ n) : f_M_nameFrom K g (nI p) x = rI (nI (rnB isNm B n (n - p) p)) x := by
  have h4 := h.2.2
  exact v_M_nameFrom_L h (n - p) p K (by omega) (by omega)
/-- the token and its length, taken -/
def tkR (x : jm_X) (q : Int32 × Int32) : jm_X := (va_up (va_up x.1 11 q.1) 10 (x.1 9 + q.2), x.2)
theorem v_M_take (a b : Int32) (x : jm_X) : f_M_take K g a b x = rV (tkR x (a, b)) := by
  simp only [f_M_take, jm_then, va_up_ne x.1 a (show (9 : Nat) ≠ 11 by decide)]; rfl
/-- which token a number is: 4, or WRONG -/
def nvT (v : Nat) : Int32 := if v < 9007199254740992 then 4 else 25
theorem v_M_digits_L {x : jm_X} (h : RL B n x) {s : Nat} (hs : x.1 9 = nI s) : ∀ (m p r f : Nat), m < f → p + m = n → r < 2 ^ 57 → s ≤ p → L_M_digits_7 K g f (lN r) (nI p) x = rV (tkR x (nvT (nvB B n m p r), nI (rnB isDg B n m p - s)))
  | m, p, r, 0, hf, _, _, _ => absurd hf (Nat.not_lt_zero _)
  | 0, p, r, f + 1, hf, hp, hr, hsp => by
    have h4 := h.2.2
    simp only [L_M_digits_7, B_M_digits_7, J_M_digits_64, hs]
    rw [v_M_look_out h (by omega) (by omega), jm_bI_some, v_M_digit_no, jm_bI_some, bI_ite, if_neg (by decide), show (9007199254740992 : Int64) = lN 9007199254740992 from rfl]
    simp only [pu_cmp0 (a := r) (b := 9007199254740992) (by omega) (by omega), rnB, nvB, pu_sub hsp, v_M_take, jm_bV_some]
    by_cases hq : r < 9007199254740992
    · rw [if_neg (by omega), nvT, if_pos hq, hs, pu_sub hsp]
    · rw [if_pos (by omega), nvT, if_neg hq, hs, pu_sub hsp]
  | m + 1, p, r, f + 1, hf, hp, hr, hsp => by
    have h4 := h.2.2
    simp only [L_M_digits_7, B_M_digits_7, J_M_digits_64, J_M_digits_43, hs]
    rw [v_M_look_in h (by omega), jm_bI_some, v_M_digit, jm_bI_some, bI_ite, show (9007199254740992 : Int64) = lN 9007199254740992 from rfl]
    simp only [pu_cmp0 (a := r) (b := 9007199254740992) (by omega) (by omega), rnB, nvB, pu_sub hsp, v_M_take, jm_bV_some, if_pos (show p < n by omega), nI_1]
    by_cases hd : isDg (B p) = true
    · have hd2 : 48 ≤ (B p).val ∧ (B p).val ≤ 57 := by simpa [isDg] using hd
      rw [if_pos hd, if_pos hd, if_pos hd, v_M_look_in h (by omega), jm_bI_some]
      have es : Int32.toInt64 (sB (B p)) = lN (B p).val := by
        rw [sB, if_pos (by omega)]; exact nI_l (by omega)
      by_cases hq : r < 9007199254740992
      · rw [if_neg (by omega), es, show (10 : Int64) = lN 10 from rfl, show (48 : Int64) = lN 48 from rfl, lN_mul, lN_add, lN_sub (by omega), if_pos hq, show 10 * r + (B p).val - 48 = 10 * r + ((B p).val - 48) by omega]
        exact v_M_digits_L h hs m (p + 1) _ f (by omega) (by omega) (by omega) (by omega)
      · rw [if_pos (by omega), if_neg hq]
        exact v_M_digits_L h hs m (p + 1) _ f (by omega) (by omega) (by omega) (by omega)
    · rw [if_neg hd, if_neg hd, if_neg hd]
      by_cases hq : r < 9007199254740992
      · rw [if_neg (by omega), nvT, if_pos hq, hs, pu_sub hsp]
      · rw [if_pos (by omega), nvT, if_neg hq, hs, pu_sub hsp]
theorem v_M_digits (hK : 20000 ≤ K) {x : jm_X} (h : RL B n x) {s : Nat} (hs : x.1 9 = nI s) (hn : s ≤ n) : f_M_digits K g x = rV (tkR x (nvT (nvB B n (n - s) s 0), nI (rnB isDg B n (n - s) s - s))) := by
  have h4 := h.2.2
  simp only [f_M_digits, hs]
  exact v_M_digits_L h hs (n - s) s 0 K (by omega) (by omega) (by omega) (by omega)
/-- blanks and remarks -/
theorem v_M_rem_L {x : jm_X} (h : RL B n x) (k5 : Int32 → jm_X → Option jm_R) : ∀ (m p f : Nat), m < f → p + m = n → (∀ q, p < q → q ≤ n → k5 (nI q) x = J_M_scan_103 K g (nI (skB B n (n - q) false q)) x) → (p < n → (B p).val ≠ 10) → (p < n) →
    L_M_scan_73 K g k5 f (nI p) x = J_M_scan_103 K g (nI (skB B n (n - p) true p)) x
  | m, p, 0, hf, _, _, _, _ => absurd hf (Nat.not_lt_zero _)
  | 0, p, f + 1, hf, hp, hk, h10, hpn => absurd hpn (by omega)
  | m + 1, p, f + 1, hf, hp, hk, h10, hpn => by
    have h4 := h.2.2
    have e10 : (sB (B p) = 10) = ((B p).val = 10) := sB_eq (B p) ⟨10, by omega⟩
    simp only [L_M_scan_73, B_M_scan_73, h.1]
    rw [if_neg (nI_ge (by omega) (by omega)), v_M_look_in h (by omega), jm_bI_some]
    simp only [e10, h10 hpn, if_false, nI_1]
    rw [show n - p = (n - (p + 1)) + 1 by omega]
    simp only [skB, if_pos hpn, h10 hpn, ne_eq, not_false_eq_true, true_or, and_self, if_true]
    by_cases hlt : p + 1 < n
    · by_cases hnl : (B (p + 1)).val = 10
      · -- the line ends
        cases f with
        | zero => omega
        | succ f =>
          have e10' : (sB (B (p + 1)) = 10) = ((B (p + 1)).val = 10) := sB_eq (B (p + 1)) ⟨10, by omega⟩
          simp only [L_M_scan_73, B_M_scan_73, h.1]
          rw [if_neg (nI_ge (by omega) (by omega)), v_M_look_in h (by omega), jm_bI_some]
          simp only [e10', hnl, if_true]
          rw [hk (p + 1) (by omega) (by omega), show n - (p + 1) = (n - (p + 2)) + 1 by omega]
          simp only [skB, if_pos hlt, hnl, ne_eq, not_true_eq_false, false_and, if_false]
      · exact v_M_rem_L h k5 m (p + 1) f (by omega) (by omega) (fun q hq => hk q (by omega)) (fun _ => hnl) hlt
    · cases f with
      | zero => omega
      | succ f =>
        simp only [L_M_scan_73, B_M_scan_73, h.1]
        rw [if_pos (nI_le (by omega) (by omega)), hk (p + 1) (by omega) (by omega), show n - (p + 1) = 0 by omega]
        rfl
theorem v_M_skip_L (hK : 20000 ≤ K) {x : jm_X} (h : RL B n x) : ∀ (m p f : Nat), m < f → p + m = n → L_M_scan_5 K g f (nI p) x = J_M_scan_103 K g (nI (skB B n (n - p) false p)) x
  | m, p, 0, hf, _ => absurd hf (Nat.not_lt_zero _)
  | 0, p, f + 1, hf, hp => by
    have h4 := h.2.2
    simp only [L_M_scan_5, B_M_scan_5, h.1]
    rw [if_pos (nI_le (by omega) (by omega)), show n - p = 0 by omega]; rfl
  | m + 1, p, f + 1, hf, hp => by
    have h4 := h.2.2
    have hpn : p < n := by omega
    have e32 : (sB (B p) = 32) = ((B p).val = 32) := sB_eq (B p) ⟨32, by omega⟩
    have e9 : (sB (B p) = 9) = ((B p).val = 9) := sB_eq (B p) ⟨9, by omega⟩
    have e10 : (sB (B p) = 10) = ((B p).val = 10) := sB_eq (B p) ⟨10, by omega⟩
    have e13 : (sB (B p) = 13) = ((B p).val = 13) := sB_eq (B p) ⟨13, by omega⟩
    have e35 : (sB (B p) = 35) = ((B p).val = 35) := sB_eq (B p) ⟨35, by omega⟩
    have ih := v_M_skip_L hK h m (p + 1) f (by omega) (by omega)
    simp only [L_M_scan_5, B_M_scan_5, J_M_scan_63, h.1]
    rw [if_neg (nI_ge (by omega) (by omega)), v_M_look_in h hpn]
    simp only [jm_bI_some, v_M_look_in h hpn, e32, e9, e10, e13, e35, nI_1, ih]
    by_cases h35 : (B p).val = 35
    · rw [v_M_rem_L h (L_M_scan_5 K g f) (n - p) p K (by omega) (by omega) (fun q hq hq2 => ?_) (fun _ => by omega) hpn]
      · simp only [h35, show ¬ ((35 : Nat) = 32) by decide, show ¬ ((35 : Nat) = 9) by decide, show ¬ ((35 : Nat) = 10) by decide, show ¬ ((35 : Nat) = 13) by decide, if_true, if_false]
        rw [show n - p = (n - (p + 1)) + 1 by omega]
        simp only [skB, if_pos hpn, h35, ne_eq, show ¬ ((35 : Nat) = 10) by decide, not_false_eq_true, true_or, or_true, and_self, if_true]
      · exact v_M_skip_L hK h (n - q) q f (by omega) (by omega)
    · rw [show n - p = (n - (p + 1)) + 1 by omega]
      simp only [skB, if_pos hpn, h35, or_false, Bool.false_eq_true, and_false, if_false, isBl, Bool.or_eq_true, decide_eq_true_eq]
      by_cases a1 : (B p).val = 32
      · simp only [a1, if_true, true_or]
      · by_cases a2 : (B p).val = 9
        · simp only [a1, a2, if_true, if_false, true_or, or_true]; rfl
        · by_cases a3 : (B p).val = 10
          · simp only [a1, a2, a3, if_true, if_false, true_or, or_true]; rfl
          · by_cases a4 : (B p).val = 13
            · simp only [a1, a2, a3, a4, if_true, if_false, or_true]; rfl
            · simp only [a1, a2, a3, a4, if_false, or_self]
end PR

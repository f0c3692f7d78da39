/-! PURE, 17: the pieces of strings. -/
/-- r digits of base 16 from i on, and the value below 128 -/
def nwB (B : Nat → Fin 256) (n : Nat) : Nat → Nat → Nat → Bool
  | 0, _, v => decide (v < 128)
  | r + 1, i, v => if i < n ∧ hxV (B i) < 16 then nwB B n r (i + 1) (v * 16 + hxV (B i)) else false
/-- the size of the character at i, 0 if there is none -/
def chS (B : Nat → Fin 256) (n i : Nat) : Nat :=
  if i < n then (if (B i).val = 92 then (if i + 1 < n then (if (B (i + 1)).val = 117 then (if nwB B n 4 (i + 2) 0 = true then 6 else 0) else (if isEs (B (i + 1)) = true then 2 else 0)) else 0) else (if 32 ≤ (B i).val ∧ (B i).val ≤ 126 then 1 else 0)) else 0
def opn (B : Nat → Fin 256) (n i : Nat) : Bool := decide (i + 1 < n) && (decide ((B i).val = 92) && decide ((B (i + 1)).val = 40))
/-- where the piece from i ends -/
def pcE (B : Nat → Fin 256) (n : Nat) : Nat → Nat → Option Nat
  | 0, _ => none
  | f + 1, i => if i < n then (if (B i).val = 34 then some i else (if opn B n i = true then some i else (if chS B n i = 0 then none else pcE B n f (i + chS B n i)))) else none
theorem nwB_le {B : Nat → Fin 256} {n : Nat} : ∀ r i v, nwB B n r i v = true → i + r ≤ n ∨ r = 0
  | 0, i, v, _ => Or.inr rfl
  | r + 1, i, v, h => by
    simp only [nwB] at h
    by_cases hc : i < n ∧ hxV (B i) < 16
    · rw [if_pos hc] at h
      rcases nwB_le r (i + 1) _ h with q | q <;> omega
    · rw [if_neg hc] at h; cases h
theorem chS_le {B : Nat → Fin 256} {n i : Nat} (h : chS B n i ≠ 0) : i + chS B n i ≤ n := by
  unfold chS at h ⊢
  by_cases h0 : i < n
  · rw [if_pos h0] at h ⊢
    by_cases h1 : (B i).val = 92
    · rw [if_pos h1] at h ⊢
      by_cases h2 : i + 1 < n
      · rw [if_pos h2] at h ⊢
        by_cases h3 : (B (i + 1)).val = 117
        · rw [if_pos h3] at h ⊢
          by_cases h4 : nwB B n 4 (i + 2) 0 = true
          · rw [if_pos h4]
            rcases nwB_le _ _ _ h4 with q | q <;> omega
          · rw [if_neg h4] at h; exact absurd rfl h
        · rw [if_neg h3] at h ⊢
          split <;> omega
      · rw [if_neg h2] at h; exact absurd rfl h
    · rw [if_neg h1] at h ⊢
      split <;> omega
  · rw [if_neg h0] at h; exact absurd rfl h
theorem pcE_facts {B : Nat → Fin 256} {n : Nat} : ∀ f i j, pcE B n f i = some j → i ≤ j ∧ j < n ∧ ((B j).val = 34 ∨ opn B n j = true)
  | 0, i, j, h => by cases h
  | f + 1, i, j, h => by
    simp only [pcE] at h
    by_cases h0 : i < n
    · rw [if_pos h0] at h
      by_cases h1 : (B i).val = 34
      · rw [if_pos h1] at h; cases h; exact ⟨Nat.le_refl _, h0, Or.inl h1⟩
      · rw [if_neg h1] at h
        by_cases h2 : opn B n i = true
        · rw [if_pos h2] at h; cases h; exact ⟨Nat.le_refl _, h0, Or.inr h2⟩
        · rw [if_neg h2] at h
          by_cases h3 : chS B n i = 0
          · rw [if_pos h3] at h; cases h
          · rw [if_neg h3] at h
            obtain ⟨q1, q2, q3⟩ := pcE_facts f _ j h
            exact ⟨by omega, q2, q3⟩
    · rw [if_neg h0] at h; cases h
theorem hxV_no : ∀ b : Fin 256, (0 ≤ hxI (hxV b)) = (hxV b < 16) := by decide +kernel
theorem hxI_of {k : Nat} (h : k < 16) : hxI k = nI k := by rw [hxI, if_pos h]
theorem nwB_bnd {v : Nat} {b : Fin 256} {r : Nat} (hr : r + 1 ≤ 4) (hv : v < 16 ^ (4 - (r + 1))) (hb : hxV b < 16) : v * 16 + hxV b < 16 ^ (4 - r) := by
  have : 16 ^ (4 - r) = 16 ^ (4 - (r + 1)) * 16 := by rw [← Nat.pow_succ]; congr 1; omega
  rw [this]; omega
section PQ
variable {K : Nat} {g : jm_Rec} {B : Nat → Fin 256} {n : Nat}
theorem c_narrow_L {x : jm_X} (h : SL B n x) {p : Nat} (hp : p ≤ 16390) : ∀ (r j v f : Nat), r < f → j + r = 4 → v < 16 ^ (4 - r) → L_S_isNarrowCode_4 K g f (nI p) (nI v) (nI j) x = rI (bI (nwB B n r (p + j) v)) x
  | r, j, v, 0, hf, _, _ => absurd hf (Nat.not_lt_zero _)
  | 0, j, v, f + 1, hf, hj, hv => by
    have hv2 : v < 65536 := hv
    simp only [L_S_isNarrowCode_4, B_S_isNarrowCode_4, J_S_isNarrowCode_54]
    rw [show (4 : Int32) = nI 4 from rfl, if_pos (nI_le (by omega) (by omega)), show (128 : Int32) = nI 128 from rfl]
    simp only [nI_leI (a := 128) (b := v) (by omega) (by omega), nwB]
    by_cases hz : v < 128
    · rw [if_neg (by omega), decide_eq_true hz]; rfl
    · rw [if_pos (by omega), decide_eq_false hz]; rfl
  | r + 1, j, v, f + 1, hf, hj, hv => by
    have h4 := h.2.2.2
    simp only [L_S_isNarrowCode_4, B_S_isNarrowCode_4]
    rw [show (4 : Int32) = nI 4 from rfl, if_neg (nI_ge (by omega) (by omega)), nI_add, v_S_byteAt h (by omega), jm_bI_some, byC]
    by_cases hin : p + j < n
    · rw [if_pos hin, v_B_hexDigit, jm_bI_some]
      simp only [hxV_no]
      by_cases hd : hxV (B (p + j)) < 16
      · have hb := nwB_bnd (by omega) hv hd
        rw [if_pos hd, hxI_of hd, show (16 : Int32) = nI 16 from rfl, show nI v * nI 16 = nI (v * 16) from (Int32.ofNat_mul v 16).symm, nI_add, nI_1, c_narrow_L h hp r (j + 1) _ f (by omega) (by omega) hb]
        have : nwB B n (r + 1) (p + j) v = nwB B n r (p + j + 1) (v * 16 + hxV (B (p + j))) := by rw [nwB, if_pos ⟨hin, hd⟩]
        rw [this]; rfl
      · have : nwB B n (r + 1) (p + j) v = false := by rw [nwB, if_neg (fun z => hd z.2)]
        rw [if_neg hd, this]; rfl
    · have : nwB B n (r + 1) (p + j) v = false := by rw [nwB, if_neg (fun z => hin z.1)]
      rw [if_neg hin, v_B_hexDigit_no, jm_bI_some, if_neg (by decide), this]; rfl
theorem c_opens {x : jm_X} (h : SL B n x) {i : Nat} (hi : i ≤ n) : f_S_opensProgram K g (nI i) x = rI (bI (opn B n i)) x := by
  have h4 := h.2.2.2
  simp only [f_S_opensProgram, J_S_opensProgram_26, J_S_opensProgram_27, nI_1]
  rw [v_S_byteAt h (by omega), jm_bI_some, v_S_byteAt h (by omega), jm_bI_some]
  unfold opn byC
  by_cases h1 : i + 1 < n
  · have e92 : (uB (B i) = 92 ↔ (B i).val = 92) := nI_eq (b := 92) (by omega) (by omega)
    have e40 : (uB (B (i + 1)) = 40 ↔ (B (i + 1)).val = 40) := nI_eq (b := 40) (by omega) (by omega)
    simp only [if_pos h1, if_pos (show i < n by omega), e92, e40, decide_eq_true h1, Bool.true_and]
    by_cases h2 : (B i).val = 92
    · by_cases h3 : (B (i + 1)).val = 40
      · simp [h2, h3]; rfl
      · simp [h2, h3]; rfl
    · simp [h2]; rfl
  · simp only [if_neg h1, decide_eq_false h1, Bool.false_and, show ¬ ((-1 : Int32) = 40) by decide, if_false, ite_self]; rfl
theorem c_charSize (hK : 20000 ≤ K) {x : jm_X} (h : SL B n x) {i : Nat} (hi : i < n) : f_S_characterSize K g (nI i) x = rI (nI (chS B n i)) x := by
  have h4 := h.2.2.2
  have e92 : (uB (B i) = 92 ↔ (B i).val = 92) := nI_eq (b := 92) (by omega) (by omega)
  have e32 : (uB (B i) < 32 ↔ (B i).val < 32) := nI_ltI (b := 32) (by omega) (by omega)
  have e126 : (126 < uB (B i) ↔ 126 < (B i).val) := nI_ltI (a := 126) (by omega) (by omega)
  have e117 : (uB (B (i + 1)) = 117 ↔ (B (i + 1)).val = 117) := nI_eq (b := 117) (by omega) (by omega)
  simp only [f_S_characterSize, J_S_characterSize_28, J_S_characterSize_29, J_S_characterSize_60, J_S_characterSize_73, nI_1]
  rw [v_S_byteAt_in h hi, jm_bI_some, v_S_byteAt h (by omega), jm_bI_some, show nI i + 2 = nI (i + 2) from nI_add i 2]
  have en : f_S_isNarrowCode K g (nI (i + 2)) x = rI (bI (nwB B n 4 (i + 2) 0)) x := c_narrow_L h (by omega) 4 0 0 K (by omega) (by omega) (by omega)
  rw [en, jm_bI_some, bI_ite]
  unfold chS byC
  simp only [e92, e32, e126, if_pos hi]
  by_cases h1 : (B i).val = 92
  · simp only [if_pos h1]
    by_cases h2 : i + 1 < n
    · simp only [if_pos h2, v_B_isEscaped, jm_bI_some, bI_ite, e117]
      by_cases h3 : (B (i + 1)).val = 117
      · simp only [if_pos h3]; split <;> rfl
      · simp only [if_neg h3]; split <;> rfl
    · simp only [if_neg h2, v_B_isEscaped_no, jm_bI_some, bI_ite, show ¬ ((-1 : Int32) = 117) by decide, if_false]; rfl
  · simp only [if_neg h1]
    by_cases h2 : (B i).val < 32
    · rw [if_pos h2, if_neg (by omega)]; rfl
    · rw [if_neg h2]
      by_cases h3 : 126 < (B i).val
      · rw [if_pos h3, if_neg (by omega)]; rfl
      · rw [if_neg h3, if_pos (by omega)]; rfl
def pcI (o : Option Nat) : Int32 := match o with
  | some j => nI j
  | none => -1
theorem c_piece_L (hK : 20000 ≤ K) {x : jm_X} (h : SL B n x) : ∀ (f i q : Nat), n - i < f → q ≤ i → i ≤ n → L_S_pieceEnd_4 K g f (nI i) (nI q) x = rI (pcI (pcE B n f i)) x
  | 0, i, q, hf, _, _ => absurd hf (Nat.not_lt_zero _)
  | f + 1, i, q, hf, hq, hi => by
    have h4 := h.2.2.2
    simp only [L_S_pieceEnd_4, B_S_pieceEnd_4, J_S_pieceEnd_65, J_S_pieceEnd_38, h.1, nI_1]
    by_cases hn : i < n
    · have e34 : (uB (B i) = 34 ↔ (B i).val = 34) := nI_eq (b := 34) (by omega) (by omega)
      rw [if_neg (nI_ge (by omega) (by omega)), if_neg (nI_ge hn (by omega)), v_S_byteAt_in h hn, jm_bI_some, c_opens h hi, jm_bI_some, bI_ite, c_charSize hK h hn, jm_bI_some]
      simp only [e34]
      by_cases h1 : (B i).val = 34
      · have e : pcE B n (f + 1) i = some i := by rw [pcE, if_pos hn, if_pos h1]
        rw [if_pos h1, e]; rfl
      · rw [if_neg h1]
        by_cases h2 : opn B n i = true
        · have e : pcE B n (f + 1) i = some i := by rw [pcE, if_pos hn, if_neg h1, if_pos h2]
          rw [if_pos h2, e]; rfl
        · rw [if_neg h2]
          by_cases h3 : chS B n i = 0
          · have e : pcE B n (f + 1) i = none := by rw [pcE, if_pos hn, if_neg h1, if_neg h2, if_pos h3]
            rw [if_pos (by rw [h3]; rfl), e]; rfl
          · have hc := chS_le h3
            have e : pcE B n (f + 1) i = pcE B n f (i + chS B n i) := by rw [pcE, if_pos hn, if_neg h1, if_neg h2, if_neg h3]
            rw [if_neg (nI_ne0 (by omega) (by omega)), e, nI_add]
            exact c_piece_L hK h f (i + chS B n i) (q + 1) (by omega) (by omega) (by omega)
    · have e : pcE B n (f + 1) i = none := by rw [pcE, if_neg hn]
      rw [e]
      by_cases hqn : q < n
      · rw [if_neg (nI_ge hqn (by omega)), if_pos (nI_le (by omega) (by omega))]; rfl
      · rw [if_pos (nI_le (by omega) (by omega))]; rfl
theorem c_piece (hK : 20000 ≤ K) {x : jm_X} (h : SL B n x) {i : Nat} (hi : i ≤ n) : f_S_pieceEnd K g (nI i) x = rI (pcI (pcE B n K i)) x := by
  have h4 := h.2.2.2
  exact c_piece_L hK h K i 0 (by omega) (by omega) hi
end PQ

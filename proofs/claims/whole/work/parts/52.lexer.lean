/-! PURE, 3: the lexer, closed forms; the small steps of the class's. -/
/-- behind the run of bytes of a kind -/
def rnB (P : Fin 256 → Bool) (B : Nat → Fin 256) (n : Nat) : Nat → Nat → Nat
  | 0, p => p
  | f + 1, p => if p < n then (if P (B p) = true then rnB P B n f (p + 1) else p) else p
/-- the place behind blanks and remarks; rem: within a remark -/
def skB (B : Nat → Fin 256) (n : Nat) : Nat → Bool → Nat → Nat
  | 0, _, p => p
  | f + 1, rem, p => if p < n then (if ((B p).val ≠ 10 ∧ (rem = true ∨ (B p).val = 35)) then skB B n f true (p + 1) else (if isBl (B p) = true then skB B n f false (p + 1) else p)) else p
theorem rnB_le (P : Fin 256 → Bool) (B : Nat → Fin 256) (n : Nat) : ∀ f p, p ≤ n → rnB P B n f p ≤ n
  | 0, p, h => h
  | f + 1, p, h => by
    simp only [rnB]
    split
    · split
      · exact rnB_le P B n f (p + 1) (by omega)
      · exact h
    · exact h
theorem rnB_ge (P : Fin 256 → Bool) (B : Nat → Fin 256) (n : Nat) : ∀ f p, p ≤ rnB P B n f p
  | 0, p => Nat.le_refl _
  | f + 1, p => by
    simp only [rnB]
    split
    · split
      · exact Nat.le_trans (Nat.le_succ p) (rnB_ge P B n f (p + 1))
      · exact Nat.le_refl _
    · exact Nat.le_refl _
theorem skB_le (B : Nat → Fin 256) (n : Nat) : ∀ f r p, p ≤ n → skB B n f r p ≤ n
  | 0, r, p, h => h
  | f + 1, r, p, h => by
    simp only [skB]
    split
    · split
      · exact skB_le B n f true (p + 1) (by omega)
      · split
        · exact skB_le B n f false (p + 1) (by omega)
        · exact h
    · exact h
theorem skB_ge (B : Nat → Fin 256) (n : Nat) : ∀ f r p, p ≤ skB B n f r p
  | 0, r, p => Nat.le_refl _
  | f + 1, r, p => by
    simp only [skB]
    split
    · split
      · exact Nat.le_trans (Nat.le_succ p) (skB_ge B n f true (p + 1))
      · split
        · exact Nat.le_trans (Nat.le_succ p) (skB_ge B n f false (p + 1))
        · exact Nat.le_refl _
    · exact Nat.le_refl _
/-- the bytes from p to e are the text k -/
def spl (B : Nat → Fin 256) (p e k : Nat) : Bool := decide (e - p = (tx k).length) && eqT B (tx k) (e - p) p 0
/-- the first word that the bytes are, or NAME -/
def ofNm (B : Nat → Fin 256) (p e : Nat) : Nat → Nat → Nat
  | 0, _ => 2
  | f + 1, i => if (¬ sg_word.getD i 0 = 0) ∧ spl B p e (sg_txt.getD i 0) = true then i else ofNm B p e f (i + 1)
/-- the longest sign without letters, or NO_SIGN -/
def ofSy (B : Nat → Fin 256) (p n : Nat) : Nat → Nat → Nat → Nat
  | 0, _, l => l
  | f + 1, i, l => if sg_word.getD i 0 = 0 ∧ (tx (sg_txt.getD l 0)).length < (tx (sg_txt.getD i 0)).length ∧ (tx (sg_txt.getD i 0)).length ≤ n - p ∧ eqT B (tx (sg_txt.getD i 0)) (tx (sg_txt.getD i 0)).length p 0 = true then ofSy B p n f (i + 1) i else ofSy B p n f (i + 1) l
theorem sg_txt_lt : ∀ i, i < 55 → sg_txt.getD i 0 < 73 := by decide +kernel
theorem cn_sgn {i : Nat} (h : i < 55) : jm_cn 1000 55 (1000 + i) = true := by simp only [jm_cn, Bool.and_eq_true, decide_eq_true_eq]; omega
theorem pu_ix {n i : Nat} (h : i < n) (hn : n < 2 ^ 31) : jm_ix n (nI i) = true := by
  simp only [jm_ix, nI_clamp (Nat.lt_trans h hn), Bool.and_eq_true, decide_eq_true_eq]; exact ⟨nI_pos (Nat.lt_trans h hn), h⟩
/-- what the lexer of the class reads -/
def SL (B : Nat → Fin 256) (n : Nat) (x : jm_X) : Prop := x.1 401 = nI n ∧ x.2.1 400 = 1 ∧ x.2.2 1 = tpB B ∧ n ≤ 16384
def byC (B : Nat → Fin 256) (n i : Nat) : Int32 := if i < n then uB (B i) else -1
section PL
variable {K : Nat} {g : jm_Rec} {x : jm_X} {B : Nat → Fin 256} {n : Nat}
theorem v_S_byteAt (h : SL B n x) {i : Nat} (hi : i < 2 ^ 31) : f_S_byteAt K g (nI i) x = rI (byC B n i) x := by
  obtain ⟨h1, h2, h3, h4⟩ := h
  simp only [f_S_byteAt, J_S_byteAt_34, J_S_byteAt_35, h1, h2, h3, byC]
  rw [if_neg (nI_pos hi)]
  by_cases hn : i < n
  · rw [if_neg (nI_ge hn (by omega)), if_pos hn]
    change (if nI 16384 ≤ nI i then _ else _) = _
    rw [if_neg (nI_ge (by omega) (by omega)), if_pos (pu_in (n := 16384) rfl (by omega) (by omega)), nI_clamp hi]
    exact congrArg (fun v => rI v x) (sB_and _)
  · rw [if_pos (nI_le (by omega) hi), if_neg hn]
theorem v_S_byteAt_in (h : SL B n x) {i : Nat} (hi : i < n) : f_S_byteAt K g (nI i) x = rI (uB (B i)) x := by
  have := h.2.2.2
  rw [v_S_byteAt h (by omega), byC, if_pos hi]
theorem v_S_nameEnd_L (h : SL B n x) : ∀ (m p f : Nat), m < f → p + m = n → L_S_nameEnd_2 K g f (nI p) x = rI (nI (rnB isNm B n m p)) x
  | m, p, 0, hf, _ => absurd hf (Nat.not_lt_zero _)
  | 0, p, f + 1, hf, hp => by
    have h4 := h.2.2.2
    simp only [L_S_nameEnd_2, B_S_nameEnd_2, J_S_nameEnd_27, h.1]
    rw [if_pos (nI_le (by omega) (by omega))]; rfl
  | m + 1, p, f + 1, hf, hp => by
    have h4 := h.2.2.2
    simp only [L_S_nameEnd_2, B_S_nameEnd_2, J_S_nameEnd_27, h.1]
    rw [if_neg (nI_ge (by omega) (by omega)), v_S_byteAt_in h (by omega), jm_bI_some, v_B_isOfName, jm_bI_some, bI_ite, nI_1]
    simp only [rnB, if_pos (show p < n by omega)]
    split
    · rw [v_S_nameEnd_L h m (p + 1) f (by omega) (by omega)]
    · rfl
theorem v_S_nameEnd (hK : 20000 ≤ K) (h : SL B n x) {p : Nat} (hp : p ≤ n) : f_S_nameEnd K g (nI p) x = rI (nI (rnB isNm B n (n - p) p)) x := by
  have h4 := h.2.2.2
  exact v_S_nameEnd_L h (n - p) p K (by omega) (by omega)
theorem v_S_skip_L (h : SL B n x) : ∀ (m p f : Nat) (r : Bool), m < f → p + m = n → L_S_skipBlanks_4 K g f (nI p) (bI r) x = rI (nI (skB B n m r p)) x
  | m, p, 0, r, hf, _ => absurd hf (Nat.not_lt_zero _)
  | 0, p, f + 1, r, hf, hp => by
    have h4 := h.2.2.2
    simp only [L_S_skipBlanks_4, B_S_skipBlanks_4, J_S_skipBlanks_64, h.1]
    rw [if_pos (nI_le (by omega) (by omega))]; rfl
  | m + 1, p, f + 1, r, hf, hp => by
    have h4 := h.2.2.2
    have e1 := v_S_skip_L h m (p + 1) f true (by omega) (by omega)
    have e2 := v_S_skip_L h m (p + 1) f false (by omega) (by omega)
    have hb : (uB (B p) = 10 ↔ (B p).val = 10) := nI_eq (b := 10) (by omega) (by omega)
    have hc : (uB (B p) = 35 ↔ (B p).val = 35) := nI_eq (b := 35) (by omega) (by omega)
    simp only [L_S_skipBlanks_4, B_S_skipBlanks_4, J_S_skipBlanks_64, J_S_skipBlanks_41, J_S_skipBlanks_37, J_S_skipBlanks_42, J_S_skipBlanks_58, h.1]
    rw [if_neg (nI_ge (by omega) (by omega)), v_S_byteAt_in h (by omega), jm_bI_some, v_B_isBlank, jm_bI_some, bI_ite, bI_ite, nI_1]
    rw [show (0 : Int32) = bI false from rfl, show (1 : Int32) = bI true from rfl, e1, e2]
    simp only [skB, if_pos (show p < n by omega), hb, hc]
    by_cases h10 : (B p).val = 10
    · simp [h10, isBl, bI]
    · by_cases h35 : (B p).val = 35
      · cases r <;> simp [h10, h35, bI]
      · cases r <;> simp [h10, h35, bI]
        split <;> rfl
theorem v_S_skip (hK : 20000 ≤ K) (h : SL B n x) {p : Nat} (hp : p ≤ n) : f_S_skipBlanks K g (nI p) x = rI (nI (skB B n (n - p) false p)) x := by
  have h4 := h.2.2.2
  exact v_S_skip_L h (n - p) p K false (by omega) (by omega)
theorem v_E_ofName_L (hK : 20000 ≤ K) (hT : x.2.2 1 = tpB B) {p e : Nat} (hp : p ≤ e) (he : e ≤ 16384) : ∀ (m i f : Nat), m < f → i + m = 55 → L_E_ofName_2 K g f 1 (nI p) (nI e) (nI i) x = rA (1000 + ofNm B p e m i) x
  | m, i, 0, hf, _ => absurd hf (Nat.not_lt_zero _)
  | 0, i, f + 1, hf, hi => by
    simp only [L_E_ofName_2, B_E_ofName_2]
    rw [show Int32.ofNat 55 = nI 55 from rfl, if_pos (by decide), if_pos (nI_le (a := 55) (by omega) (by omega))]; rfl
  | m + 1, i, f + 1, hf, hi => by
    have hs := sg_txt_lt i (by omega)
    have hl := tx_len _ hs
    have ih := v_E_ofName_L hK hT hp he m (i + 1) f (by omega) (by omega)
    simp only [L_E_ofName_2, B_E_ofName_2, J_E_ofName_57]
    rw [show Int32.ofNat 55 = nI 55 from rfl, if_pos (by decide), if_neg (nI_ge (b := 55) (by omega) (by omega)), if_pos (pu_ix (by omega) (by omega)), nI_clamp (by omega), Nat.add_sub_cancel_left, if_pos (cn_sgn (by omega)), if_pos (cn_sgn (by omega)), if_pos (cn_str hs), v_JS_length K g x hs, jm_bI_some, pu_sub hp, if_pos (cn_sgn (by omega)), show (0 : Int32) = nI 0 from rfl, v_B_isText hK hs hT hp he (Nat.zero_le _), jm_bI_some, nI_1, ih]
    rw [show nI 0 = (0 : Int32) from rfl, bI_ite]
    simp only [ofNm, nI_eq (a := (tx (sg_txt.getD i 0)).length) (b := e - p) (by omega) (by omega)]
    by_cases hw : sg_word.getD i 0 = 0
    · rw [if_pos hw, if_neg (show ¬ (¬ sg_word.getD i 0 = 0 ∧ spl B p e (sg_txt.getD i 0) = true) from fun z => z.1 hw)]
    · rw [if_neg hw]
      by_cases hq : (tx (sg_txt.getD i 0)).length = e - p
      · have e1 : spl B p e (sg_txt.getD i 0) = eqT B (tx (sg_txt.getD i 0)) (e - p) p 0 := by
          unfold spl; rw [decide_eq_true hq.symm, Bool.true_and]
        rw [if_pos hq, decide_eq_true (show 0 + (e - p) ≤ (tx (sg_txt.getD i 0)).length by omega), Bool.true_and]
        by_cases hz : eqT B (tx (sg_txt.getD i 0)) (e - p) p 0 = true
        · rw [if_pos hz, if_pos (show ¬ sg_word.getD i 0 = 0 ∧ spl B p e (sg_txt.getD i 0) = true from ⟨hw, e1.trans hz⟩)]
        · rw [if_neg hz, if_neg (show ¬ (¬ sg_word.getD i 0 = 0 ∧ spl B p e (sg_txt.getD i 0) = true) from fun z => hz (e1.symm.trans z.2))]
      · have e1 : spl B p e (sg_txt.getD i 0) = false := by
          unfold spl; rw [decide_eq_false (fun q => hq q.symm), Bool.false_and]
        rw [if_neg hq, if_neg (show ¬ (¬ sg_word.getD i 0 = 0 ∧ spl B p e (sg_txt.getD i 0) = true) from fun z => Bool.false_ne_true (e1.symm.trans z.2))]
theorem v_E_ofName (hK : 20000 ≤ K) (hT : x.2.2 1 = tpB B) {p e : Nat} (hp : p ≤ e) (he : e ≤ 16384) : f_E_ofName K g 1 (nI p) (nI e) x = rA (1000 + ofNm B p e 55 0) x :=
  v_E_ofName_L hK hT hp he 55 0 K (by omega) rfl
theorem v_E_ofSymbol_L (hK : 20000 ≤ K) (hT : x.2.2 1 = tpB B) {p e : Nat} (hp : p ≤ e) (he : e ≤ 16384) : ∀ (m i l f : Nat), m < f → i + m = 55 → l < 55 → L_E_ofSymbol_7 K g f 1 (nI p) (nI e) (1000 + l) (nI i) x = rA (1000 + ofSy B p e m i l) x
  | m, i, l, 0, hf, _, _ => absurd hf (Nat.not_lt_zero _)
  | 0, i, l, f + 1, hf, hi, _ => by
    simp only [L_E_ofSymbol_7, B_E_ofSymbol_7]
    rw [show Int32.ofNat 55 = nI 55 from rfl, if_pos (by decide), if_pos (nI_le (a := 55) (by omega) (by omega))]; rfl
  | m + 1, i, l, f + 1, hf, hi, hl => by
    have hs := sg_txt_lt i (by omega)
    have hs2 := sg_txt_lt l hl
    have hll := tx_len _ hs
    have hll2 := tx_len _ hs2
    have ih := v_E_ofSymbol_L hK hT hp he m (i + 1) l f (by omega) (by omega) hl
    have ih2 := v_E_ofSymbol_L hK hT hp he m (i + 1) i f (by omega) (by omega) (by omega)
    simp only [L_E_ofSymbol_7, B_E_ofSymbol_7, J_E_ofSymbol_83]
    rw [show Int32.ofNat 55 = nI 55 from rfl, if_pos (by decide), if_neg (nI_ge (b := 55) (by omega) (by omega)), if_pos (pu_ix (by omega) (by omega)), nI_clamp (by omega), Nat.add_sub_cancel_left, if_pos (cn_sgn (by omega)), if_pos (cn_str hs), v_JS_length K g x hs, jm_bI_some, if_pos (cn_sgn (by omega)), if_pos (cn_sgn hl), Nat.add_sub_cancel_left, if_pos (cn_str hs2), v_JS_length K g x hs2, jm_bI_some, pu_sub hp, if_pos (cn_sgn (by omega)), nI_add, nI_1, ih]
    simp only [ofSy, nI_leI (a := (tx (sg_txt.getD i 0)).length) (b := (tx (sg_txt.getD l 0)).length) (by omega) (by omega), nI_ltI (a := e - p) (b := (tx (sg_txt.getD i 0)).length) (by omega) (by omega)]
    by_cases hw : sg_word.getD i 0 = 0
    · rw [if_pos hw]
      by_cases hq : (tx (sg_txt.getD i 0)).length ≤ (tx (sg_txt.getD l 0)).length
      · rw [if_pos hq, if_neg (fun z => by have := z.2.1; omega)]
      · rw [if_neg hq]
        by_cases hr : e - p < (tx (sg_txt.getD i 0)).length
        · rw [if_pos hr, if_neg (fun z => by have := z.2.2.1; omega)]
        · rw [if_neg hr, show (0 : Int32) = nI 0 from rfl, v_B_isText hK hs hT (Nat.le_add_right _ _) (by omega) (Nat.zero_le _), jm_bI_some, Nat.add_sub_cancel_left, decide_eq_true (show 0 + (tx (sg_txt.getD i 0)).length ≤ (tx (sg_txt.getD i 0)).length by omega), Bool.true_and]
          rw [show nI 0 = (0 : Int32) from rfl, bI_ite, ih, ih2]
          by_cases hz : eqT B (tx (sg_txt.getD i 0)) (tx (sg_txt.getD i 0)).length p 0 = true
          · rw [if_pos hz, if_pos ⟨hw, by omega, by omega, hz⟩]
          · rw [if_neg hz, if_neg (fun z => hz z.2.2.2)]
    · rw [if_neg hw, if_neg (fun z => hw z.1)]
theorem v_E_ofSymbol (hK : 20000 ≤ K) (hT : x.2.2 1 = tpB B) {p e : Nat} (hp : p ≤ e) (he : e ≤ 16384) : f_E_ofSymbol K g 1 (nI p) (nI e) x = rA (1000 + ofSy B p e 55 0 1) x :=
  v_E_ofSymbol_L hK hT hp he 55 0 1 K (by omega) rfl (by omega)
end PL

/-! PURE, 2: texts: length, charAt; a run of bytes against a text, against another run. -/
theorem pu_in {sh : List jm_S} {o n i : Nat} {ty : FieldType} (h : sh[o]? = some (.inl (ty, n))) (hi : i < n) (hn : n < 2 ^ 31) : jm_in sh o ty (nI i) = true := by
  simp only [jm_in, h, nI_clamp (Nat.lt_trans hi hn), Bool.and_eq_true, decide_eq_true_eq]
  exact ⟨trivial, nI_pos (Nat.lt_trans hi hn), hi⟩
theorem cn_str {k : Nat} (h : k < 73) : jm_cn 2000 73 (2000 + k) = true := by simp only [jm_cn, Bool.and_eq_true, decide_eq_true_eq]; omega
theorem cn_byt {k : Nat} (h : k < 73) : jm_cn 3000 73 (3000 + k) = true := by simp only [jm_cn, Bool.and_eq_true, decide_eq_true_eq]; omega
/-- the text k -/
def tx (k : Nat) : List Int32 := st_b.getD k []
theorem tx_len : ∀ k : Nat, k < 73 → (tx k).length ≤ 107 := by decide +kernel
theorem tx_chr : ∀ k : Nat, k < 73 → ∀ c ∈ tx k, vp_nar .char (vp_nar .char (UInt32.toInt32 (Int32.toUInt32 (c &&& 255) % 65536))) = c := by decide +kernel
section PT
variable (K : Nat) (g : jm_Rec) (x : jm_X) {k : Nat} (hk : k < 73)
theorem v_JS_coder (hk : k < 73) : f_JS_coder K g (2000 + k) x = rI 0 x := by
  simp only [f_JS_coder, cn_str hk, if_true, J_JS_coder_14, show ¬ ((1 : Int32) = 0) by decide, if_false]
  rfl
theorem v_JS_length (hk : k < 73) : f_JS_length K g (2000 + k) x = rI (nI (tx k).length) x := by
  simp only [f_JS_length, cn_str hk, if_true, Nat.add_sub_cancel_left, cn_byt hk, v_JS_coder K g x hk, jm_bI_some]
  refine congrArg (fun v => rI v x) ?_
  show (Int32.ofNat (tx k).length) >>> 0 = nI (tx k).length
  simp [nI]
theorem v_JS_isLatin1 (hk : k < 73) : f_JS_isLatin1 K g (2000 + k) x = rI 1 x := by
  simp only [f_JS_isLatin1, cn_str hk, if_true, J_JS_isLatin1_18, show ¬ ((1 : Int32) = 0) by decide, if_false]
  rfl
theorem v_JS_charAt (hk : k < 73) {i : Nat} (hi : i < (tx k).length) : f_JS_charAt K g (2000 + k) (nI i) x = rI ((tx k).getD i 0) x := by
  have hl := tx_len k hk
  have hi2 : i < 2 ^ 31 := by omega
  have e1 : ¬ nI i < 0 := nI_pos hi2
  have e2 : nI i < Int32.ofNat (tx k).length := nI_lt hi (by omega)
  have e3 : jm_ix (tx k).length (nI i) = true := by
    simp only [jm_ix, nI_clamp hi2, Bool.and_eq_true, decide_eq_true_eq]; exact ⟨e1, hi⟩
  have e4 : (tx k).getD i 0 ∈ tx k := by
    rw [List.getD_eq_getElem?_getD, List.getElem?_eq_getElem hi]; exact List.getElem_mem hi
  have e5 := tx_chr k hk _ e4
  simp only [f_JS_charAt, cn_str hk, if_true, v_JS_isLatin1 K g x hk, jm_bI_some, show ¬ ((1 : Int32) = 0) by decide, if_false, Nat.add_sub_cancel_left]
  simp only [f_JL_charAt, cn_byt hk, if_true, Nat.add_sub_cancel_left, f_JS_checkIndex]
  change jm_bI (jm_bV (jm_bI (if nI i < 0 then none else if nI i < Int32.ofNat (tx k).length then _ else none) _) _) _ = _
  rw [if_neg e1, if_pos e2]
  simp only [jm_bI_some, jm_bV_some]
  change jm_bI (if jm_ix (tx k).length (nI i) = true then _ else none) _ = _
  rw [if_pos e3, nI_clamp hi2]
  simp only [jm_bI_some]
  exact congrArg (fun v => rI v x) e5
end PT
def tpB (B : Nat → Fin 256) : Nat → Int32 := fun i => sB (B i)
/-- m bytes from p on are the text's characters from a on -/
def eqT (B : Nat → Fin 256) (s : List Int32) : Nat → Nat → Nat → Bool
  | 0, _, _ => true
  | m + 1, p, a => decide (tpB B p = s.getD a 0) && eqT B s m (p + 1) (a + 1)
/-- m bytes from p on are those from q on -/
def eqN (B : Nat → Fin 256) : Nat → Nat → Nat → Bool
  | 0, _, _ => true
  | m + 1, p, q => decide (tpB B p = tpB B q) && eqN B m (p + 1) (q + 1)
section PT2
variable {K : Nat} {g : jm_Rec} {x : jm_X} {B : Nat → Fin 256} {k : Nat}
theorem v_B_isText_L (hk : k < 73) (hT : x.2.2 1 = tpB B) {p e a : Nat} (hp : p ≤ e) (he : e ≤ 16384) (ha : a + (e - p) ≤ (tx k).length) : ∀ (m j f : Nat), m < f → j + m = e - p →
    L_B_isText_33 K g f 1 (nI p) (nI e) (2000 + k) (nI a) (nI j) x = rI (bI (eqT B (tx k) m (p + j) (a + j))) x
  | m, j, 0, hf, _ => absurd hf (Nat.not_lt_zero _)
  | 0, j, f + 1, hf, hj => by
    have hl := tx_len k hk
    simp only [L_B_isText_33, B_B_isText_33, pu_sub hp]
    rw [if_pos (nI_le (by omega) (by omega))]; rfl
  | m + 1, j, f + 1, hf, hj => by
    have hl := tx_len k hk
    simp only [L_B_isText_33, B_B_isText_33, pu_sub hp]
    rw [if_neg (nI_ge (by omega) (by omega)), nI_add, nI_add, if_pos (pu_in (n := 16384) rfl (by omega) (by omega)), if_pos (cn_str hk), v_JS_charAt K g x hk (by omega), jm_bI_some, nI_clamp (by omega), hT, nI_1]
    simp only [eqT]
    by_cases h : tpB B (p + j) = (tx k).getD (a + j) 0
    · rw [if_pos h, v_B_isText_L hk hT hp he ha m (j + 1) f (by omega) (by omega), decide_eq_true h]; rfl
    · rw [if_neg h, decide_eq_false h]; rfl
theorem v_B_isText (hK : 20000 ≤ K) (hk : k < 73) (hT : x.2.2 1 = tpB B) {p e a : Nat} (hp : p ≤ e) (he : e ≤ 16384) (ha : a ≤ (tx k).length) :
    f_B_isText K g 1 (nI p) (nI e) (2000 + k) (nI a) x = rI (bI (decide (a + (e - p) ≤ (tx k).length) && eqT B (tx k) (e - p) p a)) x := by
  have hl := tx_len k hk
  simp only [f_B_isText, J_B_isText_28]
  rw [if_neg (nI_pos (by omega))]
  change (if (nI 16384) < nI e then _ else _) = _
  rw [if_neg (nI_nlt he (by omega)), if_neg (nI_pos (by omega)), if_pos (cn_str hk), v_JS_length K g x hk, jm_bI_some, pu_sub hp, pu_sub ha]
  by_cases h : a + (e - p) ≤ (tx k).length
  · rw [if_pos (nI_le (by omega) (by omega)), decide_eq_true h]
    have := v_B_isText_L (K := K) (g := g) hk hT hp he h (e - p) 0 K (by omega) (by omega)
    rw [nI_0] at this
    exact this
  · rw [if_neg (nI_ge (by omega) (by omega)), decide_eq_false h]; rfl
theorem v_M_spells_L (hk : k < 73) (hT : x.2.2 3 = tpB B) {p n : Nat} (hn : n = (tx k).length) (he : p + n ≤ 16384) : ∀ (m j f : Nat), m < f → j + m = n →
    L_M_spells_13 K g f (nI p) (nI n) (2000 + k) (nI j) x = rI (bI (eqT B (tx k) m (p + j) j)) x
  | m, j, 0, hf, _ => absurd hf (Nat.not_lt_zero _)
  | 0, j, f + 1, hf, hj => by
    have hl := tx_len k hk
    simp only [L_M_spells_13, B_M_spells_13]
    rw [if_pos (nI_le (by omega) (by omega))]; rfl
  | m + 1, j, f + 1, hf, hj => by
    have hl := tx_len k hk
    simp only [L_M_spells_13, B_M_spells_13]
    rw [if_neg (nI_ge (by omega) (by omega)), nI_add, if_pos (pu_in (n := 16384) rfl (by omega) (by omega)), if_pos (cn_str hk), v_JS_charAt K g x hk (by omega), jm_bI_some, nI_clamp (by omega), hT, nI_1]
    simp only [eqT]
    by_cases h : tpB B (p + j) = (tx k).getD j 0
    · rw [if_pos h, v_M_spells_L hk hT hn he m (j + 1) f (by omega) (by omega), decide_eq_true h]; rfl
    · rw [if_neg h, decide_eq_false h]; rfl
theorem v_M_spells (hK : 20000 ≤ K) (hk : k < 73) (hT : x.2.2 3 = tpB B) {p n : Nat} (he : p + n ≤ 16384) :
    f_M_spells K g (nI p) (nI n) (2000 + k) x = rI (bI (decide (n = (tx k).length) && eqT B (tx k) n p 0)) x := by
  have hl := tx_len k hk
  simp only [f_M_spells]
  rw [if_pos (cn_str hk), v_JS_length K g x hk, jm_bI_some]
  by_cases h : n = (tx k).length
  · rw [if_pos (by rw [h]), decide_eq_true h]
    have := v_M_spells_L (K := K) (g := g) hk hT h he n 0 K (by omega) (by omega)
    rw [nI_0] at this
    exact this
  · rw [if_neg (by rw [nI_eq (by omega) (by omega)]; exact h), decide_eq_false h]; rfl
theorem v_B_same_L (hT : x.2.2 1 = tpB B) {p q n : Nat} (hp : p + n ≤ 16384) (hq : q + n ≤ 16384) : ∀ (m j f : Nat), m < f → j + m = n →
    L_B_same_29 K g f 1 (nI p) (nI q) (nI n) (nI j) x = rI (bI (eqN B m (p + j) (q + j))) x
  | m, j, 0, hf, _ => absurd hf (Nat.not_lt_zero _)
  | 0, j, f + 1, hf, hj => by
    simp only [L_B_same_29, B_B_same_29]
    rw [if_pos (nI_le (by omega) (by omega))]; rfl
  | m + 1, j, f + 1, hf, hj => by
    simp only [L_B_same_29, B_B_same_29]
    rw [if_neg (nI_ge (by omega) (by omega)), nI_add, nI_add, if_pos (pu_in (n := 16384) rfl (by omega) (by omega)), if_pos (pu_in (n := 16384) rfl (by omega) (by omega)), nI_clamp (by omega), nI_clamp (by omega), hT, nI_1]
    simp only [eqN]
    by_cases h : tpB B (p + j) = tpB B (q + j)
    · rw [if_pos h, v_B_same_L hT hp hq m (j + 1) f (by omega) (by omega), decide_eq_true h]; rfl
    · rw [if_neg h, decide_eq_false h]; rfl
theorem v_B_same (hK : 20000 ≤ K) (hT : x.2.2 1 = tpB B) {p q n : Nat} (hp : p + n ≤ 16384) (hq : q + n ≤ 16384) : f_B_same K g 1 (nI p) (nI q) (nI n) x = rI (bI (eqN B n p q)) x := by
  simp only [f_B_same, J_B_same_24]
  rw [if_neg (nI_pos (by omega)), if_neg (nI_pos (by omega)), nI_add, nI_add]
  change (if (nI 16384) < nI (p + n) then _ else (if nI (q + n) ≤ nI 16384 then _ else _)) = _
  rw [if_neg (nI_nlt hp (by omega)), if_pos (nI_le hq (by omega))]
  have := v_B_same_L (K := K) (g := g) hT hp hq n 0 K (by omega) (by omega)
  rw [nI_0] at this
  exact this
end PT2

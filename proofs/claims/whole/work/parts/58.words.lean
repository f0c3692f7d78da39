/-! PURE, 9: a sign that was read; words. -/
def LX (B : Nat → Fin 256) (n : Nat) (L : Nat × Nat × Nat) : Prop := ∃ p, p ≤ n ∧ L = lexB B n p
/-- what is known of a sign that was read -/
def LF (B : Nat → Fin 256) (n : Nat) (L : Nat × Nat × Nat) : Prop :=
  L.1 ≤ L.2.1 ∧ L.2.1 ≤ n ∧ L.2.2 < 55 ∧ (L.2.2 ≠ 0 → L.2.2 ≠ 1 → L.1 < L.2.1) ∧ (tokS L.2.2 = 1 → L.2.2 = ofNm B L.1 L.2.1 55 0) ∧ (L.2.2 = 6 → L.2.1 = L.1 + 1) ∧ (L.2.2 = 0 → L.1 = n)
theorem ofNm_lt (B : Nat → Fin 256) (p e : Nat) : ∀ f i, i + f ≤ 55 → ofNm B p e f i < 55
  | 0, i, _ => by simp [ofNm]
  | f + 1, i, h => by
    simp only [ofNm]
    split
    · omega
    · exact ofNm_lt B p e f (i + 1) (by omega)
theorem rnB_gt {P : Fin 256 → Bool} {B : Nat → Fin 256} {n s : Nat} (hs : s < n) (h : P (B s) = true) : s < rnB P B n (n - s) s := by
  rw [show n - s = (n - (s + 1)) + 1 by omega]
  simp only [rnB, if_pos hs, h, if_true]
  exact rnB_ge P B n _ _
theorem ofSy_le {B : Nat → Fin 256} {p n : Nat} : ∀ f i l, p + (tx (sg_txt.getD l 0)).length ≤ n → p ≤ n → p + (tx (sg_txt.getD (ofSy B p n f i l) 0)).length ≤ n
  | 0, i, l, h, _ => h
  | f + 1, i, l, h, hp => by
    simp only [ofSy]
    split
    · rename_i hc; exact ofSy_le f (i + 1) i (by have := hc.2.2.1; omega) hp
    · exact ofSy_le f (i + 1) l h hp
/-- the sign that is found has no letters and, if it isn't NO_SIGN, a text -/
theorem ofSy_kind {B : Nat → Fin 256} {p n : Nat} : ∀ f i l, i + f ≤ 55 → (l = 1 ∨ (sg_word.getD l 0 = 0 ∧ 0 < (tx (sg_txt.getD l 0)).length ∧ l < 55)) → (ofSy B p n f i l = 1 ∨ (sg_word.getD (ofSy B p n f i l) 0 = 0 ∧ 0 < (tx (sg_txt.getD (ofSy B p n f i l) 0)).length ∧ ofSy B p n f i l < 55))
  | 0, i, l, _, h => h
  | f + 1, i, l, hi, h => by
    simp only [ofSy]
    split
    · rename_i hc; exact ofSy_kind f (i + 1) i (by omega) (Or.inr ⟨hc.1, by have := hc.2.1; omega, by omega⟩)
    · exact ofSy_kind f (i + 1) l (by omega) h
theorem sg_sym : ∀ k, k < 55 → sg_word.getD k 0 = 0 → 0 < (tx (sg_txt.getD k 0)).length → tokS k ≠ 1 ∧ k ≠ 0 ∧ (k = 6 → (tx (sg_txt.getD k 0)).length = 1) := by decide +kernel
theorem LX.facts {B : Nat → Fin 256} {n : Nat} {L : Nat × Nat × Nat} (h : LX B n L) : LF B n L := by
  obtain ⟨p, hp, rfl⟩ := h
  have hsn : skB B n (n - p) false p ≤ n := skB_le B n _ _ _ hp
  unfold lexB
  generalize skB B n (n - p) false p = s at hsn
  by_cases hs : s < n
  · rw [if_pos hs]
    by_cases hd : isDg (B s) = true
    · rw [if_pos hd]
      have := rnB_gt hs hd
      refine ⟨Nat.le_of_lt this, rnB_le _ _ _ _ _ hsn, ?_, fun _ _ => this, ?_, ?_, ?_⟩ <;> simp only [nvS] <;> split <;> simp [tokS, tokL]
    · rw [if_neg hd]
      by_cases hm : isNm0 (B s) = true
      · rw [if_pos hm]
        have := rnB_gt (P := isNm) (B := B) hs (by simp [isNm, hm])
        have e1 := tok_ofNm B s (rnB isNm B n (n - s) s) 55 0 (by omega)
        refine ⟨Nat.le_of_lt this, rnB_le _ _ _ _ _ hsn, ofNm_lt _ _ _ _ _ (by omega), fun _ _ => this, fun _ => rfl, fun z => ?_, fun z => ?_⟩
        · simp only at z; rw [z] at e1; exact absurd e1 (by decide)
        · simp only at z; rw [z] at e1; exact absurd e1 (by decide)
      · rw [if_neg hm]
        by_cases hv : ((B s).val = 46 ∨ (B s).val = 36) ∧ s + 1 < n ∧ isNm0 (B (s + 1)) = true
        · rw [if_pos hv]
          have := rnB_gt (P := isNm) (B := B) hv.2.1 (by simp [isNm, hv.2.2])
          refine ⟨Nat.le_of_lt (Nat.lt_trans (Nat.lt_succ_self s) this), rnB_le _ _ _ _ _ (by omega), ?_, fun _ _ => Nat.lt_trans (Nat.lt_succ_self s) this, ?_, ?_, ?_⟩ <;> simp only <;> split <;> simp [tokS, tokL]
        · rw [if_neg hv]
          have hk := ofSy_kind (B := B) (p := s) (n := n) 55 0 1 (by omega) (Or.inl rfl)
          have hl := ofSy_le (B := B) (p := s) (n := n) 55 0 1 (by show s + 0 ≤ n; omega) hsn
          have h55 := ofSy_lt B s n 55 0 1 (by omega) (by omega)
          generalize ofSy B s n 55 0 1 = k at hk hl h55
          rcases hk with rfl | ⟨k1, k2, k3⟩
          · exact ⟨Nat.le_add_right _ _, hl, h55, fun _ z => absurd rfl z, fun z => absurd z (show ¬ tokS 1 = 1 by decide), fun z => absurd z (show ¬ 1 = 6 by decide), fun z => absurd z (show ¬ 1 = 0 by decide)⟩
          · obtain ⟨q1, q2, q3⟩ := sg_sym k k3 k1 k2
            exact ⟨Nat.le_add_right _ _, hl, h55, fun _ _ => by show s < s + _; omega, fun z => absurd z q1, fun z => by show s + _ = s + 1; rw [q3 z], fun z => absurd z q2⟩
  · rw [if_neg hs]
    exact ⟨Nat.le_refl _, hsn, by show 0 < 55; omega, fun z => absurd rfl z, fun z => absurd z (show ¬ tokS 0 = 1 by decide), fun z => absurd z (show ¬ 0 = 6 by decide), fun _ => by show s = n; omega⟩
/-! words -/
theorem eqT_get {B : Nat → Fin 256} {t : List Int32} : ∀ m p a, eqT B t m p a = true → ∀ j, j < m → tpB B (p + j) = t.getD (a + j) 0
  | 0, p, a, _, j, hj => absurd hj (Nat.not_lt_zero _)
  | m + 1, p, a, h, j, hj => by
    simp only [eqT, Bool.and_eq_true] at h
    cases j with
    | zero => exact of_decide_eq_true h.1
    | succ j =>
      have := eqT_get m (p + 1) (a + 1) h.2 j (by omega)
      rw [show p + 1 + j = p + (j + 1) by omega, show a + 1 + j = a + (j + 1) by omega] at this
      exact this
theorem spl_inj {B : Nat → Fin 256} {p e j k : Nat} (h1 : spl B p e j = true) (h2 : spl B p e k = true) : tx j = tx k := by
  simp only [spl, Bool.and_eq_true, decide_eq_true_eq] at h1 h2
  apply List.ext_getElem?
  intro i
  by_cases hi : i < e - p
  · have a1 := eqT_get _ _ _ h1.2 i hi
    have a2 := eqT_get _ _ _ h2.2 i hi
    rw [Nat.zero_add] at a1 a2
    rw [List.getElem?_eq_getElem (by omega), List.getElem?_eq_getElem (by omega)]
    rw [List.getD_eq_getElem?_getD, List.getElem?_eq_getElem (by omega)] at a1 a2
    exact congrArg some (a1.symm.trans a2)
  · rw [List.getElem?_eq_none (by omega), List.getElem?_eq_none (by omega)]
theorem wd_injF : ∀ i j : Fin 55, (sg_word.getD i.val 0 != 0 && sg_word.getD j.val 0 != 0 && decide (tx (sg_txt.getD i.val 0) = tx (sg_txt.getD j.val 0))) = true → i = j := by decide +kernel
theorem wd_inj (i : Nat) (hi : i < 55) (j : Nat) (hj : j < 55) (h1 : ¬ sg_word.getD i 0 = 0) (h2 : ¬ sg_word.getD j 0 = 0) (h : tx (sg_txt.getD i 0) = tx (sg_txt.getD j 0)) : i = j :=
  congrArg Fin.val (wd_injF ⟨i, hi⟩ ⟨j, hj⟩ (by simp only [Bool.and_eq_true, bne_iff_ne, ne_eq, decide_eq_true_eq]; exact ⟨⟨h1, h2⟩, h⟩))
theorem ofNm_sound {B : Nat → Fin 256} {p e : Nat} : ∀ f i, i + f ≤ 55 → ofNm B p e f i ≠ 2 → ¬ sg_word.getD (ofNm B p e f i) 0 = 0 ∧ spl B p e (sg_txt.getD (ofNm B p e f i) 0) = true
  | 0, i, _, h => absurd rfl h
  | f + 1, i, hi, h => by
    simp only [ofNm] at h ⊢
    split
    · rename_i hc; exact hc
    · rename_i hc
      rw [if_neg hc] at h
      exact ofNm_sound f (i + 1) (by omega) h
theorem ofNm_none {B : Nat → Fin 256} {p e : Nat} : ∀ f i, i + f ≤ 55 → ofNm B p e f i = 2 → ∀ j, i ≤ j → j < i + f → ¬ sg_word.getD j 0 = 0 → spl B p e (sg_txt.getD j 0) = false
  | 0, i, _, h, j, h1, h2, _ => absurd h2 (by omega)
  | f + 1, i, hi, h, j, h1, h2, hw => by
    simp only [ofNm] at h
    by_cases hc : (¬ sg_word.getD i 0 = 0) ∧ spl B p e (sg_txt.getD i 0) = true
    · rw [if_pos hc] at h; subst h; exact absurd (show sg_word.getD 2 0 = 0 by decide) hc.1
    · rw [if_neg hc] at h
      by_cases hj : j = i
      · subst hj
        cases hz : spl B p e (sg_txt.getD j 0) with
        | false => rfl
        | true => exact absurd ⟨hw, hz⟩ hc
      · exact ofNm_none f (i + 1) (by omega) h j (by omega) (by omega) hw
/-- a word is spelled just where it is the sign -/
theorem ofNm_iff {B : Nat → Fin 256} {p e w : Nat} (hw : w < 55) (hw2 : ¬ sg_word.getD w 0 = 0) : spl B p e (sg_txt.getD w 0) = decide (ofNm B p e 55 0 = w) := by
  by_cases h2 : ofNm B p e 55 0 = 2
  · rw [ofNm_none 55 0 (by omega) h2 w (by omega) (by omega) hw2, h2, decide_eq_false]
    intro z; subst z; exact hw2 (by decide)
  · obtain ⟨a1, a2⟩ := ofNm_sound (B := B) (p := p) (e := e) 55 0 (by omega) h2
    have a3 := ofNm_lt B p e 55 0 (by omega)
    by_cases hz : ofNm B p e 55 0 = w
    · rw [← hz, a2]; simp
    · rw [decide_eq_false hz]
      cases hq : spl B p e (sg_txt.getD w 0) with
      | false => rfl
      | true => exact absurd (wd_inj _ a3 _ hw a1 hw2 (spl_inj a2 hq)) hz
/-- the sign of the reference's word (the text 2000 + j) -/
def ordL : List Nat := [43, 18, 19, 20, 21, 22, 23, 24, 25, 26, 27, 42, 28, 29, 30]
def ordW (j : Nat) : Nat := ordL.getD (j - 3) 0
theorem ordW_ok : ∀ j, j < 18 → 3 ≤ j → ordW j < 55 ∧ ¬ sg_word.getD (ordW j) 0 = 0 ∧ tx (sg_txt.getD (ordW j) 0) = tx j := by decide +kernel
theorem ordW_all : ∀ w, w < 55 → ¬ sg_word.getD w 0 = 0 → ∃ j : Fin 18, 3 ≤ j.val ∧ ordW j.val = w := by decide +kernel
theorem spl_tx {B : Nat → Fin 256} {p e j k : Nat} (h : tx j = tx k) : spl B p e j = spl B p e k := by simp only [spl, h]
theorem spl_ord {B : Nat → Fin 256} {p e j : Nat} (h3 : 3 ≤ j) (h18 : j < 18) : spl B p e j = decide (ofNm B p e 55 0 = ordW j) := by
  obtain ⟨a1, a2, a3⟩ := ordW_ok j h18 h3
  rw [← ofNm_iff a1 a2, spl_tx a3]

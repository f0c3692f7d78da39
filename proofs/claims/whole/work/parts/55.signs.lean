/-! PURE, 6: signs without letters: the class's search against the reference's table. -/
def tokL : List Int32 := [0, 25, 1, 2, 3, 4, 5, 14, 15, 24, 22, 23, 16, 17, 18, 19, 20, 21, 1, 1, 1, 1, 1, 1, 1, 1, 1, 1, 1, 1, 1, 6, 7, 8, 9, 9, 9, 9, 9, 9, 9, 9, 1, 1, 10, 10, 10, 10, 10, 10, 11, 12, 13, 13, 13]
/-- the reference's token of a sign -/
def tokS (k : Nat) : Int32 := tokL.getD k 0
def mtc (c d e : Int32) : List Int32 → Bool
  | [] => true
  | [a] => decide (c = a)
  | [a, b] => decide (c = a) && decide (d = b)
  | a :: b :: f :: _ => decide (c = a) && (decide (d = b) && decide (e = f))
def syF (c d e : Int32) : Nat → Nat → Nat → Nat
  | 0, _, l => l
  | f + 1, i, l => if sg_word.getD i 0 = 0 ∧ (tx (sg_txt.getD l 0)).length < (tx (sg_txt.getD i 0)).length ∧ mtc c d e (tx (sg_txt.getD i 0)) = true then syF c d e f (i + 1) i else syF c d e f (i + 1) l
theorem tx_shape : ∀ i, i < 55 → sg_word.getD i 0 = 0 → (tx (sg_txt.getD i 0)).length ≤ 3 ∧ (∀ c ∈ tx (sg_txt.getD i 0), c ≠ -1) ∧ (∀ b ∈ (tx (sg_txt.getD i 0)).drop 1, b = 61 ∨ b = 47 ∨ b = 46) ∧ (∀ b ∈ (tx (sg_txt.getD i 0)).drop 2, b = 61) := by decide +kernel
theorem mtc_iff {B : Nat → Fin 256} {n s : Nat} (hs : s < n) : ∀ t : List Int32, t.length ≤ 3 → (∀ c ∈ t, c ≠ -1) → ((t.length ≤ n - s ∧ eqT B t t.length s 0 = true) ↔ mtc (sB (B s)) (lkR B n (s + 1)) (lkR B n (s + 2)) t = true)
  | [], _, _ => by simp [eqT, mtc]
  | [a], _, _ => by
    simp [eqT, mtc, tpB]; omega
  | [a, b], _, hn => by
    have hb : b ≠ -1 := hn b (by simp)
    simp only [eqT, mtc, tpB, lkR, List.length_cons, List.length_nil, Bool.and_eq_true]
    by_cases h1 : s + 1 < n
    · simp only [if_pos h1]
      constructor
      · rintro ⟨_, h2, h3, _⟩; exact ⟨h2, h3⟩
      · rintro ⟨h2, h3⟩; exact ⟨by omega, h2, h3, trivial⟩
    · simp only [if_neg h1]
      constructor
      · rintro ⟨h0, _⟩; omega
      · rintro ⟨_, h3⟩; exact absurd (of_decide_eq_true h3).symm hb
  | [a, b, f], _, hn => by
    have hb : b ≠ -1 := hn b (by simp)
    have hf : f ≠ -1 := hn f (by simp)
    simp only [eqT, mtc, tpB, lkR, List.length_cons, List.length_nil, Bool.and_eq_true]
    by_cases h2 : s + 2 < n
    · simp only [if_pos h2, if_pos (show s + 1 < n by omega)]
      constructor
      · rintro ⟨_, h2, h3, h4, _⟩; exact ⟨h2, h3, h4⟩
      · rintro ⟨h2, h3, h4⟩; exact ⟨by omega, h2, h3, h4, trivial⟩
    · simp only [if_neg h2]
      constructor
      · rintro ⟨h0, _⟩; omega
      · rintro ⟨_, _, h3⟩; exact absurd (of_decide_eq_true h3).symm hf
  | a :: b :: c :: d :: t, h, _ => by simp at h
theorem ofSy_syF {B : Nat → Fin 256} {n s : Nat} (hs : s < n) : ∀ f i l, i + f ≤ 55 → ofSy B s n f i l = syF (sB (B s)) (lkR B n (s + 1)) (lkR B n (s + 2)) f i l
  | 0, i, l, _ => rfl
  | f + 1, i, l, h => by
    simp only [ofSy, syF]
    rw [ofSy_syF hs f (i + 1) i (by omega), ofSy_syF hs f (i + 1) l (by omega)]
    by_cases hw : sg_word.getD i 0 = 0
    · obtain ⟨h1, h2, -, -⟩ := tx_shape i (by omega) hw
      have := mtc_iff (B := B) hs _ h1 h2
      by_cases hc : sg_word.getD i 0 = 0 ∧ (tx (sg_txt.getD l 0)).length < (tx (sg_txt.getD i 0)).length ∧ mtc (sB (B s)) (lkR B n (s + 1)) (lkR B n (s + 2)) (tx (sg_txt.getD i 0)) = true
      · rw [if_pos hc, if_pos ⟨hc.1, hc.2.1, this.mpr hc.2.2⟩]
      · rw [if_neg hc, if_neg (fun z => hc ⟨z.1, z.2.1, this.mp z.2.2⟩)]
    · rw [if_neg (fun z => hw z.1), if_neg (fun z => hw z.1)]
def rpD (d : Int32) : Int32 := if d = 61 then 61 else if d = 47 then 47 else if d = 46 then 46 else 0
def rpE (e : Int32) : Int32 := if e = 61 then 61 else 0
theorem rpD_iff (d b : Int32) (h : b = 61 ∨ b = 47 ∨ b = 46) : (d = b) = (rpD d = b) := by
  unfold rpD
  rcases h with rfl | rfl | rfl
  · by_cases h1 : d = 61
    · simp [h1]
    · by_cases h2 : d = 47
      · simp [h2]
      · by_cases h3 : d = 46
        · simp [h3]
        · simp [h1, h2, h3]
  · by_cases h1 : d = 61
    · simp [h1]
    · by_cases h2 : d = 47
      · simp [h2]
      · by_cases h3 : d = 46
        · simp [h3]
        · simp [h1, h2, h3]
  · by_cases h1 : d = 61
    · simp [h1]
    · by_cases h2 : d = 47
      · simp [h2]
      · by_cases h3 : d = 46
        · simp [h3]
        · simp [h1, h2, h3]
theorem rpE_iff (e : Int32) : (e = 61) = (rpE e = 61) := by
  unfold rpE
  by_cases h1 : e = 61
  · simp [h1]
  · simp [h1]
theorem mtc_rp (c d e : Int32) : ∀ t : List Int32, (∀ b ∈ t.drop 1, b = 61 ∨ b = 47 ∨ b = 46) → (∀ b ∈ t.drop 2, b = 61) → mtc c d e t = mtc c (rpD d) (rpE e) t
  | [], _, _ => rfl
  | [a], _, _ => rfl
  | [a, b], h, _ => by
    have hb := h b (by simp)
    simp only [mtc, rpD_iff d b hb]
  | a :: b :: f :: t, h, h2 => by
    have hb := h b (by simp)
    have hf := h2 f (by simp)
    subst hf
    simp only [mtc, rpD_iff d b hb, rpE_iff e]
theorem syF_rp (c d e : Int32) : ∀ f i l, i + f ≤ 55 → syF c d e f i l = syF c (rpD d) (rpE e) f i l
  | 0, i, l, _ => rfl
  | f + 1, i, l, h => by
    simp only [syF]
    rw [syF_rp c d e f (i + 1) i (by omega), syF_rp c d e f (i + 1) l (by omega)]
    by_cases hw : sg_word.getD i 0 = 0
    · obtain ⟨-, -, h1, h2⟩ := tx_shape i (by omega) hw
      rw [mtc_rp c d e _ h1 h2]
    · rw [if_neg (fun z => hw z.1), if_neg (fun z => hw z.1)]
/-- the reference's table: token and length -/
def sgP (c d e : Int32) : Int32 × Int32 :=
  if c = 33 then (if d = 61 then (10, 2) else (25, 2)) else if c = 34 then (5, 1) else if c = 37 then (if d = 61 then (9, 2) else (13, 1)) else if c = 40 then (16, 1) else if c = 41 then (17, 1) else
  if c = 42 then (if d = 61 then (9, 2) else (13, 1)) else if c = 43 then (if d = 61 then (9, 2) else (11, 1)) else if c = 44 then (7, 1) else if c = 45 then (if d = 61 then (9, 2) else (12, 1)) else
  if c = 47 then (if d = 47 then (if e = 61 then (9, 3) else (8, 2)) else (if d = 61 then (9, 2) else (13, 1))) else if c = 58 then (22, 1) else if c = 59 then (23, 1) else if c = 60 then (if d = 61 then (10, 2) else (10, 1)) else
  if c = 61 then (if d = 61 then (10, 2) else (9, 1)) else if c = 62 then (if d = 61 then (10, 2) else (10, 1)) else if c = 63 then (24, 1) else if c = 91 then (18, 1) else if c = 93 then (19, 1) else if c = 123 then (20, 1) else
  if c = 124 then (if d = 61 then (9, 2) else (6, 1)) else if c = 125 then (21, 1) else (25, 1)
theorem tk_ite {c : Prop} [Decidable c] (a b : Int32 × Int32) (x : jm_X) : (if c then rV (tkR x a) else rV (tkR x b)) = rV (tkR x (if c then a else b)) := by split <;> rfl
theorem sgP_rp (c d e : Int32) : sgP c d e = sgP c (rpD d) (rpE e) := by
  simp only [sgP, rpD_iff d 61 (Or.inl rfl), rpD_iff d 47 (Or.inr (Or.inl rfl)), rpE_iff e]
set_option maxRecDepth 100000 in
theorem sgP_syF : ∀ c : Fin 256, c.val ≠ 36 → c.val ≠ 46 → isNm0 c = false → isDg c = false → ∀ d ∈ ([61, 47, 46, 0] : List Int32), ∀ e ∈ ([61, 0] : List Int32), (sgP (sB c) d e).1 = tokS (syF (sB c) d e 55 0 1) ∧ (syF (sB c) d e 55 0 1 ≠ 1 → (sgP (sB c) d e).2 = nI (tx (sg_txt.getD (syF (sB c) d e 55 0 1) 0)).length) := by decide +kernel

/-! PURE, 14: the lists of names that are known anywhere. -/
/-- the class's search: the list has a blank behind each name -/
def lsC (B : Nat → Fin 256) (t : List Int32) (p m : Nat) : Nat → Nat → Nat → Bool
  | 0, _, _ => false
  | f + 1, l, i => if i < t.length then (if t.getD i 0 = 32 then (if i - l = m ∧ eqT B t m p l = true then true else lsC B t p m f (i + 1) (i + 1)) else lsC B t p m f l (i + 1)) else false
/-- the reference's: a blank before each, too -/
def lsR (B : Nat → Fin 256) (t : List Int32) (p m : Nat) : Nat → Nat → Bool
  | 0, _ => false
  | f + 1, i => if i + m + 2 ≤ t.length then (if t.getD i 0 = 32 ∧ t.getD (i + m + 1) 0 = 32 ∧ eqT B t m p (i + 1) = true then true else lsR B t p m f (i + 1)) else false
def lsAt (B : Nat → Fin 256) (t : List Int32) (p m r : Nat) : Prop := r + m + 1 ≤ t.length ∧ (32 :: t).getD r 0 = 32 ∧ t.getD (r + m) 0 = 32 ∧ eqT B t m p r = true
theorem eqT_cons (B : Nat → Fin 256) (u : Int32) (t : List Int32) : ∀ m p a, eqT B (u :: t) m p (a + 1) = eqT B t m p a
  | 0, p, a => rfl
  | m + 1, p, a => by
    simp only [eqT, eqT_cons B u t m (p + 1) (a + 1)]
    rfl
theorem lsC_iff {B : Nat → Fin 256} {t : List Int32} {p m : Nat} (hb : ∀ j, j < m → tpB B (p + j) ≠ 32) : ∀ (f l i : Nat), l ≤ i → i + f = t.length + 1 → (∀ j, l ≤ j → j < i → t.getD j 0 ≠ 32) → (32 :: t).getD l 0 = 32 →
    (lsC B t p m f l i = true ↔ ∃ r, l ≤ r ∧ i ≤ r + m ∧ lsAt B t p m r)
  | 0, l, i, hl, hi, hn, hz => ⟨(fun h => by cases h), fun ⟨r, h1, h2, h3, _⟩ => by omega⟩
  | f + 1, l, i, hl, hi, hn, hz => by
    simp only [lsC]
    by_cases hlt : i < t.length
    · rw [if_pos hlt]
      -- a blank at r in the longer list is, but for the first, one at r - 1 here
      have hsp : ∀ r, l < r → (32 :: t).getD r 0 = 32 → i ≤ r - 1 := by
        intro r hr h32
        by_cases hc : i ≤ r - 1
        · exact hc
        · have := hn (r - 1) (by omega) (by omega)
          rw [show r = (r - 1) + 1 by omega] at h32
          exact absurd h32 this
      by_cases h32 : t.getD i 0 = 32
      · rw [if_pos h32]
        by_cases hc : i - l = m ∧ eqT B t m p l = true
        · rw [if_pos hc]
          refine ⟨fun _ => ⟨l, Nat.le_refl _, by omega, by omega, hz, ?_, hc.2⟩, fun _ => rfl⟩
          rw [show l + m = i by omega]; exact h32
        · rw [if_neg hc, lsC_iff hb f (i + 1) (i + 1) (Nat.le_refl _) (by omega) (fun j h1 h2 => by omega) h32]
          constructor
          · rintro ⟨r, h1, h2, h3⟩; exact ⟨r, by omega, by omega, h3⟩
          · rintro ⟨r, h1, h2, h3, h4, h5, h6⟩
            by_cases hr : r = l
            · subst hr
              exfalso
              by_cases hm : i = r + m
              · exact hc ⟨by omega, h6⟩
              · have e := eqT_get _ _ _ h6 (i - r) (by omega)
                rw [show r + (i - r) = i by omega, h32] at e
                exact hb (i - r) (by omega) e
            · have := hsp r (by omega) h4
              exact ⟨r, by omega, by omega, h3, h4, h5, h6⟩
      · rw [if_neg h32, lsC_iff hb f l (i + 1) (by omega) (by omega) (fun j h1 h2 => by
          by_cases hj : j = i
          · rw [hj]; exact h32
          · exact hn j h1 (by omega)) hz]
        constructor
        · rintro ⟨r, h1, h2, h3⟩; exact ⟨r, h1, by omega, h3⟩
        · rintro ⟨r, h1, h2, h3, h4, h5, h6⟩
          refine ⟨r, h1, ?_, h3, h4, h5, h6⟩
          by_cases hr : r = l
          · by_cases hm : i = r + m
            · rw [← hm] at h5; exact absurd h5 h32
            · omega
          · have := hsp r (by omega) h4
            omega
    · rw [if_neg hlt]
      refine ⟨(fun h => by cases h), ?_⟩
      rintro ⟨r, h1, h2, h3, _⟩
      omega
theorem lsR_iff {B : Nat → Fin 256} {t : List Int32} {p m : Nat} : ∀ (f i : Nat), i + f = t.length + 1 → (lsR B t p m f i = true ↔ ∃ r, i ≤ r ∧ r + m + 2 ≤ t.length ∧ t.getD r 0 = 32 ∧ t.getD (r + m + 1) 0 = 32 ∧ eqT B t m p (r + 1) = true)
  | 0, i, hi => ⟨(fun h => by cases h), fun ⟨r, h1, h2, _⟩ => by omega⟩
  | f + 1, i, hi => by
    simp only [lsR]
    by_cases hlt : i + m + 2 ≤ t.length
    · rw [if_pos hlt]
      by_cases hc : t.getD i 0 = 32 ∧ t.getD (i + m + 1) 0 = 32 ∧ eqT B t m p (i + 1) = true
      · rw [if_pos hc]; exact ⟨fun _ => ⟨i, Nat.le_refl _, hlt, hc⟩, fun _ => rfl⟩
      · rw [if_neg hc, lsR_iff f (i + 1) (by omega)]
        constructor
        · rintro ⟨r, h1, h2⟩; exact ⟨r, by omega, h2⟩
        · rintro ⟨r, h1, h2, h3⟩
          by_cases hr : r = i
          · subst hr; exact absurd h3 hc
          · exact ⟨r, by omega, h2, h3⟩
    · rw [if_neg hlt]
      refine ⟨(fun h => by cases h), ?_⟩
      rintro ⟨r, h1, h2, _⟩
      omega
theorem lsC_lsR {B : Nat → Fin 256} {t : List Int32} {p m : Nat} (hb : ∀ j, j < m → tpB B (p + j) ≠ 32) : lsC B t p m (t.length + 1) 0 0 = lsR B (32 :: t) p m (t.length + 2) 0 := by
  rw [Bool.eq_iff_iff, lsC_iff hb _ 0 0 (Nat.le_refl _) (by omega) (fun j h1 h2 => by omega) rfl, lsR_iff _ 0 (by simp)]
  constructor
  · rintro ⟨r, -, -, h3, h4, h5, h6⟩
    exact ⟨r, Nat.zero_le _, by simp; omega, h4, h5, by rw [eqT_cons]; exact h6⟩
  · rintro ⟨r, -, h2, h3, h4, h5⟩
    rw [eqT_cons] at h5
    simp only [List.length_cons] at h2
    exact ⟨r, Nat.zero_le _, Nat.zero_le _, by omega, h3, h4, h5⟩
section PX
variable {K : Nat} {g : jm_Rec} {B : Nat → Fin 256} {n : Nat} {x : jm_X} {k : Nat}
theorem c_listed_L (hK : 20000 ≤ K) (hk : k < 73) (h604 : x.2.1 604 = 1) (hT : x.2.2 1 = tpB B) {p e : Nat} (hp : p ≤ e) (he : e ≤ 16384) : ∀ (m l i f : Nat), m ≤ f → i + m = (tx k).length + 1 → l ≤ i → L_N_isListed_6 K g f (2000 + k) (nI p) (nI e) (nI l) (nI i) x = rI (bI (lsC B (tx k) p (e - p) m l i)) x ∨ i = (tx k).length + 1
  | 0, l, i, f, hf, hi, hl => Or.inr (by omega)
  | m + 1, l, i, 0, hf, hi, hl => by omega
  | m + 1, l, i, f + 1, hf, hi, hl => by
    left
    have hlen := tx_len k hk
    simp only [L_N_isListed_6, B_N_isListed_6, J_N_isListed_60, J_N_isListed_54, lsC]
    rw [if_pos (cn_str hk), v_JS_length K g x hk, jm_bI_some]
    by_cases hlt : i < (tx k).length
    · rw [if_neg (nI_ge hlt (by omega)), if_pos (cn_str hk), v_JS_charAt K g x hk hlt, jm_bI_some, if_pos hlt]
      rw [h604, pu_sub hl, pu_sub hp, nI_1]
      have ih1 := (c_listed_L hK hk h604 hT hp he m (i + 1) (i + 1) f (by omega) (by omega) (Nat.le_refl _)).resolve_right (by omega)
      have ih2 := (c_listed_L hK hk h604 hT hp he m l (i + 1) f (by omega) (by omega) (by omega)).resolve_right (by omega)
      by_cases h32 : (tx k).getD i 0 = 32
      · rw [if_pos h32, if_pos h32]
        by_cases hm : i - l = e - p
        · rw [if_pos (by rw [hm]), v_B_isText hK hk hT hp he (by omega), jm_bI_some, bI_ite, decide_eq_true (show l + (e - p) ≤ (tx k).length by omega), Bool.true_and, ih1]
          by_cases hz : eqT B (tx k) (e - p) p l = true
          · rw [if_pos hz, if_pos ⟨hm, hz⟩]; rfl
          · rw [if_neg hz, if_neg (fun z => hz z.2)]
        · rw [if_neg (fun z => hm ((nI_eq (by omega) (by omega)).mp z)), if_neg (fun z => hm z.1), ih1]
      · rw [if_neg h32, if_neg h32, ih2]
    · rw [if_pos (nI_le (by omega) (by omega)), if_neg hlt]; rfl
theorem c_listed (hK : 20000 ≤ K) (hk : k < 73) (h604 : x.2.1 604 = 1) (hT : x.2.2 1 = tpB B) {p e : Nat} (hp : p ≤ e) (he : e ≤ 16384) {a : Nat} (ha : a = 2000 + k) : f_N_isListed K g a (nI p) (nI e) x = rI (bI (lsC B (tx k) p (e - p) ((tx k).length + 1) 0 0)) x := by
  subst ha
  have hlen := tx_len k hk
  exact (c_listed_L (K := K) (g := g) hK hk h604 hT hp he ((tx k).length + 1) 0 0 K (by omega) (by omega) (Nat.le_refl _)).resolve_right (by omega)
end PX

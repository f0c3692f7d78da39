/-! PURE, 11: the reference's small steps on its state. -/
def cR (x : jm_X) (k : Nat) : jm_X := (x.1, x.2.1, va_up x.2.2 4 (cnt (x.2.2 4) k))
/-- the token a is the sign k and no other -/
def tkU (a : Int32) (k : Nat) : Prop := ∀ j : Nat, j < 55 → (tokS j = a ↔ j = k)
def tkUb (a : Int32) (k : Nat) : Bool := (List.range 55).all (fun j => decide (tokS j = a) == decide (j = k))
theorem tkU.of {a : Int32} {k : Nat} (h : tkUb a k = true) : tkU a k := by
  intro j hj
  have h1 := List.all_eq_true.mp h j (List.mem_range.mpr hj)
  have h2 : decide (tokS j = a) = decide (j = k) := eq_of_beq h1
  by_cases h3 : j = k
  · rw [decide_eq_true h3] at h2; exact ⟨fun _ => h3, fun _ => of_decide_eq_true h2⟩
  · rw [decide_eq_false h3] at h2; exact ⟨fun z => absurd z (of_decide_eq_false h2), fun z => absurd z h3⟩
def wdS (k : Nat) : Nat → Nat → Bool
  | 0, _ => false
  | m + 1, i => decide (k = ordW (i + 3)) || wdS k m (i + 1)
theorem wdS_ok : ∀ k, k < 55 → tokS k = 1 → wdS k 15 0 = decide (k ≠ 2) := by decide +kernel
section PM
variable {K : Nat} {g : jm_Rec} {B : Nat → Fin 256} {n : Nat} {L : Nat × Nat × Nat} {c : Nat → Int32} {N : List NE} {op pt : Nat} {x : jm_X}
theorem SR.lex (h : SR B n L c N op pt x) (q : Nat × Nat × Nat) {b : Int32} (hb : q.2.2 ≠ 0 → q.2.2 ≠ 1 → b = nI q.2.1) : SR B n q c N op pt (lxR x q b) := by
  obtain ⟨h1, h2, h3, h4, h5, h6, h7⟩ := h
  refine ⟨⟨?_, h1.2⟩, ⟨?_, ?_, ?_⟩, h3, ⟨?_, h4.2⟩, ⟨?_, ?_⟩, ?_, ?_⟩
  · simp [lxR, va_up, h1.1]
  · simp [lxR, va_up]
  · intro z1 z2; simp [lxR, va_up, hb z1 z2]
  · simp [lxR, va_up]
  · simp [lxR, va_up, h4.1]
  · simp [lxR, va_up, h5.1]
  · simp [lxR, va_up, h5.2]
  · simp [lxR, va_up, h6]
  · simp [lxR, va_up, h7]
theorem r_scan (hK : 20000 ≤ K) (h : SR B n L c N op pt x) (hl : L.2.1 ≤ n) (h0 : L.2.2 ≠ 0) (h1 : L.2.2 ≠ 1) : ∃ x', f_M_scan K g x = rV x' ∧ SR B n (lexB B n L.2.1) c N op pt x' := by
  obtain ⟨b, e, hb⟩ := v_M_scan (K := K) (g := g) hK h.1 (h.2.1.2.1 h0 h1) hl
  exact ⟨_, e, h.lex _ hb⟩
theorem r_scanAt (hK : 20000 ≤ K) (h : SR B n L c N op pt x) {p : Nat} (hp : p ≤ n) {a : Int32} (ha : a = nI p) : ∃ x', f_M_scan K g (va_up x.1 10 a, x.2) = rV x' ∧ SR B n (lexB B n p) c N op pt x' := by
  subst ha
  obtain ⟨b, e, hb⟩ := v_M_scan (K := K) (g := g) hK (x := (va_up x.1 10 (nI p), x.2)) (h.1.up (by decide) _) (va_up_self x.1 10 (nI p)) hp
  refine ⟨lxR x (lexB B n p) b, ?_, h.lex _ hb⟩
  rw [e]
  have : lxR (va_up x.1 10 (nI p), x.2) (lexB B n p) b = lxR x (lexB B n p) b := by
    simp only [lxR]
    rw [pu_upc _ _ _ (show (10 : Nat) ≠ 9 by decide), pu_upc _ _ _ (show (10 : Nat) ≠ 11 by decide), pu_up2]
  rw [this]
theorem r_cnt (h : SR B n L c N op pt x) (k : Nat) : SR B n L (cnt c k) N op pt (cR x k) := by
  obtain ⟨h1, h2, h3, h4, h5, h6, h7⟩ := h
  refine ⟨⟨h1.1, ?_, h1.2.2⟩, h2, ?_, ⟨h4.1, ?_⟩, h5, h6, h7⟩
  · simp [cR, va_up, h1.2.1]
  · simp [cR, va_up, h3]
  · intro i e he
    have := h4.2 i e he
    simp [cR, va_up, this]
/-- counted, and on -/
theorem r_cnt_eq {k : Nat} (hk : k < 34) {a : Int32} (ha : a = nI k) (f : jm_X → Option jm_R) (x : jm_X) : (if jm_in shR 4 .int a then (if jm_in shR 4 .int a then jm_then (jm_ua x 4 a ((x.2.2 4 (Int32.toNatClampNeg a)) + 1)) f else none) else none) = f (cR x k) := by
  subst ha
  rw [if_pos (pu_in (n := 34) rfl hk (by omega)), if_pos (pu_in (n := 34) rfl hk (by omega))]
  simp only [jm_then, jm_ua, nI_clamp (show k < 2 ^ 31 by omega)]
  rfl
theorem r_bad (h : SR B n L c N op pt x) (v : Int32) : jm_bA (f_M_bad K g v x) (fun b x1 => (if b = 2 then some (.inr ("java/lang/IllegalStateException", x1)) else none)) = some (.inr (ISE, (va_up x.1 7 v, x.2))) ∧ BrR B v (va_up x.1 7 v, x.2) := by
  refine ⟨rfl, h.1.2.1, va_up_self x.1 7 v, ?_, ?_⟩
  · simp [va_up, h.2.2.2.2.2.1]
  · simp [va_up, h.2.2.2.2.2.2]
theorem r_is (hK : 20000 ≤ K) (h : SR B n L c N op pt x) (hL : LF B n L) {j : Nat} (h3 : 3 ≤ j) (h18 : j < 18) {a : Nat} (ha : a = 2000 + j) : f_M_is K g a x = rI (bI (decide (L.2.2 = ordW j))) x := by
  subst ha
  have hn := h.1.2.2
  obtain ⟨a1, a2, a3⟩ := ordW_ok j h18 h3
  obtain ⟨l1, l2, l3, l4, l5, l6⟩ := hL
  simp only [f_M_is, J_M_is_33, J_M_is_34, h.2.1.2.2, h.2.1.1]
  by_cases ht : tokS L.2.2 = 1
  · have g0 : L.2.2 ≠ 0 := fun z => by rw [z] at ht; exact absurd ht (by decide)
    have g1 : L.2.2 ≠ 1 := fun z => by rw [z] at ht; exact absurd ht (by decide)
    rw [if_pos ht, h.2.1.2.1 g0 g1, pu_sub l1, v_M_spells hK (by omega) h.1.2.1 (by omega), jm_bI_some, bI_ite]
    have e : (decide (L.2.1 - L.1 = (tx j).length) && eqT B (tx j) (L.2.1 - L.1) L.1 0) = spl B L.1 L.2.1 j := rfl
    rw [e, spl_ord h3 h18, ← l5 ht]
    by_cases hz : L.2.2 = ordW j
    · rw [decide_eq_true hz]; rfl
    · rw [decide_eq_false hz]; rfl
  · rw [if_neg ht, decide_eq_false (fun z => ht (by rw [z]; exact tok_wd _ a1 a2))]; rfl
theorem wdR_get : ∀ i, i < 15 → wdR.getD i 0 = 2000 + (i + 3) := by decide +kernel
theorem r_isWord_L (hK : 20000 ≤ K) (h : SR B n L c N op pt x) (hL : LF B n L) (ht : tokS L.2.2 = 1) : ∀ (m i f : Nat), m < f → i + m = 15 → L_M_isWord_20 K g f (nI 15) (nI i) x = rI (bI (wdS L.2.2 m i)) x
  | m, i, 0, hf, _ => absurd hf (Nat.not_lt_zero _)
  | 0, i, f + 1, hf, hi => by
    simp only [L_M_isWord_20, B_M_isWord_20]
    rw [if_pos (nI_le (by omega) (by omega))]; rfl
  | m + 1, i, f + 1, hf, hi => by
    have hn := h.1.2.2
    obtain ⟨l1, l2, l3, l4, l5, l6⟩ := id hL
    have g0 : L.2.2 ≠ 0 := fun z => by rw [z] at ht; exact absurd ht (by decide)
    have g1 : L.2.2 ≠ 1 := fun z => by rw [z] at ht; exact absurd ht (by decide)
    have ih := r_isWord_L hK h hL ht m (i + 1) f (by omega) (by omega)
    simp only [L_M_isWord_20, B_M_isWord_20, h.2.1.1, h.2.1.2.1 g0 g1]
    rw [if_neg (nI_ge (by omega) (by omega)), show wdR.length = 15 from rfl, if_pos (pu_ix (n := 15) (by omega) (by omega)), nI_clamp (by omega), wdR_get i (by omega), pu_sub l1, v_M_spells hK (by omega) h.1.2.1 (by omega), jm_bI_some, bI_ite, nI_1, ih]
    have e : (decide (L.2.1 - L.1 = (tx (i + 3)).length) && eqT B (tx (i + 3)) (L.2.1 - L.1) L.1 0) = spl B L.1 L.2.1 (i + 3) := rfl
    rw [e, spl_ord (by omega) (by omega), ← l5 ht]
    simp only [wdS]
    by_cases hz : L.2.2 = ordW (i + 3)
    · rw [decide_eq_true hz, if_pos rfl]; rfl
    · rw [decide_eq_false hz, if_neg Bool.false_ne_true, Bool.false_or]
theorem r_isWord (hK : 20000 ≤ K) (h : SR B n L c N op pt x) (hL : LF B n L) : f_M_isWord K g x = rI (bI (decide (tokS L.2.2 = 1 ∧ L.2.2 ≠ 2))) x := by
  simp only [f_M_isWord, h.2.1.2.2]
  by_cases ht : tokS L.2.2 = 1
  · rw [if_pos ht, if_pos (by rfl)]
    have key := r_isWord_L (K := K) (g := g) hK h hL ht 15 0 K (by omega) (by omega)
    rw [nI_0] at key
    rw [show Int32.ofNat 15 = nI 15 from rfl, key, wdS_ok _ hL.2.2.1 ht]
    simp [ht]
  · rw [if_neg ht, decide_eq_false (fun z => ht z.1)]; rfl
theorem r_skip_s (hK : 20000 ≤ K) (h : SR B n L c N op pt x) (hL : LF B n L) {j : Nat} (h3 : 3 ≤ j) (h18 : j < 18) {a : Nat} (ha : a = 2000 + j) :
    (L.2.2 = ordW j → ∃ x', f_M_skip_s K g a x = rI 1 x' ∧ SR B n (lexB B n L.2.1) c N op pt x') ∧ (L.2.2 ≠ ordW j → f_M_skip_s K g a x = rI 0 x) := by
  constructor
  · intro hz
    obtain ⟨a1, a2, -⟩ := ordW_ok j h18 h3
    have ht := tok_wd _ a1 a2
    obtain ⟨x', e, hx⟩ := r_scan (K := K) (g := g) hK h hL.2.1 (fun z => by rw [← hz, z] at ht; exact absurd ht (by decide)) (fun z => by rw [← hz, z] at ht; exact absurd ht (by decide))
    refine ⟨x', ?_, hx⟩
    simp only [f_M_skip_s]
    rw [r_is hK h hL h3 h18 ha, jm_bI_some, bI_ite, decide_eq_true hz, if_pos rfl, e, jm_bV_some]
  · intro hz
    simp only [f_M_skip_s]
    rw [r_is hK h hL h3 h18 ha, jm_bI_some, bI_ite, decide_eq_false hz, if_neg Bool.false_ne_true]
theorem r_need_s (hK : 20000 ≤ K) (h : SR B n L c N op pt x) (hL : LF B n L) {j : Nat} (h3 : 3 ≤ j) (h18 : j < 18) {a : Nat} (ha : a = 2000 + j) :
    (L.2.2 = ordW j → ∃ x', f_M_need_s K g a x = rV x' ∧ SR B n (lexB B n L.2.1) c N op pt x') ∧ (L.2.2 ≠ ordW j → ∃ x', f_M_need_s K g a x = some (.inr (ISE, x')) ∧ BrR B (nI L.1) x') := by
  obtain ⟨k1, k2⟩ := r_skip_s (K := K) (g := g) hK h hL h3 h18 ha
  constructor
  · intro hz
    obtain ⟨x', e, hx⟩ := k1 hz
    refine ⟨x', ?_, hx⟩
    simp only [f_M_need_s]; rw [e, jm_bI_some, if_neg (by decide)]
  · intro hz
    obtain ⟨b1, b2⟩ := r_bad (K := K) (g := g) h (nI L.1)
    refine ⟨_, ?_, b2⟩
    simp only [f_M_need_s]; rw [k2 hz, jm_bI_some, if_pos rfl, h.2.1.1]; exact b1
theorem r_skip_i (hK : 20000 ≤ K) (h : SR B n L c N op pt x) (hL : LF B n L) {a : Int32} {k : Nat} (hu : tkU a k) (hk : k ≠ 0 ∧ k ≠ 1) :
    (L.2.2 = k → ∃ x', f_M_skip_i K g a x = rI 1 x' ∧ SR B n (lexB B n L.2.1) c N op pt x') ∧ (L.2.2 ≠ k → f_M_skip_i K g a x = rI 0 x) := by
  constructor
  · intro hz
    obtain ⟨x', e, hx⟩ := r_scan (K := K) (g := g) hK h hL.2.1 (by rw [hz]; exact hk.1) (by rw [hz]; exact hk.2)
    refine ⟨x', ?_, hx⟩
    simp only [f_M_skip_i, h.2.1.2.2]
    rw [if_pos ((hu _ hL.2.2.1).mpr hz), e, jm_bV_some]
  · intro hz
    simp only [f_M_skip_i, h.2.1.2.2]
    rw [if_neg (fun z => hz ((hu _ hL.2.2.1).mp z))]
theorem r_need_i (hK : 20000 ≤ K) (h : SR B n L c N op pt x) (hL : LF B n L) {a : Int32} {k : Nat} (hu : tkU a k) (hk : k ≠ 0 ∧ k ≠ 1) :
    (L.2.2 = k → ∃ x', f_M_need_i K g a x = rV x' ∧ SR B n (lexB B n L.2.1) c N op pt x') ∧ (L.2.2 ≠ k → ∃ x', f_M_need_i K g a x = some (.inr (ISE, x')) ∧ BrR B (nI L.1) x') := by
  obtain ⟨k1, k2⟩ := r_skip_i (K := K) (g := g) hK h hL hu hk
  constructor
  · intro hz
    obtain ⟨x', e, hx⟩ := k1 hz
    refine ⟨x', ?_, hx⟩
    simp only [f_M_need_i]; rw [e, jm_bI_some, if_neg (by decide)]
  · intro hz
    obtain ⟨b1, b2⟩ := r_bad (K := K) (g := g) h (nI L.1)
    refine ⟨_, ?_, b2⟩
    simp only [f_M_need_i]; rw [k2 hz, jm_bI_some, if_pos rfl, h.2.1.1]; exact b1
theorem r_enter (h : SR B n L c N op pt x) (ho : op ≤ 60) :
    (op = 60 → ∃ x', f_M_enter K g x = some (.inr (ISE, x')) ∧ BrR B (nI L.1) x') ∧ (op ≠ 60 → ∃ x', f_M_enter K g x = rV x' ∧ SR B n L c N (op + 1) pt x') := by
  obtain ⟨h1, h2, h3, h4, h5, h6, h7⟩ := id h
  constructor
  · intro hz
    obtain ⟨b1, b2⟩ := r_bad (K := K) (g := g) h (nI L.1)
    refine ⟨_, ?_, b2⟩
    simp only [f_M_enter, h5.1, h2.1]
    rw [if_pos (by rw [hz]; rfl)]; exact b1
  · intro hz
    refine ⟨(va_up x.1 12 (nI (op + 1)), x.2), ?_, ⟨?_, h1.2⟩, ⟨?_, ?_, ?_⟩, h3, ⟨?_, h4.2⟩, ⟨?_, ?_⟩, ?_, ?_⟩
    · simp only [f_M_enter, h5.1, jm_then]
      rw [show (60 : Int32) = nI 60 from rfl, if_neg (fun z => hz ((nI_eq (b := 60) (by omega) (by omega)).mp z)), nI_1]
    · simp [va_up, h1.1]
    · simp [va_up, h2.1]
    · intro z1 z2; simp [va_up, h2.2.1 z1 z2]
    · simp [va_up, h2.2.2]
    · simp [va_up, h4.1]
    · simp [va_up]
    · simp [va_up, h5.2]
    · simp [va_up, h6]
    · simp [va_up, h7]
end PM

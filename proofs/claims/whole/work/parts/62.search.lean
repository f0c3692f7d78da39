/-! PURE, 13: names: looked for, hidden. -/
def nmEq (B : Nat → Fin 256) (e : NE) (p m : Nat) : Bool := decide (e.2.2.1 = m) && eqN B m e.2.1 p
theorem NOk.get {n : Nat} {N : List NE} (h : NOk n N) {i : Nat} {e : NE} (hi : N[i]? = some e) : e.1 < 5 ∧ e.2.1 + e.2.2.1 ≤ n ∧ e.2.2.2 ≤ 10 := h.2 e (List.mem_of_getElem? hi)
theorem pu_m1 (a : Int32) : a + (-1) = a - 1 := by rw [Int32.sub_eq_add_neg]
/-- a name of a sort among the first j -/
def hsN (B : Nat → Fin 256) (N : List NE) (a p m : Nat) : Nat → Bool
  | 0 => false
  | j + 1 => (match N[j]? with
    | some e => decide (e.1 = a) && nmEq B e p m
    | none => false) || hsN B N a p m j
/-- the same, from i on -/
def huN (B : Nat → Fin 256) (N : List NE) (a p m : Nat) : Nat → Nat → Bool
  | 0, _ => false
  | f + 1, i => (match N[i]? with
    | some e => decide (e.1 = a) && nmEq B e p m
    | none => false) || huN B N a p m f (i + 1)
theorem hsN_iff (B : Nat → Fin 256) (N : List NE) (a p m : Nat) : ∀ j, hsN B N a p m j = true ↔ ∃ i e, i < j ∧ N[i]? = some e ∧ e.1 = a ∧ nmEq B e p m = true
  | 0 => ⟨(fun h => by cases h), fun ⟨i, e, h, _⟩ => absurd h (Nat.not_lt_zero _)⟩
  | j + 1 => by
    simp only [hsN, Bool.or_eq_true, hsN_iff B N a p m j]
    constructor
    · rintro (h | ⟨i, e, h1, h2⟩)
      · cases hj : N[j]? with
        | none => rw [hj] at h; cases h
        | some e =>
          rw [hj] at h
          simp only [Bool.and_eq_true, decide_eq_true_eq] at h
          exact ⟨j, e, Nat.lt_succ_self j, hj, h.1, h.2⟩
      · exact ⟨i, e, by omega, h2⟩
    · rintro ⟨i, e, h1, h2, h3, h4⟩
      by_cases hi : i = j
      · subst hi; left; rw [h2]; simp only [h3, h4, decide_true, Bool.and_self]
      · right; exact ⟨i, e, by omega, h2, h3, h4⟩
theorem huN_iff (B : Nat → Fin 256) (N : List NE) (a p m : Nat) : ∀ f j, huN B N a p m f j = true ↔ ∃ i e, j ≤ i ∧ i < j + f ∧ N[i]? = some e ∧ e.1 = a ∧ nmEq B e p m = true
  | 0, j => ⟨(fun h => by cases h), fun ⟨i, e, h, h2, _⟩ => by omega⟩
  | f + 1, j => by
    simp only [huN, Bool.or_eq_true, huN_iff B N a p m f (j + 1)]
    constructor
    · rintro (h | ⟨i, e, h1, h2, h3⟩)
      · cases hj : N[j]? with
        | none => rw [hj] at h; cases h
        | some e =>
          rw [hj] at h
          simp only [Bool.and_eq_true, decide_eq_true_eq] at h
          exact ⟨j, e, Nat.le_refl _, by omega, hj, h.1, h.2⟩
      · exact ⟨i, e, by omega, by omega, h3⟩
    · rintro ⟨i, e, h1, h0, h2, h3, h4⟩
      by_cases hi : i = j
      · subst hi; left; rw [h2]; simp only [h3, h4, decide_true, Bool.and_self]
      · right; exact ⟨i, e, by omega, by omega, h2, h3, h4⟩
theorem hsN_huN (B : Nat → Fin 256) (N : List NE) (a p m : Nat) : huN B N a p m N.length 0 = hsN B N a p m N.length := by
  rw [Bool.eq_iff_iff, hsN_iff, huN_iff]
  constructor
  · rintro ⟨i, e, -, h0, h⟩; exact ⟨i, e, by omega, h⟩
  · rintro ⟨i, e, h0, h⟩; exact ⟨i, e, by omega, by omega, h⟩
/-- the last function or parameter of that name with so many parameters, among the first j -/
def ckN (B : Nat → Fin 256) (N : List NE) (p m q : Nat) : Nat → Option Nat
  | 0 => none
  | j + 1 => match N[j]? with
    | some e => if e.1 ≤ 1 ∧ e.2.2.2 = q ∧ nmEq B e p m = true then some e.1 else ckN B N p m q j
    | none => ckN B N p m q j
theorem sC_inj : ∀ a, a < 5 → ∀ b, b < 5 → (sC a = sC b ↔ a = b) := by decide +kernel
theorem sC_neg : ∀ a, a < 5 → (sC a < 0 ↔ ¬ a ≤ 1) := by decide +kernel
theorem wR_2 : ∀ a, a < 5 → ((wR a = 2 ∧ lR a = 0) ↔ a = 2) := by decide +kernel
theorem wR_3 : ∀ a, a < 5 → ((wR a = 3 ∧ lR a = 0) ↔ a = 3) := by decide +kernel
theorem wR_1 : ∀ a, a < 5 → (((¬ 1 < wR a) ∧ lR a = 0) ↔ a ≤ 1) := by decide +kernel
theorem wR_0 : ∀ a, a ≤ 1 → ((if wR a = 0 then (12 : Int32) else 13) = sC a) := by decide +kernel
section PW
variable {K : Nat} {g : jm_Rec} {B : Nat → Fin 256} {n : Nat} {L : Nat × Nat × Nat} {c : Nat → Int32} {N : List NE} {op pt : Nat} {x : jm_X}
theorem c_isNamed (hK : 20000 ≤ K) (h : SC B n L c N x) (hN : NOk n N) {i : Nat} {e : NE} (hi : N[i]? = some e) {p q : Nat} (hpq : p ≤ q) (hq : q ≤ n) : f_N_isNamed K g (nI i) (nI p) (nI q) x = rI (bI (nmEq B e p (q - p))) x := by
  have hil : i < N.length := (List.getElem?_eq_some_iff.mp hi).1
  have hl := hN.1
  have h4 := h.1.2.2.2
  obtain ⟨_, e2, _⟩ := hN.get hi
  obtain ⟨_, a2, a3, _⟩ := h.2.2.2.1.2.2 i e hi
  simp only [f_N_isNamed, J_N_isNamed_39, J_N_isNamed_40]
  rw [if_pos (pu_in (n := 1400) rfl (by omega) (by omega)), nI_clamp (by omega), a2, a3, pu_sub hpq, h.2.2.2.1.2.1, if_pos (pu_in (n := 1400) rfl (by omega) (by omega)), if_pos (pu_in (n := 1400) rfl (by omega) (by omega))]
  unfold nmEq
  by_cases hz : e.2.2.1 = q - p
  · rw [if_pos (by rw [hz]), v_B_same hK h.1.2.2.1 (by omega) (by omega), jm_bI_some, bI_ite, decide_eq_true hz, Bool.true_and, hz]
    cases eqN B (q - p) e.2.1 p <;> rfl
  · rw [if_neg (fun z => hz ((nI_eq (by omega) (by omega)).mp z)), decide_eq_false hz]; rfl
theorem r_same_L (h : SR B n L c N op pt x) (hN : NOk n N) {i : Nat} {e : NE} (hi : N[i]? = some e) {p q : Nat} (hz : e.2.2.1 = q) (hq : p + q ≤ n) : ∀ (m j f : Nat), m < f → j + m = q → L_M_sameName_15 K g f (nI i) (nI p) (nI q) (nI j) x = rI (bI (eqN B m (e.2.1 + j) (p + j))) x
  | m, j, 0, hf, _ => absurd hf (Nat.not_lt_zero _)
  | 0, j, f + 1, hf, hj => by
    have h4 := h.1.2.2
    simp only [L_M_sameName_15, B_M_sameName_15]
    rw [if_pos (nI_le (by omega) (by omega))]; rfl
  | m + 1, j, f + 1, hf, hj => by
    have hil : i < N.length := (List.getElem?_eq_some_iff.mp hi).1
    have hl := hN.1
    have h4 := h.1.2.2
    obtain ⟨_, e2, _⟩ := hN.get hi
    obtain ⟨_, a2, a3, _⟩ := h.2.2.2.1.2 i e hi
    have ih := r_same_L h hN hi hz hq m (j + 1) f (by omega) (by omega)
    simp only [L_M_sameName_15, B_M_sameName_15]
    rw [if_neg (nI_ge (by omega) (by omega)), if_pos (pu_in (n := 17000) rfl (by omega) (by omega)), nI_clamp (show i < 2 ^ 31 by omega), a2, nI_add, nI_add, if_pos (pu_in (n := 16384) rfl (by omega) (by omega)), if_pos (pu_in (n := 16384) rfl (by omega) (by omega)), nI_clamp (by omega), nI_clamp (by omega), h.1.2.1, nI_1, ih]
    simp only [eqN]
    by_cases hz : tpB B (e.2.1 + j) = tpB B (p + j)
    · rw [if_pos hz, decide_eq_true hz]; rfl
    · rw [if_neg hz, decide_eq_false hz]; rfl
theorem r_sameName (hK : 20000 ≤ K) (h : SR B n L c N op pt x) (hN : NOk n N) {i : Nat} {e : NE} (hi : N[i]? = some e) {p q : Nat} (hq : p + q ≤ n) : f_M_sameName K g (nI i) (nI p) (nI q) x = rI (bI (nmEq B e p q)) x := by
  have hil : i < N.length := (List.getElem?_eq_some_iff.mp hi).1
  have hl := hN.1
  have h4 := h.1.2.2
  obtain ⟨_, e2, _⟩ := hN.get hi
  obtain ⟨_, a2, a3, _⟩ := h.2.2.2.1.2 i e hi
  simp only [f_M_sameName]
  rw [if_pos (pu_in (n := 17000) rfl (by omega) (by omega)), nI_clamp (by omega), a3]
  unfold nmEq
  by_cases hz : e.2.2.1 = q
  · rw [if_pos (by rw [hz]), decide_eq_true hz, Bool.true_and]
    have := r_same_L (K := K) (g := g) h hN hi hz hq q 0 K (by omega) (by omega)
    rw [nI_0] at this
    exact this
  · rw [if_neg (fun z => hz ((nI_eq (by omega) (by omega)).mp z)), decide_eq_false hz]; rfl
theorem c_has_L (hK : 20000 ≤ K) (h : SC B n L c N x) (hN : NOk n N) {a : Nat} (ha : a < 5) {p q : Nat} (hpq : p ≤ q) (hq : q ≤ n) : ∀ (j f : Nat), j < f → j ≤ N.length → L_N_has_8 K g f (sC a) (nI p) (nI q) (nI j - 1) x = rI (bI (hsN B N a p (q - p) j)) x
  | j, 0, hf, _ => absurd hf (Nat.not_lt_zero _)
  | 0, f + 1, hf, hj => by
    simp only [L_N_has_8, B_N_has_8]
    rw [if_pos (by decide)]; rfl
  | j + 1, f + 1, hf, hj => by
    have hl := hN.1
    obtain ⟨e, he⟩ : ∃ e, N[j]? = some e := ⟨N[j], List.getElem?_eq_getElem (by omega)⟩
    obtain ⟨e1, e2, _⟩ := hN.get he
    obtain ⟨a1, _⟩ := h.2.2.2.1.2.2 j e he
    have ih := c_has_L hK h hN ha hpq hq j f (by omega) (by omega)
    simp only [L_N_has_8, B_N_has_8, J_N_has_37, nI_pred, pu_m1, hsN, he]
    rw [if_neg (nI_pos (by omega)), if_pos (pu_in (n := 1400) rfl (by omega) (by omega)), nI_clamp (by omega), a1, c_isNamed hK h hN he hpq hq, jm_bI_some, bI_ite, ih]
    by_cases hz : e.1 = a
    · rw [if_pos (by rw [hz]), decide_eq_true hz, Bool.true_and]
      cases nmEq B e p (q - p) <;> rfl
    · rw [if_neg (fun z => hz ((sC_inj _ e1 _ ha).mp z)), decide_eq_false hz]; rfl
theorem c_has (hK : 20000 ≤ K) (h : SC B n L c N x) (hN : NOk n N) {a : Nat} (ha : a < 5) {p q : Nat} (hpq : p ≤ q) (hq : q ≤ n) {s : Int32} (hs : s = sC a) : f_N_has K g s (nI p) (nI q) x = rI (bI (hsN B N a p (q - p) N.length)) x := by
  subst hs
  have hl := hN.1
  simp only [f_N_has, h.2.2.2.1.1]
  exact c_has_L hK h hN ha hpq hq N.length K (by omega) (Nat.le_refl _)
theorem r_has_L (hK : 20000 ≤ K) (h : SR B n L c N op pt x) (hN : NOk n N) {a : Nat} {w : Int32} (hw : ∀ b, b < 5 → ((wR b = w ∧ lR b = 0) ↔ b = a)) {p q : Nat} (hq : p + q ≤ n) : ∀ (m i f : Nat), m < f → i + m = N.length → L_M_has_3 K g f w (nI p) (nI q) (nI i) x = rI (bI (huN B N a p q m i)) x
  | m, i, 0, hf, _ => absurd hf (Nat.not_lt_zero _)
  | 0, i, f + 1, hf, hj => by
    have hl := hN.1
    simp only [L_M_has_3, B_M_has_3, h.2.2.2.1.1]
    rw [if_pos (nI_le (by omega) (by omega))]; rfl
  | m + 1, i, f + 1, hf, hj => by
    have hl := hN.1
    obtain ⟨e, he⟩ : ∃ e, N[i]? = some e := ⟨N[i], List.getElem?_eq_getElem (by omega)⟩
    obtain ⟨e1, e2, _⟩ := hN.get he
    obtain ⟨a1, _, _, _, a5⟩ := h.2.2.2.1.2 i e he
    have ih := r_has_L hK h hN hw hq m (i + 1) f (by omega) (by omega)
    simp only [L_M_has_3, B_M_has_3, J_M_has_46, h.2.2.2.1.1, huN, he]
    rw [if_neg (nI_ge (by omega) (by omega)), if_pos (pu_in (n := 17000) rfl (by omega) (by omega)), nI_clamp (by omega), a1, if_pos (pu_in (n := 17000) rfl (by omega) (by omega)), a5, r_sameName hK h hN he hq, jm_bI_some, bI_ite, nI_1, ih]
    by_cases hz : e.1 = a
    · obtain ⟨q1, q2⟩ := (hw _ e1).mpr hz
      rw [if_pos q1, if_pos q2, decide_eq_true hz, Bool.true_and]
      cases nmEq B e p q <;> rfl
    · rw [decide_eq_false hz, Bool.false_and, Bool.false_or]
      by_cases q1 : wR e.1 = w
      · rw [if_pos q1, if_neg (fun z => hz ((hw _ e1).mp ⟨q1, z⟩))]
      · rw [if_neg q1]
theorem r_has (hK : 20000 ≤ K) (h : SR B n L c N op pt x) (hN : NOk n N) {a : Nat} {w : Int32} (hw : ∀ b, b < 5 → ((wR b = w ∧ lR b = 0) ↔ b = a)) {p q : Nat} (hq : p + q ≤ n) : f_M_has K g w (nI p) (nI q) x = rI (bI (hsN B N a p q N.length)) x := by
  have hl := hN.1
  have := r_has_L (K := K) (g := g) hK h hN hw hq N.length 0 K (by omega) (by omega)
  rw [nI_0, hsN_huN] at this
  exact this
/-- what stands behind a search of the functions that found none -/
theorem c_ck_L (hK : 20000 ≤ K) (h : SC B n L c N x) (hN : NOk n N) {p e q : Nat} (hpe : p ≤ e) (he : e ≤ n) (hq : q < 2 ^ 31) : ∀ (j f : Nat), j < f → j ≤ N.length → L_N_callKind_8 K g f (nI p) (nI e) (nI q) (nI j - 1) x = (match ckN B N p (e - p) q j with
    | some a => rI (sC a) x
    | none => jm_bI (f_N_isKnownAnywhere K g (nI p) (nI e) (nI q) x) (fun b2 x1 => (if b2 = 0 then rI (-4) x1 else rI 14 x1)))
  | j, 0, hf, _ => absurd hf (Nat.not_lt_zero _)
  | 0, f + 1, hf, hj => by
    simp only [L_N_callKind_8, B_N_callKind_8, ckN]
    rw [if_pos (by decide)]; rfl
  | j + 1, f + 1, hf, hj => by
    have hl := hN.1
    obtain ⟨en, hen⟩ : ∃ e, N[j]? = some e := ⟨N[j], List.getElem?_eq_getElem (by omega)⟩
    obtain ⟨e1, e2, e3⟩ := hN.get hen
    obtain ⟨a1, _, _, a4⟩ := h.2.2.2.1.2.2 j en hen
    have ih := c_ck_L hK h hN hpe he hq j f (by omega) (by omega)
    simp only [L_N_callKind_8, B_N_callKind_8, J_N_callKind_53, nI_pred, pu_m1, ckN, hen]
    rw [if_neg (nI_pos (by omega)), if_pos (pu_in (n := 1400) rfl (by omega) (by omega)), nI_clamp (by omega), a1, if_pos (pu_in (n := 1400) rfl (by omega) (by omega)), a4, c_isNamed hK h hN hen hpe he, jm_bI_some, bI_ite, ih, if_pos (pu_in (n := 1400) rfl (by omega) (by omega)), a1]
    by_cases q1 : en.1 ≤ 1
    · rw [if_neg (fun z => (sC_neg _ e1).mp z q1)]
      by_cases q2 : en.2.2.2 = q
      · rw [if_pos (by rw [q2])]
        by_cases q3 : nmEq B en p (e - p) = true
        · rw [if_pos q3, if_pos ⟨q1, q2, q3⟩]
        · rw [if_neg q3, if_neg (fun z => q3 z.2.2)]
      · rw [if_neg (fun z => q2 ((nI_eq (by omega) hq).mp z)), if_neg (fun z => q2 z.2.1)]
    · rw [if_pos ((sC_neg _ e1).mpr q1), if_neg (fun z => q1 z.1)]
end PW

/-! THE SMALL MACHINE, 1: a state of numbers, and the world of cells that it stands for.
Object numbers (0, 1, ..) stand for addresses ('ad'). x.1: the int fields, x.2.1: the reference fields (object numbers), both by 'jm_key object field'; x.2.2: the contents of the arrays of ints, by object number. -/
abbrev jm_X : Type := (Nat → Int32) × (Nat → Nat) × (Nat → Nat → Int32)
/-- a cell's shape: an array of ints (kind, length); an array of constant references (class, object numbers); an object (its class's place in the list of classes; of each field 0: an int, 1: a reference, n + 2: always the object n) -/
abbrev jm_S : Type := (FieldType × Nat) ⊕ (String × List Nat) ⊕ (Nat × List Nat)
def jm_key (o k : Nat) : Nat := 100 * o + k
def jm_fv (ad : Nat → Nat) (x : jm_X) (o k : Nat) : Nat → Value
  | 0 => .int (x.1 (jm_key o k))
  | 1 => .ref (ad (x.2.1 (jm_key o k)))
  | n + 2 => .ref (ad n)
def jm_ce (ad : Nat → Nat) (aC : Nat → ClassId) (x : jm_X) (o : Nat) : jm_S → va_E
  | .inl q => .inl (aC o, q.2, .inl (x.2.2 o))
  | .inr (.inl q) => .inl (aC o, q.2.length, .inr (.inr (.inr (.inr (fun i => (q.2[i]?).map ad)))))
  | .inr (.inr q) => .inr (q.1, q.2.mapIdx (fun k fd => jm_fv ad x o k fd))
def jm_wl (ad : Nat → Nat) (aC : Nat → ClassId) (sh : List jm_S) (x : jm_X) : va_W := sh.mapIdx (fun o c => (ad o, jm_ce ad aC x o c))
/-- no object has more than a hundred fields -/
def jm_small (sh : List jm_S) : Prop := ∀ (o ci : Nat) (fs : List Nat), sh[o]? = some (.inr (.inr (ci, fs))) → fs.length ≤ 100
theorem jm_wl_get (ad : Nat → Nat) (aC : Nat → ClassId) (sh : List jm_S) (x : jm_X) (o : Nat) : (jm_wl ad aC sh x)[o]? = (sh[o]?).map (fun c => (ad o, jm_ce ad aC x o c)) := by
  simp [jm_wl, List.getElem?_mapIdx]
theorem jm_wl_at {ad : Nat → Nat} {aC : Nat → ClassId} {sh : List jm_S} {x : jm_X} {o : Nat} {c : jm_S} (h : sh[o]? = some c) : (jm_wl ad aC sh x)[o]? = some (ad o, jm_ce ad aC x o c) := by
  rw [jm_wl_get, h]; rfl
theorem jm_wl_len (ad : Nat → Nat) (aC : Nat → ClassId) (sh : List jm_S) (x : jm_X) : (jm_wl ad aC sh x).length = sh.length := by
  simp [jm_wl]
theorem jm_lt {sh : List jm_S} {o : Nat} {c : jm_S} (h : sh[o]? = some c) : o < sh.length := (List.getElem?_eq_some_iff.mp h).1
/-- a world by its cells: two states that give the same cells but at o -/
theorem jm_wl_set {ad : Nat → Nat} {aC : Nat → ClassId} {sh : List jm_S} {x y : jm_X} {o : Nat} {c : jm_S} (hs : sh[o]? = some c) {e : va_E} (he : jm_ce ad aC y o c = e)
    (hr : ∀ (i : Nat) (d : jm_S), i ≠ o → sh[i]? = some d → jm_ce ad aC y i d = jm_ce ad aC x i d) : jm_wl ad aC sh y = (jm_wl ad aC sh x).set o (ad o, e) := by
  apply List.ext_getElem?
  intro i
  have hl : o < (jm_wl ad aC sh x).length := by rw [jm_wl_len]; exact jm_lt hs
  by_cases hi : i = o
  · subst hi
    rw [List.getElem?_set_self hl, jm_wl_at hs, he]
  · rw [List.getElem?_set_ne (Ne.symm hi), jm_wl_get, jm_wl_get]
    cases hd : sh[i]? with
    | none => rfl
    | some d => simp only [Option.map_some]; rw [hr i d hi hd]
theorem jm_fs_get (ad : Nat → Nat) (x : jm_X) (o : Nat) (fs : List Nat) (k : Nat) : (fs.mapIdx (fun k fd => jm_fv ad x o k fd))[k]? = (fs[k]?).map (fun fd => jm_fv ad x o k fd) := by
  simp [List.getElem?_mapIdx]
theorem jm_fv_int {ad : Nat → Nat} {x : jm_X} {i j o k fd : Nat} {v : Int32} (h : jm_key i j ≠ jm_key o k) : jm_fv ad (va_up x.1 (jm_key o k) v, x.2) i j fd = jm_fv ad x i j fd := by
  match fd with
  | 0 => simp only [jm_fv, va_up, if_neg h]
  | 1 => rfl
  | n + 2 => rfl
theorem jm_fv_ref {ad : Nat → Nat} {x : jm_X} {i j o k fd v : Nat} (h : jm_key i j ≠ jm_key o k) : jm_fv ad (x.1, va_up x.2.1 (jm_key o k) v, x.2.2) i j fd = jm_fv ad x i j fd := by
  match fd with
  | 0 => rfl
  | 1 => simp only [jm_fv, va_up, if_neg h]
  | n + 2 => rfl
theorem jm_key_ne {i j o k : Nat} (hj : j < 100) (hk : k < 100) (h : ¬ (i = o ∧ j = k)) : jm_key i j ≠ jm_key o k := by
  unfold jm_key
  omega
theorem jm_set_int {ad : Nat → Nat} {aC : Nat → ClassId} {sh : List jm_S} {x : jm_X} {o ci k : Nat} {fs : List Nat} (hok : jm_small sh) (hs : sh[o]? = some (.inr (.inr (ci, fs)))) (hk : fs[k]? = some 0) (v : Int32) :
    jm_wl ad aC sh (va_up x.1 (jm_key o k) v, x.2) = (jm_wl ad aC sh x).set o (ad o, .inr (ci, (fs.mapIdx (fun k fd => jm_fv ad x o k fd)).set k (.int v))) := by
  have hkl : k < fs.length := (List.getElem?_eq_some_iff.mp hk).1
  have hk100 : k < 100 := Nat.lt_of_lt_of_le hkl (hok o ci fs hs)
  refine jm_wl_set hs ?_ ?_
  · simp only [jm_ce]
    congr 2
    apply List.ext_getElem?
    intro j
    by_cases hj : j = k
    · subst hj
      rw [List.getElem?_set_self (by simpa using hkl), jm_fs_get, hk]
      simp [jm_fv, va_up]
    · rw [List.getElem?_set_ne (Ne.symm hj), jm_fs_get, jm_fs_get]
      cases hd : fs[j]? with
      | none => rfl
      | some fd =>
        have hjl : j < fs.length := (List.getElem?_eq_some_iff.mp hd).1
        simp only [Option.map_some]
        rw [jm_fv_int (jm_key_ne (Nat.lt_of_lt_of_le hjl (hok o ci fs hs)) hk100 (fun q => hj q.2))]
  · intro i d hi hd
    match d, hd with
    | .inl q, _ => rfl
    | .inr (.inl q), _ => rfl
    | .inr (.inr (ci', fs')), hd =>
      simp only [jm_ce]
      congr 2
      apply List.ext_getElem?
      intro j
      rw [jm_fs_get, jm_fs_get]
      cases hd2 : fs'[j]? with
      | none => rfl
      | some fd =>
        have hjl : j < fs'.length := (List.getElem?_eq_some_iff.mp hd2).1
        simp only [Option.map_some]
        rw [jm_fv_int (jm_key_ne (Nat.lt_of_lt_of_le hjl (hok i ci' fs' hd)) hk100 (fun q => hi q.1))]
theorem jm_set_ref {ad : Nat → Nat} {aC : Nat → ClassId} {sh : List jm_S} {x : jm_X} {o ci k : Nat} {fs : List Nat} (hok : jm_small sh) (hs : sh[o]? = some (.inr (.inr (ci, fs)))) (hk : fs[k]? = some 1) (v : Nat) :
    jm_wl ad aC sh (x.1, va_up x.2.1 (jm_key o k) v, x.2.2) = (jm_wl ad aC sh x).set o (ad o, .inr (ci, (fs.mapIdx (fun k fd => jm_fv ad x o k fd)).set k (.ref (ad v)))) := by
  have hkl : k < fs.length := (List.getElem?_eq_some_iff.mp hk).1
  have hk100 : k < 100 := Nat.lt_of_lt_of_le hkl (hok o ci fs hs)
  refine jm_wl_set hs ?_ ?_
  · simp only [jm_ce]
    congr 2
    apply List.ext_getElem?
    intro j
    by_cases hj : j = k
    · subst hj
      rw [List.getElem?_set_self (by simpa using hkl), jm_fs_get, hk]
      simp [jm_fv, va_up]
    · rw [List.getElem?_set_ne (Ne.symm hj), jm_fs_get, jm_fs_get]
      cases hd : fs[j]? with
      | none => rfl
      | some fd =>
        have hjl : j < fs.length := (List.getElem?_eq_some_iff.mp hd).1
        simp only [Option.map_some]
        rw [jm_fv_ref (jm_key_ne (Nat.lt_of_lt_of_le hjl (hok o ci fs hs)) hk100 (fun q => hj q.2))]
  · intro i d hi hd
    match d, hd with
    | .inl q, _ => rfl
    | .inr (.inl q), _ => rfl
    | .inr (.inr (ci', fs')), hd =>
      simp only [jm_ce]
      congr 2
      apply List.ext_getElem?
      intro j
      rw [jm_fs_get, jm_fs_get]
      cases hd2 : fs'[j]? with
      | none => rfl
      | some fd =>
        have hjl : j < fs'.length := (List.getElem?_eq_some_iff.mp hd2).1
        simp only [Option.map_some]
        rw [jm_fv_ref (jm_key_ne (Nat.lt_of_lt_of_le hjl (hok i ci' fs' hd)) hk100 (fun q => hi q.1))]
theorem jm_set_arr {ad : Nat → Nat} {aC : Nat → ClassId} {sh : List jm_S} {x : jm_X} {o n : Nat} {ty : FieldType} (hs : sh[o]? = some (.inl (ty, n))) (f : Nat → Int32) :
    jm_wl ad aC sh (x.1, x.2.1, va_up x.2.2 o f) = (jm_wl ad aC sh x).set o (ad o, .inl (aC o, n, .inl f)) := by
  refine jm_wl_set hs ?_ ?_
  · simp [jm_ce, va_up]
  · intro i d hi hd
    match d, hd with
    | .inl q, _ => simp only [jm_ce, va_up, if_neg hi]
    | .inr (.inl q), _ => rfl
    | .inr (.inr (ci', fs')), hd =>
      simp only [jm_ce]
      congr 2
/-- a value with object numbers, as a value of the machine -/
def jm_cv (ad : Nat → Nat) : Value → Value
  | .ref k => .ref (ad k)
  | v => v
theorem jm_cv_cat (ad : Nat → Nat) (v : Value) : (jm_cv ad v).category = v.category := by cases v <;> rfl
def jm_cl (ad : Nat → Nat) (ls : List (Nat × Value)) : List (Nat × Value) := ls.map (fun q => (q.1, jm_cv ad q.2))
def jm_st (ad : Nat → Nat) (st : List Value) : List Value := st.map (jm_cv ad)
/-- what a method may change: the world's cells, and new ones -/
def jm_A (ad : Nat → Nat) (n sz : Nat) : Nat → Prop := fun q => (∃ k, k < n ∧ q = ad k) ∨ sz ≤ q
theorem jm_A_mono {ad : Nat → Nat} {n a b : Nat} (h : a ≤ b) : ∀ q, jm_A ad n b q → jm_A ad n a q := fun _ hq => hq.elim Or.inl (fun z => Or.inr (Nat.le_trans h z))
/-- the addresses are apart -/
def jm_inj (ad : Nat → Nat) (n : Nat) : Prop := ∀ i j, i < n → j < n → ad i = ad j → i = j
theorem jm_D {ad : Nat → Nat} {aC : Nat → ClassId} {sh : List jm_S} {x : jm_X} {sz : Nat} (h : jm_inj ad sh.length) : va_D (jm_A ad sh.length sz) (jm_wl ad aC sh x) := by
  have key : ∀ (k : Nat) (q : Nat × va_E), (jm_wl ad aC sh x)[k]? = some q → k < sh.length ∧ q.1 = ad k := by
    intro k q hq
    rw [jm_wl_get] at hq
    cases hc : sh[k]? with
    | none => rw [hc] at hq; cases hq
    | some c => rw [hc] at hq; cases hq; exact ⟨jm_lt hc, rfl⟩
  refine ⟨fun i j p q hi hj hpq => ?_, fun k q hk => ?_⟩
  · obtain ⟨a1, a2⟩ := key i p hi
    obtain ⟨b1, b2⟩ := key j q hj
    exact h i j a1 b1 (by rw [← a2, ← b2]; exact hpq)
  · obtain ⟨a1, a2⟩ := key k q hk
    exact Or.inl ⟨k, a1, a2⟩

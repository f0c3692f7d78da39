section
/-! THE SMALL MACHINE, 1: a state of numbers, and the world of cells that it stands for.
Object numbers (0, 1, ..) stand for addresses ('ad'). x.1: the int fields, x.2.1: the reference fields (object numbers), both by 'jm_key object field'; x.2.2: the contents of the arrays of ints, by object number. -/
abbrev jm_X : Type := (Nat → Int32) × (Nat → Nat) × (Nat → Nat → Int32)
/-- a cell's shape: an array of ints (kind, length); an array of constant references (class, object numbers); an object (its class's place in the list of classes; of each field 0: an int, 1: a reference, n + 2: always the object n) -/
abbrev jm_S : Type := (FieldType × Nat) ⊕ (String × List Nat) ⊕ (Nat × List Nat)
def jm_key (o k : Nat) : Nat := 100 * o + k
def jm_fv (ad : Nat → Nat) (x : jm_X) (o k : Nat) : Nat → Value
  | 0 => .int (x.1 (jm_key o k))
  | 1 => .ref (ad (x.2.1 (jm_key o k)))
  | n + 2 => .ref (ad n)
def jm_ce (ad : Nat → Nat) (aC : Nat → ClassId) (x : jm_X) (o : Nat) : jm_S → va_E
  | .inl q => .inl (aC o, q.2, .inl (x.2.2 o))
  | .inr (.inl q) => .inl (aC o, q.2.length, .inr (.inr (.inr (.inr (fun i => (q.2[i]?).map ad)))))
  | .inr (.inr q) => .inr (q.1, q.2.mapIdx (fun k fd => jm_fv ad x o k fd))
def jm_wl (ad : Nat → Nat) (aC : Nat → ClassId) (sh : List jm_S) (x : jm_X) : va_W := sh.mapIdx (fun o c => (ad o, jm_ce ad aC x o c))
/-- no object has more than a hundred fields -/
def jm_small (sh : List jm_S) : Prop := ∀ (o ci : Nat) (fs : List Nat), sh[o]? = some (.inr (.inr (ci, fs))) → fs.length ≤ 100
theorem jm_wl_get (ad : Nat → Nat) (aC : Nat → ClassId) (sh : List jm_S) (x : jm_X) (o : Nat) : (jm_wl ad aC sh x)[o]? = (sh[o]?).map (fun c => (ad o, jm_ce ad aC x o c)) := by
  simp [jm_wl, List.getElem?_mapIdx]
theorem jm_wl_at {ad : Nat → Nat} {aC : Nat → ClassId} {sh : List jm_S} {x : jm_X} {o : Nat} {c : jm_S} (h : sh[o]? = some c) : (jm_wl ad aC sh x)[o]? = some (ad o, jm_ce ad aC x o c) := by
  rw [jm_wl_get, h]; rfl
theorem jm_wl_len (ad : Nat → Nat) (aC : Nat → ClassId) (sh : List jm_S) (x : jm_X) : (jm_wl ad aC sh x).length = sh.length := by
  simp [jm_wl]
theorem jm_lt {sh : List jm_S} {o : Nat} {c : jm_S} (h : sh[o]? = some c) : o < sh.length := (List.getElem?_eq_some_iff.mp h).1
/-- a world by its cells: two states that give the same cells but at o -/
theorem jm_wl_set {ad : Nat → Nat} {aC : Nat → ClassId} {sh : List jm_S} {x y : jm_X} {o : Nat} {c : jm_S} (hs : sh[o]? = some c) {e : va_E} (he : jm_ce ad aC y o c = e)
    (hr : ∀ (i : Nat) (d : jm_S), i ≠ o → sh[i]? = some d → jm_ce ad aC y i d = jm_ce ad aC x i d) : jm_wl ad aC sh y = (jm_wl ad aC sh x).set o (ad o, e) := by
  apply List.ext_getElem?
  intro i
  have hl : o < (jm_wl ad aC sh x).length := by rw [jm_wl_len]; exact jm_lt hs
  by_cases hi : i = o
  · subst hi
    rw [List.getElem?_set_self hl, jm_wl_at hs, he]
  · rw [List.getElem?_set_ne (Ne.symm hi), jm_wl_get, jm_wl_get]
    cases hd : sh[i]? with
    | none => rfl
    | some d => simp only [Option.map_some]; rw [hr i d hi hd]
theorem jm_fs_get (ad : Nat → Nat) (x : jm_X) (o : Nat) (fs : List Nat) (k : Nat) : (fs.mapIdx (fun k fd => jm_fv ad x o k fd))[k]? = (fs[k]?).map (fun fd => jm_fv ad x o k fd) := by
  simp [List.getElem?_mapIdx]
theorem jm_fv_int {ad : Nat → Nat} {x : jm_X} {i j o k fd : Nat} {v : Int32} (h : jm_key i j ≠ jm_key o k) : jm_fv ad (va_up x.1 (jm_key o k) v, x.2) i j fd = jm_fv ad x i j fd := by
  match fd with
  | 0 => simp only [jm_fv, va_up, if_neg h]
  | 1 => rfl
  | n + 2 => rfl
theorem jm_fv_ref {ad : Nat → Nat} {x : jm_X} {i j o k fd v : Nat} (h : jm_key i j ≠ jm_key o k) : jm_fv ad (x.1, va_up x.2.1 (jm_key o k) v, x.2.2) i j fd = jm_fv ad x i j fd := by
  match fd with
  | 0 => rfl
  | 1 => simp only [jm_fv, va_up, if_neg h]
  | n + 2 => rfl
theorem jm_key_ne {i j o k : Nat} (hj : j < 100) (hk : k < 100) (h : ¬ (i = o ∧ j = k)) : jm_key i j ≠ jm_key o k := by
  unfold jm_key
  omega
theorem jm_set_int {ad : Nat → Nat} {aC : Nat → ClassId} {sh : List jm_S} {x : jm_X} {o ci k : Nat} {fs : List Nat} (hok : jm_small sh) (hs : sh[o]? = some (.inr (.inr (ci, fs)))) (hk : fs[k]? = some 0) (v : Int32) :
    jm_wl ad aC sh (va_up x.1 (jm_key o k) v, x.2) = (jm_wl ad aC sh x).set o (ad o, .inr (ci, (fs.mapIdx (fun k fd => jm_fv ad x o k fd)).set k (.int v))) := by
  have hkl : k < fs.length := (List.getElem?_eq_some_iff.mp hk).1
  have hk100 : k < 100 := Nat.lt_of_lt_of_le hkl (hok o ci fs hs)
  refine jm_wl_set hs ?_ ?_
  · simp only [jm_ce]
    congr 2
    apply List.ext_getElem?
    intro j
    by_cases hj : j = k
    · subst hj
      rw [List.getElem?_set_self (by simpa using hkl), jm_fs_get, hk]
      simp [jm_fv, va_up]
    · rw [List.getElem?_set_ne (Ne.symm hj), jm_fs_get, jm_fs_get]
      cases hd : fs[j]? with
      | none => rfl
      | some fd =>
        have hjl : j < fs.length := (List.getElem?_eq_some_iff.mp hd).1
        simp only [Option.map_some]
        rw [jm_fv_int (jm_key_ne (Nat.lt_of_lt_of_le hjl (hok o ci fs hs)) hk100 (fun q => hj q.2))]
  · intro i d hi hd
    match d, hd with
    | .inl q, _ => rfl
    | .inr (.inl q), _ => rfl
    | .inr (.inr (ci', fs')), hd =>
      simp only [jm_ce]
      congr 2
      apply List.ext_getElem?
      intro j
      rw [jm_fs_get, jm_fs_get]
      cases hd2 : fs'[j]? with
      | none => rfl
      | some fd =>
        have hjl : j < fs'.length := (List.getElem?_eq_some_iff.mp hd2).1
        simp only [Option.map_some]
        rw [jm_fv_int (jm_key_ne (Nat.lt_of_lt_of_le hjl (hok i ci' fs' hd)) hk100 (fun q => hi q.1))]
theorem jm_set_ref {ad : Nat → Nat} {aC : Nat → ClassId} {sh : List jm_S} {x : jm_X} {o ci k : Nat} {fs : List Nat} (hok : jm_small sh) (hs : sh[o]? = some (.inr (.inr (ci, fs)))) (hk : fs[k]? = some 1) (v : Nat) :
    jm_wl ad aC sh (x.1, va_up x.2.1 (jm_key o k) v, x.2.2) = (jm_wl ad aC sh x).set o (ad o, .inr (ci, (fs.mapIdx (fun k fd => jm_fv ad x o k fd)).set k (.ref (ad v)))) := by
  have hkl : k < fs.length := (List.getElem?_eq_some_iff.mp hk).1
  have hk100 : k < 100 := Nat.lt_of_lt_of_le hkl (hok o ci fs hs)
  refine jm_wl_set hs ?_ ?_
  · simp only [jm_ce]
    congr 2
    apply List.ext_getElem?
    intro j
    by_cases hj : j = k
    · subst hj
      rw [List.getElem?_set_self (by simpa using hkl), jm_fs_get, hk]
      simp [jm_fv, va_up]
    · rw [List.getElem?_set_ne (Ne.symm hj), jm_fs_get, jm_fs_get]
      cases hd : fs[j]? with
      | none => rfl
      | some fd =>
        have hjl : j < fs.length := (List.getElem?_eq_some_iff.mp hd).1
        simp only [Option.map_some]
        rw [jm_fv_ref (jm_key_ne (Nat.lt_of_lt_of_le hjl (hok o ci fs hs)) hk100 (fun q => hj q.2))]
  · intro i d hi hd
    match d, hd with
    | .inl q, _ => rfl
    | .inr (.inl q), _ => rfl
    | .inr (.inr (ci', fs')), hd =>
      simp only [jm_ce]
      congr 2
      apply List.ext_getElem?
      intro j
      rw [jm_fs_get, jm_fs_get]
      cases hd2 : fs'[j]? with
      | none => rfl
      | some fd =>
        have hjl : j < fs'.length := (List.getElem?_eq_some_iff.mp hd2).1
        simp only [Option.map_some]
        rw [jm_fv_ref (jm_key_ne (Nat.lt_of_lt_of_le hjl (hok i ci' fs' hd)) hk100 (fun q => hi q.1))]
theorem jm_set_arr {ad : Nat → Nat} {aC : Nat → ClassId} {sh : List jm_S} {x : jm_X} {o n : Nat} {ty : FieldType} (hs : sh[o]? = some (.inl (ty, n))) (f : Nat → Int32) :
    jm_wl ad aC sh (x.1, x.2.1, va_up x.2.2 o f) = (jm_wl ad aC sh x).set o (ad o, .inl (aC o, n, .inl f)) := by
  refine jm_wl_set hs ?_ ?_
  · simp [jm_ce, va_up]
  · intro i d hi hd
    match d, hd with
    | .inl q, _ => simp only [jm_ce, va_up, if_neg hi]
    | .inr (.inl q), _ => rfl
    | .inr (.inr (ci', fs')), hd =>
      simp only [jm_ce]
      congr 2
/-- a value with object numbers, as a value of the machine -/
def jm_cv (ad : Nat → Nat) : Value → Value
  | .ref k => .ref (ad k)
  | v => v
theorem jm_cv_cat (ad : Nat → Nat) (v : Value) : (jm_cv ad v).category = v.category := by cases v <;> rfl
def jm_cl (ad : Nat → Nat) (ls : List (Nat × Value)) : List (Nat × Value) := ls.map (fun q => (q.1, jm_cv ad q.2))
def jm_st (ad : Nat → Nat) (st : List Value) : List Value := st.map (jm_cv ad)
/-- what a method may change: the world's cells, and new ones -/
def jm_A (ad : Nat → Nat) (n sz : Nat) : Nat → Prop := fun q => (∃ k, k < n ∧ q = ad k) ∨ sz ≤ q
theorem jm_A_mono {ad : Nat → Nat} {n a b : Nat} (h : a ≤ b) : ∀ q, jm_A ad n b q → jm_A ad n a q := fun _ hq => hq.elim Or.inl (fun z => Or.inr (Nat.le_trans h z))
/-- the addresses are apart -/
def jm_inj (ad : Nat → Nat) (n : Nat) : Prop := ∀ i j, i < n → j < n → ad i = ad j → i = j
theorem jm_D {ad : Nat → Nat} {aC : Nat → ClassId} {sh : List jm_S} {x : jm_X} {sz : Nat} (h : jm_inj ad sh.length) : va_D (jm_A ad sh.length sz) (jm_wl ad aC sh x) := by
  have key : ∀ (k : Nat) (q : Nat × va_E), (jm_wl ad aC sh x)[k]? = some q → k < sh.length ∧ q.1 = ad k := by
    intro k q hq
    rw [jm_wl_get] at hq
    cases hc : sh[k]? with
    | none => rw [hc] at hq; cases hq
    | some c => rw [hc] at hq; cases hq; exact ⟨jm_lt hc, rfl⟩
  refine ⟨fun i j p q hi hj hpq => ?_, fun k q hk => ?_⟩
  · obtain ⟨a1, a2⟩ := key i p hi
    obtain ⟨b1, b2⟩ := key j q hj
    exact h i j a1 b1 (by rw [← a2, ← b2]; exact hpq)
  · obtain ⟨a1, a2⟩ := key k q hk
    exact Or.inl ⟨k, a1, a2⟩
end
section
/-! THE SMALL MACHINE, 2: the instructions that touch the frame alone, as a function. -/
def jm_lk : List (Nat × Value) → Nat → Option Value
  | [], _ => none
  | q :: r, i => if q.1 = i then some q.2 else jm_lk r i
theorem jm_lk_mem : ∀ {ls : List (Nat × Value)} {i : Nat} {v : Value}, jm_lk ls i = some v → (i, v) ∈ ls
  | [], _, _, h => by cases h
  | (k, w) :: r, i, v, h => by
    unfold jm_lk at h
    by_cases hk : k = i
    · rw [if_pos hk] at h
      cases h
      subst hk
      exact List.mem_cons_self
    · rw [if_neg hk] at h
      exact List.mem_cons_of_mem _ (jm_lk_mem h)
theorem jm_lk_at {ad : Nat → Nat} {ls : List (Nat × Value)} {i nL : Nat} {v : Value} {la : Array Slot} (hl : lv_has la nL (jm_cl ad ls)) (h : jm_lk ls i = some v) : la[i]? = some (.val (jm_cv ad v)) :=
  hl.2.2 (i, jm_cv ad v) (List.mem_map.mpr ⟨(i, v), jm_lk_mem h, rfl⟩)
def jm_s1 (ls : List (Nat × Value)) (i : Nat) (v : Value) : List (Nat × Value) := (i, v) :: ls.filter (fun q => !(q.1 == i) && !(q.1 + 1 == i && q.2.category == 2))
def jm_s2 (ls : List (Nat × Value)) (i : Nat) (v : Value) : List (Nat × Value) := (i, v) :: ls.filter (fun q => !(q.1 == i) && (!(q.1 == i + 1) && !(q.1 + 1 == i && q.2.category == 2)))
theorem jm_s1_cl (ad : Nat → Nat) (ls : List (Nat × Value)) (i : Nat) (v : Value) : (i, jm_cv ad v) :: (jm_cl ad ls).filter (fun q => !(q.1 == i) && !(q.1 + 1 == i && q.2.category == 2)) = jm_cl ad (jm_s1 ls i v) := by
  simp only [jm_s1, jm_cl, List.map_cons, List.filter_map]
  congr 2
  apply List.filter_congr
  intro q _
  simp [Function.comp, jm_cv_cat]
theorem jm_s2_cl (ad : Nat → Nat) (ls : List (Nat × Value)) (i : Nat) (v : Value) : (i, jm_cv ad v) :: (jm_cl ad ls).filter (fun q => !(q.1 == i) && (!(q.1 == i + 1) && !(q.1 + 1 == i && q.2.category == 2))) = jm_cl ad (jm_s2 ls i v) := by
  simp only [jm_s2, jm_cl, List.map_cons, List.filter_map]
  congr 2
  apply List.filter_congr
  intro q _
  simp [Function.comp, jm_cv_cat]
abbrev jm_F : Type := Nat × List (Nat × Value) × List Value
/-- constants -/
def jm_f1 (i : Instr) (len pc : Nat) (ls : List (Nat × Value)) (st : List Value) : Option jm_F := match i, len with
  | .iconst n, 1 => some (pc + 1, ls, .int (Int32.ofInt n) :: st)
  | .bipush n, 2 => some (pc + 2, ls, .int (Int8.ofInt n).toInt32 :: st)
  | .sipush n, 3 => some (pc + 3, ls, .int (Int16.ofInt n).toInt32 :: st)
  | .lconst n, 1 => some (pc + 1, ls, .long (Int64.ofNat (n : Nat)) :: st)
  | _, _ => none
def jm_ldi (ls : List (Nat × Value)) (i pc : Nat) (st : List Value) : Option jm_F := match jm_lk ls i with
  | some (.int v) => some (pc, ls, .int v :: st)
  | _ => none
def jm_ldl (ls : List (Nat × Value)) (i pc : Nat) (st : List Value) : Option jm_F := match jm_lk ls i with
  | some (.long v) => some (pc, ls, .long v :: st)
  | _ => none
def jm_lda (ls : List (Nat × Value)) (i pc : Nat) (st : List Value) : Option jm_F := match jm_lk ls i with
  | some (.ref v) => some (pc, ls, .ref v :: st)
  | _ => none
/-- loads -/
def jm_f2 (i : Instr) (len pc : Nat) (ls : List (Nat × Value)) (st : List Value) : Option jm_F := match i, len with
  | .iload_n k, 1 => jm_ldi ls k (pc + 1) st
  | .iload k, 2 => jm_ldi ls k (pc + 2) st
  | .lload_n k, 1 => jm_ldl ls k (pc + 1) st
  | .lload k, 2 => jm_ldl ls k (pc + 2) st
  | .aload_n k, 1 => jm_lda ls k (pc + 1) st
  | .aload k, 2 => jm_lda ls k (pc + 2) st
  | _, _ => none
/-- stores -/
def jm_f3 (nL : Nat) (i : Instr) (len pc : Nat) (ls : List (Nat × Value)) (st : List Value) : Option jm_F := match i, len, st with
  | .istore_n k, 1, .int v :: r => if (k : Nat) < nL then some (pc + 1, jm_s1 ls k (.int v), r) else none
  | .istore k, 2, .int v :: r => if k < nL then some (pc + 2, jm_s1 ls k (.int v), r) else none
  | .lstore_n k, 1, .long v :: r => if (k : Nat) + 1 < nL then some (pc + 1, jm_s2 ls k (.long v), r) else none
  | .lstore k, 2, .long v :: r => if k + 1 < nL then some (pc + 2, jm_s2 ls k (.long v), r) else none
  | .astore_n k, 1, .ref v :: r => if (k : Nat) < nL then some (pc + 1, jm_s1 ls k (.ref v), r) else none
  | .astore k, 2, .ref v :: r => if k < nL then some (pc + 2, jm_s1 ls k (.ref v), r) else none
  | .iinc k n, 3, st => match jm_lk ls k with
    | some (.int v) => if k < nL then some (pc + 3, jm_s1 ls k (.int (v + Int32.ofInt n)), st) else none
    | _ => none
  | _, _, _ => none
/-- arithmetic and the stack -/
def jm_f4 (i : Instr) (len pc : Nat) (ls : List (Nat × Value)) (st : List Value) : Option jm_F := match i, len, st with
  | .iadd, 1, .int y :: .int x :: r => some (pc + 1, ls, .int (x + y) :: r)
  | .isub, 1, .int y :: .int x :: r => some (pc + 1, ls, .int (x - y) :: r)
  | .imul, 1, .int y :: .int x :: r => some (pc + 1, ls, .int (x * y) :: r)
  | .iand, 1, .int y :: .int x :: r => some (pc + 1, ls, .int (x &&& y) :: r)
  | .ishr, 1, .int y :: .int x :: r => some (pc + 1, ls, .int (x >>> (y &&& 31)) :: r)
  | .ladd, 1, .long y :: .long x :: r => some (pc + 1, ls, .long (x + y) :: r)
  | .lsub, 1, .long y :: .long x :: r => some (pc + 1, ls, .long (x - y) :: r)
  | .lmul, 1, .long y :: .long x :: r => some (pc + 1, ls, .long (x * y) :: r)
  | .lcmp, 1, .long y :: .long x :: r => some (pc + 1, ls, .int (lg_cmp x y) :: r)
  | .i2l, 1, .int x :: r => some (pc + 1, ls, .long x.toInt64 :: r)
  | .i2b, 1, .int x :: r => some (pc + 1, ls, .int x.toInt8.toInt32 :: r)
  | .i2c, 1, .int x :: r => some (pc + 1, ls, .int (x.toUInt32 % 65536).toInt32 :: r)
  | .dup, 1, .int x :: r => some (pc + 1, ls, .int x :: .int x :: r)
  | .dup, 1, .ref x :: r => some (pc + 1, ls, .ref x :: .ref x :: r)
  | .pop, 1, .int x :: r => some (pc + 1, ls, r)
  | .pop, 1, .ref x :: r => some (pc + 1, ls, r)
  | .dup_x1, 1, .int x :: .ref y :: r => some (pc + 1, ls, .int x :: .ref y :: .int x :: r)
  | .dup2, 1, .int x :: .ref y :: r => some (pc + 1, ls, .int x :: .ref y :: .int x :: .ref y :: r)
  | _, _, _ => none
def jm_tg (pc : Nat) (off : Int) : Nat := ((pc : Int) + off).toNat
def jm_ok (pc : Nat) (off : Int) : Bool := decide (0 ≤ (pc : Int) + off)
/-- jumps -/
def jm_f5 (i : Instr) (len pc : Nat) (ls : List (Nat × Value)) (st : List Value) : Option jm_F := match i, len, st with
  | .goto off, 3, st => if jm_ok pc off then some (jm_tg pc off, ls, st) else none
  | .ifCond .eq off, 3, .int x :: r => if jm_ok pc off then some (if x = 0 then jm_tg pc off else pc + 3, ls, r) else none
  | .ifCond .ne off, 3, .int x :: r => if jm_ok pc off then some (if x = 0 then pc + 3 else jm_tg pc off, ls, r) else none
  | .ifCond .lt off, 3, .int x :: r => if jm_ok pc off then some (if x < 0 then jm_tg pc off else pc + 3, ls, r) else none
  | .ifCond .ge off, 3, .int x :: r => if jm_ok pc off then some (if 0 ≤ x then jm_tg pc off else pc + 3, ls, r) else none
  | .ifCond .gt off, 3, .int x :: r => if jm_ok pc off then some (if 0 < x then jm_tg pc off else pc + 3, ls, r) else none
  | .ifCond .le off, 3, .int x :: r => if jm_ok pc off then some (if x ≤ 0 then jm_tg pc off else pc + 3, ls, r) else none
  | .if_icmp .eq off, 3, .int y :: .int x :: r => if jm_ok pc off then some (if x = y then jm_tg pc off else pc + 3, ls, r) else none
  | .if_icmp .ne off, 3, .int y :: .int x :: r => if jm_ok pc off then some (if x = y then pc + 3 else jm_tg pc off, ls, r) else none
  | .if_icmp .lt off, 3, .int y :: .int x :: r => if jm_ok pc off then some (if x < y then jm_tg pc off else pc + 3, ls, r) else none
  | .if_icmp .ge off, 3, .int y :: .int x :: r => if jm_ok pc off then some (if y ≤ x then jm_tg pc off else pc + 3, ls, r) else none
  | .if_icmp .gt off, 3, .int y :: .int x :: r => if jm_ok pc off then some (if y < x then jm_tg pc off else pc + 3, ls, r) else none
  | .if_icmp .le off, 3, .int y :: .int x :: r => if jm_ok pc off then some (if x ≤ y then jm_tg pc off else pc + 3, ls, r) else none
  | _, _, _ => none
theorem jm_tg_ok {pc : Nat} {off : Int} (h : jm_ok pc off = true) : (pc : Int) + off = ((jm_tg pc off : Nat) : Int) := by
  unfold jm_ok at h
  unfold jm_tg
  exact (Int.toNat_of_nonneg (of_decide_eq_true h)).symm
section JS
variable {p : Program} {l : Launch} {e : Env} {R : Room} {s : State} {m : MethodId} {args : Array Value} {below : List Frame} {meth : Method} {c : Code} {H : Heap} {locs : List Loc} {cells slots : Nat} {Q : State → Prop}
variable {cc : ByteArray} {nL : Nat} {ad : Nat → Nat} {i : Instr} {len pc pc' : Nat} {ls ls' : List (Nat × Value)} {st st' : List Value} {la : Array Slot}
theorem jm_f1_ok (hx : p.tables.exec = Jvm.exec) (hb : c.code = cc) (hd : decode cc pc = .ok (i, len)) (h : jm_f1 i len pc ls st = some (pc', ls', st')) (hl : lv_has la nL (jm_cl ad ls))
    (k : ∀ la' : Array Slot, lv_has la' nL (jm_cl ad ls') → W p l e R s m args below meth c H locs cells slots Q (F0 m pc' la' (jm_st ad st'))) : W p l e R s m args below meth c H locs cells slots Q (F0 m pc la (jm_st ad st)) := by
  unfold jm_f1 at h
  split at h
  · cases h; exact lv_iconst hx hb hd rfl (k la hl)
  · cases h; exact lv_bipush hx hb hd rfl (k la hl)
  · cases h; exact lv_sipush hx hb hd rfl (k la hl)
  · cases h; exact lv_lconst hx hb hd rfl (k la hl)
  · cases h
theorem jm_f2_ok (hx : p.tables.exec = Jvm.exec) (hb : c.code = cc) (hd : decode cc pc = .ok (i, len)) (h : jm_f2 i len pc ls st = some (pc', ls', st')) (hl : lv_has la nL (jm_cl ad ls))
    (k : ∀ la' : Array Slot, lv_has la' nL (jm_cl ad ls') → W p l e R s m args below meth c H locs cells slots Q (F0 m pc' la' (jm_st ad st'))) : W p l e R s m args below meth c H locs cells slots Q (F0 m pc la (jm_st ad st)) := by
  unfold jm_f2 at h
  split at h
  · unfold jm_ldi at h
    split at h
    · rename_i hv; cases h; exact lv_iload_n hx hb hd rfl (jm_lk_at hl hv) (k la hl)
    · cases h
  · unfold jm_ldi at h
    split at h
    · rename_i hv; cases h; exact lv_iload hx hb hd (jm_lk_at hl hv) (k la hl)
    · cases h
  · unfold jm_ldl at h
    split at h
    · rename_i hv; cases h; exact lv_lload_n hx hb hd rfl (jm_lk_at hl hv) (k la hl)
    · cases h
  · unfold jm_ldl at h
    split at h
    · rename_i hv; cases h; exact lv_lload hx hb hd (jm_lk_at hl hv) (k la hl)
    · cases h
  · unfold jm_lda at h
    split at h
    · rename_i hv; cases h; exact lv_aload_n hx hb hd rfl (jm_lk_at hl hv) (k la hl)
    · cases h
  · unfold jm_lda at h
    split at h
    · rename_i hv; cases h; exact lv_aload hx hb hd (jm_lk_at hl hv) (k la hl)
    · cases h
  · cases h
theorem jm_f3_ok (hx : p.tables.exec = Jvm.exec) (hb : c.code = cc) (hd : decode cc pc = .ok (i, len)) (h : jm_f3 nL i len pc ls st = some (pc', ls', st')) (hl : lv_has la nL (jm_cl ad ls))
    (k : ∀ la' : Array Slot, lv_has la' nL (jm_cl ad ls') → W p l e R s m args below meth c H locs cells slots Q (F0 m pc' la' (jm_st ad st'))) : W p l e R s m args below meth c H locs cells slots Q (F0 m pc la (jm_st ad st)) := by
  unfold jm_f3 at h
  split at h
  · split at h
    · rename_i hn; cases h; exact lv_istore_n hx hb hd rfl hl hn (jm_s1_cl ad ls _ (.int _)) k
    · cases h
  · split at h
    · rename_i hn; cases h; exact lv_istore hx hb hd hl hn (jm_s1_cl ad ls _ (.int _)) k
    · cases h
  · split at h
    · rename_i hn; cases h; exact lv_lstore_n hx hb hd rfl hl hn (jm_s2_cl ad ls _ (.long _)) k
    · cases h
  · split at h
    · rename_i hn; cases h; exact lv_lstore hx hb hd hl hn (jm_s2_cl ad ls _ (.long _)) k
    · cases h
  · split at h
    · rename_i v _ hn; cases h; exact lv_astore_n hx hb hd rfl hl hn (jm_s1_cl ad ls _ (.ref v)) k
    · cases h
  · split at h
    · rename_i v _ hn; cases h; exact lv_astore hx hb hd hl hn (jm_s1_cl ad ls _ (.ref v)) k
    · cases h
  · split at h
    · rename_i v hv
      split at h
      · rename_i hn
        cases h
        obtain ⟨q, hq⟩ := List.getElem?_of_mem (List.mem_map.mpr ⟨_, jm_lk_mem hv, rfl⟩ : (_, jm_cv ad (.int v)) ∈ jm_cl ad ls)
        exact lv_iinc hx hb hd hl hq rfl hn (jm_s1_cl ad ls _ (.int _)) k
      · cases h
    · cases h
  · cases h
theorem jm_f4_ok (hx : p.tables.exec = Jvm.exec) (hb : c.code = cc) (hd : decode cc pc = .ok (i, len)) (h : jm_f4 i len pc ls st = some (pc', ls', st')) (hl : lv_has la nL (jm_cl ad ls))
    (k : ∀ la' : Array Slot, lv_has la' nL (jm_cl ad ls') → W p l e R s m args below meth c H locs cells slots Q (F0 m pc' la' (jm_st ad st'))) : W p l e R s m args below meth c H locs cells slots Q (F0 m pc la (jm_st ad st)) := by
  unfold jm_f4 at h
  split at h
  · cases h; exact lv_iadd hx hb hd (k la hl)
  · cases h; exact lv_isub hx hb hd (k la hl)
  · cases h; exact lv_imul hx hb hd (k la hl)
  · cases h; exact lv_iand hx hb hd (k la hl)
  · cases h; exact lv_ishr hx hb hd (k la hl)
  · cases h; exact lv_ladd hx hb hd (k la hl)
  · cases h; exact lv_lsub hx hb hd (k la hl)
  · cases h; exact lv_lmul hx hb hd (k la hl)
  · cases h; exact W.lcmp hx hb hd (k la hl)
  · cases h; exact lv_i2l hx hb hd rfl (k la hl)
  · cases h; exact lv_i2b hx hb hd rfl (k la hl)
  · cases h; exact lv_i2c hx hb hd rfl (k la hl)
  · cases h; exact lv_dup hx hb hd rfl (k la hl)
  · cases h; exact lv_dup hx hb hd rfl (k la hl)
  · cases h; exact lv_pop hx hb hd rfl (k la hl)
  · cases h; exact lv_pop hx hb hd rfl (k la hl)
  · cases h; exact lv_dup_x1 hx hb hd rfl rfl (k la hl)
  · cases h; exact lv_dup2_11 hx hb hd rfl rfl (k la hl)
  · cases h
theorem jm_it {C : Prop} {d : Decidable C} {a b : Nat} {la : Array Slot} {st : List Value} (k : W p l e R s m args below meth c H locs cells slots Q (F0 m (@ite _ C d a b) la st)) (h : C) : W p l e R s m args below meth c H locs cells slots Q (F0 m a la st) := by
  rw [if_pos h] at k; exact k
theorem jm_if {C : Prop} {d : Decidable C} {a b : Nat} {la : Array Slot} {st : List Value} (k : W p l e R s m args below meth c H locs cells slots Q (F0 m (@ite _ C d a b) la st)) (h : ¬ C) : W p l e R s m args below meth c H locs cells slots Q (F0 m b la st) := by
  rw [if_neg h] at k; exact k
theorem jm_f5_ok (hx : p.tables.exec = Jvm.exec) (hb : c.code = cc) (hd : decode cc pc = .ok (i, len)) (h : jm_f5 i len pc ls st = some (pc', ls', st')) (hl : lv_has la nL (jm_cl ad ls))
    (k : ∀ la' : Array Slot, lv_has la' nL (jm_cl ad ls') → W p l e R s m args below meth c H locs cells slots Q (F0 m pc' la' (jm_st ad st'))) : W p l e R s m args below meth c H locs cells slots Q (F0 m pc la (jm_st ad st)) := by
  unfold jm_f5 at h
  split at h
  · split at h
    · rename_i ho; cases h; exact lv_goto hx hb hd (jm_tg_ok ho) (k la hl)
    · cases h
  · split at h
    · rename_i ho; cases h; exact lv_if_eq hx hb hd (jm_tg_ok ho) (jm_it (k la hl)) (jm_if (k la hl))
    · cases h
  · split at h
    · rename_i ho; cases h; exact lv_if_ne hx hb hd (jm_tg_ok ho) (jm_if (k la hl)) (jm_it (k la hl))
    · cases h
  · split at h
    · rename_i ho; cases h; exact lv_if_lt hx hb hd (jm_tg_ok ho) (jm_it (k la hl)) (jm_if (k la hl))
    · cases h
  · split at h
    · rename_i ho; cases h; exact lv_if_ge hx hb hd (jm_tg_ok ho) (jm_it (k la hl)) (jm_if (k la hl))
    · cases h
  · split at h
    · rename_i ho; cases h; exact lv_if_gt hx hb hd (jm_tg_ok ho) (jm_it (k la hl)) (jm_if (k la hl))
    · cases h
  · split at h
    · rename_i ho; cases h; exact lv_if_le hx hb hd (jm_tg_ok ho) (jm_it (k la hl)) (jm_if (k la hl))
    · cases h
  · split at h
    · rename_i ho; cases h; exact lv_icmp_eq hx hb hd (jm_tg_ok ho) (jm_it (k la hl)) (jm_if (k la hl))
    · cases h
  · split at h
    · rename_i ho; cases h; exact lv_icmp_ne hx hb hd (jm_tg_ok ho) (jm_if (k la hl)) (jm_it (k la hl))
    · cases h
  · split at h
    · rename_i ho; cases h; exact lv_icmp_lt hx hb hd (jm_tg_ok ho) (jm_it (k la hl)) (jm_if (k la hl))
    · cases h
  · split at h
    · rename_i ho; cases h; exact lv_icmp_ge hx hb hd (jm_tg_ok ho) (jm_it (k la hl)) (jm_if (k la hl))
    · cases h
  · split at h
    · rename_i ho; cases h; exact lv_icmp_gt hx hb hd (jm_tg_ok ho) (jm_it (k la hl)) (jm_if (k la hl))
    · cases h
  · split at h
    · rename_i ho; cases h; exact lv_icmp_le hx hb hd (jm_tg_ok ho) (jm_it (k la hl)) (jm_if (k la hl))
    · cases h
  · cases h
/-- one instruction of the frame -/
def jm_f (nL : Nat) (i : Instr) (len pc : Nat) (ls : List (Nat × Value)) (st : List Value) : Option jm_F :=
  match jm_f2 i len pc ls st with
  | some r => some r
  | none => match jm_f4 i len pc ls st with
    | some r => some r
    | none => match jm_f1 i len pc ls st with
      | some r => some r
      | none => match jm_f5 i len pc ls st with
        | some r => some r
        | none => jm_f3 nL i len pc ls st
theorem jm_f_ok (hx : p.tables.exec = Jvm.exec) (hb : c.code = cc) (hd : decode cc pc = .ok (i, len)) (h : jm_f nL i len pc ls st = some (pc', ls', st')) (hl : lv_has la nL (jm_cl ad ls))
    (k : ∀ la' : Array Slot, lv_has la' nL (jm_cl ad ls') → W p l e R s m args below meth c H locs cells slots Q (F0 m pc' la' (jm_st ad st'))) : W p l e R s m args below meth c H locs cells slots Q (F0 m pc la (jm_st ad st)) := by
  unfold jm_f at h
  split at h
  · rename_i h2; cases h; exact jm_f2_ok hx hb hd h2 hl k
  · split at h
    · rename_i h2; cases h; exact jm_f4_ok hx hb hd h2 hl k
    · split at h
      · rename_i h2; cases h; exact jm_f1_ok hx hb hd h2 hl k
      · split at h
        · rename_i h2; cases h; exact jm_f5_ok hx hb hd h2 hl k
        · exact jm_f3_ok hx hb hd h hl k
end JS
end
section
/-! THE SMALL MACHINE, 3: contracts and the judgement. A result: an answer and a state, or the name of a thrown class and a state. -/
abbrev jm_R : Type := (Option Value × jm_X) ⊕ (String × jm_X)
/-- what is fixed: launch, class numbers, classes, addresses, array classes, shapes, words, links of nest mates (fields, methods), the size of the heap at the law's start, what is said of the cells that lay there -/
abbrev jm_P : Type := Launch × va_G × List vw_C × (Nat → Nat) × (Nat → ClassId) × List jm_S × List Cond × List (String × Nat × String × String × String × String) × List (String × Nat × MethodName × String) × Nat × (State → Heap → Prop)
abbrev jm_l (P : jm_P) : Launch := P.1
abbrev jm_d (P : jm_P) : va_G := P.2.1
abbrev jm_c (P : jm_P) : List vw_C := P.2.2.1
abbrev jm_a (P : jm_P) : Nat → Nat := P.2.2.2.1
abbrev jm_k (P : jm_P) : Nat → ClassId := P.2.2.2.2.1
abbrev jm_h (P : jm_P) : List jm_S := P.2.2.2.2.2.1
abbrev jm_t (P : jm_P) : List Cond := P.2.2.2.2.2.2.1
abbrev jm_fn (P : jm_P) : List (String × Nat × String × String × String × String) := P.2.2.2.2.2.2.2.1
abbrev jm_mn (P : jm_P) : List (String × Nat × MethodName × String) := P.2.2.2.2.2.2.2.2.1
abbrev jm_b (P : jm_P) : Nat := P.2.2.2.2.2.2.2.2.2.1
abbrev jm_sg (P : jm_P) : State → Heap → Prop := P.2.2.2.2.2.2.2.2.2.2
abbrev jm_w (P : jm_P) (x : jm_X) : va_W := jm_wl (jm_a P) (jm_k P) (jm_h P) x
abbrev jm_n (P : jm_P) : Nat := (jm_h P).length
def jm_arr (P : jm_P) (s : State) : Prop := ∀ (o : Nat) (ty : FieldType), ((∃ n, (jm_h P)[o]? = some (.inl (ty, n))) ∨ ∃ C ids, ty = .object C ∧ (jm_h P)[o]? = some (.inr (.inl (C, ids)))) → ArrOfT s (jm_k P o) ty ∧ va_RA s (jm_k P o) ty
/-- what holds of the tables and of the old cells at every state -/
def jm_G (P : jm_P) (s : State) : Prop :=
  (∀ w ∈ jm_t P, ∀ a : Array Value, w.before a s = true) ∧ (∀ w ∈ jm_fn P, va_Nw (.fieldLinkNest w.1 w.2.1 w.2.2.1 w.2.2.2.1 w.2.2.2.2.1 w.2.2.2.2.2) s) ∧ (∀ w ∈ jm_mn P, va_Nw (.methodLinkNest w.1 w.2.1 w.2.2.1 w.2.2.2) s) ∧
  va_K (jm_d P) (jm_c P) [] s ∧ jm_arr P s ∧ jm_b P ≤ s.heap.size ∧ jm_sg P s s.heap
def jm_Ok (P : jm_P) : Prop :=
  (∀ w ∈ jm_t P, goodWord w = true) ∧ jm_small (jm_h P) ∧ jm_inj (jm_a P) (jm_n P) ∧ (∀ k, k < jm_n P → jm_b P ≤ jm_a P k) ∧
  (∀ (u U : State) (H H1 : Heap), u.WarmedH U.vm → (∀ q, q < jm_b P → H1[q]? = H[q]?) → jm_sg P u H → jm_sg P U H1)
theorem jm_G.moved {P : jm_P} (hok : jm_Ok P) {s U : State} (h : jm_G P s) (hW : s.WarmedH U.vm) (hz : jm_b P ≤ U.heap.size) (hq : ∀ q, q < jm_b P → U.heap[q]? = s.heap[q]?) : jm_G P U := by
  obtain ⟨h1, h2, h3, h4, h5, h6, h7⟩ := h
  refine ⟨fun w hw a => word_at hW (good_of_word (hok.1 w hw)) (h1 w hw #[]), fun w hw => (h2 w hw).warmF hW, fun w hw => (h3 w hw).warmM hW, va_K.moved hW.alike h4, fun o ty ho => ?_, hz, hok.2.2.2.2 _ _ _ _ hW hq h7⟩
  exact ⟨arrOfT_moved hW.alike (h5 o ty ho).1, (h5 o ty ho).2.moved hW.alike⟩
abbrev jm_AA (P : jm_P) (s : State) : Nat → Prop := jm_A (jm_a P) (jm_n P) s.heap.size
theorem jm_A_old {P : jm_P} (hok : jm_Ok P) {sz q : Nat} (hz : jm_b P ≤ sz) (hq : q < jm_b P) : ¬ jm_A (jm_a P) (jm_n P) sz q := by
  rintro (⟨k, h1, h2⟩ | h)
  · have := hok.2.2.2.1 k h1
    omega
  · omega
def jm_end (P : jm_P) (s t : State) (k n : Nat) : Prop := ∃ L : List Loc, s.WarmedH t.vm ∧ s.sameButNew ({ t with vm := s.vm } : State) L k n ∧ (∀ q ∈ L, jm_AA P s q.base) ∧ va_F (jm_AA P s) s t
def jm_exc (C : String) (t : State) (a : Nat) : Prop := ∃ cell : Cell, t.heap[a]? = some cell ∧ cell.vm.isStatics = false ∧ t.vm.findClass C = some cell.cls ∧ ∃ k, t.vm.classes[cell.cls]? = some k
def jm_post (P : jm_P) : jm_R → State → Outcome → State → Prop
  | .inl q, s, o, t => o = .returned (q.1.map (jm_cv (jm_a P))) ∧ va_P (jm_d P) (jm_c P) (jm_w P q.2) t.heap ∧ jm_end P s t 0 0
  | .inr q, s, o, t => (∃ a, o = .threw a ∧ jm_exc q.1 t a) ∧ va_P (jm_d P) (jm_c P) (jm_w P q.2) t.heap ∧ jm_end P s t 1 20
def jm_Q (P : jm_P) (below : List Frame) (q : jm_R) (s : State) : State → Prop := fun t => ∃ o, t.status = .running ∧ Ended t below o ∧ jm_post P q s o t
def jm_room (d : Nat) : Room := { frames := d, cells := 1, slots := 20, locals := 40 * d }
/-- a method: name, code, places for locals, what it returns -/
abbrev jm_M : Type := MethodName × ByteArray × Nat × Option FieldType
abbrev jm_cw (M : jm_M) : Cond := .code M.1 M.2.1 M.2.2.1 M.2.2.2
def jm_Pre (P : jm_P) (av : List Value) (x : jm_X) : Array Value → State → Prop := fun a s => a = (jm_st (jm_a P) av).toArray ∧ jm_G P s ∧ va_P (jm_d P) (jm_c P) (jm_w P x) s.heap
/-- the contract: with room for d frames more, called with av in the state x, it ends with r (nothing is said where r is none) -/
def jm_Con (P : jm_P) (M : jm_M) (d : Nat) (av : List Value) (x : jm_X) (r : Option jm_R) : Prop := ∀ q, r = some q →
  MetFree (jm_l P) M.1 (headSpec [jm_cw M] (jm_room d)) (jm_Pre P av x) (fun _ _ _ _ _ => True) (fun _ s o t => jm_post P q s o t)
def jm_C (P : jm_P) (M : jm_M) (p : Program) (s : State) (m : MethodId) (meth : Method) (c : Code) : Prop :=
  p.tables.exec = Jvm.exec ∧ c.code = M.2.1 ∧ c.maxLocals = M.2.2.1 ∧ meth.sig.returnType = M.2.2.2 ∧ meth.locks = false ∧ s.vm.findClass M.1.cls = some m.cls ∧ c.exceptionTable.isEmpty = true ∧ jm_G P s
/-- the judgement: from this frame and this state the method ends with r -/
def jm_V (P : jm_P) (M : jm_M) (d pc : Nat) (ls : List (Nat × Value)) (st : List Value) (x : jm_X) (r : Option jm_R) : Prop :=
  ∀ q, r = some q → ∀ (p : Program) (e : Env) (s : State) (m : MethodId) (args : Array Value) (below : List Frame) (meth : Method) (c : Code) (H : Heap) (locs : List Loc) (la : Array Slot),
    jm_C P M p s m meth c → lv_has la M.2.2.1 (jm_cl (jm_a P) ls) → va_P (jm_d P) (jm_c P) (jm_w P x) H → va_S (jm_AA P s) s.heap H locs →
    W p (jm_l P) e (jm_room d) s m args below meth c H locs 0 0 (jm_Q P below q s) (F0 m pc la (jm_st (jm_a P) st))
theorem jm_V.stuck {P : jm_P} {M : jm_M} {d pc : Nat} {ls : List (Nat × Value)} {st : List Value} {x : jm_X} : jm_V P M d pc ls st x none := fun _ h => by cases h
theorem jm_args_cl (ad : Nat → Nat) : ∀ (vs : List Value) (i : Nat), jm_cl ad (lv_args i vs) = lv_args i (jm_st ad vs)
  | [], _ => rfl
  | v :: vs, i => by
    have ih := jm_args_cl ad vs (if v.category = 2 then i + 2 else i + 1)
    simp only [jm_cl, jm_st] at ih ⊢
    simp only [lv_args, List.map_cons, jm_cv_cat]
    rw [ih]
/-- a contract out of the walk from the entry -/
theorem jm_Con.of {P : jm_P} {M : jm_M} {d : Nat} {av : List Value} {x : jm_X} {r : Option jm_R} (hy : plainName M.1.cls = true) (hn : (lg_sl (jm_st (jm_a P) av)).length ≤ M.2.2.1)
    (h : jm_V P M d 0 (lv_args 0 av) [] x r) : jm_Con P M d av x r := by
  intro q hq
  refine MetFree.of_bodyS (code := M.2.1) (maxLocals := M.2.2.1) (ret := M.2.2.2) hy ?_ ?_
  · intro args s m h hn
    obtain ⟨meth, c, h1, h2, h3, h4, h5, h6, -, -⟩ := Cond.code_spec hn (atoms_spec (ws := [jm_cw M]) h _ List.mem_cons_self)
    exact ⟨meth, c, h1, h2, h3, h4, h5, h6⟩
  · intro p e s m args below meth c s₁ B hml hP _
    obtain ⟨rfl, hG, hPw⟩ := hP
    have hh0 : s₁.heap = s.heap := by rw [B.state]; rfl
    have hno : c.exceptionTable.isEmpty = true := B.noHandlers (atoms_spec (ws := [jm_cw M]) B.pre _ List.mem_cons_self)
    have hl := lv_entry (jm_st (jm_a P) av) hn
    rw [← jm_args_cl] at hl
    have W0 := h q hq p e s m (jm_st (jm_a P) av).toArray below meth c s.heap [] _ ⟨B.exec, B.bytes, hml, B.returns, B.notSynchronized, findClass_of_methodNamed B.named, hno, hG⟩ hl hPw va_S.rf
    obtain ⟨t, a1, o, b1, b2, b3⟩ := W0 s₁ hh0 (Stand.of_body B)
    rw [lg_entry_eq]
    exact ⟨t, o, a1, b1, b2, b3⟩
section JR
variable {P : jm_P} {M : jm_M} {d pc : Nat} {ls : List (Nat × Value)} {st : List Value} {x : jm_X}
/-- what both kinds of end need -/
theorem jm_end_of {s t : State} {H : Heap} {locs : List Loc} {k n : Nat} (hS : va_S (jm_AA P s) s.heap H locs) (ht : t.heap = H) (hW : s.WarmedH t.vm) (hf : s.sameButNew ({ t with vm := s.vm } : State) locs k n) : jm_end P s t k n :=
  ⟨locs, hW, hf, hS.2.2, hS.F ht⟩
theorem jm_Q_of {p : Program} {l : Launch} {e : Env} {R : Room} {s : State} {m : MethodId} {args : Array Value} {below : List Frame} {meth : Method} {c : Code} {H : Heap} {locs : List Loc} {q : jm_R} {g : JFrame} {Qc : Array Value → State → Outcome → State → Prop}
    (h : W p l e R s m args below meth c H locs 0 0 (MQ below Qc args s 0 0 (jm_AA P s)) g) (hq : ∀ o t, Qc args s o t → (∃ L, FrameEnd s o t L 0 0 ∧ ∀ z ∈ L, jm_AA P s z.base) → jm_post P q s o t) : W p l e R s m args below meth c H locs 0 0 (jm_Q P below q s) g := by
  intro T hT X
  obtain ⟨t, a1, o, b1, b2, b3, b4⟩ := h T hT X
  exact ⟨t, a1, o, b1, b2, hq o t b3 b4⟩
theorem jm_V.iret {v : Int32} (hr : M.2.2.2 = some .int) (hd : decode M.2.1 pc = .ok (.ireturn, 1)) : jm_V P M d pc ls [.int v] x (some (.inl (some (.int v), x))) := by
  intro q hq p e s m args below meth c H locs la hC hl hP hS
  cases hq
  obtain ⟨hx, hb, hml, hret, hlocks, hown, hno, hG⟩ := hC
  refine jm_Q_of (Qc := fun _ s o t => o = .returned (some (.int v)) ∧ va_P (jm_d P) (jm_c P) (jm_w P x) t.heap ∧ va_F (jm_AA P s) s t) ?_ ?_
  · exact W.iret hx hb (hret.trans hr) (fun t ht _ => ⟨rfl, by rw [ht]; exact hP, hS.F ht⟩) hS.2.2 hd
  · rintro o t ⟨h1, h2, h3⟩ ⟨L, ⟨-, hW, hf⟩, hL⟩
    exact ⟨h1, h2, L, hW, hf, hL, h3⟩
theorem jm_V.zret {v : Int32} (hr : M.2.2.2 = some .boolean) (hn : narrow .boolean (.int v) = .int v) (hd : decode M.2.1 pc = .ok (.ireturn, 1)) : jm_V P M d pc ls [.int v] x (some (.inl (some (.int v), x))) := by
  intro q hq p e s m args below meth c H locs la hC hl hP hS
  cases hq
  obtain ⟨hx, hb, hml, hret, hlocks, hown, hno, hG⟩ := hC
  refine jm_Q_of (Qc := fun _ s o t => o = .returned (some (.int v)) ∧ va_P (jm_d P) (jm_c P) (jm_w P x) t.heap ∧ va_F (jm_AA P s) s t) ?_ ?_
  · exact W.zret hx hb (hret.trans hr) hn (fun t ht _ => ⟨rfl, by rw [ht]; exact hP, hS.F ht⟩) hS.2.2 hd
  · rintro o t ⟨h1, h2, h3⟩ ⟨L, ⟨-, hW, hf⟩, hL⟩
    exact ⟨h1, h2, L, hW, hf, hL, h3⟩
theorem jm_V.vret (hr : M.2.2.2 = none) (hd : decode M.2.1 pc = .ok (.return_, 1)) : jm_V P M d pc ls [] x (some (.inl (none, x))) := by
  intro q hq p e s m args below meth c H locs la hC hl hP hS
  cases hq
  obtain ⟨hx, hb, hml, hret, hlocks, hown, hno, hG⟩ := hC
  refine jm_Q_of (Qc := fun _ s o t => o = .returned none ∧ va_P (jm_d P) (jm_c P) (jm_w P x) t.heap ∧ va_F (jm_AA P s) s t) ?_ ?_
  · exact W.vret hx hb (hret.trans hr) (fun t ht _ => ⟨rfl, by rw [ht]; exact hP, hS.F ht⟩) hS.2.2 hd
  · rintro o t ⟨h1, h2, h3⟩ ⟨L, ⟨-, hW, hf⟩, hL⟩
    exact ⟨h1, h2, L, hW, hf, hL, h3⟩
end JR
end
section
/-! THE SMALL MACHINE, 4: calls; a callee that throws ends its caller. -/
def jm_bind (r : Option jm_R) (f : Option Value → jm_X → Option jm_R) : Option jm_R := match r with
  | none => none
  | some (.inl q) => f q.1 q.2
  | some (.inr q) => some (.inr q)
section JC
variable {p : Program} {l : Launch} {e : Env} {R : Room} {s : State} {m : MethodId} {args : Array Value} {below : List Frame} {meth : Method} {c : Code} {T : State} {locs : List Loc} {cells slots : Nat}
/-- from the invocation to the callee's end, whichever it is -/
theorem jm_callee {y : MethodName} {ws : List Cond} {rm : Room} {Pc : Array Value → State → Prop} {Qc : Array Value → State → Outcome → State → Prop} {bytes : ByteArray} {maxL len : Nat} {ret : Option FieldType} {ig : Instr}
    (X : Stand p l e R s m args below meth c T locs cells slots) (hM : MetFree l y (headSpec ws rm) Pc (fun _ _ _ _ _ => True) Qc) {a : Array Value} (hws : ∀ w ∈ ws, w.before a T = true) (hcode : (Cond.code y bytes maxL ret).before a T = true) (hini : (Cond.initialized y.cls).before a T = true)
    (hfr : rm.frames + 1 ≤ R.frames) (hlo : 8 + (maxL + 11) + rm.locals ≤ R.locals) (hce : cells + rm.cells ≤ R.cells) (hsl : slots + rm.slots ≤ R.slots)
    {g : JFrame} (hg : g.method = m) (hsize : g.locals.size = c.maxLocals) (hdg : decode c.code g.pc = .ok (ig, len)) (hW : 2 * g.monitorRoom + (g.stack.map fun v => v.category).sum ≤ 8) {mk : MethodId} (hn : T.methodNamed? y = some mk) (hP : Pc a (T.calling g mk a)) :
    ∃ o s₂, Steps p.tables e below (doInvoke e (T.setTop g) [] mk a).1 s₂ ∧ Ended s₂ (.java g :: below) o ∧ Qc a (T.calling g mk a) o s₂ := by
  obtain ⟨methY, cY, hmY, hcY, -, hlY, -, -, -, -⟩ := Cond.code_spec hn hcode
  obtain ⟨kY, hkY, -⟩ := className_of_methodNamed hn
  have hinitY : kY.init = .initialized := Cond.initialized_spec (findClass_of_methodNamed hn) hkY hini
  have h : At T g.method c below := by rw [hg]; exact X.here
  have happ : (headSpec ws rm).appliesLoose y e.platform (T.calling g mk a) = true :=
    Spec.appliesLoose_calling (g := g) h hdg hn hkY hinitY (X.room_calling (g := g) (R' := rm) hsize hmY hcY hfr (by rw [hlY]; omega) hce hsl) (atoms_intro hws)
  have hfr2 : (T.setTop g).frames = [.java g] ++ below := by rw [State.frames_setTop' g h.top, X.tail]; rfl
  obtain ⟨o, s₂, hsteps, -, hend, hq⟩ := Jvm.Free.Steps.callFree hM p X.admits X.cas X.clock (acts := []) hfr2 happ hP trivial
  refine ⟨o, s₂, hsteps, ?_, hq⟩
  rw [hfr2] at hend
  exact hend
end JC
theorem jm_S_w {A B : Nat → Prop} {H0 H : Heap} {locs : List Loc} (h : va_S A H0 H locs) (hAB : ∀ q, A q → B q) : va_S B H0 H locs := ⟨h.1, fun q h1 h2 => h.2.1 q h1 (fun z => h2 (hAB q z)), fun q hq => hAB _ (h.2.2 q hq)⟩
/-- behind a callee: what has changed since the caller began -/
theorem jm_S_call {P : jm_P} {s u t : State} {H : Heap} {locs L : List Loc} (hS : va_S (jm_AA P s) s.heap H locs) (hu : u.heap = H) (hF : va_F (jm_AA P u) u t) (hL : ∀ q ∈ L, jm_AA P u q.base) : va_S (jm_AA P s) s.heap t.heap (locs ++ L) := by
  have hm : ∀ q, jm_AA P u q → jm_AA P s q := jm_A_mono (by rw [hu]; exact hS.1)
  refine ⟨Nat.le_trans hS.1 (by rw [← hu]; exact hF.1), fun q h1 h2 => ?_, fun q hq => ?_⟩
  · rw [hF.2 q (by rw [hu]; exact Nat.lt_of_lt_of_le h1 hS.1) (fun z => h2 (hm q z)), hu]
    exact hS.2.1 q h1 h2
  · rcases List.mem_append.mp hq with h | h
    · exact hS.2.2 q h
    · exact hm _ (hL q h)
/-- the invoking instruction at pc leads to the callee -/
def jm_Inv (P : jm_P) (M y : jm_M) (pc : Nat) (av rest : List Value) (x : jm_X) : Prop :=
  ∃ ig : Instr, decode M.2.1 pc = .ok (ig, 3) ∧ ∀ (p : Program) (e : Env) (R : Room) (s : State) (m : MethodId) (args : Array Value) (below : List Frame) (meth : Method) (c : Code) (T : State) (locs : List Loc) (cells slots : Nat) (la : Array Slot),
    jm_C P M p s m meth c → la.size = M.2.2.1 → va_P (jm_d P) (jm_c P) (jm_w P x) T.heap → va_S (jm_AA P s) s.heap T.heap locs → Stand p (jm_l P) e R s m args below meth c T locs cells slots →
    ∃ (vm₁ : Vm) (mk : MethodId), Stand p (jm_l P) e R s m args below meth c (T.setVm vm₁) locs cells slots ∧ s.methodNamed? y.1 = some mk ∧
      ∀ target, Steps p.tables e below (doInvoke e ((T.setVm vm₁).setTop (F0 m pc la (jm_st (jm_a P) rest))) [] mk (jm_st (jm_a P) av).toArray).1 target → Steps p.tables e below (T.setTop (F0 m pc la (jm_st (jm_a P) (av.reverse ++ rest)))) target
theorem jm_V.call {P : jm_P} {M y : jm_M} {d pc : Nat} {ls : List (Nat × Value)} {av rest : List Value} {x : jm_X} {r0 : Option jm_R} {f : Option Value → jm_X → Option jm_R} (hok : jm_Ok P) (hcon : jm_Con P y d av x r0) (hinv : jm_Inv P M y pc av rest x)
    (hy : jm_cw y ∈ jm_t P) (hini : Cond.initialized y.1.cls ∈ jm_t P) (hnl : y.2.2.1 ≤ 21) (hcat : (rest.map fun v => v.category).sum ≤ 8)
    (k : ∀ v x', jm_V P M (d + 1) (pc + 3) ls (v.toList ++ rest) x' (f v x')) : jm_V P M (d + 1) pc ls (av.reverse ++ rest) x (jm_bind r0 f) := by
  intro q hq p e s m args below meth c H locs la hC hl hP hS T hT X
  obtain ⟨hx, hb, hml, hret, hlocks, hown, hno, hG⟩ := id hC
  subst hT
  cases r0 with
  | none => cases hq
  | some q0 =>
    obtain ⟨ig, hdg, hgo⟩ := hinv
    obtain ⟨vm₁, mk, X₁, hn, hstep⟩ := hgo p e (jm_room (d + 1)) s m args below meth c T locs 0 0 la hC hl.1 hP hS X
    have hz : jm_b P ≤ T.heap.size := Nat.le_trans hG.2.2.2.2.2.1 hS.1
    have hold : ∀ q, q < jm_b P → T.heap[q]? = s.heap[q]? := fun q h1 => hS.2.1 q (Nat.lt_of_lt_of_le h1 hG.2.2.2.2.2.1) (jm_A_old hok hG.2.2.2.2.2.1 h1)
    have hG1 : jm_G P (T.setVm vm₁) := hG.moved hok X₁.warmed hz hold
    have hcs : ((jm_st (jm_a P) rest).map fun v => v.category).sum ≤ 8 := by
      have : (jm_st (jm_a P) rest).map (fun v => v.category) = rest.map (fun v => v.category) := by
        simp only [jm_st, List.map_map]
        apply List.map_congr_left
        intro v _
        exact jm_cv_cat _ v
      rw [this]; exact hcat
    obtain ⟨o, s₂, hsteps, hend, hpost⟩ := jm_callee X₁ (hcon q0 rfl) (a := (jm_st (jm_a P) av).toArray) (bytes := y.2.1) (maxL := y.2.2.1) (ret := y.2.2.2) (ig := ig) (len := 3) (g := F0 m pc la (jm_st (jm_a P) rest)) (fun w hw => by
        rw [List.mem_singleton.mp hw]; exact hG1.1 _ hy _) (hG1.1 _ hy _) (hG1.1 _ hini _) (Nat.le_refl _) (by show 8 + (y.2.2.1 + 11) + 40 * d ≤ 40 * (d + 1); omega) (Nat.le_refl _) (Nat.le_refl _) rfl (by show la.size = _; rw [hl.1]; exact hml.symm) (by rw [hb]; exact hdg)
        (by show 2 * 0 + ((jm_st (jm_a P) rest).map fun v => v.category).sum ≤ 8; omega) (X₁.named hn) ⟨rfl, hG.moved hok (U := (T.setVm vm₁).calling (F0 m pc la (jm_st (jm_a P) rest)) mk (jm_st (jm_a P) av).toArray) X₁.warmed hz hold, hP⟩
    cases q0 with
    | inl z =>
      obtain ⟨v, x'⟩ := z
      obtain ⟨rfl, hP', L, hW', hsame, hL, hF⟩ := hpost
      obtain ⟨T', X', -, -, ht⟩ := X₁.outOf (g := F0 m pc la (jm_st (jm_a P) rest)) rfl (ig := ig) (len := 3) (by rw [hb]; exact hdg) hend hW' hsame
      have hth : T'.heap = s₂.heap := by rw [ht]; rfl
      have hS' := jm_S_call (P := P) hS (u := (T.setVm vm₁).calling (F0 m pc la (jm_st (jm_a P) rest)) mk (jm_st (jm_a P) av).toArray) rfl hF hL
      obtain ⟨t, a1, b1⟩ := k v x' q hq p e s m args below meth c T'.heap (locs ++ L) la hC hl (by rw [hth]; exact hP') (by rw [hth]; exact hS') T' rfl X'
      refine ⟨t, hstep t (hsteps.trans ?_), b1⟩
      rw [ht]
      have e1 : jm_st (jm_a P) (v.toList ++ rest) = (v.map (jm_cv (jm_a P))).toList ++ jm_st (jm_a P) rest := by cases v <;> simp [jm_st]
      rw [e1] at a1
      exact a1
    | inr z =>
      obtain ⟨ec, x'⟩ := z
      cases hq
      obtain ⟨⟨a, rfl, hexc⟩, hP', L, hW', hsame, hL, hF⟩ := hpost
      obtain ⟨T', X', -, -, ht⟩ := X₁.outOfThrown (g := F0 m pc la (jm_st (jm_a P) rest)) rfl hend hW' hsame
      have hth : T'.heap = s₂.heap := by rw [ht]; rfl
      have htv : T'.vm = s₂.vm := by rw [ht]; rfl
      have hS' := jm_S_call (P := P) hS (u := (T.setVm vm₁).calling (F0 m pc la (jm_st (jm_a P) rest)) mk (jm_st (jm_a P) av).toArray) rfl hF hL
      obtain ⟨st1, hrun, hended, hW2, hsame2⟩ := X'.leaveThrown a (g := F0 m pc la (jm_st (jm_a P) rest)) rfl rfl rfl (fun y hy2 => by
        rw [Array.isEmpty_iff] at hno; rw [hno] at hy2; cases hy2) hlocks
      refine ⟨_, hstep _ (hsteps.trans (by rw [ht]; exact st1)), .threw a, hrun, hended, ⟨a, rfl, ?_⟩, ?_, ?_⟩
      · obtain ⟨cell, c1, c2, c3, c4⟩ := hexc
        exact ⟨cell, by show T'.heap[a]? = _; rw [hth]; exact c1, c2, by show T'.vm.findClass _ = _; rw [htv]; exact c3, by show ∃ k, T'.vm.classes[_]? = _; rw [htv]; exact c4⟩
      · show va_P _ _ _ T'.heap
        rw [hth]; exact hP'
      · refine jm_end_of (H := s₂.heap) hS' hth hW2 ?_
        simpa using hsame2
end
section
/-! THE SMALL MACHINE, 5: the invoking instructions. -/
theorem jm_st_rev (ad : Nat → Nat) (as rest : List Value) : jm_st ad (as.reverse ++ rest) = (jm_st ad as).reverse ++ jm_st ad rest := by simp [jm_st]
theorem jm_st_rev1 (ad : Nat → Nat) (o : Nat) (as rest : List Value) : jm_st ad ((Value.ref o :: as).reverse ++ rest) = (jm_st ad as).reverse ++ Value.ref (ad o) :: jm_st ad rest := by simp [jm_st, jm_cv]
theorem jm_Inv.virt {P : jm_P} {M y : jm_M} {pc idx o : Nat} {as rest : List Value} {x : jm_X} {C : String} (hd : decode M.2.1 pc = .ok (.invokevirtual idx, 3)) (hlink : Cond.methodLink M.1.cls idx y.1 ∈ jm_t P ∨ ∃ host, (M.1.cls, idx, y.1, host) ∈ jm_mn P)
    (hin : Cond.instanceMethod y.1 ∈ jm_t P) (hsel : Cond.selects C y.1 y.1 ∈ jm_t P) (hcw : jm_cw y ∈ jm_t P) (hy : y.1.cls ≠ "java/lang/invoke/MethodHandle" ∧ y.1.cls ≠ "java/lang/invoke/VarHandle") (hlen : (parseMethodDescriptor y.1.desc).map (fun q => q.parameters.length) = some as.length)
    (hrecv : ∀ (s : State) (H : Heap) (locs : List Loc), jm_G P s → va_P (jm_d P) (jm_c P) (jm_w P x) H → va_S (jm_AA P s) s.heap H locs → ∃ cell : Cell, H[jm_a P o]? = some cell ∧ cell.vm.isStatics = false ∧ s.vm.findClass C = some cell.cls) : jm_Inv P M y pc (.ref o :: as) rest x := by
  refine ⟨_, hd, ?_⟩
  intro p e R s m args below meth c T locs cells slots la hC hla hP hS X
  obtain ⟨hx, hb, hml, hret, hlocks, hown, hno, hG⟩ := hC
  obtain ⟨mk, methM, hnamed, hmethM, hstM, habM⟩ := Cond.instanceMethod_spec (hG.1 _ hin args)
  obtain ⟨methM', cM, hmethM', -, -, -, -, -, -, hsigM⟩ := Cond.code_spec hnamed (hG.1 _ hcw args)
  cases hmethM.symm.trans hmethM'
  obtain ⟨c2, r2, m2, q1, q2, q3, q4, kP, hkP, hkPi⟩ := Cond.selects_spec (hG.1 _ hsel args)
  obtain ⟨cellB, hcB, hoB, hclB⟩ := hrecv s T.heap locs hG hP hS
  cases hclB.symm.trans q1
  cases (State.methodFound?_of_named hnamed hy).symm.trans q2
  cases hnamed.symm.trans q3
  have hselP : selectMethod e.platform s.vm cellB.cls mk = .method mk := by rw [Launch.admits_selectMethod X.admits]; exact q4
  have hl2 : (jm_st (jm_a P) as).length = methM.sig.parameters.length := by
    rw [hsigM] at hlen
    simp [jm_st]
    exact (Option.some.inj hlen).symm
  rcases hlink with hlink | ⟨host, hlink⟩
  · obtain ⟨vm₁, X₁, hstep⟩ := X.invokevirtual hx hown (hG.1 _ hlink args) hnamed hmethM hstM hkP hkPi hy (a := jm_a P o) (cell := cellB) hcB (fun z h => by rw [h] at hoB; cases hoB) hselP hmethM habM hkP hkPi
      (g := F0 m pc la (jm_st (jm_a P) ((Value.ref o :: as).reverse ++ rest))) rfl (argsL := jm_st (jm_a P) as) (rest := jm_st (jm_a P) rest) hl2 (jm_st_rev1 _ _ _ _) (by rw [hb]; exact hd)
    exact ⟨vm₁, mk, X₁, hnamed, fun target h => hstep target (fun acts => by rw [doInvoke_state]; exact h)⟩
  · obtain ⟨vm₁, X₁, hstep⟩ := X.invokevirtualNest hx hown (va_Nw.use rfl (hG.2.2.1 _ hlink)) hnamed hmethM hstM hkP hkPi hy (a := jm_a P o) (cell := cellB) hcB (fun z h => by rw [h] at hoB; cases hoB) hselP hmethM habM hkP hkPi
      (g := F0 m pc la (jm_st (jm_a P) ((Value.ref o :: as).reverse ++ rest))) rfl (argsL := jm_st (jm_a P) as) (rest := jm_st (jm_a P) rest) hl2 (jm_st_rev1 _ _ _ _) (by rw [hb]; exact hd)
    exact ⟨vm₁, mk, X₁, hnamed, fun target h => hstep target (fun acts => by rw [doInvoke_state]; exact h)⟩
/-- on an object of the world -/
theorem jm_Inv.obj {P : jm_P} {M y : jm_M} {pc idx o ci : Nat} {as rest : List Value} {x : jm_X} {q : vw_C} {fs : List Nat} (hd : decode M.2.1 pc = .ok (.invokevirtual idx, 3)) (hlink : Cond.methodLink M.1.cls idx y.1 ∈ jm_t P ∨ ∃ host, (M.1.cls, idx, y.1, host) ∈ jm_mn P)
    (hin : Cond.instanceMethod y.1 ∈ jm_t P) (hsel : Cond.selects q.1 y.1 y.1 ∈ jm_t P) (hcw : jm_cw y ∈ jm_t P) (hy : y.1.cls ≠ "java/lang/invoke/MethodHandle" ∧ y.1.cls ≠ "java/lang/invoke/VarHandle") (hlen : (parseMethodDescriptor y.1.desc).map (fun q => q.parameters.length) = some as.length)
    (hs : (jm_h P)[o]? = some (.inr (.inr (ci, fs)))) (hc : (jm_c P)[ci]? = some q) : jm_Inv P M y pc (.ref o :: as) rest x :=
  jm_Inv.virt hd hlink hin hsel hcw hy hlen (fun _ _ _ hG hP _ => va_recv hG.2.2.2.1 hP hc (jm_wl_at hs))
theorem jm_Inv.stat {P : jm_P} {M y : jm_M} {pc idx : Nat} {as rest : List Value} {x : jm_X} (hd : decode M.2.1 pc = .ok (.invokestatic idx, 3)) (hlink : Cond.methodLink M.1.cls idx y.1 ∈ jm_t P ∨ ∃ host, (M.1.cls, idx, y.1, host) ∈ jm_mn P)
    (hst : Cond.static y.1 ∈ jm_t P) (hini : Cond.initialized y.1.cls ∈ jm_t P) (hcw : jm_cw y ∈ jm_t P) (hy : y.1.cls ≠ "java/lang/invoke/MethodHandle" ∧ y.1.cls ≠ "java/lang/invoke/VarHandle") (hlen : (parseMethodDescriptor y.1.desc).map (fun q => q.parameters.length) = some as.length) : jm_Inv P M y pc as rest x := by
  refine ⟨_, hd, ?_⟩
  intro p e R s m args below meth c T locs cells slots la hC hla hP hS X
  obtain ⟨hx, hb, hml, hret, hlocks, hown, hno, hG⟩ := hC
  obtain ⟨mk, hnamed⟩ := Cond.code_named (hG.1 _ hcw args)
  obtain ⟨methM, cM, hmethM, -, -, -, -, -, -, hsigM⟩ := Cond.code_spec hnamed (hG.1 _ hcw args)
  have hstatic : methM.isStatic = true := Cond.static_spec hnamed hmethM (hG.1 _ hst args)
  obtain ⟨kP, hkP, -⟩ := className_of_methodNamed hnamed
  have hinitP : kP.init = .initialized := Cond.initialized_spec (findClass_of_methodNamed hnamed) hkP (hG.1 _ hini args)
  have hl2 : (jm_st (jm_a P) as).length = methM.sig.parameters.length := by
    rw [hsigM] at hlen
    simp [jm_st]
    exact (Option.some.inj hlen).symm
  rcases hlink with hlink | ⟨host, hlink⟩
  · obtain ⟨vm₁, X₁, hstep⟩ := X.invokestatic hx hown (hG.1 _ hlink args) hnamed hmethM hstatic hkP hinitP hy (g := F0 m pc la (jm_st (jm_a P) (as.reverse ++ rest))) rfl (argsL := jm_st (jm_a P) as) (rest := jm_st (jm_a P) rest) hl2 (jm_st_rev _ _ _) (by rw [hb]; exact hd)
    exact ⟨vm₁, mk, X₁, hnamed, fun target h => hstep target (fun acts => by rw [doInvoke_state]; exact h)⟩
  · obtain ⟨vm₁, X₁, hstep⟩ := X.invokestaticNest hx hown (va_Nw.use rfl (hG.2.2.1 _ hlink)) hnamed hmethM hstatic hkP hinitP hy (g := F0 m pc la (jm_st (jm_a P) (as.reverse ++ rest))) rfl (argsL := jm_st (jm_a P) as) (rest := jm_st (jm_a P) rest) hl2 (jm_st_rev _ _ _) (by rw [hb]; exact hd)
    exact ⟨vm₁, mk, X₁, hnamed, fun target h => hstep target (fun acts => by rw [doInvoke_state]; exact h)⟩
end
section
/-! THE SMALL MACHINE, 6: fields, constants, arrays. -/
abbrev jm_T : Type := List (Nat × Nat × Nat) × List (Nat × Value) × List (Nat × Value)
def jm_lkp {α : Type} : List (Nat × α) → Nat → Option α
  | [], _ => none
  | q :: r, i => if q.1 = i then some q.2 else jm_lkp r i
theorem jm_lkp_mem {α : Type} : ∀ {l : List (Nat × α)} {i : Nat} {v : α}, jm_lkp l i = some v → (i, v) ∈ l
  | [], _, _, h => by cases h
  | (k, w) :: r, i, v, h => by
    unfold jm_lkp at h
    by_cases hk : k = i
    · rw [if_pos hk] at h
      cases h
      subst hk
      exact List.mem_cons_self
    · rw [if_neg hk] at h
      exact List.mem_cons_of_mem _ (jm_lkp_mem h)
def jm_fq (x : jm_X) (o k : Nat) : Nat → Value
  | 0 => .int (x.1 (jm_key o k))
  | 1 => .ref (x.2.1 (jm_key o k))
  | n + 2 => .ref n
theorem jm_fq_cv (ad : Nat → Nat) (x : jm_X) (o k : Nat) : ∀ fd : Nat, jm_cv ad (jm_fq x o k fd) = jm_fv ad x o k fd
  | 0 => rfl
  | 1 => rfl
  | _ + 2 => rfl
def jm_gf (sh : List jm_S) (x : jm_X) (ci k o : Nat) : Option Value := match sh[o]? with
  | some (.inr (.inr q)) => if q.1 = ci then (q.2[k]?).map (jm_fq x o k) else none
  | _ => none
def jm_pf (sh : List jm_S) (x : jm_X) (ci k o : Nat) (v : Value) : Option jm_X := match sh[o]?, v with
  | some (.inr (.inr q)), .int w => if q.1 = ci then (if q.2[k]? = some 0 then some (va_up x.1 (jm_key o k) w, x.2) else none) else none
  | some (.inr (.inr q)), .ref w => if q.1 = ci then (if q.2[k]? = some 1 then some (x.1, va_up x.2.1 (jm_key o k) w, x.2.2) else none) else none
  | _, _ => none
/-- the field's place in its class; how the class links it -/
def jm_FOk (P : jm_P) (own : String) (idx ci k : Nat) : Prop := ∃ (C : String) (T : u_T) (N : Nat) (ty : Nat → FieldType), (jm_c P)[ci]? = some (C, T, N) ∧ k < N ∧ (T k).1 = C ∧ (∀ w ∈ u_ws C T N, w ∈ jm_t P) ∧
  (∀ k, k < N → parseFieldDescriptor (T k).2.2.1 = some (ty k)) ∧ (∀ a, a < N → ∀ b, b < N → a ≠ b → (T a).2.1 ≠ (T b).2.1) ∧ (Cond.fieldLink own idx C (T k).2.1 (T k).2.2.1 ∈ jm_t P ∨ ∃ host, (own, idx, C, (T k).2.1, (T k).2.2.1, host) ∈ jm_fn P) ∧
  (∀ (o : Nat) (fs : List Nat), (jm_h P)[o]? = some (.inr (.inr (ci, fs))) → (fs[k]? = some 0 → ty k = .int ∧ (T k).2.2.2 = false) ∧ (fs[k]? = some 1 → (∃ t, ty k = .object t ∨ ∃ u, ty k = .array u) ∧ (T k).2.2.2 = false))
def jm_SOk (P : jm_P) (own : String) (idx : Nat) (v : Value) : Prop := ∃ C n dsc : String, Cond.fieldLink own idx C n dsc ∈ jm_t P ∧ ∀ (s : State) (H : Heap), jm_sg P s H → va_Z C n dsc (jm_cv (jm_a P) v) (fun q => jm_b P ≤ q) s H
def jm_LOk (P : jm_P) (own : String) (idx : Nat) (v : Value) : Prop := (∃ n : Int32, v = .int n ∧ Cond.constant own idx n ∈ jm_t P) ∨ ∃ n : Int64, v = .long n ∧ Cond.constantLong own idx n ∈ jm_t P
def jm_TOk (P : jm_P) (own : String) (T : jm_T) : Prop := (∀ q ∈ T.1, jm_FOk P own q.1 q.2.1 q.2.2) ∧ (∀ q ∈ T.2.1, jm_SOk P own q.1 q.2) ∧ (∀ q ∈ T.2.2, jm_LOk P own q.1 q.2)
def jm_g (sh : List jm_S) (T : jm_T) (nL : Nat) (i : Instr) (len pc : Nat) (ls : List (Nat × Value)) (st : List Value) (x : jm_X) : Option (jm_F × jm_X) := match i, len, st with
  | .getfield idx, 3, .ref o :: r => match jm_lkp T.1 idx with
    | some q => match jm_gf sh x q.1 q.2 o with
      | some v => some ((pc + 3, ls, v :: r), x)
      | none => none
    | none => none
  | .putfield idx, 3, v :: .ref o :: r => match jm_lkp T.1 idx with
    | some q => match jm_pf sh x q.1 q.2 o v with
      | some x' => some ((pc + 3, ls, r), x')
      | none => none
    | none => none
  | .getstatic idx, 3, st => match jm_lkp T.2.1 idx with
    | some v => some ((pc + 3, ls, v :: st), x)
    | none => none
  | .ldc idx, 2, st => match jm_lkp T.2.2 idx with
    | some (.int v) => some ((pc + 2, ls, .int v :: st), x)
    | _ => none
  | .ldc2_w idx, 3, st => match jm_lkp T.2.2 idx with
    | some (.long v) => some ((pc + 3, ls, .long v :: st), x)
    | _ => none
  | i, len, st => match jm_f nL i len pc ls st with
    | some q => some (q, x)
    | none => none
section JG
variable {P : jm_P} {M : jm_M} {d pc pc' len idx : Nat} {ls ls' : List (Nat × Value)} {st st' : List Value} {x x' : jm_X} {r : Option jm_R} {i : Instr}
theorem jm_V.frame (hd : decode M.2.1 pc = .ok (i, len)) (h : jm_f M.2.2.1 i len pc ls st = some (pc', ls', st')) (k : jm_V P M d pc' ls' st' x r) : jm_V P M d pc ls st x r := by
  intro q hq p e s m args below meth c H locs la hC hl hP hS
  exact jm_f_ok hC.1 hC.2.1 hd h hl (fun la' hl' => k q hq p e s m args below meth c H locs la' hC hl' hP hS)
theorem jm_V.getf {o ci k : Nat} {v : Value} (hF : jm_FOk P M.1.cls idx ci k) (hv : jm_gf (jm_h P) x ci k o = some v) (hd : decode M.2.1 pc = .ok (.getfield idx, 3)) (kk : jm_V P M d (pc + 3) ls (v :: st) x r) : jm_V P M d pc ls (.ref o :: st) x r := by
  intro q hq p e s m args below meth c H locs la hC hl hP hS
  obtain ⟨hx, hb, hml, hret, hlocks, hown, hno, hG⟩ := id hC
  obtain ⟨C, T, N, ty, h1, h2, h3, h4, h5, h6, h7, h8⟩ := hF
  unfold jm_gf at hv
  split at hv
  · rename_i q1 hs
    split at hv
    · rename_i hci
      obtain ⟨ci', fs⟩ := q1
      subst hci
      have hv2 : (fs.mapIdx (fun k fd => jm_fv (jm_a P) x o k fd))[k]? = some (jm_cv (jm_a P) v) := by
        rw [jm_fs_get]
        cases hfk : fs[k]? with
        | none => rw [hfk] at hv; cases hv
        | some fd => rw [hfk] at hv; cases hv; simp only [Option.map_some]; rw [jm_fq_cv]
      have kk2 := kk q hq p e s m args below meth c H locs la hC hl hP hS
      rcases h7 with h7 | ⟨host, h7⟩
      · exact va_get (D := jm_d P) (cl := jm_c P) (tys := []) (ws := jm_w P x) (C := C) (T := T) (N := N) (ref := C) hx hb (fun w hw => hG.1 w hw args) h4 hown hG.2.2.2.1 hP o (jm_wl_at hs) h1 k h2 (hG.1 _ h7 args) (fun y hy => by rw [h3] at hy; exact hy) hv2 hd kk2
      · exact va_getN (D := jm_d P) (cl := jm_c P) (tys := []) (ws := jm_w P x) (C := C) (T := T) (N := N) (ref := C) (host := host) hx hb (fun w hw => hG.1 w hw args) h4 hown hG.2.2.2.1 hP o (jm_wl_at hs) h1 k h2 (va_Nw.use rfl (hG.2.1 _ h7)) (fun y hy => by rw [h3] at hy; exact hy) hv2 hd kk2
    · cases hv
  · cases hv
theorem jm_V.putf {o ci k : Nat} {v : Value} (hok : jm_Ok P) (hF : jm_FOk P M.1.cls idx ci k) (hv : jm_pf (jm_h P) x ci k o v = some x') (hd : decode M.2.1 pc = .ok (.putfield idx, 3)) (kk : jm_V P M d (pc + 3) ls st x' r) : jm_V P M d pc ls (v :: .ref o :: st) x r := by
  intro q hq p e s m args below meth c H locs la hC hl hP hS
  obtain ⟨hx, hb, hml, hret, hlocks, hown, hno, hG⟩ := id hC
  obtain ⟨C, T, N, ty, h1, h2, h3, h4, h5, h6, h7, h8⟩ := hF
  have hD : va_D (jm_AA P s) (jm_w P x) := jm_D hok.2.2.1
  have kk2 := fun H1 locs1 hP1 hS1 => kk q hq p e s m args below meth c H1 locs1 la hC hl hP1 hS1
  unfold jm_pf at hv
  split at hv
  · rename_i q1 w hs
    obtain ⟨ci', fs⟩ := q1
    split at hv
    · rename_i hci
      split at hv
      · rename_i hf
        cases hv
        dsimp only at hci hf
        subst hci
        have e1 := jm_set_int (ad := jm_a P) (aC := jm_k P) (x := x) hok.2.1 hs hf w
        obtain ⟨hty, hfin⟩ := (h8 o fs hs).1 hf
        have hl2 : k < (fs.mapIdx (fun k fd => jm_fv (jm_a P) x o k fd)).length := by simpa using (List.getElem?_eq_some_iff.mp hf).1
        have hpt : parseFieldDescriptor (T k).2.2.1 = some .int := by rw [h5 k h2, hty]
        have K : ∀ (H1 : Heap) (locs1 : List Loc), va_P (jm_d P) (jm_c P) ((jm_w P x).set o (jm_a P o, .inr (ci', (fs.mapIdx (fun k fd => jm_fv (jm_a P) x o k fd)).set k (.int w)))) H1 → va_D (jm_AA P s) ((jm_w P x).set o (jm_a P o, .inr (ci', (fs.mapIdx (fun k fd => jm_fv (jm_a P) x o k fd)).set k (.int w)))) → va_S (jm_AA P s) s.heap H1 locs1 → W p (jm_l P) e (jm_room d) s m args below meth c H1 locs1 0 0 (jm_Q P below q s) (F0 m (pc + 3) la (jm_st (jm_a P) st)) :=
          fun H1 locs1 hP1 _ hS1 => kk2 H1 locs1 (by show va_P _ _ (jm_wl _ _ _ _) H1; rw [e1]; exact hP1) hS1
        rcases h7 with h7 | ⟨host, h7⟩
        · exact va_put (D := jm_d P) (cl := jm_c P) (tys := []) (C := C) (T := T) (N := N) (ref := C) (v := .int w) hx hb (fun w hw => hG.1 w hw args) h4 ty h5 h6 hown hG.2.2.2.1 hP hD hS o (jm_wl_at hs) h1 k h2 (hG.1 _ h7 args) (fun y hy => by rw [h3] at hy; exact hy) hfin hpt rfl rfl hl2 hd K
        · exact va_putN (D := jm_d P) (cl := jm_c P) (tys := []) (C := C) (T := T) (N := N) (ref := C) (host := host) (v := .int w) hx hb (fun w hw => hG.1 w hw args) h4 ty h5 h6 hown hG.2.2.2.1 hP hD hS o (jm_wl_at hs) h1 k h2 (va_Nw.use rfl (hG.2.1 _ h7)) (fun y hy => by rw [h3] at hy; exact hy) hfin hpt rfl rfl hl2 hd K
      · cases hv
    · cases hv
  · rename_i q1 w hs
    obtain ⟨ci', fs⟩ := q1
    split at hv
    · rename_i hci
      split at hv
      · rename_i hf
        cases hv
        dsimp only at hci hf
        subst hci
        have e1 := jm_set_ref (ad := jm_a P) (aC := jm_k P) (x := x) hok.2.1 hs hf w
        obtain ⟨hty, hfin⟩ := (h8 o fs hs).2 hf
        have hl2 : k < (fs.mapIdx (fun k fd => jm_fv (jm_a P) x o k fd)).length := by simpa using (List.getElem?_eq_some_iff.mp hf).1
        have hnf : narrow (ty k) (.ref (jm_a P w)) = .ref (jm_a P w) ∧ fits (ty k) (.ref (jm_a P w)) = true := by
          obtain ⟨t, h | ⟨u, h⟩⟩ := hty <;> rw [h] <;> exact ⟨rfl, rfl⟩
        have K : ∀ (H1 : Heap) (locs1 : List Loc), va_P (jm_d P) (jm_c P) ((jm_w P x).set o (jm_a P o, .inr (ci', (fs.mapIdx (fun k fd => jm_fv (jm_a P) x o k fd)).set k (.ref (jm_a P w))))) H1 → va_D (jm_AA P s) ((jm_w P x).set o (jm_a P o, .inr (ci', (fs.mapIdx (fun k fd => jm_fv (jm_a P) x o k fd)).set k (.ref (jm_a P w))))) → va_S (jm_AA P s) s.heap H1 locs1 → W p (jm_l P) e (jm_room d) s m args below meth c H1 locs1 0 0 (jm_Q P below q s) (F0 m (pc + 3) la (jm_st (jm_a P) st)) :=
          fun H1 locs1 hP1 _ hS1 => kk2 H1 locs1 (by show va_P _ _ (jm_wl _ _ _ _) H1; rw [e1]; exact hP1) hS1
        rcases h7 with h7 | ⟨host, h7⟩
        · exact va_put (D := jm_d P) (cl := jm_c P) (tys := []) (C := C) (T := T) (N := N) (ref := C) (v := .ref (jm_a P w)) hx hb (fun w hw => hG.1 w hw args) h4 ty h5 h6 hown hG.2.2.2.1 hP hD hS o (jm_wl_at hs) h1 k h2 (hG.1 _ h7 args) (fun y hy => by rw [h3] at hy; exact hy) hfin (h5 k h2) hnf.1 hnf.2 hl2 hd K
        · exact va_putN (D := jm_d P) (cl := jm_c P) (tys := []) (C := C) (T := T) (N := N) (ref := C) (host := host) (v := .ref (jm_a P w)) hx hb (fun w hw => hG.1 w hw args) h4 ty h5 h6 hown hG.2.2.2.1 hP hD hS o (jm_wl_at hs) h1 k h2 (va_Nw.use rfl (hG.2.1 _ h7)) (fun y hy => by rw [h3] at hy; exact hy) hfin (h5 k h2) hnf.1 hnf.2 hl2 hd K
      · cases hv
    · cases hv
  · cases hv
theorem jm_AA_b (hok : jm_Ok P) {s : State} (hG : jm_G P s) : ∀ q, jm_AA P s q → jm_b P ≤ q := by
  rintro q (⟨k, h1, rfl⟩ | h)
  · exact hok.2.2.2.1 k h1
  · exact Nat.le_trans hG.2.2.2.2.2.1 h
theorem jm_V.gets {v : Value} (hok : jm_Ok P) (hF : jm_SOk P M.1.cls idx v) (hd : decode M.2.1 pc = .ok (.getstatic idx, 3)) (kk : jm_V P M d (pc + 3) ls (v :: st) x r) : jm_V P M d pc ls st x r := by
  intro q hq p e s m args below meth c H locs la hC hl hP hS
  obtain ⟨hx, hb, hml, hret, hlocks, hown, hno, hG⟩ := id hC
  obtain ⟨C, n, dsc, h1, h2⟩ := hF
  exact va_gets hx hb (h2 s s.heap hG.2.2.2.2.2.2) (jm_S_w hS (jm_AA_b hok hG)) hown (hG.1 _ h1 args) (fun _ h => h) hd (kk q hq p e s m args below meth c H locs la hC hl hP hS)
theorem jm_V.ldc {v : Int32} (hF : Cond.constant M.1.cls idx v ∈ jm_t P) (hd : decode M.2.1 pc = .ok (.ldc idx, 2)) (kk : jm_V P M d (pc + 2) ls (.int v :: st) x r) : jm_V P M d pc ls st x r := by
  intro q hq p e s m args below meth c H locs la hC hl hP hS
  obtain ⟨hx, hb, hml, hret, hlocks, hown, hno, hG⟩ := id hC
  exact lv_ldc hx hb hown (hG.1 _ hF args) hd (kk q hq p e s m args below meth c H locs la hC hl hP hS)
theorem jm_V.ldc2 {v : Int64} (hF : Cond.constantLong M.1.cls idx v ∈ jm_t P) (hd : decode M.2.1 pc = .ok (.ldc2_w idx, 3)) (kk : jm_V P M d (pc + 3) ls (.long v :: st) x r) : jm_V P M d pc ls st x r := by
  intro q hq p e s m args below meth c H locs la hC hl hP hS
  obtain ⟨hx, hb, hml, hret, hlocks, hown, hno, hG⟩ := id hC
  exact lv_ldc2 hx hb hown (hG.1 _ hF args) hd (kk q hq p e s m args below meth c H locs la hC hl hP hS)
theorem jm_V.one {T : jm_T} (hok : jm_Ok P) (hT : jm_TOk P M.1.cls T) (hd : decode M.2.1 pc = .ok (i, len)) (h : jm_g (jm_h P) T M.2.2.1 i len pc ls st x = some ((pc', ls', st'), x')) (k : jm_V P M d pc' ls' st' x' r) : jm_V P M d pc ls st x r := by
  unfold jm_g at h
  split at h
  · split at h
    · rename_i hi
      split at h
      · rename_i hv; cases h; exact jm_V.getf (hT.1 _ (jm_lkp_mem hi)) hv hd k
      · cases h
    · cases h
  · split at h
    · rename_i hi
      split at h
      · rename_i hv; cases h; exact jm_V.putf hok (hT.1 _ (jm_lkp_mem hi)) hv hd k
      · cases h
    · cases h
  · split at h
    · rename_i hi; cases h; exact jm_V.gets hok (hT.2.1 _ (jm_lkp_mem hi)) hd k
    · cases h
  · split at h
    · rename_i hi
      cases h
      rcases hT.2.2 _ (jm_lkp_mem hi) with ⟨n, h1, h2⟩ | ⟨n, h1, h2⟩
      · cases h1; exact jm_V.ldc h2 hd k
      · cases h1
    · cases h
  · split at h
    · rename_i hi
      cases h
      rcases hT.2.2 _ (jm_lkp_mem hi) with ⟨n, h1, h2⟩ | ⟨n, h1, h2⟩
      · cases h1
      · cases h1; exact jm_V.ldc2 h2 hd k
    · cases h
  · split at h
    · rename_i hi; cases h; exact jm_V.frame hd hi k
    · cases h
end JG
/-- a stretch of instructions, each with its place and its length -/
def jm_x (sh : List jm_S) (T : jm_T) (nL : Nat) : List (Nat × Instr × Nat) → Nat → List (Nat × Value) → List Value → jm_X → Option (jm_F × jm_X)
  | [], pc, ls, st, x => some ((pc, ls, st), x)
  | (p0, i, len) :: is, pc, ls, st, x => if p0 = pc then (match jm_g sh T nL i len pc ls st x with
    | some q => jm_x sh T nL is q.1.1 q.1.2.1 q.1.2.2 q.2
    | none => none) else none
def jm_at (cc : ByteArray) (is : List (Nat × Instr × Nat)) : Bool := is.all (fun q => decide (decode cc q.1 = .ok (q.2.1, q.2.2)))
theorem jm_V.run {P : jm_P} {M : jm_M} {d : Nat} {T : jm_T} {r : Option jm_R} (hok : jm_Ok P) (hT : jm_TOk P M.1.cls T) : ∀ {is : List (Nat × Instr × Nat)} {pc pc' : Nat} {ls ls' : List (Nat × Value)} {st st' : List Value} {x x' : jm_X},
    jm_at M.2.1 is = true → jm_x (jm_h P) T M.2.2.1 is pc ls st x = some ((pc', ls', st'), x') → jm_V P M d pc' ls' st' x' r → jm_V P M d pc ls st x r
  | [], _, _, _, _, _, _, _, _, _, h, k => by cases h; exact k
  | (p0, i, len) :: is, pc, pc', ls, ls', st, st', x, x', ha, h, k => by
    simp only [jm_at, List.all_cons, Bool.and_eq_true, decide_eq_true_eq] at ha
    unfold jm_x at h
    split at h
    · rename_i hp
      subst hp
      split at h
      · rename_i q hq
        obtain ⟨⟨pc1, ls1, st1⟩, x1⟩ := q
        exact jm_V.one hok hT ha.1 hq (jm_V.run hok hT (is := is) ha.2 h k)
      · cases h
    · cases h
/-- a branch: of the place and of the result alike -/
theorem jm_V.ite {P : jm_P} {M : jm_M} {d : Nat} {ls : List (Nat × Value)} {st : List Value} {x : jm_X} {C : Prop} {dc dc2 : Decidable C} {a b : Nat} {r r2 : Option jm_R} (kt : C → jm_V P M d a ls st x r) (kf : ¬ C → jm_V P M d b ls st x r2) : jm_V P M d (@ite _ C dc a b) ls st x (@ite _ C dc2 r r2) := by
  by_cases h : C
  · rw [if_pos h, if_pos h]; exact kt h
  · rw [if_neg h, if_neg h]; exact kf h
/-- an array's index is within, of the kind asked for -/
def jm_in (sh : List jm_S) (o : Nat) (ty : FieldType) (i : Int32) : Bool := match sh[o]? with
  | some (.inl q) => decide (q.1 = ty) && (decide (¬ i < 0) && decide (i.toNatClampNeg < q.2))
  | _ => false
theorem jm_in_of {sh : List jm_S} {o : Nat} {ty : FieldType} {i : Int32} (h : jm_in sh o ty i = true) : ∃ n, sh[o]? = some (.inl (ty, n)) ∧ vp_in i n := by
  unfold jm_in at h
  split at h
  · rename_i q hs
    obtain ⟨t, n⟩ := q
    simp only [Bool.and_eq_true, decide_eq_true_eq] at h
    obtain ⟨rfl, h2, h3⟩ := h
    exact ⟨n, hs, fun z => z.elim h2 (fun z => by omega)⟩
  · cases h
section JA
variable {P : jm_P} {M : jm_M} {d pc : Nat} {ls : List (Nat × Value)} {st : List Value} {x : jm_X} {r : Option jm_R} {o : Nat} {i v : Int32}
theorem jm_K1 {s : State} (hG : jm_G P s) {ty : FieldType} (h : (∃ n, (jm_h P)[o]? = some (.inl (ty, n))) ∨ ∃ C ids, ty = .object C ∧ (jm_h P)[o]? = some (.inr (.inl (C, ids)))) : va_K (jm_d P) (jm_c P) [(jm_k P o, ty)] s :=
  ⟨hG.2.2.2.1.1, fun k q hk => by
    match k, hk with
    | 0, hk => cases hk; exact hG.2.2.2.2.1 o ty h
    | k + 1, hk => simp at hk⟩
theorem jm_V.iald (hd : decode M.2.1 pc = .ok (.iaload, 1)) (k : jm_V P M d (pc + 1) ls (.int (x.2.2 o i.toNatClampNeg) :: st) x r) : jm_V P M d pc ls (.int i :: .ref o :: st) x (if jm_in (jm_h P) o .int i then r else none) := by
  split
  · rename_i h
    obtain ⟨n, hs, hin⟩ := jm_in_of h
    intro q hq p e s m args below meth c H locs la hC hl hP hS
    obtain ⟨hx, hb, hml, hret, hlocks, hown, hno, hG⟩ := id hC
    exact va_iald hx hb (jm_K1 hG (Or.inl ⟨n, hs⟩)) hP o 0 (jm_wl_at hs) rfl hin hd (k q hq p e s m args below meth c H locs la hC hl hP hS)
  · exact jm_V.stuck
theorem jm_V.bald (hd : decode M.2.1 pc = .ok (.baload, 1)) (k : jm_V P M d (pc + 1) ls (.int (x.2.2 o i.toNatClampNeg) :: st) x r) : jm_V P M d pc ls (.int i :: .ref o :: st) x (if jm_in (jm_h P) o .byte i then r else none) := by
  split
  · rename_i h
    obtain ⟨n, hs, hin⟩ := jm_in_of h
    intro q hq p e s m args below meth c H locs la hC hl hP hS
    obtain ⟨hx, hb, hml, hret, hlocks, hown, hno, hG⟩ := id hC
    exact va_bald hx hb (jm_K1 hG (Or.inl ⟨n, hs⟩)) hP o 0 (jm_wl_at hs) rfl hin hd (k q hq p e s m args below meth c H locs la hC hl hP hS)
  · exact jm_V.stuck
theorem jm_V.zald (hd : decode M.2.1 pc = .ok (.baload, 1)) (k : jm_V P M d (pc + 1) ls (.int (x.2.2 o i.toNatClampNeg) :: st) x r) : jm_V P M d pc ls (.int i :: .ref o :: st) x (if jm_in (jm_h P) o .boolean i then r else none) := by
  split
  · rename_i h
    obtain ⟨n, hs, hin⟩ := jm_in_of h
    intro q hq p e s m args below meth c H locs la hC hl hP hS
    obtain ⟨hx, hb, hml, hret, hlocks, hown, hno, hG⟩ := id hC
    exact va_zald hx hb (jm_K1 hG (Or.inl ⟨n, hs⟩)) hP o 0 (jm_wl_at hs) rfl hin hd (k q hq p e s m args below meth c H locs la hC hl hP hS)
  · exact jm_V.stuck
abbrev jm_ua (x : jm_X) (o : Nat) (i v : Int32) : jm_X := (x.1, x.2.1, va_up x.2.2 o (upd (x.2.2 o) i.toNatClampNeg v))
theorem jm_V.iast (hok : jm_Ok P) (hd : decode M.2.1 pc = .ok (.iastore, 1)) (k : jm_V P M d (pc + 1) ls st (jm_ua x o i v) r) : jm_V P M d pc ls (.int v :: .int i :: .ref o :: st) x (if jm_in (jm_h P) o .int i then r else none) := by
  split
  · rename_i h
    obtain ⟨n, hs, hin⟩ := jm_in_of h
    intro q hq p e s m args below meth c H locs la hC hl hP hS
    obtain ⟨hx, hb, hml, hret, hlocks, hown, hno, hG⟩ := id hC
    exact va_iast hx hb (jm_K1 hG (Or.inl ⟨n, hs⟩)) hP (jm_D hok.2.2.1) hS o 0 (jm_wl_at hs) rfl hin hd (fun H1 locs1 hP1 _ hS1 => k q hq p e s m args below meth c H1 locs1 la hC hl (by show va_P _ _ (jm_wl _ _ _ _) H1; rw [jm_set_arr hs]; exact hP1) hS1)
  · exact jm_V.stuck
theorem jm_V.bast (hok : jm_Ok P) (hd : decode M.2.1 pc = .ok (.bastore, 1)) (k : jm_V P M d (pc + 1) ls st (jm_ua x o i (vp_nar .byte v)) r) : jm_V P M d pc ls (.int v :: .int i :: .ref o :: st) x (if jm_in (jm_h P) o .byte i then r else none) := by
  split
  · rename_i h
    obtain ⟨n, hs, hin⟩ := jm_in_of h
    intro q hq p e s m args below meth c H locs la hC hl hP hS
    obtain ⟨hx, hb, hml, hret, hlocks, hown, hno, hG⟩ := id hC
    exact va_bast hx hb (jm_K1 hG (Or.inl ⟨n, hs⟩)) hP (jm_D hok.2.2.1) hS o 0 (jm_wl_at hs) rfl hin hd (fun H1 locs1 hP1 _ hS1 => k q hq p e s m args below meth c H1 locs1 la hC hl (by show va_P _ _ (jm_wl _ _ _ _) H1; rw [jm_set_arr hs]; exact hP1) hS1)
  · exact jm_V.stuck
theorem jm_V.zast (hok : jm_Ok P) (hd : decode M.2.1 pc = .ok (.bastore, 1)) (k : jm_V P M d (pc + 1) ls st (jm_ua x o i (vp_nar .boolean v)) r) : jm_V P M d pc ls (.int v :: .int i :: .ref o :: st) x (if jm_in (jm_h P) o .boolean i then r else none) := by
  split
  · rename_i h
    obtain ⟨n, hs, hin⟩ := jm_in_of h
    intro q hq p e s m args below meth c H locs la hC hl hP hS
    obtain ⟨hx, hb, hml, hret, hlocks, hown, hno, hG⟩ := id hC
    exact va_zast hx hb (jm_K1 hG (Or.inl ⟨n, hs⟩)) hP (jm_D hok.2.2.1) hS o 0 (jm_wl_at hs) rfl hin hd (fun H1 locs1 hP1 _ hS1 => k q hq p e s m args below meth c H1 locs1 la hC hl (by show va_P _ _ (jm_wl _ _ _ _) H1; rw [jm_set_arr hs]; exact hP1) hS1)
  · exact jm_V.stuck
/-- an array's length -/
def jm_len (sh : List jm_S) (o : Nat) : Option Nat := match sh[o]? with
  | some (.inl q) => some q.2
  | some (.inr (.inl q)) => some q.2.length
  | _ => none
theorem jm_V.alen {n : Nat} (hd : decode M.2.1 pc = .ok (.arraylength, 1)) (k : jm_V P M d (pc + 1) ls (.int (Int32.ofNat n) :: st) x r) : jm_V P M d pc ls (.ref o :: st) x (if jm_len (jm_h P) o = some n then r else none) := by
  split
  · rename_i h
    intro q hq p e s m args below meth c H locs la hC hl hP hS
    obtain ⟨hx, hb, hml, hret, hlocks, hown, hno, hG⟩ := id hC
    have kk := k q hq p e s m args below meth c H locs la hC hl hP hS
    unfold jm_len at h
    split at h
    · rename_i z hs
      obtain ⟨ty, n'⟩ := z
      cases h
      exact va_alen hx hb (jm_K1 hG (Or.inl ⟨_, hs⟩)) hP o 0 (jm_wl_at hs) rfl rfl hd kk
    · rename_i z hs
      obtain ⟨C, ids⟩ := z
      cases h
      exact va_alen hx hb (jm_K1 hG (Or.inr ⟨C, ids, rfl, hs⟩)) hP o 0 (jm_wl_at hs) rfl rfl hd kk
    · cases h
  · exact jm_V.stuck
end JA
end
section
/-! THE SMALL MACHINE, 7: names for states, fewer locals, answers by their kind. -/
abbrev jm_Rec : Type := Nat → List Value → jm_X → Option jm_R
def jm_then (X : jm_X) (f : jm_X → Option jm_R) : Option jm_R := f X
def jm_bI (r : Option jm_R) (f : Int32 → jm_X → Option jm_R) : Option jm_R := jm_bind r (fun v x => match v with
  | some (.int b) => f b x
  | _ => none)
def jm_bA (r : Option jm_R) (f : Nat → jm_X → Option jm_R) : Option jm_R := jm_bind r (fun v x => match v with
  | some (.ref b) => f b x
  | _ => none)
def jm_bV (r : Option jm_R) (f : jm_X → Option jm_R) : Option jm_R := jm_bind r (fun v x => match v with
  | none => f x
  | _ => none)
section JH
variable {P : jm_P} {M y : jm_M} {d pc : Nat} {ls ls' : List (Nat × Value)} {st av rest : List Value} {x : jm_X} {r r0 : Option jm_R}
theorem jm_V.then_ {X : jm_X} {f : jm_X → Option jm_R} (h : ∀ x, jm_V P M d pc ls st x (f x)) : jm_V P M d pc ls st X (jm_then X f) := h X
theorem jm_V.sub (ks : List Nat) (hs : lv_pick ls ks = ls') (k : jm_V P M d pc ls' st x r) : jm_V P M d pc ls st x r := by
  intro q hq p e s m args below meth c H locs la hC hl hP hS
  refine k q hq p e s m args below meth c H locs la hC (lv_sub hl ks ?_) hP hS
  subst hs
  simp [lv_pick, jm_cl, List.map_filterMap]
theorem jm_V.callI {f : Int32 → jm_X → Option jm_R} (hok : jm_Ok P) (hcon : jm_Con P y d av x r0) (hinv : jm_Inv P M y pc av rest x) (hy : jm_cw y ∈ jm_t P) (hini : Cond.initialized y.1.cls ∈ jm_t P) (hnl : y.2.2.1 ≤ 21) (hcat : (rest.map fun v => v.category).sum ≤ 8)
    (k : ∀ b x', jm_V P M (d + 1) (pc + 3) ls (.int b :: rest) x' (f b x')) : jm_V P M (d + 1) pc ls (av.reverse ++ rest) x (jm_bI r0 f) := by
  refine jm_V.call hok hcon hinv hy hini hnl hcat (fun v x' => ?_)
  match v with
  | some (.int b) => exact k b x'
  | none => exact jm_V.stuck
  | some (.long _) => exact jm_V.stuck
  | some (.float _) => exact jm_V.stuck
  | some (.double _) => exact jm_V.stuck
  | some .null => exact jm_V.stuck
  | some (.ref _) => exact jm_V.stuck
  | some (.retAddr _) => exact jm_V.stuck
theorem jm_V.callA {f : Nat → jm_X → Option jm_R} (hok : jm_Ok P) (hcon : jm_Con P y d av x r0) (hinv : jm_Inv P M y pc av rest x) (hy : jm_cw y ∈ jm_t P) (hini : Cond.initialized y.1.cls ∈ jm_t P) (hnl : y.2.2.1 ≤ 21) (hcat : (rest.map fun v => v.category).sum ≤ 8)
    (k : ∀ b x', jm_V P M (d + 1) (pc + 3) ls (.ref b :: rest) x' (f b x')) : jm_V P M (d + 1) pc ls (av.reverse ++ rest) x (jm_bA r0 f) := by
  refine jm_V.call hok hcon hinv hy hini hnl hcat (fun v x' => ?_)
  match v with
  | some (.ref b) => exact k b x'
  | none => exact jm_V.stuck
  | some (.int _) => exact jm_V.stuck
  | some (.long _) => exact jm_V.stuck
  | some (.float _) => exact jm_V.stuck
  | some (.double _) => exact jm_V.stuck
  | some .null => exact jm_V.stuck
  | some (.retAddr _) => exact jm_V.stuck
theorem jm_V.callV {f : jm_X → Option jm_R} (hok : jm_Ok P) (hcon : jm_Con P y d av x r0) (hinv : jm_Inv P M y pc av rest x) (hy : jm_cw y ∈ jm_t P) (hini : Cond.initialized y.1.cls ∈ jm_t P) (hnl : y.2.2.1 ≤ 21) (hcat : (rest.map fun v => v.category).sum ≤ 8)
    (k : ∀ x', jm_V P M (d + 1) (pc + 3) ls rest x' (f x')) : jm_V P M (d + 1) pc ls (av.reverse ++ rest) x (jm_bV r0 f) := by
  refine jm_V.call hok hcon hinv hy hini hnl hcat (fun v x' => ?_)
  match v with
  | none => exact k x'
  | some _ => exact jm_V.stuck
theorem jm_V.aret {v : Nat} {t : FieldType} (hr : M.2.2.2 = some t) (ht : (∃ n, t = .object n) ∨ ∃ u, t = .array u) (hd : decode M.2.1 pc = .ok (.areturn, 1)) : jm_V P M d pc ls [.ref v] x (some (.inl (some (.ref v), x))) := by
  intro q hq p e s m args below meth c H locs la hC hl hP hS
  cases hq
  obtain ⟨hx, hb, hml, hret, hlocks, hown, hno, hG⟩ := hC
  refine jm_Q_of (Qc := fun _ s o t => o = .returned (some (.ref (jm_a P v))) ∧ va_P (jm_d P) (jm_c P) (jm_w P x) t.heap ∧ va_F (jm_AA P s) s t) ?_ ?_
  · exact W.aret hx hb (hret.trans hr) ht (Or.inr ⟨_, rfl⟩) (fun t ht _ => ⟨rfl, by rw [ht]; exact hP, hS.F ht⟩) hS.2.2 hd
  · rintro o t ⟨h1, h2, h3⟩ ⟨L, ⟨-, hW, hf⟩, hL⟩
    exact ⟨h1, h2, L, hW, hf, hL, h3⟩
end JH
/-- what a caught or passed-on object is -/
theorem jm_exc_of {P : jm_P} {s : State} {x : jm_X} {o ci : Nat} {fs : List Nat} {q : vw_C} (hG : jm_G P s) {H : Heap} (hP : va_P (jm_d P) (jm_c P) (jm_w P x) H) (hs : (jm_h P)[o]? = some (.inr (.inr (ci, fs)))) (hc : (jm_c P)[ci]? = some q) {t : State} (ht : t.heap = H) (hW : s.vm.Alike t.vm) : jm_exc q.1 t (jm_a P o) := by
  obtain ⟨cell, h1, h2, h3⟩ := va_recv hG.2.2.2.1 hP hc (jm_wl_at hs)
  obtain ⟨-, hfc, kC, hkC, -⟩ := hG.2.2.2.1.1 ci q hc
  have e : cell.cls = (jm_d P).1 ci := Option.some.inj (h3.symm.trans hfc)
  obtain ⟨k', hk', -⟩ := hW.2.2 _ _ hkC
  exact ⟨cell, by rw [ht]; exact h1, h2, by rw [hW.findClass]; exact h3, k', by rw [e]; exact hk'⟩
theorem jm_V.athrow {P : jm_P} {M : jm_M} {d pc o ci : Nat} {ls : List (Nat × Value)} {st : List Value} {x : jm_X} {fs : List Nat} {q : vw_C} (hs : (jm_h P)[o]? = some (.inr (.inr (ci, fs)))) (hc : (jm_c P)[ci]? = some q) (hd : decode M.2.1 pc = .ok (.athrow, 1)) :
    jm_V P M d pc ls (.ref o :: st) x (some (.inr (q.1, x))) := by
  intro z hz p e s m args below meth c H locs la hC hl hP hS T hT X
  cases hz
  obtain ⟨hx, hb, hml, hret, hlocks, hown, hno, hG⟩ := hC
  have X1 := stand_widen X (Nat.zero_le 1) (Nat.zero_le 20)
  obtain ⟨st1, hrun, hended, hW2, hsame2⟩ := X1.athrowLeaves hx (g := F0 m pc la (jm_st (jm_a P) (.ref o :: st))) rfl rfl rfl (fun y hy2 => by
    rw [Array.isEmpty_iff] at hno; rw [hno] at hy2; cases hy2) (a := jm_a P o) (rest := jm_st (jm_a P) st) rfl (by rw [hb]; exact hd) hlocks
  refine ⟨_, st1, .threw (jm_a P o), hrun, hended, ⟨_, rfl, jm_exc_of hG hP hs hc (by exact hT) hW2.alike⟩, ?_, jm_end_of (H := H) hS (by exact hT) hW2 hsame2⟩
  show va_P _ _ _ T.heap
  rw [hT]; exact hP
theorem jm_room_mono {s : State} {pl : Platform} {d d' : Nat} (h : d ≤ d') (hr : s.hasRoom pl (jm_room d') = true) : s.hasRoom pl (jm_room d) = true := by
  unfold State.hasRoom at hr ⊢
  rw [Bool.and_eq_true, Bool.and_eq_true, Bool.and_eq_true, Bool.and_eq_true] at hr ⊢
  obtain ⟨⟨⟨⟨h1, h2⟩, h7⟩, h8⟩, h9⟩ := hr
  have g1 := of_decide_eq_true h1
  obtain ⟨g2, g3, g4, g5, g6⟩ := of_decide_eq_true h2
  simp only [jm_room] at g1 g2 g3 g4 g5 g6
  refine ⟨⟨⟨⟨decide_eq_true ?_, decide_eq_true ⟨?_, ?_, ?_, ?_, g6⟩⟩, h7⟩, h8⟩, h9⟩ <;> simp only [jm_room] <;> omega
theorem jm_Con.mono {P : jm_P} {M : jm_M} {d d' : Nat} {av : List Value} {x : jm_X} {r : Option jm_R} (h : jm_Con P M d av x r) (hd : d ≤ d') : jm_Con P M d' av x r := by
  intro q hq p e ha hc hk s m args below hf happ hP hK
  refine h q hq p e ha hc hk s m args below hf ?_ hP hK
  obtain ⟨h1, h2, h3, h4, h5, h6, h7, h8⟩ := (Spec.appliesLoose_iff hf).mp happ
  exact (Spec.appliesLoose_iff hf).mpr ⟨h1, h2, h3, h4, h5, h6, jm_room_mono hd h7, h8⟩
end

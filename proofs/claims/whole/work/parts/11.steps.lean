/-! THE SMALL MACHINE, 2: the instructions that touch the frame alone, as a function. -/
def jm_lk : List (Nat × Value) → Nat → Option Value
  | [], _ => none
  | q :: r, i => if q.1 = i then some q.2 else jm_lk r i
theorem jm_lk_mem : ∀ {ls : List (Nat × Value)} {i : Nat} {v : Value}, jm_lk ls i = some v → (i, v) ∈ ls
  | [], _, _, h => by cases h
  | (k, w) :: r, i, v, h => by
    unfold jm_lk at h
    by_cases hk : k = i
    · rw [if_pos hk] at h
      cases h
      subst hk
      exact List.mem_cons_self
    · rw [if_neg hk] at h
      exact List.mem_cons_of_mem _ (jm_lk_mem h)
theorem jm_lk_at {ad : Nat → Nat} {ls : List (Nat × Value)} {i nL : Nat} {v : Value} {la : Array Slot} (hl : lv_has la nL (jm_cl ad ls)) (h : jm_lk ls i = some v) : la[i]? = some (.val (jm_cv ad v)) :=
  hl.2.2 (i, jm_cv ad v) (List.mem_map.mpr ⟨(i, v), jm_lk_mem h, rfl⟩)
def jm_s1 (ls : List (Nat × Value)) (i : Nat) (v : Value) : List (Nat × Value) := (i, v) :: ls.filter (fun q => !(q.1 == i) && !(q.1 + 1 == i && q.2.category == 2))
def jm_s2 (ls : List (Nat × Value)) (i : Nat) (v : Value) : List (Nat × Value) := (i, v) :: ls.filter (fun q => !(q.1 == i) && (!(q.1 == i + 1) && !(q.1 + 1 == i && q.2.category == 2)))
theorem jm_s1_cl (ad : Nat → Nat) (ls : List (Nat × Value)) (i : Nat) (v : Value) : (i, jm_cv ad v) :: (jm_cl ad ls).filter (fun q => !(q.1 == i) && !(q.1 + 1 == i && q.2.category == 2)) = jm_cl ad (jm_s1 ls i v) := by
  simp only [jm_s1, jm_cl, List.map_cons, List.filter_map]
  congr 2
  apply List.filter_congr
  intro q _
  simp [Function.comp, jm_cv_cat]
theorem jm_s2_cl (ad : Nat → Nat) (ls : List (Nat × Value)) (i : Nat) (v : Value) : (i, jm_cv ad v) :: (jm_cl ad ls).filter (fun q => !(q.1 == i) && (!(q.1 == i + 1) && !(q.1 + 1 == i && q.2.category == 2))) = jm_cl ad (jm_s2 ls i v) := by
  simp only [jm_s2, jm_cl, List.map_cons, List.filter_map]
  congr 2
  apply List.filter_congr
  intro q _
  simp [Function.comp, jm_cv_cat]
abbrev jm_F : Type := Nat × List (Nat × Value) × List Value
/-- constants -/
def jm_f1 (i : Instr) (len pc : Nat) (ls : List (Nat × Value)) (st : List Value) : Option jm_F := match i, len with
  | .iconst n, 1 => some (pc + 1, ls, .int (Int32.ofInt n) :: st)
  | .bipush n, 2 => some (pc + 2, ls, .int (Int8.ofInt n).toInt32 :: st)
  | .sipush n, 3 => some (pc + 3, ls, .int (Int16.ofInt n).toInt32 :: st)
  | .lconst n, 1 => some (pc + 1, ls, .long (Int64.ofNat (n : Nat)) :: st)
  | _, _ => none
def jm_ldi (ls : List (Nat × Value)) (i pc : Nat) (st : List Value) : Option jm_F := match jm_lk ls i with
  | some (.int v) => some (pc, ls, .int v :: st)
  | _ => none
def jm_ldl (ls : List (Nat × Value)) (i pc : Nat) (st : List Value) : Option jm_F := match jm_lk ls i with
  | some (.long v) => some (pc, ls, .long v :: st)
  | _ => none
def jm_lda (ls : List (Nat × Value)) (i pc : Nat) (st : List Value) : Option jm_F := match jm_lk ls i with
  | some (.ref v) => some (pc, ls, .ref v :: st)
  | _ => none
/-- loads -/
def jm_f2 (i : Instr) (len pc : Nat) (ls : List (Nat × Value)) (st : List Value) : Option jm_F := match i, len with
  | .iload_n k, 1 => jm_ldi ls k (pc + 1) st
  | .iload k, 2 => jm_ldi ls k (pc + 2) st
  | .lload_n k, 1 => jm_ldl ls k (pc + 1) st
  | .lload k, 2 => jm_ldl ls k (pc + 2) st
  | .aload_n k, 1 => jm_lda ls k (pc + 1) st
  | .aload k, 2 => jm_lda ls k (pc + 2) st
  | _, _ => none
/-- stores -/
def jm_f3 (nL : Nat) (i : Instr) (len pc : Nat) (ls : List (Nat × Value)) (st : List Value) : Option jm_F := match i, len, st with
  | .istore_n k, 1, .int v :: r => if (k : Nat) < nL then some (pc + 1, jm_s1 ls k (.int v), r) else none
  | .istore k, 2, .int v :: r => if k < nL then some (pc + 2, jm_s1 ls k (.int v), r) else none
  | .lstore_n k, 1, .long v :: r => if (k : Nat) + 1 < nL then some (pc + 1, jm_s2 ls k (.long v), r) else none
  | .lstore k, 2, .long v :: r => if k + 1 < nL then some (pc + 2, jm_s2 ls k (.long v), r) else none
  | .astore_n k, 1, .ref v :: r => if (k : Nat) < nL then some (pc + 1, jm_s1 ls k (.ref v), r) else none
  | .astore k, 2, .ref v :: r => if k < nL then some (pc + 2, jm_s1 ls k (.ref v), r) else none
  | .iinc k n, 3, st => match jm_lk ls k with
    | some (.int v) => if k < nL then some (pc + 3, jm_s1 ls k (.int (v + Int32.ofInt n)), st) else none
    | _ => none
  | _, _, _ => none
/-- arithmetic and the stack -/
def jm_f4 (i : Instr) (len pc : Nat) (ls : List (Nat × Value)) (st : List Value) : Option jm_F := match i, len, st with
  | .iadd, 1, .int y :: .int x :: r => some (pc + 1, ls, .int (x + y) :: r)
  | .isub, 1, .int y :: .int x :: r => some (pc + 1, ls, .int (x - y) :: r)
  | .imul, 1, .int y :: .int x :: r => some (pc + 1, ls, .int (x * y) :: r)
  | .iand, 1, .int y :: .int x :: r => some (pc + 1, ls, .int (x &&& y) :: r)
  | .ishr, 1, .int y :: .int x :: r => some (pc + 1, ls, .int (x >>> (y &&& 31)) :: r)
  | .ladd, 1, .long y :: .long x :: r => some (pc + 1, ls, .long (x + y) :: r)
  | .lsub, 1, .long y :: .long x :: r => some (pc + 1, ls, .long (x - y) :: r)
  | .lmul, 1, .long y :: .long x :: r => some (pc + 1, ls, .long (x * y) :: r)
  | .lcmp, 1, .long y :: .long x :: r => some (pc + 1, ls, .int (lg_cmp x y) :: r)
  | .i2l, 1, .int x :: r => some (pc + 1, ls, .long x.toInt64 :: r)
  | .i2b, 1, .int x :: r => some (pc + 1, ls, .int x.toInt8.toInt32 :: r)
  | .i2c, 1, .int x :: r => some (pc + 1, ls, .int (x.toUInt32 % 65536).toInt32 :: r)
  | .dup, 1, .int x :: r => some (pc + 1, ls, .int x :: .int x :: r)
  | .dup, 1, .ref x :: r => some (pc + 1, ls, .ref x :: .ref x :: r)
  | .pop, 1, .int x :: r => some (pc + 1, ls, r)
  | .pop, 1, .ref x :: r => some (pc + 1, ls, r)
  | .dup_x1, 1, .int x :: .ref y :: r => some (pc + 1, ls, .int x :: .ref y :: .int x :: r)
  | .dup2, 1, .int x :: .ref y :: r => some (pc + 1, ls, .int x :: .ref y :: .int x :: .ref y :: r)
  | _, _, _ => none
def jm_tg (pc : Nat) (off : Int) : Nat := ((pc : Int) + off).toNat
def jm_ok (pc : Nat) (off : Int) : Bool := decide (0 ≤ (pc : Int) + off)
/-- jumps -/
def jm_f5 (i : Instr) (len pc : Nat) (ls : List (Nat × Value)) (st : List Value) : Option jm_F := match i, len, st with
  | .goto off, 3, st => if jm_ok pc off then some (jm_tg pc off, ls, st) else none
  | .ifCond .eq off, 3, .int x :: r => if jm_ok pc off then some (if x = 0 then jm_tg pc off else pc + 3, ls, r) else none
  | .ifCond .ne off, 3, .int x :: r => if jm_ok pc off then some (if x = 0 then pc + 3 else jm_tg pc off, ls, r) else none
  | .ifCond .lt off, 3, .int x :: r => if jm_ok pc off then some (if x < 0 then jm_tg pc off else pc + 3, ls, r) else none
  | .ifCond .ge off, 3, .int x :: r => if jm_ok pc off then some (if 0 ≤ x then jm_tg pc off else pc + 3, ls, r) else none
  | .ifCond .gt off, 3, .int x :: r => if jm_ok pc off then some (if 0 < x then jm_tg pc off else pc + 3, ls, r) else none
  | .ifCond .le off, 3, .int x :: r => if jm_ok pc off then some (if x ≤ 0 then jm_tg pc off else pc + 3, ls, r) else none
  | .if_icmp .eq off, 3, .int y :: .int x :: r => if jm_ok pc off then some (if x = y then jm_tg pc off else pc + 3, ls, r) else none
  | .if_icmp .ne off, 3, .int y :: .int x :: r => if jm_ok pc off then some (if x = y then pc + 3 else jm_tg pc off, ls, r) else none
  | .if_icmp .lt off, 3, .int y :: .int x :: r => if jm_ok pc off then some (if x < y then jm_tg pc off else pc + 3, ls, r) else none
  | .if_icmp .ge off, 3, .int y :: .int x :: r => if jm_ok pc off then some (if y ≤ x then jm_tg pc off else pc + 3, ls, r) else none
  | .if_icmp .gt off, 3, .int y :: .int x :: r => if jm_ok pc off then some (if y < x then jm_tg pc off else pc + 3, ls, r) else none
  | .if_icmp .le off, 3, .int y :: .int x :: r => if jm_ok pc off then some (if x ≤ y then jm_tg pc off else pc + 3, ls, r) else none
  | _, _, _ => none
theorem jm_tg_ok {pc : Nat} {off : Int} (h : jm_ok pc off = true) : (pc : Int) + off = ((jm_tg pc off : Nat) : Int) := by
  unfold jm_ok at h
  unfold jm_tg
  exact (Int.toNat_of_nonneg (of_decide_eq_true h)).symm
section JS
variable {p : Program} {l : Launch} {e : Env} {R : Room} {s : State} {m : MethodId} {args : Array Value} {below : List Frame} {meth : Method} {c : Code} {H : Heap} {locs : List Loc} {cells slots : Nat} {Q : State → Prop}
variable {cc : ByteArray} {nL : Nat} {ad : Nat → Nat} {i : Instr} {len pc pc' : Nat} {ls ls' : List (Nat × Value)} {st st' : List Value} {la : Array Slot}
theorem jm_f1_ok (hx : p.tables.exec = Jvm.exec) (hb : c.code = cc) (hd : decode cc pc = .ok (i, len)) (h : jm_f1 i len pc ls st = some (pc', ls', st')) (hl : lv_has la nL (jm_cl ad ls))
    (k : ∀ la' : Array Slot, lv_has la' nL (jm_cl ad ls') → W p l e R s m args below meth c H locs cells slots Q (F0 m pc' la' (jm_st ad st'))) : W p l e R s m args below meth c H locs cells slots Q (F0 m pc la (jm_st ad st)) := by
  unfold jm_f1 at h
  split at h
  · cases h; exact lv_iconst hx hb hd rfl (k la hl)
  · cases h; exact lv_bipush hx hb hd rfl (k la hl)
  · cases h; exact lv_sipush hx hb hd rfl (k la hl)
  · cases h; exact lv_lconst hx hb hd rfl (k la hl)
  · cases h
theorem jm_f2_ok (hx : p.tables.exec = Jvm.exec) (hb : c.code = cc) (hd : decode cc pc = .ok (i, len)) (h : jm_f2 i len pc ls st = some (pc', ls', st')) (hl : lv_has la nL (jm_cl ad ls))
    (k : ∀ la' : Array Slot, lv_has la' nL (jm_cl ad ls') → W p l e R s m args below meth c H locs cells slots Q (F0 m pc' la' (jm_st ad st'))) : W p l e R s m args below meth c H locs cells slots Q (F0 m pc la (jm_st ad st)) := by
  unfold jm_f2 at h
  split at h
  · unfold jm_ldi at h
    split at h
    · rename_i hv; cases h; exact lv_iload_n hx hb hd rfl (jm_lk_at hl hv) (k la hl)
    · cases h
  · unfold jm_ldi at h
    split at h
    · rename_i hv; cases h; exact lv_iload hx hb hd (jm_lk_at hl hv) (k la hl)
    · cases h
  · unfold jm_ldl at h
    split at h
    · rename_i hv; cases h; exact lv_lload_n hx hb hd rfl (jm_lk_at hl hv) (k la hl)
    · cases h
  · unfold jm_ldl at h
    split at h
    · rename_i hv; cases h; exact lv_lload hx hb hd (jm_lk_at hl hv) (k la hl)
    · cases h
  · unfold jm_lda at h
    split at h
    · rename_i hv; cases h; exact lv_aload_n hx hb hd rfl (jm_lk_at hl hv) (k la hl)
    · cases h
  · unfold jm_lda at h
    split at h
    · rename_i hv; cases h; exact lv_aload hx hb hd (jm_lk_at hl hv) (k la hl)
    · cases h
  · cases h
theorem jm_f3_ok (hx : p.tables.exec = Jvm.exec) (hb : c.code = cc) (hd : decode cc pc = .ok (i, len)) (h : jm_f3 nL i len pc ls st = some (pc', ls', st')) (hl : lv_has la nL (jm_cl ad ls))
    (k : ∀ la' : Array Slot, lv_has la' nL (jm_cl ad ls') → W p l e R s m args below meth c H locs cells slots Q (F0 m pc' la' (jm_st ad st'))) : W p l e R s m args below meth c H locs cells slots Q (F0 m pc la (jm_st ad st)) := by
  unfold jm_f3 at h
  split at h
  · split at h
    · rename_i hn; cases h; exact lv_istore_n hx hb hd rfl hl hn (jm_s1_cl ad ls _ (.int _)) k
    · cases h
  · split at h
    · rename_i hn; cases h; exact lv_istore hx hb hd hl hn (jm_s1_cl ad ls _ (.int _)) k
    · cases h
  · split at h
    · rename_i hn; cases h; exact lv_lstore_n hx hb hd rfl hl hn (jm_s2_cl ad ls _ (.long _)) k
    · cases h
  · split at h
    · rename_i hn; cases h; exact lv_lstore hx hb hd hl hn (jm_s2_cl ad ls _ (.long _)) k
    · cases h
  · split at h
    · rename_i v _ hn; cases h; exact lv_astore_n hx hb hd rfl hl hn (jm_s1_cl ad ls _ (.ref v)) k
    · cases h
  · split at h
    · rename_i v _ hn; cases h; exact lv_astore hx hb hd hl hn (jm_s1_cl ad ls _ (.ref v)) k
    · cases h
  · split at h
    · rename_i v hv
      split at h
      · rename_i hn
        cases h
        obtain ⟨q, hq⟩ := List.getElem?_of_mem (List.mem_map.mpr ⟨_, jm_lk_mem hv, rfl⟩ : (_, jm_cv ad (.int v)) ∈ jm_cl ad ls)
        exact lv_iinc hx hb hd hl hq rfl hn (jm_s1_cl ad ls _ (.int _)) k
      · cases h
    · cases h
  · cases h
theorem jm_f4_ok (hx : p.tables.exec = Jvm.exec) (hb : c.code = cc) (hd : decode cc pc = .ok (i, len)) (h : jm_f4 i len pc ls st = some (pc', ls', st')) (hl : lv_has la nL (jm_cl ad ls))
    (k : ∀ la' : Array Slot, lv_has la' nL (jm_cl ad ls') → W p l e R s m args below meth c H locs cells slots Q (F0 m pc' la' (jm_st ad st'))) : W p l e R s m args below meth c H locs cells slots Q (F0 m pc la (jm_st ad st)) := by
  unfold jm_f4 at h
  split at h
  · cases h; exact lv_iadd hx hb hd (k la hl)
  · cases h; exact lv_isub hx hb hd (k la hl)
  · cases h; exact lv_imul hx hb hd (k la hl)
  · cases h; exact lv_iand hx hb hd (k la hl)
  · cases h; exact lv_ishr hx hb hd (k la hl)
  · cases h; exact lv_ladd hx hb hd (k la hl)
  · cases h; exact lv_lsub hx hb hd (k la hl)
  · cases h; exact lv_lmul hx hb hd (k la hl)
  · cases h; exact W.lcmp hx hb hd (k la hl)
  · cases h; exact lv_i2l hx hb hd rfl (k la hl)
  · cases h; exact lv_i2b hx hb hd rfl (k la hl)
  · cases h; exact lv_i2c hx hb hd rfl (k la hl)
  · cases h; exact lv_dup hx hb hd rfl (k la hl)
  · cases h; exact lv_dup hx hb hd rfl (k la hl)
  · cases h; exact lv_pop hx hb hd rfl (k la hl)
  · cases h; exact lv_pop hx hb hd rfl (k la hl)
  · cases h; exact lv_dup_x1 hx hb hd rfl rfl (k la hl)
  · cases h; exact lv_dup2_11 hx hb hd rfl rfl (k la hl)
  · cases h
theorem jm_it {C : Prop} {d : Decidable C} {a b : Nat} {la : Array Slot} {st : List Value} (k : W p l e R s m args below meth c H locs cells slots Q (F0 m (@ite _ C d a b) la st)) (h : C) : W p l e R s m args below meth c H locs cells slots Q (F0 m a la st) := by
  rw [if_pos h] at k; exact k
theorem jm_if {C : Prop} {d : Decidable C} {a b : Nat} {la : Array Slot} {st : List Value} (k : W p l e R s m args below meth c H locs cells slots Q (F0 m (@ite _ C d a b) la st)) (h : ¬ C) : W p l e R s m args below meth c H locs cells slots Q (F0 m b la st) := by
  rw [if_neg h] at k; exact k
theorem jm_f5_ok (hx : p.tables.exec = Jvm.exec) (hb : c.code = cc) (hd : decode cc pc = .ok (i, len)) (h : jm_f5 i len pc ls st = some (pc', ls', st')) (hl : lv_has la nL (jm_cl ad ls))
    (k : ∀ la' : Array Slot, lv_has la' nL (jm_cl ad ls') → W p l e R s m args below meth c H locs cells slots Q (F0 m pc' la' (jm_st ad st'))) : W p l e R s m args below meth c H locs cells slots Q (F0 m pc la (jm_st ad st)) := by
  unfold jm_f5 at h
  split at h
  · split at h
    · rename_i ho; cases h; exact lv_goto hx hb hd (jm_tg_ok ho) (k la hl)
    · cases h
  · split at h
    · rename_i ho; cases h; exact lv_if_eq hx hb hd (jm_tg_ok ho) (jm_it (k la hl)) (jm_if (k la hl))
    · cases h
  · split at h
    · rename_i ho; cases h; exact lv_if_ne hx hb hd (jm_tg_ok ho) (jm_if (k la hl)) (jm_it (k la hl))
    · cases h
  · split at h
    · rename_i ho; cases h; exact lv_if_lt hx hb hd (jm_tg_ok ho) (jm_it (k la hl)) (jm_if (k la hl))
    · cases h
  · split at h
    · rename_i ho; cases h; exact lv_if_ge hx hb hd (jm_tg_ok ho) (jm_it (k la hl)) (jm_if (k la hl))
    · cases h
  · split at h
    · rename_i ho; cases h; exact lv_if_gt hx hb hd (jm_tg_ok ho) (jm_it (k la hl)) (jm_if (k la hl))
    · cases h
  · split at h
    · rename_i ho; cases h; exact lv_if_le hx hb hd (jm_tg_ok ho) (jm_it (k la hl)) (jm_if (k la hl))
    · cases h
  · split at h
    · rename_i ho; cases h; exact lv_icmp_eq hx hb hd (jm_tg_ok ho) (jm_it (k la hl)) (jm_if (k la hl))
    · cases h
  · split at h
    · rename_i ho; cases h; exact lv_icmp_ne hx hb hd (jm_tg_ok ho) (jm_if (k la hl)) (jm_it (k la hl))
    · cases h
  · split at h
    · rename_i ho; cases h; exact lv_icmp_lt hx hb hd (jm_tg_ok ho) (jm_it (k la hl)) (jm_if (k la hl))
    · cases h
  · split at h
    · rename_i ho; cases h; exact lv_icmp_ge hx hb hd (jm_tg_ok ho) (jm_it (k la hl)) (jm_if (k la hl))
    · cases h
  · split at h
    · rename_i ho; cases h; exact lv_icmp_gt hx hb hd (jm_tg_ok ho) (jm_it (k la hl)) (jm_if (k la hl))
    · cases h
  · split at h
    · rename_i ho; cases h; exact lv_icmp_le hx hb hd (jm_tg_ok ho) (jm_it (k la hl)) (jm_if (k la hl))
    · cases h
  · cases h
/-- one instruction of the frame -/
def jm_f (nL : Nat) (i : Instr) (len pc : Nat) (ls : List (Nat × Value)) (st : List Value) : Option jm_F :=
  match jm_f2 i len pc ls st with
  | some r => some r
  | none => match jm_f4 i len pc ls st with
    | some r => some r
    | none => match jm_f1 i len pc ls st with
      | some r => some r
      | none => match jm_f5 i len pc ls st with
        | some r => some r
        | none => jm_f3 nL i len pc ls st
theorem jm_f_ok (hx : p.tables.exec = Jvm.exec) (hb : c.code = cc) (hd : decode cc pc = .ok (i, len)) (h : jm_f nL i len pc ls st = some (pc', ls', st')) (hl : lv_has la nL (jm_cl ad ls))
    (k : ∀ la' : Array Slot, lv_has la' nL (jm_cl ad ls') → W p l e R s m args below meth c H locs cells slots Q (F0 m pc' la' (jm_st ad st'))) : W p l e R s m args below meth c H locs cells slots Q (F0 m pc la (jm_st ad st)) := by
  unfold jm_f at h
  split at h
  · rename_i h2; cases h; exact jm_f2_ok hx hb hd h2 hl k
  · split at h
    · rename_i h2; cases h; exact jm_f4_ok hx hb hd h2 hl k
    · split at h
      · rename_i h2; cases h; exact jm_f1_ok hx hb hd h2 hl k
      · split at h
        · rename_i h2; cases h; exact jm_f5_ok hx hb hd h2 hl k
        · exact jm_f3_ok hx hb hd h hl k
end JS

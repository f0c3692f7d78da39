/-! THE SMALL MACHINE, 3: contracts and the judgement. A result: an answer and a state, or the name of a thrown class and a state. -/
abbrev jm_R : Type := (Option Value × jm_X) ⊕ (String × jm_X)
/-- what is fixed: launch, class numbers, classes, addresses, array classes, shapes, words, links of nest mates (fields, methods), the size of the heap at the law's start, what is said of the cells that lay there; how many cells an exception takes -/
abbrev jm_P : Type := Launch × va_G × List vw_C × (Nat → Nat) × (Nat → ClassId) × List jm_S × List Cond × List (String × Nat × String × String × String × String) × List (String × Nat × MethodName × String) × Nat × (State → Heap → Prop) × Nat
abbrev jm_l (P : jm_P) : Launch := P.1
abbrev jm_d (P : jm_P) : va_G := P.2.1
abbrev jm_c (P : jm_P) : List vw_C := P.2.2.1
abbrev jm_a (P : jm_P) : Nat → Nat := P.2.2.2.1
abbrev jm_k (P : jm_P) : Nat → ClassId := P.2.2.2.2.1
abbrev jm_h (P : jm_P) : List jm_S := P.2.2.2.2.2.1
abbrev jm_t (P : jm_P) : List Cond := P.2.2.2.2.2.2.1
abbrev jm_fn (P : jm_P) : List (String × Nat × String × String × String × String) := P.2.2.2.2.2.2.2.1
abbrev jm_mn (P : jm_P) : List (String × Nat × MethodName × String) := P.2.2.2.2.2.2.2.2.1
abbrev jm_b (P : jm_P) : Nat := P.2.2.2.2.2.2.2.2.2.1
abbrev jm_sg (P : jm_P) : State → Heap → Prop := P.2.2.2.2.2.2.2.2.2.2.1
abbrev jm_ec (P : jm_P) : Nat := P.2.2.2.2.2.2.2.2.2.2.2
abbrev jm_w (P : jm_P) (x : jm_X) : va_W := jm_wl (jm_a P) (jm_k P) (jm_h P) x
abbrev jm_n (P : jm_P) : Nat := (jm_h P).length
def jm_arr (P : jm_P) (s : State) : Prop := ∀ (o : Nat) (ty : FieldType), ((∃ n, (jm_h P)[o]? = some (.inl (ty, n))) ∨ ∃ C ids, ty = .object C ∧ (jm_h P)[o]? = some (.inr (.inl (C, ids)))) → ArrOfT s (jm_k P o) ty ∧ va_RA s (jm_k P o) ty
/-- what holds of the tables and of the old cells at every state -/
def jm_G (P : jm_P) (s : State) : Prop :=
  (∀ w ∈ jm_t P, ∀ a : Array Value, w.before a s = true) ∧ (∀ w ∈ jm_fn P, va_Nw (.fieldLinkNest w.1 w.2.1 w.2.2.1 w.2.2.2.1 w.2.2.2.2.1 w.2.2.2.2.2) s) ∧ (∀ w ∈ jm_mn P, va_Nw (.methodLinkNest w.1 w.2.1 w.2.2.1 w.2.2.2) s) ∧
  va_K (jm_d P) (jm_c P) [] s ∧ jm_arr P s ∧ jm_b P ≤ s.heap.size ∧ jm_sg P s s.heap
/-- words that stay true while tables grow warmer -/
def jm_gw (w : Cond) : Bool := goodWord w || (w.onTables && w.keepsFace)
theorem jm_word_at {a a' : Array Value} {s U : State} {w : Cond} (hW : s.WarmedH U.vm) (hg : jm_gw w = true) (h : w.before a s = true) : w.before a' U = true := by
  simp only [jm_gw, Bool.or_eq_true, Bool.and_eq_true] at hg
  rcases hg with hg | ⟨h1, h2⟩
  · exact word_at hW (good_of_word hg) h
  · exact va_tabs h1 (rfl : (s.setVm U.vm).vm = U.vm) (Cond.before_shiftedFace (State.Shifted.of_warmed hW) w h2 h)
def jm_Ok (P : jm_P) : Prop :=
  (∀ w ∈ jm_t P, jm_gw w = true) ∧ jm_small (jm_h P) ∧ jm_inj (jm_a P) (jm_n P) ∧ (∀ k, k < jm_n P → jm_b P ≤ jm_a P k) ∧
  (∀ (u U : State) (H H1 : Heap), u.WarmedH U.vm → (∀ q, q < jm_b P → H1[q]? = H[q]?) → jm_sg P u H → jm_sg P U H1) ∧
  (∀ i j, i < 55 → j < 55 → jm_a P (1000 + i) = jm_a P (1000 + j) → i = j) ∧ (jm_l P).stackTraces = false
theorem jm_G.moved {P : jm_P} (hok : jm_Ok P) {s U : State} (h : jm_G P s) (hW : s.WarmedH U.vm) (hz : jm_b P ≤ U.heap.size) (hq : ∀ q, q < jm_b P → U.heap[q]? = s.heap[q]?) : jm_G P U := by
  obtain ⟨h1, h2, h3, h4, h5, h6, h7⟩ := h
  refine ⟨fun w hw a => jm_word_at hW (hok.1 w hw) (h1 w hw #[]), fun w hw => (h2 w hw).warmF hW, fun w hw => (h3 w hw).warmM hW, va_K.moved hW.alike h4, fun o ty ho => ?_, hz, hok.2.2.2.2.1 _ _ _ _ hW hq h7⟩
  exact ⟨arrOfT_moved hW.alike (h5 o ty ho).1, (h5 o ty ho).2.moved hW.alike⟩
abbrev jm_AA (P : jm_P) (s : State) : Nat → Prop := jm_A (jm_a P) (jm_n P) s.heap.size
theorem jm_A_old {P : jm_P} (hok : jm_Ok P) {sz q : Nat} (hz : jm_b P ≤ sz) (hq : q < jm_b P) : ¬ jm_A (jm_a P) (jm_n P) sz q := by
  rintro (⟨k, h1, h2⟩ | h)
  · have := hok.2.2.2.1 k h1
    omega
  · omega
def jm_end (P : jm_P) (s t : State) (k n : Nat) : Prop := ∃ L : List Loc, s.WarmedH t.vm ∧ s.sameButNew ({ t with vm := s.vm } : State) L k n ∧ (∀ q ∈ L, jm_AA P s q.base) ∧ va_F (jm_AA P s) s t
def jm_exc (C : String) (t : State) (a : Nat) : Prop := ∃ cell : Cell, t.heap[a]? = some cell ∧ cell.vm = .none ∧ t.vm.findClass C = some cell.cls ∧ ∃ k, t.vm.classes[cell.cls]? = some k
def jm_post (P : jm_P) : jm_R → State → Outcome → State → Prop
  | .inl q, s, o, t => o = .returned (q.1.map (jm_cv (jm_a P))) ∧ va_P (jm_d P) (jm_c P) (jm_w P q.2) t.heap ∧ jm_end P s t 0 0
  | .inr q, s, o, t => (∃ a, o = .threw a ∧ jm_exc q.1 t a) ∧ va_P (jm_d P) (jm_c P) (jm_w P q.2) t.heap ∧ jm_end P s t (jm_ec P) (20 * jm_ec P)
def jm_Q (P : jm_P) (below : List Frame) (q : jm_R) (s : State) : State → Prop := fun t => ∃ o, t.status = .running ∧ Ended t below o ∧ jm_post P q s o t
def jm_room (d : Nat) : Room := { frames := d, cells := 1, slots := 20, locals := 40 * d }
/-- a method: name, code, places for locals, what it returns, its table of handlers -/
abbrev jm_M : Type := MethodName × ByteArray × Nat × Option FieldType × List (Nat × Nat × Nat × Nat)
def jm_cw (M : jm_M) : Cond := match M.2.2.2.2 with
  | [] => .code M.1 M.2.1 M.2.2.1 M.2.2.2.1
  | h :: t => .codeWith M.1 M.2.1 M.2.2.1 M.2.2.2.1 (h :: t)
abbrev jm_tab (c : Code) : List (Nat × Nat × Nat × Nat) := c.exceptionTable.toList.map (fun h => (h.startPc, h.endPc, h.handlerPc, h.catchType))
theorem jm_cw_spec {M : jm_M} {args : Array Value} {s : State} (h : (jm_cw M).before args s = true) : ∃ m meth c, s.methodNamed? M.1 = some m ∧ s.vm.method? m = some meth ∧ meth.code = some c ∧ c.code = M.2.1 ∧ c.maxLocals = M.2.2.1 ∧ meth.sig.returnType = M.2.2.2.1 ∧ meth.locks = false ∧ jm_tab c = M.2.2.2.2 ∧ parseMethodDescriptor M.1.desc = some meth.sig := by
  unfold jm_cw at h
  split at h
  · rename_i hh
    obtain ⟨m, hn⟩ := Cond.code_named h
    obtain ⟨meth, c, h1, h2, h3, h4, h5, h6, h7, h8⟩ := Cond.code_spec hn h
    rw [Array.isEmpty_iff] at h7
    exact ⟨m, meth, c, hn, h1, h2, h3, h4, h5, h6, by simp [jm_tab, h7, hh], h8⟩
  · rename_i a t hh
    obtain ⟨m, meth, c, hn, h1, h2, h3, h4, h5, h6, h7, h8⟩ := Cond.codeWith_spec h
    exact ⟨m, meth, c, hn, h1, h2, h3, h4, h6, h7, by rw [hh]; exact h5, h8⟩
def jm_Pre (P : jm_P) (av : List Value) (x : jm_X) : Array Value → State → Prop := fun a s => a = (jm_st (jm_a P) av).toArray ∧ jm_G P s ∧ va_P (jm_d P) (jm_c P) (jm_w P x) s.heap
/-- the contract: with room for d frames more, called with av in the state x, it ends with r (nothing is said where r is none) -/
def jm_Con (P : jm_P) (M : jm_M) (d : Nat) (av : List Value) (x : jm_X) (r : Option jm_R) : Prop := ∀ q, r = some q →
  MetFree (jm_l P) M.1 (headSpec [jm_cw M] (jm_room d)) (jm_Pre P av x) (fun _ _ _ _ _ => True) (fun _ s o t => jm_post P q s o t)
def jm_C (P : jm_P) (M : jm_M) (p : Program) (s : State) (m : MethodId) (meth : Method) (c : Code) : Prop :=
  p.tables.exec = Jvm.exec ∧ c.code = M.2.1 ∧ c.maxLocals = M.2.2.1 ∧ meth.sig.returnType = M.2.2.2.1 ∧ meth.locks = false ∧ s.vm.findClass M.1.cls = some m.cls ∧ jm_tab c = M.2.2.2.2 ∧ jm_G P s
/-- the judgement: from this frame and this state the method ends with r -/
def jm_V (P : jm_P) (M : jm_M) (d pc : Nat) (ls : List (Nat × Value)) (st : List Value) (x : jm_X) (r : Option jm_R) : Prop :=
  ∀ q, r = some q → ∀ (p : Program) (e : Env) (s : State) (m : MethodId) (args : Array Value) (below : List Frame) (meth : Method) (c : Code) (H : Heap) (locs : List Loc) (la : Array Slot),
    jm_C P M p s m meth c → lv_has la M.2.2.1 (jm_cl (jm_a P) ls) → va_P (jm_d P) (jm_c P) (jm_w P x) H → va_S (jm_AA P s) s.heap H locs →
    W p (jm_l P) e (jm_room d) s m args below meth c H locs 0 0 (jm_Q P below q s) (F0 m pc la (jm_st (jm_a P) st))
theorem jm_V.stuck {P : jm_P} {M : jm_M} {d pc : Nat} {ls : List (Nat × Value)} {st : List Value} {x : jm_X} : jm_V P M d pc ls st x none := fun _ h => by cases h
theorem jm_args_cl (ad : Nat → Nat) : ∀ (vs : List Value) (i : Nat), jm_cl ad (lv_args i vs) = lv_args i (jm_st ad vs)
  | [], _ => rfl
  | v :: vs, i => by
    have ih := jm_args_cl ad vs (if v.category = 2 then i + 2 else i + 1)
    simp only [jm_cl, jm_st] at ih ⊢
    simp only [lv_args, List.map_cons, jm_cv_cat]
    rw [ih]
/-- a contract out of the walk from the entry -/
theorem jm_Con.of {P : jm_P} {M : jm_M} {d : Nat} {av : List Value} {x : jm_X} {r : Option jm_R} (hy : plainFor M.1 = true) (hn : (lg_sl (jm_st (jm_a P) av)).length ≤ M.2.2.1)
    (h : jm_V P M d 0 (lv_args 0 av) [] x r) : jm_Con P M d av x r := by
  intro q hq
  refine MetFree.of_bodySF (code := M.2.1) (maxLocals := M.2.2.1) (ret := M.2.2.2.1) hy ?_ ?_
  · intro args s m h hn
    obtain ⟨m', meth, c, hn', h1, h2, h3, h4, h5, h6, -, -⟩ := jm_cw_spec (atoms_spec (ws := [jm_cw M]) h _ List.mem_cons_self)
    cases hn.symm.trans hn'
    exact ⟨meth, c, h1, h2, h3, h4, h5, h6⟩
  · intro p e s m args below meth c s₁ B hml hP _
    obtain ⟨rfl, hG, hPw⟩ := hP
    have hh0 : s₁.heap = s.heap := by rw [B.state]; rfl
    have hno : jm_tab c = M.2.2.2.2 := by
      obtain ⟨m', meth', c', hn', h1', h2', -, -, -, -, h7', -⟩ := jm_cw_spec (atoms_spec (ws := [jm_cw M]) B.pre _ List.mem_cons_self)
      cases B.named.symm.trans hn'
      cases B.method.symm.trans h1'
      cases (Stand.of_body B).code.symm.trans h2'
      exact h7'
    have hl := lv_entry (jm_st (jm_a P) av) hn
    rw [← jm_args_cl] at hl
    have W0 := h q hq p e s m (jm_st (jm_a P) av).toArray below meth c s.heap [] _ ⟨B.exec, B.bytes, hml, B.returns, B.notSynchronized, findClass_of_methodNamed B.named, hno, hG⟩ hl hPw va_S.rf
    obtain ⟨t, a1, o, b1, b2, b3⟩ := W0 s₁ hh0 (Stand.of_body B)
    rw [lg_entry_eq]
    exact ⟨t, o, a1, b1, b2, b3⟩
section JR
variable {P : jm_P} {M : jm_M} {d pc : Nat} {ls : List (Nat × Value)} {st : List Value} {x : jm_X}
/-- what both kinds of end need -/
theorem jm_end_of {s t : State} {H : Heap} {locs : List Loc} {k n : Nat} (hS : va_S (jm_AA P s) s.heap H locs) (ht : t.heap = H) (hW : s.WarmedH t.vm) (hf : s.sameButNew ({ t with vm := s.vm } : State) locs k n) : jm_end P s t k n :=
  ⟨locs, hW, hf, hS.2.2, hS.F ht⟩
theorem jm_Q_of {p : Program} {l : Launch} {e : Env} {R : Room} {s : State} {m : MethodId} {args : Array Value} {below : List Frame} {meth : Method} {c : Code} {H : Heap} {locs : List Loc} {q : jm_R} {g : JFrame} {Qc : Array Value → State → Outcome → State → Prop}
    (h : W p l e R s m args below meth c H locs 0 0 (MQ below Qc args s 0 0 (jm_AA P s)) g) (hq : ∀ o t, Qc args s o t → (∃ L, FrameEnd s o t L 0 0 ∧ ∀ z ∈ L, jm_AA P s z.base) → jm_post P q s o t) : W p l e R s m args below meth c H locs 0 0 (jm_Q P below q s) g := by
  intro T hT X
  obtain ⟨t, a1, o, b1, b2, b3, b4⟩ := h T hT X
  exact ⟨t, a1, o, b1, b2, hq o t b3 b4⟩
theorem jm_V.iret {v : Int32} (hr : M.2.2.2.1 = some .int) (hd : decode M.2.1 pc = .ok (.ireturn, 1)) : jm_V P M d pc ls [.int v] x (some (.inl (some (.int v), x))) := by
  intro q hq p e s m args below meth c H locs la hC hl hP hS
  cases hq
  obtain ⟨hx, hb, hml, hret, hlocks, hown, hno, hG⟩ := hC
  refine jm_Q_of (Qc := fun _ s o t => o = .returned (some (.int v)) ∧ va_P (jm_d P) (jm_c P) (jm_w P x) t.heap ∧ va_F (jm_AA P s) s t) ?_ ?_
  · exact W.iret hx hb (hret.trans hr) (fun t ht _ => ⟨rfl, by rw [ht]; exact hP, hS.F ht⟩) hS.2.2 hd
  · rintro o t ⟨h1, h2, h3⟩ ⟨L, ⟨-, hW, hf⟩, hL⟩
    exact ⟨h1, h2, L, hW, hf, hL, h3⟩
theorem jm_V.zret {v : Int32} (hr : M.2.2.2.1 = some .boolean) (hn : narrow .boolean (.int v) = .int v) (hd : decode M.2.1 pc = .ok (.ireturn, 1)) : jm_V P M d pc ls [.int v] x (some (.inl (some (.int v), x))) := by
  intro q hq p e s m args below meth c H locs la hC hl hP hS
  cases hq
  obtain ⟨hx, hb, hml, hret, hlocks, hown, hno, hG⟩ := hC
  refine jm_Q_of (Qc := fun _ s o t => o = .returned (some (.int v)) ∧ va_P (jm_d P) (jm_c P) (jm_w P x) t.heap ∧ va_F (jm_AA P s) s t) ?_ ?_
  · exact W.zret hx hb (hret.trans hr) hn (fun t ht _ => ⟨rfl, by rw [ht]; exact hP, hS.F ht⟩) hS.2.2 hd
  · rintro o t ⟨h1, h2, h3⟩ ⟨L, ⟨-, hW, hf⟩, hL⟩
    exact ⟨h1, h2, L, hW, hf, hL, h3⟩
theorem jm_V.vret (hr : M.2.2.2.1 = none) (hd : decode M.2.1 pc = .ok (.return_, 1)) : jm_V P M d pc ls [] x (some (.inl (none, x))) := by
  intro q hq p e s m args below meth c H locs la hC hl hP hS
  cases hq
  obtain ⟨hx, hb, hml, hret, hlocks, hown, hno, hG⟩ := hC
  refine jm_Q_of (Qc := fun _ s o t => o = .returned none ∧ va_P (jm_d P) (jm_c P) (jm_w P x) t.heap ∧ va_F (jm_AA P s) s t) ?_ ?_
  · exact W.vret hx hb (hret.trans hr) (fun t ht _ => ⟨rfl, by rw [ht]; exact hP, hS.F ht⟩) hS.2.2 hd
  · rintro o t ⟨h1, h2, h3⟩ ⟨L, ⟨-, hW, hf⟩, hL⟩
    exact ⟨h1, h2, L, hW, hf, hL, h3⟩
end JR
/-- no handler covers the place -/
def jm_unc (hh : List (Nat × Nat × Nat × Nat)) (pc : Nat) : Bool := hh.all (fun q => !(decide (q.1 ≤ pc) && decide (pc < q.2.1)))
theorem jm_unc_of {hh : List (Nat × Nat × Nat × Nat)} {c : Code} {pc : Nat} (hno : jm_tab c = hh) (h : jm_unc hh pc = true) : ∀ y ∈ c.exceptionTable.toList, covers y pc = false := by
  intro y hy
  have h1 := List.all_eq_true.mp h (y.startPc, y.endPc, y.handlerPc, y.catchType) (by rw [← hno]; exact List.mem_map.mpr ⟨y, hy, rfl⟩)
  simp only [Bool.not_eq_true', Bool.and_eq_false_iff, decide_eq_false_iff_not] at h1
  unfold covers
  simp only [Bool.and_eq_false_iff, decide_eq_false_iff_not]
  exact h1

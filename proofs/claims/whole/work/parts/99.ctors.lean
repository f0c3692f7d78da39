/-! CONSTRUCTORS, 1: what they ask and leave; a call of one. -/
abbrev clA : List vw_C := [("FilterReader", T_FR, 3), ("FilterReader$Grammar", T_G, 5), ("FilterReader$Signs", T_S, 5), ("FilterReader$Names", T_N, 6), ("FilterReaderModel", T_M, 22), ("java/lang/IllegalStateException", T_X, 0)]
abbrev P0x (l : Launch) (D : va_G) (ad : Nat → Nat) (b0 : Nat) : jm_P := jm_PP l D clA ad (fun _ => 0) [] b0 1
def jc_end (wc : va_W) (s t : State) (mc ms : Nat) : Prop := ∃ L : List Loc, s.WarmedH t.vm ∧ s.sameButNew ({ t with vm := s.vm } : State) L mc ms ∧ (∀ q ∈ L, va_A wc s.heap.size q.base) ∧ va_F (va_A wc s.heap.size) s t
def jc_Pre (l : Launch) (D : va_G) (ad : Nat → Nat) (b0 : Nat) (h0 : Nat) (e : va_E) : Array Value → State → Prop := fun a u => a = #[Value.ref h0] ∧ jm_G (P0x l D ad b0) u ∧ va_P D clA [(h0, e)] u.heap ∧ b0 ≤ h0 ∧ va_AO "java/lang/String" u
def jc_Post (B : State → State → Prop) (wc : va_W) (mc ms : Nat) : Array Value → State → Outcome → State → Prop := fun _ u o t => o = .returned none ∧ B u t ∧ jc_end wc u t mc ms
section JCC
variable {p : Program} {e : Env} {l : Launch} {R : Room} {s : State} {m : MethodId} {args : Array Value} {below : List Frame} {meth : Method} {c : Code} {H : Heap} {locs : List Loc} {cells slots : Nat} {Q : State → Prop}
variable {D : va_G} {ad : Nat → Nat} {b0 : Nat} {A : Nat → Prop}
theorem jc_call {y : MethodName} {bytes cc : ByteArray} {maxL idx pc h0 mc ms : Nat} {own : String} {rm : Room} {ev : va_E} {B : State → State → Prop} {la : Array Slot} {rest : List Value} (hok : jm_Ok (P0x l D ad b0)) (hG : jm_G (P0x l D ad b0) s) (hAO : va_AO "java/lang/String" s)
    (hM : MetFree l y (headSpec [.code y bytes maxL none] rm) (jc_Pre l D ad b0 h0 ev) (fun _ _ _ _ _ => True) (jc_Post B [(h0, ev)] mc ms)) (hx : p.tables.exec = Jvm.exec) (hb : c.code = cc) (hown : s.vm.findClass own = some m.cls) (hyn : y.name = "<init>") (hyd : y.desc = "()V") (hyc : y.cls ≠ "java/lang/invoke/MethodHandle" ∧ y.cls ≠ "java/lang/invoke/VarHandle")
    (hlink : Cond.methodLink own idx y ∈ Tall) (hinst : Cond.instanceMethod y ∈ Tall) (hcode : Cond.code y bytes maxL none ∈ Tall) (hini : Cond.initialized y.cls ∈ Tall) (hd : decode cc pc = .ok (.invokespecial idx, 3)) (hsize : la.size = c.maxLocals) (hcat : (rest.map fun v => v.category).sum ≤ 8)
    (hfr : rm.frames + 1 ≤ R.frames) (hlo : 8 + (maxL + 11) + rm.locals ≤ R.locals) (hce : cells + rm.cells ≤ R.cells) (hsl : slots + rm.slots ≤ R.slots)
    (hP : va_P D clA [(h0, ev)] H) (hS : va_S A s.heap H locs) (hAb : ∀ q, A q → b0 ≤ q) (hA : ∀ q, s.heap.size ≤ q → A q) (hA0 : A h0)
    (kk : ∀ (u t : State) (L : List Loc), u.heap = H → s.WarmedH u.vm → B u t → H.size ≤ t.heap.size → (∀ q, q < H.size → ¬ va_A [(h0, ev)] H.size q → t.heap[q]? = H[q]?) → va_S A s.heap t.heap (locs ++ L) → W p l e R s m args below meth c t.heap (locs ++ L) (cells + mc) (slots + ms) Q (F0 m (pc + 3) la rest)) :
    W p l e R s m args below meth c H locs cells slots Q (F0 m pc la (.ref h0 :: rest)) := by
  intro T hT X
  subst hT
  have hpl : e.platform.magicAccessors = ({} : Platform).magicAccessors := by rw [X.admits.platform]
  obtain ⟨tm, methC, cdC, kC, vm₁, hnC, hmC, hcC, -, hmlC, -, -, -, hW₁, st1⟩ := Steps.initCold (tb := p.tables) (e := e) (below := below) (s := s) (U := T) X.here hx X.warmed hpl hown (t := y) hyn hyd hyc (args := args) (hG.1 _ hlink args) (hG.1 _ hinst args) (hG.1 _ hcode args)
    (f := F0 m pc la (.ref h0 :: rest)) rfl (a := h0) (rest := rest) rfl (by rw [hb]; exact hd)
  have X₁ := X.noted hW₁
  have hz : b0 ≤ T.heap.size := Nat.le_trans hG.2.2.2.2.2.1 hS.1
  have hold : ∀ q, q < b0 → T.heap[q]? = s.heap[q]? := fun q h1 => hS.2.1 q (Nat.lt_of_lt_of_le h1 hG.2.2.2.2.2.1) (fun h2 => absurd (hAb q h2) (Nat.not_le.mpr h1))
  have hG1 : jm_G (P0x l D ad b0) (T.setVm vm₁) := hG.moved hok X₁.warmed hz hold
  obtain ⟨o, s₂, hsteps, hend, hpost⟩ := jm_callee X₁ hM (a := #[Value.ref h0]) (maxL := maxL) (ig := .invokespecial idx) (len := 3) (g := F0 m pc la rest) (fun w hw => by
      rw [List.mem_singleton.mp hw]; exact hG1.1 _ hcode _) (fun mk2 hn2 => by
      obtain ⟨m', hn'⟩ := Cond.code_named (hG1.1 _ hcode #[])
      obtain ⟨meth', c', h1', h2', -, h4', -⟩ := Cond.code_spec hn' (hG1.1 _ hcode #[])
      cases hn2.symm.trans hn'
      exact ⟨meth', c', h1', h2', h4'⟩) (hG1.1 _ hini _) hfr hlo hce hsl rfl hsize (by rw [hb]; exact hd)
      (by show 2 * 0 + (rest.map fun v => v.category).sum ≤ 8; omega) (X₁.named hnC) ⟨rfl, hG.moved hok (U := (T.setVm vm₁).calling (F0 m pc la rest) tm #[Value.ref h0]) X₁.warmed hz hold, hP, hAb _ hA0, va_AO.moved X₁.warmed.alike hAO⟩
  obtain ⟨rfl, hB, L, hW', hsame, hL, hF⟩ := hpost
  obtain ⟨T', X', -, -, ht⟩ := X₁.outOf (g := F0 m pc la rest) rfl (ig := .invokespecial idx) (len := 3) (by rw [hb]; exact hd) hend hW' hsame
  have hth : T'.heap = s₂.heap := by rw [ht]; rfl
  have hAA : ∀ q, va_A [(h0, ev)] T.heap.size q → A q := by
    rintro q (⟨k, e', h⟩ | h)
    · match k, h with
      | 0, h => cases h; exact hA0
      | k + 1, h => simp at h
    · exact hA q (Nat.le_trans hS.1 h)
  have hS' : va_S A s.heap s₂.heap (locs ++ L) := by
    refine ⟨Nat.le_trans hS.1 hF.1, fun q q1 q2 => ?_, fun q hq => ?_⟩
    · rw [hF.2 q (Nat.lt_of_lt_of_le q1 hS.1) (fun w => q2 (hAA q w))]
      exact hS.2.1 q q1 q2
    · rcases List.mem_append.mp hq with w | w
      · exact hS.2.2 q w
      · exact hAA _ (hL q w)
  obtain ⟨t, a1, b1⟩ := kk ((T.setVm vm₁).calling (F0 m pc la rest) tm #[Value.ref h0]) s₂ L rfl X₁.warmed hB hF.1 (fun q q1 q2 => hF.2 q q1 q2) hS' T' hth X'
  refine ⟨t, st1 t (fun acts => ?_), b1⟩
  rw [doInvoke_state]
  refine hsteps.trans ?_
  rw [ht]
  exact a1
/-- a constructor's contract out of its walk -/
theorem jc_con {y : MethodName} {bytes : ByteArray} {h0 mc ms : Nat} {rm : Room} {ev : va_E} {B : State → State → Prop} (hy : plainFor y = true)
    (h : ∀ (p : Program) (e : Env) (s : State) (m : MethodId) (args : Array Value) (below : List Frame) (meth : Method) (c : Code) (la : Array Slot), p.tables.exec = Jvm.exec → c.code = bytes → c.maxLocals = 1 → meth.sig.returnType = none → meth.locks = false → meth.name = y.name → s.vm.findClass y.cls = some m.cls → jm_G (P0x l D ad b0) s → va_P D clA [(h0, ev)] s.heap → b0 ≤ h0 → va_AO "java/lang/String" s → lv_has la 1 [(0, .ref h0)] →
      W p l e rm s m args below meth c s.heap [] 0 0 (MQ below (fun _ u o t => o = .returned none ∧ B u t ∧ va_F (va_A [(h0, ev)] u.heap.size) u t) args s mc ms (va_A [(h0, ev)] s.heap.size)) (F0 m 0 la [])) :
    MetFree l y (headSpec [.code y bytes 1 none] rm) (jc_Pre l D ad b0 h0 ev) (fun _ _ _ _ _ => True) (jc_Post B [(h0, ev)] mc ms) := by
  refine MetFree.of_bodySF (code := bytes) (maxLocals := 1) (ret := none) hy ?_ ?_
  · intro args s m h hn
    obtain ⟨meth, c, h1, h2, h3, h4, h5, h6, -, -⟩ := Cond.code_spec hn (atoms_spec (ws := [Cond.code y bytes 1 none]) h _ List.mem_cons_self)
    exact ⟨meth, c, h1, h2, h3, h4, h5, h6⟩
  · intro p e s m args below meth c s₁ B0 hml hP _
    obtain ⟨rfl, hG, hPw, hb0, hAO⟩ := hP
    have hh0 : s₁.heap = s.heap := by rw [B0.state]; rfl
    have hl := lv_entry ([.ref h0]) (n := 1) (Nat.le_of_ble_eq_true rfl)
    have W0 := h p e s m #[Value.ref h0] below meth c _ B0.exec B0.bytes hml B0.returns B0.notSynchronized (name_of_methodNamed B0.named B0.method).1 (findClass_of_methodNamed B0.named) hG hPw hb0 hAO hl
    obtain ⟨t, a1, o, b1, b2, ⟨c1, c2, c3⟩, L, ⟨-, hW, hf⟩, hL⟩ := W0 s₁ hh0 (Stand.of_body B0)
    show ∃ t o, Steps p.tables e below (s₁.setTop (entryFrame m ([Value.ref h0] : List Value).toArray 1)) t ∧ _
    rw [lg_entry_eq]
    exact ⟨t, o, a1, b1, b2, c1, c2, L, hW, hf, hL, c3⟩
end JCC

/-! THE SMALL MACHINE, 4: calls; a callee that throws ends its caller. -/
def jm_bind (r : Option jm_R) (f : Option Value → jm_X → Option jm_R) : Option jm_R := match r with
  | none => none
  | some (.inl q) => f q.1 q.2
  | some (.inr q) => some (.inr q)
section JC
variable {p : Program} {l : Launch} {e : Env} {R : Room} {s : State} {m : MethodId} {args : Array Value} {below : List Frame} {meth : Method} {c : Code} {T : State} {locs : List Loc} {cells slots : Nat}
/-- from the invocation to the callee's end, whichever it is -/
theorem jm_callee {y : MethodName} {ws : List Cond} {rm : Room} {Pc : Array Value → State → Prop} {Qc : Array Value → State → Outcome → State → Prop} {maxL len : Nat} {ig : Instr}
    (X : Stand p l e R s m args below meth c T locs cells slots) (hM : MetFree l y (headSpec ws rm) Pc (fun _ _ _ _ _ => True) Qc) {a : Array Value} (hws : ∀ w ∈ ws, w.before a T = true) (hcode : ∀ mk, T.methodNamed? y = some mk → ∃ methY cY, T.vm.method? mk = some methY ∧ methY.code = some cY ∧ cY.maxLocals = maxL) (hini : (Cond.initialized y.cls).before a T = true)
    (hfr : rm.frames + 1 ≤ R.frames) (hlo : 8 + (maxL + 11) + rm.locals ≤ R.locals) (hce : cells + rm.cells ≤ R.cells) (hsl : slots + rm.slots ≤ R.slots)
    {g : JFrame} (hg : g.method = m) (hsize : g.locals.size = c.maxLocals) (hdg : decode c.code g.pc = .ok (ig, len)) (hW : 2 * g.monitorRoom + (g.stack.map fun v => v.category).sum ≤ 8) {mk : MethodId} (hn : T.methodNamed? y = some mk) (hP : Pc a (T.calling g mk a)) :
    ∃ o s₂, Steps p.tables e below (doInvoke e (T.setTop g) [] mk a).1 s₂ ∧ Ended s₂ (.java g :: below) o ∧ Qc a (T.calling g mk a) o s₂ := by
  obtain ⟨methY, cY, hmY, hcY, hlY⟩ := hcode mk hn
  obtain ⟨kY, hkY, -⟩ := className_of_methodNamed hn
  have hinitY : kY.init = .initialized := Cond.initialized_spec (findClass_of_methodNamed hn) hkY hini
  have h : At T g.method c below := by rw [hg]; exact X.here
  have happ : (headSpec ws rm).appliesLoose y e.platform (T.calling g mk a) = true :=
    Spec.appliesLoose_calling (g := g) h hdg hn hkY hinitY (X.room_calling (g := g) (R' := rm) hsize hmY hcY hfr (by rw [hlY]; omega) hce hsl) (atoms_intro hws)
  have hfr2 : (T.setTop g).frames = [.java g] ++ below := by rw [State.frames_setTop' g h.top, X.tail]; rfl
  obtain ⟨o, s₂, hsteps, -, hend, hq⟩ := Jvm.Free.Steps.callFree hM p X.admits X.cas X.clock (acts := []) hfr2 happ hP trivial
  refine ⟨o, s₂, hsteps, ?_, hq⟩
  rw [hfr2] at hend
  exact hend
end JC
theorem jm_S_w {A B : Nat → Prop} {H0 H : Heap} {locs : List Loc} (h : va_S A H0 H locs) (hAB : ∀ q, A q → B q) : va_S B H0 H locs := ⟨h.1, fun q h1 h2 => h.2.1 q h1 (fun z => h2 (hAB q z)), fun q hq => hAB _ (h.2.2 q hq)⟩
/-- behind a callee: what has changed since the caller began -/
theorem jm_S_call {P : jm_P} {s u t : State} {H : Heap} {locs L : List Loc} (hS : va_S (jm_AA P s) s.heap H locs) (hu : u.heap = H) (hF : va_F (jm_AA P u) u t) (hL : ∀ q ∈ L, jm_AA P u q.base) : va_S (jm_AA P s) s.heap t.heap (locs ++ L) := by
  have hm : ∀ q, jm_AA P u q → jm_AA P s q := jm_A_mono (by rw [hu]; exact hS.1)
  refine ⟨Nat.le_trans hS.1 (by rw [← hu]; exact hF.1), fun q h1 h2 => ?_, fun q hq => ?_⟩
  · rw [hF.2 q (by rw [hu]; exact Nat.lt_of_lt_of_le h1 hS.1) (fun z => h2 (hm q z)), hu]
    exact hS.2.1 q h1 h2
  · rcases List.mem_append.mp hq with h | h
    · exact hS.2.2 q h
    · exact hm _ (hL q h)
/-- the invoking instruction at pc leads to the callee -/
def jm_Inv (P : jm_P) (M y : jm_M) (pc : Nat) (av rest : List Value) (x : jm_X) : Prop :=
  ∃ ig : Instr, decode M.2.1 pc = .ok (ig, 3) ∧ ∀ (p : Program) (e : Env) (R : Room) (s : State) (m : MethodId) (args : Array Value) (below : List Frame) (meth : Method) (c : Code) (T : State) (locs : List Loc) (cells slots : Nat) (la : Array Slot),
    jm_C P M p s m meth c → la.size = M.2.2.1 → va_P (jm_d P) (jm_c P) (jm_w P x) T.heap → va_S (jm_AA P s) s.heap T.heap locs → Stand p (jm_l P) e R s m args below meth c T locs cells slots →
    ∃ (vm₁ : Vm) (mk : MethodId), Stand p (jm_l P) e R s m args below meth c (T.setVm vm₁) locs cells slots ∧ s.methodNamed? y.1 = some mk ∧
      ∀ target, Steps p.tables e below (doInvoke e ((T.setVm vm₁).setTop (F0 m pc la (jm_st (jm_a P) rest))) [] mk (jm_st (jm_a P) av).toArray).1 target → Steps p.tables e below (T.setTop (F0 m pc la (jm_st (jm_a P) (av.reverse ++ rest)))) target
theorem jm_V.call {P : jm_P} {M y : jm_M} {d pc : Nat} {ls : List (Nat × Value)} {av rest : List Value} {x : jm_X} {r0 : Option jm_R} {f : Option Value → jm_X → Option jm_R} (hok : jm_Ok P) (hcon : jm_Con P y d av x r0) (hinv : jm_Inv P M y pc av rest x)
    (hy : jm_cw y ∈ jm_t P) (hini : Cond.initialized y.1.cls ∈ jm_t P) (hnl : y.2.2.1 ≤ 21) (hcat : (rest.map fun v => v.category).sum ≤ 8)
    (k : ∀ v x', jm_V P M (d + 1) (pc + 3) ls (v.toList ++ rest) x' (f v x')) (hu : jm_unc M.2.2.2.2 pc = true := by rfl) : jm_V P M (d + 1) pc ls (av.reverse ++ rest) x (jm_bind r0 f) := by
  intro q hq p e s m args below meth c H locs la hC hl hP hS T hT X
  obtain ⟨hx, hb, hml, hret, hlocks, hown, hno, hG⟩ := id hC
  subst hT
  cases r0 with
  | none => cases hq
  | some q0 =>
    obtain ⟨ig, hdg, hgo⟩ := hinv
    obtain ⟨vm₁, mk, X₁, hn, hstep⟩ := hgo p e (jm_room (d + 1)) s m args below meth c T locs 0 0 la hC hl.1 hP hS X
    have hz : jm_b P ≤ T.heap.size := Nat.le_trans hG.2.2.2.2.2.1 hS.1
    have hold : ∀ q, q < jm_b P → T.heap[q]? = s.heap[q]? := fun q h1 => hS.2.1 q (Nat.lt_of_lt_of_le h1 hG.2.2.2.2.2.1) (jm_A_old hok hG.2.2.2.2.2.1 h1)
    have hG1 : jm_G P (T.setVm vm₁) := hG.moved hok X₁.warmed hz hold
    have hcs : ((jm_st (jm_a P) rest).map fun v => v.category).sum ≤ 8 := by
      have : (jm_st (jm_a P) rest).map (fun v => v.category) = rest.map (fun v => v.category) := by
        simp only [jm_st, List.map_map]
        apply List.map_congr_left
        intro v _
        exact jm_cv_cat _ v
      rw [this]; exact hcat
    obtain ⟨o, s₂, hsteps, hend, hpost⟩ := jm_callee X₁ (hcon q0 rfl) (a := (jm_st (jm_a P) av).toArray) (maxL := y.2.2.1) (ig := ig) (len := 3) (g := F0 m pc la (jm_st (jm_a P) rest)) (fun w hw => by
        rw [List.mem_singleton.mp hw]; exact hG1.1 _ hy _) (fun mk2 hn2 => by
        obtain ⟨m', meth', c', hn', h1', h2', -, h4', -⟩ := jm_cw_spec (hG1.1 _ hy #[])
        cases hn2.symm.trans hn'
        exact ⟨meth', c', h1', h2', h4'⟩) (hG1.1 _ hini _) (Nat.le_refl _) (by show 8 + (y.2.2.1 + 11) + 40 * d ≤ 40 * (d + 1); omega) (Nat.le_refl _) (Nat.le_refl _) rfl (by show la.size = _; rw [hl.1]; exact hml.symm) (by rw [hb]; exact hdg)
        (by show 2 * 0 + ((jm_st (jm_a P) rest).map fun v => v.category).sum ≤ 8; omega) (X₁.named hn) ⟨rfl, hG.moved hok (U := (T.setVm vm₁).calling (F0 m pc la (jm_st (jm_a P) rest)) mk (jm_st (jm_a P) av).toArray) X₁.warmed hz hold, hP⟩
    cases q0 with
    | inl z =>
      obtain ⟨v, x'⟩ := z
      obtain ⟨rfl, hP', L, hW', hsame, hL, hF⟩ := hpost
      obtain ⟨T', X', -, -, ht⟩ := X₁.outOf (g := F0 m pc la (jm_st (jm_a P) rest)) rfl (ig := ig) (len := 3) (by rw [hb]; exact hdg) hend hW' hsame
      have hth : T'.heap = s₂.heap := by rw [ht]; rfl
      have hS' := jm_S_call (P := P) hS (u := (T.setVm vm₁).calling (F0 m pc la (jm_st (jm_a P) rest)) mk (jm_st (jm_a P) av).toArray) rfl hF hL
      obtain ⟨t, a1, b1⟩ := k v x' q hq p e s m args below meth c T'.heap (locs ++ L) la hC hl (by rw [hth]; exact hP') (by rw [hth]; exact hS') T' rfl X'
      refine ⟨t, hstep t (hsteps.trans ?_), b1⟩
      rw [ht]
      have e1 : jm_st (jm_a P) (v.toList ++ rest) = (v.map (jm_cv (jm_a P))).toList ++ jm_st (jm_a P) rest := by cases v <;> simp [jm_st]
      rw [e1] at a1
      exact a1
    | inr z =>
      obtain ⟨ec, x'⟩ := z
      cases hq
      obtain ⟨⟨a, rfl, hexc⟩, hP', L, hW', hsame, hL, hF⟩ := hpost
      obtain ⟨T', X', -, -, ht⟩ := X₁.outOfThrown (g := F0 m pc la (jm_st (jm_a P) rest)) rfl hend hW' hsame
      have hth : T'.heap = s₂.heap := by rw [ht]; rfl
      have htv : T'.vm = s₂.vm := by rw [ht]; rfl
      have hS' := jm_S_call (P := P) hS (u := (T.setVm vm₁).calling (F0 m pc la (jm_st (jm_a P) rest)) mk (jm_st (jm_a P) av).toArray) rfl hF hL
      obtain ⟨st1, hrun, hended, hW2, hsame2⟩ := X'.leaveThrown a (g := F0 m pc la (jm_st (jm_a P) rest)) rfl rfl rfl (jm_unc_of hno hu) hlocks
      refine ⟨_, hstep _ (hsteps.trans (by rw [ht]; exact st1)), .threw a, hrun, hended, ⟨a, rfl, ?_⟩, ?_, ?_⟩
      · obtain ⟨cell, c1, c2, c3, c4⟩ := hexc
        exact ⟨cell, by show T'.heap[a]? = _; rw [hth]; exact c1, c2, by show T'.vm.findClass _ = _; rw [htv]; exact c3, by show ∃ k, T'.vm.classes[_]? = _; rw [htv]; exact c4⟩
      · show va_P _ _ _ T'.heap
        rw [hth]; exact hP'
      · refine jm_end_of (H := s₂.heap) hS' hth hW2 ?_
        simpa using hsame2

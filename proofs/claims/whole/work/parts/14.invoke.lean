/-! THE SMALL MACHINE, 5: the invoking instructions. -/
theorem jm_st_rev (ad : Nat → Nat) (as rest : List Value) : jm_st ad (as.reverse ++ rest) = (jm_st ad as).reverse ++ jm_st ad rest := by simp [jm_st]
theorem jm_st_rev1 (ad : Nat → Nat) (o : Nat) (as rest : List Value) : jm_st ad ((Value.ref o :: as).reverse ++ rest) = (jm_st ad as).reverse ++ Value.ref (ad o) :: jm_st ad rest := by simp [jm_st, jm_cv]
theorem jm_Inv.virt {P : jm_P} {M y : jm_M} {pc idx o : Nat} {as rest : List Value} {x : jm_X} {C : String} (hd : decode M.2.1 pc = .ok (.invokevirtual idx, 3)) (hlink : Cond.methodLink M.1.cls idx y.1 ∈ jm_t P ∨ ∃ host, (M.1.cls, idx, y.1, host) ∈ jm_mn P)
    (hin : Cond.instanceMethod y.1 ∈ jm_t P) (hsel : Cond.selects C y.1 y.1 ∈ jm_t P) (hcw : jm_cw y ∈ jm_t P) (hy : y.1.cls ≠ "java/lang/invoke/MethodHandle" ∧ y.1.cls ≠ "java/lang/invoke/VarHandle") (hlen : (parseMethodDescriptor y.1.desc).map (fun q => q.parameters.length) = some as.length)
    (hrecv : ∀ (s : State) (H : Heap) (locs : List Loc), jm_G P s → va_P (jm_d P) (jm_c P) (jm_w P x) H → va_S (jm_AA P s) s.heap H locs → ∃ cell : Cell, H[jm_a P o]? = some cell ∧ cell.vm.isStatics = false ∧ s.vm.findClass C = some cell.cls) : jm_Inv P M y pc (.ref o :: as) rest x := by
  refine ⟨_, hd, ?_⟩
  intro p e R s m args below meth c T locs cells slots la hC hla hP hS X
  obtain ⟨hx, hb, hml, hret, hlocks, hown, hno, hG⟩ := hC
  obtain ⟨mk, methM, hnamed, hmethM, hstM, habM⟩ := Cond.instanceMethod_spec (hG.1 _ hin args)
  obtain ⟨mk', methM', cM, hnamed', hmethM', -, -, -, -, -, -, hsigM⟩ := jm_cw_spec (hG.1 _ hcw args)
  cases hnamed.symm.trans hnamed'
  cases hmethM.symm.trans hmethM'
  obtain ⟨c2, r2, m2, q1, q2, q3, q4, kP, hkP, hkPi⟩ := Cond.selects_spec (hG.1 _ hsel args)
  obtain ⟨cellB, hcB, hoB, hclB⟩ := hrecv s T.heap locs hG hP hS
  cases hclB.symm.trans q1
  cases (State.methodFound?_of_named hnamed hy).symm.trans q2
  cases hnamed.symm.trans q3
  have hselP : selectMethod e.platform s.vm cellB.cls mk = .method mk := by rw [Launch.admits_selectMethod X.admits]; exact q4
  have hl2 : (jm_st (jm_a P) as).length = methM.sig.parameters.length := by
    rw [hsigM] at hlen
    simp [jm_st]
    exact (Option.some.inj hlen).symm
  rcases hlink with hlink | ⟨host, hlink⟩
  · obtain ⟨vm₁, X₁, hstep⟩ := X.invokevirtual hx hown (hG.1 _ hlink args) hnamed hmethM hstM hkP hkPi hy (a := jm_a P o) (cell := cellB) hcB (fun z h => by rw [h] at hoB; cases hoB) hselP hmethM habM hkP hkPi
      (g := F0 m pc la (jm_st (jm_a P) ((Value.ref o :: as).reverse ++ rest))) rfl (argsL := jm_st (jm_a P) as) (rest := jm_st (jm_a P) rest) hl2 (jm_st_rev1 _ _ _ _) (by rw [hb]; exact hd)
    exact ⟨vm₁, mk, X₁, hnamed, fun target h => hstep target (fun acts => by rw [doInvoke_state]; exact h)⟩
  · obtain ⟨vm₁, X₁, hstep⟩ := X.invokevirtualNest hx hown (va_Nw.use rfl (hG.2.2.1 _ hlink)) hnamed hmethM hstM hkP hkPi hy (a := jm_a P o) (cell := cellB) hcB (fun z h => by rw [h] at hoB; cases hoB) hselP hmethM habM hkP hkPi
      (g := F0 m pc la (jm_st (jm_a P) ((Value.ref o :: as).reverse ++ rest))) rfl (argsL := jm_st (jm_a P) as) (rest := jm_st (jm_a P) rest) hl2 (jm_st_rev1 _ _ _ _) (by rw [hb]; exact hd)
    exact ⟨vm₁, mk, X₁, hnamed, fun target h => hstep target (fun acts => by rw [doInvoke_state]; exact h)⟩
/-- on an object of the world -/
theorem jm_Inv.obj {P : jm_P} {M y : jm_M} {pc idx o ci : Nat} {as rest : List Value} {x : jm_X} {q : vw_C} {fs : List Nat} (hd : decode M.2.1 pc = .ok (.invokevirtual idx, 3)) (hlink : Cond.methodLink M.1.cls idx y.1 ∈ jm_t P ∨ ∃ host, (M.1.cls, idx, y.1, host) ∈ jm_mn P)
    (hin : Cond.instanceMethod y.1 ∈ jm_t P) (hsel : Cond.selects q.1 y.1 y.1 ∈ jm_t P) (hcw : jm_cw y ∈ jm_t P) (hy : y.1.cls ≠ "java/lang/invoke/MethodHandle" ∧ y.1.cls ≠ "java/lang/invoke/VarHandle") (hlen : (parseMethodDescriptor y.1.desc).map (fun q => q.parameters.length) = some as.length)
    (hs : (jm_h P)[o]? = some (.inr (.inr (ci, fs)))) (hc : (jm_c P)[ci]? = some q) : jm_Inv P M y pc (.ref o :: as) rest x :=
  jm_Inv.virt hd hlink hin hsel hcw hy hlen (fun _ _ _ hG hP _ => va_recv hG.2.2.2.1 hP hc (jm_wl_at hs))
theorem jm_Inv.stat {P : jm_P} {M y : jm_M} {pc idx : Nat} {as rest : List Value} {x : jm_X} (hd : decode M.2.1 pc = .ok (.invokestatic idx, 3)) (hlink : Cond.methodLink M.1.cls idx y.1 ∈ jm_t P ∨ ∃ host, (M.1.cls, idx, y.1, host) ∈ jm_mn P)
    (hst : Cond.static y.1 ∈ jm_t P) (hini : Cond.initialized y.1.cls ∈ jm_t P) (hcw : jm_cw y ∈ jm_t P) (hy : y.1.cls ≠ "java/lang/invoke/MethodHandle" ∧ y.1.cls ≠ "java/lang/invoke/VarHandle") (hlen : (parseMethodDescriptor y.1.desc).map (fun q => q.parameters.length) = some as.length) : jm_Inv P M y pc as rest x := by
  refine ⟨_, hd, ?_⟩
  intro p e R s m args below meth c T locs cells slots la hC hla hP hS X
  obtain ⟨hx, hb, hml, hret, hlocks, hown, hno, hG⟩ := hC
  obtain ⟨mk, methM, cM, hnamed, hmethM, -, -, -, -, -, -, hsigM⟩ := jm_cw_spec (hG.1 _ hcw args)
  have hstatic : methM.isStatic = true := Cond.static_spec hnamed hmethM (hG.1 _ hst args)
  obtain ⟨kP, hkP, -⟩ := className_of_methodNamed hnamed
  have hinitP : kP.init = .initialized := Cond.initialized_spec (findClass_of_methodNamed hnamed) hkP (hG.1 _ hini args)
  have hl2 : (jm_st (jm_a P) as).length = methM.sig.parameters.length := by
    rw [hsigM] at hlen
    simp [jm_st]
    exact (Option.some.inj hlen).symm
  rcases hlink with hlink | ⟨host, hlink⟩
  · obtain ⟨vm₁, X₁, hstep⟩ := X.invokestatic hx hown (hG.1 _ hlink args) hnamed hmethM hstatic hkP hinitP hy (g := F0 m pc la (jm_st (jm_a P) (as.reverse ++ rest))) rfl (argsL := jm_st (jm_a P) as) (rest := jm_st (jm_a P) rest) hl2 (jm_st_rev _ _ _) (by rw [hb]; exact hd)
    exact ⟨vm₁, mk, X₁, hnamed, fun target h => hstep target (fun acts => by rw [doInvoke_state]; exact h)⟩
  · obtain ⟨vm₁, X₁, hstep⟩ := X.invokestaticNest hx hown (va_Nw.use rfl (hG.2.2.1 _ hlink)) hnamed hmethM hstatic hkP hinitP hy (g := F0 m pc la (jm_st (jm_a P) (as.reverse ++ rest))) rfl (argsL := jm_st (jm_a P) as) (rest := jm_st (jm_a P) rest) hl2 (jm_st_rev _ _ _) (by rw [hb]; exact hd)
    exact ⟨vm₁, mk, X₁, hnamed, fun target h => hstep target (fun acts => by rw [doInvoke_state]; exact h)⟩

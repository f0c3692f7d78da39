/-! THE SMALL MACHINE, 10: a question asked ahead, an inherited method, an array's length by its number, constant receivers. -/
section JM
variable {P : jm_P} {M : jm_M} {d pc o : Nat} {ls : List (Nat × Value)} {st : List Value} {x : jm_X} {r : Option jm_R}
theorem jm_V.guard {b : Bool} (k : b = true → jm_V P M d pc ls st x r) : jm_V P M d pc ls st x (if b then r else none) := by
  split
  · rename_i h; exact k h
  · exact jm_V.stuck
def jm_oN (o : Option Nat) (f : Nat → Option jm_R) : Option jm_R := match o with
  | some n => f n
  | none => none
theorem jm_V.alenS {f : Nat → Option jm_R} (hd : decode M.2.1 pc = .ok (.arraylength, 1)) (k : ∀ n, jm_V P M d (pc + 1) ls (.int (Int32.ofNat n) :: st) x (f n)) : jm_V P M d pc ls (.ref o :: st) x (jm_oN (jm_len (jm_h P) o) f) := by
  cases h : jm_len (jm_h P) o with
  | none => exact jm_V.stuck
  | some n =>
    have := jm_V.alen (P := P) (M := M) (d := d) (pc := pc) (ls := ls) (st := st) (x := x) (o := o) (n := n) hd (k n)
    rw [if_pos h] at this
    exact this
/-- the value of a constant array of references of the world -/
theorem jm_V.aald {C : String} {ids : List Nat} {i : Int32} (hs : (jm_h P)[o]? = some (.inr (.inl (C, ids)))) (hd : decode M.2.1 pc = .ok (.aaload, 1)) (k : jm_V P M d (pc + 1) ls (.ref (ids.getD i.toNatClampNeg 0) :: st) x r) : jm_V P M d pc ls (.int i :: .ref o :: st) x (if jm_ix ids.length i then r else none) := by
  split
  · rename_i h
    intro q hq p e s m args below meth c H locs la hC hl hP hS
    obtain ⟨hx, hb, hml, hret, hlocks, hown, hno, hG⟩ := id hC
    have kk := k q hq p e s m args below meth c H locs la hC hl hP hS
    have hlt : i.toNatClampNeg < ids.length := by
      simp only [jm_ix, Bool.and_eq_true, decide_eq_true_eq] at h
      exact h.2
    have e1 : va_rf ((ids[i.toNatClampNeg]?).map (jm_a P)) = .ref (jm_a P (ids.getD i.toNatClampNeg 0)) := by
      simp [List.getD_eq_getElem?_getD, List.getElem?_eq_getElem hlt, va_rf]
    refine va_aldq (C := C) (f := fun j => (ids[j]?).map (jm_a P)) hx hb (jm_K1 hG (Or.inr ⟨C, ids, rfl, hs⟩)) hP o 0 (jm_wl_at hs) rfl (jm_ix_of h) hd ?_
    rw [e1]
    exact kk
  · exact jm_V.stuck
end JM
theorem jm_Inv.up {P : jm_P} {M y : jm_M} {xn : MethodName} {pc idx o : Nat} {as rest : List Value} {x : jm_X} {C owner : String} (hd : decode M.2.1 pc = .ok (.invokevirtual idx, 3)) (hlink : Cond.methodLink M.1.cls idx xn ∈ jm_t P) (hsm : Cond.sameMethod xn.cls owner xn.name xn.desc ∈ jm_t P)
    (hyn : y.1 = ⟨owner, xn.name, xn.desc⟩) (hin : Cond.instanceMethod y.1 ∈ jm_t P) (hsel : Cond.selects C xn y.1 ∈ jm_t P) (hcw : jm_cw y ∈ jm_t P) (hy : owner ≠ "java/lang/invoke/MethodHandle" ∧ owner ≠ "java/lang/invoke/VarHandle") (hlen : (parseMethodDescriptor y.1.desc).map (fun q => q.parameters.length) = some as.length)
    (hrecv : ∀ (s : State) (H : Heap) (locs : List Loc), jm_G P s → va_P (jm_d P) (jm_c P) (jm_w P x) H → va_S (jm_AA P s) s.heap H locs → ∃ cell : Cell, H[jm_a P o]? = some cell ∧ cell.vm.isStatics = false ∧ s.vm.findClass C = some cell.cls) : jm_Inv P M y pc (.ref o :: as) rest x := by
  refine ⟨_, hd, ?_⟩
  intro p e R s m args below meth c T locs cells slots la hC hla hP hS X
  obtain ⟨hx, hb, hml, hret, hlocks, hown, hno, hG⟩ := hC
  obtain ⟨r0, r, hn, hrm, hstR, hsigR⟩ : va_Decl s y.1 := by
    obtain ⟨m1, r1, q1, q2, q3, -⟩ := Cond.instanceMethod_spec (hG.1 _ hin args)
    obtain ⟨m2, r2, c2, p1, p2, -, -, -, -, -, -, p8⟩ := jm_cw_spec (hG.1 _ hcw args)
    cases q1.symm.trans p1
    cases q2.symm.trans p2
    exact ⟨m1, r1, q1, q2, q3, p8⟩
  obtain ⟨cn, ck, r1, hcn, hck, hni, hf, hn1⟩ := Cond.sameMethod_found (hG.1 _ hsm args)
  rw [← hyn] at hn1
  cases hn.symm.trans hn1
  obtain ⟨mk, methM, hnamed, hmethM, -, habM⟩ := Cond.instanceMethod_spec (hG.1 _ hin args)
  obtain ⟨c2, r2, m2, q1, q2, q3, q4, kP, hkP, hkPi⟩ := Cond.selects_spec (hG.1 _ hsel args)
  obtain ⟨cellB, hcB, hoB, hclB⟩ := hrecv s T.heap locs hG hP hS
  cases hclB.symm.trans q1
  cases hf.symm.trans q2
  cases hnamed.symm.trans q3
  have hselP : selectMethod e.platform s.vm cellB.cls r0 = .method mk := by rw [Launch.admits_selectMethod X.admits]; exact q4
  have hl2 : (jm_st (jm_a P) as).length = r.sig.parameters.length := by
    rw [hsigR] at hlen
    simp [jm_st]
    exact (Option.some.inj hlen).symm
  rw [hyn] at hn
  obtain ⟨vm₁, X₁, hstep⟩ := X.invokevirtualUp hx hown (hG.1 _ hlink args) (hG.1 _ hsm args) hy hn hrm hstR (a := jm_a P o) (cell := cellB) hcB (fun z h => by rw [h] at hoB; cases hoB) hselP hmethM habM hkP hkPi
    (g := F0 m pc la (jm_st (jm_a P) ((Value.ref o :: as).reverse ++ rest))) rfl (argsL := jm_st (jm_a P) as) (rest := jm_st (jm_a P) rest) hl2 (jm_st_rev1 _ _ _ _) (by rw [hb]; exact hd)
  exact ⟨vm₁, mk, X₁, hnamed, fun target h => hstep target (fun acts => by rw [doInvoke_state]; exact h)⟩
/-- a constant receiver -/
theorem jm_recvO {P : jm_P} {E : String} {o : Nat} (hok : jm_Ok P) (hF : ∀ (s : State) (H : Heap), jm_sg P s H → va_O E (jm_a P o) (jm_A0 P) s H) {x : jm_X} : ∀ (s : State) (H : Heap) (locs : List Loc), jm_G P s → va_P (jm_d P) (jm_c P) (jm_w P x) H → va_S (jm_AA P s) s.heap H locs → ∃ cell : Cell, H[jm_a P o]? = some cell ∧ cell.vm.isStatics = false ∧ s.vm.findClass E = some cell.cls :=
  fun s _ _ hG _ hS => va_Orecv (hF s s.heap hG.2.2.2.2.2.2) (jm_S_w hS (jm_AA_b hok hG))
/-- Math.min and the like: a static method of the JDK that is walked like ours, of longs -/
theorem jm_V.lret {P : jm_P} {M : jm_M} {d pc : Nat} {ls : List (Nat × Value)} {x : jm_X} {v : Int64} (hr : M.2.2.2.1 = some .long) (hd : decode M.2.1 pc = .ok (.lreturn, 1)) : jm_V P M d pc ls [.long v] x (some (.inl (some (.long v), x))) := by
  intro q hq p e s m args below meth c H locs la hC hl hP hS
  cases hq
  obtain ⟨hx, hb, hml, hret, hlocks, hown, hno, hG⟩ := hC
  refine jm_Q_of (Qc := fun _ s o t => o = .returned (some (.long v)) ∧ va_P (jm_d P) (jm_c P) (jm_w P x) t.heap ∧ va_F (jm_AA P s) s t) ?_ ?_
  · exact W.lret hx hb (hret.trans hr) (fun t ht _ => ⟨rfl, by rw [ht]; exact hP, hS.F ht⟩) hS.2.2 hd
  · rintro o t ⟨h1, h2, h3⟩ ⟨L, ⟨-, hW, hf⟩, hL⟩
    exact ⟨h1, h2, L, hW, hf, hL, h3⟩
def jm_bL (r : Option jm_R) (f : Int64 → jm_X → Option jm_R) : Option jm_R := jm_bind r (fun v x => match v with
  | some (.long b) => f b x
  | _ => none)
theorem jm_V.callL {P : jm_P} {M y : jm_M} {d pc : Nat} {ls : List (Nat × Value)} {av rest : List Value} {x : jm_X} {r0 : Option jm_R} {f : Int64 → jm_X → Option jm_R} (hok : jm_Ok P) (hcon : jm_Con P y d av x r0) (hinv : jm_Inv P M y pc av rest x) (hy : jm_cw y ∈ jm_t P) (hini : Cond.initialized y.1.cls ∈ jm_t P) (hnl : y.2.2.1 ≤ 21) (hcat : (rest.map fun v => v.category).sum ≤ 8)
    (k : ∀ b x', jm_V P M (d + 1) (pc + 3) ls (.long b :: rest) x' (f b x')) (hu : jm_unc M.2.2.2.2 pc = true := by rfl) : jm_V P M (d + 1) pc ls (av.reverse ++ rest) x (jm_bL r0 f) := by
  refine jm_V.call hok hcon hinv hy hini hnl hcat (fun v x' => ?_) hu
  match v with
  | some (.long b) => exact k b x'
  | none => exact jm_V.stuck
  | some (.int _) => exact jm_V.stuck
  | some (.float _) => exact jm_V.stuck
  | some (.double _) => exact jm_V.stuck
  | some .null => exact jm_V.stuck
  | some (.ref _) => exact jm_V.stuck
  | some (.retAddr _) => exact jm_V.stuck

/-! THE SMALL MACHINE, 11: a method with one handler: what is thrown within its reach goes on there (where exceptions are no new cells). -/
def jm_bC (r : Option jm_R) (C : String) (f : Option Value → jm_X → Option jm_R) (h : jm_X → Option jm_R) : Option jm_R := match r with
  | none => none
  | some (.inl q) => f q.1 q.2
  | some (.inr q) => if q.1 = C then h q.2 else none
section JX
variable {p : Program} {l : Launch} {e : Env} {R : Room} {s : State} {m : MethodId} {args : Array Value} {below : List Frame} {meth : Method} {c : Code} {H : Heap} {locs : List Loc} {cells slots : Nat} {Q : State → Prop}
/-- the handler's first instruction lays the reference aside -/
theorem jm_ast {cc : ByteArray} {nL n ln pc q : Nat} {ad : Nat → Nat} {ls ls' : List (Nat × Value)} {la : Array Slot} {rest : List Value} (hx : p.tables.exec = Jvm.exec) (hb : c.code = cc) (hd : (∃ k : Fin 4, decode cc pc = .ok (.astore_n k, 1) ∧ (k : Nat) = n ∧ ln = 1) ∨ (decode cc pc = .ok (.astore n, 2) ∧ ln = 2)) (hn : n < nL)
    (hl : lv_has la nL (jm_cl ad ls)) (hf : ls.filter (fun q => !(q.1 == n) && !(q.1 + 1 == n && q.2.category == 2)) = ls')
    (k : ∀ la' : Array Slot, lv_has la' nL (jm_cl ad ls') → W p l e R s m args below meth c H locs cells slots Q (F0 m (pc + ln) la' rest)) : W p l e R s m args below meth c H locs cells slots Q (F0 m pc la (.ref q :: rest)) := by
  have key : ∀ la' : Array Slot, lv_has la' nL ((n, Value.ref q) :: (jm_cl ad ls).filter (fun q => !(q.1 == n) && !(q.1 + 1 == n && q.2.category == 2))) → lv_has la' nL (jm_cl ad ls') := by
    intro la' h
    refine ⟨h.1, h.2.1, fun z hz => h.2.2 z (List.mem_cons_of_mem _ ?_)⟩
    have e1 := jm_s1_cl ad ls n (.ref 0)
    simp only [jm_s1, jm_cl, List.map_cons] at e1
    have e2 := (List.cons.inj e1).2
    simp only [jm_cl] at hz ⊢
    rw [e2, hf]
    exact hz
  rcases hd with ⟨k4, hd, hk, rfl⟩ | ⟨hd, rfl⟩
  · exact lv_astore_n hx hb hd hk hl hn rfl (fun la' h => k la' (key la' h))
  · exact lv_astore hx hb hd hl hn rfl (fun la' h => k la' (key la' h))
end JX
theorem jm_one_tab {c : Code} {a b h t : Nat} (hno : jm_tab c = [(a, b, h, t)]) : ∃ z : ExceptionTableEntry, c.exceptionTable.toList = [] ++ z :: [] ∧ z.startPc = a ∧ z.endPc = b ∧ z.handlerPc = h ∧ z.catchType = t := by
  unfold jm_tab at hno
  match hl : c.exceptionTable.toList, hno with
  | [z], hno =>
    simp only [List.map_cons, List.map_nil, List.cons.injEq, Prod.mk.injEq, and_true] at hno
    exact ⟨z, rfl, hno.1, hno.2.1, hno.2.2.1, hno.2.2.2⟩
  | [], hno => simp at hno
  | _ :: _ :: _, hno => simp at hno
section JY
variable {P : jm_P} {M y : jm_M} {d pc a b hp ct n ln : Nat} {ls ls' : List (Nat × Value)} {av rest : List Value} {x : jm_X} {r0 : Option jm_R} {C : String}
/-- thrown within reach of the handler -/
theorem jm_V.catch_ {p : Program} {e : Env} {R : Room} {s : State} {m : MethodId} {args : Array Value} {below : List Frame} {meth : Method} {c : Code} {H : Heap} {locs : List Loc} {q : jm_R} {la : Array Slot} {st : List Value} {x' : jm_X} {r : Option jm_R} {z : Nat} {T : State} (hq : r = some q)
    (hR : R = jm_room d) (hC : jm_C P M p s m meth c) (hl : lv_has la M.2.2.1 (jm_cl (jm_a P) ls)) (hP : va_P (jm_d P) (jm_c P) (jm_w P x') H) (hS : va_S (jm_AA P s) s.heap H locs) (hT : T.heap = H) (X : Stand p (jm_l P) e R s m args below meth c T locs 0 0) {cell : Cell} (h1 : H[z]? = some cell) (h2 : cell.vm = .none) (h3 : s.vm.findClass C = some cell.cls)
    (hh : M.2.2.2.2 = [(a, b, hp, ct)]) (hcov : a ≤ pc ∧ pc < b) (h0 : ct ≠ 0) (hlink : Cond.classLink M.1.cls ct C ∈ jm_t P) (hcast : Cond.castable C C ∈ jm_t P)
    (hd : (∃ k : Fin 4, decode M.2.1 hp = .ok (.astore_n k, 1) ∧ (k : Nat) = n ∧ ln = 1) ∨ (decode M.2.1 hp = .ok (.astore n, 2) ∧ ln = 2)) (hn : n < M.2.2.1) (hf : ls.filter (fun q => !(q.1 == n) && !(q.1 + 1 == n && q.2.category == 2)) = ls')
    (kh : jm_V P M d (hp + ln) ls' [] x' r) : ∃ t, Steps p.tables e below ((T.setTop (F0 m pc la st)).pushFrame (.throwing z)) t ∧ jm_Q P below q s t := by
  subst hR
  obtain ⟨hx, hb, hml, hret, hlocks, hown, hno, hG⟩ := id hC
  obtain ⟨w, hsp, w1, w2, w3, w4⟩ := jm_one_tab (hno.trans hh)
  have K : vx_W p (jm_l P) e (jm_room d) s m args below meth c H locs 0 0 (jm_Q P below q s) (F0 m pc la st) z := by
    refine vx_catch (own := M.1.cls) (name := C) (E := C) (ce := cell) hown [] w [] hsp (fun _ h => absurd h List.not_mem_nil) (by simp [w1, w2, hcov]) (by rw [w4]; exact h0) (by rw [w4]; exact hG.1 _ hlink args) (hG.1 _ hcast args) h1 h2 h3 ?_
    rw [w3]
    exact jm_ast hx hb hd hn hl hf (fun la' hl' => kh q hq p e s m args below meth c H locs la' hC hl' hP hS)
  exact K T hT X
theorem jm_V.callC {f : Option Value → jm_X → Option jm_R} {h : jm_X → Option jm_R} (hok : jm_Ok P) (hec : jm_ec P = 0) (hcon : jm_Con P y d av x r0) (hinv : jm_Inv P M y pc av rest x) (hy : jm_cw y ∈ jm_t P) (hini : Cond.initialized y.1.cls ∈ jm_t P) (hnl : y.2.2.1 ≤ 21) (hcat : (rest.map fun v => v.category).sum ≤ 8)
    (hh : M.2.2.2.2 = [(a, b, hp, ct)]) (hcov : a ≤ pc ∧ pc < b) (h0 : ct ≠ 0) (hlink : Cond.classLink M.1.cls ct C ∈ jm_t P) (hcast : Cond.castable C C ∈ jm_t P)
    (hd : (∃ k : Fin 4, decode M.2.1 hp = .ok (.astore_n k, 1) ∧ (k : Nat) = n ∧ ln = 1) ∨ (decode M.2.1 hp = .ok (.astore n, 2) ∧ ln = 2)) (hn : n < M.2.2.1) (hf : ls.filter (fun q => !(q.1 == n) && !(q.1 + 1 == n && q.2.category == 2)) = ls')
    (k : ∀ v x', jm_V P M (d + 1) (pc + 3) ls (v.toList ++ rest) x' (f v x')) (kh : ∀ x', jm_V P M (d + 1) (hp + ln) ls' [] x' (h x')) : jm_V P M (d + 1) pc ls (av.reverse ++ rest) x (jm_bC r0 C f h) := by
  intro q hq p e s m args below meth c H locs la hC hl hP hS T hT X
  obtain ⟨hx, hb, hml, hret, hlocks, hown, hno, hG⟩ := id hC
  subst hT
  cases r0 with
  | none => cases hq
  | some q0 =>
    obtain ⟨ig, hdg, hgo⟩ := hinv
    obtain ⟨vm₁, mk, X₁, hnm, hstep⟩ := hgo p e (jm_room (d + 1)) s m args below meth c T locs 0 0 la hC hl.1 hP hS X
    have hz : jm_b P ≤ T.heap.size := Nat.le_trans hG.2.2.2.2.2.1 hS.1
    have hold : ∀ q, q < jm_b P → T.heap[q]? = s.heap[q]? := fun q h1 => hS.2.1 q (Nat.lt_of_lt_of_le h1 hG.2.2.2.2.2.1) (jm_A_old hok hG.2.2.2.2.2.1 h1)
    have hG1 : jm_G P (T.setVm vm₁) := hG.moved hok X₁.warmed hz hold
    have hcs : ((jm_st (jm_a P) rest).map fun v => v.category).sum ≤ 8 := by
      have : (jm_st (jm_a P) rest).map (fun v => v.category) = rest.map (fun v => v.category) := by
        simp only [jm_st, List.map_map]
        apply List.map_congr_left
        intro v _
        exact jm_cv_cat _ v
      rw [this]; exact hcat
    obtain ⟨o, s₂, hsteps, hend, hpost⟩ := jm_callee X₁ (hcon q0 rfl) (a := (jm_st (jm_a P) av).toArray) (maxL := y.2.2.1) (ig := ig) (len := 3) (g := F0 m pc la (jm_st (jm_a P) rest)) (fun w hw => by
        rw [List.mem_singleton.mp hw]; exact hG1.1 _ hy _) (fun mk2 hn2 => by
        obtain ⟨m', meth', c', hn', h1', h2', -, h4', -⟩ := jm_cw_spec (hG1.1 _ hy #[])
        cases hn2.symm.trans hn'
        exact ⟨meth', c', h1', h2', h4'⟩) (hG1.1 _ hini _) (Nat.le_refl _) (by show 8 + (y.2.2.1 + 11) + 40 * d ≤ 40 * (d + 1); omega) (Nat.le_refl _) (Nat.le_refl _) rfl (by show la.size = _; rw [hl.1]; exact hml.symm) (by rw [hb]; exact hdg)
        (by show 2 * 0 + ((jm_st (jm_a P) rest).map fun v => v.category).sum ≤ 8; omega) (X₁.named hnm) ⟨rfl, hG.moved hok (U := (T.setVm vm₁).calling (F0 m pc la (jm_st (jm_a P) rest)) mk (jm_st (jm_a P) av).toArray) X₁.warmed hz hold, hP⟩
    cases q0 with
    | inl z =>
      obtain ⟨v, x'⟩ := z
      obtain ⟨rfl, hP', L, hW', hsame, hL, hF⟩ := hpost
      obtain ⟨T', X', -, -, ht⟩ := X₁.outOf (g := F0 m pc la (jm_st (jm_a P) rest)) rfl (ig := ig) (len := 3) (by rw [hb]; exact hdg) hend hW' hsame
      have hth : T'.heap = s₂.heap := by rw [ht]; rfl
      have hS' := jm_S_call (P := P) hS (u := (T.setVm vm₁).calling (F0 m pc la (jm_st (jm_a P) rest)) mk (jm_st (jm_a P) av).toArray) rfl hF hL
      obtain ⟨t, a1, b1⟩ := k v x' q hq p e s m args below meth c T'.heap (locs ++ L) la hC hl (by rw [hth]; exact hP') (by rw [hth]; exact hS') T' rfl X'
      refine ⟨t, hstep t (hsteps.trans ?_), b1⟩
      rw [ht]
      have e1 : jm_st (jm_a P) (v.toList ++ rest) = (v.map (jm_cv (jm_a P))).toList ++ jm_st (jm_a P) rest := by cases v <;> simp [jm_st]
      rw [e1] at a1
      exact a1
    | inr z =>
      obtain ⟨ec, x'⟩ := z
      simp only [jm_bC] at hq
      by_cases hE : ec = C
      · subst hE
        rw [if_pos rfl] at hq
        obtain ⟨⟨za, rfl, cell, c1, c2, c3, c4⟩, hP', L, hW', hsame, hL, hF⟩ := hpost
        obtain ⟨T', X', hWT, -, ht⟩ := X₁.outOfThrown (g := F0 m pc la (jm_st (jm_a P) rest)) rfl hend hW' hsame
        have hth : T'.heap = s₂.heap := by rw [ht]; rfl
        have htv : T'.vm = s₂.vm := by rw [ht]; rfl
        have hS' := jm_S_call (P := P) hS (u := (T.setVm vm₁).calling (F0 m pc la (jm_st (jm_a P) rest)) mk (jm_st (jm_a P) av).toArray) rfl hF hL
        have X'' : Stand p (jm_l P) e (jm_room (d + 1)) s m args below meth c T' (locs ++ L) 0 0 := by
          have := X'
          rw [hec] at this
          exact this
        obtain ⟨t, a1, b1⟩ := jm_V.catch_ (st := jm_st (jm_a P) rest) hq rfl hC hl (by rw [hth]; exact hP') (by rw [hth]; exact hS') rfl X'' (by rw [hth]; exact c1) c2 (by rw [← X''.warmed.alike.findClass, htv]; exact c3) hh hcov h0 hlink hcast hd hn hf (kh x')
        exact ⟨t, hstep t (hsteps.trans (by rw [ht]; exact a1)), b1⟩
      · rw [if_neg hE] at hq
        cases hq
theorem jm_V.athrowC {o ci : Nat} {fs : List Nat} {qc : vw_C} {st : List Value} {r : Option jm_R} (hs : (jm_h P)[o]? = some (.inr (.inr (ci, fs)))) (hc : (jm_c P)[ci]? = some qc) (hda : decode M.2.1 pc = .ok (.athrow, 1))
    (hh : M.2.2.2.2 = [(a, b, hp, ct)]) (hcov : a ≤ pc ∧ pc < b) (h0 : ct ≠ 0) (hlink : Cond.classLink M.1.cls ct qc.1 ∈ jm_t P) (hcast : Cond.castable qc.1 qc.1 ∈ jm_t P)
    (hd : (∃ k : Fin 4, decode M.2.1 hp = .ok (.astore_n k, 1) ∧ (k : Nat) = n ∧ ln = 1) ∨ (decode M.2.1 hp = .ok (.astore n, 2) ∧ ln = 2)) (hn : n < M.2.2.1) (hf : ls.filter (fun q => !(q.1 == n) && !(q.1 + 1 == n && q.2.category == 2)) = ls')
    (kh : jm_V P M d (hp + ln) ls' [] x r) : jm_V P M d pc ls (.ref o :: st) x r := by
  intro q hq p e s m args below meth c H locs la hC hl hP hS T hT X
  obtain ⟨hx, hb, hml, hret, hlocks, hown, hno, hG⟩ := id hC
  obtain ⟨cell, c1, c2, c3, c4⟩ := jm_exc_of hG hP hs hc (t := T) hT X.warmed.alike
  obtain ⟨t, a1, b1⟩ := jm_V.catch_ (st := jm_st (jm_a P) st) (z := jm_a P o) hq rfl hC hl hP hS hT X (by rw [← hT]; exact c1) c2 (by rw [← X.warmed.alike.findClass]; exact c3) hh hcov h0 hlink hcast hd hn hf kh
  refine ⟨t, ?_, b1⟩
  have hda' : decode c.code pc = .ok (.athrow, 1) := by rw [hb]; exact hda
  show Steps p.tables e below (T.setTop (F0 m pc la (.ref (jm_a P o) :: jm_st (jm_a P) st))) t
  jvm_step X.here [hx, hda', athrow.wp_sem]
  exact a1
end JY

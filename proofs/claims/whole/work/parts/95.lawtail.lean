/-! THE CLAIM OUT OF ONE WALK OF THE LAW'S BODY. Your part is whole_start (and what it stands on); all else here is the same for every law, but numbers. -/
def R_law : String := "FilterReaderLaw"
def lw_P (b : Addr) (xs : List Int32) (args : Array Value) (s : State) : Prop := args = #[.ref b] ∧ s.IntsAt b xs ∧ xs.length ≤ 3072 ∧ (Jvm.Cond.and given_1 narrow_1).before args s = true
def lw_Q (_ : Array Value) (s : State) (o : Outcome) (t : State) : Prop := o = .returned (some (.int 1)) ∧ Framed s o t [] 601024 7293034
def lw_Z (below : List Frame) (a : Array Value) (s : State) : State → Prop := fun t => ∃ o, t.status = .running ∧ Ended t below o ∧ lw_Q a s o t
/-- the law's own end, with 1 on the stack, nothing written that was there before, its room as the claim has it -/
theorem lw_ret {p : Program} {l : Launch} {e : Env} {s : State} {m : MethodId} {below : List Frame} {meth : Method} {c : Code} {b : Nat} (hx : p.tables.exec = Jvm.exec) (hb : c.code = code) (hr : meth.sig.returnType = ret) (hlocks : meth.locks = false) {pc : Nat} {H : Heap} {ls : Array Slot} (hdg : decode code pc = .ok (.ireturn, 1)) : W p l e room_1 s m #[Value.ref b] below meth c H [] 601024 7293034 (lw_Z below #[Value.ref b] s) (F0 m pc ls [.int 1]) := by
  intro T hT X
  obtain ⟨fs, hret, hrun, hended, hW, hframe⟩ := X.leave (v := some (.int 1)) (hlocks := hlocks) (fun h => by rw [hr] at h; cases h)
  have hmeth' : T.vm.method? m = some meth := X.method'
  refine ⟨T.setFrames fs, ?_, .returned (some (.int 1)), hrun, hended, rfl, ⟨_, rfl⟩, hW, hframe⟩
  jvm_step X.here [X.here.top, hx, hb, hdg, hmeth', hr, ret, narrow_b1]
  (try refine ⟨rfl, ?_⟩); (try refine ⟨rfl, ?_⟩)
  first | (intro acts; rw [hret _ acts rfl rfl rfl]) | rw [hret _ _ rfl rfl rfl]
  exact Steps.refl _
/-- what holds at the law's entry: the machine, the code, the tables' words (any of lw_tbl by 'hts w (by decide +kernel)'), the script of L ints xs at the cell b, what the Statement gives of the start (any of its parts by flat_of_before) -/
def lw_At (p : Program) (s : State) (m : MethodId) (meth : Method) (c : Code) (b L : Nat) (xs : Nat → Int32) : Prop :=
  p.tables.exec = Jvm.exec ∧ c.code = code ∧ meth.sig.returnType = ret ∧ c.maxLocals = 7 ∧ s.vm.findClass R_law = some m.cls ∧ (∀ w ∈ lw_tbl, w.before #[Value.ref b] s = true) ∧ va_X b L xs s s.heap ∧ b < s.heap.size ∧ meth.locks = false ∧ (Jvm.Cond.and given_1 narrow_1).before #[Value.ref b] s = true

/-! THE LAW, 5: its loop. -/
theorem lg_cmp_self (v : Int64) : lg_cmp v v = 0 := by simp [lg_cmp]
section LW2
variable {p : Program} {e : Env} {l : Launch} {s : State} {m : MethodId} {below : List Frame} {meth : Method} {c : Code}
variable {D DR : va_G} {adC adR : Nat → Nat} {aC aR : Nat → ClassId} {cA : ClassId}
theorem lw_CC (fx : LwFX l s D DR adC adR aC aR cA) {b L : Nat} {xs : Nat → Int32} (C0 : lw_At p s m meth c b L xs) : jm_C (PCx l s D adC aC) (mt_law c) p s m meth c := by
  obtain ⟨hx, hb, hr, hml, hown, hts, hX, hbl, hlocks, hgv⟩ := C0
  exact ⟨hx, hb, hml, hr, hlocks, hown, rfl, fx.gC⟩
theorem lw_CR (fx : LwFX l s D DR adC adR aC aR cA) {b L : Nat} {xs : Nat → Int32} (C0 : lw_At p s m meth c b L xs) : jm_C (PRx l s DR adR aR) (mt_law c) p s m meth c := by
  obtain ⟨hx, hb, hr, hml, hown, hts, hX, hbl, hlocks, hgv⟩ := C0
  exact ⟨hx, hb, hml, hr, hlocks, hown, rfl, fx.gR⟩
set_option maxRecDepth 100000 in
/-- behind the reference's call: thrown and the answers are compared -/
theorem law_tail (fx : LwFX l s D DR adC adR aC aR cA) {b0 L : Nat} {xs : Nat → Int32} (C0 : lw_At p s m meth c b0 L xs) {B : Nat} {H : Heap} {locs : List Loc} {cells slots : Nat} {Q : State → Prop} {f : Nat → Int64} {xC yR : jm_X} {b r x4 : Int32} {la : Array Slot} {off : Int} (hI : LwI l s D DR adC adR aC aR cA H locs f xC yR) (hr5 : yR.1 5 = r) (hf : r = 0 → f 0 = b.toInt64) (hce : cells ≤ 600000) (hsl : slots ≤ 7200000)
    (hl : lv_has la 7 [(5, .int r), (4, .int x4), (3, .ref (adC 700)), (2, .ref (adR 0)), (1, .ref (adC 0)), (0, .ref b0)])
    (d0 : decode code B = .ok (.istore 6, 2)) (d2 : decode code (B + 2) = .ok (.aload_n 2, 1)) (d3 : decode code (B + 3) = .ok (.invokevirtual 40, 3)) (d6 : decode code (B + 6) = .ok (.iload 5, 2)) (d8 : decode code (B + 8) = .ok (.if_icmp .eq 5, 3)) (d13 : decode code (B + 13) = .ok (.iload 5, 2)) (d15 : decode code (B + 15) = .ok (.ifCond .ne 15, 3))
    (d18 : decode code (B + 18) = .ok (.aload_n 3, 1)) (d19 : decode code (B + 19) = .ok (.iconst 0, 1)) (d20 : decode code (B + 20) = .ok (.laload, 1)) (d21 : decode code (B + 21) = .ok (.iload 6, 2)) (d23 : decode code (B + 23) = .ok (.i2l, 1)) (d24 : decode code (B + 24) = .ok (.lcmp, 1)) (d25 : decode code (B + 25) = .ok (.ifCond .eq 5, 3)) (d30 : decode code (B + 30) = .ok (.goto off, 3)) (hoff : ((B + 30 : Nat) : Int) + off = ((366 : Nat) : Int))
    (k : ∀ (H1 : Heap) (locs1 : List Loc) (la' : Array Slot), LwI l s D DR adC adR aC aR cA H1 locs1 f xC yR → lv_has la' 7 [(4, .int x4), (3, .ref (adC 700)), (2, .ref (adR 0)), (1, .ref (adC 0)), (0, .ref b0)] → W p l e room_1 s m #[Value.ref b0] below meth c H1 locs1 cells slots Q (F0 m 366 la' [])) :
    W p l e room_1 s m #[Value.ref b0] below meth c H locs cells slots Q (F0 m B la [.int b]) := by
  obtain ⟨hx, hb, hr, hml, hown, hts, hX, hbl, hlocks, hgv⟩ := id C0
  refine lv_istore (lv' := [(6, .int b), (5, .int r), (4, .int x4), (3, .ref (adC 700)), (2, .ref (adR 0)), (1, .ref (adC 0)), (0, .ref b0)]) hx hb d0 hl (by decide) rfl (fun la hl => ?_)
  refine lv_aload_n hx hb d2 rfl (lv_at hl 4 rfl) ?_
  have hcon : jm_Con (PRx l s DR adR aR) mt_M_thrown 1 [.ref 0] yR (rI r yR) := by
    have := c_M_thrown (d0 := 0) (K := 20000) (g := gR 20000 0) fx.okR (gR_ok 20000 fx.okR 0) yR
    simp only [f_M_thrown] at this
    rw [hr5] at this
    exact this
  refine lw_R (av := [.ref 0]) (rest := []) fx (lw_CR fx C0) hcon (jm_Inv.obj (o := 0) (ci := 0) (q := ("FilterReaderModel", T_M, 22)) d3 (Or.inl mk_LM_thrown) mn_M_thrown ms_M_thrown mw_M_thrown mh_M_thrown ml_M_thrown rfl rfl) mw_M_thrown mi_M (by decide) (by decide) (by decide) hce hsl hl.1 hI (fun H locs hI => ?_)
  have b366 : ∀ (H1 : Heap) (locs1 : List Loc), LwI l s D DR adC adR aC aR cA H1 locs1 f xC yR → W p l e room_1 s m #[Value.ref b0] below meth c H1 locs1 cells slots Q (F0 m (B + 30) la []) := fun H1 locs1 hI1 => lv_goto (tgt := 366) hx hb d30 hoff (k H1 locs1 la hI1 (lv_sub hl [2, 3, 4, 5, 6] rfl))
  refine lv_iload hx hb d6 (lv_at hl 1 rfl) ?_
  refine lv_icmp_eq (tgt := B + 13) hx hb d8 (by omega) (fun _ => ?_) (fun hz => absurd rfl hz)
  refine lv_iload hx hb d13 (lv_at hl 1 rfl) ?_
  refine lv_if_ne (tgt := B + 30) hx hb d15 (by omega) (fun _ => b366 H locs hI) (fun hz => ?_)
  refine lv_aload_n hx hb d18 rfl (lv_at hl 3 rfl) ?_
  refine lv_iconst (v := 0) hx hb d19 (by decide) ?_
  refine va_lald (D := D) (cl := clC) (ws := [(adC 700, .inl (cA, 1, .inr (.inl f)))]) (tys := [(cA, .long)]) hx hb ⟨fx.gC.2.2.2.1.1, fun k q hk => by
      match k, hk with
      | 0, hk => cases hk; exact fx.lng
      | k + 1, hk => simp at hk⟩ (fun k q hk => by
      match k, hk with
      | 0, hk => cases hk; exact hI.2.2.1
      | k + 1, hk => simp at hk) 0 0 rfl rfl (show ¬ ((0 : Int32) < 0 ∨ 1 ≤ Int32.toNatClampNeg 0) by decide) d20 ?_
  refine lv_iload hx hb d21 (lv_at hl 0 rfl) ?_
  refine lv_i2l (v := b.toInt64) hx hb d23 rfl ?_
  refine W.lcmp hx hb d24 ?_
  refine lv_if_eq (tgt := B + 30) hx hb d25 (by omega) (fun _ => b366 H locs hI) (fun hne => absurd ?_ hne)
  rw [show f (Int32.toNatClampNeg 0) = b.toInt64 from hf hz]
  exact lg_cmp_self _
theorem law_end (fx : LwFX l s D DR adC adR aC aR cA) {b L : Nat} {xs : Nat → Int32} (C0 : lw_At p s m meth c b L xs) {H : Heap} {locs : List Loc} {cells slots : Nat} (hS : va_S (fun q => s.heap.size ≤ q) s.heap H locs) (hce : cells ≤ 600000) (hsl : slots ≤ 7200000) {la : Array Slot} : W p l e room_1 s m #[Value.ref b] below meth c H locs cells slots (lw_Z below #[Value.ref b] s) (F0 m 372 la []) := by
  obtain ⟨hx, hb, hr, hml, hown, hts, hX, hbl, hlocks, hgv⟩ := id C0
  refine va_forget hS.2.2 ?_
  refine W.widen (k := 601024) (n := 7293034) (by omega) (by omega) ?_
  refine lv_iconst (v := 1) hx hb (show decode code 372 = .ok (.iconst 1, 1) by decide +kernel) (by decide) ?_
  exact lw_ret hx hb hr hlocks (show decode code 373 = .ok (.ireturn, 1) by decide +kernel)
end LW2

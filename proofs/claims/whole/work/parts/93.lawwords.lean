/-! THE LAW, 3: the words of the law; its helpers' contracts. -/
theorem mi_L : Cond.initialized "FilterReaderLaw" ∈ Tall := tw1 0 rfl rfl
abbrev mt_L_feed : jm_M := (⟨"FilterReaderLaw", "feed", "(LFilterReader;IIIII[J)I"⟩, method_3_code, 8, (some .int), [(0, 16, 19, 13)])
theorem mw_L_feed : jm_cw mt_L_feed ∈ Tall := tw1 130 rfl rfl
theorem mh_L_feed : mt_L_feed.1.cls ≠ "java/lang/invoke/MethodHandle" ∧ mt_L_feed.1.cls ≠ "java/lang/invoke/VarHandle" := by decide +kernel
theorem ml_L_feed : (parseMethodDescriptor mt_L_feed.1.desc).map (fun q => q.parameters.length) = some 7 := by decide +kernel
theorem mq_L_feed : Cond.static mt_L_feed.1 ∈ Tall := tw1 129 rfl rfl
theorem mk_L_feed : Cond.methodLink "FilterReaderLaw" 34 mt_L_feed.1 ∈ Tall := tw1 128 rfl rfl
theorem mk_LF_feed : Cond.methodLink "FilterReaderLaw" 7 mt_FR_feed.1 ∈ Tall := tw1 132 rfl rfl
theorem mc_L_feed : Cond.classLink "FilterReaderLaw" 13 "java/lang/IndexOutOfBoundsException" ∈ Tall := tw1 131 rfl rfl
theorem mx_L_feed : Cond.castable "java/lang/IndexOutOfBoundsException" "java/lang/IndexOutOfBoundsException" ∈ Tall := tw1 138 rfl rfl
abbrev mt_L_end : jm_M := (⟨"FilterReaderLaw", "end", "(LFilterReader;I[J)I"⟩, method_4_code, 4, (some .int), [(0, 9, 12, 19)])
theorem mw_L_end : jm_cw mt_L_end ∈ Tall := tw1 206 rfl rfl
theorem mh_L_end : mt_L_end.1.cls ≠ "java/lang/invoke/MethodHandle" ∧ mt_L_end.1.cls ≠ "java/lang/invoke/VarHandle" := by decide +kernel
theorem ml_L_end : (parseMethodDescriptor mt_L_end.1.desc).map (fun q => q.parameters.length) = some 3 := by decide +kernel
theorem mq_L_end : Cond.static mt_L_end.1 ∈ Tall := tw1 205 rfl rfl
theorem mk_L_end : Cond.methodLink "FilterReaderLaw" 43 mt_L_end.1 ∈ Tall := tw1 204 rfl rfl
theorem mk_LF_end : Cond.methodLink "FilterReaderLaw" 15 mt_FR_end.1 ∈ Tall := tw1 208 rfl rfl
theorem mc_L_end : Cond.classLink "FilterReaderLaw" 19 "java/lang/IllegalArgumentException" ∈ Tall := tw1 207 rfl rfl
theorem mx_L_end : Cond.castable "java/lang/IllegalArgumentException" "java/lang/IllegalArgumentException" ∈ Tall := tw1 214 rfl rfl
abbrev mt_L_read : jm_M := (⟨"FilterReaderLaw", "read", "(LFilterReader;[J)I"⟩, method_5_code, 3, (some .int), [(0, 8, 11, 25)])
theorem mw_L_read : jm_cw mt_L_read ∈ Tall := tw1 229 rfl rfl
theorem mh_L_read : mt_L_read.1.cls ≠ "java/lang/invoke/MethodHandle" ∧ mt_L_read.1.cls ≠ "java/lang/invoke/VarHandle" := by decide +kernel
theorem ml_L_read : (parseMethodDescriptor mt_L_read.1.desc).map (fun q => q.parameters.length) = some 2 := by decide +kernel
theorem mq_L_read : Cond.static mt_L_read.1 ∈ Tall := tw1 228 rfl rfl
theorem mk_L_read : Cond.methodLink "FilterReaderLaw" 47 mt_L_read.1 ∈ Tall := tw1 227 rfl rfl
theorem mk_LF_read : Cond.methodLink "FilterReaderLaw" 21 mt_FR_read.1 ∈ Tall := tw1 231 rfl rfl
theorem mc_L_read : Cond.classLink "FilterReaderLaw" 25 "java/lang/UnsupportedOperationException" ∈ Tall := tw1 230 rfl rfl
theorem mx_L_read : Cond.castable "java/lang/UnsupportedOperationException" "java/lang/UnsupportedOperationException" ∈ Tall := tw2 174 rfl rfl
abbrev mt_L_many : jm_M := (⟨"FilterReaderLaw", "many", "(LFilterReader;I[J)I"⟩, method_6_code, 4, (some .int), [(0, 9, 12, 19)])
theorem mw_L_many : jm_cw mt_L_many ∈ Tall := tw3 205 rfl rfl
theorem mh_L_many : mt_L_many.1.cls ≠ "java/lang/invoke/MethodHandle" ∧ mt_L_many.1.cls ≠ "java/lang/invoke/VarHandle" := by decide +kernel
theorem ml_L_many : (parseMethodDescriptor mt_L_many.1.desc).map (fun q => q.parameters.length) = some 3 := by decide +kernel
theorem mq_L_many : Cond.static mt_L_many.1 ∈ Tall := tw3 204 rfl rfl
theorem mk_L_many : Cond.methodLink "FilterReaderLaw" 51 mt_L_many.1 ∈ Tall := tw3 203 rfl rfl
theorem mk_LF_many : Cond.methodLink "FilterReaderLaw" 27 mt_FR_many.1 ∈ Tall := tw3 206 rfl rfl
theorem mc_L_many : Cond.classLink "FilterReaderLaw" 19 "java/lang/IllegalArgumentException" ∈ Tall := tw1 207 rfl rfl
theorem mx_L_many : Cond.castable "java/lang/IllegalArgumentException" "java/lang/IllegalArgumentException" ∈ Tall := tw1 214 rfl rfl
theorem mk_LM_feed : Cond.methodLink "FilterReaderLaw" 39 mt_M_feed.1 ∈ Tall := tw4 90 rfl rfl
theorem mk_LM_end : Cond.methodLink "FilterReaderLaw" 46 mt_M_end.1 ∈ Tall := tw4 102 rfl rfl
theorem mk_LM_read : Cond.methodLink "FilterReaderLaw" 50 mt_M_read.1 ∈ Tall := tw4 118 rfl rfl
theorem mk_LM_many : Cond.methodLink "FilterReaderLaw" 53 mt_M_many.1 ∈ Tall := tw4 106 rfl rfl
theorem mk_LM_place : Cond.methodLink "FilterReaderLaw" 57 mt_M_place.1 ∈ Tall := tw4 110 rfl rfl
theorem mk_LM_taped : Cond.methodLink "FilterReaderLaw" 61 mt_M_taped.1 ∈ Tall := tw4 114 rfl rfl
theorem mk_LM_thrown : Cond.methodLink "FilterReaderLaw" 40 mt_M_thrown.1 ∈ Tall := tw4 86 rfl rfl
theorem mk_LF_place : Cond.methodLink "FilterReaderLaw" 54 mt_FR_place.1 ∈ Tall := tw1 116 rfl rfl
theorem mk_LF_taped : Cond.methodLink "FilterReaderLaw" 58 mt_FR_taped.1 ∈ Tall := tw1 124 rfl rfl

theorem hl_con {P : jm_P} {M : jm_M} {d : Nat} {av : List Value} {x : jm_X} {cA : ClassId} {q0 : jm_R} (hy : plainFor M.1 = true) (hn : (lg_sl (jm_st (jm_a P) av)).length ≤ M.2.2.1)
    (h : ∀ (p : Program) (e : Env) (s : State) (m : MethodId) (args : Array Value) (below : List Frame) (meth : Method) (c : Code) (la : Array Slot) (f : Nat → Int64), jm_C P M p s m meth c → lv_has la M.2.2.1 (jm_cl (jm_a P) (lv_args 0 av)) → va_P (jm_d P) (jm_c P) (jm_w P x) s.heap → hl_out P cA f s.heap → (ArrOfT s cA .long ∧ va_RA s cA .long) → jm_a P 700 < s.heap.size → va_S (jm_AA P s) s.heap s.heap [] →
      W p (jm_l P) e (jm_room (d + 1)) s m args below meth c s.heap [] 0 0 (hl_Q P cA below q0 s) (F0 m 0 la [])) :
    MetFree (jm_l P) M.1 (headSpec [jm_cw M] (jm_room (d + 1))) (hl_Pre P cA av x) (fun _ _ _ _ _ => True) (fun _ s o t => hl_post P cA q0 s o t) := by
  refine MetFree.of_bodySF (code := M.2.1) (maxLocals := M.2.2.1) (ret := M.2.2.2.1) hy ?_ ?_
  · intro args s m h hn
    obtain ⟨m', meth, c, hn', h1, h2, h3, h4, h5, h6, -, -⟩ := jm_cw_spec (atoms_spec (ws := [jm_cw M]) h _ List.mem_cons_self)
    cases hn.symm.trans hn'
    exact ⟨meth, c, h1, h2, h3, h4, h5, h6⟩
  · intro p e s m args below meth c s₁ B hml hP _
    obtain ⟨rfl, hG, hPw, ⟨f, hO⟩, hT⟩ := hP
    have hh0 : s₁.heap = s.heap := by rw [B.state]; rfl
    have hno : jm_tab c = M.2.2.2.2 := by
      obtain ⟨m', meth', c', hn', h1', h2', -, -, -, -, h7', -⟩ := jm_cw_spec (atoms_spec (ws := [jm_cw M]) B.pre _ List.mem_cons_self)
      cases B.named.symm.trans hn'
      cases B.method.symm.trans h1'
      cases (Stand.of_body B).code.symm.trans h2'
      exact h7'
    have hl := lv_entry (jm_st (jm_a P) av) hn
    rw [← jm_args_cl] at hl
    have W0 := h p e s m (jm_st (jm_a P) av).toArray below meth c _ f ⟨B.exec, B.bytes, hml, B.returns, B.notSynchronized, findClass_of_methodNamed B.named, hno, hG⟩ hl hPw hO hT (Array.getElem?_eq_some_iff.mp hO).1 va_S.rf
    obtain ⟨t, a1, o, b1, b2, b3⟩ := W0 s₁ hh0 (Stand.of_body B)
    rw [lg_entry_eq]
    exact ⟨t, o, a1, b1, b2, b3⟩

set_option maxRecDepth 100000 in
theorem h_feed {l : Launch} {D : va_G} {ad : Nat → Nat} {aC : Nat → ClassId} {b0 : Nat} {K : Nat} (hok : jm_Ok (jm_PP l D clC ad aC shC b0 1)) (hne : ∀ k, k < jm_n (jm_PP l D clC ad aC shC b0 1) → ad k ≠ ad 700) (a1 a2 a3 a4 a5 : Int32) (x : jm_X) {q0 : jm_R} (hq : f_FR_feed K (gC K 0) a1 a2 a3 a4 a5 x = some q0) (hqk : hl_ok "java/lang/IndexOutOfBoundsException" q0) (cA : ClassId) :
    MetFree l mt_L_feed.1 (headSpec [jm_cw mt_L_feed] (jm_room 8)) (hl_Pre (jm_PP l D clC ad aC shC b0 1) cA [.ref 0, .int a1, .int a2, .int a3, .int a4, .int a5, .ref 700] x) (fun _ _ _ _ _ => True) (fun _ s o t => hl_post (jm_PP l D clC ad aC shC b0 1) cA q0 s o t) := by
  have hcon : jm_Con (jm_PP l D clC ad aC shC b0 1) mt_FR_feed 7 [.ref 0, .int a1, .int a2, .int a3, .int a4, .int a5] x (some q0) := by rw [← hq]; exact c_FR_feed (d0 := 0) hok (gC_ok K hok 0) a1 a2 a3 a4 a5 x
  refine hl_con (P := jm_PP l D clC ad aC shC b0 1) (M := mt_L_feed) (plainFor_of_name (by decide +kernel)) (Nat.le_of_ble_eq_true rfl) ?_
  intro p e s m args below meth c la f hC hl0 hP hO hT ho hS
  obtain ⟨hx, hb, hml, hret, hlocks, hown, hno, hG⟩ := id hC
  have hl : lv_has la 8 [(0, .ref (ad 0)), (1, .int a1), (2, .int a2), (3, .int a3), (4, .int a4), (5, .int a5), (6, .ref (ad 700))] := hl0
  refine lv_aload hx hb (show decode method_3_code 0 = .ok (.aload 6, 2) by decide +kernel) (lv_at hl 6 rfl) ?_
  refine lv_iconst (v := 0) hx hb (show decode method_3_code 2 = .ok (.iconst 0, 1) by decide +kernel) (by decide) ?_
  refine lv_aload_n hx hb (show decode method_3_code 3 = .ok (.aload_n 0, 1) by decide +kernel) rfl (lv_at hl 0 rfl) ?_
  refine lv_iload_n hx hb (show decode method_3_code 4 = .ok (.iload_n 1, 1) by decide +kernel) rfl (lv_at hl 1 rfl) ?_
  refine lv_iload_n hx hb (show decode method_3_code 5 = .ok (.iload_n 2, 1) by decide +kernel) rfl (lv_at hl 2 rfl) ?_
  refine lv_iload_n hx hb (show decode method_3_code 6 = .ok (.iload_n 3, 1) by decide +kernel) rfl (lv_at hl 3 rfl) ?_
  refine lv_iload hx hb (show decode method_3_code 7 = .ok (.iload 4, 2) by decide +kernel) (lv_at hl 4 rfl) ?_
  refine lv_iload hx hb (show decode method_3_code 9 = .ok (.iload 5, 2) by decide +kernel) (lv_at hl 5 rfl) ?_
  exact hl_tail (P := jm_PP l D clC ad aC shC b0 1) (M := mt_L_feed) (y := mt_FR_feed) (C := "java/lang/IndexOutOfBoundsException") (d := 7) (pc := 11) (a := 0) (ct := 13) (n := 7) (ln := 2) (av := [.ref 0, .int a1, .int a2, .int a3, .int a4, .int a5]) (x := x) hok rfl hne hqk hcon
    (jm_Inv.obj (o := 0) (ci := 0) (q := ("FilterReader", T_FR, 3)) (idx := 7) (show decode method_3_code 11 = .ok (.invokevirtual 7, 3) by decide +kernel) (Or.inl mk_LF_feed) mn_FR_feed ms_FR_feed mw_FR_feed mh_FR_feed ml_FR_feed rfl rfl)
    mw_FR_feed mi_FR rfl (by decide) hC rfl hl0 hP hO hT hS ho
    (show decode method_3_code 14 = .ok (.i2l, 1) by decide +kernel) (show decode method_3_code 15 = .ok (.lastore, 1) by decide +kernel) (Or.inl (show decode method_3_code 16 = .ok (.goto (7 : Int), 3) by decide +kernel)) (Or.inl ⟨(show decode method_3_code 16 = .ok (.goto (7 : Int), 3) by decide +kernel), rfl⟩)
    rfl (by decide) (by decide) mc_L_feed mx_L_feed (Or.inr ⟨(show decode method_3_code 19 = .ok (.astore 7, 2) by decide +kernel), rfl⟩) (by decide)
    (show decode method_3_code 21 = .ok (.iconst 1, 1) by decide +kernel) (show decode method_3_code 22 = .ok (.ireturn, 1) by decide +kernel) (show decode method_3_code 23 = .ok (.iconst 0, 1) by decide +kernel) (show decode method_3_code 24 = .ok (.ireturn, 1) by decide +kernel)

set_option maxRecDepth 100000 in
theorem h_end {l : Launch} {D : va_G} {ad : Nat → Nat} {aC : Nat → ClassId} {b0 : Nat} {K : Nat} (hok : jm_Ok (jm_PP l D clC ad aC shC b0 1)) (hne : ∀ k, k < jm_n (jm_PP l D clC ad aC shC b0 1) → ad k ≠ ad 700) (a1 : Int32) (x : jm_X) {q0 : jm_R} (hq : f_FR_end K (gC K 0) a1 x = some q0) (hqk : hl_ok "java/lang/IllegalArgumentException" q0) (cA : ClassId) :
    MetFree l mt_L_end.1 (headSpec [jm_cw mt_L_end] (jm_room 8)) (hl_Pre (jm_PP l D clC ad aC shC b0 1) cA [.ref 0, .int a1, .ref 700] x) (fun _ _ _ _ _ => True) (fun _ s o t => hl_post (jm_PP l D clC ad aC shC b0 1) cA q0 s o t) := by
  have hcon : jm_Con (jm_PP l D clC ad aC shC b0 1) mt_FR_end 7 [.ref 0, .int a1] x (some q0) := by rw [← hq]; exact c_FR_end (d0 := 0) hok (gC_ok K hok 0) a1 x
  refine hl_con (P := jm_PP l D clC ad aC shC b0 1) (M := mt_L_end) (plainFor_of_name (by decide +kernel)) (Nat.le_of_ble_eq_true rfl) ?_
  intro p e s m args below meth c la f hC hl0 hP hO hT ho hS
  obtain ⟨hx, hb, hml, hret, hlocks, hown, hno, hG⟩ := id hC
  have hl : lv_has la 4 [(0, .ref (ad 0)), (1, .int a1), (2, .ref (ad 700))] := hl0
  refine lv_aload_n hx hb (show decode method_4_code 0 = .ok (.aload_n 2, 1) by decide +kernel) rfl (lv_at hl 2 rfl) ?_
  refine lv_iconst (v := 0) hx hb (show decode method_4_code 1 = .ok (.iconst 0, 1) by decide +kernel) (by decide) ?_
  refine lv_aload_n hx hb (show decode method_4_code 2 = .ok (.aload_n 0, 1) by decide +kernel) rfl (lv_at hl 0 rfl) ?_
  refine lv_iload_n hx hb (show decode method_4_code 3 = .ok (.iload_n 1, 1) by decide +kernel) rfl (lv_at hl 1 rfl) ?_
  exact hl_tail (P := jm_PP l D clC ad aC shC b0 1) (M := mt_L_end) (y := mt_FR_end) (C := "java/lang/IllegalArgumentException") (d := 7) (pc := 4) (a := 0) (ct := 19) (n := 3) (ln := 1) (av := [.ref 0, .int a1]) (x := x) hok rfl hne hqk hcon
    (jm_Inv.obj (o := 0) (ci := 0) (q := ("FilterReader", T_FR, 3)) (idx := 15) (show decode method_4_code 4 = .ok (.invokevirtual 15, 3) by decide +kernel) (Or.inl mk_LF_end) mn_FR_end ms_FR_end mw_FR_end mh_FR_end ml_FR_end rfl rfl)
    mw_FR_end mi_FR rfl (by decide) hC rfl hl0 hP hO hT hS ho
    (show decode method_4_code 7 = .ok (.i2l, 1) by decide +kernel) (show decode method_4_code 8 = .ok (.lastore, 1) by decide +kernel) (Or.inr (show decode method_4_code 9 = .ok (.goto (6 : Int), 3) by decide +kernel)) (Or.inr ⟨(show decode method_4_code 9 = .ok (.goto (6 : Int), 3) by decide +kernel), rfl⟩)
    rfl (by decide) (by decide) mc_L_end mx_L_end (Or.inl ⟨3, (show decode method_4_code 12 = .ok (.astore_n 3, 1) by decide +kernel), rfl, rfl⟩) (by decide)
    (show decode method_4_code 13 = .ok (.iconst 1, 1) by decide +kernel) (show decode method_4_code 14 = .ok (.ireturn, 1) by decide +kernel) (show decode method_4_code 15 = .ok (.iconst 0, 1) by decide +kernel) (show decode method_4_code 16 = .ok (.ireturn, 1) by decide +kernel)

set_option maxRecDepth 100000 in
theorem h_read {l : Launch} {D : va_G} {ad : Nat → Nat} {aC : Nat → ClassId} {b0 : Nat} {K : Nat} (hok : jm_Ok (jm_PP l D clC ad aC shC b0 1)) (hne : ∀ k, k < jm_n (jm_PP l D clC ad aC shC b0 1) → ad k ≠ ad 700) (x : jm_X) {q0 : jm_R} (hq : f_FR_read K (gC K 61) x = some q0) (hqk : hl_ok "java/lang/UnsupportedOperationException" q0) (cA : ClassId) :
    MetFree l mt_L_read.1 (headSpec [jm_cw mt_L_read] (jm_room 933)) (hl_Pre (jm_PP l D clC ad aC shC b0 1) cA [.ref 0, .ref 700] x) (fun _ _ _ _ _ => True) (fun _ s o t => hl_post (jm_PP l D clC ad aC shC b0 1) cA q0 s o t) := by
  have hcon : jm_Con (jm_PP l D clC ad aC shC b0 1) mt_FR_read 932 [.ref 0] x (some q0) := by rw [← hq]; exact cC_read K hok x
  refine hl_con (P := jm_PP l D clC ad aC shC b0 1) (M := mt_L_read) (plainFor_of_name (by decide +kernel)) (Nat.le_of_ble_eq_true rfl) ?_
  intro p e s m args below meth c la f hC hl0 hP hO hT ho hS
  obtain ⟨hx, hb, hml, hret, hlocks, hown, hno, hG⟩ := id hC
  have hl : lv_has la 3 [(0, .ref (ad 0)), (1, .ref (ad 700))] := hl0
  refine lv_aload_n hx hb (show decode method_5_code 0 = .ok (.aload_n 1, 1) by decide +kernel) rfl (lv_at hl 1 rfl) ?_
  refine lv_iconst (v := 0) hx hb (show decode method_5_code 1 = .ok (.iconst 0, 1) by decide +kernel) (by decide) ?_
  refine lv_aload_n hx hb (show decode method_5_code 2 = .ok (.aload_n 0, 1) by decide +kernel) rfl (lv_at hl 0 rfl) ?_
  exact hl_tail (P := jm_PP l D clC ad aC shC b0 1) (M := mt_L_read) (y := mt_FR_read) (C := "java/lang/UnsupportedOperationException") (d := 932) (pc := 3) (a := 0) (ct := 25) (n := 2) (ln := 1) (av := [.ref 0]) (x := x) hok rfl hne hqk hcon
    (jm_Inv.obj (o := 0) (ci := 0) (q := ("FilterReader", T_FR, 3)) (idx := 21) (show decode method_5_code 3 = .ok (.invokevirtual 21, 3) by decide +kernel) (Or.inl mk_LF_read) mn_FR_read ms_FR_read mw_FR_read mh_FR_read ml_FR_read rfl rfl)
    mw_FR_read mi_FR rfl (by decide) hC rfl hl0 hP hO hT hS ho
    (show decode method_5_code 6 = .ok (.i2l, 1) by decide +kernel) (show decode method_5_code 7 = .ok (.lastore, 1) by decide +kernel) (Or.inr (show decode method_5_code 8 = .ok (.goto (6 : Int), 3) by decide +kernel)) (Or.inr ⟨(show decode method_5_code 8 = .ok (.goto (6 : Int), 3) by decide +kernel), rfl⟩)
    rfl (by decide) (by decide) mc_L_read mx_L_read (Or.inl ⟨2, (show decode method_5_code 11 = .ok (.astore_n 2, 1) by decide +kernel), rfl, rfl⟩) (by decide)
    (show decode method_5_code 12 = .ok (.iconst 1, 1) by decide +kernel) (show decode method_5_code 13 = .ok (.ireturn, 1) by decide +kernel) (show decode method_5_code 14 = .ok (.iconst 0, 1) by decide +kernel) (show decode method_5_code 15 = .ok (.ireturn, 1) by decide +kernel)

set_option maxRecDepth 100000 in
theorem h_many {l : Launch} {D : va_G} {ad : Nat → Nat} {aC : Nat → ClassId} {b0 : Nat} {K : Nat} (hok : jm_Ok (jm_PP l D clC ad aC shC b0 1)) (hne : ∀ k, k < jm_n (jm_PP l D clC ad aC shC b0 1) → ad k ≠ ad 700) (a1 : Int32) (x : jm_X) {q0 : jm_R} (hq : f_FR_many K (gC K 0) a1 x = some q0) (hqk : hl_ok "java/lang/IllegalArgumentException" q0) (cA : ClassId) :
    MetFree l mt_L_many.1 (headSpec [jm_cw mt_L_many] (jm_room 8)) (hl_Pre (jm_PP l D clC ad aC shC b0 1) cA [.ref 0, .int a1, .ref 700] x) (fun _ _ _ _ _ => True) (fun _ s o t => hl_post (jm_PP l D clC ad aC shC b0 1) cA q0 s o t) := by
  have hcon : jm_Con (jm_PP l D clC ad aC shC b0 1) mt_FR_many 7 [.ref 0, .int a1] x (some q0) := by rw [← hq]; exact c_FR_many (d0 := 0) hok (gC_ok K hok 0) a1 x
  refine hl_con (P := jm_PP l D clC ad aC shC b0 1) (M := mt_L_many) (plainFor_of_name (by decide +kernel)) (Nat.le_of_ble_eq_true rfl) ?_
  intro p e s m args below meth c la f hC hl0 hP hO hT ho hS
  obtain ⟨hx, hb, hml, hret, hlocks, hown, hno, hG⟩ := id hC
  have hl : lv_has la 4 [(0, .ref (ad 0)), (1, .int a1), (2, .ref (ad 700))] := hl0
  refine lv_aload_n hx hb (show decode method_6_code 0 = .ok (.aload_n 2, 1) by decide +kernel) rfl (lv_at hl 2 rfl) ?_
  refine lv_iconst (v := 0) hx hb (show decode method_6_code 1 = .ok (.iconst 0, 1) by decide +kernel) (by decide) ?_
  refine lv_aload_n hx hb (show decode method_6_code 2 = .ok (.aload_n 0, 1) by decide +kernel) rfl (lv_at hl 0 rfl) ?_
  refine lv_iload_n hx hb (show decode method_6_code 3 = .ok (.iload_n 1, 1) by decide +kernel) rfl (lv_at hl 1 rfl) ?_
  exact hl_tail (P := jm_PP l D clC ad aC shC b0 1) (M := mt_L_many) (y := mt_FR_many) (C := "java/lang/IllegalArgumentException") (d := 7) (pc := 4) (a := 0) (ct := 19) (n := 3) (ln := 1) (av := [.ref 0, .int a1]) (x := x) hok rfl hne hqk hcon
    (jm_Inv.obj (o := 0) (ci := 0) (q := ("FilterReader", T_FR, 3)) (idx := 27) (show decode method_6_code 4 = .ok (.invokevirtual 27, 3) by decide +kernel) (Or.inl mk_LF_many) mn_FR_many ms_FR_many mw_FR_many mh_FR_many ml_FR_many rfl rfl)
    mw_FR_many mi_FR rfl (by decide) hC rfl hl0 hP hO hT hS ho
    (show decode method_6_code 7 = .ok (.i2l, 1) by decide +kernel) (show decode method_6_code 8 = .ok (.lastore, 1) by decide +kernel) (Or.inr (show decode method_6_code 9 = .ok (.goto (6 : Int), 3) by decide +kernel)) (Or.inr ⟨(show decode method_6_code 9 = .ok (.goto (6 : Int), 3) by decide +kernel), rfl⟩)
    rfl (by decide) (by decide) mc_L_many mx_L_many (Or.inl ⟨3, (show decode method_6_code 12 = .ok (.astore_n 3, 1) by decide +kernel), rfl, rfl⟩) (by decide)
    (show decode method_6_code 13 = .ok (.iconst 1, 1) by decide +kernel) (show decode method_6_code 14 = .ok (.ireturn, 1) by decide +kernel) (show decode method_6_code 15 = .ok (.iconst 0, 1) by decide +kernel) (show decode method_6_code 16 = .ok (.ireturn, 1) by decide +kernel)

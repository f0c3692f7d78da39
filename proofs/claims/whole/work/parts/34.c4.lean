/-! THE CLASS: methods. Printed by wip/whole/printC.py. -/
abbrev bk_G_count_0_2 : List (Nat × Instr × Nat) := [(0, .iload_n 1, 1), (1, .ifCond .lt 32, 3)]
theorem bk_G_count_0_2_ok : jm_at mt_G_count.2.1 bk_G_count_0_2 = true := by decide +kernel
abbrev bk_G_count_4_3 : List (Nat × Instr × Nat) := [(4, .iload_n 1, 1), (5, .aload_n 0, 1), (6, .getfield 11, 3)]
theorem bk_G_count_4_3_ok : jm_at mt_G_count.2.1 bk_G_count_4_3 = true := by decide +kernel
abbrev bk_G_count_10_1 : List (Nat × Instr × Nat) := [(10, .if_icmp .ge 23, 3)]
theorem bk_G_count_10_1_ok : jm_at mt_G_count.2.1 bk_G_count_10_1 = true := by decide +kernel
abbrev bk_G_count_13_4 : List (Nat × Instr × Nat) := [(13, .aload_n 0, 1), (14, .getfield 11, 3), (17, .iload_n 1, 1), (18, .dup2, 1)]
theorem bk_G_count_13_4_ok : jm_at mt_G_count.2.1 bk_G_count_13_4 = true := by decide +kernel
abbrev bk_G_count_20_2 : List (Nat × Instr × Nat) := [(20, .iconst 1, 1), (21, .iadd, 1)]
theorem bk_G_count_20_2_ok : jm_at mt_G_count.2.1 bk_G_count_20_2 = true := by decide +kernel
abbrev bk_G_count_23_6 : List (Nat × Instr × Nat) := [(23, .aload_n 0, 1), (24, .dup, 1), (25, .getfield 59, 3), (28, .iconst 1, 1), (29, .iadd, 1), (30, .putfield 59, 3)]
theorem bk_G_count_23_6_ok : jm_at mt_G_count.2.1 bk_G_count_23_6 = true := by decide +kernel
theorem dd_G_count_22 : decode mt_G_count.2.1 22 = .ok (.iastore, 1) := by decide +kernel
theorem dd_G_count_19 : decode mt_G_count.2.1 19 = .ok (.iaload, 1) := by decide +kernel
theorem dd_G_count_9 : decode mt_G_count.2.1 9 = .ok (.arraylength, 1) := by decide +kernel
theorem dd_G_count_33 : decode mt_G_count.2.1 33 = .ok (.return_, 1) := by decide +kernel
def J_G_count_33 (K : Nat) (g : jm_Rec)  (x : jm_X) : Option jm_R := some (.inl (none, x))
set_option maxRecDepth 100000 in
set_option maxHeartbeats 4000000 in
theorem jj_G_count_33 {l : Launch} {D : va_G} {ad : Nat → Nat} {aC : Nat → ClassId} {b0 : Nat} {K d0 : Nat} {g : jm_Rec} (hok : jm_Ok (jm_PP l D clC ad aC shC b0 1)) (hrec : ∀ (t : Nat) (av : List Value) (x : jm_X), jm_Con (jm_PP l D clC ad aC shC b0 1) (rcC t) d0 av x (g t av x))  (x : jm_X) : jm_V (jm_PP l D clC ad aC shC b0 1) mt_G_count (d0 + 1) 33 [] [] x (J_G_count_33 K g  x) := by
  have hT := tk_G (l := l) (D := D) (ad := ad) (aC := aC) (b0 := b0)
  unfold J_G_count_33
  exact jm_V.vret rfl dd_G_count_33
def f_G_count (K : Nat) (g : jm_Rec) (a1 : Int32) (x : jm_X) : Option jm_R := (if a1 < 0 then J_G_count_33 K g x else (if jm_len shC 3 = some 34 then (if (Int32.ofNat 34) ≤ a1 then J_G_count_33 K g x else (if jm_in shC 3 .int a1 then (if jm_in shC 3 .int a1 then jm_then (jm_ua x 3 a1 ((x.2.2 3 (Int32.toNatClampNeg a1)) + 1)) (fun x1 => jm_then (va_up x1.1 203 ((x1.1 203) + 1), x1.2) (fun x2 => J_G_count_33 K g x2)) else none) else none)) else none))
set_option maxRecDepth 100000 in
set_option maxHeartbeats 4000000 in
theorem c_G_count {l : Launch} {D : va_G} {ad : Nat → Nat} {aC : Nat → ClassId} {b0 : Nat} {K d0 : Nat} {g : jm_Rec} (hok : jm_Ok (jm_PP l D clC ad aC shC b0 1)) (hrec : ∀ (t : Nat) (av : List Value) (x : jm_X), jm_Con (jm_PP l D clC ad aC shC b0 1) (rcC t) d0 av x (g t av x)) (a1 : Int32) (x : jm_X) : jm_Con (jm_PP l D clC ad aC shC b0 1) mt_G_count (d0 + 1) [.ref 2, .int a1] x (f_G_count K g a1 x) := by
  refine jm_Con.of (plainFor_of_name (by decide +kernel)) (Nat.le_of_ble_eq_true rfl) ?_
  have hT := tk_G (l := l) (D := D) (ad := ad) (aC := aC) (b0 := b0)
  unfold f_G_count
  show jm_V _ _ _ 0 [(0, .ref 2), (1, .int a1)] [] x _
  refine jm_V.run (is := bk_G_count_0_2) (pc' := (if a1 < 0 then 33 else 4)) (ls' := [(0, .ref 2), (1, .int a1)]) (st' := []) (x' := x) hok hT bk_G_count_0_2_ok rfl ?_
  refine jm_V.ite (fun _ => ?_) (fun _ => ?_)
  · refine jm_V.sub (ls' := []) [] rfl ?_
    exact jj_G_count_33 hok hrec x
  · refine jm_V.run (is := bk_G_count_4_3) (pc' := 9) (ls' := [(0, .ref 2), (1, .int a1)]) (st' := [.ref 3, .int a1]) (x' := x) hok hT bk_G_count_4_3_ok rfl ?_
    refine jm_V.alen dd_G_count_9 ?_
    refine jm_V.run (is := bk_G_count_10_1) (pc' := (if (Int32.ofNat 34) ≤ a1 then 33 else 13)) (ls' := [(0, .ref 2), (1, .int a1)]) (st' := []) (x' := x) hok hT bk_G_count_10_1_ok rfl ?_
    refine jm_V.ite (fun _ => ?_) (fun _ => ?_)
    · refine jm_V.sub (ls' := []) [] rfl ?_
      exact jj_G_count_33 hok hrec x
    · refine jm_V.run (is := bk_G_count_13_4) (pc' := 19) (ls' := [(0, .ref 2), (1, .int a1)]) (st' := [.int a1, .ref 3, .int a1, .ref 3]) (x' := x) hok hT bk_G_count_13_4_ok rfl ?_
      refine jm_V.iald dd_G_count_19 ?_
      refine jm_V.run (is := bk_G_count_20_2) (pc' := 22) (ls' := [(0, .ref 2), (1, .int a1)]) (st' := [.int ((x.2.2 3 (Int32.toNatClampNeg a1)) + 1), .int a1, .ref 3]) (x' := x) hok hT bk_G_count_20_2_ok rfl ?_
      refine jm_V.iast hok dd_G_count_22 ?_
      refine jm_V.then_ (fun x1 => ?_)
      refine jm_V.run (is := bk_G_count_23_6) (pc' := 33) (ls' := [(0, .ref 2), (1, .int a1)]) (st' := []) (x' := (va_up x1.1 203 ((x1.1 203) + 1), x1.2)) hok hT bk_G_count_23_6_ok rfl ?_
      refine jm_V.then_ (fun x2 => ?_)
      refine jm_V.sub (ls' := []) [] rfl ?_
      exact jj_G_count_33 hok hrec x2
abbrev bk_G_takeAs_0_2 : List (Nat × Instr × Nat) := [(0, .aload_n 0, 1), (1, .iload_n 1, 1)]
theorem bk_G_takeAs_0_2_ok : jm_at mt_G_takeAs.2.1 bk_G_takeAs_0_2 = true := by decide +kernel
abbrev bk_G_takeAs_5_2 : List (Nat × Instr × Nat) := [(5, .aload_n 0, 1), (6, .getfield 20, 3)]
theorem bk_G_takeAs_5_2_ok : jm_at mt_G_takeAs.2.1 bk_G_takeAs_5_2 = true := by decide +kernel
theorem dd_G_takeAs_2 : decode mt_G_takeAs.2.1 2 = .ok (.invokevirtual 85, 3) := by decide +kernel
theorem dd_G_takeAs_9 : decode mt_G_takeAs.2.1 9 = .ok (.invokevirtual 82, 3) := by decide +kernel
theorem dd_G_takeAs_12 : decode mt_G_takeAs.2.1 12 = .ok (.return_, 1) := by decide +kernel
def f_G_takeAs (K : Nat) (g : jm_Rec) (a1 : Int32) (x : jm_X) : Option jm_R := jm_bV (f_G_count K g a1 x) (fun x1 => jm_bV (f_S_next K g x1) (fun x2 => some (.inl (none, x2))))
set_option maxRecDepth 100000 in
set_option maxHeartbeats 4000000 in
theorem c_G_takeAs {l : Launch} {D : va_G} {ad : Nat → Nat} {aC : Nat → ClassId} {b0 : Nat} {K d0 : Nat} {g : jm_Rec} (hok : jm_Ok (jm_PP l D clC ad aC shC b0 1)) (hrec : ∀ (t : Nat) (av : List Value) (x : jm_X), jm_Con (jm_PP l D clC ad aC shC b0 1) (rcC t) d0 av x (g t av x)) (a1 : Int32) (x : jm_X) : jm_Con (jm_PP l D clC ad aC shC b0 1) mt_G_takeAs (d0 + 8) [.ref 2, .int a1] x (f_G_takeAs K g a1 x) := by
  refine jm_Con.of (plainFor_of_name (by decide +kernel)) (Nat.le_of_ble_eq_true rfl) ?_
  have hT := tk_G (l := l) (D := D) (ad := ad) (aC := aC) (b0 := b0)
  unfold f_G_takeAs
  show jm_V _ _ _ 0 [(0, .ref 2), (1, .int a1)] [] x _
  refine jm_V.run (is := bk_G_takeAs_0_2) (pc' := 2) (ls' := [(0, .ref 2), (1, .int a1)]) (st' := [.int a1, .ref 2]) (x' := x) hok hT bk_G_takeAs_0_2_ok rfl ?_
  refine jm_V.callV (av := [.ref 2, .int a1]) (rest := []) hok (jm_Con.mono (c_G_count hok hrec a1 x) (by omega)) (jm_Inv.obj (q := ("FilterReader$Grammar", T_G, 5)) dd_G_takeAs_2 (Or.inl lk_G_85) mn_G_count ms_G_count mw_G_count mh_G_count ml_G_count rfl rfl) mw_G_count mi_G (Nat.le_of_ble_eq_true rfl) (Nat.le_of_ble_eq_true rfl) (fun x1 => ?_)
  refine jm_V.run (is := bk_G_takeAs_5_2) (pc' := 9) (ls' := [(0, .ref 2), (1, .int a1)]) (st' := [.ref 4]) (x' := x1) hok hT bk_G_takeAs_5_2_ok rfl ?_
  refine jm_V.callV (av := [.ref 4]) (rest := []) hok (jm_Con.mono (c_S_next hok hrec x1) (by omega)) (jm_Inv.obj (q := ("FilterReader$Signs", T_S, 5)) dd_G_takeAs_9 (Or.inl lk_G_82) mn_S_next ms_S_next mw_S_next mh_S_next ml_S_next rfl rfl) mw_S_next mi_S (Nat.le_of_ble_eq_true rfl) (Nat.le_of_ble_eq_true rfl) (fun x2 => ?_)
  exact jm_V.vret rfl dd_G_takeAs_12
abbrev bk_G_takes_0_3 : List (Nat × Instr × Nat) := [(0, .aload_n 0, 1), (1, .getfield 20, 3), (4, .aload_n 1, 1)]
theorem bk_G_takes_0_3_ok : jm_at mt_G_takes.2.1 bk_G_takes_0_3 = true := by decide +kernel
abbrev bk_G_takes_8_3 : List (Nat × Instr × Nat) := [(8, .istore_n 2, 1), (9, .iload_n 2, 1), (10, .ifCond .eq 10, 3)]
theorem bk_G_takes_8_3_ok : jm_at mt_G_takes.2.1 bk_G_takes_8_3 = true := by decide +kernel
abbrev bk_G_takes_13_2 : List (Nat × Instr × Nat) := [(13, .aload_n 0, 1), (14, .getfield 20, 3)]
theorem bk_G_takes_13_2_ok : jm_at mt_G_takes.2.1 bk_G_takes_13_2 = true := by decide +kernel
abbrev bk_G_takes_20_1 : List (Nat × Instr × Nat) := [(20, .iload_n 2, 1)]
theorem bk_G_takes_20_1_ok : jm_at mt_G_takes.2.1 bk_G_takes_20_1 = true := by decide +kernel
theorem dd_G_takes_5 : decode mt_G_takes.2.1 5 = .ok (.invokevirtual 71, 3) := by decide +kernel
theorem dd_G_takes_17 : decode mt_G_takes.2.1 17 = .ok (.invokevirtual 82, 3) := by decide +kernel
theorem dd_G_takes_21 : decode mt_G_takes.2.1 21 = .ok (.ireturn, 1) := by decide +kernel
def J_G_takes_20 (K : Nat) (g : jm_Rec) (v2 : Int32) (x : jm_X) : Option jm_R := some (.inl (some (.int (vp_nar .boolean v2)), x))
set_option maxRecDepth 100000 in
set_option maxHeartbeats 4000000 in
theorem jj_G_takes_20 {l : Launch} {D : va_G} {ad : Nat → Nat} {aC : Nat → ClassId} {b0 : Nat} {K d0 : Nat} {g : jm_Rec} (hok : jm_Ok (jm_PP l D clC ad aC shC b0 1)) (hrec : ∀ (t : Nat) (av : List Value) (x : jm_X), jm_Con (jm_PP l D clC ad aC shC b0 1) (rcC t) d0 av x (g t av x)) (v2 : Int32) (x : jm_X) : jm_V (jm_PP l D clC ad aC shC b0 1) mt_G_takes (d0 + 8) 20 [(2, .int v2)] [] x (J_G_takes_20 K g v2 x) := by
  have hT := tk_G (l := l) (D := D) (ad := ad) (aC := aC) (b0 := b0)
  unfold J_G_takes_20
  refine jm_V.run (is := bk_G_takes_20_1) (pc' := 21) (ls' := [(2, .int v2)]) (st' := [.int v2]) (x' := x) hok hT bk_G_takes_20_1_ok rfl ?_
  exact jm_V.nret (t := .boolean) rfl rfl dd_G_takes_21
def f_G_takes (K : Nat) (g : jm_Rec) (a1 : Nat) (x : jm_X) : Option jm_R := jm_bI (f_S_is K g a1 x) (fun b2 x1 => (if b2 = 0 then J_G_takes_20 K g b2 x1 else jm_bV (f_S_next K g x1) (fun x3 => J_G_takes_20 K g b2 x3)))
set_option maxRecDepth 100000 in
set_option maxHeartbeats 4000000 in
theorem c_G_takes {l : Launch} {D : va_G} {ad : Nat → Nat} {aC : Nat → ClassId} {b0 : Nat} {K d0 : Nat} {g : jm_Rec} (hok : jm_Ok (jm_PP l D clC ad aC shC b0 1)) (hrec : ∀ (t : Nat) (av : List Value) (x : jm_X), jm_Con (jm_PP l D clC ad aC shC b0 1) (rcC t) d0 av x (g t av x)) (a1 : Nat) (x : jm_X) : jm_Con (jm_PP l D clC ad aC shC b0 1) mt_G_takes (d0 + 8) [.ref 2, .ref a1] x (f_G_takes K g a1 x) := by
  refine jm_Con.of (plainFor_of_name (by decide +kernel)) (Nat.le_of_ble_eq_true rfl) ?_
  have hT := tk_G (l := l) (D := D) (ad := ad) (aC := aC) (b0 := b0)
  unfold f_G_takes
  show jm_V _ _ _ 0 [(0, .ref 2), (1, .ref a1)] [] x _
  refine jm_V.run (is := bk_G_takes_0_3) (pc' := 5) (ls' := [(0, .ref 2), (1, .ref a1)]) (st' := [.ref a1, .ref 4]) (x' := x) hok hT bk_G_takes_0_3_ok rfl ?_
  refine jm_V.callI (av := [.ref 4, .ref a1]) (rest := []) hok (jm_Con.mono (c_S_is hok hrec a1 x) (by omega)) (jm_Inv.obj (q := ("FilterReader$Signs", T_S, 5)) dd_G_takes_5 (Or.inl lk_G_71) mn_S_is ms_S_is mw_S_is mh_S_is ml_S_is rfl rfl) mw_S_is mi_S (Nat.le_of_ble_eq_true rfl) (Nat.le_of_ble_eq_true rfl) (fun b2 x1 => ?_)
  refine jm_V.run (is := bk_G_takes_8_3) (pc' := (if b2 = 0 then 20 else 13)) (ls' := [(2, .int b2), (0, .ref 2), (1, .ref a1)]) (st' := []) (x' := x1) hok hT bk_G_takes_8_3_ok rfl ?_
  refine jm_V.ite (fun _ => ?_) (fun _ => ?_)
  · refine jm_V.sub (ls' := [(2, .int b2)]) [0] rfl ?_
    exact jj_G_takes_20 hok hrec b2 x1
  · refine jm_V.run (is := bk_G_takes_13_2) (pc' := 17) (ls' := [(2, .int b2), (0, .ref 2), (1, .ref a1)]) (st' := [.ref 4]) (x' := x1) hok hT bk_G_takes_13_2_ok rfl ?_
    refine jm_V.callV (av := [.ref 4]) (rest := []) hok (jm_Con.mono (c_S_next hok hrec x1) (by omega)) (jm_Inv.obj (q := ("FilterReader$Signs", T_S, 5)) dd_G_takes_17 (Or.inl lk_G_82) mn_S_next ms_S_next mw_S_next mh_S_next ml_S_next rfl rfl) mw_S_next mi_S (Nat.le_of_ble_eq_true rfl) (Nat.le_of_ble_eq_true rfl) (fun x3 => ?_)
    refine jm_V.sub (ls' := [(2, .int b2)]) [0] rfl ?_
    exact jj_G_takes_20 hok hrec b2 x3
abbrev bk_G_define_0_2 : List (Nat × Instr × Nat) := [(0, .aload_n 0, 1), (1, .getfield 27, 3)]
theorem bk_G_define_0_2_ok : jm_at mt_G_define.2.1 bk_G_define_0_2 = true := by decide +kernel
abbrev bk_G_define_7_3 : List (Nat × Instr × Nat) := [(7, .istore_n 2, 1), (8, .aload_n 0, 1), (9, .bipush 28, 2)]
theorem bk_G_define_7_3_ok : jm_at mt_G_define.2.1 bk_G_define_7_3 = true := by decide +kernel
abbrev bk_G_define_14_2 : List (Nat × Instr × Nat) := [(14, .aload_n 0, 1), (15, .getstatic 145, 3)]
theorem bk_G_define_14_2_ok : jm_at mt_G_define.2.1 bk_G_define_14_2 = true := by decide +kernel
abbrev bk_G_define_21_2 : List (Nat × Instr × Nat) := [(21, .aload_n 0, 1), (22, .bipush 12, 2)]
theorem bk_G_define_21_2_ok : jm_at mt_G_define.2.1 bk_G_define_21_2 = true := by decide +kernel
abbrev bk_G_define_27_2 : List (Nat × Instr × Nat) := [(27, .aload_n 0, 1), (28, .getfield 20, 3)]
theorem bk_G_define_27_2_ok : jm_at mt_G_define.2.1 bk_G_define_27_2 = true := by decide +kernel
abbrev bk_G_define_34_2 : List (Nat × Instr × Nat) := [(34, .aload_n 0, 1), (35, .getstatic 151, 3)]
theorem bk_G_define_34_2_ok : jm_at mt_G_define.2.1 bk_G_define_34_2 = true := by decide +kernel
abbrev bk_G_define_41_1 : List (Nat × Instr × Nat) := [(41, .ifCond .eq 52, 3)]
theorem bk_G_define_41_1_ok : jm_at mt_G_define.2.1 bk_G_define_41_1 = true := by decide +kernel
abbrev bk_G_define_44_2 : List (Nat × Instr × Nat) := [(44, .iconst 0, 1), (45, .istore_n 3, 1)]
theorem bk_G_define_44_2_ok : jm_at mt_G_define.2.1 bk_G_define_44_2 = true := by decide +kernel
abbrev bk_G_define_46_2 : List (Nat × Instr × Nat) := [(46, .aload_n 0, 1), (47, .iload_n 3, 1)]
theorem bk_G_define_46_2_ok : jm_at mt_G_define.2.1 bk_G_define_46_2 = true := by decide +kernel
abbrev bk_G_define_51_2 : List (Nat × Instr × Nat) := [(51, .aload_n 0, 1), (52, .getfield 20, 3)]
theorem bk_G_define_51_2_ok : jm_at mt_G_define.2.1 bk_G_define_51_2 = true := by decide +kernel
abbrev bk_G_define_58_4 : List (Nat × Instr × Nat) := [(58, .iinc 3 1, 3), (61, .iload_n 3, 1), (62, .bipush 10, 2), (64, .if_icmp .gt 13, 3)]
theorem bk_G_define_58_4_ok : jm_at mt_G_define.2.1 bk_G_define_58_4 = true := by decide +kernel
abbrev bk_G_define_67_2 : List (Nat × Instr × Nat) := [(67, .aload_n 0, 1), (68, .getstatic 160, 3)]
theorem bk_G_define_67_2_ok : jm_at mt_G_define.2.1 bk_G_define_67_2 = true := by decide +kernel
abbrev bk_G_define_74_1 : List (Nat × Instr × Nat) := [(74, .ifCond .ne (-28), 3)]
theorem bk_G_define_74_1_ok : jm_at mt_G_define.2.1 bk_G_define_74_1 = true := by decide +kernel
abbrev bk_G_define_77_4 : List (Nat × Instr × Nat) := [(77, .aload_n 0, 1), (78, .getfield 27, 3), (81, .iload_n 2, 1), (82, .iload_n 3, 1)]
theorem bk_G_define_77_4_ok : jm_at mt_G_define.2.1 bk_G_define_77_4 = true := by decide +kernel
abbrev bk_G_define_86_2 : List (Nat × Instr × Nat) := [(86, .aload_n 0, 1), (87, .getstatic 167, 3)]
theorem bk_G_define_86_2_ok : jm_at mt_G_define.2.1 bk_G_define_86_2 = true := by decide +kernel
abbrev bk_G_define_93_2 : List (Nat × Instr × Nat) := [(93, .aload_n 0, 1), (94, .getstatic 173, 3)]
theorem bk_G_define_93_2_ok : jm_at mt_G_define.2.1 bk_G_define_93_2 = true := by decide +kernel
abbrev bk_G_define_100_2 : List (Nat × Instr × Nat) := [(100, .aload_n 0, 1), (101, .iload_n 1, 1)]
theorem bk_G_define_100_2_ok : jm_at mt_G_define.2.1 bk_G_define_100_2 = true := by decide +kernel
abbrev bk_G_define_105_2 : List (Nat × Instr × Nat) := [(105, .aload_n 0, 1), (106, .getstatic 160, 3)]
theorem bk_G_define_105_2_ok : jm_at mt_G_define.2.1 bk_G_define_105_2 = true := by decide +kernel
abbrev bk_G_define_112_5 : List (Nat × Instr × Nat) := [(112, .aload_n 0, 1), (113, .getfield 27, 3), (116, .iload_n 2, 1), (117, .iconst 1, 1), (118, .iadd, 1)]
theorem bk_G_define_112_5_ok : jm_at mt_G_define.2.1 bk_G_define_112_5 = true := by decide +kernel
theorem dd_G_define_4 : decode mt_G_define.2.1 4 = .ok (.invokevirtual 102, 3) := by decide +kernel
theorem dd_G_define_11 : decode mt_G_define.2.1 11 = .ok (.invokevirtual 124, 3) := by decide +kernel
theorem dd_G_define_18 : decode mt_G_define.2.1 18 = .ok (.invokevirtual 55, 3) := by decide +kernel
theorem dd_G_define_24 : decode mt_G_define.2.1 24 = .ok (.invokevirtual 148, 3) := by decide +kernel
theorem dd_G_define_31 : decode mt_G_define.2.1 31 = .ok (.invokevirtual 82, 3) := by decide +kernel
theorem dd_G_define_38 : decode mt_G_define.2.1 38 = .ok (.invokevirtual 154, 3) := by decide +kernel
theorem dd_G_define_48 : decode mt_G_define.2.1 48 = .ok (.invokevirtual 157, 3) := by decide +kernel
theorem dd_G_define_55 : decode mt_G_define.2.1 55 = .ok (.invokevirtual 82, 3) := by decide +kernel
theorem dd_G_define_71 : decode mt_G_define.2.1 71 = .ok (.invokevirtual 154, 3) := by decide +kernel
theorem dd_G_define_83 : decode mt_G_define.2.1 83 = .ok (.invokevirtual 163, 3) := by decide +kernel
theorem dd_G_define_90 : decode mt_G_define.2.1 90 = .ok (.invokevirtual 170, 3) := by decide +kernel
theorem dd_G_define_97 : decode mt_G_define.2.1 97 = .ok (.invokevirtual 170, 3) := by decide +kernel
theorem dd_G_define_102 : decode mt_G_define.2.1 102 = .ok (.invokevirtual 45, 3) := by decide +kernel
theorem dd_G_define_109 : decode mt_G_define.2.1 109 = .ok (.invokevirtual 170, 3) := by decide +kernel
theorem dd_G_define_119 : decode mt_G_define.2.1 119 = .ok (.invokevirtual 130, 3) := by decide +kernel
theorem dd_G_define_122 : decode mt_G_define.2.1 122 = .ok (.return_, 1) := by decide +kernel
def J_G_define_93 (K : Nat) (g : jm_Rec) (v1 : Int32) (v2 : Int32) (x : jm_X) : Option jm_R := jm_bV (f_G_take K g 1010 x) (fun x15 => jm_bV (g 0 [.ref 2, .int v1] x15) (fun x16 => jm_bV (f_G_take K g 1011 x16) (fun x17 => jm_bV (f_N_forgetFrom K g (v2 + 1) x17) (fun x18 => some (.inl (none, x18))))))
set_option maxRecDepth 100000 in
set_option maxHeartbeats 4000000 in
theorem jj_G_define_93 {l : Launch} {D : va_G} {ad : Nat → Nat} {aC : Nat → ClassId} {b0 : Nat} {K d0 : Nat} {g : jm_Rec} (hok : jm_Ok (jm_PP l D clC ad aC shC b0 1)) (hrec : ∀ (t : Nat) (av : List Value) (x : jm_X), jm_Con (jm_PP l D clC ad aC shC b0 1) (rcC t) d0 av x (g t av x)) (v1 : Int32) (v2 : Int32) (x : jm_X) : jm_V (jm_PP l D clC ad aC shC b0 1) mt_G_define (d0 + 10) 93 [(0, .ref 2), (1, .int v1), (2, .int v2)] [] x (J_G_define_93 K g v1 v2 x) := by
  have hT := tk_G (l := l) (D := D) (ad := ad) (aC := aC) (b0 := b0)
  unfold J_G_define_93
  refine jm_V.run (is := bk_G_define_93_2) (pc' := 97) (ls' := [(0, .ref 2), (1, .int v1), (2, .int v2)]) (st' := [.ref 1010, .ref 2]) (x' := x) hok hT bk_G_define_93_2_ok rfl ?_
  refine jm_V.callV (av := [.ref 2, .ref 1010]) (rest := []) hok (jm_Con.mono (c_G_take hok hrec 1010 x) (by omega)) (jm_Inv.obj (q := ("FilterReader$Grammar", T_G, 5)) dd_G_define_97 (Or.inl lk_G_170) mn_G_take ms_G_take mw_G_take mh_G_take ml_G_take rfl rfl) mw_G_take mi_G (Nat.le_of_ble_eq_true rfl) (Nat.le_of_ble_eq_true rfl) (fun x15 => ?_)
  refine jm_V.run (is := bk_G_define_100_2) (pc' := 102) (ls' := [(0, .ref 2), (1, .int v1), (2, .int v2)]) (st' := [.int v1, .ref 2]) (x' := x15) hok hT bk_G_define_100_2_ok rfl ?_
  refine jm_V.callV (av := [.ref 2, .int v1]) (rest := []) hok (jm_Con.mono (hrec 0 [.ref 2, .int v1] x15) (by omega)) (jm_Inv.obj (q := ("FilterReader$Grammar", T_G, 5)) dd_G_define_102 (Or.inl lk_G_45) mn_G_program ms_G_program mw_G_program mh_G_program ml_G_program rfl rfl) mw_G_program mi_G (Nat.le_of_ble_eq_true rfl) (Nat.le_of_ble_eq_true rfl) (fun x16 => ?_)
  refine jm_V.run (is := bk_G_define_105_2) (pc' := 109) (ls' := [(0, .ref 2), (1, .int v1), (2, .int v2)]) (st' := [.ref 1011, .ref 2]) (x' := x16) hok hT bk_G_define_105_2_ok rfl ?_
  refine jm_V.callV (av := [.ref 2, .ref 1011]) (rest := []) hok (jm_Con.mono (c_G_take hok hrec 1011 x16) (by omega)) (jm_Inv.obj (q := ("FilterReader$Grammar", T_G, 5)) dd_G_define_109 (Or.inl lk_G_170) mn_G_take ms_G_take mw_G_take mh_G_take ml_G_take rfl rfl) mw_G_take mi_G (Nat.le_of_ble_eq_true rfl) (Nat.le_of_ble_eq_true rfl) (fun x17 => ?_)
  refine jm_V.run (is := bk_G_define_112_5) (pc' := 119) (ls' := [(0, .ref 2), (1, .int v1), (2, .int v2)]) (st' := [.int (v2 + 1), .ref 6]) (x' := x17) hok hT bk_G_define_112_5_ok rfl ?_
  refine jm_V.callV (av := [.ref 6, .int (v2 + 1)]) (rest := []) hok (jm_Con.mono (c_N_forgetFrom hok hrec (v2 + 1) x17) (by omega)) (jm_Inv.obj (q := ("FilterReader$Names", T_N, 6)) dd_G_define_119 (Or.inl lk_G_130) mn_N_forgetFrom ms_N_forgetFrom mw_N_forgetFrom mh_N_forgetFrom ml_N_forgetFrom rfl rfl) mw_N_forgetFrom mi_N (Nat.le_of_ble_eq_true rfl) (Nat.le_of_ble_eq_true rfl) (fun x18 => ?_)
  exact jm_V.vret rfl dd_G_define_122
def J_G_define_77 (K : Nat) (g : jm_Rec) (v1 : Int32) (v2 : Int32) (v3 : Int32) (x : jm_X) : Option jm_R := jm_bV (f_N_setParameters K g v2 v3 x) (fun x13 => jm_bV (f_G_take K g 1013 x13) (fun x14 => J_G_define_93 K g v1 v2 x14))
set_option maxRecDepth 100000 in
set_option maxHeartbeats 4000000 in
theorem jj_G_define_77 {l : Launch} {D : va_G} {ad : Nat → Nat} {aC : Nat → ClassId} {b0 : Nat} {K d0 : Nat} {g : jm_Rec} (hok : jm_Ok (jm_PP l D clC ad aC shC b0 1)) (hrec : ∀ (t : Nat) (av : List Value) (x : jm_X), jm_Con (jm_PP l D clC ad aC shC b0 1) (rcC t) d0 av x (g t av x)) (v1 : Int32) (v2 : Int32) (v3 : Int32) (x : jm_X) : jm_V (jm_PP l D clC ad aC shC b0 1) mt_G_define (d0 + 10) 77 [(0, .ref 2), (1, .int v1), (2, .int v2), (3, .int v3)] [] x (J_G_define_77 K g v1 v2 v3 x) := by
  have hT := tk_G (l := l) (D := D) (ad := ad) (aC := aC) (b0 := b0)
  unfold J_G_define_77
  refine jm_V.run (is := bk_G_define_77_4) (pc' := 83) (ls' := [(0, .ref 2), (1, .int v1), (2, .int v2), (3, .int v3)]) (st' := [.int v3, .int v2, .ref 6]) (x' := x) hok hT bk_G_define_77_4_ok rfl ?_
  refine jm_V.callV (av := [.ref 6, .int v2, .int v3]) (rest := []) hok (jm_Con.mono (c_N_setParameters hok hrec v2 v3 x) (by omega)) (jm_Inv.obj (q := ("FilterReader$Names", T_N, 6)) dd_G_define_83 (Or.inl lk_G_163) mn_N_setParameters ms_N_setParameters mw_N_setParameters mh_N_setParameters ml_N_setParameters rfl rfl) mw_N_setParameters mi_N (Nat.le_of_ble_eq_true rfl) (Nat.le_of_ble_eq_true rfl) (fun x13 => ?_)
  refine jm_V.run (is := bk_G_define_86_2) (pc' := 90) (ls' := [(0, .ref 2), (1, .int v1), (2, .int v2), (3, .int v3)]) (st' := [.ref 1013, .ref 2]) (x' := x13) hok hT bk_G_define_86_2_ok rfl ?_
  refine jm_V.callV (av := [.ref 2, .ref 1013]) (rest := []) hok (jm_Con.mono (c_G_take hok hrec 1013 x13) (by omega)) (jm_Inv.obj (q := ("FilterReader$Grammar", T_G, 5)) dd_G_define_90 (Or.inl lk_G_170) mn_G_take ms_G_take mw_G_take mh_G_take ml_G_take rfl rfl) mw_G_take mi_G (Nat.le_of_ble_eq_true rfl) (Nat.le_of_ble_eq_true rfl) (fun x14 => ?_)
  refine jm_V.sub (ls' := [(0, .ref 2), (1, .int v1), (2, .int v2)]) [0, 1, 2] rfl ?_
  exact jj_G_define_93 hok hrec v1 v2 x14
def B_G_define_46 (K : Nat) (g : jm_Rec) (self : Int32 → Int32 → Int32 → jm_X → Option jm_R) (v1 : Int32) (v2 : Int32) (v3 : Int32) (x : jm_X) : Option jm_R := jm_bV (f_G_learnParameter K g v3 x) (fun x9 => jm_bV (f_S_next K g x9) (fun x10 => (if 10 < (v3 + 1) then J_G_define_77 K g v1 v2 (v3 + 1) x10 else jm_bI (f_G_takes K g 1011 x10) (fun b12 x11 => (if b12 = 0 then J_G_define_77 K g v1 v2 (v3 + 1) x11 else self v1 v2 (v3 + 1) x11)))))
def L_G_define_46 (K : Nat) (g : jm_Rec) : Nat → Int32 → Int32 → Int32 → jm_X → Option jm_R
  | 0, _, _, _, _ => none
  | k + 1, v1, v2, v3, x => B_G_define_46 K g (L_G_define_46 K g k) v1 v2 v3 x
set_option maxRecDepth 100000 in
set_option maxHeartbeats 4000000 in
theorem jb_G_define_46 {l : Launch} {D : va_G} {ad : Nat → Nat} {aC : Nat → ClassId} {b0 : Nat} {K d0 : Nat} {g : jm_Rec} (hok : jm_Ok (jm_PP l D clC ad aC shC b0 1)) (hrec : ∀ (t : Nat) (av : List Value) (x : jm_X), jm_Con (jm_PP l D clC ad aC shC b0 1) (rcC t) d0 av x (g t av x)) {self : Int32 → Int32 → Int32 → jm_X → Option jm_R} (hself : ∀ (v1 : Int32) (v2 : Int32) (v3 : Int32) (x : jm_X), jm_V (jm_PP l D clC ad aC shC b0 1) mt_G_define (d0 + 10) 46 [(0, .ref 2), (1, .int v1), (2, .int v2), (3, .int v3)] [] x (self v1 v2 v3 x)) (v1 : Int32) (v2 : Int32) (v3 : Int32) (x : jm_X) : jm_V (jm_PP l D clC ad aC shC b0 1) mt_G_define (d0 + 10) 46 [(0, .ref 2), (1, .int v1), (2, .int v2), (3, .int v3)] [] x (B_G_define_46 K g self v1 v2 v3 x) := by
  have hT := tk_G (l := l) (D := D) (ad := ad) (aC := aC) (b0 := b0)
  unfold B_G_define_46
  refine jm_V.run (is := bk_G_define_46_2) (pc' := 48) (ls' := [(0, .ref 2), (1, .int v1), (2, .int v2), (3, .int v3)]) (st' := [.int v3, .ref 2]) (x' := x) hok hT bk_G_define_46_2_ok rfl ?_
  refine jm_V.callV (av := [.ref 2, .int v3]) (rest := []) hok (jm_Con.mono (c_G_learnParameter hok hrec v3 x) (by omega)) (jm_Inv.obj (q := ("FilterReader$Grammar", T_G, 5)) dd_G_define_48 (Or.inl lk_G_157) mn_G_learnParameter ms_G_learnParameter mw_G_learnParameter mh_G_learnParameter ml_G_learnParameter rfl rfl) mw_G_learnParameter mi_G (Nat.le_of_ble_eq_true rfl) (Nat.le_of_ble_eq_true rfl) (fun x9 => ?_)
  refine jm_V.run (is := bk_G_define_51_2) (pc' := 55) (ls' := [(0, .ref 2), (1, .int v1), (2, .int v2), (3, .int v3)]) (st' := [.ref 4]) (x' := x9) hok hT bk_G_define_51_2_ok rfl ?_
  refine jm_V.callV (av := [.ref 4]) (rest := []) hok (jm_Con.mono (c_S_next hok hrec x9) (by omega)) (jm_Inv.obj (q := ("FilterReader$Signs", T_S, 5)) dd_G_define_55 (Or.inl lk_G_82) mn_S_next ms_S_next mw_S_next mh_S_next ml_S_next rfl rfl) mw_S_next mi_S (Nat.le_of_ble_eq_true rfl) (Nat.le_of_ble_eq_true rfl) (fun x10 => ?_)
  refine jm_V.run (is := bk_G_define_58_4) (pc' := (if 10 < (v3 + 1) then 77 else 67)) (ls' := [(3, .int (v3 + 1)), (0, .ref 2), (1, .int v1), (2, .int v2)]) (st' := []) (x' := x10) hok hT bk_G_define_58_4_ok rfl ?_
  refine jm_V.ite (fun _ => ?_) (fun _ => ?_)
  · refine jm_V.sub (ls' := [(0, .ref 2), (1, .int v1), (2, .int v2), (3, .int (v3 + 1))]) [1, 2, 3, 0] rfl ?_
    exact jj_G_define_77 hok hrec v1 v2 (v3 + 1) x10
  · refine jm_V.run (is := bk_G_define_67_2) (pc' := 71) (ls' := [(3, .int (v3 + 1)), (0, .ref 2), (1, .int v1), (2, .int v2)]) (st' := [.ref 1011, .ref 2]) (x' := x10) hok hT bk_G_define_67_2_ok rfl ?_
    refine jm_V.callI (av := [.ref 2, .ref 1011]) (rest := []) hok (jm_Con.mono (c_G_takes hok hrec 1011 x10) (by omega)) (jm_Inv.obj (q := ("FilterReader$Grammar", T_G, 5)) dd_G_define_71 (Or.inl lk_G_154) mn_G_takes ms_G_takes mw_G_takes mh_G_takes ml_G_takes rfl rfl) mw_G_takes mi_G (Nat.le_of_ble_eq_true rfl) (Nat.le_of_ble_eq_true rfl) (fun b12 x11 => ?_)
    refine jm_V.run (is := bk_G_define_74_1) (pc' := (if b12 = 0 then 77 else 46)) (ls' := [(3, .int (v3 + 1)), (0, .ref 2), (1, .int v1), (2, .int v2)]) (st' := []) (x' := x11) hok hT bk_G_define_74_1_ok rfl ?_
    refine jm_V.ite (fun _ => ?_) (fun _ => ?_)
    · refine jm_V.sub (ls' := [(0, .ref 2), (1, .int v1), (2, .int v2), (3, .int (v3 + 1))]) [1, 2, 3, 0] rfl ?_
      exact jj_G_define_77 hok hrec v1 v2 (v3 + 1) x11
    · refine jm_V.sub (ls' := [(0, .ref 2), (1, .int v1), (2, .int v2), (3, .int (v3 + 1))]) [1, 2, 3, 0] rfl ?_
      exact hself v1 v2 (v3 + 1) x11
theorem jl_G_define_46 {l : Launch} {D : va_G} {ad : Nat → Nat} {aC : Nat → ClassId} {b0 : Nat} {K d0 : Nat} {g : jm_Rec} (hok : jm_Ok (jm_PP l D clC ad aC shC b0 1)) (hrec : ∀ (t : Nat) (av : List Value) (x : jm_X), jm_Con (jm_PP l D clC ad aC shC b0 1) (rcC t) d0 av x (g t av x)) : ∀ (k : Nat) (v1 : Int32) (v2 : Int32) (v3 : Int32) (x : jm_X), jm_V (jm_PP l D clC ad aC shC b0 1) mt_G_define (d0 + 10) 46 [(0, .ref 2), (1, .int v1), (2, .int v2), (3, .int v3)] [] x (L_G_define_46 K g k v1 v2 v3 x)
  | 0, _, _, _, _ => jm_V.stuck
  | k + 1, v1, v2, v3, x => jb_G_define_46 hok hrec (fun v1 v2 v3 x => jl_G_define_46 hok hrec k v1 v2 v3 x) v1 v2 v3 x
def f_G_define (K : Nat) (g : jm_Rec) (a1 : Int32) (x : jm_X) : Option jm_R := jm_bI (f_N_size K g x) (fun b2 x1 => jm_bV (f_G_takeAs K g 28 x1) (fun x3 => jm_bV (f_G_need K g 1002 x3) (fun x4 => jm_bV (f_G_learn K g 12 x4) (fun x5 => jm_bV (f_S_next K g x5) (fun x6 => jm_bI (f_G_takes K g 1012 x6) (fun b8 x7 => (if b8 = 0 then J_G_define_93 K g a1 b2 x7 else L_G_define_46 K g K a1 b2 0 x7)))))))
set_option maxRecDepth 100000 in
set_option maxHeartbeats 4000000 in
theorem c_G_define {l : Launch} {D : va_G} {ad : Nat → Nat} {aC : Nat → ClassId} {b0 : Nat} {K d0 : Nat} {g : jm_Rec} (hok : jm_Ok (jm_PP l D clC ad aC shC b0 1)) (hrec : ∀ (t : Nat) (av : List Value) (x : jm_X), jm_Con (jm_PP l D clC ad aC shC b0 1) (rcC t) d0 av x (g t av x)) (a1 : Int32) (x : jm_X) : jm_Con (jm_PP l D clC ad aC shC b0 1) mt_G_define (d0 + 10) [.ref 2, .int a1] x (f_G_define K g a1 x) := by
  refine jm_Con.of (plainFor_of_name (by decide +kernel)) (Nat.le_of_ble_eq_true rfl) ?_
  have hT := tk_G (l := l) (D := D) (ad := ad) (aC := aC) (b0 := b0)
  unfold f_G_define
  show jm_V _ _ _ 0 [(0, .ref 2), (1, .int a1)] [] x _
  refine jm_V.run (is := bk_G_define_0_2) (pc' := 4) (ls' := [(0, .ref 2), (1, .int a1)]) (st' := [.ref 6]) (x' := x) hok hT bk_G_define_0_2_ok rfl ?_
  refine jm_V.callI (av := [.ref 6]) (rest := []) hok (jm_Con.mono (c_N_size hok hrec x) (by omega)) (jm_Inv.obj (q := ("FilterReader$Names", T_N, 6)) dd_G_define_4 (Or.inl lk_G_102) mn_N_size ms_N_size mw_N_size mh_N_size ml_N_size rfl rfl) mw_N_size mi_N (Nat.le_of_ble_eq_true rfl) (Nat.le_of_ble_eq_true rfl) (fun b2 x1 => ?_)
  refine jm_V.run (is := bk_G_define_7_3) (pc' := 11) (ls' := [(2, .int b2), (0, .ref 2), (1, .int a1)]) (st' := [.int 28, .ref 2]) (x' := x1) hok hT bk_G_define_7_3_ok rfl ?_
  refine jm_V.callV (av := [.ref 2, .int 28]) (rest := []) hok (jm_Con.mono (c_G_takeAs hok hrec 28 x1) (by omega)) (jm_Inv.obj (q := ("FilterReader$Grammar", T_G, 5)) dd_G_define_11 (Or.inl lk_G_124) mn_G_takeAs ms_G_takeAs mw_G_takeAs mh_G_takeAs ml_G_takeAs rfl rfl) mw_G_takeAs mi_G (Nat.le_of_ble_eq_true rfl) (Nat.le_of_ble_eq_true rfl) (fun x3 => ?_)
  refine jm_V.run (is := bk_G_define_14_2) (pc' := 18) (ls' := [(2, .int b2), (0, .ref 2), (1, .int a1)]) (st' := [.ref 1002, .ref 2]) (x' := x3) hok hT bk_G_define_14_2_ok rfl ?_
  refine jm_V.callV (av := [.ref 2, .ref 1002]) (rest := []) hok (jm_Con.mono (c_G_need hok hrec 1002 x3) (by omega)) (jm_Inv.obj (q := ("FilterReader$Grammar", T_G, 5)) dd_G_define_18 (Or.inl lk_G_55) mn_G_need ms_G_need mw_G_need mh_G_need ml_G_need rfl rfl) mw_G_need mi_G (Nat.le_of_ble_eq_true rfl) (Nat.le_of_ble_eq_true rfl) (fun x4 => ?_)
  refine jm_V.run (is := bk_G_define_21_2) (pc' := 24) (ls' := [(2, .int b2), (0, .ref 2), (1, .int a1)]) (st' := [.int 12, .ref 2]) (x' := x4) hok hT bk_G_define_21_2_ok rfl ?_
  refine jm_V.callV (av := [.ref 2, .int 12]) (rest := []) hok (jm_Con.mono (c_G_learn hok hrec 12 x4) (by omega)) (jm_Inv.obj (q := ("FilterReader$Grammar", T_G, 5)) dd_G_define_24 (Or.inl lk_G_148) mn_G_learn ms_G_learn mw_G_learn mh_G_learn ml_G_learn rfl rfl) mw_G_learn mi_G (Nat.le_of_ble_eq_true rfl) (Nat.le_of_ble_eq_true rfl) (fun x5 => ?_)
  refine jm_V.run (is := bk_G_define_27_2) (pc' := 31) (ls' := [(2, .int b2), (0, .ref 2), (1, .int a1)]) (st' := [.ref 4]) (x' := x5) hok hT bk_G_define_27_2_ok rfl ?_
  refine jm_V.callV (av := [.ref 4]) (rest := []) hok (jm_Con.mono (c_S_next hok hrec x5) (by omega)) (jm_Inv.obj (q := ("FilterReader$Signs", T_S, 5)) dd_G_define_31 (Or.inl lk_G_82) mn_S_next ms_S_next mw_S_next mh_S_next ml_S_next rfl rfl) mw_S_next mi_S (Nat.le_of_ble_eq_true rfl) (Nat.le_of_ble_eq_true rfl) (fun x6 => ?_)
  refine jm_V.run (is := bk_G_define_34_2) (pc' := 38) (ls' := [(2, .int b2), (0, .ref 2), (1, .int a1)]) (st' := [.ref 1012, .ref 2]) (x' := x6) hok hT bk_G_define_34_2_ok rfl ?_
  refine jm_V.callI (av := [.ref 2, .ref 1012]) (rest := []) hok (jm_Con.mono (c_G_takes hok hrec 1012 x6) (by omega)) (jm_Inv.obj (q := ("FilterReader$Grammar", T_G, 5)) dd_G_define_38 (Or.inl lk_G_154) mn_G_takes ms_G_takes mw_G_takes mh_G_takes ml_G_takes rfl rfl) mw_G_takes mi_G (Nat.le_of_ble_eq_true rfl) (Nat.le_of_ble_eq_true rfl) (fun b8 x7 => ?_)
  refine jm_V.run (is := bk_G_define_41_1) (pc' := (if b8 = 0 then 93 else 44)) (ls' := [(2, .int b2), (0, .ref 2), (1, .int a1)]) (st' := []) (x' := x7) hok hT bk_G_define_41_1_ok rfl ?_
  refine jm_V.ite (fun _ => ?_) (fun _ => ?_)
  · refine jm_V.sub (ls' := [(0, .ref 2), (1, .int a1), (2, .int b2)]) [1, 2, 0] rfl ?_
    exact jj_G_define_93 hok hrec a1 b2 x7
  · refine jm_V.run (is := bk_G_define_44_2) (pc' := 46) (ls' := [(3, .int 0), (2, .int b2), (0, .ref 2), (1, .int a1)]) (st' := []) (x' := x7) hok hT bk_G_define_44_2_ok rfl ?_
    refine jm_V.sub (ls' := [(0, .ref 2), (1, .int a1), (2, .int b2), (3, .int 0)]) [2, 3, 1, 0] rfl ?_
    exact jl_G_define_46 hok hrec K a1 b2 0 x7
abbrev bk_G_label_0_2 : List (Nat × Instr × Nat) := [(0, .aload_n 0, 1), (1, .bipush 27, 2)]
theorem bk_G_label_0_2_ok : jm_at mt_G_label.2.1 bk_G_label_0_2 = true := by decide +kernel
abbrev bk_G_label_6_2 : List (Nat × Instr × Nat) := [(6, .aload_n 0, 1), (7, .getstatic 176, 3)]
theorem bk_G_label_6_2_ok : jm_at mt_G_label.2.1 bk_G_label_6_2 = true := by decide +kernel
abbrev bk_G_label_13_2 : List (Nat × Instr × Nat) := [(13, .aload_n 0, 1), (14, .bipush (-3), 2)]
theorem bk_G_label_13_2_ok : jm_at mt_G_label.2.1 bk_G_label_13_2 = true := by decide +kernel
abbrev bk_G_label_19_2 : List (Nat × Instr × Nat) := [(19, .aload_n 0, 1), (20, .getfield 20, 3)]
theorem bk_G_label_19_2_ok : jm_at mt_G_label.2.1 bk_G_label_19_2 = true := by decide +kernel
abbrev bk_G_label_26_2 : List (Nat × Instr × Nat) := [(26, .aload_n 0, 1), (27, .getstatic 179, 3)]
theorem bk_G_label_26_2_ok : jm_at mt_G_label.2.1 bk_G_label_26_2 = true := by decide +kernel
theorem dd_G_label_3 : decode mt_G_label.2.1 3 = .ok (.invokevirtual 124, 3) := by decide +kernel
theorem dd_G_label_10 : decode mt_G_label.2.1 10 = .ok (.invokevirtual 55, 3) := by decide +kernel
theorem dd_G_label_16 : decode mt_G_label.2.1 16 = .ok (.invokevirtual 148, 3) := by decide +kernel
theorem dd_G_label_23 : decode mt_G_label.2.1 23 = .ok (.invokevirtual 82, 3) := by decide +kernel
theorem dd_G_label_30 : decode mt_G_label.2.1 30 = .ok (.invokevirtual 170, 3) := by decide +kernel
theorem dd_G_label_33 : decode mt_G_label.2.1 33 = .ok (.return_, 1) := by decide +kernel
def f_G_label (K : Nat) (g : jm_Rec)  (x : jm_X) : Option jm_R := jm_bV (f_G_takeAs K g 27 x) (fun x1 => jm_bV (f_G_need K g 1004 x1) (fun x2 => jm_bV (f_G_learn K g (-3) x2) (fun x3 => jm_bV (f_S_next K g x3) (fun x4 => jm_bV (f_G_take K g 1031 x4) (fun x5 => some (.inl (none, x5)))))))
set_option maxRecDepth 100000 in
set_option maxHeartbeats 4000000 in
theorem c_G_label {l : Launch} {D : va_G} {ad : Nat → Nat} {aC : Nat → ClassId} {b0 : Nat} {K d0 : Nat} {g : jm_Rec} (hok : jm_Ok (jm_PP l D clC ad aC shC b0 1)) (hrec : ∀ (t : Nat) (av : List Value) (x : jm_X), jm_Con (jm_PP l D clC ad aC shC b0 1) (rcC t) d0 av x (g t av x))  (x : jm_X) : jm_Con (jm_PP l D clC ad aC shC b0 1) mt_G_label (d0 + 10) [.ref 2] x (f_G_label K g  x) := by
  refine jm_Con.of (plainFor_of_name (by decide +kernel)) (Nat.le_of_ble_eq_true rfl) ?_
  have hT := tk_G (l := l) (D := D) (ad := ad) (aC := aC) (b0 := b0)
  unfold f_G_label
  show jm_V _ _ _ 0 [(0, .ref 2)] [] x _
  refine jm_V.run (is := bk_G_label_0_2) (pc' := 3) (ls' := [(0, .ref 2)]) (st' := [.int 27, .ref 2]) (x' := x) hok hT bk_G_label_0_2_ok rfl ?_
  refine jm_V.callV (av := [.ref 2, .int 27]) (rest := []) hok (jm_Con.mono (c_G_takeAs hok hrec 27 x) (by omega)) (jm_Inv.obj (q := ("FilterReader$Grammar", T_G, 5)) dd_G_label_3 (Or.inl lk_G_124) mn_G_takeAs ms_G_takeAs mw_G_takeAs mh_G_takeAs ml_G_takeAs rfl rfl) mw_G_takeAs mi_G (Nat.le_of_ble_eq_true rfl) (Nat.le_of_ble_eq_true rfl) (fun x1 => ?_)
  refine jm_V.run (is := bk_G_label_6_2) (pc' := 10) (ls' := [(0, .ref 2)]) (st' := [.ref 1004, .ref 2]) (x' := x1) hok hT bk_G_label_6_2_ok rfl ?_
  refine jm_V.callV (av := [.ref 2, .ref 1004]) (rest := []) hok (jm_Con.mono (c_G_need hok hrec 1004 x1) (by omega)) (jm_Inv.obj (q := ("FilterReader$Grammar", T_G, 5)) dd_G_label_10 (Or.inl lk_G_55) mn_G_need ms_G_need mw_G_need mh_G_need ml_G_need rfl rfl) mw_G_need mi_G (Nat.le_of_ble_eq_true rfl) (Nat.le_of_ble_eq_true rfl) (fun x2 => ?_)
  refine jm_V.run (is := bk_G_label_13_2) (pc' := 16) (ls' := [(0, .ref 2)]) (st' := [.int (-3), .ref 2]) (x' := x2) hok hT bk_G_label_13_2_ok rfl ?_
  refine jm_V.callV (av := [.ref 2, .int (-3)]) (rest := []) hok (jm_Con.mono (c_G_learn hok hrec (-3) x2) (by omega)) (jm_Inv.obj (q := ("FilterReader$Grammar", T_G, 5)) dd_G_label_16 (Or.inl lk_G_148) mn_G_learn ms_G_learn mw_G_learn mh_G_learn ml_G_learn rfl rfl) mw_G_learn mi_G (Nat.le_of_ble_eq_true rfl) (Nat.le_of_ble_eq_true rfl) (fun x3 => ?_)
  refine jm_V.run (is := bk_G_label_19_2) (pc' := 23) (ls' := [(0, .ref 2)]) (st' := [.ref 4]) (x' := x3) hok hT bk_G_label_19_2_ok rfl ?_
  refine jm_V.callV (av := [.ref 4]) (rest := []) hok (jm_Con.mono (c_S_next hok hrec x3) (by omega)) (jm_Inv.obj (q := ("FilterReader$Signs", T_S, 5)) dd_G_label_23 (Or.inl lk_G_82) mn_S_next ms_S_next mw_S_next mh_S_next ml_S_next rfl rfl) mw_S_next mi_S (Nat.le_of_ble_eq_true rfl) (Nat.le_of_ble_eq_true rfl) (fun x4 => ?_)
  refine jm_V.run (is := bk_G_label_26_2) (pc' := 30) (ls' := [(0, .ref 2)]) (st' := [.ref 1031, .ref 2]) (x' := x4) hok hT bk_G_label_26_2_ok rfl ?_
  refine jm_V.callV (av := [.ref 2, .ref 1031]) (rest := []) hok (jm_Con.mono (c_G_take hok hrec 1031 x4) (by omega)) (jm_Inv.obj (q := ("FilterReader$Grammar", T_G, 5)) dd_G_label_30 (Or.inl lk_G_170) mn_G_take ms_G_take mw_G_take mh_G_take ml_G_take rfl rfl) mw_G_take mi_G (Nat.le_of_ble_eq_true rfl) (Nat.le_of_ble_eq_true rfl) (fun x5 => ?_)
  exact jm_V.vret rfl dd_G_label_33
abbrev bk_G_heads_0_2 : List (Nat × Instr × Nat) := [(0, .iload_n 1, 1), (1, .istore_n 2, 1)]
theorem bk_G_heads_0_2_ok : jm_at mt_G_heads.2.1 bk_G_heads_0_2 = true := by decide +kernel
abbrev bk_G_heads_2_3 : List (Nat × Instr × Nat) := [(2, .iload_n 2, 1), (3, .bipush 60, 2), (5, .if_icmp .gt 52, 3)]
theorem bk_G_heads_2_3_ok : jm_at mt_G_heads.2.1 bk_G_heads_2_3 = true := by decide +kernel
abbrev bk_G_heads_57_3 : List (Nat × Instr × Nat) := [(57, .aload_n 0, 1), (58, .aload_n 0, 1), (59, .getfield 20, 3)]
theorem bk_G_heads_57_3_ok : jm_at mt_G_heads.2.1 bk_G_heads_57_3 = true := by decide +kernel
abbrev bk_G_heads_68_1 : List (Nat × Instr × Nat) := [(68, .bipush 60, 2)]
theorem bk_G_heads_68_1_ok : jm_at mt_G_heads.2.1 bk_G_heads_68_1 = true := by decide +kernel
abbrev bk_G_heads_8_3 : List (Nat × Instr × Nat) := [(8, .aload_n 0, 1), (9, .getfield 20, 3), (12, .getstatic 133, 3)]
theorem bk_G_heads_8_3_ok : jm_at mt_G_heads.2.1 bk_G_heads_8_3 = true := by decide +kernel
abbrev bk_G_heads_18_1 : List (Nat × Instr × Nat) := [(18, .ifCond .eq 11, 3)]
theorem bk_G_heads_18_1_ok : jm_at mt_G_heads.2.1 bk_G_heads_18_1 = true := by decide +kernel
abbrev bk_G_heads_29_3 : List (Nat × Instr × Nat) := [(29, .aload_n 0, 1), (30, .getfield 20, 3), (33, .getstatic 139, 3)]
theorem bk_G_heads_29_3_ok : jm_at mt_G_heads.2.1 bk_G_heads_29_3 = true := by decide +kernel
abbrev bk_G_heads_39_1 : List (Nat × Instr × Nat) := [(39, .ifCond .eq 10, 3)]
theorem bk_G_heads_39_1_ok : jm_at mt_G_heads.2.1 bk_G_heads_39_1 = true := by decide +kernel
abbrev bk_G_heads_49_1 : List (Nat × Instr × Nat) := [(49, .iload_n 2, 1)]
theorem bk_G_heads_49_1_ok : jm_at mt_G_heads.2.1 bk_G_heads_49_1 = true := by decide +kernel
abbrev bk_G_heads_42_1 : List (Nat × Instr × Nat) := [(42, .aload_n 0, 1)]
theorem bk_G_heads_42_1_ok : jm_at mt_G_heads.2.1 bk_G_heads_42_1 = true := by decide +kernel
abbrev bk_G_heads_46_1 : List (Nat × Instr × Nat) := [(46, .goto 5, 3)]
theorem bk_G_heads_46_1_ok : jm_at mt_G_heads.2.1 bk_G_heads_46_1 = true := by decide +kernel
abbrev bk_G_heads_21_2 : List (Nat × Instr × Nat) := [(21, .aload_n 0, 1), (22, .iload_n 2, 1)]
theorem bk_G_heads_21_2_ok : jm_at mt_G_heads.2.1 bk_G_heads_21_2 = true := by decide +kernel
abbrev bk_G_heads_26_1 : List (Nat × Instr × Nat) := [(26, .goto 25, 3)]
theorem bk_G_heads_26_1_ok : jm_at mt_G_heads.2.1 bk_G_heads_26_1 = true := by decide +kernel
abbrev bk_G_heads_51_2 : List (Nat × Instr × Nat) := [(51, .iinc 2 1, 3), (54, .goto (-52), 3)]
theorem bk_G_heads_51_2_ok : jm_at mt_G_heads.2.1 bk_G_heads_51_2 = true := by decide +kernel
theorem dd_G_heads_62 : decode mt_G_heads.2.1 62 = .ok (.invokevirtual 75, 3) := by decide +kernel
theorem dd_G_heads_65 : decode mt_G_heads.2.1 65 = .ok (.invokevirtual 79, 3) := by decide +kernel
theorem dd_G_heads_70 : decode mt_G_heads.2.1 70 = .ok (.ireturn, 1) := by decide +kernel
theorem dd_G_heads_15 : decode mt_G_heads.2.1 15 = .ok (.invokevirtual 71, 3) := by decide +kernel
theorem dd_G_heads_36 : decode mt_G_heads.2.1 36 = .ok (.invokevirtual 71, 3) := by decide +kernel
theorem dd_G_heads_50 : decode mt_G_heads.2.1 50 = .ok (.ireturn, 1) := by decide +kernel
theorem dd_G_heads_43 : decode mt_G_heads.2.1 43 = .ok (.invokevirtual 142, 3) := by decide +kernel
theorem dd_G_heads_23 : decode mt_G_heads.2.1 23 = .ok (.invokevirtual 136, 3) := by decide +kernel
def J_G_heads_51 (K : Nat) (g : jm_Rec) (k2 : Int32 → jm_X → Option jm_R) (v2 : Int32) (x : jm_X) : Option jm_R := k2 (v2 + 1) x
set_option maxRecDepth 100000 in
set_option maxHeartbeats 4000000 in
theorem jj_G_heads_51 {l : Launch} {D : va_G} {ad : Nat → Nat} {aC : Nat → ClassId} {b0 : Nat} {K d0 : Nat} {g : jm_Rec} (hok : jm_Ok (jm_PP l D clC ad aC shC b0 1)) (hrec : ∀ (t : Nat) (av : List Value) (x : jm_X), jm_Con (jm_PP l D clC ad aC shC b0 1) (rcC t) d0 av x (g t av x)) {k2 : Int32 → jm_X → Option jm_R} (hk2 : ∀ (v2 : Int32) (x : jm_X), jm_V (jm_PP l D clC ad aC shC b0 1) mt_G_heads (d0 + 11) 2 [(0, .ref 2), (2, .int v2)] [] x (k2 v2 x)) (v2 : Int32) (x : jm_X) : jm_V (jm_PP l D clC ad aC shC b0 1) mt_G_heads (d0 + 11) 51 [(0, .ref 2), (2, .int v2)] [] x (J_G_heads_51 K g k2 v2 x) := by
  have hT := tk_G (l := l) (D := D) (ad := ad) (aC := aC) (b0 := b0)
  unfold J_G_heads_51
  refine jm_V.run (is := bk_G_heads_51_2) (pc' := 2) (ls' := [(2, .int (v2 + 1)), (0, .ref 2)]) (st' := []) (x' := x) hok hT bk_G_heads_51_2_ok rfl ?_
  refine jm_V.sub (ls' := [(0, .ref 2), (2, .int (v2 + 1))]) [1, 0] rfl ?_
  exact hk2 (v2 + 1) x
def B_G_heads_2 (K : Nat) (g : jm_Rec) (self : Int32 → jm_X → Option jm_R) (v2 : Int32) (x : jm_X) : Option jm_R := (if 60 < v2 then jm_bI (f_S_start K g x) (fun b2 x1 => jm_bV (f_G_broken K g b2 x1) (fun x3 => some (.inl (some (.int 60), x3)))) else jm_bI (f_S_is K g 1021 x) (fun b5 x4 => (if b5 = 0 then jm_bI (f_S_is K g 1027 x4) (fun b7 x6 => (if b7 = 0 then some (.inl (some (.int v2), x6)) else jm_bV (f_G_label K g x6) (fun x8 => J_G_heads_51 K g self v2 x8))) else jm_bV (f_G_define K g v2 x4) (fun x9 => J_G_heads_51 K g self v2 x9))))
def L_G_heads_2 (K : Nat) (g : jm_Rec) : Nat → Int32 → jm_X → Option jm_R
  | 0, _, _ => none
  | k + 1, v2, x => B_G_heads_2 K g (L_G_heads_2 K g k) v2 x
set_option maxRecDepth 100000 in
set_option maxHeartbeats 4000000 in
theorem jb_G_heads_2 {l : Launch} {D : va_G} {ad : Nat → Nat} {aC : Nat → ClassId} {b0 : Nat} {K d0 : Nat} {g : jm_Rec} (hok : jm_Ok (jm_PP l D clC ad aC shC b0 1)) (hrec : ∀ (t : Nat) (av : List Value) (x : jm_X), jm_Con (jm_PP l D clC ad aC shC b0 1) (rcC t) d0 av x (g t av x)) {self : Int32 → jm_X → Option jm_R} (hself : ∀ (v2 : Int32) (x : jm_X), jm_V (jm_PP l D clC ad aC shC b0 1) mt_G_heads (d0 + 11) 2 [(0, .ref 2), (2, .int v2)] [] x (self v2 x)) (v2 : Int32) (x : jm_X) : jm_V (jm_PP l D clC ad aC shC b0 1) mt_G_heads (d0 + 11) 2 [(0, .ref 2), (2, .int v2)] [] x (B_G_heads_2 K g self v2 x) := by
  have hT := tk_G (l := l) (D := D) (ad := ad) (aC := aC) (b0 := b0)
  unfold B_G_heads_2
  refine jm_V.run (is := bk_G_heads_2_3) (pc' := (if 60 < v2 then 57 else 8)) (ls' := [(0, .ref 2), (2, .int v2)]) (st' := []) (x' := x) hok hT bk_G_heads_2_3_ok rfl ?_
  refine jm_V.ite (fun _ => ?_) (fun _ => ?_)
  · refine jm_V.run (is := bk_G_heads_57_3) (pc' := 62) (ls' := [(0, .ref 2), (2, .int v2)]) (st' := [.ref 4, .ref 2]) (x' := x) hok hT bk_G_heads_57_3_ok rfl ?_
    refine jm_V.callI (av := [.ref 4]) (rest := [.ref 2]) hok (jm_Con.mono (c_S_start hok hrec x) (by omega)) (jm_Inv.obj (q := ("FilterReader$Signs", T_S, 5)) dd_G_heads_62 (Or.inl lk_G_75) mn_S_start ms_S_start mw_S_start mh_S_start ml_S_start rfl rfl) mw_S_start mi_S (Nat.le_of_ble_eq_true rfl) (Nat.le_of_ble_eq_true rfl) (fun b2 x1 => ?_)
    refine jm_V.callV (av := [.ref 2, .int b2]) (rest := []) hok (jm_Con.mono (c_G_broken hok hrec b2 x1) (by omega)) (jm_Inv.obj (q := ("FilterReader$Grammar", T_G, 5)) dd_G_heads_65 (Or.inl lk_G_79) mn_G_broken ms_G_broken mw_G_broken mh_G_broken ml_G_broken rfl rfl) mw_G_broken mi_G (Nat.le_of_ble_eq_true rfl) (Nat.le_of_ble_eq_true rfl) (fun x3 => ?_)
    refine jm_V.run (is := bk_G_heads_68_1) (pc' := 70) (ls' := [(0, .ref 2), (2, .int v2)]) (st' := [.int 60]) (x' := x3) hok hT bk_G_heads_68_1_ok rfl ?_
    exact jm_V.iret rfl dd_G_heads_70
  · refine jm_V.run (is := bk_G_heads_8_3) (pc' := 15) (ls' := [(0, .ref 2), (2, .int v2)]) (st' := [.ref 1021, .ref 4]) (x' := x) hok hT bk_G_heads_8_3_ok rfl ?_
    refine jm_V.callI (av := [.ref 4, .ref 1021]) (rest := []) hok (jm_Con.mono (c_S_is hok hrec 1021 x) (by omega)) (jm_Inv.obj (q := ("FilterReader$Signs", T_S, 5)) dd_G_heads_15 (Or.inl lk_G_71) mn_S_is ms_S_is mw_S_is mh_S_is ml_S_is rfl rfl) mw_S_is mi_S (Nat.le_of_ble_eq_true rfl) (Nat.le_of_ble_eq_true rfl) (fun b5 x4 => ?_)
    refine jm_V.run (is := bk_G_heads_18_1) (pc' := (if b5 = 0 then 29 else 21)) (ls' := [(0, .ref 2), (2, .int v2)]) (st' := []) (x' := x4) hok hT bk_G_heads_18_1_ok rfl ?_
    refine jm_V.ite (fun _ => ?_) (fun _ => ?_)
    · refine jm_V.run (is := bk_G_heads_29_3) (pc' := 36) (ls' := [(0, .ref 2), (2, .int v2)]) (st' := [.ref 1027, .ref 4]) (x' := x4) hok hT bk_G_heads_29_3_ok rfl ?_
      refine jm_V.callI (av := [.ref 4, .ref 1027]) (rest := []) hok (jm_Con.mono (c_S_is hok hrec 1027 x4) (by omega)) (jm_Inv.obj (q := ("FilterReader$Signs", T_S, 5)) dd_G_heads_36 (Or.inl lk_G_71) mn_S_is ms_S_is mw_S_is mh_S_is ml_S_is rfl rfl) mw_S_is mi_S (Nat.le_of_ble_eq_true rfl) (Nat.le_of_ble_eq_true rfl) (fun b7 x6 => ?_)
      refine jm_V.run (is := bk_G_heads_39_1) (pc' := (if b7 = 0 then 49 else 42)) (ls' := [(0, .ref 2), (2, .int v2)]) (st' := []) (x' := x6) hok hT bk_G_heads_39_1_ok rfl ?_
      refine jm_V.ite (fun _ => ?_) (fun _ => ?_)
      · refine jm_V.run (is := bk_G_heads_49_1) (pc' := 50) (ls' := [(0, .ref 2), (2, .int v2)]) (st' := [.int v2]) (x' := x6) hok hT bk_G_heads_49_1_ok rfl ?_
        exact jm_V.iret rfl dd_G_heads_50
      · refine jm_V.run (is := bk_G_heads_42_1) (pc' := 43) (ls' := [(0, .ref 2), (2, .int v2)]) (st' := [.ref 2]) (x' := x6) hok hT bk_G_heads_42_1_ok rfl ?_
        refine jm_V.callV (av := [.ref 2]) (rest := []) hok (jm_Con.mono (c_G_label hok hrec x6) (by omega)) (jm_Inv.obj (q := ("FilterReader$Grammar", T_G, 5)) dd_G_heads_43 (Or.inl lk_G_142) mn_G_label ms_G_label mw_G_label mh_G_label ml_G_label rfl rfl) mw_G_label mi_G (Nat.le_of_ble_eq_true rfl) (Nat.le_of_ble_eq_true rfl) (fun x8 => ?_)
        refine jm_V.run (is := bk_G_heads_46_1) (pc' := 51) (ls' := [(0, .ref 2), (2, .int v2)]) (st' := []) (x' := x8) hok hT bk_G_heads_46_1_ok rfl ?_
        exact jj_G_heads_51 hok hrec hself v2 x8
    · refine jm_V.run (is := bk_G_heads_21_2) (pc' := 23) (ls' := [(0, .ref 2), (2, .int v2)]) (st' := [.int v2, .ref 2]) (x' := x4) hok hT bk_G_heads_21_2_ok rfl ?_
      refine jm_V.callV (av := [.ref 2, .int v2]) (rest := []) hok (jm_Con.mono (c_G_define hok hrec v2 x4) (by omega)) (jm_Inv.obj (q := ("FilterReader$Grammar", T_G, 5)) dd_G_heads_23 (Or.inl lk_G_136) mn_G_define ms_G_define mw_G_define mh_G_define ml_G_define rfl rfl) mw_G_define mi_G (Nat.le_of_ble_eq_true rfl) (Nat.le_of_ble_eq_true rfl) (fun x9 => ?_)
      refine jm_V.run (is := bk_G_heads_26_1) (pc' := 51) (ls' := [(0, .ref 2), (2, .int v2)]) (st' := []) (x' := x9) hok hT bk_G_heads_26_1_ok rfl ?_
      exact jj_G_heads_51 hok hrec hself v2 x9
theorem jl_G_heads_2 {l : Launch} {D : va_G} {ad : Nat → Nat} {aC : Nat → ClassId} {b0 : Nat} {K d0 : Nat} {g : jm_Rec} (hok : jm_Ok (jm_PP l D clC ad aC shC b0 1)) (hrec : ∀ (t : Nat) (av : List Value) (x : jm_X), jm_Con (jm_PP l D clC ad aC shC b0 1) (rcC t) d0 av x (g t av x)) : ∀ (k : Nat) (v2 : Int32) (x : jm_X), jm_V (jm_PP l D clC ad aC shC b0 1) mt_G_heads (d0 + 11) 2 [(0, .ref 2), (2, .int v2)] [] x (L_G_heads_2 K g k v2 x)
  | 0, _, _ => jm_V.stuck
  | k + 1, v2, x => jb_G_heads_2 hok hrec (fun v2 x => jl_G_heads_2 hok hrec k v2 x) v2 x
def f_G_heads (K : Nat) (g : jm_Rec) (a1 : Int32) (x : jm_X) : Option jm_R := L_G_heads_2 K g K a1 x
set_option maxRecDepth 100000 in
set_option maxHeartbeats 4000000 in
theorem c_G_heads {l : Launch} {D : va_G} {ad : Nat → Nat} {aC : Nat → ClassId} {b0 : Nat} {K d0 : Nat} {g : jm_Rec} (hok : jm_Ok (jm_PP l D clC ad aC shC b0 1)) (hrec : ∀ (t : Nat) (av : List Value) (x : jm_X), jm_Con (jm_PP l D clC ad aC shC b0 1) (rcC t) d0 av x (g t av x)) (a1 : Int32) (x : jm_X) : jm_Con (jm_PP l D clC ad aC shC b0 1) mt_G_heads (d0 + 11) [.ref 2, .int a1] x (f_G_heads K g a1 x) := by
  refine jm_Con.of (plainFor_of_name (by decide +kernel)) (Nat.le_of_ble_eq_true rfl) ?_
  have hT := tk_G (l := l) (D := D) (ad := ad) (aC := aC) (b0 := b0)
  unfold f_G_heads
  show jm_V _ _ _ 0 [(0, .ref 2), (1, .int a1)] [] x _
  refine jm_V.run (is := bk_G_heads_0_2) (pc' := 2) (ls' := [(2, .int a1), (0, .ref 2), (1, .int a1)]) (st' := []) (x' := x) hok hT bk_G_heads_0_2_ok rfl ?_
  refine jm_V.sub (ls' := [(0, .ref 2), (2, .int a1)]) [1, 0] rfl ?_
  exact jl_G_heads_2 hok hrec K a1 x
abbrev bk_G_opened_0_3 : List (Nat × Instr × Nat) := [(0, .iload_n 1, 1), (1, .bipush 60, 2), (3, .if_icmp .le 14, 3)]
theorem bk_G_opened_0_3_ok : jm_at mt_G_opened.2.1 bk_G_opened_0_3 = true := by decide +kernel
abbrev bk_G_opened_6_3 : List (Nat × Instr × Nat) := [(6, .aload_n 0, 1), (7, .aload_n 0, 1), (8, .getfield 20, 3)]
theorem bk_G_opened_6_3_ok : jm_at mt_G_opened.2.1 bk_G_opened_6_3 = true := by decide +kernel
abbrev bk_G_opened_17_1 : List (Nat × Instr × Nat) := [(17, .iload_n 1, 1)]
theorem bk_G_opened_17_1_ok : jm_at mt_G_opened.2.1 bk_G_opened_17_1 = true := by decide +kernel
theorem dd_G_opened_11 : decode mt_G_opened.2.1 11 = .ok (.invokevirtual 75, 3) := by decide +kernel
theorem dd_G_opened_14 : decode mt_G_opened.2.1 14 = .ok (.invokevirtual 79, 3) := by decide +kernel
theorem dd_G_opened_18 : decode mt_G_opened.2.1 18 = .ok (.ireturn, 1) := by decide +kernel
def J_G_opened_17 (K : Nat) (g : jm_Rec) (v1 : Int32) (x : jm_X) : Option jm_R := some (.inl (some (.int v1), x))
set_option maxRecDepth 100000 in
set_option maxHeartbeats 4000000 in
theorem jj_G_opened_17 {l : Launch} {D : va_G} {ad : Nat → Nat} {aC : Nat → ClassId} {b0 : Nat} {K d0 : Nat} {g : jm_Rec} (hok : jm_Ok (jm_PP l D clC ad aC shC b0 1)) (hrec : ∀ (t : Nat) (av : List Value) (x : jm_X), jm_Con (jm_PP l D clC ad aC shC b0 1) (rcC t) d0 av x (g t av x)) (v1 : Int32) (x : jm_X) : jm_V (jm_PP l D clC ad aC shC b0 1) mt_G_opened (d0 + 8) 17 [(1, .int v1)] [] x (J_G_opened_17 K g v1 x) := by
  have hT := tk_G (l := l) (D := D) (ad := ad) (aC := aC) (b0 := b0)
  unfold J_G_opened_17
  refine jm_V.run (is := bk_G_opened_17_1) (pc' := 18) (ls' := [(1, .int v1)]) (st' := [.int v1]) (x' := x) hok hT bk_G_opened_17_1_ok rfl ?_
  exact jm_V.iret rfl dd_G_opened_18
def f_G_opened (K : Nat) (g : jm_Rec) (a1 : Int32) (x : jm_X) : Option jm_R := (if a1 ≤ 60 then J_G_opened_17 K g a1 x else jm_bI (f_S_start K g x) (fun b2 x1 => jm_bV (f_G_broken K g b2 x1) (fun x3 => J_G_opened_17 K g a1 x3)))
set_option maxRecDepth 100000 in
set_option maxHeartbeats 4000000 in
theorem c_G_opened {l : Launch} {D : va_G} {ad : Nat → Nat} {aC : Nat → ClassId} {b0 : Nat} {K d0 : Nat} {g : jm_Rec} (hok : jm_Ok (jm_PP l D clC ad aC shC b0 1)) (hrec : ∀ (t : Nat) (av : List Value) (x : jm_X), jm_Con (jm_PP l D clC ad aC shC b0 1) (rcC t) d0 av x (g t av x)) (a1 : Int32) (x : jm_X) : jm_Con (jm_PP l D clC ad aC shC b0 1) mt_G_opened (d0 + 8) [.ref 2, .int a1] x (f_G_opened K g a1 x) := by
  refine jm_Con.of (plainFor_of_name (by decide +kernel)) (Nat.le_of_ble_eq_true rfl) ?_
  have hT := tk_G (l := l) (D := D) (ad := ad) (aC := aC) (b0 := b0)
  unfold f_G_opened
  show jm_V _ _ _ 0 [(0, .ref 2), (1, .int a1)] [] x _
  refine jm_V.run (is := bk_G_opened_0_3) (pc' := (if a1 ≤ 60 then 17 else 6)) (ls' := [(0, .ref 2), (1, .int a1)]) (st' := []) (x' := x) hok hT bk_G_opened_0_3_ok rfl ?_
  refine jm_V.ite (fun _ => ?_) (fun _ => ?_)
  · refine jm_V.sub (ls' := [(1, .int a1)]) [1] rfl ?_
    exact jj_G_opened_17 hok hrec a1 x
  · refine jm_V.run (is := bk_G_opened_6_3) (pc' := 11) (ls' := [(0, .ref 2), (1, .int a1)]) (st' := [.ref 4, .ref 2]) (x' := x) hok hT bk_G_opened_6_3_ok rfl ?_
    refine jm_V.callI (av := [.ref 4]) (rest := [.ref 2]) hok (jm_Con.mono (c_S_start hok hrec x) (by omega)) (jm_Inv.obj (q := ("FilterReader$Signs", T_S, 5)) dd_G_opened_11 (Or.inl lk_G_75) mn_S_start ms_S_start mw_S_start mh_S_start ml_S_start rfl rfl) mw_S_start mi_S (Nat.le_of_ble_eq_true rfl) (Nat.le_of_ble_eq_true rfl) (fun b2 x1 => ?_)
    refine jm_V.callV (av := [.ref 2, .int b2]) (rest := []) hok (jm_Con.mono (c_G_broken hok hrec b2 x1) (by omega)) (jm_Inv.obj (q := ("FilterReader$Grammar", T_G, 5)) dd_G_opened_14 (Or.inl lk_G_79) mn_G_broken ms_G_broken mw_G_broken mh_G_broken ml_G_broken rfl rfl) mw_G_broken mi_G (Nat.le_of_ble_eq_true rfl) (Nat.le_of_ble_eq_true rfl) (fun x3 => ?_)
    refine jm_V.sub (ls' := [(1, .int a1)]) [1] rfl ?_
    exact jj_G_opened_17 hok hrec a1 x3
abbrev bk_G_entryName_0_2 : List (Nat × Instr × Nat) := [(0, .aload_n 0, 1), (1, .getfield 20, 3)]
theorem bk_G_entryName_0_2_ok : jm_at mt_G_entryName.2.1 bk_G_entryName_0_2 = true := by decide +kernel
abbrev bk_G_entryName_7_1 : List (Nat × Instr × Nat) := [(7, .ifCond .ne 14, 3)]
theorem bk_G_entryName_7_1_ok : jm_at mt_G_entryName.2.1 bk_G_entryName_7_1 = true := by decide +kernel
abbrev bk_G_entryName_10_3 : List (Nat × Instr × Nat) := [(10, .aload_n 0, 1), (11, .aload_n 0, 1), (12, .getfield 20, 3)]
theorem bk_G_entryName_10_3_ok : jm_at mt_G_entryName.2.1 bk_G_entryName_10_3 = true := by decide +kernel
abbrev bk_G_entryName_21_2 : List (Nat × Instr × Nat) := [(21, .aload_n 0, 1), (22, .bipush 7, 2)]
theorem bk_G_entryName_21_2_ok : jm_at mt_G_entryName.2.1 bk_G_entryName_21_2 = true := by decide +kernel
theorem dd_G_entryName_4 : decode mt_G_entryName.2.1 4 = .ok (.invokevirtual 305, 3) := by decide +kernel
theorem dd_G_entryName_15 : decode mt_G_entryName.2.1 15 = .ok (.invokevirtual 75, 3) := by decide +kernel
theorem dd_G_entryName_18 : decode mt_G_entryName.2.1 18 = .ok (.invokevirtual 79, 3) := by decide +kernel
theorem dd_G_entryName_24 : decode mt_G_entryName.2.1 24 = .ok (.invokevirtual 124, 3) := by decide +kernel
theorem dd_G_entryName_27 : decode mt_G_entryName.2.1 27 = .ok (.return_, 1) := by decide +kernel
def J_G_entryName_21 (K : Nat) (g : jm_Rec)  (x : jm_X) : Option jm_R := jm_bV (f_G_takeAs K g 7 x) (fun x6 => some (.inl (none, x6)))
set_option maxRecDepth 100000 in
set_option maxHeartbeats 4000000 in
theorem jj_G_entryName_21 {l : Launch} {D : va_G} {ad : Nat → Nat} {aC : Nat → ClassId} {b0 : Nat} {K d0 : Nat} {g : jm_Rec} (hok : jm_Ok (jm_PP l D clC ad aC shC b0 1)) (hrec : ∀ (t : Nat) (av : List Value) (x : jm_X), jm_Con (jm_PP l D clC ad aC shC b0 1) (rcC t) d0 av x (g t av x))  (x : jm_X) : jm_V (jm_PP l D clC ad aC shC b0 1) mt_G_entryName (d0 + 9) 21 [(0, .ref 2)] [] x (J_G_entryName_21 K g  x) := by
  have hT := tk_G (l := l) (D := D) (ad := ad) (aC := aC) (b0 := b0)
  unfold J_G_entryName_21
  refine jm_V.run (is := bk_G_entryName_21_2) (pc' := 24) (ls' := [(0, .ref 2)]) (st' := [.int 7, .ref 2]) (x' := x) hok hT bk_G_entryName_21_2_ok rfl ?_
  refine jm_V.callV (av := [.ref 2, .int 7]) (rest := []) hok (jm_Con.mono (c_G_takeAs hok hrec 7 x) (by omega)) (jm_Inv.obj (q := ("FilterReader$Grammar", T_G, 5)) dd_G_entryName_24 (Or.inl lk_G_124) mn_G_takeAs ms_G_takeAs mw_G_takeAs mh_G_takeAs ml_G_takeAs rfl rfl) mw_G_takeAs mi_G (Nat.le_of_ble_eq_true rfl) (Nat.le_of_ble_eq_true rfl) (fun x6 => ?_)
  exact jm_V.vret rfl dd_G_entryName_27
def f_G_entryName (K : Nat) (g : jm_Rec)  (x : jm_X) : Option jm_R := jm_bI (f_S_isNameOrWord K g x) (fun b2 x1 => (if b2 = 0 then jm_bI (f_S_start K g x1) (fun b4 x3 => jm_bV (f_G_broken K g b4 x3) (fun x5 => J_G_entryName_21 K g x5)) else J_G_entryName_21 K g x1))
set_option maxRecDepth 100000 in
set_option maxHeartbeats 4000000 in
theorem c_G_entryName {l : Launch} {D : va_G} {ad : Nat → Nat} {aC : Nat → ClassId} {b0 : Nat} {K d0 : Nat} {g : jm_Rec} (hok : jm_Ok (jm_PP l D clC ad aC shC b0 1)) (hrec : ∀ (t : Nat) (av : List Value) (x : jm_X), jm_Con (jm_PP l D clC ad aC shC b0 1) (rcC t) d0 av x (g t av x))  (x : jm_X) : jm_Con (jm_PP l D clC ad aC shC b0 1) mt_G_entryName (d0 + 9) [.ref 2] x (f_G_entryName K g  x) := by
  refine jm_Con.of (plainFor_of_name (by decide +kernel)) (Nat.le_of_ble_eq_true rfl) ?_
  have hT := tk_G (l := l) (D := D) (ad := ad) (aC := aC) (b0 := b0)
  unfold f_G_entryName
  show jm_V _ _ _ 0 [(0, .ref 2)] [] x _
  refine jm_V.run (is := bk_G_entryName_0_2) (pc' := 4) (ls' := [(0, .ref 2)]) (st' := [.ref 4]) (x' := x) hok hT bk_G_entryName_0_2_ok rfl ?_
  refine jm_V.callI (av := [.ref 4]) (rest := []) hok (jm_Con.mono (c_S_isNameOrWord hok hrec x) (by omega)) (jm_Inv.obj (q := ("FilterReader$Signs", T_S, 5)) dd_G_entryName_4 (Or.inl lk_G_305) mn_S_isNameOrWord ms_S_isNameOrWord mw_S_isNameOrWord mh_S_isNameOrWord ml_S_isNameOrWord rfl rfl) mw_S_isNameOrWord mi_S (Nat.le_of_ble_eq_true rfl) (Nat.le_of_ble_eq_true rfl) (fun b2 x1 => ?_)
  refine jm_V.run (is := bk_G_entryName_7_1) (pc' := (if b2 = 0 then 10 else 21)) (ls' := [(0, .ref 2)]) (st' := []) (x' := x1) hok hT bk_G_entryName_7_1_ok rfl ?_
  refine jm_V.ite (fun _ => ?_) (fun _ => ?_)
  · refine jm_V.run (is := bk_G_entryName_10_3) (pc' := 15) (ls' := [(0, .ref 2)]) (st' := [.ref 4, .ref 2]) (x' := x1) hok hT bk_G_entryName_10_3_ok rfl ?_
    refine jm_V.callI (av := [.ref 4]) (rest := [.ref 2]) hok (jm_Con.mono (c_S_start hok hrec x1) (by omega)) (jm_Inv.obj (q := ("FilterReader$Signs", T_S, 5)) dd_G_entryName_15 (Or.inl lk_G_75) mn_S_start ms_S_start mw_S_start mh_S_start ml_S_start rfl rfl) mw_S_start mi_S (Nat.le_of_ble_eq_true rfl) (Nat.le_of_ble_eq_true rfl) (fun b4 x3 => ?_)
    refine jm_V.callV (av := [.ref 2, .int b4]) (rest := []) hok (jm_Con.mono (c_G_broken hok hrec b4 x3) (by omega)) (jm_Inv.obj (q := ("FilterReader$Grammar", T_G, 5)) dd_G_entryName_18 (Or.inl lk_G_79) mn_G_broken ms_G_broken mw_G_broken mh_G_broken ml_G_broken rfl rfl) mw_G_broken mi_G (Nat.le_of_ble_eq_true rfl) (Nat.le_of_ble_eq_true rfl) (fun x5 => ?_)
    exact jj_G_entryName_21 hok hrec x5
  · exact jj_G_entryName_21 hok hrec x1
abbrev bk_G_group_0_2 : List (Nat × Instr × Nat) := [(0, .aload_n 0, 1), (1, .getstatic 151, 3)]
theorem bk_G_group_0_2_ok : jm_at mt_G_group.2.1 bk_G_group_0_2 = true := by decide +kernel
abbrev bk_G_group_7_2 : List (Nat × Instr × Nat) := [(7, .aload_n 0, 1), (8, .iload_n 1, 1)]
theorem bk_G_group_7_2_ok : jm_at mt_G_group.2.1 bk_G_group_7_2 = true := by decide +kernel
abbrev bk_G_group_12_2 : List (Nat × Instr × Nat) := [(12, .aload_n 0, 1), (13, .getstatic 167, 3)]
theorem bk_G_group_12_2_ok : jm_at mt_G_group.2.1 bk_G_group_12_2 = true := by decide +kernel
theorem dd_G_group_4 : decode mt_G_group.2.1 4 = .ok (.invokevirtual 170, 3) := by decide +kernel
theorem dd_G_group_9 : decode mt_G_group.2.1 9 = .ok (.invokevirtual 45, 3) := by decide +kernel
theorem dd_G_group_16 : decode mt_G_group.2.1 16 = .ok (.invokevirtual 170, 3) := by decide +kernel
theorem dd_G_group_19 : decode mt_G_group.2.1 19 = .ok (.return_, 1) := by decide +kernel
def f_G_group (K : Nat) (g : jm_Rec) (a1 : Int32) (x : jm_X) : Option jm_R := jm_bV (f_G_take K g 1012 x) (fun x1 => jm_bV (g 0 [.ref 2, .int a1] x1) (fun x2 => jm_bV (f_G_take K g 1013 x2) (fun x3 => some (.inl (none, x3)))))
set_option maxRecDepth 100000 in
set_option maxHeartbeats 4000000 in
theorem c_G_group {l : Launch} {D : va_G} {ad : Nat → Nat} {aC : Nat → ClassId} {b0 : Nat} {K d0 : Nat} {g : jm_Rec} (hok : jm_Ok (jm_PP l D clC ad aC shC b0 1)) (hrec : ∀ (t : Nat) (av : List Value) (x : jm_X), jm_Con (jm_PP l D clC ad aC shC b0 1) (rcC t) d0 av x (g t av x)) (a1 : Int32) (x : jm_X) : jm_Con (jm_PP l D clC ad aC shC b0 1) mt_G_group (d0 + 10) [.ref 2, .int a1] x (f_G_group K g a1 x) := by
  refine jm_Con.of (plainFor_of_name (by decide +kernel)) (Nat.le_of_ble_eq_true rfl) ?_
  have hT := tk_G (l := l) (D := D) (ad := ad) (aC := aC) (b0 := b0)
  unfold f_G_group
  show jm_V _ _ _ 0 [(0, .ref 2), (1, .int a1)] [] x _
  refine jm_V.run (is := bk_G_group_0_2) (pc' := 4) (ls' := [(0, .ref 2), (1, .int a1)]) (st' := [.ref 1012, .ref 2]) (x' := x) hok hT bk_G_group_0_2_ok rfl ?_
  refine jm_V.callV (av := [.ref 2, .ref 1012]) (rest := []) hok (jm_Con.mono (c_G_take hok hrec 1012 x) (by omega)) (jm_Inv.obj (q := ("FilterReader$Grammar", T_G, 5)) dd_G_group_4 (Or.inl lk_G_170) mn_G_take ms_G_take mw_G_take mh_G_take ml_G_take rfl rfl) mw_G_take mi_G (Nat.le_of_ble_eq_true rfl) (Nat.le_of_ble_eq_true rfl) (fun x1 => ?_)
  refine jm_V.run (is := bk_G_group_7_2) (pc' := 9) (ls' := [(0, .ref 2), (1, .int a1)]) (st' := [.int a1, .ref 2]) (x' := x1) hok hT bk_G_group_7_2_ok rfl ?_
  refine jm_V.callV (av := [.ref 2, .int a1]) (rest := []) hok (jm_Con.mono (hrec 0 [.ref 2, .int a1] x1) (by omega)) (jm_Inv.obj (q := ("FilterReader$Grammar", T_G, 5)) dd_G_group_9 (Or.inl lk_G_45) mn_G_program ms_G_program mw_G_program mh_G_program ml_G_program rfl rfl) mw_G_program mi_G (Nat.le_of_ble_eq_true rfl) (Nat.le_of_ble_eq_true rfl) (fun x2 => ?_)
  refine jm_V.run (is := bk_G_group_12_2) (pc' := 16) (ls' := [(0, .ref 2), (1, .int a1)]) (st' := [.ref 1013, .ref 2]) (x' := x2) hok hT bk_G_group_12_2_ok rfl ?_
  refine jm_V.callV (av := [.ref 2, .ref 1013]) (rest := []) hok (jm_Con.mono (c_G_take hok hrec 1013 x2) (by omega)) (jm_Inv.obj (q := ("FilterReader$Grammar", T_G, 5)) dd_G_group_16 (Or.inl lk_G_170) mn_G_take ms_G_take mw_G_take mh_G_take ml_G_take rfl rfl) mw_G_take mi_G (Nat.le_of_ble_eq_true rfl) (Nat.le_of_ble_eq_true rfl) (fun x3 => ?_)
  exact jm_V.vret rfl dd_G_group_19
abbrev bk_G_patternName_0_3 : List (Nat × Instr × Nat) := [(0, .iload_n 1, 1), (1, .bipush 10, 2), (3, .if_icmp .lt 14, 3)]
theorem bk_G_patternName_0_3_ok : jm_at mt_G_patternName.2.1 bk_G_patternName_0_3 = true := by decide +kernel
abbrev bk_G_patternName_6_3 : List (Nat × Instr × Nat) := [(6, .aload_n 0, 1), (7, .aload_n 0, 1), (8, .getfield 20, 3)]
theorem bk_G_patternName_6_3_ok : jm_at mt_G_patternName.2.1 bk_G_patternName_6_3 = true := by decide +kernel
abbrev bk_G_patternName_17_2 : List (Nat × Instr × Nat) := [(17, .aload_n 0, 1), (18, .bipush (-2), 2)]
theorem bk_G_patternName_17_2_ok : jm_at mt_G_patternName.2.1 bk_G_patternName_17_2 = true := by decide +kernel
abbrev bk_G_patternName_23_2 : List (Nat × Instr × Nat) := [(23, .aload_n 0, 1), (24, .getfield 20, 3)]
theorem bk_G_patternName_23_2_ok : jm_at mt_G_patternName.2.1 bk_G_patternName_23_2 = true := by decide +kernel
abbrev bk_G_patternName_30_3 : List (Nat × Instr × Nat) := [(30, .iload_n 1, 1), (31, .iconst 1, 1), (32, .iadd, 1)]
theorem bk_G_patternName_30_3_ok : jm_at mt_G_patternName.2.1 bk_G_patternName_30_3 = true := by decide +kernel
theorem dd_G_patternName_11 : decode mt_G_patternName.2.1 11 = .ok (.invokevirtual 75, 3) := by decide +kernel
theorem dd_G_patternName_14 : decode mt_G_patternName.2.1 14 = .ok (.invokevirtual 79, 3) := by decide +kernel
theorem dd_G_patternName_20 : decode mt_G_patternName.2.1 20 = .ok (.invokevirtual 148, 3) := by decide +kernel
theorem dd_G_patternName_27 : decode mt_G_patternName.2.1 27 = .ok (.invokevirtual 82, 3) := by decide +kernel
theorem dd_G_patternName_33 : decode mt_G_patternName.2.1 33 = .ok (.ireturn, 1) := by decide +kernel
def J_G_patternName_17 (K : Nat) (g : jm_Rec) (v1 : Int32) (x : jm_X) : Option jm_R := jm_bV (f_G_learn K g (-2) x) (fun x4 => jm_bV (f_S_next K g x4) (fun x5 => some (.inl (some (.int (v1 + 1)), x5))))
set_option maxRecDepth 100000 in
set_option maxHeartbeats 4000000 in
theorem jj_G_patternName_17 {l : Launch} {D : va_G} {ad : Nat → Nat} {aC : Nat → ClassId} {b0 : Nat} {K d0 : Nat} {g : jm_Rec} (hok : jm_Ok (jm_PP l D clC ad aC shC b0 1)) (hrec : ∀ (t : Nat) (av : List Value) (x : jm_X), jm_Con (jm_PP l D clC ad aC shC b0 1) (rcC t) d0 av x (g t av x)) (v1 : Int32) (x : jm_X) : jm_V (jm_PP l D clC ad aC shC b0 1) mt_G_patternName (d0 + 8) 17 [(0, .ref 2), (1, .int v1)] [] x (J_G_patternName_17 K g v1 x) := by
  have hT := tk_G (l := l) (D := D) (ad := ad) (aC := aC) (b0 := b0)
  unfold J_G_patternName_17
  refine jm_V.run (is := bk_G_patternName_17_2) (pc' := 20) (ls' := [(0, .ref 2), (1, .int v1)]) (st' := [.int (-2), .ref 2]) (x' := x) hok hT bk_G_patternName_17_2_ok rfl ?_
  refine jm_V.callV (av := [.ref 2, .int (-2)]) (rest := []) hok (jm_Con.mono (c_G_learn hok hrec (-2) x) (by omega)) (jm_Inv.obj (q := ("FilterReader$Grammar", T_G, 5)) dd_G_patternName_20 (Or.inl lk_G_148) mn_G_learn ms_G_learn mw_G_learn mh_G_learn ml_G_learn rfl rfl) mw_G_learn mi_G (Nat.le_of_ble_eq_true rfl) (Nat.le_of_ble_eq_true rfl) (fun x4 => ?_)
  refine jm_V.run (is := bk_G_patternName_23_2) (pc' := 27) (ls' := [(0, .ref 2), (1, .int v1)]) (st' := [.ref 4]) (x' := x4) hok hT bk_G_patternName_23_2_ok rfl ?_
  refine jm_V.callV (av := [.ref 4]) (rest := []) hok (jm_Con.mono (c_S_next hok hrec x4) (by omega)) (jm_Inv.obj (q := ("FilterReader$Signs", T_S, 5)) dd_G_patternName_27 (Or.inl lk_G_82) mn_S_next ms_S_next mw_S_next mh_S_next ml_S_next rfl rfl) mw_S_next mi_S (Nat.le_of_ble_eq_true rfl) (Nat.le_of_ble_eq_true rfl) (fun x5 => ?_)
  refine jm_V.run (is := bk_G_patternName_30_3) (pc' := 33) (ls' := [(0, .ref 2), (1, .int v1)]) (st' := [.int (v1 + 1)]) (x' := x5) hok hT bk_G_patternName_30_3_ok rfl ?_
  exact jm_V.iret rfl dd_G_patternName_33
def f_G_patternName (K : Nat) (g : jm_Rec) (a1 : Int32) (x : jm_X) : Option jm_R := (if a1 < 10 then J_G_patternName_17 K g a1 x else jm_bI (f_S_start K g x) (fun b2 x1 => jm_bV (f_G_broken K g b2 x1) (fun x3 => J_G_patternName_17 K g a1 x3)))
set_option maxRecDepth 100000 in
set_option maxHeartbeats 4000000 in
theorem c_G_patternName {l : Launch} {D : va_G} {ad : Nat → Nat} {aC : Nat → ClassId} {b0 : Nat} {K d0 : Nat} {g : jm_Rec} (hok : jm_Ok (jm_PP l D clC ad aC shC b0 1)) (hrec : ∀ (t : Nat) (av : List Value) (x : jm_X), jm_Con (jm_PP l D clC ad aC shC b0 1) (rcC t) d0 av x (g t av x)) (a1 : Int32) (x : jm_X) : jm_Con (jm_PP l D clC ad aC shC b0 1) mt_G_patternName (d0 + 8) [.ref 2, .int a1] x (f_G_patternName K g a1 x) := by
  refine jm_Con.of (plainFor_of_name (by decide +kernel)) (Nat.le_of_ble_eq_true rfl) ?_
  have hT := tk_G (l := l) (D := D) (ad := ad) (aC := aC) (b0 := b0)
  unfold f_G_patternName
  show jm_V _ _ _ 0 [(0, .ref 2), (1, .int a1)] [] x _
  refine jm_V.run (is := bk_G_patternName_0_3) (pc' := (if a1 < 10 then 17 else 6)) (ls' := [(0, .ref 2), (1, .int a1)]) (st' := []) (x' := x) hok hT bk_G_patternName_0_3_ok rfl ?_
  refine jm_V.ite (fun _ => ?_) (fun _ => ?_)
  · exact jj_G_patternName_17 hok hrec a1 x
  · refine jm_V.run (is := bk_G_patternName_6_3) (pc' := 11) (ls' := [(0, .ref 2), (1, .int a1)]) (st' := [.ref 4, .ref 2]) (x' := x) hok hT bk_G_patternName_6_3_ok rfl ?_
    refine jm_V.callI (av := [.ref 4]) (rest := [.ref 2]) hok (jm_Con.mono (c_S_start hok hrec x) (by omega)) (jm_Inv.obj (q := ("FilterReader$Signs", T_S, 5)) dd_G_patternName_11 (Or.inl lk_G_75) mn_S_start ms_S_start mw_S_start mh_S_start ml_S_start rfl rfl) mw_S_start mi_S (Nat.le_of_ble_eq_true rfl) (Nat.le_of_ble_eq_true rfl) (fun b2 x1 => ?_)
    refine jm_V.callV (av := [.ref 2, .int b2]) (rest := []) hok (jm_Con.mono (c_G_broken hok hrec b2 x1) (by omega)) (jm_Inv.obj (q := ("FilterReader$Grammar", T_G, 5)) dd_G_patternName_14 (Or.inl lk_G_79) mn_G_broken ms_G_broken mw_G_broken mh_G_broken ml_G_broken rfl rfl) mw_G_broken mi_G (Nat.le_of_ble_eq_true rfl) (Nat.le_of_ble_eq_true rfl) (fun x3 => ?_)
    exact jj_G_patternName_17 hok hrec a1 x3
abbrev bk_G_stringWithoutPrograms_0_4 : List (Nat × Instr × Nat) := [(0, .aload_n 0, 1), (1, .getfield 20, 3), (4, .aload_n 0, 1), (5, .getfield 20, 3)]
theorem bk_G_stringWithoutPrograms_0_4_ok : jm_at mt_G_stringWithoutPrograms.2.1 bk_G_stringWithoutPrograms_0_4 = true := by decide +kernel
abbrev bk_G_stringWithoutPrograms_11_2 : List (Nat × Instr × Nat) := [(11, .iconst 1, 1), (12, .iadd, 1)]
theorem bk_G_stringWithoutPrograms_11_2_ok : jm_at mt_G_stringWithoutPrograms.2.1 bk_G_stringWithoutPrograms_11_2 = true := by decide +kernel
abbrev bk_G_stringWithoutPrograms_16_3 : List (Nat × Instr × Nat) := [(16, .istore_n 1, 1), (17, .iload_n 1, 1), (18, .ifCond .lt 14, 3)]
theorem bk_G_stringWithoutPrograms_16_3_ok : jm_at mt_G_stringWithoutPrograms.2.1 bk_G_stringWithoutPrograms_16_3 = true := by decide +kernel
abbrev bk_G_stringWithoutPrograms_21_3 : List (Nat × Instr × Nat) := [(21, .aload_n 0, 1), (22, .getfield 20, 3), (25, .iload_n 1, 1)]
theorem bk_G_stringWithoutPrograms_21_3_ok : jm_at mt_G_stringWithoutPrograms.2.1 bk_G_stringWithoutPrograms_21_3 = true := by decide +kernel
abbrev bk_G_stringWithoutPrograms_29_1 : List (Nat × Instr × Nat) := [(29, .ifCond .eq 14, 3)]
theorem bk_G_stringWithoutPrograms_29_1_ok : jm_at mt_G_stringWithoutPrograms.2.1 bk_G_stringWithoutPrograms_29_1 = true := by decide +kernel
abbrev bk_G_stringWithoutPrograms_32_3 : List (Nat × Instr × Nat) := [(32, .aload_n 0, 1), (33, .aload_n 0, 1), (34, .getfield 20, 3)]
theorem bk_G_stringWithoutPrograms_32_3_ok : jm_at mt_G_stringWithoutPrograms.2.1 bk_G_stringWithoutPrograms_32_3 = true := by decide +kernel
abbrev bk_G_stringWithoutPrograms_43_2 : List (Nat × Instr × Nat) := [(43, .aload_n 0, 1), (44, .bipush 7, 2)]
theorem bk_G_stringWithoutPrograms_43_2_ok : jm_at mt_G_stringWithoutPrograms.2.1 bk_G_stringWithoutPrograms_43_2 = true := by decide +kernel
abbrev bk_G_stringWithoutPrograms_49_5 : List (Nat × Instr × Nat) := [(49, .aload_n 0, 1), (50, .getfield 20, 3), (53, .iload_n 1, 1), (54, .iconst 1, 1), (55, .iadd, 1)]
theorem bk_G_stringWithoutPrograms_49_5_ok : jm_at mt_G_stringWithoutPrograms.2.1 bk_G_stringWithoutPrograms_49_5 = true := by decide +kernel
theorem dd_G_stringWithoutPrograms_8 : decode mt_G_stringWithoutPrograms.2.1 8 = .ok (.invokevirtual 75, 3) := by decide +kernel
theorem dd_G_stringWithoutPrograms_13 : decode mt_G_stringWithoutPrograms.2.1 13 = .ok (.invokevirtual 276, 3) := by decide +kernel
theorem dd_G_stringWithoutPrograms_26 : decode mt_G_stringWithoutPrograms.2.1 26 = .ok (.invokevirtual 279, 3) := by decide +kernel
theorem dd_G_stringWithoutPrograms_37 : decode mt_G_stringWithoutPrograms.2.1 37 = .ok (.invokevirtual 75, 3) := by decide +kernel
theorem dd_G_stringWithoutPrograms_40 : decode mt_G_stringWithoutPrograms.2.1 40 = .ok (.invokevirtual 79, 3) := by decide +kernel
theorem dd_G_stringWithoutPrograms_46 : decode mt_G_stringWithoutPrograms.2.1 46 = .ok (.invokevirtual 85, 3) := by decide +kernel
theorem dd_G_stringWithoutPrograms_56 : decode mt_G_stringWithoutPrograms.2.1 56 = .ok (.invokevirtual 283, 3) := by decide +kernel
theorem dd_G_stringWithoutPrograms_59 : decode mt_G_stringWithoutPrograms.2.1 59 = .ok (.return_, 1) := by decide +kernel
def J_G_stringWithoutPrograms_43 (K : Nat) (g : jm_Rec) (v1 : Int32) (x : jm_X) : Option jm_R := jm_bV (f_G_count K g 7 x) (fun x10 => jm_bV (f_S_goTo K g (v1 + 1) x10) (fun x11 => some (.inl (none, x11))))
set_option maxRecDepth 100000 in
set_option maxHeartbeats 4000000 in
theorem jj_G_stringWithoutPrograms_43 {l : Launch} {D : va_G} {ad : Nat → Nat} {aC : Nat → ClassId} {b0 : Nat} {K d0 : Nat} {g : jm_Rec} (hok : jm_Ok (jm_PP l D clC ad aC shC b0 1)) (hrec : ∀ (t : Nat) (av : List Value) (x : jm_X), jm_Con (jm_PP l D clC ad aC shC b0 1) (rcC t) d0 av x (g t av x)) (v1 : Int32) (x : jm_X) : jm_V (jm_PP l D clC ad aC shC b0 1) mt_G_stringWithoutPrograms (d0 + 9) 43 [(0, .ref 2), (1, .int v1)] [] x (J_G_stringWithoutPrograms_43 K g v1 x) := by
  have hT := tk_G (l := l) (D := D) (ad := ad) (aC := aC) (b0 := b0)
  unfold J_G_stringWithoutPrograms_43
  refine jm_V.run (is := bk_G_stringWithoutPrograms_43_2) (pc' := 46) (ls' := [(0, .ref 2), (1, .int v1)]) (st' := [.int 7, .ref 2]) (x' := x) hok hT bk_G_stringWithoutPrograms_43_2_ok rfl ?_
  refine jm_V.callV (av := [.ref 2, .int 7]) (rest := []) hok (jm_Con.mono (c_G_count hok hrec 7 x) (by omega)) (jm_Inv.obj (q := ("FilterReader$Grammar", T_G, 5)) dd_G_stringWithoutPrograms_46 (Or.inl lk_G_85) mn_G_count ms_G_count mw_G_count mh_G_count ml_G_count rfl rfl) mw_G_count mi_G (Nat.le_of_ble_eq_true rfl) (Nat.le_of_ble_eq_true rfl) (fun x10 => ?_)
  refine jm_V.run (is := bk_G_stringWithoutPrograms_49_5) (pc' := 56) (ls' := [(0, .ref 2), (1, .int v1)]) (st' := [.int (v1 + 1), .ref 4]) (x' := x10) hok hT bk_G_stringWithoutPrograms_49_5_ok rfl ?_
  refine jm_V.callV (av := [.ref 4, .int (v1 + 1)]) (rest := []) hok (jm_Con.mono (c_S_goTo hok hrec (v1 + 1) x10) (by omega)) (jm_Inv.obj (q := ("FilterReader$Signs", T_S, 5)) dd_G_stringWithoutPrograms_56 (Or.inl lk_G_283) mn_S_goTo ms_S_goTo mw_S_goTo mh_S_goTo ml_S_goTo rfl rfl) mw_S_goTo mi_S (Nat.le_of_ble_eq_true rfl) (Nat.le_of_ble_eq_true rfl) (fun x11 => ?_)
  exact jm_V.vret rfl dd_G_stringWithoutPrograms_59
def J_G_stringWithoutPrograms_32 (K : Nat) (g : jm_Rec) (v1 : Int32) (x : jm_X) : Option jm_R := jm_bI (f_S_start K g x) (fun b8 x7 => jm_bV (f_G_broken K g b8 x7) (fun x9 => J_G_stringWithoutPrograms_43 K g v1 x9))
set_option maxRecDepth 100000 in
set_option maxHeartbeats 4000000 in
theorem jj_G_stringWithoutPrograms_32 {l : Launch} {D : va_G} {ad : Nat → Nat} {aC : Nat → ClassId} {b0 : Nat} {K d0 : Nat} {g : jm_Rec} (hok : jm_Ok (jm_PP l D clC ad aC shC b0 1)) (hrec : ∀ (t : Nat) (av : List Value) (x : jm_X), jm_Con (jm_PP l D clC ad aC shC b0 1) (rcC t) d0 av x (g t av x)) (v1 : Int32) (x : jm_X) : jm_V (jm_PP l D clC ad aC shC b0 1) mt_G_stringWithoutPrograms (d0 + 9) 32 [(0, .ref 2), (1, .int v1)] [] x (J_G_stringWithoutPrograms_32 K g v1 x) := by
  have hT := tk_G (l := l) (D := D) (ad := ad) (aC := aC) (b0 := b0)
  unfold J_G_stringWithoutPrograms_32
  refine jm_V.run (is := bk_G_stringWithoutPrograms_32_3) (pc' := 37) (ls' := [(0, .ref 2), (1, .int v1)]) (st' := [.ref 4, .ref 2]) (x' := x) hok hT bk_G_stringWithoutPrograms_32_3_ok rfl ?_
  refine jm_V.callI (av := [.ref 4]) (rest := [.ref 2]) hok (jm_Con.mono (c_S_start hok hrec x) (by omega)) (jm_Inv.obj (q := ("FilterReader$Signs", T_S, 5)) dd_G_stringWithoutPrograms_37 (Or.inl lk_G_75) mn_S_start ms_S_start mw_S_start mh_S_start ml_S_start rfl rfl) mw_S_start mi_S (Nat.le_of_ble_eq_true rfl) (Nat.le_of_ble_eq_true rfl) (fun b8 x7 => ?_)
  refine jm_V.callV (av := [.ref 2, .int b8]) (rest := []) hok (jm_Con.mono (c_G_broken hok hrec b8 x7) (by omega)) (jm_Inv.obj (q := ("FilterReader$Grammar", T_G, 5)) dd_G_stringWithoutPrograms_40 (Or.inl lk_G_79) mn_G_broken ms_G_broken mw_G_broken mh_G_broken ml_G_broken rfl rfl) mw_G_broken mi_G (Nat.le_of_ble_eq_true rfl) (Nat.le_of_ble_eq_true rfl) (fun x9 => ?_)
  exact jj_G_stringWithoutPrograms_43 hok hrec v1 x9
def f_G_stringWithoutPrograms (K : Nat) (g : jm_Rec)  (x : jm_X) : Option jm_R := jm_bI (f_S_start K g x) (fun b2 x1 => jm_bI (f_S_pieceEnd K g (b2 + 1) x1) (fun b4 x3 => (if b4 < 0 then J_G_stringWithoutPrograms_32 K g b4 x3 else jm_bI (f_S_opensProgram K g b4 x3) (fun b6 x5 => (if b6 = 0 then J_G_stringWithoutPrograms_43 K g b4 x5 else J_G_stringWithoutPrograms_32 K g b4 x5)))))
set_option maxRecDepth 100000 in
set_option maxHeartbeats 4000000 in
theorem c_G_stringWithoutPrograms {l : Launch} {D : va_G} {ad : Nat → Nat} {aC : Nat → ClassId} {b0 : Nat} {K d0 : Nat} {g : jm_Rec} (hok : jm_Ok (jm_PP l D clC ad aC shC b0 1)) (hrec : ∀ (t : Nat) (av : List Value) (x : jm_X), jm_Con (jm_PP l D clC ad aC shC b0 1) (rcC t) d0 av x (g t av x))  (x : jm_X) : jm_Con (jm_PP l D clC ad aC shC b0 1) mt_G_stringWithoutPrograms (d0 + 9) [.ref 2] x (f_G_stringWithoutPrograms K g  x) := by
  refine jm_Con.of (plainFor_of_name (by decide +kernel)) (Nat.le_of_ble_eq_true rfl) ?_
  have hT := tk_G (l := l) (D := D) (ad := ad) (aC := aC) (b0 := b0)
  unfold f_G_stringWithoutPrograms
  show jm_V _ _ _ 0 [(0, .ref 2)] [] x _
  refine jm_V.run (is := bk_G_stringWithoutPrograms_0_4) (pc' := 8) (ls' := [(0, .ref 2)]) (st' := [.ref 4, .ref 4]) (x' := x) hok hT bk_G_stringWithoutPrograms_0_4_ok rfl ?_
  refine jm_V.callI (av := [.ref 4]) (rest := [.ref 4]) hok (jm_Con.mono (c_S_start hok hrec x) (by omega)) (jm_Inv.obj (q := ("FilterReader$Signs", T_S, 5)) dd_G_stringWithoutPrograms_8 (Or.inl lk_G_75) mn_S_start ms_S_start mw_S_start mh_S_start ml_S_start rfl rfl) mw_S_start mi_S (Nat.le_of_ble_eq_true rfl) (Nat.le_of_ble_eq_true rfl) (fun b2 x1 => ?_)
  refine jm_V.run (is := bk_G_stringWithoutPrograms_11_2) (pc' := 13) (ls' := [(0, .ref 2)]) (st' := [.int (b2 + 1), .ref 4]) (x' := x1) hok hT bk_G_stringWithoutPrograms_11_2_ok rfl ?_
  refine jm_V.callI (av := [.ref 4, .int (b2 + 1)]) (rest := []) hok (jm_Con.mono (c_S_pieceEnd hok hrec (b2 + 1) x1) (by omega)) (jm_Inv.obj (q := ("FilterReader$Signs", T_S, 5)) dd_G_stringWithoutPrograms_13 (Or.inl lk_G_276) mn_S_pieceEnd ms_S_pieceEnd mw_S_pieceEnd mh_S_pieceEnd ml_S_pieceEnd rfl rfl) mw_S_pieceEnd mi_S (Nat.le_of_ble_eq_true rfl) (Nat.le_of_ble_eq_true rfl) (fun b4 x3 => ?_)
  refine jm_V.run (is := bk_G_stringWithoutPrograms_16_3) (pc' := (if b4 < 0 then 32 else 21)) (ls' := [(1, .int b4), (0, .ref 2)]) (st' := []) (x' := x3) hok hT bk_G_stringWithoutPrograms_16_3_ok rfl ?_
  refine jm_V.ite (fun _ => ?_) (fun _ => ?_)
  · refine jm_V.sub (ls' := [(0, .ref 2), (1, .int b4)]) [1, 0] rfl ?_
    exact jj_G_stringWithoutPrograms_32 hok hrec b4 x3
  · refine jm_V.run (is := bk_G_stringWithoutPrograms_21_3) (pc' := 26) (ls' := [(1, .int b4), (0, .ref 2)]) (st' := [.int b4, .ref 4]) (x' := x3) hok hT bk_G_stringWithoutPrograms_21_3_ok rfl ?_
    refine jm_V.callI (av := [.ref 4, .int b4]) (rest := []) hok (jm_Con.mono (c_S_opensProgram hok hrec b4 x3) (by omega)) (jm_Inv.obj (q := ("FilterReader$Signs", T_S, 5)) dd_G_stringWithoutPrograms_26 (Or.inl lk_G_279) mn_S_opensProgram ms_S_opensProgram mw_S_opensProgram mh_S_opensProgram ml_S_opensProgram rfl rfl) mw_S_opensProgram mi_S (Nat.le_of_ble_eq_true rfl) (Nat.le_of_ble_eq_true rfl) (fun b6 x5 => ?_)
    refine jm_V.run (is := bk_G_stringWithoutPrograms_29_1) (pc' := (if b6 = 0 then 43 else 32)) (ls' := [(1, .int b4), (0, .ref 2)]) (st' := []) (x' := x5) hok hT bk_G_stringWithoutPrograms_29_1_ok rfl ?_
    refine jm_V.ite (fun _ => ?_) (fun _ => ?_)
    · refine jm_V.sub (ls' := [(0, .ref 2), (1, .int b4)]) [1, 0] rfl ?_
      exact jj_G_stringWithoutPrograms_43 hok hrec b4 x5
    · refine jm_V.sub (ls' := [(0, .ref 2), (1, .int b4)]) [1, 0] rfl ?_
      exact jj_G_stringWithoutPrograms_32 hok hrec b4 x5
abbrev bk_G_patternEntry_0_2 : List (Nat × Instr × Nat) := [(0, .aload_n 0, 1), (1, .bipush 33, 2)]
theorem bk_G_patternEntry_0_2_ok : jm_at mt_G_patternEntry.2.1 bk_G_patternEntry_0_2 = true := by decide +kernel
abbrev bk_G_patternEntry_6_5 : List (Nat × Instr × Nat) := [(6, .iload_n 2, 1), (7, .istore_n 3, 1), (8, .aload_n 0, 1), (9, .getfield 20, 3), (12, .getstatic 176, 3)]
theorem bk_G_patternEntry_6_5_ok : jm_at mt_G_patternEntry.2.1 bk_G_patternEntry_6_5 = true := by decide +kernel
abbrev bk_G_patternEntry_18_1 : List (Nat × Instr × Nat) := [(18, .ifCond .eq 30, 3)]
theorem bk_G_patternEntry_18_1_ok : jm_at mt_G_patternEntry.2.1 bk_G_patternEntry_18_1 = true := by decide +kernel
abbrev bk_G_patternEntry_48_3 : List (Nat × Instr × Nat) := [(48, .aload_n 0, 1), (49, .getfield 20, 3), (52, .getstatic 151, 3)]
theorem bk_G_patternEntry_48_3_ok : jm_at mt_G_patternEntry.2.1 bk_G_patternEntry_48_3 = true := by decide +kernel
abbrev bk_G_patternEntry_58_1 : List (Nat × Instr × Nat) := [(58, .ifCond .eq 11, 3)]
theorem bk_G_patternEntry_58_1_ok : jm_at mt_G_patternEntry.2.1 bk_G_patternEntry_58_1 = true := by decide +kernel
abbrev bk_G_patternEntry_69_3 : List (Nat × Instr × Nat) := [(69, .aload_n 0, 1), (70, .getfield 20, 3), (73, .getstatic 231, 3)]
theorem bk_G_patternEntry_69_3_ok : jm_at mt_G_patternEntry.2.1 bk_G_patternEntry_69_3 = true := by decide +kernel
abbrev bk_G_patternEntry_79_1 : List (Nat × Instr × Nat) := [(79, .ifCond .eq 10, 3)]
theorem bk_G_patternEntry_79_1_ok : jm_at mt_G_patternEntry.2.1 bk_G_patternEntry_79_1 = true := by decide +kernel
abbrev bk_G_patternEntry_89_1 : List (Nat × Instr × Nat) := [(89, .aload_n 0, 1)]
theorem bk_G_patternEntry_89_1_ok : jm_at mt_G_patternEntry.2.1 bk_G_patternEntry_89_1 = true := by decide +kernel
abbrev bk_G_patternEntry_82_1 : List (Nat × Instr × Nat) := [(82, .aload_n 0, 1)]
theorem bk_G_patternEntry_82_1_ok : jm_at mt_G_patternEntry.2.1 bk_G_patternEntry_82_1 = true := by decide +kernel
abbrev bk_G_patternEntry_86_1 : List (Nat × Instr × Nat) := [(86, .goto 7, 3)]
theorem bk_G_patternEntry_86_1_ok : jm_at mt_G_patternEntry.2.1 bk_G_patternEntry_86_1 = true := by decide +kernel
abbrev bk_G_patternEntry_61_2 : List (Nat × Instr × Nat) := [(61, .aload_n 0, 1), (62, .iload_n 1, 1)]
theorem bk_G_patternEntry_61_2_ok : jm_at mt_G_patternEntry.2.1 bk_G_patternEntry_61_2 = true := by decide +kernel
abbrev bk_G_patternEntry_66_1 : List (Nat × Instr × Nat) := [(66, .goto 27, 3)]
theorem bk_G_patternEntry_66_1_ok : jm_at mt_G_patternEntry.2.1 bk_G_patternEntry_66_1 = true := by decide +kernel
abbrev bk_G_patternEntry_21_2 : List (Nat × Instr × Nat) := [(21, .aload_n 0, 1), (22, .bipush 7, 2)]
theorem bk_G_patternEntry_21_2_ok : jm_at mt_G_patternEntry.2.1 bk_G_patternEntry_21_2 = true := by decide +kernel
abbrev bk_G_patternEntry_27_2 : List (Nat × Instr × Nat) := [(27, .aload_n 0, 1), (28, .iload_n 2, 1)]
theorem bk_G_patternEntry_27_2_ok : jm_at mt_G_patternEntry.2.1 bk_G_patternEntry_27_2 = true := by decide +kernel
abbrev bk_G_patternEntry_32_4 : List (Nat × Instr × Nat) := [(32, .istore_n 3, 1), (33, .aload_n 0, 1), (34, .getfield 20, 3), (37, .getstatic 173, 3)]
theorem bk_G_patternEntry_32_4_ok : jm_at mt_G_patternEntry.2.1 bk_G_patternEntry_32_4 = true := by decide +kernel
abbrev bk_G_patternEntry_43_1 : List (Nat × Instr × Nat) := [(43, .ifCond .ne 50, 3)]
theorem bk_G_patternEntry_43_1_ok : jm_at mt_G_patternEntry.2.1 bk_G_patternEntry_43_1 = true := by decide +kernel
abbrev bk_G_patternEntry_46_1 : List (Nat × Instr × Nat) := [(46, .iload_n 3, 1)]
theorem bk_G_patternEntry_46_1_ok : jm_at mt_G_patternEntry.2.1 bk_G_patternEntry_46_1 = true := by decide +kernel
abbrev bk_G_patternEntry_93_2 : List (Nat × Instr × Nat) := [(93, .aload_n 0, 1), (94, .getstatic 173, 3)]
theorem bk_G_patternEntry_93_2_ok : jm_at mt_G_patternEntry.2.1 bk_G_patternEntry_93_2 = true := by decide +kernel
abbrev bk_G_patternEntry_100_3 : List (Nat × Instr × Nat) := [(100, .aload_n 0, 1), (101, .iload_n 1, 1), (102, .iload_n 3, 1)]
theorem bk_G_patternEntry_100_3_ok : jm_at mt_G_patternEntry.2.1 bk_G_patternEntry_100_3 = true := by decide +kernel
theorem dd_G_patternEntry_3 : decode mt_G_patternEntry.2.1 3 = .ok (.invokevirtual 85, 3) := by decide +kernel
theorem dd_G_patternEntry_15 : decode mt_G_patternEntry.2.1 15 = .ok (.invokevirtual 71, 3) := by decide +kernel
theorem dd_G_patternEntry_55 : decode mt_G_patternEntry.2.1 55 = .ok (.invokevirtual 71, 3) := by decide +kernel
theorem dd_G_patternEntry_76 : decode mt_G_patternEntry.2.1 76 = .ok (.invokevirtual 71, 3) := by decide +kernel
theorem dd_G_patternEntry_90 : decode mt_G_patternEntry.2.1 90 = .ok (.invokevirtual 299, 3) := by decide +kernel
theorem dd_G_patternEntry_83 : decode mt_G_patternEntry.2.1 83 = .ok (.invokevirtual 318, 3) := by decide +kernel
theorem dd_G_patternEntry_63 : decode mt_G_patternEntry.2.1 63 = .ok (.invokevirtual 240, 3) := by decide +kernel
theorem dd_G_patternEntry_24 : decode mt_G_patternEntry.2.1 24 = .ok (.invokevirtual 85, 3) := by decide +kernel
theorem dd_G_patternEntry_29 : decode mt_G_patternEntry.2.1 29 = .ok (.invokevirtual 309, 3) := by decide +kernel
theorem dd_G_patternEntry_40 : decode mt_G_patternEntry.2.1 40 = .ok (.invokevirtual 71, 3) := by decide +kernel
theorem dd_G_patternEntry_47 : decode mt_G_patternEntry.2.1 47 = .ok (.ireturn, 1) := by decide +kernel
theorem dd_G_patternEntry_97 : decode mt_G_patternEntry.2.1 97 = .ok (.invokevirtual 170, 3) := by decide +kernel
theorem dd_G_patternEntry_103 : decode mt_G_patternEntry.2.1 103 = .ok (.invokevirtual 209, 3) := by decide +kernel
theorem dd_G_patternEntry_106 : decode mt_G_patternEntry.2.1 106 = .ok (.ireturn, 1) := by decide +kernel
def J_G_patternEntry_93 (K : Nat) (g : jm_Rec) (v1 : Int32) (v3 : Int32) (x : jm_X) : Option jm_R := jm_bV (f_G_take K g 1010 x) (fun x16 => jm_bI (g 2 [.ref 2, .int v1, .int v3] x16) (fun b18 x17 => some (.inl (some (.int b18), x17))))
set_option maxRecDepth 100000 in
set_option maxHeartbeats 4000000 in
theorem jj_G_patternEntry_93 {l : Launch} {D : va_G} {ad : Nat → Nat} {aC : Nat → ClassId} {b0 : Nat} {K d0 : Nat} {g : jm_Rec} (hok : jm_Ok (jm_PP l D clC ad aC shC b0 1)) (hrec : ∀ (t : Nat) (av : List Value) (x : jm_X), jm_Con (jm_PP l D clC ad aC shC b0 1) (rcC t) d0 av x (g t av x)) (v1 : Int32) (v3 : Int32) (x : jm_X) : jm_V (jm_PP l D clC ad aC shC b0 1) mt_G_patternEntry (d0 + 11) 93 [(0, .ref 2), (1, .int v1), (3, .int v3)] [] x (J_G_patternEntry_93 K g v1 v3 x) := by
  have hT := tk_G (l := l) (D := D) (ad := ad) (aC := aC) (b0 := b0)
  unfold J_G_patternEntry_93
  refine jm_V.run (is := bk_G_patternEntry_93_2) (pc' := 97) (ls' := [(0, .ref 2), (1, .int v1), (3, .int v3)]) (st' := [.ref 1010, .ref 2]) (x' := x) hok hT bk_G_patternEntry_93_2_ok rfl ?_
  refine jm_V.callV (av := [.ref 2, .ref 1010]) (rest := []) hok (jm_Con.mono (c_G_take hok hrec 1010 x) (by omega)) (jm_Inv.obj (q := ("FilterReader$Grammar", T_G, 5)) dd_G_patternEntry_97 (Or.inl lk_G_170) mn_G_take ms_G_take mw_G_take mh_G_take ml_G_take rfl rfl) mw_G_take mi_G (Nat.le_of_ble_eq_true rfl) (Nat.le_of_ble_eq_true rfl) (fun x16 => ?_)
  refine jm_V.run (is := bk_G_patternEntry_100_3) (pc' := 103) (ls' := [(0, .ref 2), (1, .int v1), (3, .int v3)]) (st' := [.int v3, .int v1, .ref 2]) (x' := x16) hok hT bk_G_patternEntry_100_3_ok rfl ?_
  refine jm_V.callI (av := [.ref 2, .int v1, .int v3]) (rest := []) hok (jm_Con.mono (hrec 2 [.ref 2, .int v1, .int v3] x16) (by omega)) (jm_Inv.obj (q := ("FilterReader$Grammar", T_G, 5)) dd_G_patternEntry_103 (Or.inl lk_G_209) mn_G_pattern ms_G_pattern mw_G_pattern mh_G_pattern ml_G_pattern rfl rfl) mw_G_pattern mi_G (Nat.le_of_ble_eq_true rfl) (Nat.le_of_ble_eq_true rfl) (fun b18 x17 => ?_)
  exact jm_V.iret rfl dd_G_patternEntry_106
def f_G_patternEntry (K : Nat) (g : jm_Rec) (a1 : Int32) (a2 : Int32) (x : jm_X) : Option jm_R := jm_bV (f_G_count K g 33 x) (fun x1 => jm_bI (f_S_is K g 1004 x1) (fun b3 x2 => (if b3 = 0 then jm_bI (f_S_is K g 1012 x2) (fun b5 x4 => (if b5 = 0 then jm_bI (f_S_is K g 1006 x4) (fun b7 x6 => (if b7 = 0 then jm_bV (f_G_entryName K g x6) (fun x8 => J_G_patternEntry_93 K g a1 a2 x8) else jm_bV (f_G_stringWithoutPrograms K g x6) (fun x9 => J_G_patternEntry_93 K g a1 a2 x9))) else jm_bV (f_G_group K g a1 x4) (fun x10 => J_G_patternEntry_93 K g a1 a2 x10))) else jm_bV (f_G_count K g 7 x2) (fun x11 => jm_bI (f_G_patternName K g a2 x11) (fun b13 x12 => jm_bI (f_S_is K g 1010 x12) (fun b15 x14 => (if b15 = 0 then some (.inl (some (.int b13), x14)) else J_G_patternEntry_93 K g a1 b13 x14)))))))
set_option maxRecDepth 100000 in
set_option maxHeartbeats 4000000 in
theorem c_G_patternEntry {l : Launch} {D : va_G} {ad : Nat → Nat} {aC : Nat → ClassId} {b0 : Nat} {K d0 : Nat} {g : jm_Rec} (hok : jm_Ok (jm_PP l D clC ad aC shC b0 1)) (hrec : ∀ (t : Nat) (av : List Value) (x : jm_X), jm_Con (jm_PP l D clC ad aC shC b0 1) (rcC t) d0 av x (g t av x)) (a1 : Int32) (a2 : Int32) (x : jm_X) : jm_Con (jm_PP l D clC ad aC shC b0 1) mt_G_patternEntry (d0 + 11) [.ref 2, .int a1, .int a2] x (f_G_patternEntry K g a1 a2 x) := by
  refine jm_Con.of (plainFor_of_name (by decide +kernel)) (Nat.le_of_ble_eq_true rfl) ?_
  have hT := tk_G (l := l) (D := D) (ad := ad) (aC := aC) (b0 := b0)
  unfold f_G_patternEntry
  show jm_V _ _ _ 0 [(0, .ref 2), (1, .int a1), (2, .int a2)] [] x _
  refine jm_V.run (is := bk_G_patternEntry_0_2) (pc' := 3) (ls' := [(0, .ref 2), (1, .int a1), (2, .int a2)]) (st' := [.int 33, .ref 2]) (x' := x) hok hT bk_G_patternEntry_0_2_ok rfl ?_
  refine jm_V.callV (av := [.ref 2, .int 33]) (rest := []) hok (jm_Con.mono (c_G_count hok hrec 33 x) (by omega)) (jm_Inv.obj (q := ("FilterReader$Grammar", T_G, 5)) dd_G_patternEntry_3 (Or.inl lk_G_85) mn_G_count ms_G_count mw_G_count mh_G_count ml_G_count rfl rfl) mw_G_count mi_G (Nat.le_of_ble_eq_true rfl) (Nat.le_of_ble_eq_true rfl) (fun x1 => ?_)
  refine jm_V.run (is := bk_G_patternEntry_6_5) (pc' := 15) (ls' := [(3, .int a2), (0, .ref 2), (1, .int a1), (2, .int a2)]) (st' := [.ref 1004, .ref 4]) (x' := x1) hok hT bk_G_patternEntry_6_5_ok rfl ?_
  refine jm_V.callI (av := [.ref 4, .ref 1004]) (rest := []) hok (jm_Con.mono (c_S_is hok hrec 1004 x1) (by omega)) (jm_Inv.obj (q := ("FilterReader$Signs", T_S, 5)) dd_G_patternEntry_15 (Or.inl lk_G_71) mn_S_is ms_S_is mw_S_is mh_S_is ml_S_is rfl rfl) mw_S_is mi_S (Nat.le_of_ble_eq_true rfl) (Nat.le_of_ble_eq_true rfl) (fun b3 x2 => ?_)
  refine jm_V.run (is := bk_G_patternEntry_18_1) (pc' := (if b3 = 0 then 48 else 21)) (ls' := [(3, .int a2), (0, .ref 2), (1, .int a1), (2, .int a2)]) (st' := []) (x' := x2) hok hT bk_G_patternEntry_18_1_ok rfl ?_
  refine jm_V.ite (fun _ => ?_) (fun _ => ?_)
  · refine jm_V.run (is := bk_G_patternEntry_48_3) (pc' := 55) (ls' := [(3, .int a2), (0, .ref 2), (1, .int a1), (2, .int a2)]) (st' := [.ref 1012, .ref 4]) (x' := x2) hok hT bk_G_patternEntry_48_3_ok rfl ?_
    refine jm_V.callI (av := [.ref 4, .ref 1012]) (rest := []) hok (jm_Con.mono (c_S_is hok hrec 1012 x2) (by omega)) (jm_Inv.obj (q := ("FilterReader$Signs", T_S, 5)) dd_G_patternEntry_55 (Or.inl lk_G_71) mn_S_is ms_S_is mw_S_is mh_S_is ml_S_is rfl rfl) mw_S_is mi_S (Nat.le_of_ble_eq_true rfl) (Nat.le_of_ble_eq_true rfl) (fun b5 x4 => ?_)
    refine jm_V.run (is := bk_G_patternEntry_58_1) (pc' := (if b5 = 0 then 69 else 61)) (ls' := [(3, .int a2), (0, .ref 2), (1, .int a1), (2, .int a2)]) (st' := []) (x' := x4) hok hT bk_G_patternEntry_58_1_ok rfl ?_
    refine jm_V.ite (fun _ => ?_) (fun _ => ?_)
    · refine jm_V.run (is := bk_G_patternEntry_69_3) (pc' := 76) (ls' := [(3, .int a2), (0, .ref 2), (1, .int a1), (2, .int a2)]) (st' := [.ref 1006, .ref 4]) (x' := x4) hok hT bk_G_patternEntry_69_3_ok rfl ?_
      refine jm_V.callI (av := [.ref 4, .ref 1006]) (rest := []) hok (jm_Con.mono (c_S_is hok hrec 1006 x4) (by omega)) (jm_Inv.obj (q := ("FilterReader$Signs", T_S, 5)) dd_G_patternEntry_76 (Or.inl lk_G_71) mn_S_is ms_S_is mw_S_is mh_S_is ml_S_is rfl rfl) mw_S_is mi_S (Nat.le_of_ble_eq_true rfl) (Nat.le_of_ble_eq_true rfl) (fun b7 x6 => ?_)
      refine jm_V.run (is := bk_G_patternEntry_79_1) (pc' := (if b7 = 0 then 89 else 82)) (ls' := [(3, .int a2), (0, .ref 2), (1, .int a1), (2, .int a2)]) (st' := []) (x' := x6) hok hT bk_G_patternEntry_79_1_ok rfl ?_
      refine jm_V.ite (fun _ => ?_) (fun _ => ?_)
      · refine jm_V.run (is := bk_G_patternEntry_89_1) (pc' := 90) (ls' := [(3, .int a2), (0, .ref 2), (1, .int a1), (2, .int a2)]) (st' := [.ref 2]) (x' := x6) hok hT bk_G_patternEntry_89_1_ok rfl ?_
        refine jm_V.callV (av := [.ref 2]) (rest := []) hok (jm_Con.mono (c_G_entryName hok hrec x6) (by omega)) (jm_Inv.obj (q := ("FilterReader$Grammar", T_G, 5)) dd_G_patternEntry_90 (Or.inl lk_G_299) mn_G_entryName ms_G_entryName mw_G_entryName mh_G_entryName ml_G_entryName rfl rfl) mw_G_entryName mi_G (Nat.le_of_ble_eq_true rfl) (Nat.le_of_ble_eq_true rfl) (fun x8 => ?_)
        refine jm_V.sub (ls' := [(0, .ref 2), (1, .int a1), (3, .int a2)]) [1, 2, 0] rfl ?_
        exact jj_G_patternEntry_93 hok hrec a1 a2 x8
      · refine jm_V.run (is := bk_G_patternEntry_82_1) (pc' := 83) (ls' := [(3, .int a2), (0, .ref 2), (1, .int a1), (2, .int a2)]) (st' := [.ref 2]) (x' := x6) hok hT bk_G_patternEntry_82_1_ok rfl ?_
        refine jm_V.callV (av := [.ref 2]) (rest := []) hok (jm_Con.mono (c_G_stringWithoutPrograms hok hrec x6) (by omega)) (jm_Inv.obj (q := ("FilterReader$Grammar", T_G, 5)) dd_G_patternEntry_83 (Or.inl lk_G_318) mn_G_stringWithoutPrograms ms_G_stringWithoutPrograms mw_G_stringWithoutPrograms mh_G_stringWithoutPrograms ml_G_stringWithoutPrograms rfl rfl) mw_G_stringWithoutPrograms mi_G (Nat.le_of_ble_eq_true rfl) (Nat.le_of_ble_eq_true rfl) (fun x9 => ?_)
        refine jm_V.run (is := bk_G_patternEntry_86_1) (pc' := 93) (ls' := [(3, .int a2), (0, .ref 2), (1, .int a1), (2, .int a2)]) (st' := []) (x' := x9) hok hT bk_G_patternEntry_86_1_ok rfl ?_
        refine jm_V.sub (ls' := [(0, .ref 2), (1, .int a1), (3, .int a2)]) [1, 2, 0] rfl ?_
        exact jj_G_patternEntry_93 hok hrec a1 a2 x9
    · refine jm_V.run (is := bk_G_patternEntry_61_2) (pc' := 63) (ls' := [(3, .int a2), (0, .ref 2), (1, .int a1), (2, .int a2)]) (st' := [.int a1, .ref 2]) (x' := x4) hok hT bk_G_patternEntry_61_2_ok rfl ?_
      refine jm_V.callV (av := [.ref 2, .int a1]) (rest := []) hok (jm_Con.mono (c_G_group hok hrec a1 x4) (by omega)) (jm_Inv.obj (q := ("FilterReader$Grammar", T_G, 5)) dd_G_patternEntry_63 (Or.inl lk_G_240) mn_G_group ms_G_group mw_G_group mh_G_group ml_G_group rfl rfl) mw_G_group mi_G (Nat.le_of_ble_eq_true rfl) (Nat.le_of_ble_eq_true rfl) (fun x10 => ?_)
      refine jm_V.run (is := bk_G_patternEntry_66_1) (pc' := 93) (ls' := [(3, .int a2), (0, .ref 2), (1, .int a1), (2, .int a2)]) (st' := []) (x' := x10) hok hT bk_G_patternEntry_66_1_ok rfl ?_
      refine jm_V.sub (ls' := [(0, .ref 2), (1, .int a1), (3, .int a2)]) [1, 2, 0] rfl ?_
      exact jj_G_patternEntry_93 hok hrec a1 a2 x10
  · refine jm_V.run (is := bk_G_patternEntry_21_2) (pc' := 24) (ls' := [(3, .int a2), (0, .ref 2), (1, .int a1), (2, .int a2)]) (st' := [.int 7, .ref 2]) (x' := x2) hok hT bk_G_patternEntry_21_2_ok rfl ?_
    refine jm_V.callV (av := [.ref 2, .int 7]) (rest := []) hok (jm_Con.mono (c_G_count hok hrec 7 x2) (by omega)) (jm_Inv.obj (q := ("FilterReader$Grammar", T_G, 5)) dd_G_patternEntry_24 (Or.inl lk_G_85) mn_G_count ms_G_count mw_G_count mh_G_count ml_G_count rfl rfl) mw_G_count mi_G (Nat.le_of_ble_eq_true rfl) (Nat.le_of_ble_eq_true rfl) (fun x11 => ?_)
    refine jm_V.run (is := bk_G_patternEntry_27_2) (pc' := 29) (ls' := [(3, .int a2), (0, .ref 2), (1, .int a1), (2, .int a2)]) (st' := [.int a2, .ref 2]) (x' := x11) hok hT bk_G_patternEntry_27_2_ok rfl ?_
    refine jm_V.callI (av := [.ref 2, .int a2]) (rest := []) hok (jm_Con.mono (c_G_patternName hok hrec a2 x11) (by omega)) (jm_Inv.obj (q := ("FilterReader$Grammar", T_G, 5)) dd_G_patternEntry_29 (Or.inl lk_G_309) mn_G_patternName ms_G_patternName mw_G_patternName mh_G_patternName ml_G_patternName rfl rfl) mw_G_patternName mi_G (Nat.le_of_ble_eq_true rfl) (Nat.le_of_ble_eq_true rfl) (fun b13 x12 => ?_)
    refine jm_V.run (is := bk_G_patternEntry_32_4) (pc' := 40) (ls' := [(3, .int b13), (0, .ref 2), (1, .int a1), (2, .int a2)]) (st' := [.ref 1010, .ref 4]) (x' := x12) hok hT bk_G_patternEntry_32_4_ok rfl ?_
    refine jm_V.callI (av := [.ref 4, .ref 1010]) (rest := []) hok (jm_Con.mono (c_S_is hok hrec 1010 x12) (by omega)) (jm_Inv.obj (q := ("FilterReader$Signs", T_S, 5)) dd_G_patternEntry_40 (Or.inl lk_G_71) mn_S_is ms_S_is mw_S_is mh_S_is ml_S_is rfl rfl) mw_S_is mi_S (Nat.le_of_ble_eq_true rfl) (Nat.le_of_ble_eq_true rfl) (fun b15 x14 => ?_)
    refine jm_V.run (is := bk_G_patternEntry_43_1) (pc' := (if b15 = 0 then 46 else 93)) (ls' := [(3, .int b13), (0, .ref 2), (1, .int a1), (2, .int a2)]) (st' := []) (x' := x14) hok hT bk_G_patternEntry_43_1_ok rfl ?_
    refine jm_V.ite (fun _ => ?_) (fun _ => ?_)
    · refine jm_V.run (is := bk_G_patternEntry_46_1) (pc' := 47) (ls' := [(3, .int b13), (0, .ref 2), (1, .int a1), (2, .int a2)]) (st' := [.int b13]) (x' := x14) hok hT bk_G_patternEntry_46_1_ok rfl ?_
      exact jm_V.iret rfl dd_G_patternEntry_47
    · refine jm_V.sub (ls' := [(0, .ref 2), (1, .int a1), (3, .int b13)]) [1, 2, 0] rfl ?_
      exact jj_G_patternEntry_93 hok hrec a1 b13 x14

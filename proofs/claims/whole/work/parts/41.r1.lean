/-! THE REFERENCE: methods. Printed by wip/whole/printR.py. -/
abbrev bk_M_thrown_0_2 : List (Nat × Instr × Nat) := [(0, .aload_n 0, 1), (1, .getfield 96, 3)]
theorem bk_M_thrown_0_2_ok : jm_at mt_M_thrown.2.1 bk_M_thrown_0_2 = true := by decide +kernel
theorem dd_M_thrown_4 : decode mt_M_thrown.2.1 4 = .ok (.ireturn, 1) := by decide +kernel
def f_M_thrown (K : Nat) (g : jm_Rec)  (x : jm_X) : Option jm_R := some (.inl (some (.int (x.1 5)), x))
set_option maxRecDepth 100000 in
set_option maxHeartbeats 4000000 in
theorem c_M_thrown {l : Launch} {D : va_G} {ad : Nat → Nat} {aC : Nat → ClassId} {b0 : Nat} {K d0 : Nat} {g : jm_Rec} (hok : jm_Ok (jm_PP l D clR ad aC shR b0 0)) (hrec : ∀ (t : Nat) (av : List Value) (x : jm_X), jm_Con (jm_PP l D clR ad aC shR b0 0) (rcR t) d0 av x (g t av x))  (x : jm_X) : jm_Con (jm_PP l D clR ad aC shR b0 0) mt_M_thrown (d0 + 1) [.ref 0] x (f_M_thrown K g  x) := by
  refine jm_Con.of (plainFor_of_name (by decide +kernel)) (Nat.le_of_ble_eq_true rfl) ?_
  have hT := tk_M (l := l) (D := D) (ad := ad) (aC := aC) (b0 := b0)
  unfold f_M_thrown
  show jm_V _ _ _ 0 [(0, .ref 0)] [] x _
  refine jm_V.run (is := bk_M_thrown_0_2) (pc' := 4) (ls' := [(0, .ref 0)]) (st' := [.int (x.1 5)]) (x' := x) hok hT bk_M_thrown_0_2_ok rfl ?_
  exact jm_V.iret rfl dd_M_thrown_4
abbrev bk_M_fail_0_3 : List (Nat × Instr × Nat) := [(0, .aload_n 0, 1), (1, .iload_n 1, 1), (2, .putfield 96, 3)]
theorem bk_M_fail_0_3_ok : jm_at mt_M_fail.2.1 bk_M_fail_0_3 = true := by decide +kernel
abbrev bk_M_fail_5_1 : List (Nat × Instr × Nat) := [(5, .iconst 0, 1)]
theorem bk_M_fail_5_1_ok : jm_at mt_M_fail.2.1 bk_M_fail_5_1 = true := by decide +kernel
theorem dd_M_fail_6 : decode mt_M_fail.2.1 6 = .ok (.ireturn, 1) := by decide +kernel
def f_M_fail (K : Nat) (g : jm_Rec) (a1 : Int32) (x : jm_X) : Option jm_R := jm_then (va_up x.1 5 a1, x.2) (fun x1 => some (.inl (some (.int 0), x1)))
set_option maxRecDepth 100000 in
set_option maxHeartbeats 4000000 in
theorem c_M_fail {l : Launch} {D : va_G} {ad : Nat → Nat} {aC : Nat → ClassId} {b0 : Nat} {K d0 : Nat} {g : jm_Rec} (hok : jm_Ok (jm_PP l D clR ad aC shR b0 0)) (hrec : ∀ (t : Nat) (av : List Value) (x : jm_X), jm_Con (jm_PP l D clR ad aC shR b0 0) (rcR t) d0 av x (g t av x)) (a1 : Int32) (x : jm_X) : jm_Con (jm_PP l D clR ad aC shR b0 0) mt_M_fail (d0 + 1) [.ref 0, .int a1] x (f_M_fail K g a1 x) := by
  refine jm_Con.of (plainFor_of_name (by decide +kernel)) (Nat.le_of_ble_eq_true rfl) ?_
  have hT := tk_M (l := l) (D := D) (ad := ad) (aC := aC) (b0 := b0)
  unfold f_M_fail
  show jm_V _ _ _ 0 [(0, .ref 0), (1, .int a1)] [] x _
  refine jm_V.run (is := bk_M_fail_0_3) (pc' := 5) (ls' := [(0, .ref 0), (1, .int a1)]) (st' := []) (x' := (va_up x.1 5 a1, x.2)) hok hT bk_M_fail_0_3_ok rfl ?_
  refine jm_V.then_ (fun x1 => ?_)
  refine jm_V.run (is := bk_M_fail_5_1) (pc' := 6) (ls' := [(0, .ref 0), (1, .int a1)]) (st' := [.int 0]) (x' := x1) hok hT bk_M_fail_5_1_ok rfl ?_
  exact jm_V.iret rfl dd_M_fail_6
abbrev bk_M_four_0_2 : List (Nat × Instr × Nat) := [(0, .bipush 24, 2), (2, .istore_n 2, 1)]
theorem bk_M_four_0_2_ok : jm_at mt_M_four.2.1 bk_M_four_0_2 = true := by decide +kernel
abbrev bk_M_four_3_2 : List (Nat × Instr × Nat) := [(3, .iload_n 2, 1), (4, .ifCond .lt 32, 3)]
theorem bk_M_four_3_2_ok : jm_at mt_M_four.2.1 bk_M_four_3_2 = true := by decide +kernel
abbrev bk_M_four_7_8 : List (Nat × Instr × Nat) := [(7, .aload_n 0, 1), (8, .getfield 72, 3), (11, .aload_n 0, 1), (12, .getfield 99, 3), (15, .iload_n 1, 1), (16, .iload_n 2, 1), (17, .ishr, 1), (18, .i2b, 1)]
theorem bk_M_four_7_8_ok : jm_at mt_M_four.2.1 bk_M_four_7_8 = true := by decide +kernel
abbrev bk_M_four_20_6 : List (Nat × Instr × Nat) := [(20, .aload_n 0, 1), (21, .dup, 1), (22, .getfield 99, 3), (25, .iconst 1, 1), (26, .iadd, 1), (27, .putfield 99, 3)]
theorem bk_M_four_20_6_ok : jm_at mt_M_four.2.1 bk_M_four_20_6 = true := by decide +kernel
abbrev bk_M_four_30_2 : List (Nat × Instr × Nat) := [(30, .iinc 2 (-8), 3), (33, .goto (-30), 3)]
theorem bk_M_four_30_2_ok : jm_at mt_M_four.2.1 bk_M_four_30_2 = true := by decide +kernel
theorem dd_M_four_36 : decode mt_M_four.2.1 36 = .ok (.return_, 1) := by decide +kernel
theorem dd_M_four_19 : decode mt_M_four.2.1 19 = .ok (.bastore, 1) := by decide +kernel
def B_M_four_3 (K : Nat) (g : jm_Rec) (self : Int32 → Int32 → jm_X → Option jm_R) (v1 : Int32) (v2 : Int32) (x : jm_X) : Option jm_R := (if v2 < 0 then some (.inl (none, x)) else (if jm_in shR 3 .byte (x.1 6) then jm_then (jm_ua x 3 (x.1 6) (vp_nar .byte (Int8.toInt32 (Int32.toInt8 (v1 >>> (v2 &&& 31)))))) (fun x1 => jm_then (va_up x1.1 6 ((x1.1 6) + 1), x1.2) (fun x2 => self v1 (v2 + (-8)) x2)) else none))
def L_M_four_3 (K : Nat) (g : jm_Rec) : Nat → Int32 → Int32 → jm_X → Option jm_R
  | 0, _, _, _ => none
  | k + 1, v1, v2, x => B_M_four_3 K g (L_M_four_3 K g k) v1 v2 x
set_option maxRecDepth 100000 in
set_option maxHeartbeats 4000000 in
theorem jb_M_four_3 {l : Launch} {D : va_G} {ad : Nat → Nat} {aC : Nat → ClassId} {b0 : Nat} {K d0 : Nat} {g : jm_Rec} (hok : jm_Ok (jm_PP l D clR ad aC shR b0 0)) (hrec : ∀ (t : Nat) (av : List Value) (x : jm_X), jm_Con (jm_PP l D clR ad aC shR b0 0) (rcR t) d0 av x (g t av x)) {self : Int32 → Int32 → jm_X → Option jm_R} (hself : ∀ (v1 : Int32) (v2 : Int32) (x : jm_X), jm_V (jm_PP l D clR ad aC shR b0 0) mt_M_four (d0 + 1) 3 [(0, .ref 0), (1, .int v1), (2, .int v2)] [] x (self v1 v2 x)) (v1 : Int32) (v2 : Int32) (x : jm_X) : jm_V (jm_PP l D clR ad aC shR b0 0) mt_M_four (d0 + 1) 3 [(0, .ref 0), (1, .int v1), (2, .int v2)] [] x (B_M_four_3 K g self v1 v2 x) := by
  have hT := tk_M (l := l) (D := D) (ad := ad) (aC := aC) (b0 := b0)
  unfold B_M_four_3
  refine jm_V.run (is := bk_M_four_3_2) (pc' := (if v2 < 0 then 36 else 7)) (ls' := [(0, .ref 0), (1, .int v1), (2, .int v2)]) (st' := []) (x' := x) hok hT bk_M_four_3_2_ok rfl ?_
  refine jm_V.ite (fun _ => ?_) (fun _ => ?_)
  · exact jm_V.vret rfl dd_M_four_36
  · refine jm_V.run (is := bk_M_four_7_8) (pc' := 19) (ls' := [(0, .ref 0), (1, .int v1), (2, .int v2)]) (st' := [.int (Int8.toInt32 (Int32.toInt8 (v1 >>> (v2 &&& 31)))), .int (x.1 6), .ref 3]) (x' := x) hok hT bk_M_four_7_8_ok rfl ?_
    refine jm_V.bast hok dd_M_four_19 ?_
    refine jm_V.then_ (fun x1 => ?_)
    refine jm_V.run (is := bk_M_four_20_6) (pc' := 30) (ls' := [(0, .ref 0), (1, .int v1), (2, .int v2)]) (st' := []) (x' := (va_up x1.1 6 ((x1.1 6) + 1), x1.2)) hok hT bk_M_four_20_6_ok rfl ?_
    refine jm_V.then_ (fun x2 => ?_)
    refine jm_V.run (is := bk_M_four_30_2) (pc' := 3) (ls' := [(2, .int (v2 + (-8))), (0, .ref 0), (1, .int v1)]) (st' := []) (x' := x2) hok hT bk_M_four_30_2_ok rfl ?_
    refine jm_V.sub (ls' := [(0, .ref 0), (1, .int v1), (2, .int (v2 + (-8)))]) [1, 2, 0] rfl ?_
    exact hself v1 (v2 + (-8)) x2
theorem jl_M_four_3 {l : Launch} {D : va_G} {ad : Nat → Nat} {aC : Nat → ClassId} {b0 : Nat} {K d0 : Nat} {g : jm_Rec} (hok : jm_Ok (jm_PP l D clR ad aC shR b0 0)) (hrec : ∀ (t : Nat) (av : List Value) (x : jm_X), jm_Con (jm_PP l D clR ad aC shR b0 0) (rcR t) d0 av x (g t av x)) : ∀ (k : Nat) (v1 : Int32) (v2 : Int32) (x : jm_X), jm_V (jm_PP l D clR ad aC shR b0 0) mt_M_four (d0 + 1) 3 [(0, .ref 0), (1, .int v1), (2, .int v2)] [] x (L_M_four_3 K g k v1 v2 x)
  | 0, _, _, _ => jm_V.stuck
  | k + 1, v1, v2, x => jb_M_four_3 hok hrec (fun v1 v2 x => jl_M_four_3 hok hrec k v1 v2 x) v1 v2 x
def f_M_four (K : Nat) (g : jm_Rec) (a1 : Int32) (x : jm_X) : Option jm_R := L_M_four_3 K g K a1 24 x
set_option maxRecDepth 100000 in
set_option maxHeartbeats 4000000 in
theorem c_M_four {l : Launch} {D : va_G} {ad : Nat → Nat} {aC : Nat → ClassId} {b0 : Nat} {K d0 : Nat} {g : jm_Rec} (hok : jm_Ok (jm_PP l D clR ad aC shR b0 0)) (hrec : ∀ (t : Nat) (av : List Value) (x : jm_X), jm_Con (jm_PP l D clR ad aC shR b0 0) (rcR t) d0 av x (g t av x)) (a1 : Int32) (x : jm_X) : jm_Con (jm_PP l D clR ad aC shR b0 0) mt_M_four (d0 + 1) [.ref 0, .int a1] x (f_M_four K g a1 x) := by
  refine jm_Con.of (plainFor_of_name (by decide +kernel)) (Nat.le_of_ble_eq_true rfl) ?_
  have hT := tk_M (l := l) (D := D) (ad := ad) (aC := aC) (b0 := b0)
  unfold f_M_four
  show jm_V _ _ _ 0 [(0, .ref 0), (1, .int a1)] [] x _
  refine jm_V.run (is := bk_M_four_0_2) (pc' := 3) (ls' := [(2, .int 24), (0, .ref 0), (1, .int a1)]) (st' := []) (x' := x) hok hT bk_M_four_0_2_ok rfl ?_
  refine jm_V.sub (ls' := [(0, .ref 0), (1, .int a1), (2, .int 24)]) [1, 2, 0] rfl ?_
  exact jl_M_four_3 hok hrec K a1 24 x
abbrev bk_M_feed_0_3 : List (Nat × Instr × Nat) := [(0, .aload_n 0, 1), (1, .iconst 0, 1), (2, .putfield 96, 3)]
theorem bk_M_feed_0_3_ok : jm_at mt_M_feed.2.1 bk_M_feed_0_3 = true := by decide +kernel
abbrev bk_M_feed_5_6 : List (Nat × Instr × Nat) := [(5, .aload_n 0, 1), (6, .getfield 99, 3), (9, .bipush 20, 2), (11, .iadd, 1), (12, .sipush 16384, 3), (15, .if_icmp .le 9, 3)]
theorem bk_M_feed_5_6_ok : jm_at mt_M_feed.2.1 bk_M_feed_5_6 = true := by decide +kernel
abbrev bk_M_feed_24_2 : List (Nat × Instr × Nat) := [(24, .aload_n 0, 1), (25, .iload_n 1, 1)]
theorem bk_M_feed_24_2_ok : jm_at mt_M_feed.2.1 bk_M_feed_24_2 = true := by decide +kernel
abbrev bk_M_feed_29_2 : List (Nat × Instr × Nat) := [(29, .aload_n 0, 1), (30, .iload_n 2, 1)]
theorem bk_M_feed_29_2_ok : jm_at mt_M_feed.2.1 bk_M_feed_29_2 = true := by decide +kernel
abbrev bk_M_feed_34_2 : List (Nat × Instr × Nat) := [(34, .aload_n 0, 1), (35, .iload_n 3, 1)]
theorem bk_M_feed_34_2_ok : jm_at mt_M_feed.2.1 bk_M_feed_34_2 = true := by decide +kernel
abbrev bk_M_feed_39_2 : List (Nat × Instr × Nat) := [(39, .aload_n 0, 1), (40, .iload 4, 2)]
theorem bk_M_feed_39_2_ok : jm_at mt_M_feed.2.1 bk_M_feed_39_2 = true := by decide +kernel
abbrev bk_M_feed_45_2 : List (Nat × Instr × Nat) := [(45, .aload_n 0, 1), (46, .iload 5, 2)]
theorem bk_M_feed_45_2_ok : jm_at mt_M_feed.2.1 bk_M_feed_45_2 = true := by decide +kernel
abbrev bk_M_feed_51_2 : List (Nat × Instr × Nat) := [(51, .aload_n 0, 1), (52, .getfield 99, 3)]
theorem bk_M_feed_51_2_ok : jm_at mt_M_feed.2.1 bk_M_feed_51_2 = true := by decide +kernel
abbrev bk_M_feed_18_2 : List (Nat × Instr × Nat) := [(18, .aload_n 0, 1), (19, .iconst 1, 1)]
theorem bk_M_feed_18_2_ok : jm_at mt_M_feed.2.1 bk_M_feed_18_2 = true := by decide +kernel
theorem dd_M_feed_26 : decode mt_M_feed.2.1 26 = .ok (.invokevirtual 106, 3) := by decide +kernel
theorem dd_M_feed_31 : decode mt_M_feed.2.1 31 = .ok (.invokevirtual 106, 3) := by decide +kernel
theorem dd_M_feed_36 : decode mt_M_feed.2.1 36 = .ok (.invokevirtual 106, 3) := by decide +kernel
theorem dd_M_feed_42 : decode mt_M_feed.2.1 42 = .ok (.invokevirtual 106, 3) := by decide +kernel
theorem dd_M_feed_48 : decode mt_M_feed.2.1 48 = .ok (.invokevirtual 106, 3) := by decide +kernel
theorem dd_M_feed_55 : decode mt_M_feed.2.1 55 = .ok (.ireturn, 1) := by decide +kernel
theorem dd_M_feed_20 : decode mt_M_feed.2.1 20 = .ok (.invokevirtual 102, 3) := by decide +kernel
theorem dd_M_feed_23 : decode mt_M_feed.2.1 23 = .ok (.ireturn, 1) := by decide +kernel
def f_M_feed (K : Nat) (g : jm_Rec) (a1 : Int32) (a2 : Int32) (a3 : Int32) (a4 : Int32) (a5 : Int32) (x : jm_X) : Option jm_R := jm_then (va_up x.1 5 0, x.2) (fun x1 => (if ((x1.1 6) + 20) ≤ 16384 then jm_bV (f_M_four K g a1 x1) (fun x2 => jm_bV (f_M_four K g a2 x2) (fun x3 => jm_bV (f_M_four K g a3 x3) (fun x4 => jm_bV (f_M_four K g a4 x4) (fun x5 => jm_bV (f_M_four K g a5 x5) (fun x6 => some (.inl (some (.int (x6.1 6)), x6))))))) else jm_bI (f_M_fail K g 1 x1) (fun b8 x7 => some (.inl (some (.int b8), x7)))))
set_option maxRecDepth 100000 in
set_option maxHeartbeats 4000000 in
theorem c_M_feed {l : Launch} {D : va_G} {ad : Nat → Nat} {aC : Nat → ClassId} {b0 : Nat} {K d0 : Nat} {g : jm_Rec} (hok : jm_Ok (jm_PP l D clR ad aC shR b0 0)) (hrec : ∀ (t : Nat) (av : List Value) (x : jm_X), jm_Con (jm_PP l D clR ad aC shR b0 0) (rcR t) d0 av x (g t av x)) (a1 : Int32) (a2 : Int32) (a3 : Int32) (a4 : Int32) (a5 : Int32) (x : jm_X) : jm_Con (jm_PP l D clR ad aC shR b0 0) mt_M_feed (d0 + 2) [.ref 0, .int a1, .int a2, .int a3, .int a4, .int a5] x (f_M_feed K g a1 a2 a3 a4 a5 x) := by
  refine jm_Con.of (plainFor_of_name (by decide +kernel)) (Nat.le_of_ble_eq_true rfl) ?_
  have hT := tk_M (l := l) (D := D) (ad := ad) (aC := aC) (b0 := b0)
  unfold f_M_feed
  show jm_V _ _ _ 0 [(0, .ref 0), (1, .int a1), (2, .int a2), (3, .int a3), (4, .int a4), (5, .int a5)] [] x _
  refine jm_V.run (is := bk_M_feed_0_3) (pc' := 5) (ls' := [(0, .ref 0), (1, .int a1), (2, .int a2), (3, .int a3), (4, .int a4), (5, .int a5)]) (st' := []) (x' := (va_up x.1 5 0, x.2)) hok hT bk_M_feed_0_3_ok rfl ?_
  refine jm_V.then_ (fun x1 => ?_)
  refine jm_V.run (is := bk_M_feed_5_6) (pc' := (if ((x1.1 6) + 20) ≤ 16384 then 24 else 18)) (ls' := [(0, .ref 0), (1, .int a1), (2, .int a2), (3, .int a3), (4, .int a4), (5, .int a5)]) (st' := []) (x' := x1) hok hT bk_M_feed_5_6_ok rfl ?_
  refine jm_V.ite (fun _ => ?_) (fun _ => ?_)
  · refine jm_V.run (is := bk_M_feed_24_2) (pc' := 26) (ls' := [(0, .ref 0), (1, .int a1), (2, .int a2), (3, .int a3), (4, .int a4), (5, .int a5)]) (st' := [.int a1, .ref 0]) (x' := x1) hok hT bk_M_feed_24_2_ok rfl ?_
    refine jm_V.callV (av := [.ref 0, .int a1]) (rest := []) hok (jm_Con.mono (c_M_four hok hrec a1 x1) (by omega)) (jm_Inv.obj (q := ("FilterReaderModel", T_M, 22)) dd_M_feed_26 (Or.inl lk_M_106) mn_M_four ms_M_four mw_M_four mh_M_four ml_M_four rfl rfl) mw_M_four mi_M (Nat.le_of_ble_eq_true rfl) (Nat.le_of_ble_eq_true rfl) (fun x2 => ?_)
    refine jm_V.run (is := bk_M_feed_29_2) (pc' := 31) (ls' := [(0, .ref 0), (1, .int a1), (2, .int a2), (3, .int a3), (4, .int a4), (5, .int a5)]) (st' := [.int a2, .ref 0]) (x' := x2) hok hT bk_M_feed_29_2_ok rfl ?_
    refine jm_V.callV (av := [.ref 0, .int a2]) (rest := []) hok (jm_Con.mono (c_M_four hok hrec a2 x2) (by omega)) (jm_Inv.obj (q := ("FilterReaderModel", T_M, 22)) dd_M_feed_31 (Or.inl lk_M_106) mn_M_four ms_M_four mw_M_four mh_M_four ml_M_four rfl rfl) mw_M_four mi_M (Nat.le_of_ble_eq_true rfl) (Nat.le_of_ble_eq_true rfl) (fun x3 => ?_)
    refine jm_V.run (is := bk_M_feed_34_2) (pc' := 36) (ls' := [(0, .ref 0), (1, .int a1), (2, .int a2), (3, .int a3), (4, .int a4), (5, .int a5)]) (st' := [.int a3, .ref 0]) (x' := x3) hok hT bk_M_feed_34_2_ok rfl ?_
    refine jm_V.callV (av := [.ref 0, .int a3]) (rest := []) hok (jm_Con.mono (c_M_four hok hrec a3 x3) (by omega)) (jm_Inv.obj (q := ("FilterReaderModel", T_M, 22)) dd_M_feed_36 (Or.inl lk_M_106) mn_M_four ms_M_four mw_M_four mh_M_four ml_M_four rfl rfl) mw_M_four mi_M (Nat.le_of_ble_eq_true rfl) (Nat.le_of_ble_eq_true rfl) (fun x4 => ?_)
    refine jm_V.run (is := bk_M_feed_39_2) (pc' := 42) (ls' := [(0, .ref 0), (1, .int a1), (2, .int a2), (3, .int a3), (4, .int a4), (5, .int a5)]) (st' := [.int a4, .ref 0]) (x' := x4) hok hT bk_M_feed_39_2_ok rfl ?_
    refine jm_V.callV (av := [.ref 0, .int a4]) (rest := []) hok (jm_Con.mono (c_M_four hok hrec a4 x4) (by omega)) (jm_Inv.obj (q := ("FilterReaderModel", T_M, 22)) dd_M_feed_42 (Or.inl lk_M_106) mn_M_four ms_M_four mw_M_four mh_M_four ml_M_four rfl rfl) mw_M_four mi_M (Nat.le_of_ble_eq_true rfl) (Nat.le_of_ble_eq_true rfl) (fun x5 => ?_)
    refine jm_V.run (is := bk_M_feed_45_2) (pc' := 48) (ls' := [(0, .ref 0), (1, .int a1), (2, .int a2), (3, .int a3), (4, .int a4), (5, .int a5)]) (st' := [.int a5, .ref 0]) (x' := x5) hok hT bk_M_feed_45_2_ok rfl ?_
    refine jm_V.callV (av := [.ref 0, .int a5]) (rest := []) hok (jm_Con.mono (c_M_four hok hrec a5 x5) (by omega)) (jm_Inv.obj (q := ("FilterReaderModel", T_M, 22)) dd_M_feed_48 (Or.inl lk_M_106) mn_M_four ms_M_four mw_M_four mh_M_four ml_M_four rfl rfl) mw_M_four mi_M (Nat.le_of_ble_eq_true rfl) (Nat.le_of_ble_eq_true rfl) (fun x6 => ?_)
    refine jm_V.run (is := bk_M_feed_51_2) (pc' := 55) (ls' := [(0, .ref 0), (1, .int a1), (2, .int a2), (3, .int a3), (4, .int a4), (5, .int a5)]) (st' := [.int (x6.1 6)]) (x' := x6) hok hT bk_M_feed_51_2_ok rfl ?_
    exact jm_V.iret rfl dd_M_feed_55
  · refine jm_V.run (is := bk_M_feed_18_2) (pc' := 20) (ls' := [(0, .ref 0), (1, .int a1), (2, .int a2), (3, .int a3), (4, .int a4), (5, .int a5)]) (st' := [.int 1, .ref 0]) (x' := x1) hok hT bk_M_feed_18_2_ok rfl ?_
    refine jm_V.callI (av := [.ref 0, .int 1]) (rest := []) hok (jm_Con.mono (c_M_fail hok hrec 1 x1) (by omega)) (jm_Inv.obj (q := ("FilterReaderModel", T_M, 22)) dd_M_feed_20 (Or.inl lk_M_102) mn_M_fail ms_M_fail mw_M_fail mh_M_fail ml_M_fail rfl rfl) mw_M_fail mi_M (Nat.le_of_ble_eq_true rfl) (Nat.le_of_ble_eq_true rfl) (fun b8 x7 => ?_)
    exact jm_V.iret rfl dd_M_feed_23
abbrev bk_M_end_0_3 : List (Nat × Instr × Nat) := [(0, .aload_n 0, 1), (1, .iconst 0, 1), (2, .putfield 96, 3)]
theorem bk_M_end_0_3_ok : jm_at mt_M_end.2.1 bk_M_end_0_3 = true := by decide +kernel
abbrev bk_M_end_5_2 : List (Nat × Instr × Nat) := [(5, .iload_n 1, 1), (6, .ifCond .lt 11, 3)]
theorem bk_M_end_5_2_ok : jm_at mt_M_end.2.1 bk_M_end_5_2 = true := by decide +kernel
abbrev bk_M_end_9_4 : List (Nat × Instr × Nat) := [(9, .iload_n 1, 1), (10, .aload_n 0, 1), (11, .getfield 99, 3), (14, .if_icmp .le 9, 3)]
theorem bk_M_end_9_4_ok : jm_at mt_M_end.2.1 bk_M_end_9_4 = true := by decide +kernel
abbrev bk_M_end_23_3 : List (Nat × Instr × Nat) := [(23, .aload_n 0, 1), (24, .iload_n 1, 1), (25, .putfield 99, 3)]
theorem bk_M_end_23_3_ok : jm_at mt_M_end.2.1 bk_M_end_23_3 = true := by decide +kernel
abbrev bk_M_end_28_1 : List (Nat × Instr × Nat) := [(28, .iload_n 1, 1)]
theorem bk_M_end_28_1_ok : jm_at mt_M_end.2.1 bk_M_end_28_1 = true := by decide +kernel
abbrev bk_M_end_17_2 : List (Nat × Instr × Nat) := [(17, .aload_n 0, 1), (18, .iconst 1, 1)]
theorem bk_M_end_17_2_ok : jm_at mt_M_end.2.1 bk_M_end_17_2 = true := by decide +kernel
theorem dd_M_end_29 : decode mt_M_end.2.1 29 = .ok (.ireturn, 1) := by decide +kernel
theorem dd_M_end_19 : decode mt_M_end.2.1 19 = .ok (.invokevirtual 102, 3) := by decide +kernel
theorem dd_M_end_22 : decode mt_M_end.2.1 22 = .ok (.ireturn, 1) := by decide +kernel
def J_M_end_17 (K : Nat) (g : jm_Rec)  (x : jm_X) : Option jm_R := jm_bI (f_M_fail K g 1 x) (fun b4 x3 => some (.inl (some (.int b4), x3)))
set_option maxRecDepth 100000 in
set_option maxHeartbeats 4000000 in
theorem jj_M_end_17 {l : Launch} {D : va_G} {ad : Nat → Nat} {aC : Nat → ClassId} {b0 : Nat} {K d0 : Nat} {g : jm_Rec} (hok : jm_Ok (jm_PP l D clR ad aC shR b0 0)) (hrec : ∀ (t : Nat) (av : List Value) (x : jm_X), jm_Con (jm_PP l D clR ad aC shR b0 0) (rcR t) d0 av x (g t av x))  (x : jm_X) : jm_V (jm_PP l D clR ad aC shR b0 0) mt_M_end (d0 + 2) 17 [(0, .ref 0)] [] x (J_M_end_17 K g  x) := by
  have hT := tk_M (l := l) (D := D) (ad := ad) (aC := aC) (b0 := b0)
  unfold J_M_end_17
  refine jm_V.run (is := bk_M_end_17_2) (pc' := 19) (ls' := [(0, .ref 0)]) (st' := [.int 1, .ref 0]) (x' := x) hok hT bk_M_end_17_2_ok rfl ?_
  refine jm_V.callI (av := [.ref 0, .int 1]) (rest := []) hok (jm_Con.mono (c_M_fail hok hrec 1 x) (by omega)) (jm_Inv.obj (q := ("FilterReaderModel", T_M, 22)) dd_M_end_19 (Or.inl lk_M_102) mn_M_fail ms_M_fail mw_M_fail mh_M_fail ml_M_fail rfl rfl) mw_M_fail mi_M (Nat.le_of_ble_eq_true rfl) (Nat.le_of_ble_eq_true rfl) (fun b4 x3 => ?_)
  exact jm_V.iret rfl dd_M_end_22
def f_M_end (K : Nat) (g : jm_Rec) (a1 : Int32) (x : jm_X) : Option jm_R := jm_then (va_up x.1 5 0, x.2) (fun x1 => (if a1 < 0 then J_M_end_17 K g x1 else (if a1 ≤ (x1.1 6) then jm_then (va_up x1.1 6 a1, x1.2) (fun x2 => some (.inl (some (.int a1), x2))) else J_M_end_17 K g x1)))
set_option maxRecDepth 100000 in
set_option maxHeartbeats 4000000 in
theorem c_M_end {l : Launch} {D : va_G} {ad : Nat → Nat} {aC : Nat → ClassId} {b0 : Nat} {K d0 : Nat} {g : jm_Rec} (hok : jm_Ok (jm_PP l D clR ad aC shR b0 0)) (hrec : ∀ (t : Nat) (av : List Value) (x : jm_X), jm_Con (jm_PP l D clR ad aC shR b0 0) (rcR t) d0 av x (g t av x)) (a1 : Int32) (x : jm_X) : jm_Con (jm_PP l D clR ad aC shR b0 0) mt_M_end (d0 + 2) [.ref 0, .int a1] x (f_M_end K g a1 x) := by
  refine jm_Con.of (plainFor_of_name (by decide +kernel)) (Nat.le_of_ble_eq_true rfl) ?_
  have hT := tk_M (l := l) (D := D) (ad := ad) (aC := aC) (b0 := b0)
  unfold f_M_end
  show jm_V _ _ _ 0 [(0, .ref 0), (1, .int a1)] [] x _
  refine jm_V.run (is := bk_M_end_0_3) (pc' := 5) (ls' := [(0, .ref 0), (1, .int a1)]) (st' := []) (x' := (va_up x.1 5 0, x.2)) hok hT bk_M_end_0_3_ok rfl ?_
  refine jm_V.then_ (fun x1 => ?_)
  refine jm_V.run (is := bk_M_end_5_2) (pc' := (if a1 < 0 then 17 else 9)) (ls' := [(0, .ref 0), (1, .int a1)]) (st' := []) (x' := x1) hok hT bk_M_end_5_2_ok rfl ?_
  refine jm_V.ite (fun _ => ?_) (fun _ => ?_)
  · refine jm_V.sub (ls' := [(0, .ref 0)]) [0] rfl ?_
    exact jj_M_end_17 hok hrec x1
  · refine jm_V.run (is := bk_M_end_9_4) (pc' := (if a1 ≤ (x1.1 6) then 23 else 17)) (ls' := [(0, .ref 0), (1, .int a1)]) (st' := []) (x' := x1) hok hT bk_M_end_9_4_ok rfl ?_
    refine jm_V.ite (fun _ => ?_) (fun _ => ?_)
    · refine jm_V.run (is := bk_M_end_23_3) (pc' := 28) (ls' := [(0, .ref 0), (1, .int a1)]) (st' := []) (x' := (va_up x1.1 6 a1, x1.2)) hok hT bk_M_end_23_3_ok rfl ?_
      refine jm_V.then_ (fun x2 => ?_)
      refine jm_V.run (is := bk_M_end_28_1) (pc' := 29) (ls' := [(0, .ref 0), (1, .int a1)]) (st' := [.int a1]) (x' := x2) hok hT bk_M_end_28_1_ok rfl ?_
      exact jm_V.iret rfl dd_M_end_29
    · refine jm_V.sub (ls' := [(0, .ref 0)]) [0] rfl ?_
      exact jj_M_end_17 hok hrec x1
abbrev bk_M_many_0_3 : List (Nat × Instr × Nat) := [(0, .aload_n 0, 1), (1, .iconst 0, 1), (2, .putfield 96, 3)]
theorem bk_M_many_0_3_ok : jm_at mt_M_many.2.1 bk_M_many_0_3 = true := by decide +kernel
abbrev bk_M_many_5_2 : List (Nat × Instr × Nat) := [(5, .iload_n 1, 1), (6, .ifCond .lt 15, 3)]
theorem bk_M_many_5_2_ok : jm_at mt_M_many.2.1 bk_M_many_5_2 = true := by decide +kernel
abbrev bk_M_many_9_3 : List (Nat × Instr × Nat) := [(9, .iload_n 1, 1), (10, .bipush 33, 2), (12, .if_icmp .gt 9, 3)]
theorem bk_M_many_9_3_ok : jm_at mt_M_many.2.1 bk_M_many_9_3 = true := by decide +kernel
abbrev bk_M_many_15_3 : List (Nat × Instr × Nat) := [(15, .iload_n 1, 1), (16, .bipush 29, 2), (18, .if_icmp .ne 11, 3)]
theorem bk_M_many_15_3_ok : jm_at mt_M_many.2.1 bk_M_many_15_3 = true := by decide +kernel
abbrev bk_M_many_29_3 : List (Nat × Instr × Nat) := [(29, .aload_n 0, 1), (30, .getfield 76, 3), (33, .iload_n 1, 1)]
theorem bk_M_many_29_3_ok : jm_at mt_M_many.2.1 bk_M_many_29_3 = true := by decide +kernel
abbrev bk_M_many_21_2 : List (Nat × Instr × Nat) := [(21, .aload_n 0, 1), (22, .iconst 1, 1)]
theorem bk_M_many_21_2_ok : jm_at mt_M_many.2.1 bk_M_many_21_2 = true := by decide +kernel
abbrev bk_M_many_26_1 : List (Nat × Instr × Nat) := [(26, .goto 9, 3)]
theorem bk_M_many_26_1_ok : jm_at mt_M_many.2.1 bk_M_many_26_1 = true := by decide +kernel
theorem dd_M_many_34 : decode mt_M_many.2.1 34 = .ok (.iaload, 1) := by decide +kernel
theorem dd_M_many_23 : decode mt_M_many.2.1 23 = .ok (.invokevirtual 102, 3) := by decide +kernel
theorem dd_M_many_35 : decode mt_M_many.2.1 35 = .ok (.ireturn, 1) := by decide +kernel
def J_M_many_35 (K : Nat) (g : jm_Rec) (s0 : Int32) (x : jm_X) : Option jm_R := some (.inl (some (.int s0), x))
set_option maxRecDepth 100000 in
set_option maxHeartbeats 4000000 in
theorem jj_M_many_35 {l : Launch} {D : va_G} {ad : Nat → Nat} {aC : Nat → ClassId} {b0 : Nat} {K d0 : Nat} {g : jm_Rec} (hok : jm_Ok (jm_PP l D clR ad aC shR b0 0)) (hrec : ∀ (t : Nat) (av : List Value) (x : jm_X), jm_Con (jm_PP l D clR ad aC shR b0 0) (rcR t) d0 av x (g t av x)) (s0 : Int32) (x : jm_X) : jm_V (jm_PP l D clR ad aC shR b0 0) mt_M_many (d0 + 2) 35 [] [.int s0] x (J_M_many_35 K g s0 x) := by
  have hT := tk_M (l := l) (D := D) (ad := ad) (aC := aC) (b0 := b0)
  unfold J_M_many_35
  exact jm_V.iret rfl dd_M_many_35
def J_M_many_21 (K : Nat) (g : jm_Rec)  (x : jm_X) : Option jm_R := jm_bI (f_M_fail K g 1 x) (fun b3 x2 => J_M_many_35 K g b3 x2)
set_option maxRecDepth 100000 in
set_option maxHeartbeats 4000000 in
theorem jj_M_many_21 {l : Launch} {D : va_G} {ad : Nat → Nat} {aC : Nat → ClassId} {b0 : Nat} {K d0 : Nat} {g : jm_Rec} (hok : jm_Ok (jm_PP l D clR ad aC shR b0 0)) (hrec : ∀ (t : Nat) (av : List Value) (x : jm_X), jm_Con (jm_PP l D clR ad aC shR b0 0) (rcR t) d0 av x (g t av x))  (x : jm_X) : jm_V (jm_PP l D clR ad aC shR b0 0) mt_M_many (d0 + 2) 21 [(0, .ref 0)] [] x (J_M_many_21 K g  x) := by
  have hT := tk_M (l := l) (D := D) (ad := ad) (aC := aC) (b0 := b0)
  unfold J_M_many_21
  refine jm_V.run (is := bk_M_many_21_2) (pc' := 23) (ls' := [(0, .ref 0)]) (st' := [.int 1, .ref 0]) (x' := x) hok hT bk_M_many_21_2_ok rfl ?_
  refine jm_V.callI (av := [.ref 0, .int 1]) (rest := []) hok (jm_Con.mono (c_M_fail hok hrec 1 x) (by omega)) (jm_Inv.obj (q := ("FilterReaderModel", T_M, 22)) dd_M_many_23 (Or.inl lk_M_102) mn_M_fail ms_M_fail mw_M_fail mh_M_fail ml_M_fail rfl rfl) mw_M_fail mi_M (Nat.le_of_ble_eq_true rfl) (Nat.le_of_ble_eq_true rfl) (fun b3 x2 => ?_)
  refine jm_V.run (is := bk_M_many_26_1) (pc' := 35) (ls' := [(0, .ref 0)]) (st' := [.int b3]) (x' := x2) hok hT bk_M_many_26_1_ok rfl ?_
  refine jm_V.sub (ls' := []) [] rfl ?_
  exact jj_M_many_35 hok hrec b3 x2
def f_M_many (K : Nat) (g : jm_Rec) (a1 : Int32) (x : jm_X) : Option jm_R := jm_then (va_up x.1 5 0, x.2) (fun x1 => (if a1 < 0 then J_M_many_21 K g x1 else (if 33 < a1 then J_M_many_21 K g x1 else (if a1 = 29 then J_M_many_21 K g x1 else (if jm_in shR 4 .int a1 then J_M_many_35 K g (x1.2.2 4 (Int32.toNatClampNeg a1)) x1 else none)))))
set_option maxRecDepth 100000 in
set_option maxHeartbeats 4000000 in
theorem c_M_many {l : Launch} {D : va_G} {ad : Nat → Nat} {aC : Nat → ClassId} {b0 : Nat} {K d0 : Nat} {g : jm_Rec} (hok : jm_Ok (jm_PP l D clR ad aC shR b0 0)) (hrec : ∀ (t : Nat) (av : List Value) (x : jm_X), jm_Con (jm_PP l D clR ad aC shR b0 0) (rcR t) d0 av x (g t av x)) (a1 : Int32) (x : jm_X) : jm_Con (jm_PP l D clR ad aC shR b0 0) mt_M_many (d0 + 2) [.ref 0, .int a1] x (f_M_many K g a1 x) := by
  refine jm_Con.of (plainFor_of_name (by decide +kernel)) (Nat.le_of_ble_eq_true rfl) ?_
  have hT := tk_M (l := l) (D := D) (ad := ad) (aC := aC) (b0 := b0)
  unfold f_M_many
  show jm_V _ _ _ 0 [(0, .ref 0), (1, .int a1)] [] x _
  refine jm_V.run (is := bk_M_many_0_3) (pc' := 5) (ls' := [(0, .ref 0), (1, .int a1)]) (st' := []) (x' := (va_up x.1 5 0, x.2)) hok hT bk_M_many_0_3_ok rfl ?_
  refine jm_V.then_ (fun x1 => ?_)
  refine jm_V.run (is := bk_M_many_5_2) (pc' := (if a1 < 0 then 21 else 9)) (ls' := [(0, .ref 0), (1, .int a1)]) (st' := []) (x' := x1) hok hT bk_M_many_5_2_ok rfl ?_
  refine jm_V.ite (fun _ => ?_) (fun _ => ?_)
  · refine jm_V.sub (ls' := [(0, .ref 0)]) [0] rfl ?_
    exact jj_M_many_21 hok hrec x1
  · refine jm_V.run (is := bk_M_many_9_3) (pc' := (if 33 < a1 then 21 else 15)) (ls' := [(0, .ref 0), (1, .int a1)]) (st' := []) (x' := x1) hok hT bk_M_many_9_3_ok rfl ?_
    refine jm_V.ite (fun _ => ?_) (fun _ => ?_)
    · refine jm_V.sub (ls' := [(0, .ref 0)]) [0] rfl ?_
      exact jj_M_many_21 hok hrec x1
    · refine jm_V.run (is := bk_M_many_15_3) (pc' := (if a1 = 29 then 21 else 29)) (ls' := [(0, .ref 0), (1, .int a1)]) (st' := []) (x' := x1) hok hT bk_M_many_15_3_ok rfl ?_
      refine jm_V.ite (fun _ => ?_) (fun _ => ?_)
      · refine jm_V.sub (ls' := [(0, .ref 0)]) [0] rfl ?_
        exact jj_M_many_21 hok hrec x1
      · refine jm_V.run (is := bk_M_many_29_3) (pc' := 34) (ls' := [(0, .ref 0), (1, .int a1)]) (st' := [.int a1, .ref 4]) (x' := x1) hok hT bk_M_many_29_3_ok rfl ?_
        refine jm_V.iald dd_M_many_34 ?_
        refine jm_V.sub (ls' := []) [] rfl ?_
        exact jj_M_many_35 hok hrec (x1.2.2 4 (Int32.toNatClampNeg a1)) x1
abbrev bk_M_place_0_3 : List (Nat × Instr × Nat) := [(0, .aload_n 0, 1), (1, .iconst 0, 1), (2, .putfield 96, 3)]
theorem bk_M_place_0_3_ok : jm_at mt_M_place.2.1 bk_M_place_0_3 = true := by decide +kernel
abbrev bk_M_place_5_2 : List (Nat × Instr × Nat) := [(5, .aload_n 0, 1), (6, .getfield 68, 3)]
theorem bk_M_place_5_2_ok : jm_at mt_M_place.2.1 bk_M_place_5_2 = true := by decide +kernel
theorem dd_M_place_9 : decode mt_M_place.2.1 9 = .ok (.ireturn, 1) := by decide +kernel
def f_M_place (K : Nat) (g : jm_Rec)  (x : jm_X) : Option jm_R := jm_then (va_up x.1 5 0, x.2) (fun x1 => some (.inl (some (.int (x1.1 7)), x1)))
set_option maxRecDepth 100000 in
set_option maxHeartbeats 4000000 in
theorem c_M_place {l : Launch} {D : va_G} {ad : Nat → Nat} {aC : Nat → ClassId} {b0 : Nat} {K d0 : Nat} {g : jm_Rec} (hok : jm_Ok (jm_PP l D clR ad aC shR b0 0)) (hrec : ∀ (t : Nat) (av : List Value) (x : jm_X), jm_Con (jm_PP l D clR ad aC shR b0 0) (rcR t) d0 av x (g t av x))  (x : jm_X) : jm_Con (jm_PP l D clR ad aC shR b0 0) mt_M_place (d0 + 1) [.ref 0] x (f_M_place K g  x) := by
  refine jm_Con.of (plainFor_of_name (by decide +kernel)) (Nat.le_of_ble_eq_true rfl) ?_
  have hT := tk_M (l := l) (D := D) (ad := ad) (aC := aC) (b0 := b0)
  unfold f_M_place
  show jm_V _ _ _ 0 [(0, .ref 0)] [] x _
  refine jm_V.run (is := bk_M_place_0_3) (pc' := 5) (ls' := [(0, .ref 0)]) (st' := []) (x' := (va_up x.1 5 0, x.2)) hok hT bk_M_place_0_3_ok rfl ?_
  refine jm_V.then_ (fun x1 => ?_)
  refine jm_V.run (is := bk_M_place_5_2) (pc' := 9) (ls' := [(0, .ref 0)]) (st' := [.int (x1.1 7)]) (x' := x1) hok hT bk_M_place_5_2_ok rfl ?_
  exact jm_V.iret rfl dd_M_place_9
abbrev bk_M_taped_0_3 : List (Nat × Instr × Nat) := [(0, .aload_n 0, 1), (1, .iconst 0, 1), (2, .putfield 96, 3)]
theorem bk_M_taped_0_3_ok : jm_at mt_M_taped.2.1 bk_M_taped_0_3 = true := by decide +kernel
abbrev bk_M_taped_5_2 : List (Nat × Instr × Nat) := [(5, .aload_n 0, 1), (6, .getfield 99, 3)]
theorem bk_M_taped_5_2_ok : jm_at mt_M_taped.2.1 bk_M_taped_5_2 = true := by decide +kernel
theorem dd_M_taped_9 : decode mt_M_taped.2.1 9 = .ok (.ireturn, 1) := by decide +kernel
def f_M_taped (K : Nat) (g : jm_Rec)  (x : jm_X) : Option jm_R := jm_then (va_up x.1 5 0, x.2) (fun x1 => some (.inl (some (.int (x1.1 6)), x1)))
set_option maxRecDepth 100000 in
set_option maxHeartbeats 4000000 in
theorem c_M_taped {l : Launch} {D : va_G} {ad : Nat → Nat} {aC : Nat → ClassId} {b0 : Nat} {K d0 : Nat} {g : jm_Rec} (hok : jm_Ok (jm_PP l D clR ad aC shR b0 0)) (hrec : ∀ (t : Nat) (av : List Value) (x : jm_X), jm_Con (jm_PP l D clR ad aC shR b0 0) (rcR t) d0 av x (g t av x))  (x : jm_X) : jm_Con (jm_PP l D clR ad aC shR b0 0) mt_M_taped (d0 + 1) [.ref 0] x (f_M_taped K g  x) := by
  refine jm_Con.of (plainFor_of_name (by decide +kernel)) (Nat.le_of_ble_eq_true rfl) ?_
  have hT := tk_M (l := l) (D := D) (ad := ad) (aC := aC) (b0 := b0)
  unfold f_M_taped
  show jm_V _ _ _ 0 [(0, .ref 0)] [] x _
  refine jm_V.run (is := bk_M_taped_0_3) (pc' := 5) (ls' := [(0, .ref 0)]) (st' := []) (x' := (va_up x.1 5 0, x.2)) hok hT bk_M_taped_0_3_ok rfl ?_
  refine jm_V.then_ (fun x1 => ?_)
  refine jm_V.run (is := bk_M_taped_5_2) (pc' := 9) (ls' := [(0, .ref 0)]) (st' := [.int (x1.1 6)]) (x' := x1) hok hT bk_M_taped_5_2_ok rfl ?_
  exact jm_V.iret rfl dd_M_taped_9
abbrev bk_M_bad_0_3 : List (Nat × Instr × Nat) := [(0, .aload_n 0, 1), (1, .iload_n 1, 1), (2, .putfield 68, 3)]
theorem bk_M_bad_0_3_ok : jm_at mt_M_bad.2.1 bk_M_bad_0_3 = true := by decide +kernel
abbrev bk_M_bad_5_2 : List (Nat × Instr × Nat) := [(5, .aload_n 0, 1), (6, .getfield 64, 3)]
theorem bk_M_bad_5_2_ok : jm_at mt_M_bad.2.1 bk_M_bad_5_2 = true := by decide +kernel
theorem dd_M_bad_9 : decode mt_M_bad.2.1 9 = .ok (.areturn, 1) := by decide +kernel
def f_M_bad (K : Nat) (g : jm_Rec) (a1 : Int32) (x : jm_X) : Option jm_R := jm_then (va_up x.1 7 a1, x.2) (fun x1 => some (.inl (some (.ref 2), x1)))
set_option maxRecDepth 100000 in
set_option maxHeartbeats 4000000 in
theorem c_M_bad {l : Launch} {D : va_G} {ad : Nat → Nat} {aC : Nat → ClassId} {b0 : Nat} {K d0 : Nat} {g : jm_Rec} (hok : jm_Ok (jm_PP l D clR ad aC shR b0 0)) (hrec : ∀ (t : Nat) (av : List Value) (x : jm_X), jm_Con (jm_PP l D clR ad aC shR b0 0) (rcR t) d0 av x (g t av x)) (a1 : Int32) (x : jm_X) : jm_Con (jm_PP l D clR ad aC shR b0 0) mt_M_bad (d0 + 1) [.ref 0, .int a1] x (f_M_bad K g a1 x) := by
  refine jm_Con.of (plainFor_of_name (by decide +kernel)) (Nat.le_of_ble_eq_true rfl) ?_
  have hT := tk_M (l := l) (D := D) (ad := ad) (aC := aC) (b0 := b0)
  unfold f_M_bad
  show jm_V _ _ _ 0 [(0, .ref 0), (1, .int a1)] [] x _
  refine jm_V.run (is := bk_M_bad_0_3) (pc' := 5) (ls' := [(0, .ref 0), (1, .int a1)]) (st' := []) (x' := (va_up x.1 7 a1, x.2)) hok hT bk_M_bad_0_3_ok rfl ?_
  refine jm_V.then_ (fun x1 => ?_)
  refine jm_V.run (is := bk_M_bad_5_2) (pc' := 9) (ls' := [(0, .ref 0), (1, .int a1)]) (st' := [.ref 2]) (x' := x1) hok hT bk_M_bad_5_2_ok rfl ?_
  exact jm_V.aret rfl (Or.inl ⟨_, rfl⟩) dd_M_bad_9
abbrev bk_M_enter_0_4 : List (Nat × Instr × Nat) := [(0, .aload_n 0, 1), (1, .getfield 116, 3), (4, .bipush 60, 2), (6, .if_icmp .ne 12, 3)]
theorem bk_M_enter_0_4_ok : jm_at mt_M_enter.2.1 bk_M_enter_0_4 = true := by decide +kernel
abbrev bk_M_enter_9_3 : List (Nat × Instr × Nat) := [(9, .aload_n 0, 1), (10, .aload_n 0, 1), (11, .getfield 131, 3)]
theorem bk_M_enter_9_3_ok : jm_at mt_M_enter.2.1 bk_M_enter_9_3 = true := by decide +kernel
abbrev bk_M_enter_18_6 : List (Nat × Instr × Nat) := [(18, .aload_n 0, 1), (19, .dup, 1), (20, .getfield 116, 3), (23, .iconst 1, 1), (24, .iadd, 1), (25, .putfield 116, 3)]
theorem bk_M_enter_18_6_ok : jm_at mt_M_enter.2.1 bk_M_enter_18_6 = true := by decide +kernel
theorem dd_M_enter_14 : decode mt_M_enter.2.1 14 = .ok (.invokevirtual 134, 3) := by decide +kernel
theorem dd_M_enter_17 : decode mt_M_enter.2.1 17 = .ok (.athrow, 1) := by decide +kernel
theorem dd_M_enter_28 : decode mt_M_enter.2.1 28 = .ok (.return_, 1) := by decide +kernel
def f_M_enter (K : Nat) (g : jm_Rec)  (x : jm_X) : Option jm_R := (if (x.1 12) = 60 then jm_bA (f_M_bad K g (x.1 9) x) (fun b2 x1 => (if b2 = 2 then some (.inr ("java/lang/IllegalStateException", x1)) else none)) else jm_then (va_up x.1 12 ((x.1 12) + 1), x.2) (fun x3 => some (.inl (none, x3))))
set_option maxRecDepth 100000 in
set_option maxHeartbeats 4000000 in
theorem c_M_enter {l : Launch} {D : va_G} {ad : Nat → Nat} {aC : Nat → ClassId} {b0 : Nat} {K d0 : Nat} {g : jm_Rec} (hok : jm_Ok (jm_PP l D clR ad aC shR b0 0)) (hrec : ∀ (t : Nat) (av : List Value) (x : jm_X), jm_Con (jm_PP l D clR ad aC shR b0 0) (rcR t) d0 av x (g t av x))  (x : jm_X) : jm_Con (jm_PP l D clR ad aC shR b0 0) mt_M_enter (d0 + 2) [.ref 0] x (f_M_enter K g  x) := by
  refine jm_Con.of (plainFor_of_name (by decide +kernel)) (Nat.le_of_ble_eq_true rfl) ?_
  have hT := tk_M (l := l) (D := D) (ad := ad) (aC := aC) (b0 := b0)
  unfold f_M_enter
  show jm_V _ _ _ 0 [(0, .ref 0)] [] x _
  refine jm_V.run (is := bk_M_enter_0_4) (pc' := (if (x.1 12) = 60 then 9 else 18)) (ls' := [(0, .ref 0)]) (st' := []) (x' := x) hok hT bk_M_enter_0_4_ok rfl ?_
  refine jm_V.ite (fun _ => ?_) (fun _ => ?_)
  · refine jm_V.run (is := bk_M_enter_9_3) (pc' := 14) (ls' := [(0, .ref 0)]) (st' := [.int (x.1 9), .ref 0]) (x' := x) hok hT bk_M_enter_9_3_ok rfl ?_
    refine jm_V.callA (av := [.ref 0, .int (x.1 9)]) (rest := []) hok (jm_Con.mono (c_M_bad hok hrec (x.1 9) x) (by omega)) (jm_Inv.obj (q := ("FilterReaderModel", T_M, 22)) dd_M_enter_14 (Or.inl lk_M_134) mn_M_bad ms_M_bad mw_M_bad mh_M_bad ml_M_bad rfl rfl) mw_M_bad mi_M (Nat.le_of_ble_eq_true rfl) (Nat.le_of_ble_eq_true rfl) (fun b2 x1 => ?_)
    exact jm_V.athrowS (o := 2) (q := ("java/lang/IllegalStateException", T_X, 0)) rfl rfl dd_M_enter_17
  · refine jm_V.run (is := bk_M_enter_18_6) (pc' := 28) (ls' := [(0, .ref 0)]) (st' := []) (x' := (va_up x.1 12 ((x.1 12) + 1), x.2)) hok hT bk_M_enter_18_6_ok rfl ?_
    refine jm_V.then_ (fun x3 => ?_)
    exact jm_V.vret rfl dd_M_enter_28
abbrev bk_M_digit_0_3 : List (Nat × Instr × Nat) := [(0, .iload_n 0, 1), (1, .bipush 48, 2), (3, .if_icmp .lt 13, 3)]
theorem bk_M_digit_0_3_ok : jm_at mt_M_digit.2.1 bk_M_digit_0_3 = true := by decide +kernel
abbrev bk_M_digit_6_3 : List (Nat × Instr × Nat) := [(6, .iload_n 0, 1), (7, .bipush 57, 2), (9, .if_icmp .gt 7, 3)]
theorem bk_M_digit_6_3_ok : jm_at mt_M_digit.2.1 bk_M_digit_6_3 = true := by decide +kernel
abbrev bk_M_digit_12_2 : List (Nat × Instr × Nat) := [(12, .iconst 1, 1), (13, .goto 4, 3)]
theorem bk_M_digit_12_2_ok : jm_at mt_M_digit.2.1 bk_M_digit_12_2 = true := by decide +kernel
abbrev bk_M_digit_16_1 : List (Nat × Instr × Nat) := [(16, .iconst 0, 1)]
theorem bk_M_digit_16_1_ok : jm_at mt_M_digit.2.1 bk_M_digit_16_1 = true := by decide +kernel
theorem dd_M_digit_17 : decode mt_M_digit.2.1 17 = .ok (.ireturn, 1) := by decide +kernel
def J_M_digit_17 (K : Nat) (g : jm_Rec) (s0 : Int32) (x : jm_X) : Option jm_R := some (.inl (some (.int (vp_nar .boolean s0)), x))
set_option maxRecDepth 100000 in
set_option maxHeartbeats 4000000 in
theorem jj_M_digit_17 {l : Launch} {D : va_G} {ad : Nat → Nat} {aC : Nat → ClassId} {b0 : Nat} {K d0 : Nat} {g : jm_Rec} (hok : jm_Ok (jm_PP l D clR ad aC shR b0 0)) (hrec : ∀ (t : Nat) (av : List Value) (x : jm_X), jm_Con (jm_PP l D clR ad aC shR b0 0) (rcR t) d0 av x (g t av x)) (s0 : Int32) (x : jm_X) : jm_V (jm_PP l D clR ad aC shR b0 0) mt_M_digit (d0 + 1) 17 [] [.int s0] x (J_M_digit_17 K g s0 x) := by
  have hT := tk_M (l := l) (D := D) (ad := ad) (aC := aC) (b0 := b0)
  unfold J_M_digit_17
  exact jm_V.nret (t := .boolean) rfl rfl dd_M_digit_17
def J_M_digit_16 (K : Nat) (g : jm_Rec)  (x : jm_X) : Option jm_R := J_M_digit_17 K g 0 x
set_option maxRecDepth 100000 in
set_option maxHeartbeats 4000000 in
theorem jj_M_digit_16 {l : Launch} {D : va_G} {ad : Nat → Nat} {aC : Nat → ClassId} {b0 : Nat} {K d0 : Nat} {g : jm_Rec} (hok : jm_Ok (jm_PP l D clR ad aC shR b0 0)) (hrec : ∀ (t : Nat) (av : List Value) (x : jm_X), jm_Con (jm_PP l D clR ad aC shR b0 0) (rcR t) d0 av x (g t av x))  (x : jm_X) : jm_V (jm_PP l D clR ad aC shR b0 0) mt_M_digit (d0 + 1) 16 [] [] x (J_M_digit_16 K g  x) := by
  have hT := tk_M (l := l) (D := D) (ad := ad) (aC := aC) (b0 := b0)
  unfold J_M_digit_16
  refine jm_V.run (is := bk_M_digit_16_1) (pc' := 17) (ls' := []) (st' := [.int 0]) (x' := x) hok hT bk_M_digit_16_1_ok rfl ?_
  exact jj_M_digit_17 hok hrec 0 x
def f_M_digit (K : Nat) (g : jm_Rec) (a1 : Int32) (x : jm_X) : Option jm_R := (if a1 < 48 then J_M_digit_16 K g x else (if 57 < a1 then J_M_digit_16 K g x else J_M_digit_17 K g 1 x))
set_option maxRecDepth 100000 in
set_option maxHeartbeats 4000000 in
theorem c_M_digit {l : Launch} {D : va_G} {ad : Nat → Nat} {aC : Nat → ClassId} {b0 : Nat} {K d0 : Nat} {g : jm_Rec} (hok : jm_Ok (jm_PP l D clR ad aC shR b0 0)) (hrec : ∀ (t : Nat) (av : List Value) (x : jm_X), jm_Con (jm_PP l D clR ad aC shR b0 0) (rcR t) d0 av x (g t av x)) (a1 : Int32) (x : jm_X) : jm_Con (jm_PP l D clR ad aC shR b0 0) mt_M_digit (d0 + 1) [.int a1] x (f_M_digit K g a1 x) := by
  refine jm_Con.of (plainFor_of_name (by decide +kernel)) (Nat.le_of_ble_eq_true rfl) ?_
  have hT := tk_M (l := l) (D := D) (ad := ad) (aC := aC) (b0 := b0)
  unfold f_M_digit
  show jm_V _ _ _ 0 [(0, .int a1)] [] x _
  refine jm_V.run (is := bk_M_digit_0_3) (pc' := (if a1 < 48 then 16 else 6)) (ls' := [(0, .int a1)]) (st' := []) (x' := x) hok hT bk_M_digit_0_3_ok rfl ?_
  refine jm_V.ite (fun _ => ?_) (fun _ => ?_)
  · refine jm_V.sub (ls' := []) [] rfl ?_
    exact jj_M_digit_16 hok hrec x
  · refine jm_V.run (is := bk_M_digit_6_3) (pc' := (if 57 < a1 then 16 else 12)) (ls' := [(0, .int a1)]) (st' := []) (x' := x) hok hT bk_M_digit_6_3_ok rfl ?_
    refine jm_V.ite (fun _ => ?_) (fun _ => ?_)
    · refine jm_V.sub (ls' := []) [] rfl ?_
      exact jj_M_digit_16 hok hrec x
    · refine jm_V.run (is := bk_M_digit_12_2) (pc' := 17) (ls' := [(0, .int a1)]) (st' := [.int 1]) (x' := x) hok hT bk_M_digit_12_2_ok rfl ?_
      refine jm_V.sub (ls' := []) [] rfl ?_
      exact jj_M_digit_17 hok hrec 1 x
abbrev bk_M_look_0_4 : List (Nat × Instr × Nat) := [(0, .iload_n 1, 1), (1, .aload_n 0, 1), (2, .getfield 110, 3), (5, .if_icmp .ge 12, 3)]
theorem bk_M_look_0_4_ok : jm_at mt_M_look.2.1 bk_M_look_0_4 = true := by decide +kernel
abbrev bk_M_look_17_1 : List (Nat × Instr × Nat) := [(17, .iconst (-1), 1)]
theorem bk_M_look_17_1_ok : jm_at mt_M_look.2.1 bk_M_look_17_1 = true := by decide +kernel
abbrev bk_M_look_8_3 : List (Nat × Instr × Nat) := [(8, .aload_n 0, 1), (9, .getfield 72, 3), (12, .iload_n 1, 1)]
theorem bk_M_look_8_3_ok : jm_at mt_M_look.2.1 bk_M_look_8_3 = true := by decide +kernel
abbrev bk_M_look_14_1 : List (Nat × Instr × Nat) := [(14, .goto 4, 3)]
theorem bk_M_look_14_1_ok : jm_at mt_M_look.2.1 bk_M_look_14_1 = true := by decide +kernel
theorem dd_M_look_13 : decode mt_M_look.2.1 13 = .ok (.baload, 1) := by decide +kernel
theorem dd_M_look_18 : decode mt_M_look.2.1 18 = .ok (.ireturn, 1) := by decide +kernel
def J_M_look_18 (K : Nat) (g : jm_Rec) (s0 : Int32) (x : jm_X) : Option jm_R := some (.inl (some (.int s0), x))
set_option maxRecDepth 100000 in
set_option maxHeartbeats 4000000 in
theorem jj_M_look_18 {l : Launch} {D : va_G} {ad : Nat → Nat} {aC : Nat → ClassId} {b0 : Nat} {K d0 : Nat} {g : jm_Rec} (hok : jm_Ok (jm_PP l D clR ad aC shR b0 0)) (hrec : ∀ (t : Nat) (av : List Value) (x : jm_X), jm_Con (jm_PP l D clR ad aC shR b0 0) (rcR t) d0 av x (g t av x)) (s0 : Int32) (x : jm_X) : jm_V (jm_PP l D clR ad aC shR b0 0) mt_M_look (d0 + 1) 18 [] [.int s0] x (J_M_look_18 K g s0 x) := by
  have hT := tk_M (l := l) (D := D) (ad := ad) (aC := aC) (b0 := b0)
  unfold J_M_look_18
  exact jm_V.iret rfl dd_M_look_18
def f_M_look (K : Nat) (g : jm_Rec) (a1 : Int32) (x : jm_X) : Option jm_R := (if (x.1 8) ≤ a1 then J_M_look_18 K g (-1) x else (if jm_in shR 3 .byte a1 then J_M_look_18 K g (x.2.2 3 (Int32.toNatClampNeg a1)) x else none))
set_option maxRecDepth 100000 in
set_option maxHeartbeats 4000000 in
theorem c_M_look {l : Launch} {D : va_G} {ad : Nat → Nat} {aC : Nat → ClassId} {b0 : Nat} {K d0 : Nat} {g : jm_Rec} (hok : jm_Ok (jm_PP l D clR ad aC shR b0 0)) (hrec : ∀ (t : Nat) (av : List Value) (x : jm_X), jm_Con (jm_PP l D clR ad aC shR b0 0) (rcR t) d0 av x (g t av x)) (a1 : Int32) (x : jm_X) : jm_Con (jm_PP l D clR ad aC shR b0 0) mt_M_look (d0 + 1) [.ref 0, .int a1] x (f_M_look K g a1 x) := by
  refine jm_Con.of (plainFor_of_name (by decide +kernel)) (Nat.le_of_ble_eq_true rfl) ?_
  have hT := tk_M (l := l) (D := D) (ad := ad) (aC := aC) (b0 := b0)
  unfold f_M_look
  show jm_V _ _ _ 0 [(0, .ref 0), (1, .int a1)] [] x _
  refine jm_V.run (is := bk_M_look_0_4) (pc' := (if (x.1 8) ≤ a1 then 17 else 8)) (ls' := [(0, .ref 0), (1, .int a1)]) (st' := []) (x' := x) hok hT bk_M_look_0_4_ok rfl ?_
  refine jm_V.ite (fun _ => ?_) (fun _ => ?_)
  · refine jm_V.run (is := bk_M_look_17_1) (pc' := 18) (ls' := [(0, .ref 0), (1, .int a1)]) (st' := [.int (-1)]) (x' := x) hok hT bk_M_look_17_1_ok rfl ?_
    refine jm_V.sub (ls' := []) [] rfl ?_
    exact jj_M_look_18 hok hrec (-1) x
  · refine jm_V.run (is := bk_M_look_8_3) (pc' := 13) (ls' := [(0, .ref 0), (1, .int a1)]) (st' := [.int a1, .ref 3]) (x' := x) hok hT bk_M_look_8_3_ok rfl ?_
    refine jm_V.bald dd_M_look_13 ?_
    refine jm_V.run (is := bk_M_look_14_1) (pc' := 18) (ls' := [(0, .ref 0), (1, .int a1)]) (st' := [.int (x.2.2 3 (Int32.toNatClampNeg a1))]) (x' := x) hok hT bk_M_look_14_1_ok rfl ?_
    refine jm_V.sub (ls' := []) [] rfl ?_
    exact jj_M_look_18 hok hrec (x.2.2 3 (Int32.toNatClampNeg a1)) x
abbrev bk_M_take_0_3 : List (Nat × Instr × Nat) := [(0, .aload_n 0, 1), (1, .iload_n 1, 1), (2, .putfield 128, 3)]
theorem bk_M_take_0_3_ok : jm_at mt_M_take.2.1 bk_M_take_0_3 = true := by decide +kernel
abbrev bk_M_take_5_6 : List (Nat × Instr × Nat) := [(5, .aload_n 0, 1), (6, .aload_n 0, 1), (7, .getfield 131, 3), (10, .iload_n 2, 1), (11, .iadd, 1), (12, .putfield 119, 3)]
theorem bk_M_take_5_6_ok : jm_at mt_M_take.2.1 bk_M_take_5_6 = true := by decide +kernel
theorem dd_M_take_15 : decode mt_M_take.2.1 15 = .ok (.return_, 1) := by decide +kernel
def f_M_take (K : Nat) (g : jm_Rec) (a1 : Int32) (a2 : Int32) (x : jm_X) : Option jm_R := jm_then (va_up x.1 11 a1, x.2) (fun x1 => jm_then (va_up x1.1 10 ((x1.1 9) + a2), x1.2) (fun x2 => some (.inl (none, x2))))
set_option maxRecDepth 100000 in
set_option maxHeartbeats 4000000 in
theorem c_M_take {l : Launch} {D : va_G} {ad : Nat → Nat} {aC : Nat → ClassId} {b0 : Nat} {K d0 : Nat} {g : jm_Rec} (hok : jm_Ok (jm_PP l D clR ad aC shR b0 0)) (hrec : ∀ (t : Nat) (av : List Value) (x : jm_X), jm_Con (jm_PP l D clR ad aC shR b0 0) (rcR t) d0 av x (g t av x)) (a1 : Int32) (a2 : Int32) (x : jm_X) : jm_Con (jm_PP l D clR ad aC shR b0 0) mt_M_take (d0 + 1) [.ref 0, .int a1, .int a2] x (f_M_take K g a1 a2 x) := by
  refine jm_Con.of (plainFor_of_name (by decide +kernel)) (Nat.le_of_ble_eq_true rfl) ?_
  have hT := tk_M (l := l) (D := D) (ad := ad) (aC := aC) (b0 := b0)
  unfold f_M_take
  show jm_V _ _ _ 0 [(0, .ref 0), (1, .int a1), (2, .int a2)] [] x _
  refine jm_V.run (is := bk_M_take_0_3) (pc' := 5) (ls' := [(0, .ref 0), (1, .int a1), (2, .int a2)]) (st' := []) (x' := (va_up x.1 11 a1, x.2)) hok hT bk_M_take_0_3_ok rfl ?_
  refine jm_V.then_ (fun x1 => ?_)
  refine jm_V.run (is := bk_M_take_5_6) (pc' := 15) (ls' := [(0, .ref 0), (1, .int a1), (2, .int a2)]) (st' := []) (x' := (va_up x1.1 10 ((x1.1 9) + a2), x1.2)) hok hT bk_M_take_5_6_ok rfl ?_
  refine jm_V.then_ (fun x2 => ?_)
  exact jm_V.vret rfl dd_M_take_15
abbrev bk_M_digits_0_5 : List (Nat × Instr × Nat) := [(0, .lconst 0, 1), (1, .lstore_n 1, 1), (2, .aload_n 0, 1), (3, .getfield 131, 3), (6, .istore_n 3, 1)]
theorem bk_M_digits_0_5_ok : jm_at mt_M_digits.2.1 bk_M_digits_0_5 = true := by decide +kernel
abbrev bk_M_digits_7_2 : List (Nat × Instr × Nat) := [(7, .aload_n 0, 1), (8, .iload_n 3, 1)]
theorem bk_M_digits_7_2_ok : jm_at mt_M_digits.2.1 bk_M_digits_7_2 = true := by decide +kernel
abbrev bk_M_digits_15_1 : List (Nat × Instr × Nat) := [(15, .ifCond .eq 34, 3)]
theorem bk_M_digits_15_1_ok : jm_at mt_M_digits.2.1 bk_M_digits_15_1 = true := by decide +kernel
abbrev bk_M_digits_49_5 : List (Nat × Instr × Nat) := [(49, .aload_n 0, 1), (50, .lload_n 1, 1), (51, .ldc2_w 162, 3), (54, .lcmp, 1), (55, .ifCond .ge 7, 3)]
theorem bk_M_digits_49_5_ok : jm_at mt_M_digits.2.1 bk_M_digits_49_5 = true := by decide +kernel
abbrev bk_M_digits_62_1 : List (Nat × Instr × Nat) := [(62, .bipush 25, 2)]
theorem bk_M_digits_62_1_ok : jm_at mt_M_digits.2.1 bk_M_digits_62_1 = true := by decide +kernel
abbrev bk_M_digits_58_2 : List (Nat × Instr × Nat) := [(58, .iconst 4, 1), (59, .goto 5, 3)]
theorem bk_M_digits_58_2_ok : jm_at mt_M_digits.2.1 bk_M_digits_58_2 = true := by decide +kernel
abbrev bk_M_digits_18_4 : List (Nat × Instr × Nat) := [(18, .lload_n 1, 1), (19, .ldc2_w 162, 3), (22, .lcmp, 1), (23, .ifCond .ge 20, 3)]
theorem bk_M_digits_18_4_ok : jm_at mt_M_digits.2.1 bk_M_digits_18_4 = true := by decide +kernel
abbrev bk_M_digits_26_5 : List (Nat × Instr × Nat) := [(26, .ldc2_w 164, 3), (29, .lload_n 1, 1), (30, .lmul, 1), (31, .aload_n 0, 1), (32, .iload_n 3, 1)]
theorem bk_M_digits_26_5_ok : jm_at mt_M_digits.2.1 bk_M_digits_26_5 = true := by decide +kernel
abbrev bk_M_digits_36_5 : List (Nat × Instr × Nat) := [(36, .i2l, 1), (37, .ladd, 1), (38, .ldc2_w 166, 3), (41, .lsub, 1), (42, .lstore_n 1, 1)]
theorem bk_M_digits_36_5_ok : jm_at mt_M_digits.2.1 bk_M_digits_36_5 = true := by decide +kernel
abbrev bk_M_digits_43_2 : List (Nat × Instr × Nat) := [(43, .iinc 3 1, 3), (46, .goto (-39), 3)]
theorem bk_M_digits_43_2_ok : jm_at mt_M_digits.2.1 bk_M_digits_43_2 = true := by decide +kernel
abbrev bk_M_digits_64_4 : List (Nat × Instr × Nat) := [(64, .iload_n 3, 1), (65, .aload_n 0, 1), (66, .getfield 131, 3), (69, .isub, 1)]
theorem bk_M_digits_64_4_ok : jm_at mt_M_digits.2.1 bk_M_digits_64_4 = true := by decide +kernel
theorem dd_M_digits_9 : decode mt_M_digits.2.1 9 = .ok (.invokevirtual 138, 3) := by decide +kernel
theorem dd_M_digits_12 : decode mt_M_digits.2.1 12 = .ok (.invokestatic 145, 3) := by decide +kernel
theorem dd_M_digits_33 : decode mt_M_digits.2.1 33 = .ok (.invokevirtual 138, 3) := by decide +kernel
theorem dd_M_digits_70 : decode mt_M_digits.2.1 70 = .ok (.invokevirtual 151, 3) := by decide +kernel
theorem dd_M_digits_73 : decode mt_M_digits.2.1 73 = .ok (.return_, 1) := by decide +kernel
def J_M_digits_64 (K : Nat) (g : jm_Rec) (v3 : Int32) (s0 : Int32) (x : jm_X) : Option jm_R := jm_bV (f_M_take K g s0 (v3 - (x.1 9)) x) (fun x7 => some (.inl (none, x7)))
set_option maxRecDepth 100000 in
set_option maxHeartbeats 4000000 in
theorem jj_M_digits_64 {l : Launch} {D : va_G} {ad : Nat → Nat} {aC : Nat → ClassId} {b0 : Nat} {K d0 : Nat} {g : jm_Rec} (hok : jm_Ok (jm_PP l D clR ad aC shR b0 0)) (hrec : ∀ (t : Nat) (av : List Value) (x : jm_X), jm_Con (jm_PP l D clR ad aC shR b0 0) (rcR t) d0 av x (g t av x)) (v3 : Int32) (s0 : Int32) (x : jm_X) : jm_V (jm_PP l D clR ad aC shR b0 0) mt_M_digits (d0 + 2) 64 [(0, .ref 0), (3, .int v3)] [.int s0, .ref 0] x (J_M_digits_64 K g v3 s0 x) := by
  have hT := tk_M (l := l) (D := D) (ad := ad) (aC := aC) (b0 := b0)
  unfold J_M_digits_64
  refine jm_V.run (is := bk_M_digits_64_4) (pc' := 70) (ls' := [(0, .ref 0), (3, .int v3)]) (st' := [.int (v3 - (x.1 9)), .int s0, .ref 0]) (x' := x) hok hT bk_M_digits_64_4_ok rfl ?_
  refine jm_V.callV (av := [.ref 0, .int s0, .int (v3 - (x.1 9))]) (rest := []) hok (jm_Con.mono (c_M_take hok hrec s0 (v3 - (x.1 9)) x) (by omega)) (jm_Inv.obj (q := ("FilterReaderModel", T_M, 22)) dd_M_digits_70 (Or.inl lk_M_151) mn_M_take ms_M_take mw_M_take mh_M_take ml_M_take rfl rfl) mw_M_take mi_M (Nat.le_of_ble_eq_true rfl) (Nat.le_of_ble_eq_true rfl) (fun x7 => ?_)
  exact jm_V.vret rfl dd_M_digits_73
def J_M_digits_43 (K : Nat) (g : jm_Rec) (k7 : Int64 → Int32 → jm_X → Option jm_R) (v1 : Int64) (v3 : Int32) (x : jm_X) : Option jm_R := k7 v1 (v3 + 1) x
set_option maxRecDepth 100000 in
set_option maxHeartbeats 4000000 in
theorem jj_M_digits_43 {l : Launch} {D : va_G} {ad : Nat → Nat} {aC : Nat → ClassId} {b0 : Nat} {K d0 : Nat} {g : jm_Rec} (hok : jm_Ok (jm_PP l D clR ad aC shR b0 0)) (hrec : ∀ (t : Nat) (av : List Value) (x : jm_X), jm_Con (jm_PP l D clR ad aC shR b0 0) (rcR t) d0 av x (g t av x)) {k7 : Int64 → Int32 → jm_X → Option jm_R} (hk7 : ∀ (v1 : Int64) (v3 : Int32) (x : jm_X), jm_V (jm_PP l D clR ad aC shR b0 0) mt_M_digits (d0 + 2) 7 [(0, .ref 0), (1, .long v1), (3, .int v3)] [] x (k7 v1 v3 x)) (v1 : Int64) (v3 : Int32) (x : jm_X) : jm_V (jm_PP l D clR ad aC shR b0 0) mt_M_digits (d0 + 2) 43 [(0, .ref 0), (1, .long v1), (3, .int v3)] [] x (J_M_digits_43 K g k7 v1 v3 x) := by
  have hT := tk_M (l := l) (D := D) (ad := ad) (aC := aC) (b0 := b0)
  unfold J_M_digits_43
  refine jm_V.run (is := bk_M_digits_43_2) (pc' := 7) (ls' := [(3, .int (v3 + 1)), (0, .ref 0), (1, .long v1)]) (st' := []) (x' := x) hok hT bk_M_digits_43_2_ok rfl ?_
  refine jm_V.sub (ls' := [(0, .ref 0), (1, .long v1), (3, .int (v3 + 1))]) [1, 2, 0] rfl ?_
  exact hk7 v1 (v3 + 1) x
def B_M_digits_7 (K : Nat) (g : jm_Rec) (self : Int64 → Int32 → jm_X → Option jm_R) (v1 : Int64) (v3 : Int32) (x : jm_X) : Option jm_R := jm_bI (f_M_look K g v3 x) (fun b2 x1 => jm_bI (f_M_digit K g b2 x1) (fun b4 x3 => (if b4 = 0 then (if 0 ≤ (lg_cmp v1 9007199254740992) then J_M_digits_64 K g v3 25 x3 else J_M_digits_64 K g v3 4 x3) else (if 0 ≤ (lg_cmp v1 9007199254740992) then J_M_digits_43 K g self v1 v3 x3 else jm_bI (f_M_look K g v3 x3) (fun b6 x5 => J_M_digits_43 K g self (((10 * v1) + (Int32.toInt64 b6)) - 48) v3 x5)))))
def L_M_digits_7 (K : Nat) (g : jm_Rec) : Nat → Int64 → Int32 → jm_X → Option jm_R
  | 0, _, _, _ => none
  | k + 1, v1, v3, x => B_M_digits_7 K g (L_M_digits_7 K g k) v1 v3 x
set_option maxRecDepth 100000 in
set_option maxHeartbeats 4000000 in
theorem jb_M_digits_7 {l : Launch} {D : va_G} {ad : Nat → Nat} {aC : Nat → ClassId} {b0 : Nat} {K d0 : Nat} {g : jm_Rec} (hok : jm_Ok (jm_PP l D clR ad aC shR b0 0)) (hrec : ∀ (t : Nat) (av : List Value) (x : jm_X), jm_Con (jm_PP l D clR ad aC shR b0 0) (rcR t) d0 av x (g t av x)) {self : Int64 → Int32 → jm_X → Option jm_R} (hself : ∀ (v1 : Int64) (v3 : Int32) (x : jm_X), jm_V (jm_PP l D clR ad aC shR b0 0) mt_M_digits (d0 + 2) 7 [(0, .ref 0), (1, .long v1), (3, .int v3)] [] x (self v1 v3 x)) (v1 : Int64) (v3 : Int32) (x : jm_X) : jm_V (jm_PP l D clR ad aC shR b0 0) mt_M_digits (d0 + 2) 7 [(0, .ref 0), (1, .long v1), (3, .int v3)] [] x (B_M_digits_7 K g self v1 v3 x) := by
  have hT := tk_M (l := l) (D := D) (ad := ad) (aC := aC) (b0 := b0)
  unfold B_M_digits_7
  refine jm_V.run (is := bk_M_digits_7_2) (pc' := 9) (ls' := [(0, .ref 0), (1, .long v1), (3, .int v3)]) (st' := [.int v3, .ref 0]) (x' := x) hok hT bk_M_digits_7_2_ok rfl ?_
  refine jm_V.callI (av := [.ref 0, .int v3]) (rest := []) hok (jm_Con.mono (c_M_look hok hrec v3 x) (by omega)) (jm_Inv.obj (q := ("FilterReaderModel", T_M, 22)) dd_M_digits_9 (Or.inl lk_M_138) mn_M_look ms_M_look mw_M_look mh_M_look ml_M_look rfl rfl) mw_M_look mi_M (Nat.le_of_ble_eq_true rfl) (Nat.le_of_ble_eq_true rfl) (fun b2 x1 => ?_)
  refine jm_V.callI (av := [.int b2]) (rest := []) hok (jm_Con.mono (c_M_digit hok hrec b2 x1) (by omega)) (jm_Inv.stat dd_M_digits_12 (Or.inl lk_M_145) mq_M_digit mi_M mw_M_digit mh_M_digit ml_M_digit) mw_M_digit mi_M (Nat.le_of_ble_eq_true rfl) (Nat.le_of_ble_eq_true rfl) (fun b4 x3 => ?_)
  refine jm_V.run (is := bk_M_digits_15_1) (pc' := (if b4 = 0 then 49 else 18)) (ls' := [(0, .ref 0), (1, .long v1), (3, .int v3)]) (st' := []) (x' := x3) hok hT bk_M_digits_15_1_ok rfl ?_
  refine jm_V.ite (fun _ => ?_) (fun _ => ?_)
  · refine jm_V.run (is := bk_M_digits_49_5) (pc' := (if 0 ≤ (lg_cmp v1 9007199254740992) then 62 else 58)) (ls' := [(0, .ref 0), (1, .long v1), (3, .int v3)]) (st' := [.ref 0]) (x' := x3) hok hT bk_M_digits_49_5_ok rfl ?_
    refine jm_V.ite (fun _ => ?_) (fun _ => ?_)
    · refine jm_V.run (is := bk_M_digits_62_1) (pc' := 64) (ls' := [(0, .ref 0), (1, .long v1), (3, .int v3)]) (st' := [.int 25, .ref 0]) (x' := x3) hok hT bk_M_digits_62_1_ok rfl ?_
      refine jm_V.sub (ls' := [(0, .ref 0), (3, .int v3)]) [0, 2] rfl ?_
      exact jj_M_digits_64 hok hrec v3 25 x3
    · refine jm_V.run (is := bk_M_digits_58_2) (pc' := 64) (ls' := [(0, .ref 0), (1, .long v1), (3, .int v3)]) (st' := [.int 4, .ref 0]) (x' := x3) hok hT bk_M_digits_58_2_ok rfl ?_
      refine jm_V.sub (ls' := [(0, .ref 0), (3, .int v3)]) [0, 2] rfl ?_
      exact jj_M_digits_64 hok hrec v3 4 x3
  · refine jm_V.run (is := bk_M_digits_18_4) (pc' := (if 0 ≤ (lg_cmp v1 9007199254740992) then 43 else 26)) (ls' := [(0, .ref 0), (1, .long v1), (3, .int v3)]) (st' := []) (x' := x3) hok hT bk_M_digits_18_4_ok rfl ?_
    refine jm_V.ite (fun _ => ?_) (fun _ => ?_)
    · exact jj_M_digits_43 hok hrec hself v1 v3 x3
    · refine jm_V.run (is := bk_M_digits_26_5) (pc' := 33) (ls' := [(0, .ref 0), (1, .long v1), (3, .int v3)]) (st' := [.int v3, .ref 0, .long (10 * v1)]) (x' := x3) hok hT bk_M_digits_26_5_ok rfl ?_
      refine jm_V.callI (av := [.ref 0, .int v3]) (rest := [.long (10 * v1)]) hok (jm_Con.mono (c_M_look hok hrec v3 x3) (by omega)) (jm_Inv.obj (q := ("FilterReaderModel", T_M, 22)) dd_M_digits_33 (Or.inl lk_M_138) mn_M_look ms_M_look mw_M_look mh_M_look ml_M_look rfl rfl) mw_M_look mi_M (Nat.le_of_ble_eq_true rfl) (Nat.le_of_ble_eq_true rfl) (fun b6 x5 => ?_)
      refine jm_V.run (is := bk_M_digits_36_5) (pc' := 43) (ls' := [(1, .long (((10 * v1) + (Int32.toInt64 b6)) - 48)), (0, .ref 0), (3, .int v3)]) (st' := []) (x' := x5) hok hT bk_M_digits_36_5_ok rfl ?_
      refine jm_V.sub (ls' := [(0, .ref 0), (1, .long (((10 * v1) + (Int32.toInt64 b6)) - 48)), (3, .int v3)]) [1, 0, 2] rfl ?_
      exact jj_M_digits_43 hok hrec hself (((10 * v1) + (Int32.toInt64 b6)) - 48) v3 x5
theorem jl_M_digits_7 {l : Launch} {D : va_G} {ad : Nat → Nat} {aC : Nat → ClassId} {b0 : Nat} {K d0 : Nat} {g : jm_Rec} (hok : jm_Ok (jm_PP l D clR ad aC shR b0 0)) (hrec : ∀ (t : Nat) (av : List Value) (x : jm_X), jm_Con (jm_PP l D clR ad aC shR b0 0) (rcR t) d0 av x (g t av x)) : ∀ (k : Nat) (v1 : Int64) (v3 : Int32) (x : jm_X), jm_V (jm_PP l D clR ad aC shR b0 0) mt_M_digits (d0 + 2) 7 [(0, .ref 0), (1, .long v1), (3, .int v3)] [] x (L_M_digits_7 K g k v1 v3 x)
  | 0, _, _, _ => jm_V.stuck
  | k + 1, v1, v3, x => jb_M_digits_7 hok hrec (fun v1 v3 x => jl_M_digits_7 hok hrec k v1 v3 x) v1 v3 x
def f_M_digits (K : Nat) (g : jm_Rec)  (x : jm_X) : Option jm_R := L_M_digits_7 K g K 0 (x.1 9) x
set_option maxRecDepth 100000 in
set_option maxHeartbeats 4000000 in
theorem c_M_digits {l : Launch} {D : va_G} {ad : Nat → Nat} {aC : Nat → ClassId} {b0 : Nat} {K d0 : Nat} {g : jm_Rec} (hok : jm_Ok (jm_PP l D clR ad aC shR b0 0)) (hrec : ∀ (t : Nat) (av : List Value) (x : jm_X), jm_Con (jm_PP l D clR ad aC shR b0 0) (rcR t) d0 av x (g t av x))  (x : jm_X) : jm_Con (jm_PP l D clR ad aC shR b0 0) mt_M_digits (d0 + 2) [.ref 0] x (f_M_digits K g  x) := by
  refine jm_Con.of (plainFor_of_name (by decide +kernel)) (Nat.le_of_ble_eq_true rfl) ?_
  have hT := tk_M (l := l) (D := D) (ad := ad) (aC := aC) (b0 := b0)
  unfold f_M_digits
  show jm_V _ _ _ 0 [(0, .ref 0)] [] x _
  refine jm_V.run (is := bk_M_digits_0_5) (pc' := 7) (ls' := [(3, .int (x.1 9)), (1, .long 0), (0, .ref 0)]) (st' := []) (x' := x) hok hT bk_M_digits_0_5_ok rfl ?_
  refine jm_V.sub (ls' := [(0, .ref 0), (1, .long 0), (3, .int (x.1 9))]) [2, 1, 0] rfl ?_
  exact jl_M_digits_7 hok hrec K 0 (x.1 9) x
abbrev bk_M_first_0_3 : List (Nat × Instr × Nat) := [(0, .iload_n 0, 1), (1, .bipush 97, 2), (3, .if_icmp .lt 9, 3)]
theorem bk_M_first_0_3_ok : jm_at mt_M_first.2.1 bk_M_first_0_3 = true := by decide +kernel
abbrev bk_M_first_6_3 : List (Nat × Instr × Nat) := [(6, .iload_n 0, 1), (7, .bipush 122, 2), (9, .if_icmp .le 21, 3)]
theorem bk_M_first_6_3_ok : jm_at mt_M_first.2.1 bk_M_first_6_3 = true := by decide +kernel
abbrev bk_M_first_12_3 : List (Nat × Instr × Nat) := [(12, .iload_n 0, 1), (13, .bipush 65, 2), (15, .if_icmp .lt 9, 3)]
theorem bk_M_first_12_3_ok : jm_at mt_M_first.2.1 bk_M_first_12_3 = true := by decide +kernel
abbrev bk_M_first_18_3 : List (Nat × Instr × Nat) := [(18, .iload_n 0, 1), (19, .bipush 90, 2), (21, .if_icmp .le 9, 3)]
theorem bk_M_first_18_3_ok : jm_at mt_M_first.2.1 bk_M_first_18_3 = true := by decide +kernel
abbrev bk_M_first_24_3 : List (Nat × Instr × Nat) := [(24, .iload_n 0, 1), (25, .bipush 95, 2), (27, .if_icmp .ne 7, 3)]
theorem bk_M_first_24_3_ok : jm_at mt_M_first.2.1 bk_M_first_24_3 = true := by decide +kernel
abbrev bk_M_first_34_1 : List (Nat × Instr × Nat) := [(34, .iconst 0, 1)]
theorem bk_M_first_34_1_ok : jm_at mt_M_first.2.1 bk_M_first_34_1 = true := by decide +kernel
abbrev bk_M_first_30_2 : List (Nat × Instr × Nat) := [(30, .iconst 1, 1), (31, .goto 4, 3)]
theorem bk_M_first_30_2_ok : jm_at mt_M_first.2.1 bk_M_first_30_2 = true := by decide +kernel
theorem dd_M_first_35 : decode mt_M_first.2.1 35 = .ok (.ireturn, 1) := by decide +kernel
def J_M_first_35 (K : Nat) (g : jm_Rec) (s0 : Int32) (x : jm_X) : Option jm_R := some (.inl (some (.int (vp_nar .boolean s0)), x))
set_option maxRecDepth 100000 in
set_option maxHeartbeats 4000000 in
theorem jj_M_first_35 {l : Launch} {D : va_G} {ad : Nat → Nat} {aC : Nat → ClassId} {b0 : Nat} {K d0 : Nat} {g : jm_Rec} (hok : jm_Ok (jm_PP l D clR ad aC shR b0 0)) (hrec : ∀ (t : Nat) (av : List Value) (x : jm_X), jm_Con (jm_PP l D clR ad aC shR b0 0) (rcR t) d0 av x (g t av x)) (s0 : Int32) (x : jm_X) : jm_V (jm_PP l D clR ad aC shR b0 0) mt_M_first (d0 + 1) 35 [] [.int s0] x (J_M_first_35 K g s0 x) := by
  have hT := tk_M (l := l) (D := D) (ad := ad) (aC := aC) (b0 := b0)
  unfold J_M_first_35
  exact jm_V.nret (t := .boolean) rfl rfl dd_M_first_35
def J_M_first_30 (K : Nat) (g : jm_Rec)  (x : jm_X) : Option jm_R := J_M_first_35 K g 1 x
set_option maxRecDepth 100000 in
set_option maxHeartbeats 4000000 in
theorem jj_M_first_30 {l : Launch} {D : va_G} {ad : Nat → Nat} {aC : Nat → ClassId} {b0 : Nat} {K d0 : Nat} {g : jm_Rec} (hok : jm_Ok (jm_PP l D clR ad aC shR b0 0)) (hrec : ∀ (t : Nat) (av : List Value) (x : jm_X), jm_Con (jm_PP l D clR ad aC shR b0 0) (rcR t) d0 av x (g t av x))  (x : jm_X) : jm_V (jm_PP l D clR ad aC shR b0 0) mt_M_first (d0 + 1) 30 [] [] x (J_M_first_30 K g  x) := by
  have hT := tk_M (l := l) (D := D) (ad := ad) (aC := aC) (b0 := b0)
  unfold J_M_first_30
  refine jm_V.run (is := bk_M_first_30_2) (pc' := 35) (ls' := []) (st' := [.int 1]) (x' := x) hok hT bk_M_first_30_2_ok rfl ?_
  exact jj_M_first_35 hok hrec 1 x
def J_M_first_24 (K : Nat) (g : jm_Rec) (v0 : Int32) (x : jm_X) : Option jm_R := (if v0 = 95 then J_M_first_30 K g x else J_M_first_35 K g 0 x)
set_option maxRecDepth 100000 in
set_option maxHeartbeats 4000000 in
theorem jj_M_first_24 {l : Launch} {D : va_G} {ad : Nat → Nat} {aC : Nat → ClassId} {b0 : Nat} {K d0 : Nat} {g : jm_Rec} (hok : jm_Ok (jm_PP l D clR ad aC shR b0 0)) (hrec : ∀ (t : Nat) (av : List Value) (x : jm_X), jm_Con (jm_PP l D clR ad aC shR b0 0) (rcR t) d0 av x (g t av x)) (v0 : Int32) (x : jm_X) : jm_V (jm_PP l D clR ad aC shR b0 0) mt_M_first (d0 + 1) 24 [(0, .int v0)] [] x (J_M_first_24 K g v0 x) := by
  have hT := tk_M (l := l) (D := D) (ad := ad) (aC := aC) (b0 := b0)
  unfold J_M_first_24
  refine jm_V.run (is := bk_M_first_24_3) (pc' := (if v0 = 95 then 30 else 34)) (ls' := [(0, .int v0)]) (st' := []) (x' := x) hok hT bk_M_first_24_3_ok rfl ?_
  refine jm_V.ite (fun _ => ?_) (fun _ => ?_)
  · refine jm_V.sub (ls' := []) [] rfl ?_
    exact jj_M_first_30 hok hrec x
  · refine jm_V.run (is := bk_M_first_34_1) (pc' := 35) (ls' := [(0, .int v0)]) (st' := [.int 0]) (x' := x) hok hT bk_M_first_34_1_ok rfl ?_
    refine jm_V.sub (ls' := []) [] rfl ?_
    exact jj_M_first_35 hok hrec 0 x
def J_M_first_12 (K : Nat) (g : jm_Rec) (v0 : Int32) (x : jm_X) : Option jm_R := (if v0 < 65 then J_M_first_24 K g v0 x else (if v0 ≤ 90 then J_M_first_30 K g x else J_M_first_24 K g v0 x))
set_option maxRecDepth 100000 in
set_option maxHeartbeats 4000000 in
theorem jj_M_first_12 {l : Launch} {D : va_G} {ad : Nat → Nat} {aC : Nat → ClassId} {b0 : Nat} {K d0 : Nat} {g : jm_Rec} (hok : jm_Ok (jm_PP l D clR ad aC shR b0 0)) (hrec : ∀ (t : Nat) (av : List Value) (x : jm_X), jm_Con (jm_PP l D clR ad aC shR b0 0) (rcR t) d0 av x (g t av x)) (v0 : Int32) (x : jm_X) : jm_V (jm_PP l D clR ad aC shR b0 0) mt_M_first (d0 + 1) 12 [(0, .int v0)] [] x (J_M_first_12 K g v0 x) := by
  have hT := tk_M (l := l) (D := D) (ad := ad) (aC := aC) (b0 := b0)
  unfold J_M_first_12
  refine jm_V.run (is := bk_M_first_12_3) (pc' := (if v0 < 65 then 24 else 18)) (ls' := [(0, .int v0)]) (st' := []) (x' := x) hok hT bk_M_first_12_3_ok rfl ?_
  refine jm_V.ite (fun _ => ?_) (fun _ => ?_)
  · exact jj_M_first_24 hok hrec v0 x
  · refine jm_V.run (is := bk_M_first_18_3) (pc' := (if v0 ≤ 90 then 30 else 24)) (ls' := [(0, .int v0)]) (st' := []) (x' := x) hok hT bk_M_first_18_3_ok rfl ?_
    refine jm_V.ite (fun _ => ?_) (fun _ => ?_)
    · refine jm_V.sub (ls' := []) [] rfl ?_
      exact jj_M_first_30 hok hrec x
    · exact jj_M_first_24 hok hrec v0 x
def f_M_first (K : Nat) (g : jm_Rec) (a1 : Int32) (x : jm_X) : Option jm_R := (if a1 < 97 then J_M_first_12 K g a1 x else (if a1 ≤ 122 then J_M_first_30 K g x else J_M_first_12 K g a1 x))
set_option maxRecDepth 100000 in
set_option maxHeartbeats 4000000 in
theorem c_M_first {l : Launch} {D : va_G} {ad : Nat → Nat} {aC : Nat → ClassId} {b0 : Nat} {K d0 : Nat} {g : jm_Rec} (hok : jm_Ok (jm_PP l D clR ad aC shR b0 0)) (hrec : ∀ (t : Nat) (av : List Value) (x : jm_X), jm_Con (jm_PP l D clR ad aC shR b0 0) (rcR t) d0 av x (g t av x)) (a1 : Int32) (x : jm_X) : jm_Con (jm_PP l D clR ad aC shR b0 0) mt_M_first (d0 + 1) [.int a1] x (f_M_first K g a1 x) := by
  refine jm_Con.of (plainFor_of_name (by decide +kernel)) (Nat.le_of_ble_eq_true rfl) ?_
  have hT := tk_M (l := l) (D := D) (ad := ad) (aC := aC) (b0 := b0)
  unfold f_M_first
  show jm_V _ _ _ 0 [(0, .int a1)] [] x _
  refine jm_V.run (is := bk_M_first_0_3) (pc' := (if a1 < 97 then 12 else 6)) (ls' := [(0, .int a1)]) (st' := []) (x' := x) hok hT bk_M_first_0_3_ok rfl ?_
  refine jm_V.ite (fun _ => ?_) (fun _ => ?_)
  · exact jj_M_first_12 hok hrec a1 x
  · refine jm_V.run (is := bk_M_first_6_3) (pc' := (if a1 ≤ 122 then 30 else 12)) (ls' := [(0, .int a1)]) (st' := []) (x' := x) hok hT bk_M_first_6_3_ok rfl ?_
    refine jm_V.ite (fun _ => ?_) (fun _ => ?_)
    · refine jm_V.sub (ls' := []) [] rfl ?_
      exact jj_M_first_30 hok hrec x
    · exact jj_M_first_12 hok hrec a1 x
abbrev bk_M_nameFrom_0_2 : List (Nat × Instr × Nat) := [(0, .iload_n 1, 1), (1, .istore_n 2, 1)]
theorem bk_M_nameFrom_0_2_ok : jm_at mt_M_nameFrom.2.1 bk_M_nameFrom_0_2 = true := by decide +kernel
abbrev bk_M_nameFrom_2_2 : List (Nat × Instr × Nat) := [(2, .aload_n 0, 1), (3, .iload_n 2, 1)]
theorem bk_M_nameFrom_2_2_ok : jm_at mt_M_nameFrom.2.1 bk_M_nameFrom_2_2 = true := by decide +kernel
abbrev bk_M_nameFrom_10_1 : List (Nat × Instr × Nat) := [(10, .ifCond .ne 14, 3)]
theorem bk_M_nameFrom_10_1_ok : jm_at mt_M_nameFrom.2.1 bk_M_nameFrom_10_1 = true := by decide +kernel
abbrev bk_M_nameFrom_13_2 : List (Nat × Instr × Nat) := [(13, .aload_n 0, 1), (14, .iload_n 2, 1)]
theorem bk_M_nameFrom_13_2_ok : jm_at mt_M_nameFrom.2.1 bk_M_nameFrom_13_2 = true := by decide +kernel
abbrev bk_M_nameFrom_21_1 : List (Nat × Instr × Nat) := [(21, .ifCond .eq 9, 3)]
theorem bk_M_nameFrom_21_1_ok : jm_at mt_M_nameFrom.2.1 bk_M_nameFrom_21_1 = true := by decide +kernel
abbrev bk_M_nameFrom_30_1 : List (Nat × Instr × Nat) := [(30, .iload_n 2, 1)]
theorem bk_M_nameFrom_30_1_ok : jm_at mt_M_nameFrom.2.1 bk_M_nameFrom_30_1 = true := by decide +kernel
abbrev bk_M_nameFrom_24_2 : List (Nat × Instr × Nat) := [(24, .iinc 2 1, 3), (27, .goto (-25), 3)]
theorem bk_M_nameFrom_24_2_ok : jm_at mt_M_nameFrom.2.1 bk_M_nameFrom_24_2 = true := by decide +kernel
theorem dd_M_nameFrom_4 : decode mt_M_nameFrom.2.1 4 = .ok (.invokevirtual 138, 3) := by decide +kernel
theorem dd_M_nameFrom_7 : decode mt_M_nameFrom.2.1 7 = .ok (.invokestatic 141, 3) := by decide +kernel
theorem dd_M_nameFrom_15 : decode mt_M_nameFrom.2.1 15 = .ok (.invokevirtual 138, 3) := by decide +kernel
theorem dd_M_nameFrom_18 : decode mt_M_nameFrom.2.1 18 = .ok (.invokestatic 145, 3) := by decide +kernel
theorem dd_M_nameFrom_31 : decode mt_M_nameFrom.2.1 31 = .ok (.ireturn, 1) := by decide +kernel
def J_M_nameFrom_24 (K : Nat) (g : jm_Rec) (k2 : Int32 → jm_X → Option jm_R) (v2 : Int32) (x : jm_X) : Option jm_R := k2 (v2 + 1) x
set_option maxRecDepth 100000 in
set_option maxHeartbeats 4000000 in
theorem jj_M_nameFrom_24 {l : Launch} {D : va_G} {ad : Nat → Nat} {aC : Nat → ClassId} {b0 : Nat} {K d0 : Nat} {g : jm_Rec} (hok : jm_Ok (jm_PP l D clR ad aC shR b0 0)) (hrec : ∀ (t : Nat) (av : List Value) (x : jm_X), jm_Con (jm_PP l D clR ad aC shR b0 0) (rcR t) d0 av x (g t av x)) {k2 : Int32 → jm_X → Option jm_R} (hk2 : ∀ (v2 : Int32) (x : jm_X), jm_V (jm_PP l D clR ad aC shR b0 0) mt_M_nameFrom (d0 + 2) 2 [(0, .ref 0), (2, .int v2)] [] x (k2 v2 x)) (v2 : Int32) (x : jm_X) : jm_V (jm_PP l D clR ad aC shR b0 0) mt_M_nameFrom (d0 + 2) 24 [(0, .ref 0), (2, .int v2)] [] x (J_M_nameFrom_24 K g k2 v2 x) := by
  have hT := tk_M (l := l) (D := D) (ad := ad) (aC := aC) (b0 := b0)
  unfold J_M_nameFrom_24
  refine jm_V.run (is := bk_M_nameFrom_24_2) (pc' := 2) (ls' := [(2, .int (v2 + 1)), (0, .ref 0)]) (st' := []) (x' := x) hok hT bk_M_nameFrom_24_2_ok rfl ?_
  refine jm_V.sub (ls' := [(0, .ref 0), (2, .int (v2 + 1))]) [1, 0] rfl ?_
  exact hk2 (v2 + 1) x
def B_M_nameFrom_2 (K : Nat) (g : jm_Rec) (self : Int32 → jm_X → Option jm_R) (v2 : Int32) (x : jm_X) : Option jm_R := jm_bI (f_M_look K g v2 x) (fun b2 x1 => jm_bI (f_M_first K g b2 x1) (fun b4 x3 => (if b4 = 0 then jm_bI (f_M_look K g v2 x3) (fun b6 x5 => jm_bI (f_M_digit K g b6 x5) (fun b8 x7 => (if b8 = 0 then some (.inl (some (.int v2), x7)) else J_M_nameFrom_24 K g self v2 x7))) else J_M_nameFrom_24 K g self v2 x3)))
def L_M_nameFrom_2 (K : Nat) (g : jm_Rec) : Nat → Int32 → jm_X → Option jm_R
  | 0, _, _ => none
  | k + 1, v2, x => B_M_nameFrom_2 K g (L_M_nameFrom_2 K g k) v2 x
set_option maxRecDepth 100000 in
set_option maxHeartbeats 4000000 in
theorem jb_M_nameFrom_2 {l : Launch} {D : va_G} {ad : Nat → Nat} {aC : Nat → ClassId} {b0 : Nat} {K d0 : Nat} {g : jm_Rec} (hok : jm_Ok (jm_PP l D clR ad aC shR b0 0)) (hrec : ∀ (t : Nat) (av : List Value) (x : jm_X), jm_Con (jm_PP l D clR ad aC shR b0 0) (rcR t) d0 av x (g t av x)) {self : Int32 → jm_X → Option jm_R} (hself : ∀ (v2 : Int32) (x : jm_X), jm_V (jm_PP l D clR ad aC shR b0 0) mt_M_nameFrom (d0 + 2) 2 [(0, .ref 0), (2, .int v2)] [] x (self v2 x)) (v2 : Int32) (x : jm_X) : jm_V (jm_PP l D clR ad aC shR b0 0) mt_M_nameFrom (d0 + 2) 2 [(0, .ref 0), (2, .int v2)] [] x (B_M_nameFrom_2 K g self v2 x) := by
  have hT := tk_M (l := l) (D := D) (ad := ad) (aC := aC) (b0 := b0)
  unfold B_M_nameFrom_2
  refine jm_V.run (is := bk_M_nameFrom_2_2) (pc' := 4) (ls' := [(0, .ref 0), (2, .int v2)]) (st' := [.int v2, .ref 0]) (x' := x) hok hT bk_M_nameFrom_2_2_ok rfl ?_
  refine jm_V.callI (av := [.ref 0, .int v2]) (rest := []) hok (jm_Con.mono (c_M_look hok hrec v2 x) (by omega)) (jm_Inv.obj (q := ("FilterReaderModel", T_M, 22)) dd_M_nameFrom_4 (Or.inl lk_M_138) mn_M_look ms_M_look mw_M_look mh_M_look ml_M_look rfl rfl) mw_M_look mi_M (Nat.le_of_ble_eq_true rfl) (Nat.le_of_ble_eq_true rfl) (fun b2 x1 => ?_)
  refine jm_V.callI (av := [.int b2]) (rest := []) hok (jm_Con.mono (c_M_first hok hrec b2 x1) (by omega)) (jm_Inv.stat dd_M_nameFrom_7 (Or.inl lk_M_141) mq_M_first mi_M mw_M_first mh_M_first ml_M_first) mw_M_first mi_M (Nat.le_of_ble_eq_true rfl) (Nat.le_of_ble_eq_true rfl) (fun b4 x3 => ?_)
  refine jm_V.run (is := bk_M_nameFrom_10_1) (pc' := (if b4 = 0 then 13 else 24)) (ls' := [(0, .ref 0), (2, .int v2)]) (st' := []) (x' := x3) hok hT bk_M_nameFrom_10_1_ok rfl ?_
  refine jm_V.ite (fun _ => ?_) (fun _ => ?_)
  · refine jm_V.run (is := bk_M_nameFrom_13_2) (pc' := 15) (ls' := [(0, .ref 0), (2, .int v2)]) (st' := [.int v2, .ref 0]) (x' := x3) hok hT bk_M_nameFrom_13_2_ok rfl ?_
    refine jm_V.callI (av := [.ref 0, .int v2]) (rest := []) hok (jm_Con.mono (c_M_look hok hrec v2 x3) (by omega)) (jm_Inv.obj (q := ("FilterReaderModel", T_M, 22)) dd_M_nameFrom_15 (Or.inl lk_M_138) mn_M_look ms_M_look mw_M_look mh_M_look ml_M_look rfl rfl) mw_M_look mi_M (Nat.le_of_ble_eq_true rfl) (Nat.le_of_ble_eq_true rfl) (fun b6 x5 => ?_)
    refine jm_V.callI (av := [.int b6]) (rest := []) hok (jm_Con.mono (c_M_digit hok hrec b6 x5) (by omega)) (jm_Inv.stat dd_M_nameFrom_18 (Or.inl lk_M_145) mq_M_digit mi_M mw_M_digit mh_M_digit ml_M_digit) mw_M_digit mi_M (Nat.le_of_ble_eq_true rfl) (Nat.le_of_ble_eq_true rfl) (fun b8 x7 => ?_)
    refine jm_V.run (is := bk_M_nameFrom_21_1) (pc' := (if b8 = 0 then 30 else 24)) (ls' := [(0, .ref 0), (2, .int v2)]) (st' := []) (x' := x7) hok hT bk_M_nameFrom_21_1_ok rfl ?_
    refine jm_V.ite (fun _ => ?_) (fun _ => ?_)
    · refine jm_V.run (is := bk_M_nameFrom_30_1) (pc' := 31) (ls' := [(0, .ref 0), (2, .int v2)]) (st' := [.int v2]) (x' := x7) hok hT bk_M_nameFrom_30_1_ok rfl ?_
      exact jm_V.iret rfl dd_M_nameFrom_31
    · exact jj_M_nameFrom_24 hok hrec hself v2 x7
  · exact jj_M_nameFrom_24 hok hrec hself v2 x3
theorem jl_M_nameFrom_2 {l : Launch} {D : va_G} {ad : Nat → Nat} {aC : Nat → ClassId} {b0 : Nat} {K d0 : Nat} {g : jm_Rec} (hok : jm_Ok (jm_PP l D clR ad aC shR b0 0)) (hrec : ∀ (t : Nat) (av : List Value) (x : jm_X), jm_Con (jm_PP l D clR ad aC shR b0 0) (rcR t) d0 av x (g t av x)) : ∀ (k : Nat) (v2 : Int32) (x : jm_X), jm_V (jm_PP l D clR ad aC shR b0 0) mt_M_nameFrom (d0 + 2) 2 [(0, .ref 0), (2, .int v2)] [] x (L_M_nameFrom_2 K g k v2 x)
  | 0, _, _ => jm_V.stuck
  | k + 1, v2, x => jb_M_nameFrom_2 hok hrec (fun v2 x => jl_M_nameFrom_2 hok hrec k v2 x) v2 x
def f_M_nameFrom (K : Nat) (g : jm_Rec) (a1 : Int32) (x : jm_X) : Option jm_R := L_M_nameFrom_2 K g K a1 x
set_option maxRecDepth 100000 in
set_option maxHeartbeats 4000000 in
theorem c_M_nameFrom {l : Launch} {D : va_G} {ad : Nat → Nat} {aC : Nat → ClassId} {b0 : Nat} {K d0 : Nat} {g : jm_Rec} (hok : jm_Ok (jm_PP l D clR ad aC shR b0 0)) (hrec : ∀ (t : Nat) (av : List Value) (x : jm_X), jm_Con (jm_PP l D clR ad aC shR b0 0) (rcR t) d0 av x (g t av x)) (a1 : Int32) (x : jm_X) : jm_Con (jm_PP l D clR ad aC shR b0 0) mt_M_nameFrom (d0 + 2) [.ref 0, .int a1] x (f_M_nameFrom K g a1 x) := by
  refine jm_Con.of (plainFor_of_name (by decide +kernel)) (Nat.le_of_ble_eq_true rfl) ?_
  have hT := tk_M (l := l) (D := D) (ad := ad) (aC := aC) (b0 := b0)
  unfold f_M_nameFrom
  show jm_V _ _ _ 0 [(0, .ref 0), (1, .int a1)] [] x _
  refine jm_V.run (is := bk_M_nameFrom_0_2) (pc' := 2) (ls' := [(2, .int a1), (0, .ref 0), (1, .int a1)]) (st' := []) (x' := x) hok hT bk_M_nameFrom_0_2_ok rfl ?_
  refine jm_V.sub (ls' := [(0, .ref 0), (2, .int a1)]) [1, 0] rfl ?_
  exact jl_M_nameFrom_2 hok hrec K a1 x

/-! THE CLASS: methods. Printed by wip/whole/printC.py. -/
abbrev bk_S_nameEnd_0_2 : List (Nat × Instr × Nat) := [(0, .iload_n 1, 1), (1, .istore_n 2, 1)]
theorem bk_S_nameEnd_0_2_ok : jm_at mt_S_nameEnd.2.1 bk_S_nameEnd_0_2 = true := by decide +kernel
abbrev bk_S_nameEnd_2_4 : List (Nat × Instr × Nat) := [(2, .iload_n 2, 1), (3, .aload_n 0, 1), (4, .getfield 22, 3), (7, .if_icmp .ge 20, 3)]
theorem bk_S_nameEnd_2_4_ok : jm_at mt_S_nameEnd.2.1 bk_S_nameEnd_2_4 = true := by decide +kernel
abbrev bk_S_nameEnd_10_2 : List (Nat × Instr × Nat) := [(10, .aload_n 0, 1), (11, .iload_n 2, 1)]
theorem bk_S_nameEnd_10_2_ok : jm_at mt_S_nameEnd.2.1 bk_S_nameEnd_10_2 = true := by decide +kernel
abbrev bk_S_nameEnd_18_1 : List (Nat × Instr × Nat) := [(18, .ifCond .eq 9, 3)]
theorem bk_S_nameEnd_18_1_ok : jm_at mt_S_nameEnd.2.1 bk_S_nameEnd_18_1 = true := by decide +kernel
abbrev bk_S_nameEnd_21_2 : List (Nat × Instr × Nat) := [(21, .iinc 2 1, 3), (24, .goto (-22), 3)]
theorem bk_S_nameEnd_21_2_ok : jm_at mt_S_nameEnd.2.1 bk_S_nameEnd_21_2 = true := by decide +kernel
abbrev bk_S_nameEnd_27_1 : List (Nat × Instr × Nat) := [(27, .iload_n 2, 1)]
theorem bk_S_nameEnd_27_1_ok : jm_at mt_S_nameEnd.2.1 bk_S_nameEnd_27_1 = true := by decide +kernel
theorem dd_S_nameEnd_12 : decode mt_S_nameEnd.2.1 12 = .ok (.invokevirtual 56, 3) := by decide +kernel
theorem dd_S_nameEnd_15 : decode mt_S_nameEnd.2.1 15 = .ok (.invokestatic 99, 3) := by decide +kernel
theorem dd_S_nameEnd_28 : decode mt_S_nameEnd.2.1 28 = .ok (.ireturn, 1) := by decide +kernel
def J_S_nameEnd_27 (K : Nat) (g : jm_Rec) (v2 : Int32) (x : jm_X) : Option jm_R := some (.inl (some (.int v2), x))
set_option maxRecDepth 100000 in
set_option maxHeartbeats 4000000 in
theorem jj_S_nameEnd_27 {l : Launch} {D : va_G} {ad : Nat → Nat} {aC : Nat → ClassId} {b0 : Nat} {K d0 : Nat} {g : jm_Rec} (hok : jm_Ok (jm_PP l D clC ad aC shC b0 1)) (hrec : ∀ (t : Nat) (av : List Value) (x : jm_X), jm_Con (jm_PP l D clC ad aC shC b0 1) (rcC t) d0 av x (g t av x)) (v2 : Int32) (x : jm_X) : jm_V (jm_PP l D clC ad aC shC b0 1) mt_S_nameEnd (d0 + 2) 27 [(2, .int v2)] [] x (J_S_nameEnd_27 K g v2 x) := by
  have hT := tk_S (l := l) (D := D) (ad := ad) (aC := aC) (b0 := b0)
  unfold J_S_nameEnd_27
  refine jm_V.run (is := bk_S_nameEnd_27_1) (pc' := 28) (ls' := [(2, .int v2)]) (st' := [.int v2]) (x' := x) hok hT bk_S_nameEnd_27_1_ok rfl ?_
  exact jm_V.iret rfl dd_S_nameEnd_28
def B_S_nameEnd_2 (K : Nat) (g : jm_Rec) (self : Int32 → jm_X → Option jm_R) (v2 : Int32) (x : jm_X) : Option jm_R := (if (x.1 401) ≤ v2 then J_S_nameEnd_27 K g v2 x else jm_bI (f_S_byteAt K g v2 x) (fun b2 x1 => jm_bI (f_B_isOfName K g b2 x1) (fun b4 x3 => (if b4 = 0 then J_S_nameEnd_27 K g v2 x3 else self (v2 + 1) x3))))
def L_S_nameEnd_2 (K : Nat) (g : jm_Rec) : Nat → Int32 → jm_X → Option jm_R
  | 0, _, _ => none
  | k + 1, v2, x => B_S_nameEnd_2 K g (L_S_nameEnd_2 K g k) v2 x
set_option maxRecDepth 100000 in
set_option maxHeartbeats 4000000 in
theorem jb_S_nameEnd_2 {l : Launch} {D : va_G} {ad : Nat → Nat} {aC : Nat → ClassId} {b0 : Nat} {K d0 : Nat} {g : jm_Rec} (hok : jm_Ok (jm_PP l D clC ad aC shC b0 1)) (hrec : ∀ (t : Nat) (av : List Value) (x : jm_X), jm_Con (jm_PP l D clC ad aC shC b0 1) (rcC t) d0 av x (g t av x)) {self : Int32 → jm_X → Option jm_R} (hself : ∀ (v2 : Int32) (x : jm_X), jm_V (jm_PP l D clC ad aC shC b0 1) mt_S_nameEnd (d0 + 2) 2 [(0, .ref 4), (2, .int v2)] [] x (self v2 x)) (v2 : Int32) (x : jm_X) : jm_V (jm_PP l D clC ad aC shC b0 1) mt_S_nameEnd (d0 + 2) 2 [(0, .ref 4), (2, .int v2)] [] x (B_S_nameEnd_2 K g self v2 x) := by
  have hT := tk_S (l := l) (D := D) (ad := ad) (aC := aC) (b0 := b0)
  unfold B_S_nameEnd_2
  refine jm_V.run (is := bk_S_nameEnd_2_4) (pc' := (if (x.1 401) ≤ v2 then 27 else 10)) (ls' := [(0, .ref 4), (2, .int v2)]) (st' := []) (x' := x) hok hT bk_S_nameEnd_2_4_ok rfl ?_
  refine jm_V.ite (fun _ => ?_) (fun _ => ?_)
  · refine jm_V.sub (ls' := [(2, .int v2)]) [1] rfl ?_
    exact jj_S_nameEnd_27 hok hrec v2 x
  · refine jm_V.run (is := bk_S_nameEnd_10_2) (pc' := 12) (ls' := [(0, .ref 4), (2, .int v2)]) (st' := [.int v2, .ref 4]) (x' := x) hok hT bk_S_nameEnd_10_2_ok rfl ?_
    refine jm_V.callI (av := [.ref 4, .int v2]) (rest := []) hok (jm_Con.mono (c_S_byteAt hok hrec v2 x) (by omega)) (jm_Inv.obj (q := ("FilterReader$Signs", T_S, 5)) dd_S_nameEnd_12 (Or.inl lk_S_56) mn_S_byteAt ms_S_byteAt mw_S_byteAt mh_S_byteAt ml_S_byteAt rfl rfl) mw_S_byteAt mi_S (Nat.le_of_ble_eq_true rfl) (Nat.le_of_ble_eq_true rfl) (fun b2 x1 => ?_)
    refine jm_V.callI (av := [.int b2]) (rest := []) hok (jm_Con.mono (c_B_isOfName hok hrec b2 x1) (by omega)) (jm_Inv.stat dd_S_nameEnd_15 (Or.inl lk_S_99) mq_B_isOfName mi_B mw_B_isOfName mh_B_isOfName ml_B_isOfName) mw_B_isOfName mi_B (Nat.le_of_ble_eq_true rfl) (Nat.le_of_ble_eq_true rfl) (fun b4 x3 => ?_)
    refine jm_V.run (is := bk_S_nameEnd_18_1) (pc' := (if b4 = 0 then 27 else 21)) (ls' := [(0, .ref 4), (2, .int v2)]) (st' := []) (x' := x3) hok hT bk_S_nameEnd_18_1_ok rfl ?_
    refine jm_V.ite (fun _ => ?_) (fun _ => ?_)
    · refine jm_V.sub (ls' := [(2, .int v2)]) [1] rfl ?_
      exact jj_S_nameEnd_27 hok hrec v2 x3
    · refine jm_V.run (is := bk_S_nameEnd_21_2) (pc' := 2) (ls' := [(2, .int (v2 + 1)), (0, .ref 4)]) (st' := []) (x' := x3) hok hT bk_S_nameEnd_21_2_ok rfl ?_
      refine jm_V.sub (ls' := [(0, .ref 4), (2, .int (v2 + 1))]) [1, 0] rfl ?_
      exact hself (v2 + 1) x3
theorem jl_S_nameEnd_2 {l : Launch} {D : va_G} {ad : Nat → Nat} {aC : Nat → ClassId} {b0 : Nat} {K d0 : Nat} {g : jm_Rec} (hok : jm_Ok (jm_PP l D clC ad aC shC b0 1)) (hrec : ∀ (t : Nat) (av : List Value) (x : jm_X), jm_Con (jm_PP l D clC ad aC shC b0 1) (rcC t) d0 av x (g t av x)) : ∀ (k : Nat) (v2 : Int32) (x : jm_X), jm_V (jm_PP l D clC ad aC shC b0 1) mt_S_nameEnd (d0 + 2) 2 [(0, .ref 4), (2, .int v2)] [] x (L_S_nameEnd_2 K g k v2 x)
  | 0, _, _ => jm_V.stuck
  | k + 1, v2, x => jb_S_nameEnd_2 hok hrec (fun v2 x => jl_S_nameEnd_2 hok hrec k v2 x) v2 x
def f_S_nameEnd (K : Nat) (g : jm_Rec) (a1 : Int32) (x : jm_X) : Option jm_R := L_S_nameEnd_2 K g K a1 x
set_option maxRecDepth 100000 in
set_option maxHeartbeats 4000000 in
theorem c_S_nameEnd {l : Launch} {D : va_G} {ad : Nat → Nat} {aC : Nat → ClassId} {b0 : Nat} {K d0 : Nat} {g : jm_Rec} (hok : jm_Ok (jm_PP l D clC ad aC shC b0 1)) (hrec : ∀ (t : Nat) (av : List Value) (x : jm_X), jm_Con (jm_PP l D clC ad aC shC b0 1) (rcC t) d0 av x (g t av x)) (a1 : Int32) (x : jm_X) : jm_Con (jm_PP l D clC ad aC shC b0 1) mt_S_nameEnd (d0 + 2) [.ref 4, .int a1] x (f_S_nameEnd K g a1 x) := by
  refine jm_Con.of (plainFor_of_name (by decide +kernel)) (Nat.le_of_ble_eq_true rfl) ?_
  have hT := tk_S (l := l) (D := D) (ad := ad) (aC := aC) (b0 := b0)
  unfold f_S_nameEnd
  show jm_V _ _ _ 0 [(0, .ref 4), (1, .int a1)] [] x _
  refine jm_V.run (is := bk_S_nameEnd_0_2) (pc' := 2) (ls' := [(2, .int a1), (0, .ref 4), (1, .int a1)]) (st' := []) (x' := x) hok hT bk_S_nameEnd_0_2_ok rfl ?_
  refine jm_V.sub (ls' := [(0, .ref 4), (2, .int a1)]) [1, 0] rfl ?_
  exact jl_S_nameEnd_2 hok hrec K a1 x
abbrev bk_S_number_0_6 : List (Nat × Instr × Nat) := [(0, .lconst 0, 1), (1, .lstore_n 1, 1), (2, .aload_n 0, 1), (3, .aload_n 0, 1), (4, .getfield 37, 3), (7, .putfield 40, 3)]
theorem bk_S_number_0_6_ok : jm_at mt_S_number.2.1 bk_S_number_0_6 = true := by decide +kernel
abbrev bk_S_number_10_5 : List (Nat × Instr × Nat) := [(10, .aload_n 0, 1), (11, .getfield 40, 3), (14, .aload_n 0, 1), (15, .getfield 22, 3), (18, .if_icmp .ge 56, 3)]
theorem bk_S_number_10_5_ok : jm_at mt_S_number.2.1 bk_S_number_10_5 = true := by decide +kernel
abbrev bk_S_number_21_3 : List (Nat × Instr × Nat) := [(21, .aload_n 0, 1), (22, .aload_n 0, 1), (23, .getfield 40, 3)]
theorem bk_S_number_21_3_ok : jm_at mt_S_number.2.1 bk_S_number_21_3 = true := by decide +kernel
abbrev bk_S_number_32_1 : List (Nat × Instr × Nat) := [(32, .ifCond .eq 42, 3)]
theorem bk_S_number_32_1_ok : jm_at mt_S_number.2.1 bk_S_number_32_1 = true := by decide +kernel
abbrev bk_S_number_35_6 : List (Nat × Instr × Nat) := [(35, .lload_n 1, 1), (36, .ldc2_w 102, 3), (39, .lmul, 1), (40, .aload_n 0, 1), (41, .aload_n 0, 1), (42, .getfield 40, 3)]
theorem bk_S_number_35_6_ok : jm_at mt_S_number.2.1 bk_S_number_35_6 = true := by decide +kernel
abbrev bk_S_number_48_5 : List (Nat × Instr × Nat) := [(48, .i2l, 1), (49, .ladd, 1), (50, .ldc2_w 104, 3), (53, .lsub, 1), (54, .ldc2_w 106, 3)]
theorem bk_S_number_48_5_ok : jm_at mt_S_number.2.1 bk_S_number_48_5 = true := by decide +kernel
abbrev bk_S_number_60_7 : List (Nat × Instr × Nat) := [(60, .lstore_n 1, 1), (61, .aload_n 0, 1), (62, .dup, 1), (63, .getfield 40, 3), (66, .iconst 1, 1), (67, .iadd, 1), (68, .putfield 40, 3)]
theorem bk_S_number_60_7_ok : jm_at mt_S_number.2.1 bk_S_number_60_7 = true := by decide +kernel
abbrev bk_S_number_71_1 : List (Nat × Instr × Nat) := [(71, .goto (-61), 3)]
theorem bk_S_number_71_1_ok : jm_at mt_S_number.2.1 bk_S_number_71_1 = true := by decide +kernel
abbrev bk_S_number_74_5 : List (Nat × Instr × Nat) := [(74, .aload_n 0, 1), (75, .lload_n 1, 1), (76, .ldc2_w 106, 3), (79, .lcmp, 1), (80, .ifCond .ge 9, 3)]
theorem bk_S_number_74_5_ok : jm_at mt_S_number.2.1 bk_S_number_74_5 = true := by decide +kernel
abbrev bk_S_number_89_1 : List (Nat × Instr × Nat) := [(89, .getstatic 117, 3)]
theorem bk_S_number_89_1_ok : jm_at mt_S_number.2.1 bk_S_number_89_1 = true := by decide +kernel
abbrev bk_S_number_83_2 : List (Nat × Instr × Nat) := [(83, .getstatic 114, 3), (86, .goto 6, 3)]
theorem bk_S_number_83_2_ok : jm_at mt_S_number.2.1 bk_S_number_83_2 = true := by decide +kernel
abbrev bk_S_number_92_1 : List (Nat × Instr × Nat) := [(92, .putfield 19, 3)]
theorem bk_S_number_92_1_ok : jm_at mt_S_number.2.1 bk_S_number_92_1 = true := by decide +kernel
theorem dd_S_number_26 : decode mt_S_number.2.1 26 = .ok (.invokevirtual 56, 3) := by decide +kernel
theorem dd_S_number_29 : decode mt_S_number.2.1 29 = .ok (.invokestatic 59, 3) := by decide +kernel
theorem dd_S_number_45 : decode mt_S_number.2.1 45 = .ok (.invokevirtual 56, 3) := by decide +kernel
theorem dd_S_number_57 : decode mt_S_number.2.1 57 = .ok (.invokestatic 108, 3) := by decide +kernel
theorem dd_S_number_95 : decode mt_S_number.2.1 95 = .ok (.return_, 1) := by decide +kernel
def J_S_number_92 (K : Nat) (g : jm_Rec) (s0 : Nat) (x : jm_X) : Option jm_R := jm_then (x.1, va_up x.2.1 404 s0, x.2.2) (fun x11 => some (.inl (none, x11)))
set_option maxRecDepth 100000 in
set_option maxHeartbeats 4000000 in
theorem jj_S_number_92 {l : Launch} {D : va_G} {ad : Nat → Nat} {aC : Nat → ClassId} {b0 : Nat} {K d0 : Nat} {g : jm_Rec} (hok : jm_Ok (jm_PP l D clC ad aC shC b0 1)) (hrec : ∀ (t : Nat) (av : List Value) (x : jm_X), jm_Con (jm_PP l D clC ad aC shC b0 1) (rcC t) d0 av x (g t av x)) (s0 : Nat) (x : jm_X) : jm_V (jm_PP l D clC ad aC shC b0 1) mt_S_number (d0 + 2) 92 [] [.ref s0, .ref 4] x (J_S_number_92 K g s0 x) := by
  have hT := tk_S (l := l) (D := D) (ad := ad) (aC := aC) (b0 := b0)
  unfold J_S_number_92
  refine jm_V.run (is := bk_S_number_92_1) (pc' := 95) (ls' := []) (st' := []) (x' := (x.1, va_up x.2.1 404 s0, x.2.2)) hok hT bk_S_number_92_1_ok rfl ?_
  refine jm_V.then_ (fun x11 => ?_)
  exact jm_V.vret rfl dd_S_number_95
def J_S_number_74 (K : Nat) (g : jm_Rec) (v1 : Int64) (x : jm_X) : Option jm_R := (if 0 ≤ (lg_cmp v1 9007199254740992) then J_S_number_92 K g 1001 x else J_S_number_92 K g 1005 x)
set_option maxRecDepth 100000 in
set_option maxHeartbeats 4000000 in
theorem jj_S_number_74 {l : Launch} {D : va_G} {ad : Nat → Nat} {aC : Nat → ClassId} {b0 : Nat} {K d0 : Nat} {g : jm_Rec} (hok : jm_Ok (jm_PP l D clC ad aC shC b0 1)) (hrec : ∀ (t : Nat) (av : List Value) (x : jm_X), jm_Con (jm_PP l D clC ad aC shC b0 1) (rcC t) d0 av x (g t av x)) (v1 : Int64) (x : jm_X) : jm_V (jm_PP l D clC ad aC shC b0 1) mt_S_number (d0 + 2) 74 [(0, .ref 4), (1, .long v1)] [] x (J_S_number_74 K g v1 x) := by
  have hT := tk_S (l := l) (D := D) (ad := ad) (aC := aC) (b0 := b0)
  unfold J_S_number_74
  refine jm_V.run (is := bk_S_number_74_5) (pc' := (if 0 ≤ (lg_cmp v1 9007199254740992) then 89 else 83)) (ls' := [(0, .ref 4), (1, .long v1)]) (st' := [.ref 4]) (x' := x) hok hT bk_S_number_74_5_ok rfl ?_
  refine jm_V.ite (fun _ => ?_) (fun _ => ?_)
  · refine jm_V.run (is := bk_S_number_89_1) (pc' := 92) (ls' := [(0, .ref 4), (1, .long v1)]) (st' := [.ref 1001, .ref 4]) (x' := x) hok hT bk_S_number_89_1_ok rfl ?_
    refine jm_V.sub (ls' := []) [] rfl ?_
    exact jj_S_number_92 hok hrec 1001 x
  · refine jm_V.run (is := bk_S_number_83_2) (pc' := 92) (ls' := [(0, .ref 4), (1, .long v1)]) (st' := [.ref 1005, .ref 4]) (x' := x) hok hT bk_S_number_83_2_ok rfl ?_
    refine jm_V.sub (ls' := []) [] rfl ?_
    exact jj_S_number_92 hok hrec 1005 x
def B_S_number_10 (K : Nat) (g : jm_Rec) (self : Int64 → jm_X → Option jm_R) (v1 : Int64) (x : jm_X) : Option jm_R := (if (x.1 401) ≤ (x.1 403) then J_S_number_74 K g v1 x else jm_bI (f_S_byteAt K g (x.1 403) x) (fun b3 x2 => jm_bI (f_B_isDigit K g b3 x2) (fun b5 x4 => (if b5 = 0 then J_S_number_74 K g v1 x4 else jm_bI (f_S_byteAt K g (x4.1 403) x4) (fun b7 x6 => jm_bL (f_JM_min_ll K g (((v1 * 10) + (Int32.toInt64 b7)) - 48) 9007199254740992 x6) (fun b9 x8 => jm_then (va_up x8.1 403 ((x8.1 403) + 1), x8.2) (fun x10 => self b9 x10)))))))
def L_S_number_10 (K : Nat) (g : jm_Rec) : Nat → Int64 → jm_X → Option jm_R
  | 0, _, _ => none
  | k + 1, v1, x => B_S_number_10 K g (L_S_number_10 K g k) v1 x
set_option maxRecDepth 100000 in
set_option maxHeartbeats 4000000 in
theorem jb_S_number_10 {l : Launch} {D : va_G} {ad : Nat → Nat} {aC : Nat → ClassId} {b0 : Nat} {K d0 : Nat} {g : jm_Rec} (hok : jm_Ok (jm_PP l D clC ad aC shC b0 1)) (hrec : ∀ (t : Nat) (av : List Value) (x : jm_X), jm_Con (jm_PP l D clC ad aC shC b0 1) (rcC t) d0 av x (g t av x)) {self : Int64 → jm_X → Option jm_R} (hself : ∀ (v1 : Int64) (x : jm_X), jm_V (jm_PP l D clC ad aC shC b0 1) mt_S_number (d0 + 2) 10 [(0, .ref 4), (1, .long v1)] [] x (self v1 x)) (v1 : Int64) (x : jm_X) : jm_V (jm_PP l D clC ad aC shC b0 1) mt_S_number (d0 + 2) 10 [(0, .ref 4), (1, .long v1)] [] x (B_S_number_10 K g self v1 x) := by
  have hT := tk_S (l := l) (D := D) (ad := ad) (aC := aC) (b0 := b0)
  unfold B_S_number_10
  refine jm_V.run (is := bk_S_number_10_5) (pc' := (if (x.1 401) ≤ (x.1 403) then 74 else 21)) (ls' := [(0, .ref 4), (1, .long v1)]) (st' := []) (x' := x) hok hT bk_S_number_10_5_ok rfl ?_
  refine jm_V.ite (fun _ => ?_) (fun _ => ?_)
  · exact jj_S_number_74 hok hrec v1 x
  · refine jm_V.run (is := bk_S_number_21_3) (pc' := 26) (ls' := [(0, .ref 4), (1, .long v1)]) (st' := [.int (x.1 403), .ref 4]) (x' := x) hok hT bk_S_number_21_3_ok rfl ?_
    refine jm_V.callI (av := [.ref 4, .int (x.1 403)]) (rest := []) hok (jm_Con.mono (c_S_byteAt hok hrec (x.1 403) x) (by omega)) (jm_Inv.obj (q := ("FilterReader$Signs", T_S, 5)) dd_S_number_26 (Or.inl lk_S_56) mn_S_byteAt ms_S_byteAt mw_S_byteAt mh_S_byteAt ml_S_byteAt rfl rfl) mw_S_byteAt mi_S (Nat.le_of_ble_eq_true rfl) (Nat.le_of_ble_eq_true rfl) (fun b3 x2 => ?_)
    refine jm_V.callI (av := [.int b3]) (rest := []) hok (jm_Con.mono (c_B_isDigit hok hrec b3 x2) (by omega)) (jm_Inv.stat dd_S_number_29 (Or.inl lk_S_59) mq_B_isDigit mi_B mw_B_isDigit mh_B_isDigit ml_B_isDigit) mw_B_isDigit mi_B (Nat.le_of_ble_eq_true rfl) (Nat.le_of_ble_eq_true rfl) (fun b5 x4 => ?_)
    refine jm_V.run (is := bk_S_number_32_1) (pc' := (if b5 = 0 then 74 else 35)) (ls' := [(0, .ref 4), (1, .long v1)]) (st' := []) (x' := x4) hok hT bk_S_number_32_1_ok rfl ?_
    refine jm_V.ite (fun _ => ?_) (fun _ => ?_)
    · exact jj_S_number_74 hok hrec v1 x4
    · refine jm_V.run (is := bk_S_number_35_6) (pc' := 45) (ls' := [(0, .ref 4), (1, .long v1)]) (st' := [.int (x4.1 403), .ref 4, .long (v1 * 10)]) (x' := x4) hok hT bk_S_number_35_6_ok rfl ?_
      refine jm_V.callI (av := [.ref 4, .int (x4.1 403)]) (rest := [.long (v1 * 10)]) hok (jm_Con.mono (c_S_byteAt hok hrec (x4.1 403) x4) (by omega)) (jm_Inv.obj (q := ("FilterReader$Signs", T_S, 5)) dd_S_number_45 (Or.inl lk_S_56) mn_S_byteAt ms_S_byteAt mw_S_byteAt mh_S_byteAt ml_S_byteAt rfl rfl) mw_S_byteAt mi_S (Nat.le_of_ble_eq_true rfl) (Nat.le_of_ble_eq_true rfl) (fun b7 x6 => ?_)
      refine jm_V.run (is := bk_S_number_48_5) (pc' := 57) (ls' := [(0, .ref 4), (1, .long v1)]) (st' := [.long 9007199254740992, .long (((v1 * 10) + (Int32.toInt64 b7)) - 48)]) (x' := x6) hok hT bk_S_number_48_5_ok rfl ?_
      refine jm_V.callL (av := [.long (((v1 * 10) + (Int32.toInt64 b7)) - 48), .long 9007199254740992]) (rest := []) hok (jm_Con.mono (c_JM_min_ll (d0 := d0) hok hrec (((v1 * 10) + (Int32.toInt64 b7)) - 48) 9007199254740992 x6) (by omega)) (jm_Inv.stat dd_S_number_57 (Or.inl lk_S_108) mq_JM_min_ll mi_JM mw_JM_min_ll mh_JM_min_ll ml_JM_min_ll) mw_JM_min_ll mi_JM (Nat.le_of_ble_eq_true rfl) (Nat.le_of_ble_eq_true rfl) (fun b9 x8 => ?_)
      refine jm_V.run (is := bk_S_number_60_7) (pc' := 71) (ls' := [(1, .long b9), (0, .ref 4)]) (st' := []) (x' := (va_up x8.1 403 ((x8.1 403) + 1), x8.2)) hok hT bk_S_number_60_7_ok rfl ?_
      refine jm_V.then_ (fun x10 => ?_)
      refine jm_V.run (is := bk_S_number_71_1) (pc' := 10) (ls' := [(1, .long b9), (0, .ref 4)]) (st' := []) (x' := x10) hok hT bk_S_number_71_1_ok rfl ?_
      refine jm_V.sub (ls' := [(0, .ref 4), (1, .long b9)]) [1, 0] rfl ?_
      exact hself b9 x10
theorem jl_S_number_10 {l : Launch} {D : va_G} {ad : Nat → Nat} {aC : Nat → ClassId} {b0 : Nat} {K d0 : Nat} {g : jm_Rec} (hok : jm_Ok (jm_PP l D clC ad aC shC b0 1)) (hrec : ∀ (t : Nat) (av : List Value) (x : jm_X), jm_Con (jm_PP l D clC ad aC shC b0 1) (rcC t) d0 av x (g t av x)) : ∀ (k : Nat) (v1 : Int64) (x : jm_X), jm_V (jm_PP l D clC ad aC shC b0 1) mt_S_number (d0 + 2) 10 [(0, .ref 4), (1, .long v1)] [] x (L_S_number_10 K g k v1 x)
  | 0, _, _ => jm_V.stuck
  | k + 1, v1, x => jb_S_number_10 hok hrec (fun v1 x => jl_S_number_10 hok hrec k v1 x) v1 x
def f_S_number (K : Nat) (g : jm_Rec)  (x : jm_X) : Option jm_R := jm_then (va_up x.1 403 (x.1 402), x.2) (fun x1 => L_S_number_10 K g K 0 x1)
set_option maxRecDepth 100000 in
set_option maxHeartbeats 4000000 in
theorem c_S_number {l : Launch} {D : va_G} {ad : Nat → Nat} {aC : Nat → ClassId} {b0 : Nat} {K d0 : Nat} {g : jm_Rec} (hok : jm_Ok (jm_PP l D clC ad aC shC b0 1)) (hrec : ∀ (t : Nat) (av : List Value) (x : jm_X), jm_Con (jm_PP l D clC ad aC shC b0 1) (rcC t) d0 av x (g t av x))  (x : jm_X) : jm_Con (jm_PP l D clC ad aC shC b0 1) mt_S_number (d0 + 2) [.ref 4] x (f_S_number K g  x) := by
  refine jm_Con.of (plainFor_of_name (by decide +kernel)) (Nat.le_of_ble_eq_true rfl) ?_
  have hT := tk_S (l := l) (D := D) (ad := ad) (aC := aC) (b0 := b0)
  unfold f_S_number
  show jm_V _ _ _ 0 [(0, .ref 4)] [] x _
  refine jm_V.run (is := bk_S_number_0_6) (pc' := 10) (ls' := [(1, .long 0), (0, .ref 4)]) (st' := []) (x' := (va_up x.1 403 (x.1 402), x.2)) hok hT bk_S_number_0_6_ok rfl ?_
  refine jm_V.then_ (fun x1 => ?_)
  refine jm_V.sub (ls' := [(0, .ref 4), (1, .long 0)]) [1, 0] rfl ?_
  exact jl_S_number_10 hok hrec K 0 x1
abbrev bk_S_skipBlanks_0_4 : List (Nat × Instr × Nat) := [(0, .iload_n 1, 1), (1, .istore_n 2, 1), (2, .iconst 0, 1), (3, .istore_n 3, 1)]
theorem bk_S_skipBlanks_0_4_ok : jm_at mt_S_skipBlanks.2.1 bk_S_skipBlanks_0_4 = true := by decide +kernel
abbrev bk_S_skipBlanks_4_4 : List (Nat × Instr × Nat) := [(4, .iload_n 2, 1), (5, .aload_n 0, 1), (6, .getfield 22, 3), (9, .if_icmp .ge 55, 3)]
theorem bk_S_skipBlanks_4_4_ok : jm_at mt_S_skipBlanks.2.1 bk_S_skipBlanks_4_4 = true := by decide +kernel
abbrev bk_S_skipBlanks_12_2 : List (Nat × Instr × Nat) := [(12, .aload_n 0, 1), (13, .iload_n 2, 1)]
theorem bk_S_skipBlanks_12_2_ok : jm_at mt_S_skipBlanks.2.1 bk_S_skipBlanks_12_2 = true := by decide +kernel
abbrev bk_S_skipBlanks_17_4 : List (Nat × Instr × Nat) := [(17, .istore 4, 2), (19, .iload 4, 2), (21, .bipush 10, 2), (23, .if_icmp .eq 18, 3)]
theorem bk_S_skipBlanks_17_4_ok : jm_at mt_S_skipBlanks.2.1 bk_S_skipBlanks_17_4 = true := by decide +kernel
abbrev bk_S_skipBlanks_26_2 : List (Nat × Instr × Nat) := [(26, .iload_n 3, 1), (27, .ifCond .ne 10, 3)]
theorem bk_S_skipBlanks_26_2_ok : jm_at mt_S_skipBlanks.2.1 bk_S_skipBlanks_26_2 = true := by decide +kernel
abbrev bk_S_skipBlanks_30_3 : List (Nat × Instr × Nat) := [(30, .iload 4, 2), (32, .bipush 35, 2), (34, .if_icmp .ne 7, 3)]
theorem bk_S_skipBlanks_30_3_ok : jm_at mt_S_skipBlanks.2.1 bk_S_skipBlanks_30_3 = true := by decide +kernel
abbrev bk_S_skipBlanks_37_2 : List (Nat × Instr × Nat) := [(37, .iconst 1, 1), (38, .goto 4, 3)]
theorem bk_S_skipBlanks_37_2_ok : jm_at mt_S_skipBlanks.2.1 bk_S_skipBlanks_37_2 = true := by decide +kernel
abbrev bk_S_skipBlanks_41_1 : List (Nat × Instr × Nat) := [(41, .iconst 0, 1)]
theorem bk_S_skipBlanks_41_1_ok : jm_at mt_S_skipBlanks.2.1 bk_S_skipBlanks_41_1 = true := by decide +kernel
abbrev bk_S_skipBlanks_42_3 : List (Nat × Instr × Nat) := [(42, .istore_n 3, 1), (43, .iload_n 3, 1), (44, .ifCond .ne 14, 3)]
theorem bk_S_skipBlanks_42_3_ok : jm_at mt_S_skipBlanks.2.1 bk_S_skipBlanks_42_3 = true := by decide +kernel
abbrev bk_S_skipBlanks_47_1 : List (Nat × Instr × Nat) := [(47, .iload 4, 2)]
theorem bk_S_skipBlanks_47_1_ok : jm_at mt_S_skipBlanks.2.1 bk_S_skipBlanks_47_1 = true := by decide +kernel
abbrev bk_S_skipBlanks_52_1 : List (Nat × Instr × Nat) := [(52, .ifCond .ne 6, 3)]
theorem bk_S_skipBlanks_52_1_ok : jm_at mt_S_skipBlanks.2.1 bk_S_skipBlanks_52_1 = true := by decide +kernel
abbrev bk_S_skipBlanks_55_1 : List (Nat × Instr × Nat) := [(55, .goto 9, 3)]
theorem bk_S_skipBlanks_55_1_ok : jm_at mt_S_skipBlanks.2.1 bk_S_skipBlanks_55_1 = true := by decide +kernel
abbrev bk_S_skipBlanks_58_2 : List (Nat × Instr × Nat) := [(58, .iinc 2 1, 3), (61, .goto (-57), 3)]
theorem bk_S_skipBlanks_58_2_ok : jm_at mt_S_skipBlanks.2.1 bk_S_skipBlanks_58_2 = true := by decide +kernel
abbrev bk_S_skipBlanks_64_1 : List (Nat × Instr × Nat) := [(64, .iload_n 2, 1)]
theorem bk_S_skipBlanks_64_1_ok : jm_at mt_S_skipBlanks.2.1 bk_S_skipBlanks_64_1 = true := by decide +kernel
theorem dd_S_skipBlanks_14 : decode mt_S_skipBlanks.2.1 14 = .ok (.invokevirtual 56, 3) := by decide +kernel
theorem dd_S_skipBlanks_49 : decode mt_S_skipBlanks.2.1 49 = .ok (.invokestatic 96, 3) := by decide +kernel
theorem dd_S_skipBlanks_65 : decode mt_S_skipBlanks.2.1 65 = .ok (.ireturn, 1) := by decide +kernel
def J_S_skipBlanks_64 (K : Nat) (g : jm_Rec) (v2 : Int32) (x : jm_X) : Option jm_R := some (.inl (some (.int v2), x))
set_option maxRecDepth 100000 in
set_option maxHeartbeats 4000000 in
theorem jj_S_skipBlanks_64 {l : Launch} {D : va_G} {ad : Nat → Nat} {aC : Nat → ClassId} {b0 : Nat} {K d0 : Nat} {g : jm_Rec} (hok : jm_Ok (jm_PP l D clC ad aC shC b0 1)) (hrec : ∀ (t : Nat) (av : List Value) (x : jm_X), jm_Con (jm_PP l D clC ad aC shC b0 1) (rcC t) d0 av x (g t av x)) (v2 : Int32) (x : jm_X) : jm_V (jm_PP l D clC ad aC shC b0 1) mt_S_skipBlanks (d0 + 2) 64 [(2, .int v2)] [] x (J_S_skipBlanks_64 K g v2 x) := by
  have hT := tk_S (l := l) (D := D) (ad := ad) (aC := aC) (b0 := b0)
  unfold J_S_skipBlanks_64
  refine jm_V.run (is := bk_S_skipBlanks_64_1) (pc' := 65) (ls' := [(2, .int v2)]) (st' := [.int v2]) (x' := x) hok hT bk_S_skipBlanks_64_1_ok rfl ?_
  exact jm_V.iret rfl dd_S_skipBlanks_65
def J_S_skipBlanks_58 (K : Nat) (g : jm_Rec) (k4 : Int32 → Int32 → jm_X → Option jm_R) (v2 : Int32) (v3 : Int32) (x : jm_X) : Option jm_R := k4 (v2 + 1) v3 x
set_option maxRecDepth 100000 in
set_option maxHeartbeats 4000000 in
theorem jj_S_skipBlanks_58 {l : Launch} {D : va_G} {ad : Nat → Nat} {aC : Nat → ClassId} {b0 : Nat} {K d0 : Nat} {g : jm_Rec} (hok : jm_Ok (jm_PP l D clC ad aC shC b0 1)) (hrec : ∀ (t : Nat) (av : List Value) (x : jm_X), jm_Con (jm_PP l D clC ad aC shC b0 1) (rcC t) d0 av x (g t av x)) {k4 : Int32 → Int32 → jm_X → Option jm_R} (hk4 : ∀ (v2 : Int32) (v3 : Int32) (x : jm_X), jm_V (jm_PP l D clC ad aC shC b0 1) mt_S_skipBlanks (d0 + 2) 4 [(0, .ref 4), (2, .int v2), (3, .int v3)] [] x (k4 v2 v3 x)) (v2 : Int32) (v3 : Int32) (x : jm_X) : jm_V (jm_PP l D clC ad aC shC b0 1) mt_S_skipBlanks (d0 + 2) 58 [(0, .ref 4), (2, .int v2), (3, .int v3)] [] x (J_S_skipBlanks_58 K g k4 v2 v3 x) := by
  have hT := tk_S (l := l) (D := D) (ad := ad) (aC := aC) (b0 := b0)
  unfold J_S_skipBlanks_58
  refine jm_V.run (is := bk_S_skipBlanks_58_2) (pc' := 4) (ls' := [(2, .int (v2 + 1)), (0, .ref 4), (3, .int v3)]) (st' := []) (x' := x) hok hT bk_S_skipBlanks_58_2_ok rfl ?_
  refine jm_V.sub (ls' := [(0, .ref 4), (2, .int (v2 + 1)), (3, .int v3)]) [1, 0, 2] rfl ?_
  exact hk4 (v2 + 1) v3 x
def J_S_skipBlanks_42 (K : Nat) (g : jm_Rec) (k4 : Int32 → Int32 → jm_X → Option jm_R) (v2 : Int32) (v4 : Int32) (s0 : Int32) (x : jm_X) : Option jm_R := (if s0 = 0 then jm_bI (f_B_isBlank K g v4 x) (fun b4 x3 => (if b4 = 0 then J_S_skipBlanks_64 K g v2 x3 else J_S_skipBlanks_58 K g k4 v2 s0 x3)) else J_S_skipBlanks_58 K g k4 v2 s0 x)
set_option maxRecDepth 100000 in
set_option maxHeartbeats 4000000 in
theorem jj_S_skipBlanks_42 {l : Launch} {D : va_G} {ad : Nat → Nat} {aC : Nat → ClassId} {b0 : Nat} {K d0 : Nat} {g : jm_Rec} (hok : jm_Ok (jm_PP l D clC ad aC shC b0 1)) (hrec : ∀ (t : Nat) (av : List Value) (x : jm_X), jm_Con (jm_PP l D clC ad aC shC b0 1) (rcC t) d0 av x (g t av x)) {k4 : Int32 → Int32 → jm_X → Option jm_R} (hk4 : ∀ (v2 : Int32) (v3 : Int32) (x : jm_X), jm_V (jm_PP l D clC ad aC shC b0 1) mt_S_skipBlanks (d0 + 2) 4 [(0, .ref 4), (2, .int v2), (3, .int v3)] [] x (k4 v2 v3 x)) (v2 : Int32) (v4 : Int32) (s0 : Int32) (x : jm_X) : jm_V (jm_PP l D clC ad aC shC b0 1) mt_S_skipBlanks (d0 + 2) 42 [(0, .ref 4), (2, .int v2), (4, .int v4)] [.int s0] x (J_S_skipBlanks_42 K g k4 v2 v4 s0 x) := by
  have hT := tk_S (l := l) (D := D) (ad := ad) (aC := aC) (b0 := b0)
  unfold J_S_skipBlanks_42
  refine jm_V.run (is := bk_S_skipBlanks_42_3) (pc' := (if s0 = 0 then 47 else 58)) (ls' := [(3, .int s0), (0, .ref 4), (2, .int v2), (4, .int v4)]) (st' := []) (x' := x) hok hT bk_S_skipBlanks_42_3_ok rfl ?_
  refine jm_V.ite (fun _ => ?_) (fun _ => ?_)
  · refine jm_V.run (is := bk_S_skipBlanks_47_1) (pc' := 49) (ls' := [(3, .int s0), (0, .ref 4), (2, .int v2), (4, .int v4)]) (st' := [.int v4]) (x' := x) hok hT bk_S_skipBlanks_47_1_ok rfl ?_
    refine jm_V.callI (av := [.int v4]) (rest := []) hok (jm_Con.mono (c_B_isBlank hok hrec v4 x) (by omega)) (jm_Inv.stat dd_S_skipBlanks_49 (Or.inl lk_S_96) mq_B_isBlank mi_B mw_B_isBlank mh_B_isBlank ml_B_isBlank) mw_B_isBlank mi_B (Nat.le_of_ble_eq_true rfl) (Nat.le_of_ble_eq_true rfl) (fun b4 x3 => ?_)
    refine jm_V.run (is := bk_S_skipBlanks_52_1) (pc' := (if b4 = 0 then 55 else 58)) (ls' := [(3, .int s0), (0, .ref 4), (2, .int v2), (4, .int v4)]) (st' := []) (x' := x3) hok hT bk_S_skipBlanks_52_1_ok rfl ?_
    refine jm_V.ite (fun _ => ?_) (fun _ => ?_)
    · refine jm_V.run (is := bk_S_skipBlanks_55_1) (pc' := 64) (ls' := [(3, .int s0), (0, .ref 4), (2, .int v2), (4, .int v4)]) (st' := []) (x' := x3) hok hT bk_S_skipBlanks_55_1_ok rfl ?_
      refine jm_V.sub (ls' := [(2, .int v2)]) [2] rfl ?_
      exact jj_S_skipBlanks_64 hok hrec v2 x3
    · refine jm_V.sub (ls' := [(0, .ref 4), (2, .int v2), (3, .int s0)]) [1, 2, 0] rfl ?_
      exact jj_S_skipBlanks_58 hok hrec hk4 v2 s0 x3
  · refine jm_V.sub (ls' := [(0, .ref 4), (2, .int v2), (3, .int s0)]) [1, 2, 0] rfl ?_
    exact jj_S_skipBlanks_58 hok hrec hk4 v2 s0 x
def J_S_skipBlanks_41 (K : Nat) (g : jm_Rec) (k4 : Int32 → Int32 → jm_X → Option jm_R) (v2 : Int32) (v4 : Int32) (x : jm_X) : Option jm_R := J_S_skipBlanks_42 K g k4 v2 v4 0 x
set_option maxRecDepth 100000 in
set_option maxHeartbeats 4000000 in
theorem jj_S_skipBlanks_41 {l : Launch} {D : va_G} {ad : Nat → Nat} {aC : Nat → ClassId} {b0 : Nat} {K d0 : Nat} {g : jm_Rec} (hok : jm_Ok (jm_PP l D clC ad aC shC b0 1)) (hrec : ∀ (t : Nat) (av : List Value) (x : jm_X), jm_Con (jm_PP l D clC ad aC shC b0 1) (rcC t) d0 av x (g t av x)) {k4 : Int32 → Int32 → jm_X → Option jm_R} (hk4 : ∀ (v2 : Int32) (v3 : Int32) (x : jm_X), jm_V (jm_PP l D clC ad aC shC b0 1) mt_S_skipBlanks (d0 + 2) 4 [(0, .ref 4), (2, .int v2), (3, .int v3)] [] x (k4 v2 v3 x)) (v2 : Int32) (v4 : Int32) (x : jm_X) : jm_V (jm_PP l D clC ad aC shC b0 1) mt_S_skipBlanks (d0 + 2) 41 [(0, .ref 4), (2, .int v2), (4, .int v4)] [] x (J_S_skipBlanks_41 K g k4 v2 v4 x) := by
  have hT := tk_S (l := l) (D := D) (ad := ad) (aC := aC) (b0 := b0)
  unfold J_S_skipBlanks_41
  refine jm_V.run (is := bk_S_skipBlanks_41_1) (pc' := 42) (ls' := [(0, .ref 4), (2, .int v2), (4, .int v4)]) (st' := [.int 0]) (x' := x) hok hT bk_S_skipBlanks_41_1_ok rfl ?_
  exact jj_S_skipBlanks_42 hok hrec hk4 v2 v4 0 x
def J_S_skipBlanks_37 (K : Nat) (g : jm_Rec) (k4 : Int32 → Int32 → jm_X → Option jm_R) (v2 : Int32) (v4 : Int32) (x : jm_X) : Option jm_R := J_S_skipBlanks_42 K g k4 v2 v4 1 x
set_option maxRecDepth 100000 in
set_option maxHeartbeats 4000000 in
theorem jj_S_skipBlanks_37 {l : Launch} {D : va_G} {ad : Nat → Nat} {aC : Nat → ClassId} {b0 : Nat} {K d0 : Nat} {g : jm_Rec} (hok : jm_Ok (jm_PP l D clC ad aC shC b0 1)) (hrec : ∀ (t : Nat) (av : List Value) (x : jm_X), jm_Con (jm_PP l D clC ad aC shC b0 1) (rcC t) d0 av x (g t av x)) {k4 : Int32 → Int32 → jm_X → Option jm_R} (hk4 : ∀ (v2 : Int32) (v3 : Int32) (x : jm_X), jm_V (jm_PP l D clC ad aC shC b0 1) mt_S_skipBlanks (d0 + 2) 4 [(0, .ref 4), (2, .int v2), (3, .int v3)] [] x (k4 v2 v3 x)) (v2 : Int32) (v4 : Int32) (x : jm_X) : jm_V (jm_PP l D clC ad aC shC b0 1) mt_S_skipBlanks (d0 + 2) 37 [(0, .ref 4), (2, .int v2), (4, .int v4)] [] x (J_S_skipBlanks_37 K g k4 v2 v4 x) := by
  have hT := tk_S (l := l) (D := D) (ad := ad) (aC := aC) (b0 := b0)
  unfold J_S_skipBlanks_37
  refine jm_V.run (is := bk_S_skipBlanks_37_2) (pc' := 42) (ls' := [(0, .ref 4), (2, .int v2), (4, .int v4)]) (st' := [.int 1]) (x' := x) hok hT bk_S_skipBlanks_37_2_ok rfl ?_
  exact jj_S_skipBlanks_42 hok hrec hk4 v2 v4 1 x
def B_S_skipBlanks_4 (K : Nat) (g : jm_Rec) (self : Int32 → Int32 → jm_X → Option jm_R) (v2 : Int32) (v3 : Int32) (x : jm_X) : Option jm_R := (if (x.1 401) ≤ v2 then J_S_skipBlanks_64 K g v2 x else jm_bI (f_S_byteAt K g v2 x) (fun b2 x1 => (if b2 = 10 then J_S_skipBlanks_41 K g self v2 b2 x1 else (if v3 = 0 then (if b2 = 35 then J_S_skipBlanks_37 K g self v2 b2 x1 else J_S_skipBlanks_41 K g self v2 b2 x1) else J_S_skipBlanks_37 K g self v2 b2 x1))))
def L_S_skipBlanks_4 (K : Nat) (g : jm_Rec) : Nat → Int32 → Int32 → jm_X → Option jm_R
  | 0, _, _, _ => none
  | k + 1, v2, v3, x => B_S_skipBlanks_4 K g (L_S_skipBlanks_4 K g k) v2 v3 x
set_option maxRecDepth 100000 in
set_option maxHeartbeats 4000000 in
theorem jb_S_skipBlanks_4 {l : Launch} {D : va_G} {ad : Nat → Nat} {aC : Nat → ClassId} {b0 : Nat} {K d0 : Nat} {g : jm_Rec} (hok : jm_Ok (jm_PP l D clC ad aC shC b0 1)) (hrec : ∀ (t : Nat) (av : List Value) (x : jm_X), jm_Con (jm_PP l D clC ad aC shC b0 1) (rcC t) d0 av x (g t av x)) {self : Int32 → Int32 → jm_X → Option jm_R} (hself : ∀ (v2 : Int32) (v3 : Int32) (x : jm_X), jm_V (jm_PP l D clC ad aC shC b0 1) mt_S_skipBlanks (d0 + 2) 4 [(0, .ref 4), (2, .int v2), (3, .int v3)] [] x (self v2 v3 x)) (v2 : Int32) (v3 : Int32) (x : jm_X) : jm_V (jm_PP l D clC ad aC shC b0 1) mt_S_skipBlanks (d0 + 2) 4 [(0, .ref 4), (2, .int v2), (3, .int v3)] [] x (B_S_skipBlanks_4 K g self v2 v3 x) := by
  have hT := tk_S (l := l) (D := D) (ad := ad) (aC := aC) (b0 := b0)
  unfold B_S_skipBlanks_4
  refine jm_V.run (is := bk_S_skipBlanks_4_4) (pc' := (if (x.1 401) ≤ v2 then 64 else 12)) (ls' := [(0, .ref 4), (2, .int v2), (3, .int v3)]) (st' := []) (x' := x) hok hT bk_S_skipBlanks_4_4_ok rfl ?_
  refine jm_V.ite (fun _ => ?_) (fun _ => ?_)
  · refine jm_V.sub (ls' := [(2, .int v2)]) [1] rfl ?_
    exact jj_S_skipBlanks_64 hok hrec v2 x
  · refine jm_V.run (is := bk_S_skipBlanks_12_2) (pc' := 14) (ls' := [(0, .ref 4), (2, .int v2), (3, .int v3)]) (st' := [.int v2, .ref 4]) (x' := x) hok hT bk_S_skipBlanks_12_2_ok rfl ?_
    refine jm_V.callI (av := [.ref 4, .int v2]) (rest := []) hok (jm_Con.mono (c_S_byteAt hok hrec v2 x) (by omega)) (jm_Inv.obj (q := ("FilterReader$Signs", T_S, 5)) dd_S_skipBlanks_14 (Or.inl lk_S_56) mn_S_byteAt ms_S_byteAt mw_S_byteAt mh_S_byteAt ml_S_byteAt rfl rfl) mw_S_byteAt mi_S (Nat.le_of_ble_eq_true rfl) (Nat.le_of_ble_eq_true rfl) (fun b2 x1 => ?_)
    refine jm_V.run (is := bk_S_skipBlanks_17_4) (pc' := (if b2 = 10 then 41 else 26)) (ls' := [(4, .int b2), (0, .ref 4), (2, .int v2), (3, .int v3)]) (st' := []) (x' := x1) hok hT bk_S_skipBlanks_17_4_ok rfl ?_
    refine jm_V.ite (fun _ => ?_) (fun _ => ?_)
    · refine jm_V.sub (ls' := [(0, .ref 4), (2, .int v2), (4, .int b2)]) [1, 2, 0] rfl ?_
      exact jj_S_skipBlanks_41 hok hrec hself v2 b2 x1
    · refine jm_V.run (is := bk_S_skipBlanks_26_2) (pc' := (if v3 = 0 then 30 else 37)) (ls' := [(4, .int b2), (0, .ref 4), (2, .int v2), (3, .int v3)]) (st' := []) (x' := x1) hok hT bk_S_skipBlanks_26_2_ok rfl ?_
      refine jm_V.ite (fun _ => ?_) (fun _ => ?_)
      · refine jm_V.run (is := bk_S_skipBlanks_30_3) (pc' := (if b2 = 35 then 37 else 41)) (ls' := [(4, .int b2), (0, .ref 4), (2, .int v2), (3, .int v3)]) (st' := []) (x' := x1) hok hT bk_S_skipBlanks_30_3_ok rfl ?_
        refine jm_V.ite (fun _ => ?_) (fun _ => ?_)
        · refine jm_V.sub (ls' := [(0, .ref 4), (2, .int v2), (4, .int b2)]) [1, 2, 0] rfl ?_
          exact jj_S_skipBlanks_37 hok hrec hself v2 b2 x1
        · refine jm_V.sub (ls' := [(0, .ref 4), (2, .int v2), (4, .int b2)]) [1, 2, 0] rfl ?_
          exact jj_S_skipBlanks_41 hok hrec hself v2 b2 x1
      · refine jm_V.sub (ls' := [(0, .ref 4), (2, .int v2), (4, .int b2)]) [1, 2, 0] rfl ?_
        exact jj_S_skipBlanks_37 hok hrec hself v2 b2 x1
theorem jl_S_skipBlanks_4 {l : Launch} {D : va_G} {ad : Nat → Nat} {aC : Nat → ClassId} {b0 : Nat} {K d0 : Nat} {g : jm_Rec} (hok : jm_Ok (jm_PP l D clC ad aC shC b0 1)) (hrec : ∀ (t : Nat) (av : List Value) (x : jm_X), jm_Con (jm_PP l D clC ad aC shC b0 1) (rcC t) d0 av x (g t av x)) : ∀ (k : Nat) (v2 : Int32) (v3 : Int32) (x : jm_X), jm_V (jm_PP l D clC ad aC shC b0 1) mt_S_skipBlanks (d0 + 2) 4 [(0, .ref 4), (2, .int v2), (3, .int v3)] [] x (L_S_skipBlanks_4 K g k v2 v3 x)
  | 0, _, _, _ => jm_V.stuck
  | k + 1, v2, v3, x => jb_S_skipBlanks_4 hok hrec (fun v2 v3 x => jl_S_skipBlanks_4 hok hrec k v2 v3 x) v2 v3 x
def f_S_skipBlanks (K : Nat) (g : jm_Rec) (a1 : Int32) (x : jm_X) : Option jm_R := L_S_skipBlanks_4 K g K a1 0 x
set_option maxRecDepth 100000 in
set_option maxHeartbeats 4000000 in
theorem c_S_skipBlanks {l : Launch} {D : va_G} {ad : Nat → Nat} {aC : Nat → ClassId} {b0 : Nat} {K d0 : Nat} {g : jm_Rec} (hok : jm_Ok (jm_PP l D clC ad aC shC b0 1)) (hrec : ∀ (t : Nat) (av : List Value) (x : jm_X), jm_Con (jm_PP l D clC ad aC shC b0 1) (rcC t) d0 av x (g t av x)) (a1 : Int32) (x : jm_X) : jm_Con (jm_PP l D clC ad aC shC b0 1) mt_S_skipBlanks (d0 + 2) [.ref 4, .int a1] x (f_S_skipBlanks K g a1 x) := by
  refine jm_Con.of (plainFor_of_name (by decide +kernel)) (Nat.le_of_ble_eq_true rfl) ?_
  have hT := tk_S (l := l) (D := D) (ad := ad) (aC := aC) (b0 := b0)
  unfold f_S_skipBlanks
  show jm_V _ _ _ 0 [(0, .ref 4), (1, .int a1)] [] x _
  refine jm_V.run (is := bk_S_skipBlanks_0_4) (pc' := 4) (ls' := [(3, .int 0), (2, .int a1), (0, .ref 4), (1, .int a1)]) (st' := []) (x' := x) hok hT bk_S_skipBlanks_0_4_ok rfl ?_
  refine jm_V.sub (ls' := [(0, .ref 4), (2, .int a1), (3, .int 0)]) [2, 1, 0] rfl ?_
  exact jl_S_skipBlanks_4 hok hrec K a1 0 x
abbrev bk_S_next_0_4 : List (Nat × Instr × Nat) := [(0, .aload_n 0, 1), (1, .aload_n 0, 1), (2, .aload_n 0, 1), (3, .getfield 40, 3)]
theorem bk_S_next_0_4_ok : jm_at mt_S_next.2.1 bk_S_next_0_4 = true := by decide +kernel
abbrev bk_S_next_9_1 : List (Nat × Instr × Nat) := [(9, .putfield 37, 3)]
theorem bk_S_next_9_1_ok : jm_at mt_S_next.2.1 bk_S_next_9_1 = true := by decide +kernel
abbrev bk_S_next_12_3 : List (Nat × Instr × Nat) := [(12, .aload_n 0, 1), (13, .aload_n 0, 1), (14, .getfield 37, 3)]
theorem bk_S_next_12_3_ok : jm_at mt_S_next.2.1 bk_S_next_12_3 = true := by decide +kernel
abbrev bk_S_next_20_3 : List (Nat × Instr × Nat) := [(20, .istore_n 1, 1), (21, .iload_n 1, 1), (22, .ifCond .ge 21, 3)]
theorem bk_S_next_20_3_ok : jm_at mt_S_next.2.1 bk_S_next_20_3 = true := by decide +kernel
abbrev bk_S_next_43_1 : List (Nat × Instr × Nat) := [(43, .iload_n 1, 1)]
theorem bk_S_next_43_1_ok : jm_at mt_S_next.2.1 bk_S_next_43_1 = true := by decide +kernel
abbrev bk_S_next_47_1 : List (Nat × Instr × Nat) := [(47, .ifCond .eq 10, 3)]
theorem bk_S_next_47_1_ok : jm_at mt_S_next.2.1 bk_S_next_47_1 = true := by decide +kernel
abbrev bk_S_next_57_1 : List (Nat × Instr × Nat) := [(57, .iload_n 1, 1)]
theorem bk_S_next_57_1_ok : jm_at mt_S_next.2.1 bk_S_next_57_1 = true := by decide +kernel
abbrev bk_S_next_61_1 : List (Nat × Instr × Nat) := [(61, .ifCond .eq 37, 3)]
theorem bk_S_next_61_1_ok : jm_at mt_S_next.2.1 bk_S_next_61_1 = true := by decide +kernel
abbrev bk_S_next_98_3 : List (Nat × Instr × Nat) := [(98, .iload_n 1, 1), (99, .bipush 46, 2), (101, .if_icmp .eq 9, 3)]
theorem bk_S_next_98_3_ok : jm_at mt_S_next.2.1 bk_S_next_98_3 = true := by decide +kernel
abbrev bk_S_next_104_3 : List (Nat × Instr × Nat) := [(104, .iload_n 1, 1), (105, .bipush 36, 2), (107, .if_icmp .ne 55, 3)]
theorem bk_S_next_104_3_ok : jm_at mt_S_next.2.1 bk_S_next_104_3 = true := by decide +kernel
abbrev bk_S_next_64_4 : List (Nat × Instr × Nat) := [(64, .aload_n 0, 1), (65, .aload_n 0, 1), (66, .aload_n 0, 1), (67, .getfield 37, 3)]
theorem bk_S_next_64_4_ok : jm_at mt_S_next.2.1 bk_S_next_64_4 = true := by decide +kernel
abbrev bk_S_next_73_1 : List (Nat × Instr × Nat) := [(73, .putfield 40, 3)]
theorem bk_S_next_73_1_ok : jm_at mt_S_next.2.1 bk_S_next_73_1 = true := by decide +kernel
abbrev bk_S_next_76_7 : List (Nat × Instr × Nat) := [(76, .aload_n 0, 1), (77, .aload_n 0, 1), (78, .getfield 7, 3), (81, .aload_n 0, 1), (82, .getfield 37, 3), (85, .aload_n 0, 1), (86, .getfield 40, 3)]
theorem bk_S_next_76_7_ok : jm_at mt_S_next.2.1 bk_S_next_76_7 = true := by decide +kernel
abbrev bk_S_next_92_1 : List (Nat × Instr × Nat) := [(92, .putfield 19, 3)]
theorem bk_S_next_92_1_ok : jm_at mt_S_next.2.1 bk_S_next_92_1 = true := by decide +kernel
abbrev bk_S_next_95_1 : List (Nat × Instr × Nat) := [(95, .goto 105, 3)]
theorem bk_S_next_95_1_ok : jm_at mt_S_next.2.1 bk_S_next_95_1 = true := by decide +kernel
abbrev bk_S_next_50_1 : List (Nat × Instr × Nat) := [(50, .aload_n 0, 1)]
theorem bk_S_next_50_1_ok : jm_at mt_S_next.2.1 bk_S_next_50_1 = true := by decide +kernel
abbrev bk_S_next_54_1 : List (Nat × Instr × Nat) := [(54, .goto 146, 3)]
theorem bk_S_next_54_1_ok : jm_at mt_S_next.2.1 bk_S_next_54_1 = true := by decide +kernel
abbrev bk_S_next_25_4 : List (Nat × Instr × Nat) := [(25, .aload_n 0, 1), (26, .aload_n 0, 1), (27, .getfield 37, 3), (30, .putfield 40, 3)]
theorem bk_S_next_25_4_ok : jm_at mt_S_next.2.1 bk_S_next_25_4 = true := by decide +kernel
abbrev bk_S_next_33_3 : List (Nat × Instr × Nat) := [(33, .aload_n 0, 1), (34, .getstatic 13, 3), (37, .putfield 19, 3)]
theorem bk_S_next_33_3_ok : jm_at mt_S_next.2.1 bk_S_next_33_3 = true := by decide +kernel
abbrev bk_S_next_40_1 : List (Nat × Instr × Nat) := [(40, .goto 160, 3)]
theorem bk_S_next_40_1_ok : jm_at mt_S_next.2.1 bk_S_next_40_1 = true := by decide +kernel
abbrev bk_S_next_110_5 : List (Nat × Instr × Nat) := [(110, .aload_n 0, 1), (111, .aload_n 0, 1), (112, .getfield 37, 3), (115, .iconst 1, 1), (116, .iadd, 1)]
theorem bk_S_next_110_5_ok : jm_at mt_S_next.2.1 bk_S_next_110_5 = true := by decide +kernel
abbrev bk_S_next_123_1 : List (Nat × Instr × Nat) := [(123, .ifCond .eq 39, 3)]
theorem bk_S_next_123_1_ok : jm_at mt_S_next.2.1 bk_S_next_123_1 = true := by decide +kernel
abbrev bk_S_next_126_6 : List (Nat × Instr × Nat) := [(126, .aload_n 0, 1), (127, .aload_n 0, 1), (128, .aload_n 0, 1), (129, .getfield 37, 3), (132, .iconst 1, 1), (133, .iadd, 1)]
theorem bk_S_next_126_6_ok : jm_at mt_S_next.2.1 bk_S_next_126_6 = true := by decide +kernel
abbrev bk_S_next_137_1 : List (Nat × Instr × Nat) := [(137, .putfield 40, 3)]
theorem bk_S_next_137_1_ok : jm_at mt_S_next.2.1 bk_S_next_137_1 = true := by decide +kernel
abbrev bk_S_next_140_4 : List (Nat × Instr × Nat) := [(140, .aload_n 0, 1), (141, .iload_n 1, 1), (142, .bipush 46, 2), (144, .if_icmp .ne 9, 3)]
theorem bk_S_next_140_4_ok : jm_at mt_S_next.2.1 bk_S_next_140_4 = true := by decide +kernel
abbrev bk_S_next_147_2 : List (Nat × Instr × Nat) := [(147, .getstatic 46, 3), (150, .goto 6, 3)]
theorem bk_S_next_147_2_ok : jm_at mt_S_next.2.1 bk_S_next_147_2 = true := by decide +kernel
abbrev bk_S_next_153_1 : List (Nat × Instr × Nat) := [(153, .getstatic 43, 3)]
theorem bk_S_next_153_1_ok : jm_at mt_S_next.2.1 bk_S_next_153_1 = true := by decide +kernel
abbrev bk_S_next_156_1 : List (Nat × Instr × Nat) := [(156, .putfield 19, 3)]
theorem bk_S_next_156_1_ok : jm_at mt_S_next.2.1 bk_S_next_156_1 = true := by decide +kernel
abbrev bk_S_next_159_1 : List (Nat × Instr × Nat) := [(159, .goto 41, 3)]
theorem bk_S_next_159_1_ok : jm_at mt_S_next.2.1 bk_S_next_159_1 = true := by decide +kernel
abbrev bk_S_next_162_7 : List (Nat × Instr × Nat) := [(162, .aload_n 0, 1), (163, .aload_n 0, 1), (164, .getfield 7, 3), (167, .aload_n 0, 1), (168, .getfield 37, 3), (171, .aload_n 0, 1), (172, .getfield 22, 3)]
theorem bk_S_next_162_7_ok : jm_at mt_S_next.2.1 bk_S_next_162_7 = true := by decide +kernel
abbrev bk_S_next_178_1 : List (Nat × Instr × Nat) := [(178, .putfield 19, 3)]
theorem bk_S_next_178_1_ok : jm_at mt_S_next.2.1 bk_S_next_178_1 = true := by decide +kernel
abbrev bk_S_next_181_5 : List (Nat × Instr × Nat) := [(181, .aload_n 0, 1), (182, .aload_n 0, 1), (183, .getfield 37, 3), (186, .aload_n 0, 1), (187, .getfield 19, 3)]
theorem bk_S_next_181_5_ok : jm_at mt_S_next.2.1 bk_S_next_181_5 = true := by decide +kernel
abbrev bk_S_next_196_2 : List (Nat × Instr × Nat) := [(196, .iadd, 1), (197, .putfield 40, 3)]
theorem bk_S_next_196_2_ok : jm_at mt_S_next.2.1 bk_S_next_196_2 = true := by decide +kernel
theorem dd_S_next_6 : decode mt_S_next.2.1 6 = .ok (.invokevirtual 52, 3) := by decide +kernel
theorem dd_S_next_17 : decode mt_S_next.2.1 17 = .ok (.invokevirtual 56, 3) := by decide +kernel
theorem dd_S_next_44 : decode mt_S_next.2.1 44 = .ok (.invokestatic 59, 3) := by decide +kernel
theorem dd_S_next_58 : decode mt_S_next.2.1 58 = .ok (.invokestatic 68, 3) := by decide +kernel
theorem dd_S_next_70 : decode mt_S_next.2.1 70 = .ok (.invokevirtual 71, 3) := by decide +kernel
theorem dd_S_next_89 : decode mt_S_next.2.1 89 = .ok (.invokestatic 74, 3) := by decide +kernel
theorem dd_S_next_51 : decode mt_S_next.2.1 51 = .ok (.invokevirtual 65, 3) := by decide +kernel
theorem dd_S_next_117 : decode mt_S_next.2.1 117 = .ok (.invokevirtual 56, 3) := by decide +kernel
theorem dd_S_next_120 : decode mt_S_next.2.1 120 = .ok (.invokestatic 68, 3) := by decide +kernel
theorem dd_S_next_134 : decode mt_S_next.2.1 134 = .ok (.invokevirtual 71, 3) := by decide +kernel
theorem dd_S_next_175 : decode mt_S_next.2.1 175 = .ok (.invokestatic 78, 3) := by decide +kernel
theorem dd_S_next_193 : decode mt_S_next.2.1 193 = .ok (.invokevirtual 85, 3) := by decide +kernel
theorem dd_S_next_190 : decode mt_S_next.2.1 190 = .ok (.getfield 81, 3) := by decide +kernel
theorem dd_S_next_200 : decode mt_S_next.2.1 200 = .ok (.return_, 1) := by decide +kernel
def J_S_next_200 (K : Nat) (g : jm_Rec)  (x : jm_X) : Option jm_R := some (.inl (none, x))
set_option maxRecDepth 100000 in
set_option maxHeartbeats 4000000 in
theorem jj_S_next_200 {l : Launch} {D : va_G} {ad : Nat → Nat} {aC : Nat → ClassId} {b0 : Nat} {K d0 : Nat} {g : jm_Rec} (hok : jm_Ok (jm_PP l D clC ad aC shC b0 1)) (hrec : ∀ (t : Nat) (av : List Value) (x : jm_X), jm_Con (jm_PP l D clC ad aC shC b0 1) (rcC t) d0 av x (g t av x))  (x : jm_X) : jm_V (jm_PP l D clC ad aC shC b0 1) mt_S_next (d0 + 7) 200 [] [] x (J_S_next_200 K g  x) := by
  have hT := tk_S (l := l) (D := D) (ad := ad) (aC := aC) (b0 := b0)
  unfold J_S_next_200
  exact jm_V.vret rfl dd_S_next_200
def J_S_next_162 (K : Nat) (g : jm_Rec)  (x : jm_X) : Option jm_R := jm_bA (f_E_ofSymbol K g (x.2.1 400) (x.1 402) (x.1 401) x) (fun b28 x27 => jm_then (x27.1, va_up x27.2.1 404 b28, x27.2.2) (fun x29 => (if jm_cn 1000 55 (x29.2.1 404) then (if jm_cn 2000 73 (2000 + sg_txt.getD ((x29.2.1 404) - 1000) 0) then jm_bI (f_JS_length K g (2000 + sg_txt.getD ((x29.2.1 404) - 1000) 0) x29) (fun b31 x30 => jm_then (va_up x30.1 403 ((x29.1 402) + b31), x30.2) (fun x32 => J_S_next_200 K g x32)) else none) else none)))
set_option maxRecDepth 100000 in
set_option maxHeartbeats 4000000 in
theorem jj_S_next_162 {l : Launch} {D : va_G} {ad : Nat → Nat} {aC : Nat → ClassId} {b0 : Nat} {K d0 : Nat} {g : jm_Rec} (hok : jm_Ok (jm_PP l D clC ad aC shC b0 1)) (hrec : ∀ (t : Nat) (av : List Value) (x : jm_X), jm_Con (jm_PP l D clC ad aC shC b0 1) (rcC t) d0 av x (g t av x))  (x : jm_X) : jm_V (jm_PP l D clC ad aC shC b0 1) mt_S_next (d0 + 7) 162 [(0, .ref 4)] [] x (J_S_next_162 K g  x) := by
  have hT := tk_S (l := l) (D := D) (ad := ad) (aC := aC) (b0 := b0)
  unfold J_S_next_162
  refine jm_V.run (is := bk_S_next_162_7) (pc' := 175) (ls' := [(0, .ref 4)]) (st' := [.int (x.1 401), .int (x.1 402), .ref (x.2.1 400), .ref 4]) (x' := x) hok hT bk_S_next_162_7_ok rfl ?_
  refine jm_V.callA (av := [.ref (x.2.1 400), .int (x.1 402), .int (x.1 401)]) (rest := [.ref 4]) hok (jm_Con.mono (c_E_ofSymbol hok hrec (x.2.1 400) (x.1 402) (x.1 401) x) (by omega)) (jm_Inv.stat dd_S_next_175 (Or.inl lk_S_78) mq_E_ofSymbol mi_E mw_E_ofSymbol mh_E_ofSymbol ml_E_ofSymbol) mw_E_ofSymbol mi_E (Nat.le_of_ble_eq_true rfl) (Nat.le_of_ble_eq_true rfl) (fun b28 x27 => ?_)
  refine jm_V.run (is := bk_S_next_178_1) (pc' := 181) (ls' := [(0, .ref 4)]) (st' := []) (x' := (x27.1, va_up x27.2.1 404 b28, x27.2.2)) hok hT bk_S_next_178_1_ok rfl ?_
  refine jm_V.then_ (fun x29 => ?_)
  refine jm_V.run (is := bk_S_next_181_5) (pc' := 190) (ls' := [(0, .ref 4)]) (st' := [.ref (x29.2.1 404), .int (x29.1 402), .ref 4]) (x' := x29) hok hT bk_S_next_181_5_ok rfl ?_
  refine jm_V.getC (v := fun i => .ref (2000 + sg_txt.getD i 0)) hok cs_text (Or.inr ⟨_, ln_S_81⟩) dd_S_next_190 ?_
  refine jm_V.guard (fun hg => ?_)
  refine jm_V.callI (av := [.ref (2000 + sg_txt.getD ((x29.2.1 404) - 1000) 0)]) (rest := [.int (x29.1 402), .ref 4]) hok (jm_Con.mono (c_JS_length (d0 := d0) hok hrec (2000 + sg_txt.getD ((x29.2.1 404) - 1000) 0) x29) (by omega)) (iv_str hok hg dd_S_next_193 lk_S_85 mn_JS_length ms_JS_length mw_JS_length mh_JS_length ml_JS_length) mw_JS_length mi_JS (Nat.le_of_ble_eq_true rfl) (Nat.le_of_ble_eq_true rfl) (fun b31 x30 => ?_)
  refine jm_V.run (is := bk_S_next_196_2) (pc' := 200) (ls' := [(0, .ref 4)]) (st' := []) (x' := (va_up x30.1 403 ((x29.1 402) + b31), x30.2)) hok hT bk_S_next_196_2_ok rfl ?_
  refine jm_V.then_ (fun x32 => ?_)
  refine jm_V.sub (ls' := []) [] rfl ?_
  exact jj_S_next_200 hok hrec x32
def J_S_next_156 (K : Nat) (g : jm_Rec) (s0 : Nat) (x : jm_X) : Option jm_R := jm_then (x.1, va_up x.2.1 404 s0, x.2.2) (fun x26 => J_S_next_200 K g x26)
set_option maxRecDepth 100000 in
set_option maxHeartbeats 4000000 in
theorem jj_S_next_156 {l : Launch} {D : va_G} {ad : Nat → Nat} {aC : Nat → ClassId} {b0 : Nat} {K d0 : Nat} {g : jm_Rec} (hok : jm_Ok (jm_PP l D clC ad aC shC b0 1)) (hrec : ∀ (t : Nat) (av : List Value) (x : jm_X), jm_Con (jm_PP l D clC ad aC shC b0 1) (rcC t) d0 av x (g t av x)) (s0 : Nat) (x : jm_X) : jm_V (jm_PP l D clC ad aC shC b0 1) mt_S_next (d0 + 7) 156 [] [.ref s0, .ref 4] x (J_S_next_156 K g s0 x) := by
  have hT := tk_S (l := l) (D := D) (ad := ad) (aC := aC) (b0 := b0)
  unfold J_S_next_156
  refine jm_V.run (is := bk_S_next_156_1) (pc' := 159) (ls' := []) (st' := []) (x' := (x.1, va_up x.2.1 404 s0, x.2.2)) hok hT bk_S_next_156_1_ok rfl ?_
  refine jm_V.then_ (fun x26 => ?_)
  refine jm_V.run (is := bk_S_next_159_1) (pc' := 200) (ls' := []) (st' := []) (x' := x26) hok hT bk_S_next_159_1_ok rfl ?_
  exact jj_S_next_200 hok hrec x26
def J_S_next_110 (K : Nat) (g : jm_Rec) (v1 : Int32) (x : jm_X) : Option jm_R := jm_bI (f_S_byteAt K g ((x.1 402) + 1) x) (fun b20 x19 => jm_bI (f_B_startsName K g b20 x19) (fun b22 x21 => (if b22 = 0 then J_S_next_162 K g x21 else jm_bI (f_S_nameEnd K g ((x21.1 402) + 1) x21) (fun b24 x23 => jm_then (va_up x23.1 403 b24, x23.2) (fun x25 => (if v1 = 46 then J_S_next_156 K g 1003 x25 else J_S_next_156 K g 1004 x25))))))
set_option maxRecDepth 100000 in
set_option maxHeartbeats 4000000 in
theorem jj_S_next_110 {l : Launch} {D : va_G} {ad : Nat → Nat} {aC : Nat → ClassId} {b0 : Nat} {K d0 : Nat} {g : jm_Rec} (hok : jm_Ok (jm_PP l D clC ad aC shC b0 1)) (hrec : ∀ (t : Nat) (av : List Value) (x : jm_X), jm_Con (jm_PP l D clC ad aC shC b0 1) (rcC t) d0 av x (g t av x)) (v1 : Int32) (x : jm_X) : jm_V (jm_PP l D clC ad aC shC b0 1) mt_S_next (d0 + 7) 110 [(0, .ref 4), (1, .int v1)] [] x (J_S_next_110 K g v1 x) := by
  have hT := tk_S (l := l) (D := D) (ad := ad) (aC := aC) (b0 := b0)
  unfold J_S_next_110
  refine jm_V.run (is := bk_S_next_110_5) (pc' := 117) (ls' := [(0, .ref 4), (1, .int v1)]) (st' := [.int ((x.1 402) + 1), .ref 4]) (x' := x) hok hT bk_S_next_110_5_ok rfl ?_
  refine jm_V.callI (av := [.ref 4, .int ((x.1 402) + 1)]) (rest := []) hok (jm_Con.mono (c_S_byteAt hok hrec ((x.1 402) + 1) x) (by omega)) (jm_Inv.obj (q := ("FilterReader$Signs", T_S, 5)) dd_S_next_117 (Or.inl lk_S_56) mn_S_byteAt ms_S_byteAt mw_S_byteAt mh_S_byteAt ml_S_byteAt rfl rfl) mw_S_byteAt mi_S (Nat.le_of_ble_eq_true rfl) (Nat.le_of_ble_eq_true rfl) (fun b20 x19 => ?_)
  refine jm_V.callI (av := [.int b20]) (rest := []) hok (jm_Con.mono (c_B_startsName hok hrec b20 x19) (by omega)) (jm_Inv.stat dd_S_next_120 (Or.inl lk_S_68) mq_B_startsName mi_B mw_B_startsName mh_B_startsName ml_B_startsName) mw_B_startsName mi_B (Nat.le_of_ble_eq_true rfl) (Nat.le_of_ble_eq_true rfl) (fun b22 x21 => ?_)
  refine jm_V.run (is := bk_S_next_123_1) (pc' := (if b22 = 0 then 162 else 126)) (ls' := [(0, .ref 4), (1, .int v1)]) (st' := []) (x' := x21) hok hT bk_S_next_123_1_ok rfl ?_
  refine jm_V.ite (fun _ => ?_) (fun _ => ?_)
  · refine jm_V.sub (ls' := [(0, .ref 4)]) [0] rfl ?_
    exact jj_S_next_162 hok hrec x21
  · refine jm_V.run (is := bk_S_next_126_6) (pc' := 134) (ls' := [(0, .ref 4), (1, .int v1)]) (st' := [.int ((x21.1 402) + 1), .ref 4, .ref 4]) (x' := x21) hok hT bk_S_next_126_6_ok rfl ?_
    refine jm_V.callI (av := [.ref 4, .int ((x21.1 402) + 1)]) (rest := [.ref 4]) hok (jm_Con.mono (c_S_nameEnd hok hrec ((x21.1 402) + 1) x21) (by omega)) (jm_Inv.obj (q := ("FilterReader$Signs", T_S, 5)) dd_S_next_134 (Or.inl lk_S_71) mn_S_nameEnd ms_S_nameEnd mw_S_nameEnd mh_S_nameEnd ml_S_nameEnd rfl rfl) mw_S_nameEnd mi_S (Nat.le_of_ble_eq_true rfl) (Nat.le_of_ble_eq_true rfl) (fun b24 x23 => ?_)
    refine jm_V.run (is := bk_S_next_137_1) (pc' := 140) (ls' := [(0, .ref 4), (1, .int v1)]) (st' := []) (x' := (va_up x23.1 403 b24, x23.2)) hok hT bk_S_next_137_1_ok rfl ?_
    refine jm_V.then_ (fun x25 => ?_)
    refine jm_V.run (is := bk_S_next_140_4) (pc' := (if v1 = 46 then 147 else 153)) (ls' := [(0, .ref 4), (1, .int v1)]) (st' := [.ref 4]) (x' := x25) hok hT bk_S_next_140_4_ok rfl ?_
    refine jm_V.ite (fun _ => ?_) (fun _ => ?_)
    · refine jm_V.run (is := bk_S_next_147_2) (pc' := 156) (ls' := [(0, .ref 4), (1, .int v1)]) (st' := [.ref 1003, .ref 4]) (x' := x25) hok hT bk_S_next_147_2_ok rfl ?_
      refine jm_V.sub (ls' := []) [] rfl ?_
      exact jj_S_next_156 hok hrec 1003 x25
    · refine jm_V.run (is := bk_S_next_153_1) (pc' := 156) (ls' := [(0, .ref 4), (1, .int v1)]) (st' := [.ref 1004, .ref 4]) (x' := x25) hok hT bk_S_next_153_1_ok rfl ?_
      refine jm_V.sub (ls' := []) [] rfl ?_
      exact jj_S_next_156 hok hrec 1004 x25
def f_S_next (K : Nat) (g : jm_Rec)  (x : jm_X) : Option jm_R := jm_bI (f_S_skipBlanks K g (x.1 403) x) (fun b2 x1 => jm_then (va_up x1.1 402 b2, x1.2) (fun x3 => jm_bI (f_S_byteAt K g (x3.1 402) x3) (fun b5 x4 => (if 0 ≤ b5 then jm_bI (f_B_isDigit K g b5 x4) (fun b7 x6 => (if b7 = 0 then jm_bI (f_B_startsName K g b5 x6) (fun b9 x8 => (if b9 = 0 then (if b5 = 46 then J_S_next_110 K g b5 x8 else (if b5 = 36 then J_S_next_110 K g b5 x8 else J_S_next_162 K g x8)) else jm_bI (f_S_nameEnd K g (x8.1 402) x8) (fun b11 x10 => jm_then (va_up x10.1 403 b11, x10.2) (fun x12 => jm_bA (f_E_ofName K g (x12.2.1 400) (x12.1 402) (x12.1 403) x12) (fun b14 x13 => jm_then (x13.1, va_up x13.2.1 404 b14, x13.2.2) (fun x15 => J_S_next_200 K g x15)))))) else jm_bV (f_S_number K g x6) (fun x16 => J_S_next_200 K g x16))) else jm_then (va_up x4.1 403 (x4.1 402), x4.2) (fun x17 => jm_then (x17.1, va_up x17.2.1 404 1000, x17.2.2) (fun x18 => J_S_next_200 K g x18))))))
set_option maxRecDepth 100000 in
set_option maxHeartbeats 4000000 in
theorem c_S_next {l : Launch} {D : va_G} {ad : Nat → Nat} {aC : Nat → ClassId} {b0 : Nat} {K d0 : Nat} {g : jm_Rec} (hok : jm_Ok (jm_PP l D clC ad aC shC b0 1)) (hrec : ∀ (t : Nat) (av : List Value) (x : jm_X), jm_Con (jm_PP l D clC ad aC shC b0 1) (rcC t) d0 av x (g t av x))  (x : jm_X) : jm_Con (jm_PP l D clC ad aC shC b0 1) mt_S_next (d0 + 7) [.ref 4] x (f_S_next K g  x) := by
  refine jm_Con.of (plainFor_of_name (by decide +kernel)) (Nat.le_of_ble_eq_true rfl) ?_
  have hT := tk_S (l := l) (D := D) (ad := ad) (aC := aC) (b0 := b0)
  unfold f_S_next
  show jm_V _ _ _ 0 [(0, .ref 4)] [] x _
  refine jm_V.run (is := bk_S_next_0_4) (pc' := 6) (ls' := [(0, .ref 4)]) (st' := [.int (x.1 403), .ref 4, .ref 4]) (x' := x) hok hT bk_S_next_0_4_ok rfl ?_
  refine jm_V.callI (av := [.ref 4, .int (x.1 403)]) (rest := [.ref 4]) hok (jm_Con.mono (c_S_skipBlanks hok hrec (x.1 403) x) (by omega)) (jm_Inv.obj (q := ("FilterReader$Signs", T_S, 5)) dd_S_next_6 (Or.inl lk_S_52) mn_S_skipBlanks ms_S_skipBlanks mw_S_skipBlanks mh_S_skipBlanks ml_S_skipBlanks rfl rfl) mw_S_skipBlanks mi_S (Nat.le_of_ble_eq_true rfl) (Nat.le_of_ble_eq_true rfl) (fun b2 x1 => ?_)
  refine jm_V.run (is := bk_S_next_9_1) (pc' := 12) (ls' := [(0, .ref 4)]) (st' := []) (x' := (va_up x1.1 402 b2, x1.2)) hok hT bk_S_next_9_1_ok rfl ?_
  refine jm_V.then_ (fun x3 => ?_)
  refine jm_V.run (is := bk_S_next_12_3) (pc' := 17) (ls' := [(0, .ref 4)]) (st' := [.int (x3.1 402), .ref 4]) (x' := x3) hok hT bk_S_next_12_3_ok rfl ?_
  refine jm_V.callI (av := [.ref 4, .int (x3.1 402)]) (rest := []) hok (jm_Con.mono (c_S_byteAt hok hrec (x3.1 402) x3) (by omega)) (jm_Inv.obj (q := ("FilterReader$Signs", T_S, 5)) dd_S_next_17 (Or.inl lk_S_56) mn_S_byteAt ms_S_byteAt mw_S_byteAt mh_S_byteAt ml_S_byteAt rfl rfl) mw_S_byteAt mi_S (Nat.le_of_ble_eq_true rfl) (Nat.le_of_ble_eq_true rfl) (fun b5 x4 => ?_)
  refine jm_V.run (is := bk_S_next_20_3) (pc' := (if 0 ≤ b5 then 43 else 25)) (ls' := [(1, .int b5), (0, .ref 4)]) (st' := []) (x' := x4) hok hT bk_S_next_20_3_ok rfl ?_
  refine jm_V.ite (fun _ => ?_) (fun _ => ?_)
  · refine jm_V.run (is := bk_S_next_43_1) (pc' := 44) (ls' := [(1, .int b5), (0, .ref 4)]) (st' := [.int b5]) (x' := x4) hok hT bk_S_next_43_1_ok rfl ?_
    refine jm_V.callI (av := [.int b5]) (rest := []) hok (jm_Con.mono (c_B_isDigit hok hrec b5 x4) (by omega)) (jm_Inv.stat dd_S_next_44 (Or.inl lk_S_59) mq_B_isDigit mi_B mw_B_isDigit mh_B_isDigit ml_B_isDigit) mw_B_isDigit mi_B (Nat.le_of_ble_eq_true rfl) (Nat.le_of_ble_eq_true rfl) (fun b7 x6 => ?_)
    refine jm_V.run (is := bk_S_next_47_1) (pc' := (if b7 = 0 then 57 else 50)) (ls' := [(1, .int b5), (0, .ref 4)]) (st' := []) (x' := x6) hok hT bk_S_next_47_1_ok rfl ?_
    refine jm_V.ite (fun _ => ?_) (fun _ => ?_)
    · refine jm_V.run (is := bk_S_next_57_1) (pc' := 58) (ls' := [(1, .int b5), (0, .ref 4)]) (st' := [.int b5]) (x' := x6) hok hT bk_S_next_57_1_ok rfl ?_
      refine jm_V.callI (av := [.int b5]) (rest := []) hok (jm_Con.mono (c_B_startsName hok hrec b5 x6) (by omega)) (jm_Inv.stat dd_S_next_58 (Or.inl lk_S_68) mq_B_startsName mi_B mw_B_startsName mh_B_startsName ml_B_startsName) mw_B_startsName mi_B (Nat.le_of_ble_eq_true rfl) (Nat.le_of_ble_eq_true rfl) (fun b9 x8 => ?_)
      refine jm_V.run (is := bk_S_next_61_1) (pc' := (if b9 = 0 then 98 else 64)) (ls' := [(1, .int b5), (0, .ref 4)]) (st' := []) (x' := x8) hok hT bk_S_next_61_1_ok rfl ?_
      refine jm_V.ite (fun _ => ?_) (fun _ => ?_)
      · refine jm_V.run (is := bk_S_next_98_3) (pc' := (if b5 = 46 then 110 else 104)) (ls' := [(1, .int b5), (0, .ref 4)]) (st' := []) (x' := x8) hok hT bk_S_next_98_3_ok rfl ?_
        refine jm_V.ite (fun _ => ?_) (fun _ => ?_)
        · refine jm_V.sub (ls' := [(0, .ref 4), (1, .int b5)]) [1, 0] rfl ?_
          exact jj_S_next_110 hok hrec b5 x8
        · refine jm_V.run (is := bk_S_next_104_3) (pc' := (if b5 = 36 then 110 else 162)) (ls' := [(1, .int b5), (0, .ref 4)]) (st' := []) (x' := x8) hok hT bk_S_next_104_3_ok rfl ?_
          refine jm_V.ite (fun _ => ?_) (fun _ => ?_)
          · refine jm_V.sub (ls' := [(0, .ref 4), (1, .int b5)]) [1, 0] rfl ?_
            exact jj_S_next_110 hok hrec b5 x8
          · refine jm_V.sub (ls' := [(0, .ref 4)]) [1] rfl ?_
            exact jj_S_next_162 hok hrec x8
      · refine jm_V.run (is := bk_S_next_64_4) (pc' := 70) (ls' := [(1, .int b5), (0, .ref 4)]) (st' := [.int (x8.1 402), .ref 4, .ref 4]) (x' := x8) hok hT bk_S_next_64_4_ok rfl ?_
        refine jm_V.callI (av := [.ref 4, .int (x8.1 402)]) (rest := [.ref 4]) hok (jm_Con.mono (c_S_nameEnd hok hrec (x8.1 402) x8) (by omega)) (jm_Inv.obj (q := ("FilterReader$Signs", T_S, 5)) dd_S_next_70 (Or.inl lk_S_71) mn_S_nameEnd ms_S_nameEnd mw_S_nameEnd mh_S_nameEnd ml_S_nameEnd rfl rfl) mw_S_nameEnd mi_S (Nat.le_of_ble_eq_true rfl) (Nat.le_of_ble_eq_true rfl) (fun b11 x10 => ?_)
        refine jm_V.run (is := bk_S_next_73_1) (pc' := 76) (ls' := [(1, .int b5), (0, .ref 4)]) (st' := []) (x' := (va_up x10.1 403 b11, x10.2)) hok hT bk_S_next_73_1_ok rfl ?_
        refine jm_V.then_ (fun x12 => ?_)
        refine jm_V.run (is := bk_S_next_76_7) (pc' := 89) (ls' := [(1, .int b5), (0, .ref 4)]) (st' := [.int (x12.1 403), .int (x12.1 402), .ref (x12.2.1 400), .ref 4]) (x' := x12) hok hT bk_S_next_76_7_ok rfl ?_
        refine jm_V.callA (av := [.ref (x12.2.1 400), .int (x12.1 402), .int (x12.1 403)]) (rest := [.ref 4]) hok (jm_Con.mono (c_E_ofName hok hrec (x12.2.1 400) (x12.1 402) (x12.1 403) x12) (by omega)) (jm_Inv.stat dd_S_next_89 (Or.inl lk_S_74) mq_E_ofName mi_E mw_E_ofName mh_E_ofName ml_E_ofName) mw_E_ofName mi_E (Nat.le_of_ble_eq_true rfl) (Nat.le_of_ble_eq_true rfl) (fun b14 x13 => ?_)
        refine jm_V.run (is := bk_S_next_92_1) (pc' := 95) (ls' := [(1, .int b5), (0, .ref 4)]) (st' := []) (x' := (x13.1, va_up x13.2.1 404 b14, x13.2.2)) hok hT bk_S_next_92_1_ok rfl ?_
        refine jm_V.then_ (fun x15 => ?_)
        refine jm_V.run (is := bk_S_next_95_1) (pc' := 200) (ls' := [(1, .int b5), (0, .ref 4)]) (st' := []) (x' := x15) hok hT bk_S_next_95_1_ok rfl ?_
        refine jm_V.sub (ls' := []) [] rfl ?_
        exact jj_S_next_200 hok hrec x15
    · refine jm_V.run (is := bk_S_next_50_1) (pc' := 51) (ls' := [(1, .int b5), (0, .ref 4)]) (st' := [.ref 4]) (x' := x6) hok hT bk_S_next_50_1_ok rfl ?_
      refine jm_V.callV (av := [.ref 4]) (rest := []) hok (jm_Con.mono (c_S_number hok hrec x6) (by omega)) (jm_Inv.obj (q := ("FilterReader$Signs", T_S, 5)) dd_S_next_51 (Or.inl lk_S_65) mn_S_number ms_S_number mw_S_number mh_S_number ml_S_number rfl rfl) mw_S_number mi_S (Nat.le_of_ble_eq_true rfl) (Nat.le_of_ble_eq_true rfl) (fun x16 => ?_)
      refine jm_V.run (is := bk_S_next_54_1) (pc' := 200) (ls' := [(1, .int b5), (0, .ref 4)]) (st' := []) (x' := x16) hok hT bk_S_next_54_1_ok rfl ?_
      refine jm_V.sub (ls' := []) [] rfl ?_
      exact jj_S_next_200 hok hrec x16
  · refine jm_V.run (is := bk_S_next_25_4) (pc' := 33) (ls' := [(1, .int b5), (0, .ref 4)]) (st' := []) (x' := (va_up x4.1 403 (x4.1 402), x4.2)) hok hT bk_S_next_25_4_ok rfl ?_
    refine jm_V.then_ (fun x17 => ?_)
    refine jm_V.run (is := bk_S_next_33_3) (pc' := 40) (ls' := [(1, .int b5), (0, .ref 4)]) (st' := []) (x' := (x17.1, va_up x17.2.1 404 1000, x17.2.2)) hok hT bk_S_next_33_3_ok rfl ?_
    refine jm_V.then_ (fun x18 => ?_)
    refine jm_V.run (is := bk_S_next_40_1) (pc' := 200) (ls' := [(1, .int b5), (0, .ref 4)]) (st' := []) (x' := x18) hok hT bk_S_next_40_1_ok rfl ?_
    refine jm_V.sub (ls' := []) [] rfl ?_
    exact jj_S_next_200 hok hrec x18
abbrev bk_S_goTo_0_3 : List (Nat × Instr × Nat) := [(0, .aload_n 0, 1), (1, .iload_n 1, 1), (2, .putfield 40, 3)]
theorem bk_S_goTo_0_3_ok : jm_at mt_S_goTo.2.1 bk_S_goTo_0_3 = true := by decide +kernel
abbrev bk_S_goTo_5_1 : List (Nat × Instr × Nat) := [(5, .aload_n 0, 1)]
theorem bk_S_goTo_5_1_ok : jm_at mt_S_goTo.2.1 bk_S_goTo_5_1 = true := by decide +kernel
theorem dd_S_goTo_6 : decode mt_S_goTo.2.1 6 = .ok (.invokevirtual 49, 3) := by decide +kernel
theorem dd_S_goTo_9 : decode mt_S_goTo.2.1 9 = .ok (.return_, 1) := by decide +kernel
def f_S_goTo (K : Nat) (g : jm_Rec) (a1 : Int32) (x : jm_X) : Option jm_R := jm_then (va_up x.1 403 a1, x.2) (fun x1 => jm_bV (f_S_next K g x1) (fun x2 => some (.inl (none, x2))))
set_option maxRecDepth 100000 in
set_option maxHeartbeats 4000000 in
theorem c_S_goTo {l : Launch} {D : va_G} {ad : Nat → Nat} {aC : Nat → ClassId} {b0 : Nat} {K d0 : Nat} {g : jm_Rec} (hok : jm_Ok (jm_PP l D clC ad aC shC b0 1)) (hrec : ∀ (t : Nat) (av : List Value) (x : jm_X), jm_Con (jm_PP l D clC ad aC shC b0 1) (rcC t) d0 av x (g t av x)) (a1 : Int32) (x : jm_X) : jm_Con (jm_PP l D clC ad aC shC b0 1) mt_S_goTo (d0 + 8) [.ref 4, .int a1] x (f_S_goTo K g a1 x) := by
  refine jm_Con.of (plainFor_of_name (by decide +kernel)) (Nat.le_of_ble_eq_true rfl) ?_
  have hT := tk_S (l := l) (D := D) (ad := ad) (aC := aC) (b0 := b0)
  unfold f_S_goTo
  show jm_V _ _ _ 0 [(0, .ref 4), (1, .int a1)] [] x _
  refine jm_V.run (is := bk_S_goTo_0_3) (pc' := 5) (ls' := [(0, .ref 4), (1, .int a1)]) (st' := []) (x' := (va_up x.1 403 a1, x.2)) hok hT bk_S_goTo_0_3_ok rfl ?_
  refine jm_V.then_ (fun x1 => ?_)
  refine jm_V.run (is := bk_S_goTo_5_1) (pc' := 6) (ls' := [(0, .ref 4), (1, .int a1)]) (st' := [.ref 4]) (x' := x1) hok hT bk_S_goTo_5_1_ok rfl ?_
  refine jm_V.callV (av := [.ref 4]) (rest := []) hok (jm_Con.mono (c_S_next hok hrec x1) (by omega)) (jm_Inv.obj (q := ("FilterReader$Signs", T_S, 5)) dd_S_goTo_6 (Or.inl lk_S_49) mn_S_next ms_S_next mw_S_next mh_S_next ml_S_next rfl rfl) mw_S_next mi_S (Nat.le_of_ble_eq_true rfl) (Nat.le_of_ble_eq_true rfl) (fun x2 => ?_)
  exact jm_V.vret rfl dd_S_goTo_9
abbrev bk_S_begin_0_3 : List (Nat × Instr × Nat) := [(0, .aload_n 0, 1), (1, .aload_n 1, 1), (2, .putfield 7, 3)]
theorem bk_S_begin_0_3_ok : jm_at mt_S_begin.2.1 bk_S_begin_0_3 = true := by decide +kernel
abbrev bk_S_begin_5_3 : List (Nat × Instr × Nat) := [(5, .aload_n 0, 1), (6, .iload_n 2, 1), (7, .putfield 22, 3)]
theorem bk_S_begin_5_3_ok : jm_at mt_S_begin.2.1 bk_S_begin_5_3 = true := by decide +kernel
abbrev bk_S_begin_10_2 : List (Nat × Instr × Nat) := [(10, .aload_n 0, 1), (11, .iconst 0, 1)]
theorem bk_S_begin_10_2_ok : jm_at mt_S_begin.2.1 bk_S_begin_10_2 = true := by decide +kernel
theorem dd_S_begin_12 : decode mt_S_begin.2.1 12 = .ok (.invokevirtual 26, 3) := by decide +kernel
theorem dd_S_begin_15 : decode mt_S_begin.2.1 15 = .ok (.return_, 1) := by decide +kernel
def f_S_begin (K : Nat) (g : jm_Rec) (a1 : Nat) (a2 : Int32) (x : jm_X) : Option jm_R := jm_then (x.1, va_up x.2.1 400 a1, x.2.2) (fun x1 => jm_then (va_up x1.1 401 a2, x1.2) (fun x2 => jm_bV (f_S_goTo K g 0 x2) (fun x3 => some (.inl (none, x3)))))
set_option maxRecDepth 100000 in
set_option maxHeartbeats 4000000 in
theorem c_S_begin {l : Launch} {D : va_G} {ad : Nat → Nat} {aC : Nat → ClassId} {b0 : Nat} {K d0 : Nat} {g : jm_Rec} (hok : jm_Ok (jm_PP l D clC ad aC shC b0 1)) (hrec : ∀ (t : Nat) (av : List Value) (x : jm_X), jm_Con (jm_PP l D clC ad aC shC b0 1) (rcC t) d0 av x (g t av x)) (a1 : Nat) (a2 : Int32) (x : jm_X) : jm_Con (jm_PP l D clC ad aC shC b0 1) mt_S_begin (d0 + 9) [.ref 4, .ref a1, .int a2] x (f_S_begin K g a1 a2 x) := by
  refine jm_Con.of (plainFor_of_name (by decide +kernel)) (Nat.le_of_ble_eq_true rfl) ?_
  have hT := tk_S (l := l) (D := D) (ad := ad) (aC := aC) (b0 := b0)
  unfold f_S_begin
  show jm_V _ _ _ 0 [(0, .ref 4), (1, .ref a1), (2, .int a2)] [] x _
  refine jm_V.run (is := bk_S_begin_0_3) (pc' := 5) (ls' := [(0, .ref 4), (1, .ref a1), (2, .int a2)]) (st' := []) (x' := (x.1, va_up x.2.1 400 a1, x.2.2)) hok hT bk_S_begin_0_3_ok rfl ?_
  refine jm_V.then_ (fun x1 => ?_)
  refine jm_V.run (is := bk_S_begin_5_3) (pc' := 10) (ls' := [(0, .ref 4), (1, .ref a1), (2, .int a2)]) (st' := []) (x' := (va_up x1.1 401 a2, x1.2)) hok hT bk_S_begin_5_3_ok rfl ?_
  refine jm_V.then_ (fun x2 => ?_)
  refine jm_V.run (is := bk_S_begin_10_2) (pc' := 12) (ls' := [(0, .ref 4), (1, .ref a1), (2, .int a2)]) (st' := [.int 0, .ref 4]) (x' := x2) hok hT bk_S_begin_10_2_ok rfl ?_
  refine jm_V.callV (av := [.ref 4, .int 0]) (rest := []) hok (jm_Con.mono (c_S_goTo hok hrec 0 x2) (by omega)) (jm_Inv.obj (q := ("FilterReader$Signs", T_S, 5)) dd_S_begin_12 (Or.inl lk_S_26) mn_S_goTo ms_S_goTo mw_S_goTo mh_S_goTo ml_S_goTo rfl rfl) mw_S_goTo mi_S (Nat.le_of_ble_eq_true rfl) (Nat.le_of_ble_eq_true rfl) (fun x3 => ?_)
  exact jm_V.vret rfl dd_S_begin_15
abbrev bk_S_sign_0_2 : List (Nat × Instr × Nat) := [(0, .aload_n 0, 1), (1, .getfield 19, 3)]
theorem bk_S_sign_0_2_ok : jm_at mt_S_sign.2.1 bk_S_sign_0_2 = true := by decide +kernel
theorem dd_S_sign_4 : decode mt_S_sign.2.1 4 = .ok (.areturn, 1) := by decide +kernel
def f_S_sign (K : Nat) (g : jm_Rec)  (x : jm_X) : Option jm_R := some (.inl (some (.ref (x.2.1 404)), x))
set_option maxRecDepth 100000 in
set_option maxHeartbeats 4000000 in
theorem c_S_sign {l : Launch} {D : va_G} {ad : Nat → Nat} {aC : Nat → ClassId} {b0 : Nat} {K d0 : Nat} {g : jm_Rec} (hok : jm_Ok (jm_PP l D clC ad aC shC b0 1)) (hrec : ∀ (t : Nat) (av : List Value) (x : jm_X), jm_Con (jm_PP l D clC ad aC shC b0 1) (rcC t) d0 av x (g t av x))  (x : jm_X) : jm_Con (jm_PP l D clC ad aC shC b0 1) mt_S_sign (d0 + 1) [.ref 4] x (f_S_sign K g  x) := by
  refine jm_Con.of (plainFor_of_name (by decide +kernel)) (Nat.le_of_ble_eq_true rfl) ?_
  have hT := tk_S (l := l) (D := D) (ad := ad) (aC := aC) (b0 := b0)
  unfold f_S_sign
  show jm_V _ _ _ 0 [(0, .ref 4)] [] x _
  refine jm_V.run (is := bk_S_sign_0_2) (pc' := 4) (ls' := [(0, .ref 4)]) (st' := [.ref (x.2.1 404)]) (x' := x) hok hT bk_S_sign_0_2_ok rfl ?_
  exact jm_V.aret rfl (Or.inl ⟨_, rfl⟩) dd_S_sign_4
abbrev bk_S_is_0_3 : List (Nat × Instr × Nat) := [(0, .aload_n 0, 1), (1, .getfield 19, 3), (4, .aload_n 1, 1)]
theorem bk_S_is_0_3_ok : jm_at mt_S_is.2.1 bk_S_is_0_3 = true := by decide +kernel
abbrev bk_S_is_8_2 : List (Nat × Instr × Nat) := [(8, .iconst 1, 1), (9, .goto 4, 3)]
theorem bk_S_is_8_2_ok : jm_at mt_S_is.2.1 bk_S_is_8_2 = true := by decide +kernel
abbrev bk_S_is_12_1 : List (Nat × Instr × Nat) := [(12, .iconst 0, 1)]
theorem bk_S_is_12_1_ok : jm_at mt_S_is.2.1 bk_S_is_12_1 = true := by decide +kernel
theorem dd_S_is_5 : decode mt_S_is.2.1 5 = .ok (.if_acmp .ne 7, 3) := by decide +kernel
theorem dd_S_is_13 : decode mt_S_is.2.1 13 = .ok (.ireturn, 1) := by decide +kernel
def J_S_is_13 (K : Nat) (g : jm_Rec) (s0 : Int32) (x : jm_X) : Option jm_R := some (.inl (some (.int (vp_nar .boolean s0)), x))
set_option maxRecDepth 100000 in
set_option maxHeartbeats 4000000 in
theorem jj_S_is_13 {l : Launch} {D : va_G} {ad : Nat → Nat} {aC : Nat → ClassId} {b0 : Nat} {K d0 : Nat} {g : jm_Rec} (hok : jm_Ok (jm_PP l D clC ad aC shC b0 1)) (hrec : ∀ (t : Nat) (av : List Value) (x : jm_X), jm_Con (jm_PP l D clC ad aC shC b0 1) (rcC t) d0 av x (g t av x)) (s0 : Int32) (x : jm_X) : jm_V (jm_PP l D clC ad aC shC b0 1) mt_S_is (d0 + 1) 13 [] [.int s0] x (J_S_is_13 K g s0 x) := by
  have hT := tk_S (l := l) (D := D) (ad := ad) (aC := aC) (b0 := b0)
  unfold J_S_is_13
  exact jm_V.nret (t := .boolean) rfl rfl dd_S_is_13
def f_S_is (K : Nat) (g : jm_Rec) (a1 : Nat) (x : jm_X) : Option jm_R := (if jm_cn 1000 55 (x.2.1 404) then (if jm_cn 1000 55 a1 then (if (x.2.1 404) = a1 then J_S_is_13 K g 1 x else J_S_is_13 K g 0 x) else none) else none)
set_option maxRecDepth 100000 in
set_option maxHeartbeats 4000000 in
theorem c_S_is {l : Launch} {D : va_G} {ad : Nat → Nat} {aC : Nat → ClassId} {b0 : Nat} {K d0 : Nat} {g : jm_Rec} (hok : jm_Ok (jm_PP l D clC ad aC shC b0 1)) (hrec : ∀ (t : Nat) (av : List Value) (x : jm_X), jm_Con (jm_PP l D clC ad aC shC b0 1) (rcC t) d0 av x (g t av x)) (a1 : Nat) (x : jm_X) : jm_Con (jm_PP l D clC ad aC shC b0 1) mt_S_is (d0 + 1) [.ref 4, .ref a1] x (f_S_is K g a1 x) := by
  refine jm_Con.of (plainFor_of_name (by decide +kernel)) (Nat.le_of_ble_eq_true rfl) ?_
  have hT := tk_S (l := l) (D := D) (ad := ad) (aC := aC) (b0 := b0)
  unfold f_S_is
  show jm_V _ _ _ 0 [(0, .ref 4), (1, .ref a1)] [] x _
  refine jm_V.run (is := bk_S_is_0_3) (pc' := 5) (ls' := [(0, .ref 4), (1, .ref a1)]) (st' := [.ref a1, .ref (x.2.1 404)]) (x' := x) hok hT bk_S_is_0_3_ok rfl ?_
  refine jm_V.acne hok rfl dd_S_is_5 (fun _ => ?_) (fun _ => ?_)
  · refine jm_V.run (is := bk_S_is_8_2) (pc' := 13) (ls' := [(0, .ref 4), (1, .ref a1)]) (st' := [.int 1]) (x' := x) hok hT bk_S_is_8_2_ok rfl ?_
    refine jm_V.sub (ls' := []) [] rfl ?_
    exact jj_S_is_13 hok hrec 1 x
  · refine jm_V.run (is := bk_S_is_12_1) (pc' := 13) (ls' := [(0, .ref 4), (1, .ref a1)]) (st' := [.int 0]) (x' := x) hok hT bk_S_is_12_1_ok rfl ?_
    refine jm_V.sub (ls' := []) [] rfl ?_
    exact jj_S_is_13 hok hrec 0 x
abbrev bk_S_isNameOrWord_0_3 : List (Nat × Instr × Nat) := [(0, .aload_n 0, 1), (1, .getfield 19, 3), (4, .getstatic 30, 3)]
theorem bk_S_isNameOrWord_0_3_ok : jm_at mt_S_isNameOrWord.2.1 bk_S_isNameOrWord_0_3 = true := by decide +kernel
abbrev bk_S_isNameOrWord_10_2 : List (Nat × Instr × Nat) := [(10, .aload_n 0, 1), (11, .getfield 19, 3)]
theorem bk_S_isNameOrWord_10_2_ok : jm_at mt_S_isNameOrWord.2.1 bk_S_isNameOrWord_10_2 = true := by decide +kernel
abbrev bk_S_isNameOrWord_17_1 : List (Nat × Instr × Nat) := [(17, .ifCond .eq 7, 3)]
theorem bk_S_isNameOrWord_17_1_ok : jm_at mt_S_isNameOrWord.2.1 bk_S_isNameOrWord_17_1 = true := by decide +kernel
abbrev bk_S_isNameOrWord_24_1 : List (Nat × Instr × Nat) := [(24, .iconst 0, 1)]
theorem bk_S_isNameOrWord_24_1_ok : jm_at mt_S_isNameOrWord.2.1 bk_S_isNameOrWord_24_1 = true := by decide +kernel
abbrev bk_S_isNameOrWord_20_2 : List (Nat × Instr × Nat) := [(20, .iconst 1, 1), (21, .goto 4, 3)]
theorem bk_S_isNameOrWord_20_2_ok : jm_at mt_S_isNameOrWord.2.1 bk_S_isNameOrWord_20_2 = true := by decide +kernel
theorem dd_S_isNameOrWord_14 : decode mt_S_isNameOrWord.2.1 14 = .ok (.getfield 33, 3) := by decide +kernel
theorem dd_S_isNameOrWord_7 : decode mt_S_isNameOrWord.2.1 7 = .ok (.if_acmp .eq 13, 3) := by decide +kernel
theorem dd_S_isNameOrWord_25 : decode mt_S_isNameOrWord.2.1 25 = .ok (.ireturn, 1) := by decide +kernel
def J_S_isNameOrWord_25 (K : Nat) (g : jm_Rec) (s0 : Int32) (x : jm_X) : Option jm_R := some (.inl (some (.int (vp_nar .boolean s0)), x))
set_option maxRecDepth 100000 in
set_option maxHeartbeats 4000000 in
theorem jj_S_isNameOrWord_25 {l : Launch} {D : va_G} {ad : Nat → Nat} {aC : Nat → ClassId} {b0 : Nat} {K d0 : Nat} {g : jm_Rec} (hok : jm_Ok (jm_PP l D clC ad aC shC b0 1)) (hrec : ∀ (t : Nat) (av : List Value) (x : jm_X), jm_Con (jm_PP l D clC ad aC shC b0 1) (rcC t) d0 av x (g t av x)) (s0 : Int32) (x : jm_X) : jm_V (jm_PP l D clC ad aC shC b0 1) mt_S_isNameOrWord (d0 + 1) 25 [] [.int s0] x (J_S_isNameOrWord_25 K g s0 x) := by
  have hT := tk_S (l := l) (D := D) (ad := ad) (aC := aC) (b0 := b0)
  unfold J_S_isNameOrWord_25
  exact jm_V.nret (t := .boolean) rfl rfl dd_S_isNameOrWord_25
def J_S_isNameOrWord_20 (K : Nat) (g : jm_Rec)  (x : jm_X) : Option jm_R := J_S_isNameOrWord_25 K g 1 x
set_option maxRecDepth 100000 in
set_option maxHeartbeats 4000000 in
theorem jj_S_isNameOrWord_20 {l : Launch} {D : va_G} {ad : Nat → Nat} {aC : Nat → ClassId} {b0 : Nat} {K d0 : Nat} {g : jm_Rec} (hok : jm_Ok (jm_PP l D clC ad aC shC b0 1)) (hrec : ∀ (t : Nat) (av : List Value) (x : jm_X), jm_Con (jm_PP l D clC ad aC shC b0 1) (rcC t) d0 av x (g t av x))  (x : jm_X) : jm_V (jm_PP l D clC ad aC shC b0 1) mt_S_isNameOrWord (d0 + 1) 20 [] [] x (J_S_isNameOrWord_20 K g  x) := by
  have hT := tk_S (l := l) (D := D) (ad := ad) (aC := aC) (b0 := b0)
  unfold J_S_isNameOrWord_20
  refine jm_V.run (is := bk_S_isNameOrWord_20_2) (pc' := 25) (ls' := []) (st' := [.int 1]) (x' := x) hok hT bk_S_isNameOrWord_20_2_ok rfl ?_
  exact jj_S_isNameOrWord_25 hok hrec 1 x
def f_S_isNameOrWord (K : Nat) (g : jm_Rec)  (x : jm_X) : Option jm_R := (if jm_cn 1000 55 (x.2.1 404) then (if jm_cn 1000 55 1002 then (if (x.2.1 404) = 1002 then J_S_isNameOrWord_20 K g x else (if jm_cn 1000 55 (x.2.1 404) then (if (sg_word.getD ((x.2.1 404) - 1000) 0) = 0 then J_S_isNameOrWord_25 K g 0 x else J_S_isNameOrWord_20 K g x) else none)) else none) else none)
set_option maxRecDepth 100000 in
set_option maxHeartbeats 4000000 in
theorem c_S_isNameOrWord {l : Launch} {D : va_G} {ad : Nat → Nat} {aC : Nat → ClassId} {b0 : Nat} {K d0 : Nat} {g : jm_Rec} (hok : jm_Ok (jm_PP l D clC ad aC shC b0 1)) (hrec : ∀ (t : Nat) (av : List Value) (x : jm_X), jm_Con (jm_PP l D clC ad aC shC b0 1) (rcC t) d0 av x (g t av x))  (x : jm_X) : jm_Con (jm_PP l D clC ad aC shC b0 1) mt_S_isNameOrWord (d0 + 1) [.ref 4] x (f_S_isNameOrWord K g  x) := by
  refine jm_Con.of (plainFor_of_name (by decide +kernel)) (Nat.le_of_ble_eq_true rfl) ?_
  have hT := tk_S (l := l) (D := D) (ad := ad) (aC := aC) (b0 := b0)
  unfold f_S_isNameOrWord
  show jm_V _ _ _ 0 [(0, .ref 4)] [] x _
  refine jm_V.run (is := bk_S_isNameOrWord_0_3) (pc' := 7) (ls' := [(0, .ref 4)]) (st' := [.ref 1002, .ref (x.2.1 404)]) (x' := x) hok hT bk_S_isNameOrWord_0_3_ok rfl ?_
  refine jm_V.aceq hok rfl dd_S_isNameOrWord_7 (fun _ => ?_) (fun _ => ?_)
  · refine jm_V.sub (ls' := []) [] rfl ?_
    exact jj_S_isNameOrWord_20 hok hrec x
  · refine jm_V.run (is := bk_S_isNameOrWord_10_2) (pc' := 14) (ls' := [(0, .ref 4)]) (st' := [.ref (x.2.1 404)]) (x' := x) hok hT bk_S_isNameOrWord_10_2_ok rfl ?_
    refine jm_V.getC (v := fun i => .int (sg_word.getD i 0)) hok cs_word (Or.inr ⟨_, ln_S_33⟩) dd_S_isNameOrWord_14 ?_
    refine jm_V.run (is := bk_S_isNameOrWord_17_1) (pc' := (if (sg_word.getD ((x.2.1 404) - 1000) 0) = 0 then 24 else 20)) (ls' := [(0, .ref 4)]) (st' := []) (x' := x) hok hT bk_S_isNameOrWord_17_1_ok rfl ?_
    refine jm_V.ite (fun _ => ?_) (fun _ => ?_)
    · refine jm_V.run (is := bk_S_isNameOrWord_24_1) (pc' := 25) (ls' := [(0, .ref 4)]) (st' := [.int 0]) (x' := x) hok hT bk_S_isNameOrWord_24_1_ok rfl ?_
      refine jm_V.sub (ls' := []) [] rfl ?_
      exact jj_S_isNameOrWord_25 hok hrec 0 x
    · refine jm_V.sub (ls' := []) [] rfl ?_
      exact jj_S_isNameOrWord_20 hok hrec x
abbrev bk_S_start_0_2 : List (Nat × Instr × Nat) := [(0, .aload_n 0, 1), (1, .getfield 37, 3)]
theorem bk_S_start_0_2_ok : jm_at mt_S_start.2.1 bk_S_start_0_2 = true := by decide +kernel
theorem dd_S_start_4 : decode mt_S_start.2.1 4 = .ok (.ireturn, 1) := by decide +kernel
def f_S_start (K : Nat) (g : jm_Rec)  (x : jm_X) : Option jm_R := some (.inl (some (.int (x.1 402)), x))
set_option maxRecDepth 100000 in
set_option maxHeartbeats 4000000 in
theorem c_S_start {l : Launch} {D : va_G} {ad : Nat → Nat} {aC : Nat → ClassId} {b0 : Nat} {K d0 : Nat} {g : jm_Rec} (hok : jm_Ok (jm_PP l D clC ad aC shC b0 1)) (hrec : ∀ (t : Nat) (av : List Value) (x : jm_X), jm_Con (jm_PP l D clC ad aC shC b0 1) (rcC t) d0 av x (g t av x))  (x : jm_X) : jm_Con (jm_PP l D clC ad aC shC b0 1) mt_S_start (d0 + 1) [.ref 4] x (f_S_start K g  x) := by
  refine jm_Con.of (plainFor_of_name (by decide +kernel)) (Nat.le_of_ble_eq_true rfl) ?_
  have hT := tk_S (l := l) (D := D) (ad := ad) (aC := aC) (b0 := b0)
  unfold f_S_start
  show jm_V _ _ _ 0 [(0, .ref 4)] [] x _
  refine jm_V.run (is := bk_S_start_0_2) (pc' := 4) (ls' := [(0, .ref 4)]) (st' := [.int (x.1 402)]) (x' := x) hok hT bk_S_start_0_2_ok rfl ?_
  exact jm_V.iret rfl dd_S_start_4
abbrev bk_S_behind_0_2 : List (Nat × Instr × Nat) := [(0, .aload_n 0, 1), (1, .getfield 40, 3)]
theorem bk_S_behind_0_2_ok : jm_at mt_S_behind.2.1 bk_S_behind_0_2 = true := by decide +kernel
theorem dd_S_behind_4 : decode mt_S_behind.2.1 4 = .ok (.ireturn, 1) := by decide +kernel
def f_S_behind (K : Nat) (g : jm_Rec)  (x : jm_X) : Option jm_R := some (.inl (some (.int (x.1 403)), x))
set_option maxRecDepth 100000 in
set_option maxHeartbeats 4000000 in
theorem c_S_behind {l : Launch} {D : va_G} {ad : Nat → Nat} {aC : Nat → ClassId} {b0 : Nat} {K d0 : Nat} {g : jm_Rec} (hok : jm_Ok (jm_PP l D clC ad aC shC b0 1)) (hrec : ∀ (t : Nat) (av : List Value) (x : jm_X), jm_Con (jm_PP l D clC ad aC shC b0 1) (rcC t) d0 av x (g t av x))  (x : jm_X) : jm_Con (jm_PP l D clC ad aC shC b0 1) mt_S_behind (d0 + 1) [.ref 4] x (f_S_behind K g  x) := by
  refine jm_Con.of (plainFor_of_name (by decide +kernel)) (Nat.le_of_ble_eq_true rfl) ?_
  have hT := tk_S (l := l) (D := D) (ad := ad) (aC := aC) (b0 := b0)
  unfold f_S_behind
  show jm_V _ _ _ 0 [(0, .ref 4)] [] x _
  refine jm_V.run (is := bk_S_behind_0_2) (pc' := 4) (ls' := [(0, .ref 4)]) (st' := [.int (x.1 403)]) (x' := x) hok hT bk_S_behind_0_2_ok rfl ?_
  exact jm_V.iret rfl dd_S_behind_4
abbrev bk_S_nameStart_0_3 : List (Nat × Instr × Nat) := [(0, .aload_n 0, 1), (1, .getfield 19, 3), (4, .getstatic 43, 3)]
theorem bk_S_nameStart_0_3_ok : jm_at mt_S_nameStart.2.1 bk_S_nameStart_0_3 = true := by decide +kernel
abbrev bk_S_nameStart_10_3 : List (Nat × Instr × Nat) := [(10, .aload_n 0, 1), (11, .getfield 19, 3), (14, .getstatic 46, 3)]
theorem bk_S_nameStart_10_3_ok : jm_at mt_S_nameStart.2.1 bk_S_nameStart_10_3 = true := by decide +kernel
abbrev bk_S_nameStart_29_2 : List (Nat × Instr × Nat) := [(29, .aload_n 0, 1), (30, .getfield 37, 3)]
theorem bk_S_nameStart_29_2_ok : jm_at mt_S_nameStart.2.1 bk_S_nameStart_29_2 = true := by decide +kernel
abbrev bk_S_nameStart_20_5 : List (Nat × Instr × Nat) := [(20, .aload_n 0, 1), (21, .getfield 37, 3), (24, .iconst 1, 1), (25, .iadd, 1), (26, .goto 7, 3)]
theorem bk_S_nameStart_20_5_ok : jm_at mt_S_nameStart.2.1 bk_S_nameStart_20_5 = true := by decide +kernel
theorem dd_S_nameStart_17 : decode mt_S_nameStart.2.1 17 = .ok (.if_acmp .ne 12, 3) := by decide +kernel
theorem dd_S_nameStart_7 : decode mt_S_nameStart.2.1 7 = .ok (.if_acmp .eq 13, 3) := by decide +kernel
theorem dd_S_nameStart_33 : decode mt_S_nameStart.2.1 33 = .ok (.ireturn, 1) := by decide +kernel
def J_S_nameStart_33 (K : Nat) (g : jm_Rec) (s0 : Int32) (x : jm_X) : Option jm_R := some (.inl (some (.int s0), x))
set_option maxRecDepth 100000 in
set_option maxHeartbeats 4000000 in
theorem jj_S_nameStart_33 {l : Launch} {D : va_G} {ad : Nat → Nat} {aC : Nat → ClassId} {b0 : Nat} {K d0 : Nat} {g : jm_Rec} (hok : jm_Ok (jm_PP l D clC ad aC shC b0 1)) (hrec : ∀ (t : Nat) (av : List Value) (x : jm_X), jm_Con (jm_PP l D clC ad aC shC b0 1) (rcC t) d0 av x (g t av x)) (s0 : Int32) (x : jm_X) : jm_V (jm_PP l D clC ad aC shC b0 1) mt_S_nameStart (d0 + 1) 33 [] [.int s0] x (J_S_nameStart_33 K g s0 x) := by
  have hT := tk_S (l := l) (D := D) (ad := ad) (aC := aC) (b0 := b0)
  unfold J_S_nameStart_33
  exact jm_V.iret rfl dd_S_nameStart_33
def J_S_nameStart_20 (K : Nat) (g : jm_Rec)  (x : jm_X) : Option jm_R := J_S_nameStart_33 K g ((x.1 402) + 1) x
set_option maxRecDepth 100000 in
set_option maxHeartbeats 4000000 in
theorem jj_S_nameStart_20 {l : Launch} {D : va_G} {ad : Nat → Nat} {aC : Nat → ClassId} {b0 : Nat} {K d0 : Nat} {g : jm_Rec} (hok : jm_Ok (jm_PP l D clC ad aC shC b0 1)) (hrec : ∀ (t : Nat) (av : List Value) (x : jm_X), jm_Con (jm_PP l D clC ad aC shC b0 1) (rcC t) d0 av x (g t av x))  (x : jm_X) : jm_V (jm_PP l D clC ad aC shC b0 1) mt_S_nameStart (d0 + 1) 20 [(0, .ref 4)] [] x (J_S_nameStart_20 K g  x) := by
  have hT := tk_S (l := l) (D := D) (ad := ad) (aC := aC) (b0 := b0)
  unfold J_S_nameStart_20
  refine jm_V.run (is := bk_S_nameStart_20_5) (pc' := 33) (ls' := [(0, .ref 4)]) (st' := [.int ((x.1 402) + 1)]) (x' := x) hok hT bk_S_nameStart_20_5_ok rfl ?_
  refine jm_V.sub (ls' := []) [] rfl ?_
  exact jj_S_nameStart_33 hok hrec ((x.1 402) + 1) x
def f_S_nameStart (K : Nat) (g : jm_Rec)  (x : jm_X) : Option jm_R := (if jm_cn 1000 55 (x.2.1 404) then (if jm_cn 1000 55 1004 then (if (x.2.1 404) = 1004 then J_S_nameStart_20 K g x else (if jm_cn 1000 55 (x.2.1 404) then (if jm_cn 1000 55 1003 then (if (x.2.1 404) = 1003 then J_S_nameStart_20 K g x else J_S_nameStart_33 K g (x.1 402) x) else none) else none)) else none) else none)
set_option maxRecDepth 100000 in
set_option maxHeartbeats 4000000 in
theorem c_S_nameStart {l : Launch} {D : va_G} {ad : Nat → Nat} {aC : Nat → ClassId} {b0 : Nat} {K d0 : Nat} {g : jm_Rec} (hok : jm_Ok (jm_PP l D clC ad aC shC b0 1)) (hrec : ∀ (t : Nat) (av : List Value) (x : jm_X), jm_Con (jm_PP l D clC ad aC shC b0 1) (rcC t) d0 av x (g t av x))  (x : jm_X) : jm_Con (jm_PP l D clC ad aC shC b0 1) mt_S_nameStart (d0 + 1) [.ref 4] x (f_S_nameStart K g  x) := by
  refine jm_Con.of (plainFor_of_name (by decide +kernel)) (Nat.le_of_ble_eq_true rfl) ?_
  have hT := tk_S (l := l) (D := D) (ad := ad) (aC := aC) (b0 := b0)
  unfold f_S_nameStart
  show jm_V _ _ _ 0 [(0, .ref 4)] [] x _
  refine jm_V.run (is := bk_S_nameStart_0_3) (pc' := 7) (ls' := [(0, .ref 4)]) (st' := [.ref 1004, .ref (x.2.1 404)]) (x' := x) hok hT bk_S_nameStart_0_3_ok rfl ?_
  refine jm_V.aceq hok rfl dd_S_nameStart_7 (fun _ => ?_) (fun _ => ?_)
  · exact jj_S_nameStart_20 hok hrec x
  · refine jm_V.run (is := bk_S_nameStart_10_3) (pc' := 17) (ls' := [(0, .ref 4)]) (st' := [.ref 1003, .ref (x.2.1 404)]) (x' := x) hok hT bk_S_nameStart_10_3_ok rfl ?_
    refine jm_V.acne hok rfl dd_S_nameStart_17 (fun _ => ?_) (fun _ => ?_)
    · exact jj_S_nameStart_20 hok hrec x
    · refine jm_V.run (is := bk_S_nameStart_29_2) (pc' := 33) (ls' := [(0, .ref 4)]) (st' := [.int (x.1 402)]) (x' := x) hok hT bk_S_nameStart_29_2_ok rfl ?_
      refine jm_V.sub (ls' := []) [] rfl ?_
      exact jj_S_nameStart_33 hok hrec (x.1 402) x
abbrev bk_S_isNarrowCode_0_4 : List (Nat × Instr × Nat) := [(0, .iconst 0, 1), (1, .istore_n 2, 1), (2, .iconst 0, 1), (3, .istore_n 3, 1)]
theorem bk_S_isNarrowCode_0_4_ok : jm_at mt_S_isNarrowCode.2.1 bk_S_isNarrowCode_0_4 = true := by decide +kernel
abbrev bk_S_isNarrowCode_4_3 : List (Nat × Instr × Nat) := [(4, .iload_n 3, 1), (5, .iconst 4, 1), (6, .if_icmp .ge 36, 3)]
theorem bk_S_isNarrowCode_4_3_ok : jm_at mt_S_isNarrowCode.2.1 bk_S_isNarrowCode_4_3 = true := by decide +kernel
abbrev bk_S_isNarrowCode_42_3 : List (Nat × Instr × Nat) := [(42, .iload_n 2, 1), (43, .sipush 128, 3), (46, .if_icmp .ge 7, 3)]
theorem bk_S_isNarrowCode_42_3_ok : jm_at mt_S_isNarrowCode.2.1 bk_S_isNarrowCode_42_3 = true := by decide +kernel
abbrev bk_S_isNarrowCode_53_1 : List (Nat × Instr × Nat) := [(53, .iconst 0, 1)]
theorem bk_S_isNarrowCode_53_1_ok : jm_at mt_S_isNarrowCode.2.1 bk_S_isNarrowCode_53_1 = true := by decide +kernel
abbrev bk_S_isNarrowCode_49_2 : List (Nat × Instr × Nat) := [(49, .iconst 1, 1), (50, .goto 4, 3)]
theorem bk_S_isNarrowCode_49_2_ok : jm_at mt_S_isNarrowCode.2.1 bk_S_isNarrowCode_49_2 = true := by decide +kernel
abbrev bk_S_isNarrowCode_9_4 : List (Nat × Instr × Nat) := [(9, .aload_n 0, 1), (10, .iload_n 1, 1), (11, .iload_n 3, 1), (12, .iadd, 1)]
theorem bk_S_isNarrowCode_9_4_ok : jm_at mt_S_isNarrowCode.2.1 bk_S_isNarrowCode_9_4 = true := by decide +kernel
abbrev bk_S_isNarrowCode_19_3 : List (Nat × Instr × Nat) := [(19, .istore 4, 2), (21, .iload 4, 2), (23, .ifCond .ge 5, 3)]
theorem bk_S_isNarrowCode_19_3_ok : jm_at mt_S_isNarrowCode.2.1 bk_S_isNarrowCode_19_3 = true := by decide +kernel
abbrev bk_S_isNarrowCode_28_8 : List (Nat × Instr × Nat) := [(28, .iload_n 2, 1), (29, .bipush 16, 2), (31, .imul, 1), (32, .iload 4, 2), (34, .iadd, 1), (35, .istore_n 2, 1), (36, .iinc 3 1, 3), (39, .goto (-35), 3)]
theorem bk_S_isNarrowCode_28_8_ok : jm_at mt_S_isNarrowCode.2.1 bk_S_isNarrowCode_28_8 = true := by decide +kernel
abbrev bk_S_isNarrowCode_26_1 : List (Nat × Instr × Nat) := [(26, .iconst 0, 1)]
theorem bk_S_isNarrowCode_26_1_ok : jm_at mt_S_isNarrowCode.2.1 bk_S_isNarrowCode_26_1 = true := by decide +kernel
theorem dd_S_isNarrowCode_13 : decode mt_S_isNarrowCode.2.1 13 = .ok (.invokevirtual 56, 3) := by decide +kernel
theorem dd_S_isNarrowCode_16 : decode mt_S_isNarrowCode.2.1 16 = .ok (.invokestatic 126, 3) := by decide +kernel
theorem dd_S_isNarrowCode_27 : decode mt_S_isNarrowCode.2.1 27 = .ok (.ireturn, 1) := by decide +kernel
theorem dd_S_isNarrowCode_54 : decode mt_S_isNarrowCode.2.1 54 = .ok (.ireturn, 1) := by decide +kernel
def J_S_isNarrowCode_54 (K : Nat) (g : jm_Rec) (s0 : Int32) (x : jm_X) : Option jm_R := some (.inl (some (.int (vp_nar .boolean s0)), x))
set_option maxRecDepth 100000 in
set_option maxHeartbeats 4000000 in
theorem jj_S_isNarrowCode_54 {l : Launch} {D : va_G} {ad : Nat → Nat} {aC : Nat → ClassId} {b0 : Nat} {K d0 : Nat} {g : jm_Rec} (hok : jm_Ok (jm_PP l D clC ad aC shC b0 1)) (hrec : ∀ (t : Nat) (av : List Value) (x : jm_X), jm_Con (jm_PP l D clC ad aC shC b0 1) (rcC t) d0 av x (g t av x)) (s0 : Int32) (x : jm_X) : jm_V (jm_PP l D clC ad aC shC b0 1) mt_S_isNarrowCode (d0 + 3) 54 [] [.int s0] x (J_S_isNarrowCode_54 K g s0 x) := by
  have hT := tk_S (l := l) (D := D) (ad := ad) (aC := aC) (b0 := b0)
  unfold J_S_isNarrowCode_54
  exact jm_V.nret (t := .boolean) rfl rfl dd_S_isNarrowCode_54
def B_S_isNarrowCode_4 (K : Nat) (g : jm_Rec) (self : Int32 → Int32 → Int32 → jm_X → Option jm_R) (v1 : Int32) (v2 : Int32) (v3 : Int32) (x : jm_X) : Option jm_R := (if 4 ≤ v3 then (if 128 ≤ v2 then J_S_isNarrowCode_54 K g 0 x else J_S_isNarrowCode_54 K g 1 x) else jm_bI (f_S_byteAt K g (v1 + v3) x) (fun b2 x1 => jm_bI (f_B_hexDigit K g b2 x1) (fun b4 x3 => (if 0 ≤ b4 then self v1 ((v2 * 16) + b4) (v3 + 1) x3 else some (.inl (some (.int 0), x3))))))
def L_S_isNarrowCode_4 (K : Nat) (g : jm_Rec) : Nat → Int32 → Int32 → Int32 → jm_X → Option jm_R
  | 0, _, _, _, _ => none
  | k + 1, v1, v2, v3, x => B_S_isNarrowCode_4 K g (L_S_isNarrowCode_4 K g k) v1 v2 v3 x
set_option maxRecDepth 100000 in
set_option maxHeartbeats 4000000 in
theorem jb_S_isNarrowCode_4 {l : Launch} {D : va_G} {ad : Nat → Nat} {aC : Nat → ClassId} {b0 : Nat} {K d0 : Nat} {g : jm_Rec} (hok : jm_Ok (jm_PP l D clC ad aC shC b0 1)) (hrec : ∀ (t : Nat) (av : List Value) (x : jm_X), jm_Con (jm_PP l D clC ad aC shC b0 1) (rcC t) d0 av x (g t av x)) {self : Int32 → Int32 → Int32 → jm_X → Option jm_R} (hself : ∀ (v1 : Int32) (v2 : Int32) (v3 : Int32) (x : jm_X), jm_V (jm_PP l D clC ad aC shC b0 1) mt_S_isNarrowCode (d0 + 3) 4 [(0, .ref 4), (1, .int v1), (2, .int v2), (3, .int v3)] [] x (self v1 v2 v3 x)) (v1 : Int32) (v2 : Int32) (v3 : Int32) (x : jm_X) : jm_V (jm_PP l D clC ad aC shC b0 1) mt_S_isNarrowCode (d0 + 3) 4 [(0, .ref 4), (1, .int v1), (2, .int v2), (3, .int v3)] [] x (B_S_isNarrowCode_4 K g self v1 v2 v3 x) := by
  have hT := tk_S (l := l) (D := D) (ad := ad) (aC := aC) (b0 := b0)
  unfold B_S_isNarrowCode_4
  refine jm_V.run (is := bk_S_isNarrowCode_4_3) (pc' := (if 4 ≤ v3 then 42 else 9)) (ls' := [(0, .ref 4), (1, .int v1), (2, .int v2), (3, .int v3)]) (st' := []) (x' := x) hok hT bk_S_isNarrowCode_4_3_ok rfl ?_
  refine jm_V.ite (fun _ => ?_) (fun _ => ?_)
  · refine jm_V.run (is := bk_S_isNarrowCode_42_3) (pc' := (if 128 ≤ v2 then 53 else 49)) (ls' := [(0, .ref 4), (1, .int v1), (2, .int v2), (3, .int v3)]) (st' := []) (x' := x) hok hT bk_S_isNarrowCode_42_3_ok rfl ?_
    refine jm_V.ite (fun _ => ?_) (fun _ => ?_)
    · refine jm_V.run (is := bk_S_isNarrowCode_53_1) (pc' := 54) (ls' := [(0, .ref 4), (1, .int v1), (2, .int v2), (3, .int v3)]) (st' := [.int 0]) (x' := x) hok hT bk_S_isNarrowCode_53_1_ok rfl ?_
      refine jm_V.sub (ls' := []) [] rfl ?_
      exact jj_S_isNarrowCode_54 hok hrec 0 x
    · refine jm_V.run (is := bk_S_isNarrowCode_49_2) (pc' := 54) (ls' := [(0, .ref 4), (1, .int v1), (2, .int v2), (3, .int v3)]) (st' := [.int 1]) (x' := x) hok hT bk_S_isNarrowCode_49_2_ok rfl ?_
      refine jm_V.sub (ls' := []) [] rfl ?_
      exact jj_S_isNarrowCode_54 hok hrec 1 x
  · refine jm_V.run (is := bk_S_isNarrowCode_9_4) (pc' := 13) (ls' := [(0, .ref 4), (1, .int v1), (2, .int v2), (3, .int v3)]) (st' := [.int (v1 + v3), .ref 4]) (x' := x) hok hT bk_S_isNarrowCode_9_4_ok rfl ?_
    refine jm_V.callI (av := [.ref 4, .int (v1 + v3)]) (rest := []) hok (jm_Con.mono (c_S_byteAt hok hrec (v1 + v3) x) (by omega)) (jm_Inv.obj (q := ("FilterReader$Signs", T_S, 5)) dd_S_isNarrowCode_13 (Or.inl lk_S_56) mn_S_byteAt ms_S_byteAt mw_S_byteAt mh_S_byteAt ml_S_byteAt rfl rfl) mw_S_byteAt mi_S (Nat.le_of_ble_eq_true rfl) (Nat.le_of_ble_eq_true rfl) (fun b2 x1 => ?_)
    refine jm_V.callI (av := [.int b2]) (rest := []) hok (jm_Con.mono (c_B_hexDigit hok hrec b2 x1) (by omega)) (jm_Inv.stat dd_S_isNarrowCode_16 (Or.inl lk_S_126) mq_B_hexDigit mi_B mw_B_hexDigit mh_B_hexDigit ml_B_hexDigit) mw_B_hexDigit mi_B (Nat.le_of_ble_eq_true rfl) (Nat.le_of_ble_eq_true rfl) (fun b4 x3 => ?_)
    refine jm_V.run (is := bk_S_isNarrowCode_19_3) (pc' := (if 0 ≤ b4 then 28 else 26)) (ls' := [(4, .int b4), (0, .ref 4), (1, .int v1), (2, .int v2), (3, .int v3)]) (st' := []) (x' := x3) hok hT bk_S_isNarrowCode_19_3_ok rfl ?_
    refine jm_V.ite (fun _ => ?_) (fun _ => ?_)
    · refine jm_V.run (is := bk_S_isNarrowCode_28_8) (pc' := 4) (ls' := [(3, .int (v3 + 1)), (2, .int ((v2 * 16) + b4)), (4, .int b4), (0, .ref 4), (1, .int v1)]) (st' := []) (x' := x3) hok hT bk_S_isNarrowCode_28_8_ok rfl ?_
      refine jm_V.sub (ls' := [(0, .ref 4), (1, .int v1), (2, .int ((v2 * 16) + b4)), (3, .int (v3 + 1))]) [3, 4, 1, 0] rfl ?_
      exact hself v1 ((v2 * 16) + b4) (v3 + 1) x3
    · refine jm_V.run (is := bk_S_isNarrowCode_26_1) (pc' := 27) (ls' := [(4, .int b4), (0, .ref 4), (1, .int v1), (2, .int v2), (3, .int v3)]) (st' := [.int 0]) (x' := x3) hok hT bk_S_isNarrowCode_26_1_ok rfl ?_
      exact jm_V.nret (t := .boolean) rfl rfl dd_S_isNarrowCode_27
theorem jl_S_isNarrowCode_4 {l : Launch} {D : va_G} {ad : Nat → Nat} {aC : Nat → ClassId} {b0 : Nat} {K d0 : Nat} {g : jm_Rec} (hok : jm_Ok (jm_PP l D clC ad aC shC b0 1)) (hrec : ∀ (t : Nat) (av : List Value) (x : jm_X), jm_Con (jm_PP l D clC ad aC shC b0 1) (rcC t) d0 av x (g t av x)) : ∀ (k : Nat) (v1 : Int32) (v2 : Int32) (v3 : Int32) (x : jm_X), jm_V (jm_PP l D clC ad aC shC b0 1) mt_S_isNarrowCode (d0 + 3) 4 [(0, .ref 4), (1, .int v1), (2, .int v2), (3, .int v3)] [] x (L_S_isNarrowCode_4 K g k v1 v2 v3 x)
  | 0, _, _, _, _ => jm_V.stuck
  | k + 1, v1, v2, v3, x => jb_S_isNarrowCode_4 hok hrec (fun v1 v2 v3 x => jl_S_isNarrowCode_4 hok hrec k v1 v2 v3 x) v1 v2 v3 x
def f_S_isNarrowCode (K : Nat) (g : jm_Rec) (a1 : Int32) (x : jm_X) : Option jm_R := L_S_isNarrowCode_4 K g K a1 0 0 x
set_option maxRecDepth 100000 in
set_option maxHeartbeats 4000000 in
theorem c_S_isNarrowCode {l : Launch} {D : va_G} {ad : Nat → Nat} {aC : Nat → ClassId} {b0 : Nat} {K d0 : Nat} {g : jm_Rec} (hok : jm_Ok (jm_PP l D clC ad aC shC b0 1)) (hrec : ∀ (t : Nat) (av : List Value) (x : jm_X), jm_Con (jm_PP l D clC ad aC shC b0 1) (rcC t) d0 av x (g t av x)) (a1 : Int32) (x : jm_X) : jm_Con (jm_PP l D clC ad aC shC b0 1) mt_S_isNarrowCode (d0 + 3) [.ref 4, .int a1] x (f_S_isNarrowCode K g a1 x) := by
  refine jm_Con.of (plainFor_of_name (by decide +kernel)) (Nat.le_of_ble_eq_true rfl) ?_
  have hT := tk_S (l := l) (D := D) (ad := ad) (aC := aC) (b0 := b0)
  unfold f_S_isNarrowCode
  show jm_V _ _ _ 0 [(0, .ref 4), (1, .int a1)] [] x _
  refine jm_V.run (is := bk_S_isNarrowCode_0_4) (pc' := 4) (ls' := [(3, .int 0), (2, .int 0), (0, .ref 4), (1, .int a1)]) (st' := []) (x' := x) hok hT bk_S_isNarrowCode_0_4_ok rfl ?_
  refine jm_V.sub (ls' := [(0, .ref 4), (1, .int a1), (2, .int 0), (3, .int 0)]) [2, 3, 1, 0] rfl ?_
  exact jl_S_isNarrowCode_4 hok hrec K a1 0 0 x
abbrev bk_S_characterSize_0_2 : List (Nat × Instr × Nat) := [(0, .aload_n 0, 1), (1, .iload_n 1, 1)]
theorem bk_S_characterSize_0_2_ok : jm_at mt_S_characterSize.2.1 bk_S_characterSize_0_2 = true := by decide +kernel
abbrev bk_S_characterSize_5_4 : List (Nat × Instr × Nat) := [(5, .istore_n 2, 1), (6, .iload_n 2, 1), (7, .bipush 92, 2), (9, .if_icmp .eq 21, 3)]
theorem bk_S_characterSize_5_4_ok : jm_at mt_S_characterSize.2.1 bk_S_characterSize_5_4 = true := by decide +kernel
abbrev bk_S_characterSize_30_4 : List (Nat × Instr × Nat) := [(30, .aload_n 0, 1), (31, .iload_n 1, 1), (32, .iconst 1, 1), (33, .iadd, 1)]
theorem bk_S_characterSize_30_4_ok : jm_at mt_S_characterSize.2.1 bk_S_characterSize_30_4 = true := by decide +kernel
abbrev bk_S_characterSize_37_4 : List (Nat × Instr × Nat) := [(37, .istore_n 3, 1), (38, .iload_n 3, 1), (39, .bipush 117, 2), (41, .if_icmp .ne 20, 3)]
theorem bk_S_characterSize_37_4_ok : jm_at mt_S_characterSize.2.1 bk_S_characterSize_37_4 = true := by decide +kernel
abbrev bk_S_characterSize_44_4 : List (Nat × Instr × Nat) := [(44, .aload_n 0, 1), (45, .iload_n 1, 1), (46, .iconst 2, 1), (47, .iadd, 1)]
theorem bk_S_characterSize_44_4_ok : jm_at mt_S_characterSize.2.1 bk_S_characterSize_44_4 = true := by decide +kernel
abbrev bk_S_characterSize_51_1 : List (Nat × Instr × Nat) := [(51, .ifCond .eq 8, 3)]
theorem bk_S_characterSize_51_1_ok : jm_at mt_S_characterSize.2.1 bk_S_characterSize_51_1 = true := by decide +kernel
abbrev bk_S_characterSize_59_1 : List (Nat × Instr × Nat) := [(59, .iconst 0, 1)]
theorem bk_S_characterSize_59_1_ok : jm_at mt_S_characterSize.2.1 bk_S_characterSize_59_1 = true := by decide +kernel
abbrev bk_S_characterSize_54_2 : List (Nat × Instr × Nat) := [(54, .bipush 6, 2), (56, .goto 4, 3)]
theorem bk_S_characterSize_54_2_ok : jm_at mt_S_characterSize.2.1 bk_S_characterSize_54_2 = true := by decide +kernel
abbrev bk_S_characterSize_61_1 : List (Nat × Instr × Nat) := [(61, .iload_n 3, 1)]
theorem bk_S_characterSize_61_1_ok : jm_at mt_S_characterSize.2.1 bk_S_characterSize_61_1 = true := by decide +kernel
abbrev bk_S_characterSize_65_1 : List (Nat × Instr × Nat) := [(65, .ifCond .eq 7, 3)]
theorem bk_S_characterSize_65_1_ok : jm_at mt_S_characterSize.2.1 bk_S_characterSize_65_1 = true := by decide +kernel
abbrev bk_S_characterSize_72_1 : List (Nat × Instr × Nat) := [(72, .iconst 0, 1)]
theorem bk_S_characterSize_72_1_ok : jm_at mt_S_characterSize.2.1 bk_S_characterSize_72_1 = true := by decide +kernel
abbrev bk_S_characterSize_68_2 : List (Nat × Instr × Nat) := [(68, .iconst 2, 1), (69, .goto 4, 3)]
theorem bk_S_characterSize_68_2_ok : jm_at mt_S_characterSize.2.1 bk_S_characterSize_68_2 = true := by decide +kernel
abbrev bk_S_characterSize_12_3 : List (Nat × Instr × Nat) := [(12, .iload_n 2, 1), (13, .bipush 32, 2), (15, .if_icmp .lt 13, 3)]
theorem bk_S_characterSize_12_3_ok : jm_at mt_S_characterSize.2.1 bk_S_characterSize_12_3 = true := by decide +kernel
abbrev bk_S_characterSize_18_3 : List (Nat × Instr × Nat) := [(18, .iload_n 2, 1), (19, .bipush 126, 2), (21, .if_icmp .gt 7, 3)]
theorem bk_S_characterSize_18_3_ok : jm_at mt_S_characterSize.2.1 bk_S_characterSize_18_3 = true := by decide +kernel
abbrev bk_S_characterSize_24_2 : List (Nat × Instr × Nat) := [(24, .iconst 1, 1), (25, .goto 4, 3)]
theorem bk_S_characterSize_24_2_ok : jm_at mt_S_characterSize.2.1 bk_S_characterSize_24_2 = true := by decide +kernel
abbrev bk_S_characterSize_28_1 : List (Nat × Instr × Nat) := [(28, .iconst 0, 1)]
theorem bk_S_characterSize_28_1_ok : jm_at mt_S_characterSize.2.1 bk_S_characterSize_28_1 = true := by decide +kernel
theorem dd_S_characterSize_2 : decode mt_S_characterSize.2.1 2 = .ok (.invokevirtual 56, 3) := by decide +kernel
theorem dd_S_characterSize_34 : decode mt_S_characterSize.2.1 34 = .ok (.invokevirtual 56, 3) := by decide +kernel
theorem dd_S_characterSize_48 : decode mt_S_characterSize.2.1 48 = .ok (.invokevirtual 120, 3) := by decide +kernel
theorem dd_S_characterSize_62 : decode mt_S_characterSize.2.1 62 = .ok (.invokestatic 123, 3) := by decide +kernel
theorem dd_S_characterSize_29 : decode mt_S_characterSize.2.1 29 = .ok (.ireturn, 1) := by decide +kernel
theorem dd_S_characterSize_60 : decode mt_S_characterSize.2.1 60 = .ok (.ireturn, 1) := by decide +kernel
theorem dd_S_characterSize_73 : decode mt_S_characterSize.2.1 73 = .ok (.ireturn, 1) := by decide +kernel
def J_S_characterSize_29 (K : Nat) (g : jm_Rec) (s0 : Int32) (x : jm_X) : Option jm_R := some (.inl (some (.int s0), x))
set_option maxRecDepth 100000 in
set_option maxHeartbeats 4000000 in
theorem jj_S_characterSize_29 {l : Launch} {D : va_G} {ad : Nat → Nat} {aC : Nat → ClassId} {b0 : Nat} {K d0 : Nat} {g : jm_Rec} (hok : jm_Ok (jm_PP l D clC ad aC shC b0 1)) (hrec : ∀ (t : Nat) (av : List Value) (x : jm_X), jm_Con (jm_PP l D clC ad aC shC b0 1) (rcC t) d0 av x (g t av x)) (s0 : Int32) (x : jm_X) : jm_V (jm_PP l D clC ad aC shC b0 1) mt_S_characterSize (d0 + 4) 29 [] [.int s0] x (J_S_characterSize_29 K g s0 x) := by
  have hT := tk_S (l := l) (D := D) (ad := ad) (aC := aC) (b0 := b0)
  unfold J_S_characterSize_29
  exact jm_V.iret rfl dd_S_characterSize_29
def J_S_characterSize_28 (K : Nat) (g : jm_Rec)  (x : jm_X) : Option jm_R := J_S_characterSize_29 K g 0 x
set_option maxRecDepth 100000 in
set_option maxHeartbeats 4000000 in
theorem jj_S_characterSize_28 {l : Launch} {D : va_G} {ad : Nat → Nat} {aC : Nat → ClassId} {b0 : Nat} {K d0 : Nat} {g : jm_Rec} (hok : jm_Ok (jm_PP l D clC ad aC shC b0 1)) (hrec : ∀ (t : Nat) (av : List Value) (x : jm_X), jm_Con (jm_PP l D clC ad aC shC b0 1) (rcC t) d0 av x (g t av x))  (x : jm_X) : jm_V (jm_PP l D clC ad aC shC b0 1) mt_S_characterSize (d0 + 4) 28 [] [] x (J_S_characterSize_28 K g  x) := by
  have hT := tk_S (l := l) (D := D) (ad := ad) (aC := aC) (b0 := b0)
  unfold J_S_characterSize_28
  refine jm_V.run (is := bk_S_characterSize_28_1) (pc' := 29) (ls' := []) (st' := [.int 0]) (x' := x) hok hT bk_S_characterSize_28_1_ok rfl ?_
  exact jj_S_characterSize_29 hok hrec 0 x
def J_S_characterSize_60 (K : Nat) (g : jm_Rec) (s0 : Int32) (x : jm_X) : Option jm_R := some (.inl (some (.int s0), x))
set_option maxRecDepth 100000 in
set_option maxHeartbeats 4000000 in
theorem jj_S_characterSize_60 {l : Launch} {D : va_G} {ad : Nat → Nat} {aC : Nat → ClassId} {b0 : Nat} {K d0 : Nat} {g : jm_Rec} (hok : jm_Ok (jm_PP l D clC ad aC shC b0 1)) (hrec : ∀ (t : Nat) (av : List Value) (x : jm_X), jm_Con (jm_PP l D clC ad aC shC b0 1) (rcC t) d0 av x (g t av x)) (s0 : Int32) (x : jm_X) : jm_V (jm_PP l D clC ad aC shC b0 1) mt_S_characterSize (d0 + 4) 60 [] [.int s0] x (J_S_characterSize_60 K g s0 x) := by
  have hT := tk_S (l := l) (D := D) (ad := ad) (aC := aC) (b0 := b0)
  unfold J_S_characterSize_60
  exact jm_V.iret rfl dd_S_characterSize_60
def J_S_characterSize_73 (K : Nat) (g : jm_Rec) (s0 : Int32) (x : jm_X) : Option jm_R := some (.inl (some (.int s0), x))
set_option maxRecDepth 100000 in
set_option maxHeartbeats 4000000 in
theorem jj_S_characterSize_73 {l : Launch} {D : va_G} {ad : Nat → Nat} {aC : Nat → ClassId} {b0 : Nat} {K d0 : Nat} {g : jm_Rec} (hok : jm_Ok (jm_PP l D clC ad aC shC b0 1)) (hrec : ∀ (t : Nat) (av : List Value) (x : jm_X), jm_Con (jm_PP l D clC ad aC shC b0 1) (rcC t) d0 av x (g t av x)) (s0 : Int32) (x : jm_X) : jm_V (jm_PP l D clC ad aC shC b0 1) mt_S_characterSize (d0 + 4) 73 [] [.int s0] x (J_S_characterSize_73 K g s0 x) := by
  have hT := tk_S (l := l) (D := D) (ad := ad) (aC := aC) (b0 := b0)
  unfold J_S_characterSize_73
  exact jm_V.iret rfl dd_S_characterSize_73
def f_S_characterSize (K : Nat) (g : jm_Rec) (a1 : Int32) (x : jm_X) : Option jm_R := jm_bI (f_S_byteAt K g a1 x) (fun b2 x1 => (if b2 = 92 then jm_bI (f_S_byteAt K g (a1 + 1) x1) (fun b4 x3 => (if b4 = 117 then jm_bI (f_S_isNarrowCode K g (a1 + 2) x3) (fun b6 x5 => (if b6 = 0 then J_S_characterSize_60 K g 0 x5 else J_S_characterSize_60 K g 6 x5)) else jm_bI (f_B_isEscaped K g b4 x3) (fun b8 x7 => (if b8 = 0 then J_S_characterSize_73 K g 0 x7 else J_S_characterSize_73 K g 2 x7)))) else (if b2 < 32 then J_S_characterSize_28 K g x1 else (if 126 < b2 then J_S_characterSize_28 K g x1 else J_S_characterSize_29 K g 1 x1))))
set_option maxRecDepth 100000 in
set_option maxHeartbeats 4000000 in
theorem c_S_characterSize {l : Launch} {D : va_G} {ad : Nat → Nat} {aC : Nat → ClassId} {b0 : Nat} {K d0 : Nat} {g : jm_Rec} (hok : jm_Ok (jm_PP l D clC ad aC shC b0 1)) (hrec : ∀ (t : Nat) (av : List Value) (x : jm_X), jm_Con (jm_PP l D clC ad aC shC b0 1) (rcC t) d0 av x (g t av x)) (a1 : Int32) (x : jm_X) : jm_Con (jm_PP l D clC ad aC shC b0 1) mt_S_characterSize (d0 + 4) [.ref 4, .int a1] x (f_S_characterSize K g a1 x) := by
  refine jm_Con.of (plainFor_of_name (by decide +kernel)) (Nat.le_of_ble_eq_true rfl) ?_
  have hT := tk_S (l := l) (D := D) (ad := ad) (aC := aC) (b0 := b0)
  unfold f_S_characterSize
  show jm_V _ _ _ 0 [(0, .ref 4), (1, .int a1)] [] x _
  refine jm_V.run (is := bk_S_characterSize_0_2) (pc' := 2) (ls' := [(0, .ref 4), (1, .int a1)]) (st' := [.int a1, .ref 4]) (x' := x) hok hT bk_S_characterSize_0_2_ok rfl ?_
  refine jm_V.callI (av := [.ref 4, .int a1]) (rest := []) hok (jm_Con.mono (c_S_byteAt hok hrec a1 x) (by omega)) (jm_Inv.obj (q := ("FilterReader$Signs", T_S, 5)) dd_S_characterSize_2 (Or.inl lk_S_56) mn_S_byteAt ms_S_byteAt mw_S_byteAt mh_S_byteAt ml_S_byteAt rfl rfl) mw_S_byteAt mi_S (Nat.le_of_ble_eq_true rfl) (Nat.le_of_ble_eq_true rfl) (fun b2 x1 => ?_)
  refine jm_V.run (is := bk_S_characterSize_5_4) (pc' := (if b2 = 92 then 30 else 12)) (ls' := [(2, .int b2), (0, .ref 4), (1, .int a1)]) (st' := []) (x' := x1) hok hT bk_S_characterSize_5_4_ok rfl ?_
  refine jm_V.ite (fun _ => ?_) (fun _ => ?_)
  · refine jm_V.run (is := bk_S_characterSize_30_4) (pc' := 34) (ls' := [(2, .int b2), (0, .ref 4), (1, .int a1)]) (st' := [.int (a1 + 1), .ref 4]) (x' := x1) hok hT bk_S_characterSize_30_4_ok rfl ?_
    refine jm_V.callI (av := [.ref 4, .int (a1 + 1)]) (rest := []) hok (jm_Con.mono (c_S_byteAt hok hrec (a1 + 1) x1) (by omega)) (jm_Inv.obj (q := ("FilterReader$Signs", T_S, 5)) dd_S_characterSize_34 (Or.inl lk_S_56) mn_S_byteAt ms_S_byteAt mw_S_byteAt mh_S_byteAt ml_S_byteAt rfl rfl) mw_S_byteAt mi_S (Nat.le_of_ble_eq_true rfl) (Nat.le_of_ble_eq_true rfl) (fun b4 x3 => ?_)
    refine jm_V.run (is := bk_S_characterSize_37_4) (pc' := (if b4 = 117 then 44 else 61)) (ls' := [(3, .int b4), (2, .int b2), (0, .ref 4), (1, .int a1)]) (st' := []) (x' := x3) hok hT bk_S_characterSize_37_4_ok rfl ?_
    refine jm_V.ite (fun _ => ?_) (fun _ => ?_)
    · refine jm_V.run (is := bk_S_characterSize_44_4) (pc' := 48) (ls' := [(3, .int b4), (2, .int b2), (0, .ref 4), (1, .int a1)]) (st' := [.int (a1 + 2), .ref 4]) (x' := x3) hok hT bk_S_characterSize_44_4_ok rfl ?_
      refine jm_V.callI (av := [.ref 4, .int (a1 + 2)]) (rest := []) hok (jm_Con.mono (c_S_isNarrowCode hok hrec (a1 + 2) x3) (by omega)) (jm_Inv.obj (q := ("FilterReader$Signs", T_S, 5)) dd_S_characterSize_48 (Or.inl lk_S_120) mn_S_isNarrowCode ms_S_isNarrowCode mw_S_isNarrowCode mh_S_isNarrowCode ml_S_isNarrowCode rfl rfl) mw_S_isNarrowCode mi_S (Nat.le_of_ble_eq_true rfl) (Nat.le_of_ble_eq_true rfl) (fun b6 x5 => ?_)
      refine jm_V.run (is := bk_S_characterSize_51_1) (pc' := (if b6 = 0 then 59 else 54)) (ls' := [(3, .int b4), (2, .int b2), (0, .ref 4), (1, .int a1)]) (st' := []) (x' := x5) hok hT bk_S_characterSize_51_1_ok rfl ?_
      refine jm_V.ite (fun _ => ?_) (fun _ => ?_)
      · refine jm_V.run (is := bk_S_characterSize_59_1) (pc' := 60) (ls' := [(3, .int b4), (2, .int b2), (0, .ref 4), (1, .int a1)]) (st' := [.int 0]) (x' := x5) hok hT bk_S_characterSize_59_1_ok rfl ?_
        refine jm_V.sub (ls' := []) [] rfl ?_
        exact jj_S_characterSize_60 hok hrec 0 x5
      · refine jm_V.run (is := bk_S_characterSize_54_2) (pc' := 60) (ls' := [(3, .int b4), (2, .int b2), (0, .ref 4), (1, .int a1)]) (st' := [.int 6]) (x' := x5) hok hT bk_S_characterSize_54_2_ok rfl ?_
        refine jm_V.sub (ls' := []) [] rfl ?_
        exact jj_S_characterSize_60 hok hrec 6 x5
    · refine jm_V.run (is := bk_S_characterSize_61_1) (pc' := 62) (ls' := [(3, .int b4), (2, .int b2), (0, .ref 4), (1, .int a1)]) (st' := [.int b4]) (x' := x3) hok hT bk_S_characterSize_61_1_ok rfl ?_
      refine jm_V.callI (av := [.int b4]) (rest := []) hok (jm_Con.mono (c_B_isEscaped hok hrec b4 x3) (by omega)) (jm_Inv.stat dd_S_characterSize_62 (Or.inl lk_S_123) mq_B_isEscaped mi_B mw_B_isEscaped mh_B_isEscaped ml_B_isEscaped) mw_B_isEscaped mi_B (Nat.le_of_ble_eq_true rfl) (Nat.le_of_ble_eq_true rfl) (fun b8 x7 => ?_)
      refine jm_V.run (is := bk_S_characterSize_65_1) (pc' := (if b8 = 0 then 72 else 68)) (ls' := [(3, .int b4), (2, .int b2), (0, .ref 4), (1, .int a1)]) (st' := []) (x' := x7) hok hT bk_S_characterSize_65_1_ok rfl ?_
      refine jm_V.ite (fun _ => ?_) (fun _ => ?_)
      · refine jm_V.run (is := bk_S_characterSize_72_1) (pc' := 73) (ls' := [(3, .int b4), (2, .int b2), (0, .ref 4), (1, .int a1)]) (st' := [.int 0]) (x' := x7) hok hT bk_S_characterSize_72_1_ok rfl ?_
        refine jm_V.sub (ls' := []) [] rfl ?_
        exact jj_S_characterSize_73 hok hrec 0 x7
      · refine jm_V.run (is := bk_S_characterSize_68_2) (pc' := 73) (ls' := [(3, .int b4), (2, .int b2), (0, .ref 4), (1, .int a1)]) (st' := [.int 2]) (x' := x7) hok hT bk_S_characterSize_68_2_ok rfl ?_
        refine jm_V.sub (ls' := []) [] rfl ?_
        exact jj_S_characterSize_73 hok hrec 2 x7
  · refine jm_V.run (is := bk_S_characterSize_12_3) (pc' := (if b2 < 32 then 28 else 18)) (ls' := [(2, .int b2), (0, .ref 4), (1, .int a1)]) (st' := []) (x' := x1) hok hT bk_S_characterSize_12_3_ok rfl ?_
    refine jm_V.ite (fun _ => ?_) (fun _ => ?_)
    · refine jm_V.sub (ls' := []) [] rfl ?_
      exact jj_S_characterSize_28 hok hrec x1
    · refine jm_V.run (is := bk_S_characterSize_18_3) (pc' := (if 126 < b2 then 28 else 24)) (ls' := [(2, .int b2), (0, .ref 4), (1, .int a1)]) (st' := []) (x' := x1) hok hT bk_S_characterSize_18_3_ok rfl ?_
      refine jm_V.ite (fun _ => ?_) (fun _ => ?_)
      · refine jm_V.sub (ls' := []) [] rfl ?_
        exact jj_S_characterSize_28 hok hrec x1
      · refine jm_V.run (is := bk_S_characterSize_24_2) (pc' := 29) (ls' := [(2, .int b2), (0, .ref 4), (1, .int a1)]) (st' := [.int 1]) (x' := x1) hok hT bk_S_characterSize_24_2_ok rfl ?_
        refine jm_V.sub (ls' := []) [] rfl ?_
        exact jj_S_characterSize_29 hok hrec 1 x1
abbrev bk_S_opensProgram_0_2 : List (Nat × Instr × Nat) := [(0, .aload_n 0, 1), (1, .iload_n 1, 1)]
theorem bk_S_opensProgram_0_2_ok : jm_at mt_S_opensProgram.2.1 bk_S_opensProgram_0_2 = true := by decide +kernel
abbrev bk_S_opensProgram_5_2 : List (Nat × Instr × Nat) := [(5, .bipush 92, 2), (7, .if_icmp .ne 19, 3)]
theorem bk_S_opensProgram_5_2_ok : jm_at mt_S_opensProgram.2.1 bk_S_opensProgram_5_2 = true := by decide +kernel
abbrev bk_S_opensProgram_10_4 : List (Nat × Instr × Nat) := [(10, .aload_n 0, 1), (11, .iload_n 1, 1), (12, .iconst 1, 1), (13, .iadd, 1)]
theorem bk_S_opensProgram_10_4_ok : jm_at mt_S_opensProgram.2.1 bk_S_opensProgram_10_4 = true := by decide +kernel
abbrev bk_S_opensProgram_17_2 : List (Nat × Instr × Nat) := [(17, .bipush 40, 2), (19, .if_icmp .ne 7, 3)]
theorem bk_S_opensProgram_17_2_ok : jm_at mt_S_opensProgram.2.1 bk_S_opensProgram_17_2 = true := by decide +kernel
abbrev bk_S_opensProgram_22_2 : List (Nat × Instr × Nat) := [(22, .iconst 1, 1), (23, .goto 4, 3)]
theorem bk_S_opensProgram_22_2_ok : jm_at mt_S_opensProgram.2.1 bk_S_opensProgram_22_2 = true := by decide +kernel
abbrev bk_S_opensProgram_26_1 : List (Nat × Instr × Nat) := [(26, .iconst 0, 1)]
theorem bk_S_opensProgram_26_1_ok : jm_at mt_S_opensProgram.2.1 bk_S_opensProgram_26_1 = true := by decide +kernel
theorem dd_S_opensProgram_2 : decode mt_S_opensProgram.2.1 2 = .ok (.invokevirtual 56, 3) := by decide +kernel
theorem dd_S_opensProgram_14 : decode mt_S_opensProgram.2.1 14 = .ok (.invokevirtual 56, 3) := by decide +kernel
theorem dd_S_opensProgram_27 : decode mt_S_opensProgram.2.1 27 = .ok (.ireturn, 1) := by decide +kernel
def J_S_opensProgram_27 (K : Nat) (g : jm_Rec) (s0 : Int32) (x : jm_X) : Option jm_R := some (.inl (some (.int (vp_nar .boolean s0)), x))
set_option maxRecDepth 100000 in
set_option maxHeartbeats 4000000 in
theorem jj_S_opensProgram_27 {l : Launch} {D : va_G} {ad : Nat → Nat} {aC : Nat → ClassId} {b0 : Nat} {K d0 : Nat} {g : jm_Rec} (hok : jm_Ok (jm_PP l D clC ad aC shC b0 1)) (hrec : ∀ (t : Nat) (av : List Value) (x : jm_X), jm_Con (jm_PP l D clC ad aC shC b0 1) (rcC t) d0 av x (g t av x)) (s0 : Int32) (x : jm_X) : jm_V (jm_PP l D clC ad aC shC b0 1) mt_S_opensProgram (d0 + 2) 27 [] [.int s0] x (J_S_opensProgram_27 K g s0 x) := by
  have hT := tk_S (l := l) (D := D) (ad := ad) (aC := aC) (b0 := b0)
  unfold J_S_opensProgram_27
  exact jm_V.nret (t := .boolean) rfl rfl dd_S_opensProgram_27
def J_S_opensProgram_26 (K : Nat) (g : jm_Rec)  (x : jm_X) : Option jm_R := J_S_opensProgram_27 K g 0 x
set_option maxRecDepth 100000 in
set_option maxHeartbeats 4000000 in
theorem jj_S_opensProgram_26 {l : Launch} {D : va_G} {ad : Nat → Nat} {aC : Nat → ClassId} {b0 : Nat} {K d0 : Nat} {g : jm_Rec} (hok : jm_Ok (jm_PP l D clC ad aC shC b0 1)) (hrec : ∀ (t : Nat) (av : List Value) (x : jm_X), jm_Con (jm_PP l D clC ad aC shC b0 1) (rcC t) d0 av x (g t av x))  (x : jm_X) : jm_V (jm_PP l D clC ad aC shC b0 1) mt_S_opensProgram (d0 + 2) 26 [] [] x (J_S_opensProgram_26 K g  x) := by
  have hT := tk_S (l := l) (D := D) (ad := ad) (aC := aC) (b0 := b0)
  unfold J_S_opensProgram_26
  refine jm_V.run (is := bk_S_opensProgram_26_1) (pc' := 27) (ls' := []) (st' := [.int 0]) (x' := x) hok hT bk_S_opensProgram_26_1_ok rfl ?_
  exact jj_S_opensProgram_27 hok hrec 0 x
def f_S_opensProgram (K : Nat) (g : jm_Rec) (a1 : Int32) (x : jm_X) : Option jm_R := jm_bI (f_S_byteAt K g a1 x) (fun b2 x1 => (if b2 = 92 then jm_bI (f_S_byteAt K g (a1 + 1) x1) (fun b4 x3 => (if b4 = 40 then J_S_opensProgram_27 K g 1 x3 else J_S_opensProgram_26 K g x3)) else J_S_opensProgram_26 K g x1))
set_option maxRecDepth 100000 in
set_option maxHeartbeats 4000000 in
theorem c_S_opensProgram {l : Launch} {D : va_G} {ad : Nat → Nat} {aC : Nat → ClassId} {b0 : Nat} {K d0 : Nat} {g : jm_Rec} (hok : jm_Ok (jm_PP l D clC ad aC shC b0 1)) (hrec : ∀ (t : Nat) (av : List Value) (x : jm_X), jm_Con (jm_PP l D clC ad aC shC b0 1) (rcC t) d0 av x (g t av x)) (a1 : Int32) (x : jm_X) : jm_Con (jm_PP l D clC ad aC shC b0 1) mt_S_opensProgram (d0 + 2) [.ref 4, .int a1] x (f_S_opensProgram K g a1 x) := by
  refine jm_Con.of (plainFor_of_name (by decide +kernel)) (Nat.le_of_ble_eq_true rfl) ?_
  have hT := tk_S (l := l) (D := D) (ad := ad) (aC := aC) (b0 := b0)
  unfold f_S_opensProgram
  show jm_V _ _ _ 0 [(0, .ref 4), (1, .int a1)] [] x _
  refine jm_V.run (is := bk_S_opensProgram_0_2) (pc' := 2) (ls' := [(0, .ref 4), (1, .int a1)]) (st' := [.int a1, .ref 4]) (x' := x) hok hT bk_S_opensProgram_0_2_ok rfl ?_
  refine jm_V.callI (av := [.ref 4, .int a1]) (rest := []) hok (jm_Con.mono (c_S_byteAt hok hrec a1 x) (by omega)) (jm_Inv.obj (q := ("FilterReader$Signs", T_S, 5)) dd_S_opensProgram_2 (Or.inl lk_S_56) mn_S_byteAt ms_S_byteAt mw_S_byteAt mh_S_byteAt ml_S_byteAt rfl rfl) mw_S_byteAt mi_S (Nat.le_of_ble_eq_true rfl) (Nat.le_of_ble_eq_true rfl) (fun b2 x1 => ?_)
  refine jm_V.run (is := bk_S_opensProgram_5_2) (pc' := (if b2 = 92 then 10 else 26)) (ls' := [(0, .ref 4), (1, .int a1)]) (st' := []) (x' := x1) hok hT bk_S_opensProgram_5_2_ok rfl ?_
  refine jm_V.ite (fun _ => ?_) (fun _ => ?_)
  · refine jm_V.run (is := bk_S_opensProgram_10_4) (pc' := 14) (ls' := [(0, .ref 4), (1, .int a1)]) (st' := [.int (a1 + 1), .ref 4]) (x' := x1) hok hT bk_S_opensProgram_10_4_ok rfl ?_
    refine jm_V.callI (av := [.ref 4, .int (a1 + 1)]) (rest := []) hok (jm_Con.mono (c_S_byteAt hok hrec (a1 + 1) x1) (by omega)) (jm_Inv.obj (q := ("FilterReader$Signs", T_S, 5)) dd_S_opensProgram_14 (Or.inl lk_S_56) mn_S_byteAt ms_S_byteAt mw_S_byteAt mh_S_byteAt ml_S_byteAt rfl rfl) mw_S_byteAt mi_S (Nat.le_of_ble_eq_true rfl) (Nat.le_of_ble_eq_true rfl) (fun b4 x3 => ?_)
    refine jm_V.run (is := bk_S_opensProgram_17_2) (pc' := (if b4 = 40 then 22 else 26)) (ls' := [(0, .ref 4), (1, .int a1)]) (st' := []) (x' := x3) hok hT bk_S_opensProgram_17_2_ok rfl ?_
    refine jm_V.ite (fun _ => ?_) (fun _ => ?_)
    · refine jm_V.run (is := bk_S_opensProgram_22_2) (pc' := 27) (ls' := [(0, .ref 4), (1, .int a1)]) (st' := [.int 1]) (x' := x3) hok hT bk_S_opensProgram_22_2_ok rfl ?_
      refine jm_V.sub (ls' := []) [] rfl ?_
      exact jj_S_opensProgram_27 hok hrec 1 x3
    · refine jm_V.sub (ls' := []) [] rfl ?_
      exact jj_S_opensProgram_26 hok hrec x3
  · refine jm_V.sub (ls' := []) [] rfl ?_
    exact jj_S_opensProgram_26 hok hrec x1

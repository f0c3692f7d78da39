/-! THE REFERENCE: methods. Printed by wip/whole/printR.py. -/
abbrev bk_M_folded_0_1 : List (Nat × Instr × Nat) := [(0, .aload_n 0, 1)]
theorem bk_M_folded_0_1_ok : jm_at mt_M_folded.2.1 bk_M_folded_0_1 = true := by decide +kernel
abbrev bk_M_folded_6_5 : List (Nat × Instr × Nat) := [(6, .istore_n 1, 1), (7, .aload_n 0, 1), (8, .getfield 76, 3), (11, .iload_n 1, 1), (12, .ifCond .eq 8, 3)]
theorem bk_M_folded_6_5_ok : jm_at mt_M_folded.2.1 bk_M_folded_6_5 = true := by decide +kernel
abbrev bk_M_folded_20_1 : List (Nat × Instr × Nat) := [(20, .bipush 23, 2)]
theorem bk_M_folded_20_1_ok : jm_at mt_M_folded.2.1 bk_M_folded_20_1 = true := by decide +kernel
abbrev bk_M_folded_15_2 : List (Nat × Instr × Nat) := [(15, .bipush 24, 2), (17, .goto 5, 3)]
theorem bk_M_folded_15_2_ok : jm_at mt_M_folded.2.1 bk_M_folded_15_2 = true := by decide +kernel
abbrev bk_M_folded_22_1 : List (Nat × Instr × Nat) := [(22, .dup2, 1)]
theorem bk_M_folded_22_1_ok : jm_at mt_M_folded.2.1 bk_M_folded_22_1 = true := by decide +kernel
abbrev bk_M_folded_24_2 : List (Nat × Instr × Nat) := [(24, .iconst 1, 1), (25, .iadd, 1)]
theorem bk_M_folded_24_2_ok : jm_at mt_M_folded.2.1 bk_M_folded_24_2 = true := by decide +kernel
abbrev bk_M_folded_27_1 : List (Nat × Instr × Nat) := [(27, .aload_n 0, 1)]
theorem bk_M_folded_27_1_ok : jm_at mt_M_folded.2.1 bk_M_folded_27_1 = true := by decide +kernel
abbrev bk_M_folded_31_1 : List (Nat × Instr × Nat) := [(31, .aload_n 0, 1)]
theorem bk_M_folded_31_1_ok : jm_at mt_M_folded.2.1 bk_M_folded_31_1 = true := by decide +kernel
abbrev bk_M_folded_35_1 : List (Nat × Instr × Nat) := [(35, .aload_n 0, 1)]
theorem bk_M_folded_35_1_ok : jm_at mt_M_folded.2.1 bk_M_folded_35_1 = true := by decide +kernel
abbrev bk_M_folded_41_4 : List (Nat × Instr × Nat) := [(41, .aload_n 0, 1), (42, .getfield 113, 3), (45, .istore_n 2, 1), (46, .aload_n 0, 1)]
theorem bk_M_folded_41_4_ok : jm_at mt_M_folded.2.1 bk_M_folded_41_4 = true := by decide +kernel
abbrev bk_M_folded_50_2 : List (Nat × Instr × Nat) := [(50, .aload_n 0, 1), (51, .bipush 16, 2)]
theorem bk_M_folded_50_2_ok : jm_at mt_M_folded.2.1 bk_M_folded_50_2 = true := by decide +kernel
abbrev bk_M_folded_56_3 : List (Nat × Instr × Nat) := [(56, .aload_n 0, 1), (57, .iload_n 2, 1), (58, .iconst 1, 1)]
theorem bk_M_folded_56_3_ok : jm_at mt_M_folded.2.1 bk_M_folded_56_3 = true := by decide +kernel
abbrev bk_M_folded_62_1 : List (Nat × Instr × Nat) := [(62, .aload_n 0, 1)]
theorem bk_M_folded_62_1_ok : jm_at mt_M_folded.2.1 bk_M_folded_62_1 = true := by decide +kernel
abbrev bk_M_folded_66_2 : List (Nat × Instr × Nat) := [(66, .aload_n 0, 1), (67, .bipush 23, 2)]
theorem bk_M_folded_66_2_ok : jm_at mt_M_folded.2.1 bk_M_folded_66_2 = true := by decide +kernel
abbrev bk_M_folded_72_3 : List (Nat × Instr × Nat) := [(72, .aload_n 0, 1), (73, .iload_n 2, 1), (74, .iconst 0, 1)]
theorem bk_M_folded_72_3_ok : jm_at mt_M_folded.2.1 bk_M_folded_72_3 = true := by decide +kernel
abbrev bk_M_folded_78_1 : List (Nat × Instr × Nat) := [(78, .aload_n 0, 1)]
theorem bk_M_folded_78_1_ok : jm_at mt_M_folded.2.1 bk_M_folded_78_1 = true := by decide +kernel
abbrev bk_M_folded_82_2 : List (Nat × Instr × Nat) := [(82, .iload_n 1, 1), (83, .ifCond .eq 16, 3)]
theorem bk_M_folded_82_2_ok : jm_at mt_M_folded.2.1 bk_M_folded_82_2 = true := by decide +kernel
abbrev bk_M_folded_86_2 : List (Nat × Instr × Nat) := [(86, .aload_n 0, 1), (87, .bipush 23, 2)]
theorem bk_M_folded_86_2_ok : jm_at mt_M_folded.2.1 bk_M_folded_86_2 = true := by decide +kernel
abbrev bk_M_folded_92_1 : List (Nat × Instr × Nat) := [(92, .ifCond .eq 7, 3)]
theorem bk_M_folded_92_1_ok : jm_at mt_M_folded.2.1 bk_M_folded_92_1 = true := by decide +kernel
abbrev bk_M_folded_95_1 : List (Nat × Instr × Nat) := [(95, .aload_n 0, 1)]
theorem bk_M_folded_95_1_ok : jm_at mt_M_folded.2.1 bk_M_folded_95_1 = true := by decide +kernel
abbrev bk_M_folded_99_2 : List (Nat × Instr × Nat) := [(99, .aload_n 0, 1), (100, .bipush 17, 2)]
theorem bk_M_folded_99_2_ok : jm_at mt_M_folded.2.1 bk_M_folded_99_2 = true := by decide +kernel
abbrev bk_M_folded_105_3 : List (Nat × Instr × Nat) := [(105, .aload_n 0, 1), (106, .iload_n 2, 1), (107, .putfield 113, 3)]
theorem bk_M_folded_105_3_ok : jm_at mt_M_folded.2.1 bk_M_folded_105_3 = true := by decide +kernel
theorem dd_M_folded_3 : decode mt_M_folded.2.1 3 = .ok (.invokevirtual 180, 3) := by decide +kernel
theorem dd_M_folded_1 : decode mt_M_folded.2.1 1 = .ok (.ldc 25, 2) := by decide +kernel
theorem dd_M_folded_28 : decode mt_M_folded.2.1 28 = .ok (.invokevirtual 122, 3) := by decide +kernel
theorem dd_M_folded_32 : decode mt_M_folded.2.1 32 = .ok (.invokevirtual 231, 3) := by decide +kernel
theorem dd_M_folded_38 : decode mt_M_folded.2.1 38 = .ok (.invokevirtual 243, 3) := by decide +kernel
theorem dd_M_folded_47 : decode mt_M_folded.2.1 47 = .ok (.invokevirtual 240, 3) := by decide +kernel
theorem dd_M_folded_53 : decode mt_M_folded.2.1 53 = .ok (.invokevirtual 199, 3) := by decide +kernel
theorem dd_M_folded_59 : decode mt_M_folded.2.1 59 = .ok (.invokevirtual 246, 3) := by decide +kernel
theorem dd_M_folded_63 : decode mt_M_folded.2.1 63 = .ok (.invokevirtual 125, 3) := by decide +kernel
theorem dd_M_folded_69 : decode mt_M_folded.2.1 69 = .ok (.invokevirtual 199, 3) := by decide +kernel
theorem dd_M_folded_75 : decode mt_M_folded.2.1 75 = .ok (.invokevirtual 246, 3) := by decide +kernel
theorem dd_M_folded_79 : decode mt_M_folded.2.1 79 = .ok (.invokevirtual 125, 3) := by decide +kernel
theorem dd_M_folded_89 : decode mt_M_folded.2.1 89 = .ok (.invokevirtual 184, 3) := by decide +kernel
theorem dd_M_folded_96 : decode mt_M_folded.2.1 96 = .ok (.invokevirtual 125, 3) := by decide +kernel
theorem dd_M_folded_36 : decode mt_M_folded.2.1 36 = .ok (.ldc 11, 2) := by decide +kernel
theorem dd_M_folded_26 : decode mt_M_folded.2.1 26 = .ok (.iastore, 1) := by decide +kernel
theorem dd_M_folded_23 : decode mt_M_folded.2.1 23 = .ok (.iaload, 1) := by decide +kernel
theorem dd_M_folded_102 : decode mt_M_folded.2.1 102 = .ok (.invokevirtual 199, 3) := by decide +kernel
theorem dd_M_folded_110 : decode mt_M_folded.2.1 110 = .ok (.return_, 1) := by decide +kernel
def J_M_folded_99 (K : Nat) (g : jm_Rec) (v2 : Int32) (x : jm_X) : Option jm_R := jm_bV (f_M_need_i K g 17 x) (fun x17 => jm_then (va_up x17.1 15 v2, x17.2) (fun x18 => some (.inl (none, x18))))
set_option maxRecDepth 100000 in
set_option maxHeartbeats 4000000 in
theorem jj_M_folded_99 {l : Launch} {D : va_G} {ad : Nat → Nat} {aC : Nat → ClassId} {b0 : Nat} {K d0 : Nat} {g : jm_Rec} (hok : jm_Ok (jm_PP l D clR ad aC shR b0 0)) (hrec : ∀ (t : Nat) (av : List Value) (x : jm_X), jm_Con (jm_PP l D clR ad aC shR b0 0) (rcR t) d0 av x (g t av x)) (v2 : Int32) (x : jm_X) : jm_V (jm_PP l D clR ad aC shR b0 0) mt_M_folded (d0 + 10) 99 [(0, .ref 0), (2, .int v2)] [] x (J_M_folded_99 K g v2 x) := by
  have hT := tk_M (l := l) (D := D) (ad := ad) (aC := aC) (b0 := b0)
  unfold J_M_folded_99
  refine jm_V.run (is := bk_M_folded_99_2) (pc' := 102) (ls' := [(0, .ref 0), (2, .int v2)]) (st' := [.int 17, .ref 0]) (x' := x) hok hT bk_M_folded_99_2_ok rfl ?_
  refine jm_V.callV (av := [.ref 0, .int 17]) (rest := []) hok (jm_Con.mono (c_M_need_i hok hrec 17 x) (by omega)) (jm_Inv.obj (q := ("FilterReaderModel", T_M, 22)) dd_M_folded_102 (Or.inl lk_M_199) mn_M_need_i ms_M_need_i mw_M_need_i mh_M_need_i ml_M_need_i rfl rfl) mw_M_need_i mi_M (Nat.le_of_ble_eq_true rfl) (Nat.le_of_ble_eq_true rfl) (fun x17 => ?_)
  refine jm_V.run (is := bk_M_folded_105_3) (pc' := 110) (ls' := [(0, .ref 0), (2, .int v2)]) (st' := []) (x' := (va_up x17.1 15 v2, x17.2)) hok hT bk_M_folded_105_3_ok rfl ?_
  refine jm_V.then_ (fun x18 => ?_)
  exact jm_V.vret rfl dd_M_folded_110
def J_M_folded_22 (K : Nat) (g : jm_Rec) (v1 : Int32) (s0 : Int32) (x : jm_X) : Option jm_R := (if jm_in shR 4 .int s0 then (if jm_in shR 4 .int s0 then jm_then (jm_ua x 4 s0 ((x.2.2 4 (Int32.toNatClampNeg s0)) + 1)) (fun x3 => jm_bV (f_M_scan K g x3) (fun x4 => jm_bV (f_M_term K g x4) (fun x5 => jm_bV (f_M_need_s K g 2004 x5) (fun x6 => jm_bV (f_M_whole K g x6) (fun x7 => jm_bV (f_M_need_i K g 16 x7) (fun x8 => jm_bV (f_M_hide K g (x6.1 15) 1 x8) (fun x9 => jm_bV (g 0 [.ref 0] x9) (fun x10 => jm_bV (f_M_need_i K g 23 x10) (fun x11 => jm_bV (f_M_hide K g (x6.1 15) 0 x11) (fun x12 => jm_bV (g 0 [.ref 0] x12) (fun x13 => (if v1 = 0 then J_M_folded_99 K g (x6.1 15) x13 else jm_bI (f_M_skip_i K g 23 x13) (fun b15 x14 => (if b15 = 0 then J_M_folded_99 K g (x6.1 15) x14 else jm_bV (g 0 [.ref 0] x14) (fun x16 => J_M_folded_99 K g (x6.1 15) x16))))))))))))))) else none) else none)
set_option maxRecDepth 100000 in
set_option maxHeartbeats 4000000 in
theorem jj_M_folded_22 {l : Launch} {D : va_G} {ad : Nat → Nat} {aC : Nat → ClassId} {b0 : Nat} {K d0 : Nat} {g : jm_Rec} (hok : jm_Ok (jm_PP l D clR ad aC shR b0 0)) (hrec : ∀ (t : Nat) (av : List Value) (x : jm_X), jm_Con (jm_PP l D clR ad aC shR b0 0) (rcR t) d0 av x (g t av x)) (v1 : Int32) (s0 : Int32) (x : jm_X) : jm_V (jm_PP l D clR ad aC shR b0 0) mt_M_folded (d0 + 10) 22 [(0, .ref 0), (1, .int v1)] [.int s0, .ref 4] x (J_M_folded_22 K g v1 s0 x) := by
  have hT := tk_M (l := l) (D := D) (ad := ad) (aC := aC) (b0 := b0)
  unfold J_M_folded_22
  refine jm_V.run (is := bk_M_folded_22_1) (pc' := 23) (ls' := [(0, .ref 0), (1, .int v1)]) (st' := [.int s0, .ref 4, .int s0, .ref 4]) (x' := x) hok hT bk_M_folded_22_1_ok rfl ?_
  refine jm_V.iald dd_M_folded_23 ?_
  refine jm_V.run (is := bk_M_folded_24_2) (pc' := 26) (ls' := [(0, .ref 0), (1, .int v1)]) (st' := [.int ((x.2.2 4 (Int32.toNatClampNeg s0)) + 1), .int s0, .ref 4]) (x' := x) hok hT bk_M_folded_24_2_ok rfl ?_
  refine jm_V.iast hok dd_M_folded_26 ?_
  refine jm_V.then_ (fun x3 => ?_)
  refine jm_V.run (is := bk_M_folded_27_1) (pc' := 28) (ls' := [(0, .ref 0), (1, .int v1)]) (st' := [.ref 0]) (x' := x3) hok hT bk_M_folded_27_1_ok rfl ?_
  refine jm_V.callV (av := [.ref 0]) (rest := []) hok (jm_Con.mono (c_M_scan hok hrec x3) (by omega)) (jm_Inv.obj (q := ("FilterReaderModel", T_M, 22)) dd_M_folded_28 (Or.inl lk_M_122) mn_M_scan ms_M_scan mw_M_scan mh_M_scan ml_M_scan rfl rfl) mw_M_scan mi_M (Nat.le_of_ble_eq_true rfl) (Nat.le_of_ble_eq_true rfl) (fun x4 => ?_)
  refine jm_V.run (is := bk_M_folded_31_1) (pc' := 32) (ls' := [(0, .ref 0), (1, .int v1)]) (st' := [.ref 0]) (x' := x4) hok hT bk_M_folded_31_1_ok rfl ?_
  refine jm_V.callV (av := [.ref 0]) (rest := []) hok (jm_Con.mono (c_M_term hok hrec x4) (by omega)) (jm_Inv.obj (q := ("FilterReaderModel", T_M, 22)) dd_M_folded_32 (Or.inl lk_M_231) mn_M_term ms_M_term mw_M_term mh_M_term ml_M_term rfl rfl) mw_M_term mi_M (Nat.le_of_ble_eq_true rfl) (Nat.le_of_ble_eq_true rfl) (fun x5 => ?_)
  refine jm_V.run (is := bk_M_folded_35_1) (pc' := 36) (ls' := [(0, .ref 0), (1, .int v1)]) (st' := [.ref 0]) (x' := x5) hok hT bk_M_folded_35_1_ok rfl ?_
  refine jm_V.lds (o := 2004) (tx := "as") (cs_str (i := 4) rfl) dd_M_folded_36 ?_
  refine jm_V.callV (av := [.ref 0, .ref 2004]) (rest := []) hok (jm_Con.mono (c_M_need_s hok hrec 2004 x5) (by omega)) (jm_Inv.obj (q := ("FilterReaderModel", T_M, 22)) dd_M_folded_38 (Or.inl lk_M_243) mn_M_need_s ms_M_need_s mw_M_need_s mh_M_need_s ml_M_need_s rfl rfl) mw_M_need_s mi_M (Nat.le_of_ble_eq_true rfl) (Nat.le_of_ble_eq_true rfl) (fun x6 => ?_)
  refine jm_V.run (is := bk_M_folded_41_4) (pc' := 47) (ls' := [(2, .int (x6.1 15)), (0, .ref 0), (1, .int v1)]) (st' := [.ref 0]) (x' := x6) hok hT bk_M_folded_41_4_ok rfl ?_
  refine jm_V.callV (av := [.ref 0]) (rest := []) hok (jm_Con.mono (c_M_whole hok hrec x6) (by omega)) (jm_Inv.obj (q := ("FilterReaderModel", T_M, 22)) dd_M_folded_47 (Or.inl lk_M_240) mn_M_whole ms_M_whole mw_M_whole mh_M_whole ml_M_whole rfl rfl) mw_M_whole mi_M (Nat.le_of_ble_eq_true rfl) (Nat.le_of_ble_eq_true rfl) (fun x7 => ?_)
  refine jm_V.run (is := bk_M_folded_50_2) (pc' := 53) (ls' := [(2, .int (x6.1 15)), (0, .ref 0), (1, .int v1)]) (st' := [.int 16, .ref 0]) (x' := x7) hok hT bk_M_folded_50_2_ok rfl ?_
  refine jm_V.callV (av := [.ref 0, .int 16]) (rest := []) hok (jm_Con.mono (c_M_need_i hok hrec 16 x7) (by omega)) (jm_Inv.obj (q := ("FilterReaderModel", T_M, 22)) dd_M_folded_53 (Or.inl lk_M_199) mn_M_need_i ms_M_need_i mw_M_need_i mh_M_need_i ml_M_need_i rfl rfl) mw_M_need_i mi_M (Nat.le_of_ble_eq_true rfl) (Nat.le_of_ble_eq_true rfl) (fun x8 => ?_)
  refine jm_V.run (is := bk_M_folded_56_3) (pc' := 59) (ls' := [(2, .int (x6.1 15)), (0, .ref 0), (1, .int v1)]) (st' := [.int 1, .int (x6.1 15), .ref 0]) (x' := x8) hok hT bk_M_folded_56_3_ok rfl ?_
  refine jm_V.callV (av := [.ref 0, .int (x6.1 15), .int 1]) (rest := []) hok (jm_Con.mono (c_M_hide hok hrec (x6.1 15) 1 x8) (by omega)) (jm_Inv.obj (q := ("FilterReaderModel", T_M, 22)) dd_M_folded_59 (Or.inl lk_M_246) mn_M_hide ms_M_hide mw_M_hide mh_M_hide ml_M_hide rfl rfl) mw_M_hide mi_M (Nat.le_of_ble_eq_true rfl) (Nat.le_of_ble_eq_true rfl) (fun x9 => ?_)
  refine jm_V.run (is := bk_M_folded_62_1) (pc' := 63) (ls' := [(2, .int (x6.1 15)), (0, .ref 0), (1, .int v1)]) (st' := [.ref 0]) (x' := x9) hok hT bk_M_folded_62_1_ok rfl ?_
  refine jm_V.callV (av := [.ref 0]) (rest := []) hok (jm_Con.mono (hrec 0 [.ref 0] x9) (by omega)) (jm_Inv.obj (q := ("FilterReaderModel", T_M, 22)) dd_M_folded_63 (Or.inl lk_M_125) mn_M_program ms_M_program mw_M_program mh_M_program ml_M_program rfl rfl) mw_M_program mi_M (Nat.le_of_ble_eq_true rfl) (Nat.le_of_ble_eq_true rfl) (fun x10 => ?_)
  refine jm_V.run (is := bk_M_folded_66_2) (pc' := 69) (ls' := [(2, .int (x6.1 15)), (0, .ref 0), (1, .int v1)]) (st' := [.int 23, .ref 0]) (x' := x10) hok hT bk_M_folded_66_2_ok rfl ?_
  refine jm_V.callV (av := [.ref 0, .int 23]) (rest := []) hok (jm_Con.mono (c_M_need_i hok hrec 23 x10) (by omega)) (jm_Inv.obj (q := ("FilterReaderModel", T_M, 22)) dd_M_folded_69 (Or.inl lk_M_199) mn_M_need_i ms_M_need_i mw_M_need_i mh_M_need_i ml_M_need_i rfl rfl) mw_M_need_i mi_M (Nat.le_of_ble_eq_true rfl) (Nat.le_of_ble_eq_true rfl) (fun x11 => ?_)
  refine jm_V.run (is := bk_M_folded_72_3) (pc' := 75) (ls' := [(2, .int (x6.1 15)), (0, .ref 0), (1, .int v1)]) (st' := [.int 0, .int (x6.1 15), .ref 0]) (x' := x11) hok hT bk_M_folded_72_3_ok rfl ?_
  refine jm_V.callV (av := [.ref 0, .int (x6.1 15), .int 0]) (rest := []) hok (jm_Con.mono (c_M_hide hok hrec (x6.1 15) 0 x11) (by omega)) (jm_Inv.obj (q := ("FilterReaderModel", T_M, 22)) dd_M_folded_75 (Or.inl lk_M_246) mn_M_hide ms_M_hide mw_M_hide mh_M_hide ml_M_hide rfl rfl) mw_M_hide mi_M (Nat.le_of_ble_eq_true rfl) (Nat.le_of_ble_eq_true rfl) (fun x12 => ?_)
  refine jm_V.run (is := bk_M_folded_78_1) (pc' := 79) (ls' := [(2, .int (x6.1 15)), (0, .ref 0), (1, .int v1)]) (st' := [.ref 0]) (x' := x12) hok hT bk_M_folded_78_1_ok rfl ?_
  refine jm_V.callV (av := [.ref 0]) (rest := []) hok (jm_Con.mono (hrec 0 [.ref 0] x12) (by omega)) (jm_Inv.obj (q := ("FilterReaderModel", T_M, 22)) dd_M_folded_79 (Or.inl lk_M_125) mn_M_program ms_M_program mw_M_program mh_M_program ml_M_program rfl rfl) mw_M_program mi_M (Nat.le_of_ble_eq_true rfl) (Nat.le_of_ble_eq_true rfl) (fun x13 => ?_)
  refine jm_V.run (is := bk_M_folded_82_2) (pc' := (if v1 = 0 then 99 else 86)) (ls' := [(2, .int (x6.1 15)), (0, .ref 0), (1, .int v1)]) (st' := []) (x' := x13) hok hT bk_M_folded_82_2_ok rfl ?_
  refine jm_V.ite (fun _ => ?_) (fun _ => ?_)
  · refine jm_V.sub (ls' := [(0, .ref 0), (2, .int (x6.1 15))]) [1, 0] rfl ?_
    exact jj_M_folded_99 hok hrec (x6.1 15) x13
  · refine jm_V.run (is := bk_M_folded_86_2) (pc' := 89) (ls' := [(2, .int (x6.1 15)), (0, .ref 0), (1, .int v1)]) (st' := [.int 23, .ref 0]) (x' := x13) hok hT bk_M_folded_86_2_ok rfl ?_
    refine jm_V.callI (av := [.ref 0, .int 23]) (rest := []) hok (jm_Con.mono (c_M_skip_i hok hrec 23 x13) (by omega)) (jm_Inv.obj (q := ("FilterReaderModel", T_M, 22)) dd_M_folded_89 (Or.inl lk_M_184) mn_M_skip_i ms_M_skip_i mw_M_skip_i mh_M_skip_i ml_M_skip_i rfl rfl) mw_M_skip_i mi_M (Nat.le_of_ble_eq_true rfl) (Nat.le_of_ble_eq_true rfl) (fun b15 x14 => ?_)
    refine jm_V.run (is := bk_M_folded_92_1) (pc' := (if b15 = 0 then 99 else 95)) (ls' := [(2, .int (x6.1 15)), (0, .ref 0), (1, .int v1)]) (st' := []) (x' := x14) hok hT bk_M_folded_92_1_ok rfl ?_
    refine jm_V.ite (fun _ => ?_) (fun _ => ?_)
    · refine jm_V.sub (ls' := [(0, .ref 0), (2, .int (x6.1 15))]) [1, 0] rfl ?_
      exact jj_M_folded_99 hok hrec (x6.1 15) x14
    · refine jm_V.run (is := bk_M_folded_95_1) (pc' := 96) (ls' := [(2, .int (x6.1 15)), (0, .ref 0), (1, .int v1)]) (st' := [.ref 0]) (x' := x14) hok hT bk_M_folded_95_1_ok rfl ?_
      refine jm_V.callV (av := [.ref 0]) (rest := []) hok (jm_Con.mono (hrec 0 [.ref 0] x14) (by omega)) (jm_Inv.obj (q := ("FilterReaderModel", T_M, 22)) dd_M_folded_96 (Or.inl lk_M_125) mn_M_program ms_M_program mw_M_program mh_M_program ml_M_program rfl rfl) mw_M_program mi_M (Nat.le_of_ble_eq_true rfl) (Nat.le_of_ble_eq_true rfl) (fun x16 => ?_)
      refine jm_V.sub (ls' := [(0, .ref 0), (2, .int (x6.1 15))]) [1, 0] rfl ?_
      exact jj_M_folded_99 hok hrec (x6.1 15) x16
def f_M_folded (K : Nat) (g : jm_Rec)  (x : jm_X) : Option jm_R := jm_bI (f_M_is K g 2011 x) (fun b2 x1 => (if b2 = 0 then J_M_folded_22 K g b2 23 x1 else J_M_folded_22 K g b2 24 x1))
set_option maxRecDepth 100000 in
set_option maxHeartbeats 4000000 in
theorem c_M_folded {l : Launch} {D : va_G} {ad : Nat → Nat} {aC : Nat → ClassId} {b0 : Nat} {K d0 : Nat} {g : jm_Rec} (hok : jm_Ok (jm_PP l D clR ad aC shR b0 0)) (hrec : ∀ (t : Nat) (av : List Value) (x : jm_X), jm_Con (jm_PP l D clR ad aC shR b0 0) (rcR t) d0 av x (g t av x))  (x : jm_X) : jm_Con (jm_PP l D clR ad aC shR b0 0) mt_M_folded (d0 + 10) [.ref 0] x (f_M_folded K g  x) := by
  refine jm_Con.of (plainFor_of_name (by decide +kernel)) (Nat.le_of_ble_eq_true rfl) ?_
  have hT := tk_M (l := l) (D := D) (ad := ad) (aC := aC) (b0 := b0)
  unfold f_M_folded
  show jm_V _ _ _ 0 [(0, .ref 0)] [] x _
  refine jm_V.run (is := bk_M_folded_0_1) (pc' := 1) (ls' := [(0, .ref 0)]) (st' := [.ref 0]) (x' := x) hok hT bk_M_folded_0_1_ok rfl ?_
  refine jm_V.lds (o := 2011) (tx := "foreach") (cs_str (i := 11) rfl) dd_M_folded_1 ?_
  refine jm_V.callI (av := [.ref 0, .ref 2011]) (rest := []) hok (jm_Con.mono (c_M_is hok hrec 2011 x) (by omega)) (jm_Inv.obj (q := ("FilterReaderModel", T_M, 22)) dd_M_folded_3 (Or.inl lk_M_180) mn_M_is ms_M_is mw_M_is mh_M_is ml_M_is rfl rfl) mw_M_is mi_M (Nat.le_of_ble_eq_true rfl) (Nat.le_of_ble_eq_true rfl) (fun b2 x1 => ?_)
  refine jm_V.run (is := bk_M_folded_6_5) (pc' := (if b2 = 0 then 20 else 15)) (ls' := [(1, .int b2), (0, .ref 0)]) (st' := [.ref 4]) (x' := x1) hok hT bk_M_folded_6_5_ok rfl ?_
  refine jm_V.ite (fun _ => ?_) (fun _ => ?_)
  · refine jm_V.run (is := bk_M_folded_20_1) (pc' := 22) (ls' := [(1, .int b2), (0, .ref 0)]) (st' := [.int 23, .ref 4]) (x' := x1) hok hT bk_M_folded_20_1_ok rfl ?_
    refine jm_V.sub (ls' := [(0, .ref 0), (1, .int b2)]) [1, 0] rfl ?_
    exact jj_M_folded_22 hok hrec b2 23 x1
  · refine jm_V.run (is := bk_M_folded_15_2) (pc' := 22) (ls' := [(1, .int b2), (0, .ref 0)]) (st' := [.int 24, .ref 4]) (x' := x1) hok hT bk_M_folded_15_2_ok rfl ?_
    refine jm_V.sub (ls' := [(0, .ref 0), (1, .int b2)]) [1, 0] rfl ?_
    exact jj_M_folded_22 hok hrec b2 24 x1
abbrev bk_M_part_0_4 : List (Nat × Instr × Nat) := [(0, .aload_n 0, 1), (1, .getfield 128, 3), (4, .bipush 12, 2), (6, .if_icmp .ne 25, 3)]
theorem bk_M_part_0_4_ok : jm_at mt_M_part.2.1 bk_M_part_0_4 = true := by decide +kernel
abbrev bk_M_part_9_4 : List (Nat × Instr × Nat) := [(9, .aload_n 0, 1), (10, .getfield 76, 3), (13, .bipush 22, 2), (15, .dup2, 1)]
theorem bk_M_part_9_4_ok : jm_at mt_M_part.2.1 bk_M_part_9_4 = true := by decide +kernel
abbrev bk_M_part_17_2 : List (Nat × Instr × Nat) := [(17, .iconst 1, 1), (18, .iadd, 1)]
theorem bk_M_part_17_2_ok : jm_at mt_M_part.2.1 bk_M_part_17_2 = true := by decide +kernel
abbrev bk_M_part_20_1 : List (Nat × Instr × Nat) := [(20, .aload_n 0, 1)]
theorem bk_M_part_20_1_ok : jm_at mt_M_part.2.1 bk_M_part_20_1 = true := by decide +kernel
abbrev bk_M_part_24_1 : List (Nat × Instr × Nat) := [(24, .aload_n 0, 1)]
theorem bk_M_part_24_1_ok : jm_at mt_M_part.2.1 bk_M_part_24_1 = true := by decide +kernel
abbrev bk_M_part_28_1 : List (Nat × Instr × Nat) := [(28, .goto 143, 3)]
theorem bk_M_part_28_1_ok : jm_at mt_M_part.2.1 bk_M_part_28_1 = true := by decide +kernel
abbrev bk_M_part_31_1 : List (Nat × Instr × Nat) := [(31, .aload_n 0, 1)]
theorem bk_M_part_31_1_ok : jm_at mt_M_part.2.1 bk_M_part_31_1 = true := by decide +kernel
abbrev bk_M_part_37_1 : List (Nat × Instr × Nat) := [(37, .ifCond .ne 12, 3)]
theorem bk_M_part_37_1_ok : jm_at mt_M_part.2.1 bk_M_part_37_1 = true := by decide +kernel
abbrev bk_M_part_40_1 : List (Nat × Instr × Nat) := [(40, .aload_n 0, 1)]
theorem bk_M_part_40_1_ok : jm_at mt_M_part.2.1 bk_M_part_40_1 = true := by decide +kernel
abbrev bk_M_part_46_1 : List (Nat × Instr × Nat) := [(46, .ifCond .eq 10, 3)]
theorem bk_M_part_46_1_ok : jm_at mt_M_part.2.1 bk_M_part_46_1 = true := by decide +kernel
abbrev bk_M_part_56_1 : List (Nat × Instr × Nat) := [(56, .aload_n 0, 1)]
theorem bk_M_part_56_1_ok : jm_at mt_M_part.2.1 bk_M_part_56_1 = true := by decide +kernel
abbrev bk_M_part_62_1 : List (Nat × Instr × Nat) := [(62, .ifCond .eq 21, 3)]
theorem bk_M_part_62_1_ok : jm_at mt_M_part.2.1 bk_M_part_62_1 = true := by decide +kernel
abbrev bk_M_part_83_1 : List (Nat × Instr × Nat) := [(83, .aload_n 0, 1)]
theorem bk_M_part_83_1_ok : jm_at mt_M_part.2.1 bk_M_part_83_1 = true := by decide +kernel
abbrev bk_M_part_89_1 : List (Nat × Instr × Nat) := [(89, .ifCond .eq 33, 3)]
theorem bk_M_part_89_1_ok : jm_at mt_M_part.2.1 bk_M_part_89_1 = true := by decide +kernel
abbrev bk_M_part_122_1 : List (Nat × Instr × Nat) := [(122, .aload_n 0, 1)]
theorem bk_M_part_122_1_ok : jm_at mt_M_part.2.1 bk_M_part_122_1 = true := by decide +kernel
abbrev bk_M_part_126_1 : List (Nat × Instr × Nat) := [(126, .aload_n 0, 1)]
theorem bk_M_part_126_1_ok : jm_at mt_M_part.2.1 bk_M_part_126_1 = true := by decide +kernel
abbrev bk_M_part_132_1 : List (Nat × Instr × Nat) := [(132, .ifCond .ne 4, 3)]
theorem bk_M_part_132_1_ok : jm_at mt_M_part.2.1 bk_M_part_132_1 = true := by decide +kernel
abbrev bk_M_part_136_4 : List (Nat × Instr × Nat) := [(136, .aload_n 0, 1), (137, .getfield 76, 3), (140, .bipush 26, 2), (142, .dup2, 1)]
theorem bk_M_part_136_4_ok : jm_at mt_M_part.2.1 bk_M_part_136_4 = true := by decide +kernel
abbrev bk_M_part_144_2 : List (Nat × Instr × Nat) := [(144, .iconst 1, 1), (145, .iadd, 1)]
theorem bk_M_part_144_2_ok : jm_at mt_M_part.2.1 bk_M_part_144_2 = true := by decide +kernel
abbrev bk_M_part_147_4 : List (Nat × Instr × Nat) := [(147, .aload_n 0, 1), (148, .getfield 113, 3), (151, .istore_n 1, 1), (152, .aload_n 0, 1)]
theorem bk_M_part_147_4_ok : jm_at mt_M_part.2.1 bk_M_part_147_4 = true := by decide +kernel
abbrev bk_M_part_156_2 : List (Nat × Instr × Nat) := [(156, .aload_n 0, 1), (157, .bipush 6, 2)]
theorem bk_M_part_156_2_ok : jm_at mt_M_part.2.1 bk_M_part_156_2 = true := by decide +kernel
abbrev bk_M_part_162_1 : List (Nat × Instr × Nat) := [(162, .aload_n 0, 1)]
theorem bk_M_part_162_1_ok : jm_at mt_M_part.2.1 bk_M_part_162_1 = true := by decide +kernel
abbrev bk_M_part_166_3 : List (Nat × Instr × Nat) := [(166, .aload_n 0, 1), (167, .iload_n 1, 1), (168, .putfield 113, 3)]
theorem bk_M_part_166_3_ok : jm_at mt_M_part.2.1 bk_M_part_166_3 = true := by decide +kernel
abbrev bk_M_part_92_4 : List (Nat × Instr × Nat) := [(92, .aload_n 0, 1), (93, .getfield 76, 3), (96, .iconst 5, 1), (97, .dup2, 1)]
theorem bk_M_part_92_4_ok : jm_at mt_M_part.2.1 bk_M_part_92_4 = true := by decide +kernel
abbrev bk_M_part_99_2 : List (Nat × Instr × Nat) := [(99, .iconst 1, 1), (100, .iadd, 1)]
theorem bk_M_part_99_2_ok : jm_at mt_M_part.2.1 bk_M_part_99_2 = true := by decide +kernel
abbrev bk_M_part_102_1 : List (Nat × Instr × Nat) := [(102, .aload_n 0, 1)]
theorem bk_M_part_102_1_ok : jm_at mt_M_part.2.1 bk_M_part_102_1 = true := by decide +kernel
abbrev bk_M_part_106_1 : List (Nat × Instr × Nat) := [(106, .aload_n 0, 1)]
theorem bk_M_part_106_1_ok : jm_at mt_M_part.2.1 bk_M_part_106_1 = true := by decide +kernel
abbrev bk_M_part_112_1 : List (Nat × Instr × Nat) := [(112, .ifCond .eq 59, 3)]
theorem bk_M_part_112_1_ok : jm_at mt_M_part.2.1 bk_M_part_112_1 = true := by decide +kernel
abbrev bk_M_part_115_1 : List (Nat × Instr × Nat) := [(115, .aload_n 0, 1)]
theorem bk_M_part_115_1_ok : jm_at mt_M_part.2.1 bk_M_part_115_1 = true := by decide +kernel
abbrev bk_M_part_119_1 : List (Nat × Instr × Nat) := [(119, .goto 52, 3)]
theorem bk_M_part_119_1_ok : jm_at mt_M_part.2.1 bk_M_part_119_1 = true := by decide +kernel
abbrev bk_M_part_65_4 : List (Nat × Instr × Nat) := [(65, .aload_n 0, 1), (66, .getfield 76, 3), (69, .bipush 25, 2), (71, .dup2, 1)]
theorem bk_M_part_65_4_ok : jm_at mt_M_part.2.1 bk_M_part_65_4 = true := by decide +kernel
abbrev bk_M_part_73_2 : List (Nat × Instr × Nat) := [(73, .iconst 1, 1), (74, .iadd, 1)]
theorem bk_M_part_73_2_ok : jm_at mt_M_part.2.1 bk_M_part_73_2 = true := by decide +kernel
abbrev bk_M_part_76_1 : List (Nat × Instr × Nat) := [(76, .aload_n 0, 1)]
theorem bk_M_part_76_1_ok : jm_at mt_M_part.2.1 bk_M_part_76_1 = true := by decide +kernel
abbrev bk_M_part_80_1 : List (Nat × Instr × Nat) := [(80, .goto 91, 3)]
theorem bk_M_part_80_1_ok : jm_at mt_M_part.2.1 bk_M_part_80_1 = true := by decide +kernel
abbrev bk_M_part_49_1 : List (Nat × Instr × Nat) := [(49, .aload_n 0, 1)]
theorem bk_M_part_49_1_ok : jm_at mt_M_part.2.1 bk_M_part_49_1 = true := by decide +kernel
abbrev bk_M_part_53_1 : List (Nat × Instr × Nat) := [(53, .goto 118, 3)]
theorem bk_M_part_53_1_ok : jm_at mt_M_part.2.1 bk_M_part_53_1 = true := by decide +kernel
theorem dd_M_part_21 : decode mt_M_part.2.1 21 = .ok (.invokevirtual 122, 3) := by decide +kernel
theorem dd_M_part_25 : decode mt_M_part.2.1 25 = .ok (.invokevirtual 231, 3) := by decide +kernel
theorem dd_M_part_19 : decode mt_M_part.2.1 19 = .ok (.iastore, 1) := by decide +kernel
theorem dd_M_part_16 : decode mt_M_part.2.1 16 = .ok (.iaload, 1) := by decide +kernel
theorem dd_M_part_34 : decode mt_M_part.2.1 34 = .ok (.invokevirtual 180, 3) := by decide +kernel
theorem dd_M_part_43 : decode mt_M_part.2.1 43 = .ok (.invokevirtual 180, 3) := by decide +kernel
theorem dd_M_part_59 : decode mt_M_part.2.1 59 = .ok (.invokevirtual 187, 3) := by decide +kernel
theorem dd_M_part_86 : decode mt_M_part.2.1 86 = .ok (.invokevirtual 187, 3) := by decide +kernel
theorem dd_M_part_123 : decode mt_M_part.2.1 123 = .ok (.invokevirtual 231, 3) := by decide +kernel
theorem dd_M_part_129 : decode mt_M_part.2.1 129 = .ok (.invokevirtual 187, 3) := by decide +kernel
theorem dd_M_part_135 : decode mt_M_part.2.1 135 = .ok (.return_, 1) := by decide +kernel
theorem dd_M_part_153 : decode mt_M_part.2.1 153 = .ok (.invokevirtual 240, 3) := by decide +kernel
theorem dd_M_part_159 : decode mt_M_part.2.1 159 = .ok (.invokevirtual 199, 3) := by decide +kernel
theorem dd_M_part_163 : decode mt_M_part.2.1 163 = .ok (.invokevirtual 125, 3) := by decide +kernel
theorem dd_M_part_146 : decode mt_M_part.2.1 146 = .ok (.iastore, 1) := by decide +kernel
theorem dd_M_part_143 : decode mt_M_part.2.1 143 = .ok (.iaload, 1) := by decide +kernel
theorem dd_M_part_127 : decode mt_M_part.2.1 127 = .ok (.ldc 11, 2) := by decide +kernel
theorem dd_M_part_103 : decode mt_M_part.2.1 103 = .ok (.invokevirtual 231, 3) := by decide +kernel
theorem dd_M_part_109 : decode mt_M_part.2.1 109 = .ok (.invokevirtual 187, 3) := by decide +kernel
theorem dd_M_part_116 : decode mt_M_part.2.1 116 = .ok (.invokevirtual 231, 3) := by decide +kernel
theorem dd_M_part_107 : decode mt_M_part.2.1 107 = .ok (.ldc 15, 2) := by decide +kernel
theorem dd_M_part_101 : decode mt_M_part.2.1 101 = .ok (.iastore, 1) := by decide +kernel
theorem dd_M_part_98 : decode mt_M_part.2.1 98 = .ok (.iaload, 1) := by decide +kernel
theorem dd_M_part_84 : decode mt_M_part.2.1 84 = .ok (.ldc 37, 2) := by decide +kernel
theorem dd_M_part_77 : decode mt_M_part.2.1 77 = .ok (.invokevirtual 237, 3) := by decide +kernel
theorem dd_M_part_75 : decode mt_M_part.2.1 75 = .ok (.iastore, 1) := by decide +kernel
theorem dd_M_part_72 : decode mt_M_part.2.1 72 = .ok (.iaload, 1) := by decide +kernel
theorem dd_M_part_57 : decode mt_M_part.2.1 57 = .ok (.ldc 27, 2) := by decide +kernel
theorem dd_M_part_41 : decode mt_M_part.2.1 41 = .ok (.ldc 25, 2) := by decide +kernel
theorem dd_M_part_32 : decode mt_M_part.2.1 32 = .ok (.ldc 33, 2) := by decide +kernel
theorem dd_M_part_50 : decode mt_M_part.2.1 50 = .ok (.invokevirtual 234, 3) := by decide +kernel
theorem dd_M_part_171 : decode mt_M_part.2.1 171 = .ok (.return_, 1) := by decide +kernel
def J_M_part_171 (K : Nat) (g : jm_Rec)  (x : jm_X) : Option jm_R := some (.inl (none, x))
set_option maxRecDepth 100000 in
set_option maxHeartbeats 4000000 in
theorem jj_M_part_171 {l : Launch} {D : va_G} {ad : Nat → Nat} {aC : Nat → ClassId} {b0 : Nat} {K d0 : Nat} {g : jm_Rec} (hok : jm_Ok (jm_PP l D clR ad aC shR b0 0)) (hrec : ∀ (t : Nat) (av : List Value) (x : jm_X), jm_Con (jm_PP l D clR ad aC shR b0 0) (rcR t) d0 av x (g t av x))  (x : jm_X) : jm_V (jm_PP l D clR ad aC shR b0 0) mt_M_part (d0 + 11) 171 [] [] x (J_M_part_171 K g  x) := by
  have hT := tk_M (l := l) (D := D) (ad := ad) (aC := aC) (b0 := b0)
  unfold J_M_part_171
  exact jm_V.vret rfl dd_M_part_171
def J_M_part_49 (K : Nat) (g : jm_Rec)  (x : jm_X) : Option jm_R := jm_bV (f_M_folded K g x) (fun x27 => J_M_part_171 K g x27)
set_option maxRecDepth 100000 in
set_option maxHeartbeats 4000000 in
theorem jj_M_part_49 {l : Launch} {D : va_G} {ad : Nat → Nat} {aC : Nat → ClassId} {b0 : Nat} {K d0 : Nat} {g : jm_Rec} (hok : jm_Ok (jm_PP l D clR ad aC shR b0 0)) (hrec : ∀ (t : Nat) (av : List Value) (x : jm_X), jm_Con (jm_PP l D clR ad aC shR b0 0) (rcR t) d0 av x (g t av x))  (x : jm_X) : jm_V (jm_PP l D clR ad aC shR b0 0) mt_M_part (d0 + 11) 49 [(0, .ref 0)] [] x (J_M_part_49 K g  x) := by
  have hT := tk_M (l := l) (D := D) (ad := ad) (aC := aC) (b0 := b0)
  unfold J_M_part_49
  refine jm_V.run (is := bk_M_part_49_1) (pc' := 50) (ls' := [(0, .ref 0)]) (st' := [.ref 0]) (x' := x) hok hT bk_M_part_49_1_ok rfl ?_
  refine jm_V.callV (av := [.ref 0]) (rest := []) hok (jm_Con.mono (c_M_folded hok hrec x) (by omega)) (jm_Inv.obj (q := ("FilterReaderModel", T_M, 22)) dd_M_part_50 (Or.inl lk_M_234) mn_M_folded ms_M_folded mw_M_folded mh_M_folded ml_M_folded rfl rfl) mw_M_folded mi_M (Nat.le_of_ble_eq_true rfl) (Nat.le_of_ble_eq_true rfl) (fun x27 => ?_)
  refine jm_V.run (is := bk_M_part_53_1) (pc' := 171) (ls' := [(0, .ref 0)]) (st' := []) (x' := x27) hok hT bk_M_part_53_1_ok rfl ?_
  refine jm_V.sub (ls' := []) [] rfl ?_
  exact jj_M_part_171 hok hrec x27
def f_M_part (K : Nat) (g : jm_Rec)  (x : jm_X) : Option jm_R := (if (x.1 11) = 12 then (if jm_in shR 4 .int 22 then (if jm_in shR 4 .int 22 then jm_then (jm_ua x 4 22 ((x.2.2 4 (Int32.toNatClampNeg 22)) + 1)) (fun x1 => jm_bV (f_M_scan K g x1) (fun x2 => jm_bV (f_M_term K g x2) (fun x3 => J_M_part_171 K g x3))) else none) else none) else jm_bI (f_M_is K g 2015 x) (fun b5 x4 => (if b5 = 0 then jm_bI (f_M_is K g 2011 x4) (fun b7 x6 => (if b7 = 0 then jm_bI (f_M_skip_s K g 2012 x6) (fun b9 x8 => (if b9 = 0 then jm_bI (f_M_skip_s K g 2017 x8) (fun b11 x10 => (if b11 = 0 then jm_bV (f_M_term K g x10) (fun x12 => jm_bI (f_M_skip_s K g 2004 x12) (fun b14 x13 => (if b14 = 0 then some (.inl (none, x13)) else (if jm_in shR 4 .int 26 then (if jm_in shR 4 .int 26 then jm_then (jm_ua x13 4 26 ((x13.2.2 4 (Int32.toNatClampNeg 26)) + 1)) (fun x15 => jm_bV (f_M_whole K g x15) (fun x16 => jm_bV (f_M_need_i K g 6 x16) (fun x17 => jm_bV (g 0 [.ref 0] x17) (fun x18 => jm_then (va_up x18.1 15 (x15.1 15), x18.2) (fun x19 => J_M_part_171 K g x19))))) else none) else none)))) else (if jm_in shR 4 .int 5 then (if jm_in shR 4 .int 5 then jm_then (jm_ua x10 4 5 ((x10.2.2 4 (Int32.toNatClampNeg 5)) + 1)) (fun x20 => jm_bV (f_M_term K g x20) (fun x21 => jm_bI (f_M_skip_s K g 2006 x21) (fun b23 x22 => (if b23 = 0 then J_M_part_171 K g x22 else jm_bV (f_M_term K g x22) (fun x24 => J_M_part_171 K g x24))))) else none) else none))) else (if jm_in shR 4 .int 25 then (if jm_in shR 4 .int 25 then jm_then (jm_ua x8 4 25 ((x8.2.2 4 (Int32.toNatClampNeg 25)) + 1)) (fun x25 => jm_bV (f_M_condition K g x25) (fun x26 => J_M_part_171 K g x26)) else none) else none))) else J_M_part_49 K g x6)) else J_M_part_49 K g x4)))
set_option maxRecDepth 100000 in
set_option maxHeartbeats 4000000 in
theorem c_M_part {l : Launch} {D : va_G} {ad : Nat → Nat} {aC : Nat → ClassId} {b0 : Nat} {K d0 : Nat} {g : jm_Rec} (hok : jm_Ok (jm_PP l D clR ad aC shR b0 0)) (hrec : ∀ (t : Nat) (av : List Value) (x : jm_X), jm_Con (jm_PP l D clR ad aC shR b0 0) (rcR t) d0 av x (g t av x))  (x : jm_X) : jm_Con (jm_PP l D clR ad aC shR b0 0) mt_M_part (d0 + 11) [.ref 0] x (f_M_part K g  x) := by
  refine jm_Con.of (plainFor_of_name (by decide +kernel)) (Nat.le_of_ble_eq_true rfl) ?_
  have hT := tk_M (l := l) (D := D) (ad := ad) (aC := aC) (b0 := b0)
  unfold f_M_part
  show jm_V _ _ _ 0 [(0, .ref 0)] [] x _
  refine jm_V.run (is := bk_M_part_0_4) (pc' := (if (x.1 11) = 12 then 9 else 31)) (ls' := [(0, .ref 0)]) (st' := []) (x' := x) hok hT bk_M_part_0_4_ok rfl ?_
  refine jm_V.ite (fun _ => ?_) (fun _ => ?_)
  · refine jm_V.run (is := bk_M_part_9_4) (pc' := 16) (ls' := [(0, .ref 0)]) (st' := [.int 22, .ref 4, .int 22, .ref 4]) (x' := x) hok hT bk_M_part_9_4_ok rfl ?_
    refine jm_V.iald dd_M_part_16 ?_
    refine jm_V.run (is := bk_M_part_17_2) (pc' := 19) (ls' := [(0, .ref 0)]) (st' := [.int ((x.2.2 4 (Int32.toNatClampNeg 22)) + 1), .int 22, .ref 4]) (x' := x) hok hT bk_M_part_17_2_ok rfl ?_
    refine jm_V.iast hok dd_M_part_19 ?_
    refine jm_V.then_ (fun x1 => ?_)
    refine jm_V.run (is := bk_M_part_20_1) (pc' := 21) (ls' := [(0, .ref 0)]) (st' := [.ref 0]) (x' := x1) hok hT bk_M_part_20_1_ok rfl ?_
    refine jm_V.callV (av := [.ref 0]) (rest := []) hok (jm_Con.mono (c_M_scan hok hrec x1) (by omega)) (jm_Inv.obj (q := ("FilterReaderModel", T_M, 22)) dd_M_part_21 (Or.inl lk_M_122) mn_M_scan ms_M_scan mw_M_scan mh_M_scan ml_M_scan rfl rfl) mw_M_scan mi_M (Nat.le_of_ble_eq_true rfl) (Nat.le_of_ble_eq_true rfl) (fun x2 => ?_)
    refine jm_V.run (is := bk_M_part_24_1) (pc' := 25) (ls' := [(0, .ref 0)]) (st' := [.ref 0]) (x' := x2) hok hT bk_M_part_24_1_ok rfl ?_
    refine jm_V.callV (av := [.ref 0]) (rest := []) hok (jm_Con.mono (c_M_term hok hrec x2) (by omega)) (jm_Inv.obj (q := ("FilterReaderModel", T_M, 22)) dd_M_part_25 (Or.inl lk_M_231) mn_M_term ms_M_term mw_M_term mh_M_term ml_M_term rfl rfl) mw_M_term mi_M (Nat.le_of_ble_eq_true rfl) (Nat.le_of_ble_eq_true rfl) (fun x3 => ?_)
    refine jm_V.run (is := bk_M_part_28_1) (pc' := 171) (ls' := [(0, .ref 0)]) (st' := []) (x' := x3) hok hT bk_M_part_28_1_ok rfl ?_
    refine jm_V.sub (ls' := []) [] rfl ?_
    exact jj_M_part_171 hok hrec x3
  · refine jm_V.run (is := bk_M_part_31_1) (pc' := 32) (ls' := [(0, .ref 0)]) (st' := [.ref 0]) (x' := x) hok hT bk_M_part_31_1_ok rfl ?_
    refine jm_V.lds (o := 2015) (tx := "reduce") (cs_str (i := 15) rfl) dd_M_part_32 ?_
    refine jm_V.callI (av := [.ref 0, .ref 2015]) (rest := []) hok (jm_Con.mono (c_M_is hok hrec 2015 x) (by omega)) (jm_Inv.obj (q := ("FilterReaderModel", T_M, 22)) dd_M_part_34 (Or.inl lk_M_180) mn_M_is ms_M_is mw_M_is mh_M_is ml_M_is rfl rfl) mw_M_is mi_M (Nat.le_of_ble_eq_true rfl) (Nat.le_of_ble_eq_true rfl) (fun b5 x4 => ?_)
    refine jm_V.run (is := bk_M_part_37_1) (pc' := (if b5 = 0 then 40 else 49)) (ls' := [(0, .ref 0)]) (st' := []) (x' := x4) hok hT bk_M_part_37_1_ok rfl ?_
    refine jm_V.ite (fun _ => ?_) (fun _ => ?_)
    · refine jm_V.run (is := bk_M_part_40_1) (pc' := 41) (ls' := [(0, .ref 0)]) (st' := [.ref 0]) (x' := x4) hok hT bk_M_part_40_1_ok rfl ?_
      refine jm_V.lds (o := 2011) (tx := "foreach") (cs_str (i := 11) rfl) dd_M_part_41 ?_
      refine jm_V.callI (av := [.ref 0, .ref 2011]) (rest := []) hok (jm_Con.mono (c_M_is hok hrec 2011 x4) (by omega)) (jm_Inv.obj (q := ("FilterReaderModel", T_M, 22)) dd_M_part_43 (Or.inl lk_M_180) mn_M_is ms_M_is mw_M_is mh_M_is ml_M_is rfl rfl) mw_M_is mi_M (Nat.le_of_ble_eq_true rfl) (Nat.le_of_ble_eq_true rfl) (fun b7 x6 => ?_)
      refine jm_V.run (is := bk_M_part_46_1) (pc' := (if b7 = 0 then 56 else 49)) (ls' := [(0, .ref 0)]) (st' := []) (x' := x6) hok hT bk_M_part_46_1_ok rfl ?_
      refine jm_V.ite (fun _ => ?_) (fun _ => ?_)
      · refine jm_V.run (is := bk_M_part_56_1) (pc' := 57) (ls' := [(0, .ref 0)]) (st' := [.ref 0]) (x' := x6) hok hT bk_M_part_56_1_ok rfl ?_
        refine jm_V.lds (o := 2012) (tx := "if") (cs_str (i := 12) rfl) dd_M_part_57 ?_
        refine jm_V.callI (av := [.ref 0, .ref 2012]) (rest := []) hok (jm_Con.mono (c_M_skip_s hok hrec 2012 x6) (by omega)) (jm_Inv.obj (q := ("FilterReaderModel", T_M, 22)) dd_M_part_59 (Or.inl lk_M_187) mn_M_skip_s ms_M_skip_s mw_M_skip_s mh_M_skip_s ml_M_skip_s rfl rfl) mw_M_skip_s mi_M (Nat.le_of_ble_eq_true rfl) (Nat.le_of_ble_eq_true rfl) (fun b9 x8 => ?_)
        refine jm_V.run (is := bk_M_part_62_1) (pc' := (if b9 = 0 then 83 else 65)) (ls' := [(0, .ref 0)]) (st' := []) (x' := x8) hok hT bk_M_part_62_1_ok rfl ?_
        refine jm_V.ite (fun _ => ?_) (fun _ => ?_)
        · refine jm_V.run (is := bk_M_part_83_1) (pc' := 84) (ls' := [(0, .ref 0)]) (st' := [.ref 0]) (x' := x8) hok hT bk_M_part_83_1_ok rfl ?_
          refine jm_V.lds (o := 2017) (tx := "try") (cs_str (i := 17) rfl) dd_M_part_84 ?_
          refine jm_V.callI (av := [.ref 0, .ref 2017]) (rest := []) hok (jm_Con.mono (c_M_skip_s hok hrec 2017 x8) (by omega)) (jm_Inv.obj (q := ("FilterReaderModel", T_M, 22)) dd_M_part_86 (Or.inl lk_M_187) mn_M_skip_s ms_M_skip_s mw_M_skip_s mh_M_skip_s ml_M_skip_s rfl rfl) mw_M_skip_s mi_M (Nat.le_of_ble_eq_true rfl) (Nat.le_of_ble_eq_true rfl) (fun b11 x10 => ?_)
          refine jm_V.run (is := bk_M_part_89_1) (pc' := (if b11 = 0 then 122 else 92)) (ls' := [(0, .ref 0)]) (st' := []) (x' := x10) hok hT bk_M_part_89_1_ok rfl ?_
          refine jm_V.ite (fun _ => ?_) (fun _ => ?_)
          · refine jm_V.run (is := bk_M_part_122_1) (pc' := 123) (ls' := [(0, .ref 0)]) (st' := [.ref 0]) (x' := x10) hok hT bk_M_part_122_1_ok rfl ?_
            refine jm_V.callV (av := [.ref 0]) (rest := []) hok (jm_Con.mono (c_M_term hok hrec x10) (by omega)) (jm_Inv.obj (q := ("FilterReaderModel", T_M, 22)) dd_M_part_123 (Or.inl lk_M_231) mn_M_term ms_M_term mw_M_term mh_M_term ml_M_term rfl rfl) mw_M_term mi_M (Nat.le_of_ble_eq_true rfl) (Nat.le_of_ble_eq_true rfl) (fun x12 => ?_)
            refine jm_V.run (is := bk_M_part_126_1) (pc' := 127) (ls' := [(0, .ref 0)]) (st' := [.ref 0]) (x' := x12) hok hT bk_M_part_126_1_ok rfl ?_
            refine jm_V.lds (o := 2004) (tx := "as") (cs_str (i := 4) rfl) dd_M_part_127 ?_
            refine jm_V.callI (av := [.ref 0, .ref 2004]) (rest := []) hok (jm_Con.mono (c_M_skip_s hok hrec 2004 x12) (by omega)) (jm_Inv.obj (q := ("FilterReaderModel", T_M, 22)) dd_M_part_129 (Or.inl lk_M_187) mn_M_skip_s ms_M_skip_s mw_M_skip_s mh_M_skip_s ml_M_skip_s rfl rfl) mw_M_skip_s mi_M (Nat.le_of_ble_eq_true rfl) (Nat.le_of_ble_eq_true rfl) (fun b14 x13 => ?_)
            refine jm_V.run (is := bk_M_part_132_1) (pc' := (if b14 = 0 then 135 else 136)) (ls' := [(0, .ref 0)]) (st' := []) (x' := x13) hok hT bk_M_part_132_1_ok rfl ?_
            refine jm_V.ite (fun _ => ?_) (fun _ => ?_)
            · exact jm_V.vret rfl dd_M_part_135
            · refine jm_V.run (is := bk_M_part_136_4) (pc' := 143) (ls' := [(0, .ref 0)]) (st' := [.int 26, .ref 4, .int 26, .ref 4]) (x' := x13) hok hT bk_M_part_136_4_ok rfl ?_
              refine jm_V.iald dd_M_part_143 ?_
              refine jm_V.run (is := bk_M_part_144_2) (pc' := 146) (ls' := [(0, .ref 0)]) (st' := [.int ((x13.2.2 4 (Int32.toNatClampNeg 26)) + 1), .int 26, .ref 4]) (x' := x13) hok hT bk_M_part_144_2_ok rfl ?_
              refine jm_V.iast hok dd_M_part_146 ?_
              refine jm_V.then_ (fun x15 => ?_)
              refine jm_V.run (is := bk_M_part_147_4) (pc' := 153) (ls' := [(1, .int (x15.1 15)), (0, .ref 0)]) (st' := [.ref 0]) (x' := x15) hok hT bk_M_part_147_4_ok rfl ?_
              refine jm_V.callV (av := [.ref 0]) (rest := []) hok (jm_Con.mono (c_M_whole hok hrec x15) (by omega)) (jm_Inv.obj (q := ("FilterReaderModel", T_M, 22)) dd_M_part_153 (Or.inl lk_M_240) mn_M_whole ms_M_whole mw_M_whole mh_M_whole ml_M_whole rfl rfl) mw_M_whole mi_M (Nat.le_of_ble_eq_true rfl) (Nat.le_of_ble_eq_true rfl) (fun x16 => ?_)
              refine jm_V.run (is := bk_M_part_156_2) (pc' := 159) (ls' := [(1, .int (x15.1 15)), (0, .ref 0)]) (st' := [.int 6, .ref 0]) (x' := x16) hok hT bk_M_part_156_2_ok rfl ?_
              refine jm_V.callV (av := [.ref 0, .int 6]) (rest := []) hok (jm_Con.mono (c_M_need_i hok hrec 6 x16) (by omega)) (jm_Inv.obj (q := ("FilterReaderModel", T_M, 22)) dd_M_part_159 (Or.inl lk_M_199) mn_M_need_i ms_M_need_i mw_M_need_i mh_M_need_i ml_M_need_i rfl rfl) mw_M_need_i mi_M (Nat.le_of_ble_eq_true rfl) (Nat.le_of_ble_eq_true rfl) (fun x17 => ?_)
              refine jm_V.run (is := bk_M_part_162_1) (pc' := 163) (ls' := [(1, .int (x15.1 15)), (0, .ref 0)]) (st' := [.ref 0]) (x' := x17) hok hT bk_M_part_162_1_ok rfl ?_
              refine jm_V.callV (av := [.ref 0]) (rest := []) hok (jm_Con.mono (hrec 0 [.ref 0] x17) (by omega)) (jm_Inv.obj (q := ("FilterReaderModel", T_M, 22)) dd_M_part_163 (Or.inl lk_M_125) mn_M_program ms_M_program mw_M_program mh_M_program ml_M_program rfl rfl) mw_M_program mi_M (Nat.le_of_ble_eq_true rfl) (Nat.le_of_ble_eq_true rfl) (fun x18 => ?_)
              refine jm_V.run (is := bk_M_part_166_3) (pc' := 171) (ls' := [(1, .int (x15.1 15)), (0, .ref 0)]) (st' := []) (x' := (va_up x18.1 15 (x15.1 15), x18.2)) hok hT bk_M_part_166_3_ok rfl ?_
              refine jm_V.then_ (fun x19 => ?_)
              refine jm_V.sub (ls' := []) [] rfl ?_
              exact jj_M_part_171 hok hrec x19
          · refine jm_V.run (is := bk_M_part_92_4) (pc' := 98) (ls' := [(0, .ref 0)]) (st' := [.int 5, .ref 4, .int 5, .ref 4]) (x' := x10) hok hT bk_M_part_92_4_ok rfl ?_
            refine jm_V.iald dd_M_part_98 ?_
            refine jm_V.run (is := bk_M_part_99_2) (pc' := 101) (ls' := [(0, .ref 0)]) (st' := [.int ((x10.2.2 4 (Int32.toNatClampNeg 5)) + 1), .int 5, .ref 4]) (x' := x10) hok hT bk_M_part_99_2_ok rfl ?_
            refine jm_V.iast hok dd_M_part_101 ?_
            refine jm_V.then_ (fun x20 => ?_)
            refine jm_V.run (is := bk_M_part_102_1) (pc' := 103) (ls' := [(0, .ref 0)]) (st' := [.ref 0]) (x' := x20) hok hT bk_M_part_102_1_ok rfl ?_
            refine jm_V.callV (av := [.ref 0]) (rest := []) hok (jm_Con.mono (c_M_term hok hrec x20) (by omega)) (jm_Inv.obj (q := ("FilterReaderModel", T_M, 22)) dd_M_part_103 (Or.inl lk_M_231) mn_M_term ms_M_term mw_M_term mh_M_term ml_M_term rfl rfl) mw_M_term mi_M (Nat.le_of_ble_eq_true rfl) (Nat.le_of_ble_eq_true rfl) (fun x21 => ?_)
            refine jm_V.run (is := bk_M_part_106_1) (pc' := 107) (ls' := [(0, .ref 0)]) (st' := [.ref 0]) (x' := x21) hok hT bk_M_part_106_1_ok rfl ?_
            refine jm_V.lds (o := 2006) (tx := "catch") (cs_str (i := 6) rfl) dd_M_part_107 ?_
            refine jm_V.callI (av := [.ref 0, .ref 2006]) (rest := []) hok (jm_Con.mono (c_M_skip_s hok hrec 2006 x21) (by omega)) (jm_Inv.obj (q := ("FilterReaderModel", T_M, 22)) dd_M_part_109 (Or.inl lk_M_187) mn_M_skip_s ms_M_skip_s mw_M_skip_s mh_M_skip_s ml_M_skip_s rfl rfl) mw_M_skip_s mi_M (Nat.le_of_ble_eq_true rfl) (Nat.le_of_ble_eq_true rfl) (fun b23 x22 => ?_)
            refine jm_V.run (is := bk_M_part_112_1) (pc' := (if b23 = 0 then 171 else 115)) (ls' := [(0, .ref 0)]) (st' := []) (x' := x22) hok hT bk_M_part_112_1_ok rfl ?_
            refine jm_V.ite (fun _ => ?_) (fun _ => ?_)
            · refine jm_V.sub (ls' := []) [] rfl ?_
              exact jj_M_part_171 hok hrec x22
            · refine jm_V.run (is := bk_M_part_115_1) (pc' := 116) (ls' := [(0, .ref 0)]) (st' := [.ref 0]) (x' := x22) hok hT bk_M_part_115_1_ok rfl ?_
              refine jm_V.callV (av := [.ref 0]) (rest := []) hok (jm_Con.mono (c_M_term hok hrec x22) (by omega)) (jm_Inv.obj (q := ("FilterReaderModel", T_M, 22)) dd_M_part_116 (Or.inl lk_M_231) mn_M_term ms_M_term mw_M_term mh_M_term ml_M_term rfl rfl) mw_M_term mi_M (Nat.le_of_ble_eq_true rfl) (Nat.le_of_ble_eq_true rfl) (fun x24 => ?_)
              refine jm_V.run (is := bk_M_part_119_1) (pc' := 171) (ls' := [(0, .ref 0)]) (st' := []) (x' := x24) hok hT bk_M_part_119_1_ok rfl ?_
              refine jm_V.sub (ls' := []) [] rfl ?_
              exact jj_M_part_171 hok hrec x24
        · refine jm_V.run (is := bk_M_part_65_4) (pc' := 72) (ls' := [(0, .ref 0)]) (st' := [.int 25, .ref 4, .int 25, .ref 4]) (x' := x8) hok hT bk_M_part_65_4_ok rfl ?_
          refine jm_V.iald dd_M_part_72 ?_
          refine jm_V.run (is := bk_M_part_73_2) (pc' := 75) (ls' := [(0, .ref 0)]) (st' := [.int ((x8.2.2 4 (Int32.toNatClampNeg 25)) + 1), .int 25, .ref 4]) (x' := x8) hok hT bk_M_part_73_2_ok rfl ?_
          refine jm_V.iast hok dd_M_part_75 ?_
          refine jm_V.then_ (fun x25 => ?_)
          refine jm_V.run (is := bk_M_part_76_1) (pc' := 77) (ls' := [(0, .ref 0)]) (st' := [.ref 0]) (x' := x25) hok hT bk_M_part_76_1_ok rfl ?_
          refine jm_V.callV (av := [.ref 0]) (rest := []) hok (jm_Con.mono (c_M_condition hok hrec x25) (by omega)) (jm_Inv.obj (q := ("FilterReaderModel", T_M, 22)) dd_M_part_77 (Or.inl lk_M_237) mn_M_condition ms_M_condition mw_M_condition mh_M_condition ml_M_condition rfl rfl) mw_M_condition mi_M (Nat.le_of_ble_eq_true rfl) (Nat.le_of_ble_eq_true rfl) (fun x26 => ?_)
          refine jm_V.run (is := bk_M_part_80_1) (pc' := 171) (ls' := [(0, .ref 0)]) (st' := []) (x' := x26) hok hT bk_M_part_80_1_ok rfl ?_
          refine jm_V.sub (ls' := []) [] rfl ?_
          exact jj_M_part_171 hok hrec x26
      · exact jj_M_part_49 hok hrec x6
    · exact jj_M_part_49 hok hrec x4
abbrev bk_M_product_0_1 : List (Nat × Instr × Nat) := [(0, .aload_n 0, 1)]
theorem bk_M_product_0_1_ok : jm_at mt_M_product.2.1 bk_M_product_0_1 = true := by decide +kernel
abbrev bk_M_product_4_4 : List (Nat × Instr × Nat) := [(4, .aload_n 0, 1), (5, .getfield 128, 3), (8, .bipush 13, 2), (10, .if_icmp .ne 25, 3)]
theorem bk_M_product_4_4_ok : jm_at mt_M_product.2.1 bk_M_product_4_4 = true := by decide +kernel
abbrev bk_M_product_13_4 : List (Nat × Instr × Nat) := [(13, .aload_n 0, 1), (14, .getfield 76, 3), (17, .bipush 21, 2), (19, .dup2, 1)]
theorem bk_M_product_13_4_ok : jm_at mt_M_product.2.1 bk_M_product_13_4 = true := by decide +kernel
abbrev bk_M_product_21_2 : List (Nat × Instr × Nat) := [(21, .iconst 1, 1), (22, .iadd, 1)]
theorem bk_M_product_21_2_ok : jm_at mt_M_product.2.1 bk_M_product_21_2 = true := by decide +kernel
abbrev bk_M_product_24_1 : List (Nat × Instr × Nat) := [(24, .aload_n 0, 1)]
theorem bk_M_product_24_1_ok : jm_at mt_M_product.2.1 bk_M_product_24_1 = true := by decide +kernel
abbrev bk_M_product_28_1 : List (Nat × Instr × Nat) := [(28, .aload_n 0, 1)]
theorem bk_M_product_28_1_ok : jm_at mt_M_product.2.1 bk_M_product_28_1 = true := by decide +kernel
abbrev bk_M_product_32_1 : List (Nat × Instr × Nat) := [(32, .goto (-28), 3)]
theorem bk_M_product_32_1_ok : jm_at mt_M_product.2.1 bk_M_product_32_1 = true := by decide +kernel
theorem dd_M_product_1 : decode mt_M_product.2.1 1 = .ok (.invokevirtual 228, 3) := by decide +kernel
theorem dd_M_product_25 : decode mt_M_product.2.1 25 = .ok (.invokevirtual 122, 3) := by decide +kernel
theorem dd_M_product_29 : decode mt_M_product.2.1 29 = .ok (.invokevirtual 228, 3) := by decide +kernel
theorem dd_M_product_23 : decode mt_M_product.2.1 23 = .ok (.iastore, 1) := by decide +kernel
theorem dd_M_product_20 : decode mt_M_product.2.1 20 = .ok (.iaload, 1) := by decide +kernel
theorem dd_M_product_35 : decode mt_M_product.2.1 35 = .ok (.return_, 1) := by decide +kernel
def B_M_product_4 (K : Nat) (g : jm_Rec) (self : jm_X → Option jm_R)  (x : jm_X) : Option jm_R := (if (x.1 11) = 13 then (if jm_in shR 4 .int 21 then (if jm_in shR 4 .int 21 then jm_then (jm_ua x 4 21 ((x.2.2 4 (Int32.toNatClampNeg 21)) + 1)) (fun x2 => jm_bV (f_M_scan K g x2) (fun x3 => jm_bV (f_M_part K g x3) (fun x4 => self x4))) else none) else none) else some (.inl (none, x)))
def L_M_product_4 (K : Nat) (g : jm_Rec) : Nat → jm_X → Option jm_R
  | 0, _ => none
  | k + 1, x => B_M_product_4 K g (L_M_product_4 K g k)  x
set_option maxRecDepth 100000 in
set_option maxHeartbeats 4000000 in
theorem jb_M_product_4 {l : Launch} {D : va_G} {ad : Nat → Nat} {aC : Nat → ClassId} {b0 : Nat} {K d0 : Nat} {g : jm_Rec} (hok : jm_Ok (jm_PP l D clR ad aC shR b0 0)) (hrec : ∀ (t : Nat) (av : List Value) (x : jm_X), jm_Con (jm_PP l D clR ad aC shR b0 0) (rcR t) d0 av x (g t av x)) {self : jm_X → Option jm_R} (hself : ∀  (x : jm_X), jm_V (jm_PP l D clR ad aC shR b0 0) mt_M_product (d0 + 12) 4 [(0, .ref 0)] [] x (self  x))  (x : jm_X) : jm_V (jm_PP l D clR ad aC shR b0 0) mt_M_product (d0 + 12) 4 [(0, .ref 0)] [] x (B_M_product_4 K g self  x) := by
  have hT := tk_M (l := l) (D := D) (ad := ad) (aC := aC) (b0 := b0)
  unfold B_M_product_4
  refine jm_V.run (is := bk_M_product_4_4) (pc' := (if (x.1 11) = 13 then 13 else 35)) (ls' := [(0, .ref 0)]) (st' := []) (x' := x) hok hT bk_M_product_4_4_ok rfl ?_
  refine jm_V.ite (fun _ => ?_) (fun _ => ?_)
  · refine jm_V.run (is := bk_M_product_13_4) (pc' := 20) (ls' := [(0, .ref 0)]) (st' := [.int 21, .ref 4, .int 21, .ref 4]) (x' := x) hok hT bk_M_product_13_4_ok rfl ?_
    refine jm_V.iald dd_M_product_20 ?_
    refine jm_V.run (is := bk_M_product_21_2) (pc' := 23) (ls' := [(0, .ref 0)]) (st' := [.int ((x.2.2 4 (Int32.toNatClampNeg 21)) + 1), .int 21, .ref 4]) (x' := x) hok hT bk_M_product_21_2_ok rfl ?_
    refine jm_V.iast hok dd_M_product_23 ?_
    refine jm_V.then_ (fun x2 => ?_)
    refine jm_V.run (is := bk_M_product_24_1) (pc' := 25) (ls' := [(0, .ref 0)]) (st' := [.ref 0]) (x' := x2) hok hT bk_M_product_24_1_ok rfl ?_
    refine jm_V.callV (av := [.ref 0]) (rest := []) hok (jm_Con.mono (c_M_scan hok hrec x2) (by omega)) (jm_Inv.obj (q := ("FilterReaderModel", T_M, 22)) dd_M_product_25 (Or.inl lk_M_122) mn_M_scan ms_M_scan mw_M_scan mh_M_scan ml_M_scan rfl rfl) mw_M_scan mi_M (Nat.le_of_ble_eq_true rfl) (Nat.le_of_ble_eq_true rfl) (fun x3 => ?_)
    refine jm_V.run (is := bk_M_product_28_1) (pc' := 29) (ls' := [(0, .ref 0)]) (st' := [.ref 0]) (x' := x3) hok hT bk_M_product_28_1_ok rfl ?_
    refine jm_V.callV (av := [.ref 0]) (rest := []) hok (jm_Con.mono (c_M_part hok hrec x3) (by omega)) (jm_Inv.obj (q := ("FilterReaderModel", T_M, 22)) dd_M_product_29 (Or.inl lk_M_228) mn_M_part ms_M_part mw_M_part mh_M_part ml_M_part rfl rfl) mw_M_part mi_M (Nat.le_of_ble_eq_true rfl) (Nat.le_of_ble_eq_true rfl) (fun x4 => ?_)
    refine jm_V.run (is := bk_M_product_32_1) (pc' := 4) (ls' := [(0, .ref 0)]) (st' := []) (x' := x4) hok hT bk_M_product_32_1_ok rfl ?_
    exact hself x4
  · exact jm_V.vret rfl dd_M_product_35
theorem jl_M_product_4 {l : Launch} {D : va_G} {ad : Nat → Nat} {aC : Nat → ClassId} {b0 : Nat} {K d0 : Nat} {g : jm_Rec} (hok : jm_Ok (jm_PP l D clR ad aC shR b0 0)) (hrec : ∀ (t : Nat) (av : List Value) (x : jm_X), jm_Con (jm_PP l D clR ad aC shR b0 0) (rcR t) d0 av x (g t av x)) : ∀ (k : Nat)  (x : jm_X), jm_V (jm_PP l D clR ad aC shR b0 0) mt_M_product (d0 + 12) 4 [(0, .ref 0)] [] x (L_M_product_4 K g k  x)
  | 0, _ => jm_V.stuck
  | k + 1, x => jb_M_product_4 hok hrec (fun  x => jl_M_product_4 hok hrec k  x)  x
def f_M_product (K : Nat) (g : jm_Rec)  (x : jm_X) : Option jm_R := jm_bV (f_M_part K g x) (fun x1 => L_M_product_4 K g K x1)
set_option maxRecDepth 100000 in
set_option maxHeartbeats 4000000 in
theorem c_M_product {l : Launch} {D : va_G} {ad : Nat → Nat} {aC : Nat → ClassId} {b0 : Nat} {K d0 : Nat} {g : jm_Rec} (hok : jm_Ok (jm_PP l D clR ad aC shR b0 0)) (hrec : ∀ (t : Nat) (av : List Value) (x : jm_X), jm_Con (jm_PP l D clR ad aC shR b0 0) (rcR t) d0 av x (g t av x))  (x : jm_X) : jm_Con (jm_PP l D clR ad aC shR b0 0) mt_M_product (d0 + 12) [.ref 0] x (f_M_product K g  x) := by
  refine jm_Con.of (plainFor_of_name (by decide +kernel)) (Nat.le_of_ble_eq_true rfl) ?_
  have hT := tk_M (l := l) (D := D) (ad := ad) (aC := aC) (b0 := b0)
  unfold f_M_product
  show jm_V _ _ _ 0 [(0, .ref 0)] [] x _
  refine jm_V.run (is := bk_M_product_0_1) (pc' := 1) (ls' := [(0, .ref 0)]) (st' := [.ref 0]) (x' := x) hok hT bk_M_product_0_1_ok rfl ?_
  refine jm_V.callV (av := [.ref 0]) (rest := []) hok (jm_Con.mono (c_M_part hok hrec x) (by omega)) (jm_Inv.obj (q := ("FilterReaderModel", T_M, 22)) dd_M_product_1 (Or.inl lk_M_228) mn_M_part ms_M_part mw_M_part mh_M_part ml_M_part rfl rfl) mw_M_part mi_M (Nat.le_of_ble_eq_true rfl) (Nat.le_of_ble_eq_true rfl) (fun x1 => ?_)
  exact jl_M_product_4 hok hrec K x1
abbrev bk_M_sum_0_1 : List (Nat × Instr × Nat) := [(0, .aload_n 0, 1)]
theorem bk_M_sum_0_1_ok : jm_at mt_M_sum.2.1 bk_M_sum_0_1 = true := by decide +kernel
abbrev bk_M_sum_4_4 : List (Nat × Instr × Nat) := [(4, .aload_n 0, 1), (5, .getfield 128, 3), (8, .bipush 11, 2), (10, .if_icmp .eq 12, 3)]
theorem bk_M_sum_4_4_ok : jm_at mt_M_sum.2.1 bk_M_sum_4_4 = true := by decide +kernel
abbrev bk_M_sum_13_4 : List (Nat × Instr × Nat) := [(13, .aload_n 0, 1), (14, .getfield 128, 3), (17, .bipush 12, 2), (19, .if_icmp .ne 25, 3)]
theorem bk_M_sum_13_4_ok : jm_at mt_M_sum.2.1 bk_M_sum_13_4 = true := by decide +kernel
abbrev bk_M_sum_22_4 : List (Nat × Instr × Nat) := [(22, .aload_n 0, 1), (23, .getfield 76, 3), (26, .bipush 21, 2), (28, .dup2, 1)]
theorem bk_M_sum_22_4_ok : jm_at mt_M_sum.2.1 bk_M_sum_22_4 = true := by decide +kernel
abbrev bk_M_sum_30_2 : List (Nat × Instr × Nat) := [(30, .iconst 1, 1), (31, .iadd, 1)]
theorem bk_M_sum_30_2_ok : jm_at mt_M_sum.2.1 bk_M_sum_30_2 = true := by decide +kernel
abbrev bk_M_sum_33_1 : List (Nat × Instr × Nat) := [(33, .aload_n 0, 1)]
theorem bk_M_sum_33_1_ok : jm_at mt_M_sum.2.1 bk_M_sum_33_1 = true := by decide +kernel
abbrev bk_M_sum_37_1 : List (Nat × Instr × Nat) := [(37, .aload_n 0, 1)]
theorem bk_M_sum_37_1_ok : jm_at mt_M_sum.2.1 bk_M_sum_37_1 = true := by decide +kernel
abbrev bk_M_sum_41_1 : List (Nat × Instr × Nat) := [(41, .goto (-37), 3)]
theorem bk_M_sum_41_1_ok : jm_at mt_M_sum.2.1 bk_M_sum_41_1 = true := by decide +kernel
theorem dd_M_sum_1 : decode mt_M_sum.2.1 1 = .ok (.invokevirtual 225, 3) := by decide +kernel
theorem dd_M_sum_44 : decode mt_M_sum.2.1 44 = .ok (.return_, 1) := by decide +kernel
theorem dd_M_sum_34 : decode mt_M_sum.2.1 34 = .ok (.invokevirtual 122, 3) := by decide +kernel
theorem dd_M_sum_38 : decode mt_M_sum.2.1 38 = .ok (.invokevirtual 225, 3) := by decide +kernel
theorem dd_M_sum_32 : decode mt_M_sum.2.1 32 = .ok (.iastore, 1) := by decide +kernel
theorem dd_M_sum_29 : decode mt_M_sum.2.1 29 = .ok (.iaload, 1) := by decide +kernel
def J_M_sum_22 (K : Nat) (g : jm_Rec) (k4 : jm_X → Option jm_R)  (x : jm_X) : Option jm_R := (if jm_in shR 4 .int 21 then (if jm_in shR 4 .int 21 then jm_then (jm_ua x 4 21 ((x.2.2 4 (Int32.toNatClampNeg 21)) + 1)) (fun x2 => jm_bV (f_M_scan K g x2) (fun x3 => jm_bV (f_M_product K g x3) (fun x4 => k4 x4))) else none) else none)
set_option maxRecDepth 100000 in
set_option maxHeartbeats 4000000 in
theorem jj_M_sum_22 {l : Launch} {D : va_G} {ad : Nat → Nat} {aC : Nat → ClassId} {b0 : Nat} {K d0 : Nat} {g : jm_Rec} (hok : jm_Ok (jm_PP l D clR ad aC shR b0 0)) (hrec : ∀ (t : Nat) (av : List Value) (x : jm_X), jm_Con (jm_PP l D clR ad aC shR b0 0) (rcR t) d0 av x (g t av x)) {k4 : jm_X → Option jm_R} (hk4 : ∀  (x : jm_X), jm_V (jm_PP l D clR ad aC shR b0 0) mt_M_sum (d0 + 13) 4 [(0, .ref 0)] [] x (k4  x))  (x : jm_X) : jm_V (jm_PP l D clR ad aC shR b0 0) mt_M_sum (d0 + 13) 22 [(0, .ref 0)] [] x (J_M_sum_22 K g k4  x) := by
  have hT := tk_M (l := l) (D := D) (ad := ad) (aC := aC) (b0 := b0)
  unfold J_M_sum_22
  refine jm_V.run (is := bk_M_sum_22_4) (pc' := 29) (ls' := [(0, .ref 0)]) (st' := [.int 21, .ref 4, .int 21, .ref 4]) (x' := x) hok hT bk_M_sum_22_4_ok rfl ?_
  refine jm_V.iald dd_M_sum_29 ?_
  refine jm_V.run (is := bk_M_sum_30_2) (pc' := 32) (ls' := [(0, .ref 0)]) (st' := [.int ((x.2.2 4 (Int32.toNatClampNeg 21)) + 1), .int 21, .ref 4]) (x' := x) hok hT bk_M_sum_30_2_ok rfl ?_
  refine jm_V.iast hok dd_M_sum_32 ?_
  refine jm_V.then_ (fun x2 => ?_)
  refine jm_V.run (is := bk_M_sum_33_1) (pc' := 34) (ls' := [(0, .ref 0)]) (st' := [.ref 0]) (x' := x2) hok hT bk_M_sum_33_1_ok rfl ?_
  refine jm_V.callV (av := [.ref 0]) (rest := []) hok (jm_Con.mono (c_M_scan hok hrec x2) (by omega)) (jm_Inv.obj (q := ("FilterReaderModel", T_M, 22)) dd_M_sum_34 (Or.inl lk_M_122) mn_M_scan ms_M_scan mw_M_scan mh_M_scan ml_M_scan rfl rfl) mw_M_scan mi_M (Nat.le_of_ble_eq_true rfl) (Nat.le_of_ble_eq_true rfl) (fun x3 => ?_)
  refine jm_V.run (is := bk_M_sum_37_1) (pc' := 38) (ls' := [(0, .ref 0)]) (st' := [.ref 0]) (x' := x3) hok hT bk_M_sum_37_1_ok rfl ?_
  refine jm_V.callV (av := [.ref 0]) (rest := []) hok (jm_Con.mono (c_M_product hok hrec x3) (by omega)) (jm_Inv.obj (q := ("FilterReaderModel", T_M, 22)) dd_M_sum_38 (Or.inl lk_M_225) mn_M_product ms_M_product mw_M_product mh_M_product ml_M_product rfl rfl) mw_M_product mi_M (Nat.le_of_ble_eq_true rfl) (Nat.le_of_ble_eq_true rfl) (fun x4 => ?_)
  refine jm_V.run (is := bk_M_sum_41_1) (pc' := 4) (ls' := [(0, .ref 0)]) (st' := []) (x' := x4) hok hT bk_M_sum_41_1_ok rfl ?_
  exact hk4 x4
def B_M_sum_4 (K : Nat) (g : jm_Rec) (self : jm_X → Option jm_R)  (x : jm_X) : Option jm_R := (if (x.1 11) = 11 then J_M_sum_22 K g self x else (if (x.1 11) = 12 then J_M_sum_22 K g self x else some (.inl (none, x))))
def L_M_sum_4 (K : Nat) (g : jm_Rec) : Nat → jm_X → Option jm_R
  | 0, _ => none
  | k + 1, x => B_M_sum_4 K g (L_M_sum_4 K g k)  x
set_option maxRecDepth 100000 in
set_option maxHeartbeats 4000000 in
theorem jb_M_sum_4 {l : Launch} {D : va_G} {ad : Nat → Nat} {aC : Nat → ClassId} {b0 : Nat} {K d0 : Nat} {g : jm_Rec} (hok : jm_Ok (jm_PP l D clR ad aC shR b0 0)) (hrec : ∀ (t : Nat) (av : List Value) (x : jm_X), jm_Con (jm_PP l D clR ad aC shR b0 0) (rcR t) d0 av x (g t av x)) {self : jm_X → Option jm_R} (hself : ∀  (x : jm_X), jm_V (jm_PP l D clR ad aC shR b0 0) mt_M_sum (d0 + 13) 4 [(0, .ref 0)] [] x (self  x))  (x : jm_X) : jm_V (jm_PP l D clR ad aC shR b0 0) mt_M_sum (d0 + 13) 4 [(0, .ref 0)] [] x (B_M_sum_4 K g self  x) := by
  have hT := tk_M (l := l) (D := D) (ad := ad) (aC := aC) (b0 := b0)
  unfold B_M_sum_4
  refine jm_V.run (is := bk_M_sum_4_4) (pc' := (if (x.1 11) = 11 then 22 else 13)) (ls' := [(0, .ref 0)]) (st' := []) (x' := x) hok hT bk_M_sum_4_4_ok rfl ?_
  refine jm_V.ite (fun _ => ?_) (fun _ => ?_)
  · exact jj_M_sum_22 hok hrec hself x
  · refine jm_V.run (is := bk_M_sum_13_4) (pc' := (if (x.1 11) = 12 then 22 else 44)) (ls' := [(0, .ref 0)]) (st' := []) (x' := x) hok hT bk_M_sum_13_4_ok rfl ?_
    refine jm_V.ite (fun _ => ?_) (fun _ => ?_)
    · exact jj_M_sum_22 hok hrec hself x
    · exact jm_V.vret rfl dd_M_sum_44
theorem jl_M_sum_4 {l : Launch} {D : va_G} {ad : Nat → Nat} {aC : Nat → ClassId} {b0 : Nat} {K d0 : Nat} {g : jm_Rec} (hok : jm_Ok (jm_PP l D clR ad aC shR b0 0)) (hrec : ∀ (t : Nat) (av : List Value) (x : jm_X), jm_Con (jm_PP l D clR ad aC shR b0 0) (rcR t) d0 av x (g t av x)) : ∀ (k : Nat)  (x : jm_X), jm_V (jm_PP l D clR ad aC shR b0 0) mt_M_sum (d0 + 13) 4 [(0, .ref 0)] [] x (L_M_sum_4 K g k  x)
  | 0, _ => jm_V.stuck
  | k + 1, x => jb_M_sum_4 hok hrec (fun  x => jl_M_sum_4 hok hrec k  x)  x
def f_M_sum (K : Nat) (g : jm_Rec)  (x : jm_X) : Option jm_R := jm_bV (f_M_product K g x) (fun x1 => L_M_sum_4 K g K x1)
set_option maxRecDepth 100000 in
set_option maxHeartbeats 4000000 in
theorem c_M_sum {l : Launch} {D : va_G} {ad : Nat → Nat} {aC : Nat → ClassId} {b0 : Nat} {K d0 : Nat} {g : jm_Rec} (hok : jm_Ok (jm_PP l D clR ad aC shR b0 0)) (hrec : ∀ (t : Nat) (av : List Value) (x : jm_X), jm_Con (jm_PP l D clR ad aC shR b0 0) (rcR t) d0 av x (g t av x))  (x : jm_X) : jm_Con (jm_PP l D clR ad aC shR b0 0) mt_M_sum (d0 + 13) [.ref 0] x (f_M_sum K g  x) := by
  refine jm_Con.of (plainFor_of_name (by decide +kernel)) (Nat.le_of_ble_eq_true rfl) ?_
  have hT := tk_M (l := l) (D := D) (ad := ad) (aC := aC) (b0 := b0)
  unfold f_M_sum
  show jm_V _ _ _ 0 [(0, .ref 0)] [] x _
  refine jm_V.run (is := bk_M_sum_0_1) (pc' := 1) (ls' := [(0, .ref 0)]) (st' := [.ref 0]) (x' := x) hok hT bk_M_sum_0_1_ok rfl ?_
  refine jm_V.callV (av := [.ref 0]) (rest := []) hok (jm_Con.mono (c_M_product hok hrec x) (by omega)) (jm_Inv.obj (q := ("FilterReaderModel", T_M, 22)) dd_M_sum_1 (Or.inl lk_M_225) mn_M_product ms_M_product mw_M_product mh_M_product ml_M_product rfl rfl) mw_M_product mi_M (Nat.le_of_ble_eq_true rfl) (Nat.le_of_ble_eq_true rfl) (fun x1 => ?_)
  exact jl_M_sum_4 hok hrec K x1
abbrev bk_M_compared_0_1 : List (Nat × Instr × Nat) := [(0, .aload_n 0, 1)]
theorem bk_M_compared_0_1_ok : jm_at mt_M_compared.2.1 bk_M_compared_0_1 = true := by decide +kernel
abbrev bk_M_compared_4_4 : List (Nat × Instr × Nat) := [(4, .aload_n 0, 1), (5, .getfield 128, 3), (8, .bipush 10, 2), (10, .if_icmp .eq 4, 3)]
theorem bk_M_compared_4_4_ok : jm_at mt_M_compared.2.1 bk_M_compared_4_4 = true := by decide +kernel
abbrev bk_M_compared_14_4 : List (Nat × Instr × Nat) := [(14, .aload_n 0, 1), (15, .getfield 76, 3), (18, .bipush 21, 2), (20, .dup2, 1)]
theorem bk_M_compared_14_4_ok : jm_at mt_M_compared.2.1 bk_M_compared_14_4 = true := by decide +kernel
abbrev bk_M_compared_22_2 : List (Nat × Instr × Nat) := [(22, .iconst 1, 1), (23, .iadd, 1)]
theorem bk_M_compared_22_2_ok : jm_at mt_M_compared.2.1 bk_M_compared_22_2 = true := by decide +kernel
abbrev bk_M_compared_25_1 : List (Nat × Instr × Nat) := [(25, .aload_n 0, 1)]
theorem bk_M_compared_25_1_ok : jm_at mt_M_compared.2.1 bk_M_compared_25_1 = true := by decide +kernel
abbrev bk_M_compared_29_1 : List (Nat × Instr × Nat) := [(29, .aload_n 0, 1)]
theorem bk_M_compared_29_1_ok : jm_at mt_M_compared.2.1 bk_M_compared_29_1 = true := by decide +kernel
theorem dd_M_compared_1 : decode mt_M_compared.2.1 1 = .ok (.invokevirtual 222, 3) := by decide +kernel
theorem dd_M_compared_26 : decode mt_M_compared.2.1 26 = .ok (.invokevirtual 122, 3) := by decide +kernel
theorem dd_M_compared_30 : decode mt_M_compared.2.1 30 = .ok (.invokevirtual 222, 3) := by decide +kernel
theorem dd_M_compared_33 : decode mt_M_compared.2.1 33 = .ok (.return_, 1) := by decide +kernel
theorem dd_M_compared_24 : decode mt_M_compared.2.1 24 = .ok (.iastore, 1) := by decide +kernel
theorem dd_M_compared_21 : decode mt_M_compared.2.1 21 = .ok (.iaload, 1) := by decide +kernel
theorem dd_M_compared_13 : decode mt_M_compared.2.1 13 = .ok (.return_, 1) := by decide +kernel
def f_M_compared (K : Nat) (g : jm_Rec)  (x : jm_X) : Option jm_R := jm_bV (f_M_sum K g x) (fun x1 => (if (x1.1 11) = 10 then (if jm_in shR 4 .int 21 then (if jm_in shR 4 .int 21 then jm_then (jm_ua x1 4 21 ((x1.2.2 4 (Int32.toNatClampNeg 21)) + 1)) (fun x2 => jm_bV (f_M_scan K g x2) (fun x3 => jm_bV (f_M_sum K g x3) (fun x4 => some (.inl (none, x4))))) else none) else none) else some (.inl (none, x1))))
set_option maxRecDepth 100000 in
set_option maxHeartbeats 4000000 in
theorem c_M_compared {l : Launch} {D : va_G} {ad : Nat → Nat} {aC : Nat → ClassId} {b0 : Nat} {K d0 : Nat} {g : jm_Rec} (hok : jm_Ok (jm_PP l D clR ad aC shR b0 0)) (hrec : ∀ (t : Nat) (av : List Value) (x : jm_X), jm_Con (jm_PP l D clR ad aC shR b0 0) (rcR t) d0 av x (g t av x))  (x : jm_X) : jm_Con (jm_PP l D clR ad aC shR b0 0) mt_M_compared (d0 + 14) [.ref 0] x (f_M_compared K g  x) := by
  refine jm_Con.of (plainFor_of_name (by decide +kernel)) (Nat.le_of_ble_eq_true rfl) ?_
  have hT := tk_M (l := l) (D := D) (ad := ad) (aC := aC) (b0 := b0)
  unfold f_M_compared
  show jm_V _ _ _ 0 [(0, .ref 0)] [] x _
  refine jm_V.run (is := bk_M_compared_0_1) (pc' := 1) (ls' := [(0, .ref 0)]) (st' := [.ref 0]) (x' := x) hok hT bk_M_compared_0_1_ok rfl ?_
  refine jm_V.callV (av := [.ref 0]) (rest := []) hok (jm_Con.mono (c_M_sum hok hrec x) (by omega)) (jm_Inv.obj (q := ("FilterReaderModel", T_M, 22)) dd_M_compared_1 (Or.inl lk_M_222) mn_M_sum ms_M_sum mw_M_sum mh_M_sum ml_M_sum rfl rfl) mw_M_sum mi_M (Nat.le_of_ble_eq_true rfl) (Nat.le_of_ble_eq_true rfl) (fun x1 => ?_)
  refine jm_V.run (is := bk_M_compared_4_4) (pc' := (if (x1.1 11) = 10 then 14 else 13)) (ls' := [(0, .ref 0)]) (st' := []) (x' := x1) hok hT bk_M_compared_4_4_ok rfl ?_
  refine jm_V.ite (fun _ => ?_) (fun _ => ?_)
  · refine jm_V.run (is := bk_M_compared_14_4) (pc' := 21) (ls' := [(0, .ref 0)]) (st' := [.int 21, .ref 4, .int 21, .ref 4]) (x' := x1) hok hT bk_M_compared_14_4_ok rfl ?_
    refine jm_V.iald dd_M_compared_21 ?_
    refine jm_V.run (is := bk_M_compared_22_2) (pc' := 24) (ls' := [(0, .ref 0)]) (st' := [.int ((x1.2.2 4 (Int32.toNatClampNeg 21)) + 1), .int 21, .ref 4]) (x' := x1) hok hT bk_M_compared_22_2_ok rfl ?_
    refine jm_V.iast hok dd_M_compared_24 ?_
    refine jm_V.then_ (fun x2 => ?_)
    refine jm_V.run (is := bk_M_compared_25_1) (pc' := 26) (ls' := [(0, .ref 0)]) (st' := [.ref 0]) (x' := x2) hok hT bk_M_compared_25_1_ok rfl ?_
    refine jm_V.callV (av := [.ref 0]) (rest := []) hok (jm_Con.mono (c_M_scan hok hrec x2) (by omega)) (jm_Inv.obj (q := ("FilterReaderModel", T_M, 22)) dd_M_compared_26 (Or.inl lk_M_122) mn_M_scan ms_M_scan mw_M_scan mh_M_scan ml_M_scan rfl rfl) mw_M_scan mi_M (Nat.le_of_ble_eq_true rfl) (Nat.le_of_ble_eq_true rfl) (fun x3 => ?_)
    refine jm_V.run (is := bk_M_compared_29_1) (pc' := 30) (ls' := [(0, .ref 0)]) (st' := [.ref 0]) (x' := x3) hok hT bk_M_compared_29_1_ok rfl ?_
    refine jm_V.callV (av := [.ref 0]) (rest := []) hok (jm_Con.mono (c_M_sum hok hrec x3) (by omega)) (jm_Inv.obj (q := ("FilterReaderModel", T_M, 22)) dd_M_compared_30 (Or.inl lk_M_222) mn_M_sum ms_M_sum mw_M_sum mh_M_sum ml_M_sum rfl rfl) mw_M_sum mi_M (Nat.le_of_ble_eq_true rfl) (Nat.le_of_ble_eq_true rfl) (fun x4 => ?_)
    exact jm_V.vret rfl dd_M_compared_33
  · exact jm_V.vret rfl dd_M_compared_13
abbrev bk_M_ands_0_1 : List (Nat × Instr × Nat) := [(0, .aload_n 0, 1)]
theorem bk_M_ands_0_1_ok : jm_at mt_M_ands.2.1 bk_M_ands_0_1 = true := by decide +kernel
abbrev bk_M_ands_4_1 : List (Nat × Instr × Nat) := [(4, .aload_n 0, 1)]
theorem bk_M_ands_4_1_ok : jm_at mt_M_ands.2.1 bk_M_ands_4_1 = true := by decide +kernel
abbrev bk_M_ands_10_1 : List (Nat × Instr × Nat) := [(10, .ifCond .eq 21, 3)]
theorem bk_M_ands_10_1_ok : jm_at mt_M_ands.2.1 bk_M_ands_10_1 = true := by decide +kernel
abbrev bk_M_ands_13_4 : List (Nat × Instr × Nat) := [(13, .aload_n 0, 1), (14, .getfield 76, 3), (17, .bipush 20, 2), (19, .dup2, 1)]
theorem bk_M_ands_13_4_ok : jm_at mt_M_ands.2.1 bk_M_ands_13_4 = true := by decide +kernel
abbrev bk_M_ands_21_2 : List (Nat × Instr × Nat) := [(21, .iconst 1, 1), (22, .iadd, 1)]
theorem bk_M_ands_21_2_ok : jm_at mt_M_ands.2.1 bk_M_ands_21_2 = true := by decide +kernel
abbrev bk_M_ands_24_1 : List (Nat × Instr × Nat) := [(24, .aload_n 0, 1)]
theorem bk_M_ands_24_1_ok : jm_at mt_M_ands.2.1 bk_M_ands_24_1 = true := by decide +kernel
abbrev bk_M_ands_28_1 : List (Nat × Instr × Nat) := [(28, .goto (-24), 3)]
theorem bk_M_ands_28_1_ok : jm_at mt_M_ands.2.1 bk_M_ands_28_1 = true := by decide +kernel
theorem dd_M_ands_1 : decode mt_M_ands.2.1 1 = .ok (.invokevirtual 219, 3) := by decide +kernel
theorem dd_M_ands_7 : decode mt_M_ands.2.1 7 = .ok (.invokevirtual 187, 3) := by decide +kernel
theorem dd_M_ands_31 : decode mt_M_ands.2.1 31 = .ok (.return_, 1) := by decide +kernel
theorem dd_M_ands_25 : decode mt_M_ands.2.1 25 = .ok (.invokevirtual 219, 3) := by decide +kernel
theorem dd_M_ands_23 : decode mt_M_ands.2.1 23 = .ok (.iastore, 1) := by decide +kernel
theorem dd_M_ands_20 : decode mt_M_ands.2.1 20 = .ok (.iaload, 1) := by decide +kernel
theorem dd_M_ands_5 : decode mt_M_ands.2.1 5 = .ok (.ldc 9, 2) := by decide +kernel
def B_M_ands_4 (K : Nat) (g : jm_Rec) (self : jm_X → Option jm_R)  (x : jm_X) : Option jm_R := jm_bI (f_M_skip_s K g 2003 x) (fun b3 x2 => (if b3 = 0 then some (.inl (none, x2)) else (if jm_in shR 4 .int 20 then (if jm_in shR 4 .int 20 then jm_then (jm_ua x2 4 20 ((x2.2.2 4 (Int32.toNatClampNeg 20)) + 1)) (fun x4 => jm_bV (f_M_compared K g x4) (fun x5 => self x5)) else none) else none)))
def L_M_ands_4 (K : Nat) (g : jm_Rec) : Nat → jm_X → Option jm_R
  | 0, _ => none
  | k + 1, x => B_M_ands_4 K g (L_M_ands_4 K g k)  x
set_option maxRecDepth 100000 in
set_option maxHeartbeats 4000000 in
theorem jb_M_ands_4 {l : Launch} {D : va_G} {ad : Nat → Nat} {aC : Nat → ClassId} {b0 : Nat} {K d0 : Nat} {g : jm_Rec} (hok : jm_Ok (jm_PP l D clR ad aC shR b0 0)) (hrec : ∀ (t : Nat) (av : List Value) (x : jm_X), jm_Con (jm_PP l D clR ad aC shR b0 0) (rcR t) d0 av x (g t av x)) {self : jm_X → Option jm_R} (hself : ∀  (x : jm_X), jm_V (jm_PP l D clR ad aC shR b0 0) mt_M_ands (d0 + 15) 4 [(0, .ref 0)] [] x (self  x))  (x : jm_X) : jm_V (jm_PP l D clR ad aC shR b0 0) mt_M_ands (d0 + 15) 4 [(0, .ref 0)] [] x (B_M_ands_4 K g self  x) := by
  have hT := tk_M (l := l) (D := D) (ad := ad) (aC := aC) (b0 := b0)
  unfold B_M_ands_4
  refine jm_V.run (is := bk_M_ands_4_1) (pc' := 5) (ls' := [(0, .ref 0)]) (st' := [.ref 0]) (x' := x) hok hT bk_M_ands_4_1_ok rfl ?_
  refine jm_V.lds (o := 2003) (tx := "and") (cs_str (i := 3) rfl) dd_M_ands_5 ?_
  refine jm_V.callI (av := [.ref 0, .ref 2003]) (rest := []) hok (jm_Con.mono (c_M_skip_s hok hrec 2003 x) (by omega)) (jm_Inv.obj (q := ("FilterReaderModel", T_M, 22)) dd_M_ands_7 (Or.inl lk_M_187) mn_M_skip_s ms_M_skip_s mw_M_skip_s mh_M_skip_s ml_M_skip_s rfl rfl) mw_M_skip_s mi_M (Nat.le_of_ble_eq_true rfl) (Nat.le_of_ble_eq_true rfl) (fun b3 x2 => ?_)
  refine jm_V.run (is := bk_M_ands_10_1) (pc' := (if b3 = 0 then 31 else 13)) (ls' := [(0, .ref 0)]) (st' := []) (x' := x2) hok hT bk_M_ands_10_1_ok rfl ?_
  refine jm_V.ite (fun _ => ?_) (fun _ => ?_)
  · exact jm_V.vret rfl dd_M_ands_31
  · refine jm_V.run (is := bk_M_ands_13_4) (pc' := 20) (ls' := [(0, .ref 0)]) (st' := [.int 20, .ref 4, .int 20, .ref 4]) (x' := x2) hok hT bk_M_ands_13_4_ok rfl ?_
    refine jm_V.iald dd_M_ands_20 ?_
    refine jm_V.run (is := bk_M_ands_21_2) (pc' := 23) (ls' := [(0, .ref 0)]) (st' := [.int ((x2.2.2 4 (Int32.toNatClampNeg 20)) + 1), .int 20, .ref 4]) (x' := x2) hok hT bk_M_ands_21_2_ok rfl ?_
    refine jm_V.iast hok dd_M_ands_23 ?_
    refine jm_V.then_ (fun x4 => ?_)
    refine jm_V.run (is := bk_M_ands_24_1) (pc' := 25) (ls' := [(0, .ref 0)]) (st' := [.ref 0]) (x' := x4) hok hT bk_M_ands_24_1_ok rfl ?_
    refine jm_V.callV (av := [.ref 0]) (rest := []) hok (jm_Con.mono (c_M_compared hok hrec x4) (by omega)) (jm_Inv.obj (q := ("FilterReaderModel", T_M, 22)) dd_M_ands_25 (Or.inl lk_M_219) mn_M_compared ms_M_compared mw_M_compared mh_M_compared ml_M_compared rfl rfl) mw_M_compared mi_M (Nat.le_of_ble_eq_true rfl) (Nat.le_of_ble_eq_true rfl) (fun x5 => ?_)
    refine jm_V.run (is := bk_M_ands_28_1) (pc' := 4) (ls' := [(0, .ref 0)]) (st' := []) (x' := x5) hok hT bk_M_ands_28_1_ok rfl ?_
    exact hself x5
theorem jl_M_ands_4 {l : Launch} {D : va_G} {ad : Nat → Nat} {aC : Nat → ClassId} {b0 : Nat} {K d0 : Nat} {g : jm_Rec} (hok : jm_Ok (jm_PP l D clR ad aC shR b0 0)) (hrec : ∀ (t : Nat) (av : List Value) (x : jm_X), jm_Con (jm_PP l D clR ad aC shR b0 0) (rcR t) d0 av x (g t av x)) : ∀ (k : Nat)  (x : jm_X), jm_V (jm_PP l D clR ad aC shR b0 0) mt_M_ands (d0 + 15) 4 [(0, .ref 0)] [] x (L_M_ands_4 K g k  x)
  | 0, _ => jm_V.stuck
  | k + 1, x => jb_M_ands_4 hok hrec (fun  x => jl_M_ands_4 hok hrec k  x)  x
def f_M_ands (K : Nat) (g : jm_Rec)  (x : jm_X) : Option jm_R := jm_bV (f_M_compared K g x) (fun x1 => L_M_ands_4 K g K x1)
set_option maxRecDepth 100000 in
set_option maxHeartbeats 4000000 in
theorem c_M_ands {l : Launch} {D : va_G} {ad : Nat → Nat} {aC : Nat → ClassId} {b0 : Nat} {K d0 : Nat} {g : jm_Rec} (hok : jm_Ok (jm_PP l D clR ad aC shR b0 0)) (hrec : ∀ (t : Nat) (av : List Value) (x : jm_X), jm_Con (jm_PP l D clR ad aC shR b0 0) (rcR t) d0 av x (g t av x))  (x : jm_X) : jm_Con (jm_PP l D clR ad aC shR b0 0) mt_M_ands (d0 + 15) [.ref 0] x (f_M_ands K g  x) := by
  refine jm_Con.of (plainFor_of_name (by decide +kernel)) (Nat.le_of_ble_eq_true rfl) ?_
  have hT := tk_M (l := l) (D := D) (ad := ad) (aC := aC) (b0 := b0)
  unfold f_M_ands
  show jm_V _ _ _ 0 [(0, .ref 0)] [] x _
  refine jm_V.run (is := bk_M_ands_0_1) (pc' := 1) (ls' := [(0, .ref 0)]) (st' := [.ref 0]) (x' := x) hok hT bk_M_ands_0_1_ok rfl ?_
  refine jm_V.callV (av := [.ref 0]) (rest := []) hok (jm_Con.mono (c_M_compared hok hrec x) (by omega)) (jm_Inv.obj (q := ("FilterReaderModel", T_M, 22)) dd_M_ands_1 (Or.inl lk_M_219) mn_M_compared ms_M_compared mw_M_compared mh_M_compared ml_M_compared rfl rfl) mw_M_compared mi_M (Nat.le_of_ble_eq_true rfl) (Nat.le_of_ble_eq_true rfl) (fun x1 => ?_)
  exact jl_M_ands_4 hok hrec K x1
abbrev bk_M_ors_0_1 : List (Nat × Instr × Nat) := [(0, .aload_n 0, 1)]
theorem bk_M_ors_0_1_ok : jm_at mt_M_ors.2.1 bk_M_ors_0_1 = true := by decide +kernel
abbrev bk_M_ors_4_1 : List (Nat × Instr × Nat) := [(4, .aload_n 0, 1)]
theorem bk_M_ors_4_1_ok : jm_at mt_M_ors.2.1 bk_M_ors_4_1 = true := by decide +kernel
abbrev bk_M_ors_10_1 : List (Nat × Instr × Nat) := [(10, .ifCond .eq 21, 3)]
theorem bk_M_ors_10_1_ok : jm_at mt_M_ors.2.1 bk_M_ors_10_1 = true := by decide +kernel
abbrev bk_M_ors_13_4 : List (Nat × Instr × Nat) := [(13, .aload_n 0, 1), (14, .getfield 76, 3), (17, .bipush 20, 2), (19, .dup2, 1)]
theorem bk_M_ors_13_4_ok : jm_at mt_M_ors.2.1 bk_M_ors_13_4 = true := by decide +kernel
abbrev bk_M_ors_21_2 : List (Nat × Instr × Nat) := [(21, .iconst 1, 1), (22, .iadd, 1)]
theorem bk_M_ors_21_2_ok : jm_at mt_M_ors.2.1 bk_M_ors_21_2 = true := by decide +kernel
abbrev bk_M_ors_24_1 : List (Nat × Instr × Nat) := [(24, .aload_n 0, 1)]
theorem bk_M_ors_24_1_ok : jm_at mt_M_ors.2.1 bk_M_ors_24_1 = true := by decide +kernel
abbrev bk_M_ors_28_1 : List (Nat × Instr × Nat) := [(28, .goto (-24), 3)]
theorem bk_M_ors_28_1_ok : jm_at mt_M_ors.2.1 bk_M_ors_28_1 = true := by decide +kernel
theorem dd_M_ors_1 : decode mt_M_ors.2.1 1 = .ok (.invokevirtual 216, 3) := by decide +kernel
theorem dd_M_ors_7 : decode mt_M_ors.2.1 7 = .ok (.invokevirtual 187, 3) := by decide +kernel
theorem dd_M_ors_31 : decode mt_M_ors.2.1 31 = .ok (.return_, 1) := by decide +kernel
theorem dd_M_ors_25 : decode mt_M_ors.2.1 25 = .ok (.invokevirtual 216, 3) := by decide +kernel
theorem dd_M_ors_23 : decode mt_M_ors.2.1 23 = .ok (.iastore, 1) := by decide +kernel
theorem dd_M_ors_20 : decode mt_M_ors.2.1 20 = .ok (.iaload, 1) := by decide +kernel
theorem dd_M_ors_5 : decode mt_M_ors.2.1 5 = .ok (.ldc 31, 2) := by decide +kernel
def B_M_ors_4 (K : Nat) (g : jm_Rec) (self : jm_X → Option jm_R)  (x : jm_X) : Option jm_R := jm_bI (f_M_skip_s K g 2014 x) (fun b3 x2 => (if b3 = 0 then some (.inl (none, x2)) else (if jm_in shR 4 .int 20 then (if jm_in shR 4 .int 20 then jm_then (jm_ua x2 4 20 ((x2.2.2 4 (Int32.toNatClampNeg 20)) + 1)) (fun x4 => jm_bV (f_M_ands K g x4) (fun x5 => self x5)) else none) else none)))
def L_M_ors_4 (K : Nat) (g : jm_Rec) : Nat → jm_X → Option jm_R
  | 0, _ => none
  | k + 1, x => B_M_ors_4 K g (L_M_ors_4 K g k)  x
set_option maxRecDepth 100000 in
set_option maxHeartbeats 4000000 in
theorem jb_M_ors_4 {l : Launch} {D : va_G} {ad : Nat → Nat} {aC : Nat → ClassId} {b0 : Nat} {K d0 : Nat} {g : jm_Rec} (hok : jm_Ok (jm_PP l D clR ad aC shR b0 0)) (hrec : ∀ (t : Nat) (av : List Value) (x : jm_X), jm_Con (jm_PP l D clR ad aC shR b0 0) (rcR t) d0 av x (g t av x)) {self : jm_X → Option jm_R} (hself : ∀  (x : jm_X), jm_V (jm_PP l D clR ad aC shR b0 0) mt_M_ors (d0 + 16) 4 [(0, .ref 0)] [] x (self  x))  (x : jm_X) : jm_V (jm_PP l D clR ad aC shR b0 0) mt_M_ors (d0 + 16) 4 [(0, .ref 0)] [] x (B_M_ors_4 K g self  x) := by
  have hT := tk_M (l := l) (D := D) (ad := ad) (aC := aC) (b0 := b0)
  unfold B_M_ors_4
  refine jm_V.run (is := bk_M_ors_4_1) (pc' := 5) (ls' := [(0, .ref 0)]) (st' := [.ref 0]) (x' := x) hok hT bk_M_ors_4_1_ok rfl ?_
  refine jm_V.lds (o := 2014) (tx := "or") (cs_str (i := 14) rfl) dd_M_ors_5 ?_
  refine jm_V.callI (av := [.ref 0, .ref 2014]) (rest := []) hok (jm_Con.mono (c_M_skip_s hok hrec 2014 x) (by omega)) (jm_Inv.obj (q := ("FilterReaderModel", T_M, 22)) dd_M_ors_7 (Or.inl lk_M_187) mn_M_skip_s ms_M_skip_s mw_M_skip_s mh_M_skip_s ml_M_skip_s rfl rfl) mw_M_skip_s mi_M (Nat.le_of_ble_eq_true rfl) (Nat.le_of_ble_eq_true rfl) (fun b3 x2 => ?_)
  refine jm_V.run (is := bk_M_ors_10_1) (pc' := (if b3 = 0 then 31 else 13)) (ls' := [(0, .ref 0)]) (st' := []) (x' := x2) hok hT bk_M_ors_10_1_ok rfl ?_
  refine jm_V.ite (fun _ => ?_) (fun _ => ?_)
  · exact jm_V.vret rfl dd_M_ors_31
  · refine jm_V.run (is := bk_M_ors_13_4) (pc' := 20) (ls' := [(0, .ref 0)]) (st' := [.int 20, .ref 4, .int 20, .ref 4]) (x' := x2) hok hT bk_M_ors_13_4_ok rfl ?_
    refine jm_V.iald dd_M_ors_20 ?_
    refine jm_V.run (is := bk_M_ors_21_2) (pc' := 23) (ls' := [(0, .ref 0)]) (st' := [.int ((x2.2.2 4 (Int32.toNatClampNeg 20)) + 1), .int 20, .ref 4]) (x' := x2) hok hT bk_M_ors_21_2_ok rfl ?_
    refine jm_V.iast hok dd_M_ors_23 ?_
    refine jm_V.then_ (fun x4 => ?_)
    refine jm_V.run (is := bk_M_ors_24_1) (pc' := 25) (ls' := [(0, .ref 0)]) (st' := [.ref 0]) (x' := x4) hok hT bk_M_ors_24_1_ok rfl ?_
    refine jm_V.callV (av := [.ref 0]) (rest := []) hok (jm_Con.mono (c_M_ands hok hrec x4) (by omega)) (jm_Inv.obj (q := ("FilterReaderModel", T_M, 22)) dd_M_ors_25 (Or.inl lk_M_216) mn_M_ands ms_M_ands mw_M_ands mh_M_ands ml_M_ands rfl rfl) mw_M_ands mi_M (Nat.le_of_ble_eq_true rfl) (Nat.le_of_ble_eq_true rfl) (fun x5 => ?_)
    refine jm_V.run (is := bk_M_ors_28_1) (pc' := 4) (ls' := [(0, .ref 0)]) (st' := []) (x' := x5) hok hT bk_M_ors_28_1_ok rfl ?_
    exact hself x5
theorem jl_M_ors_4 {l : Launch} {D : va_G} {ad : Nat → Nat} {aC : Nat → ClassId} {b0 : Nat} {K d0 : Nat} {g : jm_Rec} (hok : jm_Ok (jm_PP l D clR ad aC shR b0 0)) (hrec : ∀ (t : Nat) (av : List Value) (x : jm_X), jm_Con (jm_PP l D clR ad aC shR b0 0) (rcR t) d0 av x (g t av x)) : ∀ (k : Nat)  (x : jm_X), jm_V (jm_PP l D clR ad aC shR b0 0) mt_M_ors (d0 + 16) 4 [(0, .ref 0)] [] x (L_M_ors_4 K g k  x)
  | 0, _ => jm_V.stuck
  | k + 1, x => jb_M_ors_4 hok hrec (fun  x => jl_M_ors_4 hok hrec k  x)  x
def f_M_ors (K : Nat) (g : jm_Rec)  (x : jm_X) : Option jm_R := jm_bV (f_M_ands K g x) (fun x1 => L_M_ors_4 K g K x1)
set_option maxRecDepth 100000 in
set_option maxHeartbeats 4000000 in
theorem c_M_ors {l : Launch} {D : va_G} {ad : Nat → Nat} {aC : Nat → ClassId} {b0 : Nat} {K d0 : Nat} {g : jm_Rec} (hok : jm_Ok (jm_PP l D clR ad aC shR b0 0)) (hrec : ∀ (t : Nat) (av : List Value) (x : jm_X), jm_Con (jm_PP l D clR ad aC shR b0 0) (rcR t) d0 av x (g t av x))  (x : jm_X) : jm_Con (jm_PP l D clR ad aC shR b0 0) mt_M_ors (d0 + 16) [.ref 0] x (f_M_ors K g  x) := by
  refine jm_Con.of (plainFor_of_name (by decide +kernel)) (Nat.le_of_ble_eq_true rfl) ?_
  have hT := tk_M (l := l) (D := D) (ad := ad) (aC := aC) (b0 := b0)
  unfold f_M_ors
  show jm_V _ _ _ 0 [(0, .ref 0)] [] x _
  refine jm_V.run (is := bk_M_ors_0_1) (pc' := 1) (ls' := [(0, .ref 0)]) (st' := [.ref 0]) (x' := x) hok hT bk_M_ors_0_1_ok rfl ?_
  refine jm_V.callV (av := [.ref 0]) (rest := []) hok (jm_Con.mono (c_M_ands hok hrec x) (by omega)) (jm_Inv.obj (q := ("FilterReaderModel", T_M, 22)) dd_M_ors_1 (Or.inl lk_M_216) mn_M_ands ms_M_ands mw_M_ands mh_M_ands ml_M_ands rfl rfl) mw_M_ands mi_M (Nat.le_of_ble_eq_true rfl) (Nat.le_of_ble_eq_true rfl) (fun x1 => ?_)
  exact jl_M_ors_4 hok hrec K x1
abbrev bk_M_choices_0_3 : List (Nat × Instr × Nat) := [(0, .iconst 0, 1), (1, .istore_n 1, 1), (2, .aload_n 0, 1)]
theorem bk_M_choices_0_3_ok : jm_at mt_M_choices.2.1 bk_M_choices_0_3 = true := by decide +kernel
abbrev bk_M_choices_6_4 : List (Nat × Instr × Nat) := [(6, .aload_n 0, 1), (7, .getfield 128, 3), (10, .bipush 9, 2), (12, .if_icmp .eq 12, 3)]
theorem bk_M_choices_6_4_ok : jm_at mt_M_choices.2.1 bk_M_choices_6_4 = true := by decide +kernel
abbrev bk_M_choices_15_4 : List (Nat × Instr × Nat) := [(15, .aload_n 0, 1), (16, .getfield 128, 3), (19, .bipush 8, 2), (21, .if_icmp .ne 46, 3)]
theorem bk_M_choices_15_4_ok : jm_at mt_M_choices.2.1 bk_M_choices_15_4 = true := by decide +kernel
abbrev bk_M_choices_67_6 : List (Nat × Instr × Nat) := [(67, .aload_n 0, 1), (68, .dup, 1), (69, .getfield 116, 3), (72, .iload_n 1, 1), (73, .isub, 1), (74, .putfield 116, 3)]
theorem bk_M_choices_67_6_ok : jm_at mt_M_choices.2.1 bk_M_choices_67_6 = true := by decide +kernel
abbrev bk_M_choices_24_6 : List (Nat × Instr × Nat) := [(24, .aload_n 0, 1), (25, .getfield 76, 3), (28, .aload_n 0, 1), (29, .getfield 128, 3), (32, .bipush 9, 2), (34, .if_icmp .ne 8, 3)]
theorem bk_M_choices_24_6_ok : jm_at mt_M_choices.2.1 bk_M_choices_24_6 = true := by decide +kernel
abbrev bk_M_choices_37_2 : List (Nat × Instr × Nat) := [(37, .bipush 19, 2), (39, .goto 5, 3)]
theorem bk_M_choices_37_2_ok : jm_at mt_M_choices.2.1 bk_M_choices_37_2 = true := by decide +kernel
abbrev bk_M_choices_42_1 : List (Nat × Instr × Nat) := [(42, .bipush 18, 2)]
theorem bk_M_choices_42_1_ok : jm_at mt_M_choices.2.1 bk_M_choices_42_1 = true := by decide +kernel
abbrev bk_M_choices_44_1 : List (Nat × Instr × Nat) := [(44, .dup2, 1)]
theorem bk_M_choices_44_1_ok : jm_at mt_M_choices.2.1 bk_M_choices_44_1 = true := by decide +kernel
abbrev bk_M_choices_46_2 : List (Nat × Instr × Nat) := [(46, .iconst 1, 1), (47, .iadd, 1)]
theorem bk_M_choices_46_2_ok : jm_at mt_M_choices.2.1 bk_M_choices_46_2 = true := by decide +kernel
abbrev bk_M_choices_49_1 : List (Nat × Instr × Nat) := [(49, .aload_n 0, 1)]
theorem bk_M_choices_49_1_ok : jm_at mt_M_choices.2.1 bk_M_choices_49_1 = true := by decide +kernel
abbrev bk_M_choices_53_1 : List (Nat × Instr × Nat) := [(53, .aload_n 0, 1)]
theorem bk_M_choices_53_1_ok : jm_at mt_M_choices.2.1 bk_M_choices_53_1 = true := by decide +kernel
abbrev bk_M_choices_57_2 : List (Nat × Instr × Nat) := [(57, .iinc 1 1, 3), (60, .aload_n 0, 1)]
theorem bk_M_choices_57_2_ok : jm_at mt_M_choices.2.1 bk_M_choices_57_2 = true := by decide +kernel
abbrev bk_M_choices_64_1 : List (Nat × Instr × Nat) := [(64, .goto (-58), 3)]
theorem bk_M_choices_64_1_ok : jm_at mt_M_choices.2.1 bk_M_choices_64_1 = true := by decide +kernel
theorem dd_M_choices_3 : decode mt_M_choices.2.1 3 = .ok (.invokevirtual 213, 3) := by decide +kernel
theorem dd_M_choices_77 : decode mt_M_choices.2.1 77 = .ok (.return_, 1) := by decide +kernel
theorem dd_M_choices_50 : decode mt_M_choices.2.1 50 = .ok (.invokevirtual 122, 3) := by decide +kernel
theorem dd_M_choices_54 : decode mt_M_choices.2.1 54 = .ok (.invokevirtual 193, 3) := by decide +kernel
theorem dd_M_choices_61 : decode mt_M_choices.2.1 61 = .ok (.invokevirtual 213, 3) := by decide +kernel
theorem dd_M_choices_48 : decode mt_M_choices.2.1 48 = .ok (.iastore, 1) := by decide +kernel
theorem dd_M_choices_45 : decode mt_M_choices.2.1 45 = .ok (.iaload, 1) := by decide +kernel
def J_M_choices_44 (K : Nat) (g : jm_Rec) (k6 : Int32 → jm_X → Option jm_R) (v1 : Int32) (s0 : Int32) (x : jm_X) : Option jm_R := (if jm_in shR 4 .int s0 then (if jm_in shR 4 .int s0 then jm_then (jm_ua x 4 s0 ((x.2.2 4 (Int32.toNatClampNeg s0)) + 1)) (fun x3 => jm_bV (f_M_scan K g x3) (fun x4 => jm_bV (f_M_enter K g x4) (fun x5 => jm_bV (f_M_ors K g x5) (fun x6 => k6 (v1 + 1) x6)))) else none) else none)
set_option maxRecDepth 100000 in
set_option maxHeartbeats 4000000 in
theorem jj_M_choices_44 {l : Launch} {D : va_G} {ad : Nat → Nat} {aC : Nat → ClassId} {b0 : Nat} {K d0 : Nat} {g : jm_Rec} (hok : jm_Ok (jm_PP l D clR ad aC shR b0 0)) (hrec : ∀ (t : Nat) (av : List Value) (x : jm_X), jm_Con (jm_PP l D clR ad aC shR b0 0) (rcR t) d0 av x (g t av x)) {k6 : Int32 → jm_X → Option jm_R} (hk6 : ∀ (v1 : Int32) (x : jm_X), jm_V (jm_PP l D clR ad aC shR b0 0) mt_M_choices (d0 + 17) 6 [(0, .ref 0), (1, .int v1)] [] x (k6 v1 x)) (v1 : Int32) (s0 : Int32) (x : jm_X) : jm_V (jm_PP l D clR ad aC shR b0 0) mt_M_choices (d0 + 17) 44 [(0, .ref 0), (1, .int v1)] [.int s0, .ref 4] x (J_M_choices_44 K g k6 v1 s0 x) := by
  have hT := tk_M (l := l) (D := D) (ad := ad) (aC := aC) (b0 := b0)
  unfold J_M_choices_44
  refine jm_V.run (is := bk_M_choices_44_1) (pc' := 45) (ls' := [(0, .ref 0), (1, .int v1)]) (st' := [.int s0, .ref 4, .int s0, .ref 4]) (x' := x) hok hT bk_M_choices_44_1_ok rfl ?_
  refine jm_V.iald dd_M_choices_45 ?_
  refine jm_V.run (is := bk_M_choices_46_2) (pc' := 48) (ls' := [(0, .ref 0), (1, .int v1)]) (st' := [.int ((x.2.2 4 (Int32.toNatClampNeg s0)) + 1), .int s0, .ref 4]) (x' := x) hok hT bk_M_choices_46_2_ok rfl ?_
  refine jm_V.iast hok dd_M_choices_48 ?_
  refine jm_V.then_ (fun x3 => ?_)
  refine jm_V.run (is := bk_M_choices_49_1) (pc' := 50) (ls' := [(0, .ref 0), (1, .int v1)]) (st' := [.ref 0]) (x' := x3) hok hT bk_M_choices_49_1_ok rfl ?_
  refine jm_V.callV (av := [.ref 0]) (rest := []) hok (jm_Con.mono (c_M_scan hok hrec x3) (by omega)) (jm_Inv.obj (q := ("FilterReaderModel", T_M, 22)) dd_M_choices_50 (Or.inl lk_M_122) mn_M_scan ms_M_scan mw_M_scan mh_M_scan ml_M_scan rfl rfl) mw_M_scan mi_M (Nat.le_of_ble_eq_true rfl) (Nat.le_of_ble_eq_true rfl) (fun x4 => ?_)
  refine jm_V.run (is := bk_M_choices_53_1) (pc' := 54) (ls' := [(0, .ref 0), (1, .int v1)]) (st' := [.ref 0]) (x' := x4) hok hT bk_M_choices_53_1_ok rfl ?_
  refine jm_V.callV (av := [.ref 0]) (rest := []) hok (jm_Con.mono (c_M_enter hok hrec x4) (by omega)) (jm_Inv.obj (q := ("FilterReaderModel", T_M, 22)) dd_M_choices_54 (Or.inl lk_M_193) mn_M_enter ms_M_enter mw_M_enter mh_M_enter ml_M_enter rfl rfl) mw_M_enter mi_M (Nat.le_of_ble_eq_true rfl) (Nat.le_of_ble_eq_true rfl) (fun x5 => ?_)
  refine jm_V.run (is := bk_M_choices_57_2) (pc' := 61) (ls' := [(1, .int (v1 + 1)), (0, .ref 0)]) (st' := [.ref 0]) (x' := x5) hok hT bk_M_choices_57_2_ok rfl ?_
  refine jm_V.callV (av := [.ref 0]) (rest := []) hok (jm_Con.mono (c_M_ors hok hrec x5) (by omega)) (jm_Inv.obj (q := ("FilterReaderModel", T_M, 22)) dd_M_choices_61 (Or.inl lk_M_213) mn_M_ors ms_M_ors mw_M_ors mh_M_ors ml_M_ors rfl rfl) mw_M_ors mi_M (Nat.le_of_ble_eq_true rfl) (Nat.le_of_ble_eq_true rfl) (fun x6 => ?_)
  refine jm_V.run (is := bk_M_choices_64_1) (pc' := 6) (ls' := [(1, .int (v1 + 1)), (0, .ref 0)]) (st' := []) (x' := x6) hok hT bk_M_choices_64_1_ok rfl ?_
  refine jm_V.sub (ls' := [(0, .ref 0), (1, .int (v1 + 1))]) [1, 0] rfl ?_
  exact hk6 (v1 + 1) x6
def J_M_choices_24 (K : Nat) (g : jm_Rec) (k6 : Int32 → jm_X → Option jm_R) (v1 : Int32) (x : jm_X) : Option jm_R := (if (x.1 11) = 9 then J_M_choices_44 K g k6 v1 19 x else J_M_choices_44 K g k6 v1 18 x)
set_option maxRecDepth 100000 in
set_option maxHeartbeats 4000000 in
theorem jj_M_choices_24 {l : Launch} {D : va_G} {ad : Nat → Nat} {aC : Nat → ClassId} {b0 : Nat} {K d0 : Nat} {g : jm_Rec} (hok : jm_Ok (jm_PP l D clR ad aC shR b0 0)) (hrec : ∀ (t : Nat) (av : List Value) (x : jm_X), jm_Con (jm_PP l D clR ad aC shR b0 0) (rcR t) d0 av x (g t av x)) {k6 : Int32 → jm_X → Option jm_R} (hk6 : ∀ (v1 : Int32) (x : jm_X), jm_V (jm_PP l D clR ad aC shR b0 0) mt_M_choices (d0 + 17) 6 [(0, .ref 0), (1, .int v1)] [] x (k6 v1 x)) (v1 : Int32) (x : jm_X) : jm_V (jm_PP l D clR ad aC shR b0 0) mt_M_choices (d0 + 17) 24 [(0, .ref 0), (1, .int v1)] [] x (J_M_choices_24 K g k6 v1 x) := by
  have hT := tk_M (l := l) (D := D) (ad := ad) (aC := aC) (b0 := b0)
  unfold J_M_choices_24
  refine jm_V.run (is := bk_M_choices_24_6) (pc' := (if (x.1 11) = 9 then 37 else 42)) (ls' := [(0, .ref 0), (1, .int v1)]) (st' := [.ref 4]) (x' := x) hok hT bk_M_choices_24_6_ok rfl ?_
  refine jm_V.ite (fun _ => ?_) (fun _ => ?_)
  · refine jm_V.run (is := bk_M_choices_37_2) (pc' := 44) (ls' := [(0, .ref 0), (1, .int v1)]) (st' := [.int 19, .ref 4]) (x' := x) hok hT bk_M_choices_37_2_ok rfl ?_
    exact jj_M_choices_44 hok hrec hk6 v1 19 x
  · refine jm_V.run (is := bk_M_choices_42_1) (pc' := 44) (ls' := [(0, .ref 0), (1, .int v1)]) (st' := [.int 18, .ref 4]) (x' := x) hok hT bk_M_choices_42_1_ok rfl ?_
    exact jj_M_choices_44 hok hrec hk6 v1 18 x
def B_M_choices_6 (K : Nat) (g : jm_Rec) (self : Int32 → jm_X → Option jm_R) (v1 : Int32) (x : jm_X) : Option jm_R := (if (x.1 11) = 9 then J_M_choices_24 K g self v1 x else (if (x.1 11) = 8 then J_M_choices_24 K g self v1 x else jm_then (va_up x.1 12 ((x.1 12) - v1), x.2) (fun x2 => some (.inl (none, x2)))))
def L_M_choices_6 (K : Nat) (g : jm_Rec) : Nat → Int32 → jm_X → Option jm_R
  | 0, _, _ => none
  | k + 1, v1, x => B_M_choices_6 K g (L_M_choices_6 K g k) v1 x
set_option maxRecDepth 100000 in
set_option maxHeartbeats 4000000 in
theorem jb_M_choices_6 {l : Launch} {D : va_G} {ad : Nat → Nat} {aC : Nat → ClassId} {b0 : Nat} {K d0 : Nat} {g : jm_Rec} (hok : jm_Ok (jm_PP l D clR ad aC shR b0 0)) (hrec : ∀ (t : Nat) (av : List Value) (x : jm_X), jm_Con (jm_PP l D clR ad aC shR b0 0) (rcR t) d0 av x (g t av x)) {self : Int32 → jm_X → Option jm_R} (hself : ∀ (v1 : Int32) (x : jm_X), jm_V (jm_PP l D clR ad aC shR b0 0) mt_M_choices (d0 + 17) 6 [(0, .ref 0), (1, .int v1)] [] x (self v1 x)) (v1 : Int32) (x : jm_X) : jm_V (jm_PP l D clR ad aC shR b0 0) mt_M_choices (d0 + 17) 6 [(0, .ref 0), (1, .int v1)] [] x (B_M_choices_6 K g self v1 x) := by
  have hT := tk_M (l := l) (D := D) (ad := ad) (aC := aC) (b0 := b0)
  unfold B_M_choices_6
  refine jm_V.run (is := bk_M_choices_6_4) (pc' := (if (x.1 11) = 9 then 24 else 15)) (ls' := [(0, .ref 0), (1, .int v1)]) (st' := []) (x' := x) hok hT bk_M_choices_6_4_ok rfl ?_
  refine jm_V.ite (fun _ => ?_) (fun _ => ?_)
  · exact jj_M_choices_24 hok hrec hself v1 x
  · refine jm_V.run (is := bk_M_choices_15_4) (pc' := (if (x.1 11) = 8 then 24 else 67)) (ls' := [(0, .ref 0), (1, .int v1)]) (st' := []) (x' := x) hok hT bk_M_choices_15_4_ok rfl ?_
    refine jm_V.ite (fun _ => ?_) (fun _ => ?_)
    · exact jj_M_choices_24 hok hrec hself v1 x
    · refine jm_V.run (is := bk_M_choices_67_6) (pc' := 77) (ls' := [(0, .ref 0), (1, .int v1)]) (st' := []) (x' := (va_up x.1 12 ((x.1 12) - v1), x.2)) hok hT bk_M_choices_67_6_ok rfl ?_
      refine jm_V.then_ (fun x2 => ?_)
      exact jm_V.vret rfl dd_M_choices_77
theorem jl_M_choices_6 {l : Launch} {D : va_G} {ad : Nat → Nat} {aC : Nat → ClassId} {b0 : Nat} {K d0 : Nat} {g : jm_Rec} (hok : jm_Ok (jm_PP l D clR ad aC shR b0 0)) (hrec : ∀ (t : Nat) (av : List Value) (x : jm_X), jm_Con (jm_PP l D clR ad aC shR b0 0) (rcR t) d0 av x (g t av x)) : ∀ (k : Nat) (v1 : Int32) (x : jm_X), jm_V (jm_PP l D clR ad aC shR b0 0) mt_M_choices (d0 + 17) 6 [(0, .ref 0), (1, .int v1)] [] x (L_M_choices_6 K g k v1 x)
  | 0, _, _ => jm_V.stuck
  | k + 1, v1, x => jb_M_choices_6 hok hrec (fun v1 x => jl_M_choices_6 hok hrec k v1 x) v1 x
def f_M_choices (K : Nat) (g : jm_Rec)  (x : jm_X) : Option jm_R := jm_bV (f_M_ors K g x) (fun x1 => L_M_choices_6 K g K 0 x1)
set_option maxRecDepth 100000 in
set_option maxHeartbeats 4000000 in
theorem c_M_choices {l : Launch} {D : va_G} {ad : Nat → Nat} {aC : Nat → ClassId} {b0 : Nat} {K d0 : Nat} {g : jm_Rec} (hok : jm_Ok (jm_PP l D clR ad aC shR b0 0)) (hrec : ∀ (t : Nat) (av : List Value) (x : jm_X), jm_Con (jm_PP l D clR ad aC shR b0 0) (rcR t) d0 av x (g t av x))  (x : jm_X) : jm_Con (jm_PP l D clR ad aC shR b0 0) mt_M_choices (d0 + 17) [.ref 0] x (f_M_choices K g  x) := by
  refine jm_Con.of (plainFor_of_name (by decide +kernel)) (Nat.le_of_ble_eq_true rfl) ?_
  have hT := tk_M (l := l) (D := D) (ad := ad) (aC := aC) (b0 := b0)
  unfold f_M_choices
  show jm_V _ _ _ 0 [(0, .ref 0)] [] x _
  refine jm_V.run (is := bk_M_choices_0_3) (pc' := 3) (ls' := [(1, .int 0), (0, .ref 0)]) (st' := [.ref 0]) (x' := x) hok hT bk_M_choices_0_3_ok rfl ?_
  refine jm_V.callV (av := [.ref 0]) (rest := []) hok (jm_Con.mono (c_M_ors hok hrec x) (by omega)) (jm_Inv.obj (q := ("FilterReaderModel", T_M, 22)) dd_M_choices_3 (Or.inl lk_M_213) mn_M_ors ms_M_ors mw_M_ors mh_M_ors ml_M_ors rfl rfl) mw_M_ors mi_M (Nat.le_of_ble_eq_true rfl) (Nat.le_of_ble_eq_true rfl) (fun x1 => ?_)
  refine jm_V.sub (ls' := [(0, .ref 0), (1, .int 0)]) [1, 0] rfl ?_
  exact jl_M_choices_6 hok hrec K 0 x1

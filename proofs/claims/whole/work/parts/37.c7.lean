/-! THE CLASS: methods. Printed by wip/whole/printC.py. -/
abbrev bk_G_operand_0_3 : List (Nat × Instr × Nat) := [(0, .getstatic 182, 3), (3, .aload_n 0, 1), (4, .getfield 20, 3)]
theorem bk_G_operand_0_3_ok : jm_at mt_G_operand.2.1 bk_G_operand_0_3 = true := by decide +kernel
abbrev bk_G_operand_48_2 : List (Nat × Instr × Nat) := [(48, .aload_n 0, 1), (49, .bipush 22, 2)]
theorem bk_G_operand_48_2_ok : jm_at mt_G_operand.2.1 bk_G_operand_48_2 = true := by decide +kernel
abbrev bk_G_operand_54_2 : List (Nat × Instr × Nat) := [(54, .aload_n 0, 1), (55, .iload_n 1, 1)]
theorem bk_G_operand_54_2_ok : jm_at mt_G_operand.2.1 bk_G_operand_54_2 = true := by decide +kernel
abbrev bk_G_operand_59_1 : List (Nat × Instr × Nat) := [(59, .goto 102, 3)]
theorem bk_G_operand_59_1_ok : jm_at mt_G_operand.2.1 bk_G_operand_59_1 = true := by decide +kernel
abbrev bk_G_operand_62_2 : List (Nat × Instr × Nat) := [(62, .aload_n 0, 1), (63, .bipush 23, 2)]
theorem bk_G_operand_62_2_ok : jm_at mt_G_operand.2.1 bk_G_operand_62_2 = true := by decide +kernel
abbrev bk_G_operand_68_2 : List (Nat × Instr × Nat) := [(68, .aload_n 0, 1), (69, .iload_n 1, 1)]
theorem bk_G_operand_68_2_ok : jm_at mt_G_operand.2.1 bk_G_operand_68_2 = true := by decide +kernel
abbrev bk_G_operand_73_3 : List (Nat × Instr × Nat) := [(73, .aload_n 0, 1), (74, .iload_n 1, 1), (75, .iconst 0, 1)]
theorem bk_G_operand_73_3_ok : jm_at mt_G_operand.2.1 bk_G_operand_73_3 = true := by decide +kernel
abbrev bk_G_operand_79_1 : List (Nat × Instr × Nat) := [(79, .goto 82, 3)]
theorem bk_G_operand_79_1_ok : jm_at mt_G_operand.2.1 bk_G_operand_79_1 = true := by decide +kernel
abbrev bk_G_operand_82_2 : List (Nat × Instr × Nat) := [(82, .aload_n 0, 1), (83, .bipush 24, 2)]
theorem bk_G_operand_82_2_ok : jm_at mt_G_operand.2.1 bk_G_operand_82_2 = true := by decide +kernel
abbrev bk_G_operand_88_2 : List (Nat × Instr × Nat) := [(88, .aload_n 0, 1), (89, .iload_n 1, 1)]
theorem bk_G_operand_88_2_ok : jm_at mt_G_operand.2.1 bk_G_operand_88_2 = true := by decide +kernel
abbrev bk_G_operand_93_3 : List (Nat × Instr × Nat) := [(93, .aload_n 0, 1), (94, .iload_n 1, 1), (95, .iconst 1, 1)]
theorem bk_G_operand_93_3_ok : jm_at mt_G_operand.2.1 bk_G_operand_93_3 = true := by decide +kernel
abbrev bk_G_operand_99_1 : List (Nat × Instr × Nat) := [(99, .goto 62, 3)]
theorem bk_G_operand_99_1_ok : jm_at mt_G_operand.2.1 bk_G_operand_99_1 = true := by decide +kernel
abbrev bk_G_operand_102_2 : List (Nat × Instr × Nat) := [(102, .aload_n 0, 1), (103, .iload_n 1, 1)]
theorem bk_G_operand_102_2_ok : jm_at mt_G_operand.2.1 bk_G_operand_102_2 = true := by decide +kernel
abbrev bk_G_operand_107_1 : List (Nat × Instr × Nat) := [(107, .goto 54, 3)]
theorem bk_G_operand_107_1_ok : jm_at mt_G_operand.2.1 bk_G_operand_107_1 = true := by decide +kernel
abbrev bk_G_operand_110_2 : List (Nat × Instr × Nat) := [(110, .aload_n 0, 1), (111, .iconst 5, 1)]
theorem bk_G_operand_110_2_ok : jm_at mt_G_operand.2.1 bk_G_operand_110_2 = true := by decide +kernel
abbrev bk_G_operand_115_2 : List (Nat × Instr × Nat) := [(115, .aload_n 0, 1), (116, .iload_n 1, 1)]
theorem bk_G_operand_115_2_ok : jm_at mt_G_operand.2.1 bk_G_operand_115_2 = true := by decide +kernel
abbrev bk_G_operand_120_2 : List (Nat × Instr × Nat) := [(120, .aload_n 0, 1), (121, .getstatic 200, 3)]
theorem bk_G_operand_120_2_ok : jm_at mt_G_operand.2.1 bk_G_operand_120_2 = true := by decide +kernel
abbrev bk_G_operand_127_1 : List (Nat × Instr × Nat) := [(127, .ifCond .eq 34, 3)]
theorem bk_G_operand_127_1_ok : jm_at mt_G_operand.2.1 bk_G_operand_127_1 = true := by decide +kernel
abbrev bk_G_operand_130_2 : List (Nat × Instr × Nat) := [(130, .aload_n 0, 1), (131, .iload_n 1, 1)]
theorem bk_G_operand_130_2_ok : jm_at mt_G_operand.2.1 bk_G_operand_130_2 = true := by decide +kernel
abbrev bk_G_operand_135_1 : List (Nat × Instr × Nat) := [(135, .goto 26, 3)]
theorem bk_G_operand_135_1_ok : jm_at mt_G_operand.2.1 bk_G_operand_135_1 = true := by decide +kernel
abbrev bk_G_operand_138_2 : List (Nat × Instr × Nat) := [(138, .aload_n 0, 1), (139, .iload_n 1, 1)]
theorem bk_G_operand_138_2_ok : jm_at mt_G_operand.2.1 bk_G_operand_138_2 = true := by decide +kernel
abbrev bk_G_operand_143_3 : List (Nat × Instr × Nat) := [(143, .aload_n 0, 1), (144, .getfield 20, 3), (147, .getstatic 203, 3)]
theorem bk_G_operand_143_3_ok : jm_at mt_G_operand.2.1 bk_G_operand_143_3 = true := by decide +kernel
abbrev bk_G_operand_153_1 : List (Nat × Instr × Nat) := [(153, .ifCond .eq 8, 3)]
theorem bk_G_operand_153_1_ok : jm_at mt_G_operand.2.1 bk_G_operand_153_1 = true := by decide +kernel
abbrev bk_G_operand_156_2 : List (Nat × Instr × Nat) := [(156, .aload_n 0, 1), (157, .iload_n 1, 1)]
theorem bk_G_operand_156_2_ok : jm_at mt_G_operand.2.1 bk_G_operand_156_2 = true := by decide +kernel
theorem dd_G_operand_7 : decode mt_G_operand.2.1 7 = .ok (.invokevirtual 112, 3) := by decide +kernel
theorem dd_G_operand_10 : decode mt_G_operand.2.1 10 = .ok (.invokevirtual 187, 3) := by decide +kernel
theorem dd_G_operand_51 : decode mt_G_operand.2.1 51 = .ok (.invokevirtual 124, 3) := by decide +kernel
theorem dd_G_operand_56 : decode mt_G_operand.2.1 56 = .ok (.invokevirtual 190, 3) := by decide +kernel
theorem dd_G_operand_65 : decode mt_G_operand.2.1 65 = .ok (.invokevirtual 124, 3) := by decide +kernel
theorem dd_G_operand_70 : decode mt_G_operand.2.1 70 = .ok (.invokevirtual 190, 3) := by decide +kernel
theorem dd_G_operand_76 : decode mt_G_operand.2.1 76 = .ok (.invokevirtual 193, 3) := by decide +kernel
theorem dd_G_operand_85 : decode mt_G_operand.2.1 85 = .ok (.invokevirtual 124, 3) := by decide +kernel
theorem dd_G_operand_90 : decode mt_G_operand.2.1 90 = .ok (.invokevirtual 190, 3) := by decide +kernel
theorem dd_G_operand_96 : decode mt_G_operand.2.1 96 = .ok (.invokevirtual 193, 3) := by decide +kernel
theorem dd_G_operand_104 : decode mt_G_operand.2.1 104 = .ok (.invokevirtual 197, 3) := by decide +kernel
theorem dd_G_operand_112 : decode mt_G_operand.2.1 112 = .ok (.invokevirtual 124, 3) := by decide +kernel
theorem dd_G_operand_117 : decode mt_G_operand.2.1 117 = .ok (.invokevirtual 190, 3) := by decide +kernel
theorem dd_G_operand_124 : decode mt_G_operand.2.1 124 = .ok (.invokevirtual 154, 3) := by decide +kernel
theorem dd_G_operand_132 : decode mt_G_operand.2.1 132 = .ok (.invokevirtual 190, 3) := by decide +kernel
theorem dd_G_operand_140 : decode mt_G_operand.2.1 140 = .ok (.invokevirtual 190, 3) := by decide +kernel
theorem dd_G_operand_150 : decode mt_G_operand.2.1 150 = .ok (.invokevirtual 71, 3) := by decide +kernel
theorem dd_G_operand_158 : decode mt_G_operand.2.1 158 = .ok (.invokevirtual 206, 3) := by decide +kernel
theorem dd_G_operand_14 : decode mt_G_operand.2.1 14 = .ok (.tableswitch 124 1 5 #[34, 48, 68, 88, 96], 34) := by decide +kernel
theorem dd_G_operand_13 : decode mt_G_operand.2.1 13 = .ok (.iaload, 1) := by decide +kernel
theorem dd_G_operand_161 : decode mt_G_operand.2.1 161 = .ok (.return_, 1) := by decide +kernel
def J_G_operand_161 (K : Nat) (g : jm_Rec)  (x : jm_X) : Option jm_R := some (.inl (none, x))
set_option maxRecDepth 100000 in
set_option maxHeartbeats 4000000 in
theorem jj_G_operand_161 {l : Launch} {D : va_G} {ad : Nat → Nat} {aC : Nat → ClassId} {b0 : Nat} {K d0 : Nat} {g : jm_Rec} (hok : jm_Ok (jm_PP l D clC ad aC shC b0 1)) (hrec : ∀ (t : Nat) (av : List Value) (x : jm_X), jm_Con (jm_PP l D clC ad aC shC b0 1) (rcC t) d0 av x (g t av x))  (x : jm_X) : jm_V (jm_PP l D clC ad aC shC b0 1) mt_G_operand (d0 + 14) 161 [] [] x (J_G_operand_161 K g  x) := by
  have hT := tk_G (l := l) (D := D) (ad := ad) (aC := aC) (b0 := b0)
  unfold J_G_operand_161
  exact jm_V.vret rfl dd_G_operand_161
def f_G_operand (K : Nat) (g : jm_Rec) (a1 : Int32) (x : jm_X) : Option jm_R := jm_bA (f_S_sign K g x) (fun b2 x1 => (if jm_cn 1000 55 b2 then jm_bI (f_JE_ordinal K g b2 x1) (fun b4 x3 => (if jm_cn 901 1 901 then (if jm_ix 55 b4 then (if (sg_swm.getD (Int32.toNatClampNeg b4) 0) = 1 then jm_bV (f_G_takeAs K g 22 x3) (fun x5 => jm_bV (f_G_term K g a1 x5) (fun x6 => J_G_operand_161 K g x6)) else (if (sg_swm.getD (Int32.toNatClampNeg b4) 0) = 2 then jm_bV (f_G_takeAs K g 23 x3) (fun x7 => jm_bV (f_G_term K g a1 x7) (fun x8 => jm_bV (f_G_fold K g a1 0 x8) (fun x9 => J_G_operand_161 K g x9))) else (if (sg_swm.getD (Int32.toNatClampNeg b4) 0) = 3 then jm_bV (f_G_takeAs K g 24 x3) (fun x10 => jm_bV (f_G_term K g a1 x10) (fun x11 => jm_bV (f_G_fold K g a1 1 x11) (fun x12 => J_G_operand_161 K g x12))) else (if (sg_swm.getD (Int32.toNatClampNeg b4) 0) = 4 then jm_bV (f_G_condition K g a1 x3) (fun x13 => J_G_operand_161 K g x13) else (if (sg_swm.getD (Int32.toNatClampNeg b4) 0) = 5 then jm_bV (f_G_takeAs K g 5 x3) (fun x14 => jm_bV (f_G_term K g a1 x14) (fun x15 => jm_bI (f_G_takes K g 1020 x15) (fun b17 x16 => (if b17 = 0 then J_G_operand_161 K g x16 else jm_bV (f_G_term K g a1 x16) (fun x18 => J_G_operand_161 K g x18))))) else jm_bV (f_G_term K g a1 x3) (fun x19 => jm_bI (f_S_is K g 1018 x19) (fun b21 x20 => (if b21 = 0 then J_G_operand_161 K g x20 else jm_bV (f_G_bind K g a1 x20) (fun x22 => J_G_operand_161 K g x22))))))))) else none) else none)) else none))
set_option maxRecDepth 100000 in
set_option maxHeartbeats 4000000 in
theorem c_G_operand {l : Launch} {D : va_G} {ad : Nat → Nat} {aC : Nat → ClassId} {b0 : Nat} {K d0 : Nat} {g : jm_Rec} (hok : jm_Ok (jm_PP l D clC ad aC shC b0 1)) (hrec : ∀ (t : Nat) (av : List Value) (x : jm_X), jm_Con (jm_PP l D clC ad aC shC b0 1) (rcC t) d0 av x (g t av x)) (a1 : Int32) (x : jm_X) : jm_Con (jm_PP l D clC ad aC shC b0 1) mt_G_operand (d0 + 14) [.ref 2, .int a1] x (f_G_operand K g a1 x) := by
  refine jm_Con.of (plainFor_of_name (by decide +kernel)) (Nat.le_of_ble_eq_true rfl) ?_
  have hT := tk_G (l := l) (D := D) (ad := ad) (aC := aC) (b0 := b0)
  unfold f_G_operand
  show jm_V _ _ _ 0 [(0, .ref 2), (1, .int a1)] [] x _
  refine jm_V.run (is := bk_G_operand_0_3) (pc' := 7) (ls' := [(0, .ref 2), (1, .int a1)]) (st' := [.ref 4, .ref 901]) (x' := x) hok hT bk_G_operand_0_3_ok rfl ?_
  refine jm_V.callA (av := [.ref 4]) (rest := [.ref 901]) hok (jm_Con.mono (c_S_sign hok hrec x) (by omega)) (jm_Inv.obj (q := ("FilterReader$Signs", T_S, 5)) dd_G_operand_7 (Or.inl lk_G_112) mn_S_sign ms_S_sign mw_S_sign mh_S_sign ml_S_sign rfl rfl) mw_S_sign mi_S (Nat.le_of_ble_eq_true rfl) (Nat.le_of_ble_eq_true rfl) (fun b2 x1 => ?_)
  refine jm_V.guard (fun hg => ?_)
  refine jm_V.callI (av := [.ref b2]) (rest := [.ref 901]) hok (jm_Con.mono (c_JE_ordinal (d0 := d0) hok hrec b2 x1) (by omega)) (iv_ord hok hg dd_G_operand_10 lk_G_187 mo_ord rfl mn_JE_ordinal mp_ord mw_JE_ordinal ml_JE_ordinal) mw_JE_ordinal mi_JE (Nat.le_of_ble_eq_true rfl) (Nat.le_of_ble_eq_true rfl) (fun b4 x3 => ?_)
  refine jm_V.tiald (lo := 901) (N := 1) (len := fun _ => 55) (f := fun _ j => sg_swm.getD j 0) hok cs_swm dd_G_operand_13 ?_
  refine jm_V.tsw dd_G_operand_14 (by decide +kernel) (by decide +kernel) ?_
  refine jm_V.pc_ (pc' := (if (sg_swm.getD (Int32.toNatClampNeg b4) 0) = 1 then 48 else (if (sg_swm.getD (Int32.toNatClampNeg b4) 0) = 2 then 62 else (if (sg_swm.getD (Int32.toNatClampNeg b4) 0) = 3 then 82 else (if (sg_swm.getD (Int32.toNatClampNeg b4) 0) = 4 then 102 else (if (sg_swm.getD (Int32.toNatClampNeg b4) 0) = 5 then 110 else 138)))))) rfl ?_
  refine jm_V.ite (fun _ => ?_) (fun _ => ?_)
  · refine jm_V.run (is := bk_G_operand_48_2) (pc' := 51) (ls' := [(0, .ref 2), (1, .int a1)]) (st' := [.int 22, .ref 2]) (x' := x3) hok hT bk_G_operand_48_2_ok rfl ?_
    refine jm_V.callV (av := [.ref 2, .int 22]) (rest := []) hok (jm_Con.mono (c_G_takeAs hok hrec 22 x3) (by omega)) (jm_Inv.obj (q := ("FilterReader$Grammar", T_G, 5)) dd_G_operand_51 (Or.inl lk_G_124) mn_G_takeAs ms_G_takeAs mw_G_takeAs mh_G_takeAs ml_G_takeAs rfl rfl) mw_G_takeAs mi_G (Nat.le_of_ble_eq_true rfl) (Nat.le_of_ble_eq_true rfl) (fun x5 => ?_)
    refine jm_V.run (is := bk_G_operand_54_2) (pc' := 56) (ls' := [(0, .ref 2), (1, .int a1)]) (st' := [.int a1, .ref 2]) (x' := x5) hok hT bk_G_operand_54_2_ok rfl ?_
    refine jm_V.callV (av := [.ref 2, .int a1]) (rest := []) hok (jm_Con.mono (c_G_term hok hrec a1 x5) (by omega)) (jm_Inv.obj (q := ("FilterReader$Grammar", T_G, 5)) dd_G_operand_56 (Or.inl lk_G_190) mn_G_term ms_G_term mw_G_term mh_G_term ml_G_term rfl rfl) mw_G_term mi_G (Nat.le_of_ble_eq_true rfl) (Nat.le_of_ble_eq_true rfl) (fun x6 => ?_)
    refine jm_V.run (is := bk_G_operand_59_1) (pc' := 161) (ls' := [(0, .ref 2), (1, .int a1)]) (st' := []) (x' := x6) hok hT bk_G_operand_59_1_ok rfl ?_
    refine jm_V.sub (ls' := []) [] rfl ?_
    exact jj_G_operand_161 hok hrec x6
  refine jm_V.ite (fun _ => ?_) (fun _ => ?_)
  · refine jm_V.run (is := bk_G_operand_62_2) (pc' := 65) (ls' := [(0, .ref 2), (1, .int a1)]) (st' := [.int 23, .ref 2]) (x' := x3) hok hT bk_G_operand_62_2_ok rfl ?_
    refine jm_V.callV (av := [.ref 2, .int 23]) (rest := []) hok (jm_Con.mono (c_G_takeAs hok hrec 23 x3) (by omega)) (jm_Inv.obj (q := ("FilterReader$Grammar", T_G, 5)) dd_G_operand_65 (Or.inl lk_G_124) mn_G_takeAs ms_G_takeAs mw_G_takeAs mh_G_takeAs ml_G_takeAs rfl rfl) mw_G_takeAs mi_G (Nat.le_of_ble_eq_true rfl) (Nat.le_of_ble_eq_true rfl) (fun x7 => ?_)
    refine jm_V.run (is := bk_G_operand_68_2) (pc' := 70) (ls' := [(0, .ref 2), (1, .int a1)]) (st' := [.int a1, .ref 2]) (x' := x7) hok hT bk_G_operand_68_2_ok rfl ?_
    refine jm_V.callV (av := [.ref 2, .int a1]) (rest := []) hok (jm_Con.mono (c_G_term hok hrec a1 x7) (by omega)) (jm_Inv.obj (q := ("FilterReader$Grammar", T_G, 5)) dd_G_operand_70 (Or.inl lk_G_190) mn_G_term ms_G_term mw_G_term mh_G_term ml_G_term rfl rfl) mw_G_term mi_G (Nat.le_of_ble_eq_true rfl) (Nat.le_of_ble_eq_true rfl) (fun x8 => ?_)
    refine jm_V.run (is := bk_G_operand_73_3) (pc' := 76) (ls' := [(0, .ref 2), (1, .int a1)]) (st' := [.int 0, .int a1, .ref 2]) (x' := x8) hok hT bk_G_operand_73_3_ok rfl ?_
    refine jm_V.callV (av := [.ref 2, .int a1, .int 0]) (rest := []) hok (jm_Con.mono (c_G_fold hok hrec a1 0 x8) (by omega)) (jm_Inv.obj (q := ("FilterReader$Grammar", T_G, 5)) dd_G_operand_76 (Or.inl lk_G_193) mn_G_fold ms_G_fold mw_G_fold mh_G_fold ml_G_fold rfl rfl) mw_G_fold mi_G (Nat.le_of_ble_eq_true rfl) (Nat.le_of_ble_eq_true rfl) (fun x9 => ?_)
    refine jm_V.run (is := bk_G_operand_79_1) (pc' := 161) (ls' := [(0, .ref 2), (1, .int a1)]) (st' := []) (x' := x9) hok hT bk_G_operand_79_1_ok rfl ?_
    refine jm_V.sub (ls' := []) [] rfl ?_
    exact jj_G_operand_161 hok hrec x9
  refine jm_V.ite (fun _ => ?_) (fun _ => ?_)
  · refine jm_V.run (is := bk_G_operand_82_2) (pc' := 85) (ls' := [(0, .ref 2), (1, .int a1)]) (st' := [.int 24, .ref 2]) (x' := x3) hok hT bk_G_operand_82_2_ok rfl ?_
    refine jm_V.callV (av := [.ref 2, .int 24]) (rest := []) hok (jm_Con.mono (c_G_takeAs hok hrec 24 x3) (by omega)) (jm_Inv.obj (q := ("FilterReader$Grammar", T_G, 5)) dd_G_operand_85 (Or.inl lk_G_124) mn_G_takeAs ms_G_takeAs mw_G_takeAs mh_G_takeAs ml_G_takeAs rfl rfl) mw_G_takeAs mi_G (Nat.le_of_ble_eq_true rfl) (Nat.le_of_ble_eq_true rfl) (fun x10 => ?_)
    refine jm_V.run (is := bk_G_operand_88_2) (pc' := 90) (ls' := [(0, .ref 2), (1, .int a1)]) (st' := [.int a1, .ref 2]) (x' := x10) hok hT bk_G_operand_88_2_ok rfl ?_
    refine jm_V.callV (av := [.ref 2, .int a1]) (rest := []) hok (jm_Con.mono (c_G_term hok hrec a1 x10) (by omega)) (jm_Inv.obj (q := ("FilterReader$Grammar", T_G, 5)) dd_G_operand_90 (Or.inl lk_G_190) mn_G_term ms_G_term mw_G_term mh_G_term ml_G_term rfl rfl) mw_G_term mi_G (Nat.le_of_ble_eq_true rfl) (Nat.le_of_ble_eq_true rfl) (fun x11 => ?_)
    refine jm_V.run (is := bk_G_operand_93_3) (pc' := 96) (ls' := [(0, .ref 2), (1, .int a1)]) (st' := [.int 1, .int a1, .ref 2]) (x' := x11) hok hT bk_G_operand_93_3_ok rfl ?_
    refine jm_V.callV (av := [.ref 2, .int a1, .int 1]) (rest := []) hok (jm_Con.mono (c_G_fold hok hrec a1 1 x11) (by omega)) (jm_Inv.obj (q := ("FilterReader$Grammar", T_G, 5)) dd_G_operand_96 (Or.inl lk_G_193) mn_G_fold ms_G_fold mw_G_fold mh_G_fold ml_G_fold rfl rfl) mw_G_fold mi_G (Nat.le_of_ble_eq_true rfl) (Nat.le_of_ble_eq_true rfl) (fun x12 => ?_)
    refine jm_V.run (is := bk_G_operand_99_1) (pc' := 161) (ls' := [(0, .ref 2), (1, .int a1)]) (st' := []) (x' := x12) hok hT bk_G_operand_99_1_ok rfl ?_
    refine jm_V.sub (ls' := []) [] rfl ?_
    exact jj_G_operand_161 hok hrec x12
  refine jm_V.ite (fun _ => ?_) (fun _ => ?_)
  · refine jm_V.run (is := bk_G_operand_102_2) (pc' := 104) (ls' := [(0, .ref 2), (1, .int a1)]) (st' := [.int a1, .ref 2]) (x' := x3) hok hT bk_G_operand_102_2_ok rfl ?_
    refine jm_V.callV (av := [.ref 2, .int a1]) (rest := []) hok (jm_Con.mono (c_G_condition hok hrec a1 x3) (by omega)) (jm_Inv.obj (q := ("FilterReader$Grammar", T_G, 5)) dd_G_operand_104 (Or.inl lk_G_197) mn_G_condition ms_G_condition mw_G_condition mh_G_condition ml_G_condition rfl rfl) mw_G_condition mi_G (Nat.le_of_ble_eq_true rfl) (Nat.le_of_ble_eq_true rfl) (fun x13 => ?_)
    refine jm_V.run (is := bk_G_operand_107_1) (pc' := 161) (ls' := [(0, .ref 2), (1, .int a1)]) (st' := []) (x' := x13) hok hT bk_G_operand_107_1_ok rfl ?_
    refine jm_V.sub (ls' := []) [] rfl ?_
    exact jj_G_operand_161 hok hrec x13
  refine jm_V.ite (fun _ => ?_) (fun _ => ?_)
  · refine jm_V.run (is := bk_G_operand_110_2) (pc' := 112) (ls' := [(0, .ref 2), (1, .int a1)]) (st' := [.int 5, .ref 2]) (x' := x3) hok hT bk_G_operand_110_2_ok rfl ?_
    refine jm_V.callV (av := [.ref 2, .int 5]) (rest := []) hok (jm_Con.mono (c_G_takeAs hok hrec 5 x3) (by omega)) (jm_Inv.obj (q := ("FilterReader$Grammar", T_G, 5)) dd_G_operand_112 (Or.inl lk_G_124) mn_G_takeAs ms_G_takeAs mw_G_takeAs mh_G_takeAs ml_G_takeAs rfl rfl) mw_G_takeAs mi_G (Nat.le_of_ble_eq_true rfl) (Nat.le_of_ble_eq_true rfl) (fun x14 => ?_)
    refine jm_V.run (is := bk_G_operand_115_2) (pc' := 117) (ls' := [(0, .ref 2), (1, .int a1)]) (st' := [.int a1, .ref 2]) (x' := x14) hok hT bk_G_operand_115_2_ok rfl ?_
    refine jm_V.callV (av := [.ref 2, .int a1]) (rest := []) hok (jm_Con.mono (c_G_term hok hrec a1 x14) (by omega)) (jm_Inv.obj (q := ("FilterReader$Grammar", T_G, 5)) dd_G_operand_117 (Or.inl lk_G_190) mn_G_term ms_G_term mw_G_term mh_G_term ml_G_term rfl rfl) mw_G_term mi_G (Nat.le_of_ble_eq_true rfl) (Nat.le_of_ble_eq_true rfl) (fun x15 => ?_)
    refine jm_V.run (is := bk_G_operand_120_2) (pc' := 124) (ls' := [(0, .ref 2), (1, .int a1)]) (st' := [.ref 1020, .ref 2]) (x' := x15) hok hT bk_G_operand_120_2_ok rfl ?_
    refine jm_V.callI (av := [.ref 2, .ref 1020]) (rest := []) hok (jm_Con.mono (c_G_takes hok hrec 1020 x15) (by omega)) (jm_Inv.obj (q := ("FilterReader$Grammar", T_G, 5)) dd_G_operand_124 (Or.inl lk_G_154) mn_G_takes ms_G_takes mw_G_takes mh_G_takes ml_G_takes rfl rfl) mw_G_takes mi_G (Nat.le_of_ble_eq_true rfl) (Nat.le_of_ble_eq_true rfl) (fun b17 x16 => ?_)
    refine jm_V.run (is := bk_G_operand_127_1) (pc' := (if b17 = 0 then 161 else 130)) (ls' := [(0, .ref 2), (1, .int a1)]) (st' := []) (x' := x16) hok hT bk_G_operand_127_1_ok rfl ?_
    refine jm_V.ite (fun _ => ?_) (fun _ => ?_)
    · refine jm_V.sub (ls' := []) [] rfl ?_
      exact jj_G_operand_161 hok hrec x16
    · refine jm_V.run (is := bk_G_operand_130_2) (pc' := 132) (ls' := [(0, .ref 2), (1, .int a1)]) (st' := [.int a1, .ref 2]) (x' := x16) hok hT bk_G_operand_130_2_ok rfl ?_
      refine jm_V.callV (av := [.ref 2, .int a1]) (rest := []) hok (jm_Con.mono (c_G_term hok hrec a1 x16) (by omega)) (jm_Inv.obj (q := ("FilterReader$Grammar", T_G, 5)) dd_G_operand_132 (Or.inl lk_G_190) mn_G_term ms_G_term mw_G_term mh_G_term ml_G_term rfl rfl) mw_G_term mi_G (Nat.le_of_ble_eq_true rfl) (Nat.le_of_ble_eq_true rfl) (fun x18 => ?_)
      refine jm_V.run (is := bk_G_operand_135_1) (pc' := 161) (ls' := [(0, .ref 2), (1, .int a1)]) (st' := []) (x' := x18) hok hT bk_G_operand_135_1_ok rfl ?_
      refine jm_V.sub (ls' := []) [] rfl ?_
      exact jj_G_operand_161 hok hrec x18
  refine jm_V.run (is := bk_G_operand_138_2) (pc' := 140) (ls' := [(0, .ref 2), (1, .int a1)]) (st' := [.int a1, .ref 2]) (x' := x3) hok hT bk_G_operand_138_2_ok rfl ?_
  refine jm_V.callV (av := [.ref 2, .int a1]) (rest := []) hok (jm_Con.mono (c_G_term hok hrec a1 x3) (by omega)) (jm_Inv.obj (q := ("FilterReader$Grammar", T_G, 5)) dd_G_operand_140 (Or.inl lk_G_190) mn_G_term ms_G_term mw_G_term mh_G_term ml_G_term rfl rfl) mw_G_term mi_G (Nat.le_of_ble_eq_true rfl) (Nat.le_of_ble_eq_true rfl) (fun x19 => ?_)
  refine jm_V.run (is := bk_G_operand_143_3) (pc' := 150) (ls' := [(0, .ref 2), (1, .int a1)]) (st' := [.ref 1018, .ref 4]) (x' := x19) hok hT bk_G_operand_143_3_ok rfl ?_
  refine jm_V.callI (av := [.ref 4, .ref 1018]) (rest := []) hok (jm_Con.mono (c_S_is hok hrec 1018 x19) (by omega)) (jm_Inv.obj (q := ("FilterReader$Signs", T_S, 5)) dd_G_operand_150 (Or.inl lk_G_71) mn_S_is ms_S_is mw_S_is mh_S_is ml_S_is rfl rfl) mw_S_is mi_S (Nat.le_of_ble_eq_true rfl) (Nat.le_of_ble_eq_true rfl) (fun b21 x20 => ?_)
  refine jm_V.run (is := bk_G_operand_153_1) (pc' := (if b21 = 0 then 161 else 156)) (ls' := [(0, .ref 2), (1, .int a1)]) (st' := []) (x' := x20) hok hT bk_G_operand_153_1_ok rfl ?_
  refine jm_V.ite (fun _ => ?_) (fun _ => ?_)
  · refine jm_V.sub (ls' := []) [] rfl ?_
    exact jj_G_operand_161 hok hrec x20
  · refine jm_V.run (is := bk_G_operand_156_2) (pc' := 158) (ls' := [(0, .ref 2), (1, .int a1)]) (st' := [.int a1, .ref 2]) (x' := x20) hok hT bk_G_operand_156_2_ok rfl ?_
    refine jm_V.callV (av := [.ref 2, .int a1]) (rest := []) hok (jm_Con.mono (c_G_bind hok hrec a1 x20) (by omega)) (jm_Inv.obj (q := ("FilterReader$Grammar", T_G, 5)) dd_G_operand_158 (Or.inl lk_G_206) mn_G_bind ms_G_bind mw_G_bind mh_G_bind ml_G_bind rfl rfl) mw_G_bind mi_G (Nat.le_of_ble_eq_true rfl) (Nat.le_of_ble_eq_true rfl) (fun x22 => ?_)
    refine jm_V.sub (ls' := []) [] rfl ?_
    exact jj_G_operand_161 hok hrec x22
abbrev bk_G_program_0_2 : List (Nat × Instr × Nat) := [(0, .aload_n 0, 1), (1, .getfield 27, 3)]
theorem bk_G_program_0_2_ok : jm_at mt_G_program.2.1 bk_G_program_0_2 = true := by decide +kernel
abbrev bk_G_program_7_5 : List (Nat × Instr × Nat) := [(7, .istore_n 2, 1), (8, .aload_n 0, 1), (9, .iload_n 1, 1), (10, .iconst 1, 1), (11, .iadd, 1)]
theorem bk_G_program_7_5_ok : jm_at mt_G_program.2.1 bk_G_program_7_5 = true := by decide +kernel
abbrev bk_G_program_15_7 : List (Nat × Instr × Nat) := [(15, .istore_n 3, 1), (16, .iload_n 3, 1), (17, .istore 4, 2), (19, .iconst 0, 1), (20, .istore 5, 2), (22, .iconst 0, 1), (23, .istore 6, 2)]
theorem bk_G_program_15_7_ok : jm_at mt_G_program.2.1 bk_G_program_15_7 = true := by decide +kernel
abbrev bk_G_program_25_3 : List (Nat × Instr × Nat) := [(25, .iload 6, 2), (27, .sipush 16385, 3), (30, .if_icmp .ge 125, 3)]
theorem bk_G_program_25_3_ok : jm_at mt_G_program.2.1 bk_G_program_25_3 = true := by decide +kernel
abbrev bk_G_program_33_2 : List (Nat × Instr × Nat) := [(33, .aload_n 0, 1), (34, .iload 4, 2)]
theorem bk_G_program_33_2_ok : jm_at mt_G_program.2.1 bk_G_program_33_2 = true := by decide +kernel
abbrev bk_G_program_39_2 : List (Nat × Instr × Nat) := [(39, .aload_n 0, 1), (40, .getfield 20, 3)]
theorem bk_G_program_39_2_ok : jm_at mt_G_program.2.1 bk_G_program_39_2 = true := by decide +kernel
abbrev bk_G_program_46_2 : List (Nat × Instr × Nat) := [(46, .astore 7, 2), (48, .aload 7, 2)]
theorem bk_G_program_46_2_ok : jm_at mt_G_program.2.1 bk_G_program_46_2 = true := by decide +kernel
abbrev bk_G_program_53_3 : List (Nat × Instr × Nat) := [(53, .istore 8, 2), (55, .iload 8, 2), (57, .ifCond .eq 98, 3)]
theorem bk_G_program_53_3_ok : jm_at mt_G_program.2.1 bk_G_program_53_3 = true := by decide +kernel
abbrev bk_G_program_60_3 : List (Nat × Instr × Nat) := [(60, .iload 8, 2), (62, .iconst 5, 1), (63, .if_icmp .ne 11, 3)]
theorem bk_G_program_60_3_ok : jm_at mt_G_program.2.1 bk_G_program_60_3 = true := by decide +kernel
abbrev bk_G_program_66_2 : List (Nat × Instr × Nat) := [(66, .iload 5, 2), (68, .ifCond .eq 6, 3)]
theorem bk_G_program_66_2_ok : jm_at mt_G_program.2.1 bk_G_program_66_2 = true := by decide +kernel
abbrev bk_G_program_71_1 : List (Nat × Instr × Nat) := [(71, .goto 84, 3)]
theorem bk_G_program_71_1_ok : jm_at mt_G_program.2.1 bk_G_program_71_1 = true := by decide +kernel
abbrev bk_G_program_74_2 : List (Nat × Instr × Nat) := [(74, .aload_n 0, 1), (75, .aload 7, 2)]
theorem bk_G_program_74_2_ok : jm_at mt_G_program.2.1 bk_G_program_74_2 = true := by decide +kernel
abbrev bk_G_program_83_3 : List (Nat × Instr × Nat) := [(83, .iload 8, 2), (85, .iconst 1, 1), (86, .if_icmp .ne 11, 3)]
theorem bk_G_program_83_3_ok : jm_at mt_G_program.2.1 bk_G_program_83_3 = true := by decide +kernel
abbrev bk_G_program_89_4 : List (Nat × Instr × Nat) := [(89, .aload_n 0, 1), (90, .iload_n 3, 1), (91, .iconst 1, 1), (92, .iadd, 1)]
theorem bk_G_program_89_4_ok : jm_at mt_G_program.2.1 bk_G_program_89_4 = true := by decide +kernel
abbrev bk_G_program_96_1 : List (Nat × Instr × Nat) := [(96, .istore_n 3, 1)]
theorem bk_G_program_96_1_ok : jm_at mt_G_program.2.1 bk_G_program_96_1 = true := by decide +kernel
abbrev bk_G_program_97_3 : List (Nat × Instr × Nat) := [(97, .iload 8, 2), (99, .iconst 3, 1), (100, .if_icmp .ne 16, 3)]
theorem bk_G_program_97_3_ok : jm_at mt_G_program.2.1 bk_G_program_97_3 = true := by decide +kernel
abbrev bk_G_program_103_4 : List (Nat × Instr × Nat) := [(103, .aload_n 0, 1), (104, .iload 4, 2), (106, .iconst 1, 1), (107, .iadd, 1)]
theorem bk_G_program_103_4_ok : jm_at mt_G_program.2.1 bk_G_program_103_4 = true := by decide +kernel
abbrev bk_G_program_111_2 : List (Nat × Instr × Nat) := [(111, .istore 4, 2), (113, .goto 12, 3)]
theorem bk_G_program_111_2_ok : jm_at mt_G_program.2.1 bk_G_program_111_2 = true := by decide +kernel
abbrev bk_G_program_116_3 : List (Nat × Instr × Nat) := [(116, .iload 8, 2), (118, .iconst 3, 1), (119, .if_icmp .ge 6, 3)]
theorem bk_G_program_116_3_ok : jm_at mt_G_program.2.1 bk_G_program_116_3 = true := by decide +kernel
abbrev bk_G_program_122_2 : List (Nat × Instr × Nat) := [(122, .iload_n 3, 1), (123, .istore 4, 2)]
theorem bk_G_program_122_2_ok : jm_at mt_G_program.2.1 bk_G_program_122_2 = true := by decide +kernel
abbrev bk_G_program_125_3 : List (Nat × Instr × Nat) := [(125, .iload 8, 2), (127, .iconst 5, 1), (128, .if_icmp .eq 14, 3)]
theorem bk_G_program_125_3_ok : jm_at mt_G_program.2.1 bk_G_program_125_3 = true := by decide +kernel
abbrev bk_G_program_131_3 : List (Nat × Instr × Nat) := [(131, .iload 8, 2), (133, .iconst 5, 1), (134, .if_icmp .le 12, 3)]
theorem bk_G_program_131_3_ok : jm_at mt_G_program.2.1 bk_G_program_131_3 = true := by decide +kernel
abbrev bk_G_program_137_2 : List (Nat × Instr × Nat) := [(137, .iload 5, 2), (139, .ifCond .eq 7, 3)]
theorem bk_G_program_137_2_ok : jm_at mt_G_program.2.1 bk_G_program_137_2 = true := by decide +kernel
abbrev bk_G_program_142_2 : List (Nat × Instr × Nat) := [(142, .iconst 1, 1), (143, .goto 4, 3)]
theorem bk_G_program_142_2_ok : jm_at mt_G_program.2.1 bk_G_program_142_2 = true := by decide +kernel
abbrev bk_G_program_146_1 : List (Nat × Instr × Nat) := [(146, .iconst 0, 1)]
theorem bk_G_program_146_1_ok : jm_at mt_G_program.2.1 bk_G_program_146_1 = true := by decide +kernel
abbrev bk_G_program_147_3 : List (Nat × Instr × Nat) := [(147, .istore 5, 2), (149, .iinc 6 1, 3), (152, .goto (-127), 3)]
theorem bk_G_program_147_3_ok : jm_at mt_G_program.2.1 bk_G_program_147_3 = true := by decide +kernel
abbrev bk_G_program_155_3 : List (Nat × Instr × Nat) := [(155, .aload_n 0, 1), (156, .getfield 27, 3), (159, .iload_n 2, 1)]
theorem bk_G_program_155_3_ok : jm_at mt_G_program.2.1 bk_G_program_155_3 = true := by decide +kernel
theorem dd_G_program_4 : decode mt_G_program.2.1 4 = .ok (.invokevirtual 102, 3) := by decide +kernel
theorem dd_G_program_12 : decode mt_G_program.2.1 12 = .ok (.invokevirtual 105, 3) := by decide +kernel
theorem dd_G_program_36 : decode mt_G_program.2.1 36 = .ok (.invokevirtual 109, 3) := by decide +kernel
theorem dd_G_program_43 : decode mt_G_program.2.1 43 = .ok (.invokevirtual 112, 3) := by decide +kernel
theorem dd_G_program_50 : decode mt_G_program.2.1 50 = .ok (.getfield 116, 3) := by decide +kernel
theorem dd_G_program_80 : decode mt_G_program.2.1 80 = .ok (.invokevirtual 124, 3) := by decide +kernel
theorem dd_G_program_93 : decode mt_G_program.2.1 93 = .ok (.invokevirtual 105, 3) := by decide +kernel
theorem dd_G_program_77 : decode mt_G_program.2.1 77 = .ok (.getfield 121, 3) := by decide +kernel
theorem dd_G_program_108 : decode mt_G_program.2.1 108 = .ok (.invokevirtual 127, 3) := by decide +kernel
theorem dd_G_program_160 : decode mt_G_program.2.1 160 = .ok (.invokevirtual 130, 3) := by decide +kernel
theorem dd_G_program_163 : decode mt_G_program.2.1 163 = .ok (.return_, 1) := by decide +kernel
def J_G_program_147 (K : Nat) (g : jm_Rec) (k25 : Int32 → Int32 → Int32 → Int32 → Int32 → jm_X → Option jm_R) (v2 : Int32) (v3 : Int32) (v4 : Int32) (v6 : Int32) (s0 : Int32) (x : jm_X) : Option jm_R := k25 v2 v3 v4 s0 (v6 + 1) x
set_option maxRecDepth 100000 in
set_option maxHeartbeats 4000000 in
theorem jj_G_program_147 {l : Launch} {D : va_G} {ad : Nat → Nat} {aC : Nat → ClassId} {b0 : Nat} {K d0 : Nat} {g : jm_Rec} (hok : jm_Ok (jm_PP l D clC ad aC shC b0 1)) (hrec : ∀ (t : Nat) (av : List Value) (x : jm_X), jm_Con (jm_PP l D clC ad aC shC b0 1) (rcC t) d0 av x (g t av x)) {k25 : Int32 → Int32 → Int32 → Int32 → Int32 → jm_X → Option jm_R} (hk25 : ∀ (v2 : Int32) (v3 : Int32) (v4 : Int32) (v5 : Int32) (v6 : Int32) (x : jm_X), jm_V (jm_PP l D clC ad aC shC b0 1) mt_G_program (d0 + 15) 25 [(0, .ref 2), (2, .int v2), (3, .int v3), (4, .int v4), (5, .int v5), (6, .int v6)] [] x (k25 v2 v3 v4 v5 v6 x)) (v2 : Int32) (v3 : Int32) (v4 : Int32) (v6 : Int32) (s0 : Int32) (x : jm_X) : jm_V (jm_PP l D clC ad aC shC b0 1) mt_G_program (d0 + 15) 147 [(0, .ref 2), (2, .int v2), (3, .int v3), (4, .int v4), (6, .int v6)] [.int s0] x (J_G_program_147 K g k25 v2 v3 v4 v6 s0 x) := by
  have hT := tk_G (l := l) (D := D) (ad := ad) (aC := aC) (b0 := b0)
  unfold J_G_program_147
  refine jm_V.run (is := bk_G_program_147_3) (pc' := 25) (ls' := [(6, .int (v6 + 1)), (5, .int s0), (0, .ref 2), (2, .int v2), (3, .int v3), (4, .int v4)]) (st' := []) (x' := x) hok hT bk_G_program_147_3_ok rfl ?_
  refine jm_V.sub (ls' := [(0, .ref 2), (2, .int v2), (3, .int v3), (4, .int v4), (5, .int s0), (6, .int (v6 + 1))]) [2, 3, 4, 5, 1, 0] rfl ?_
  exact hk25 v2 v3 v4 s0 (v6 + 1) x
def J_G_program_146 (K : Nat) (g : jm_Rec) (k25 : Int32 → Int32 → Int32 → Int32 → Int32 → jm_X → Option jm_R) (v2 : Int32) (v3 : Int32) (v4 : Int32) (v6 : Int32) (x : jm_X) : Option jm_R := J_G_program_147 K g k25 v2 v3 v4 v6 0 x
set_option maxRecDepth 100000 in
set_option maxHeartbeats 4000000 in
theorem jj_G_program_146 {l : Launch} {D : va_G} {ad : Nat → Nat} {aC : Nat → ClassId} {b0 : Nat} {K d0 : Nat} {g : jm_Rec} (hok : jm_Ok (jm_PP l D clC ad aC shC b0 1)) (hrec : ∀ (t : Nat) (av : List Value) (x : jm_X), jm_Con (jm_PP l D clC ad aC shC b0 1) (rcC t) d0 av x (g t av x)) {k25 : Int32 → Int32 → Int32 → Int32 → Int32 → jm_X → Option jm_R} (hk25 : ∀ (v2 : Int32) (v3 : Int32) (v4 : Int32) (v5 : Int32) (v6 : Int32) (x : jm_X), jm_V (jm_PP l D clC ad aC shC b0 1) mt_G_program (d0 + 15) 25 [(0, .ref 2), (2, .int v2), (3, .int v3), (4, .int v4), (5, .int v5), (6, .int v6)] [] x (k25 v2 v3 v4 v5 v6 x)) (v2 : Int32) (v3 : Int32) (v4 : Int32) (v6 : Int32) (x : jm_X) : jm_V (jm_PP l D clC ad aC shC b0 1) mt_G_program (d0 + 15) 146 [(0, .ref 2), (2, .int v2), (3, .int v3), (4, .int v4), (6, .int v6)] [] x (J_G_program_146 K g k25 v2 v3 v4 v6 x) := by
  have hT := tk_G (l := l) (D := D) (ad := ad) (aC := aC) (b0 := b0)
  unfold J_G_program_146
  refine jm_V.run (is := bk_G_program_146_1) (pc' := 147) (ls' := [(0, .ref 2), (2, .int v2), (3, .int v3), (4, .int v4), (6, .int v6)]) (st' := [.int 0]) (x' := x) hok hT bk_G_program_146_1_ok rfl ?_
  exact jj_G_program_147 hok hrec hk25 v2 v3 v4 v6 0 x
def J_G_program_142 (K : Nat) (g : jm_Rec) (k25 : Int32 → Int32 → Int32 → Int32 → Int32 → jm_X → Option jm_R) (v2 : Int32) (v3 : Int32) (v4 : Int32) (v6 : Int32) (x : jm_X) : Option jm_R := J_G_program_147 K g k25 v2 v3 v4 v6 1 x
set_option maxRecDepth 100000 in
set_option maxHeartbeats 4000000 in
theorem jj_G_program_142 {l : Launch} {D : va_G} {ad : Nat → Nat} {aC : Nat → ClassId} {b0 : Nat} {K d0 : Nat} {g : jm_Rec} (hok : jm_Ok (jm_PP l D clC ad aC shC b0 1)) (hrec : ∀ (t : Nat) (av : List Value) (x : jm_X), jm_Con (jm_PP l D clC ad aC shC b0 1) (rcC t) d0 av x (g t av x)) {k25 : Int32 → Int32 → Int32 → Int32 → Int32 → jm_X → Option jm_R} (hk25 : ∀ (v2 : Int32) (v3 : Int32) (v4 : Int32) (v5 : Int32) (v6 : Int32) (x : jm_X), jm_V (jm_PP l D clC ad aC shC b0 1) mt_G_program (d0 + 15) 25 [(0, .ref 2), (2, .int v2), (3, .int v3), (4, .int v4), (5, .int v5), (6, .int v6)] [] x (k25 v2 v3 v4 v5 v6 x)) (v2 : Int32) (v3 : Int32) (v4 : Int32) (v6 : Int32) (x : jm_X) : jm_V (jm_PP l D clC ad aC shC b0 1) mt_G_program (d0 + 15) 142 [(0, .ref 2), (2, .int v2), (3, .int v3), (4, .int v4), (6, .int v6)] [] x (J_G_program_142 K g k25 v2 v3 v4 v6 x) := by
  have hT := tk_G (l := l) (D := D) (ad := ad) (aC := aC) (b0 := b0)
  unfold J_G_program_142
  refine jm_V.run (is := bk_G_program_142_2) (pc' := 147) (ls' := [(0, .ref 2), (2, .int v2), (3, .int v3), (4, .int v4), (6, .int v6)]) (st' := [.int 1]) (x' := x) hok hT bk_G_program_142_2_ok rfl ?_
  exact jj_G_program_147 hok hrec hk25 v2 v3 v4 v6 1 x
def J_G_program_125 (K : Nat) (g : jm_Rec) (k25 : Int32 → Int32 → Int32 → Int32 → Int32 → jm_X → Option jm_R) (v2 : Int32) (v3 : Int32) (v4 : Int32) (v5 : Int32) (v6 : Int32) (v8 : Int32) (x : jm_X) : Option jm_R := (if v8 = 5 then J_G_program_142 K g k25 v2 v3 v4 v6 x else (if v8 ≤ 5 then J_G_program_146 K g k25 v2 v3 v4 v6 x else (if v5 = 0 then J_G_program_146 K g k25 v2 v3 v4 v6 x else J_G_program_142 K g k25 v2 v3 v4 v6 x)))
set_option maxRecDepth 100000 in
set_option maxHeartbeats 4000000 in
theorem jj_G_program_125 {l : Launch} {D : va_G} {ad : Nat → Nat} {aC : Nat → ClassId} {b0 : Nat} {K d0 : Nat} {g : jm_Rec} (hok : jm_Ok (jm_PP l D clC ad aC shC b0 1)) (hrec : ∀ (t : Nat) (av : List Value) (x : jm_X), jm_Con (jm_PP l D clC ad aC shC b0 1) (rcC t) d0 av x (g t av x)) {k25 : Int32 → Int32 → Int32 → Int32 → Int32 → jm_X → Option jm_R} (hk25 : ∀ (v2 : Int32) (v3 : Int32) (v4 : Int32) (v5 : Int32) (v6 : Int32) (x : jm_X), jm_V (jm_PP l D clC ad aC shC b0 1) mt_G_program (d0 + 15) 25 [(0, .ref 2), (2, .int v2), (3, .int v3), (4, .int v4), (5, .int v5), (6, .int v6)] [] x (k25 v2 v3 v4 v5 v6 x)) (v2 : Int32) (v3 : Int32) (v4 : Int32) (v5 : Int32) (v6 : Int32) (v8 : Int32) (x : jm_X) : jm_V (jm_PP l D clC ad aC shC b0 1) mt_G_program (d0 + 15) 125 [(0, .ref 2), (2, .int v2), (3, .int v3), (4, .int v4), (5, .int v5), (6, .int v6), (8, .int v8)] [] x (J_G_program_125 K g k25 v2 v3 v4 v5 v6 v8 x) := by
  have hT := tk_G (l := l) (D := D) (ad := ad) (aC := aC) (b0 := b0)
  unfold J_G_program_125
  refine jm_V.run (is := bk_G_program_125_3) (pc' := (if v8 = 5 then 142 else 131)) (ls' := [(0, .ref 2), (2, .int v2), (3, .int v3), (4, .int v4), (5, .int v5), (6, .int v6), (8, .int v8)]) (st' := []) (x' := x) hok hT bk_G_program_125_3_ok rfl ?_
  refine jm_V.ite (fun _ => ?_) (fun _ => ?_)
  · refine jm_V.sub (ls' := [(0, .ref 2), (2, .int v2), (3, .int v3), (4, .int v4), (6, .int v6)]) [0, 1, 2, 3, 5] rfl ?_
    exact jj_G_program_142 hok hrec hk25 v2 v3 v4 v6 x
  · refine jm_V.run (is := bk_G_program_131_3) (pc' := (if v8 ≤ 5 then 146 else 137)) (ls' := [(0, .ref 2), (2, .int v2), (3, .int v3), (4, .int v4), (5, .int v5), (6, .int v6), (8, .int v8)]) (st' := []) (x' := x) hok hT bk_G_program_131_3_ok rfl ?_
    refine jm_V.ite (fun _ => ?_) (fun _ => ?_)
    · refine jm_V.sub (ls' := [(0, .ref 2), (2, .int v2), (3, .int v3), (4, .int v4), (6, .int v6)]) [0, 1, 2, 3, 5] rfl ?_
      exact jj_G_program_146 hok hrec hk25 v2 v3 v4 v6 x
    · refine jm_V.run (is := bk_G_program_137_2) (pc' := (if v5 = 0 then 146 else 142)) (ls' := [(0, .ref 2), (2, .int v2), (3, .int v3), (4, .int v4), (5, .int v5), (6, .int v6), (8, .int v8)]) (st' := []) (x' := x) hok hT bk_G_program_137_2_ok rfl ?_
      refine jm_V.ite (fun _ => ?_) (fun _ => ?_)
      · refine jm_V.sub (ls' := [(0, .ref 2), (2, .int v2), (3, .int v3), (4, .int v4), (6, .int v6)]) [0, 1, 2, 3, 5] rfl ?_
        exact jj_G_program_146 hok hrec hk25 v2 v3 v4 v6 x
      · refine jm_V.sub (ls' := [(0, .ref 2), (2, .int v2), (3, .int v3), (4, .int v4), (6, .int v6)]) [0, 1, 2, 3, 5] rfl ?_
        exact jj_G_program_142 hok hrec hk25 v2 v3 v4 v6 x
def J_G_program_97 (K : Nat) (g : jm_Rec) (k25 : Int32 → Int32 → Int32 → Int32 → Int32 → jm_X → Option jm_R) (v2 : Int32) (v3 : Int32) (v4 : Int32) (v5 : Int32) (v6 : Int32) (v8 : Int32) (x : jm_X) : Option jm_R := (if v8 = 3 then jm_bI (f_G_opened K g (v4 + 1) x) (fun b12 x11 => J_G_program_125 K g k25 v2 v3 b12 v5 v6 v8 x11) else (if 3 ≤ v8 then J_G_program_125 K g k25 v2 v3 v4 v5 v6 v8 x else J_G_program_125 K g k25 v2 v3 v3 v5 v6 v8 x))
set_option maxRecDepth 100000 in
set_option maxHeartbeats 4000000 in
theorem jj_G_program_97 {l : Launch} {D : va_G} {ad : Nat → Nat} {aC : Nat → ClassId} {b0 : Nat} {K d0 : Nat} {g : jm_Rec} (hok : jm_Ok (jm_PP l D clC ad aC shC b0 1)) (hrec : ∀ (t : Nat) (av : List Value) (x : jm_X), jm_Con (jm_PP l D clC ad aC shC b0 1) (rcC t) d0 av x (g t av x)) {k25 : Int32 → Int32 → Int32 → Int32 → Int32 → jm_X → Option jm_R} (hk25 : ∀ (v2 : Int32) (v3 : Int32) (v4 : Int32) (v5 : Int32) (v6 : Int32) (x : jm_X), jm_V (jm_PP l D clC ad aC shC b0 1) mt_G_program (d0 + 15) 25 [(0, .ref 2), (2, .int v2), (3, .int v3), (4, .int v4), (5, .int v5), (6, .int v6)] [] x (k25 v2 v3 v4 v5 v6 x)) (v2 : Int32) (v3 : Int32) (v4 : Int32) (v5 : Int32) (v6 : Int32) (v8 : Int32) (x : jm_X) : jm_V (jm_PP l D clC ad aC shC b0 1) mt_G_program (d0 + 15) 97 [(0, .ref 2), (2, .int v2), (3, .int v3), (4, .int v4), (5, .int v5), (6, .int v6), (8, .int v8)] [] x (J_G_program_97 K g k25 v2 v3 v4 v5 v6 v8 x) := by
  have hT := tk_G (l := l) (D := D) (ad := ad) (aC := aC) (b0 := b0)
  unfold J_G_program_97
  refine jm_V.run (is := bk_G_program_97_3) (pc' := (if v8 = 3 then 103 else 116)) (ls' := [(0, .ref 2), (2, .int v2), (3, .int v3), (4, .int v4), (5, .int v5), (6, .int v6), (8, .int v8)]) (st' := []) (x' := x) hok hT bk_G_program_97_3_ok rfl ?_
  refine jm_V.ite (fun _ => ?_) (fun _ => ?_)
  · refine jm_V.run (is := bk_G_program_103_4) (pc' := 108) (ls' := [(0, .ref 2), (2, .int v2), (3, .int v3), (4, .int v4), (5, .int v5), (6, .int v6), (8, .int v8)]) (st' := [.int (v4 + 1), .ref 2]) (x' := x) hok hT bk_G_program_103_4_ok rfl ?_
    refine jm_V.callI (av := [.ref 2, .int (v4 + 1)]) (rest := []) hok (jm_Con.mono (c_G_opened hok hrec (v4 + 1) x) (by omega)) (jm_Inv.obj (q := ("FilterReader$Grammar", T_G, 5)) dd_G_program_108 (Or.inl lk_G_127) mn_G_opened ms_G_opened mw_G_opened mh_G_opened ml_G_opened rfl rfl) mw_G_opened mi_G (Nat.le_of_ble_eq_true rfl) (Nat.le_of_ble_eq_true rfl) (fun b12 x11 => ?_)
    refine jm_V.run (is := bk_G_program_111_2) (pc' := 125) (ls' := [(4, .int b12), (0, .ref 2), (2, .int v2), (3, .int v3), (5, .int v5), (6, .int v6), (8, .int v8)]) (st' := []) (x' := x11) hok hT bk_G_program_111_2_ok rfl ?_
    refine jm_V.sub (ls' := [(0, .ref 2), (2, .int v2), (3, .int v3), (4, .int b12), (5, .int v5), (6, .int v6), (8, .int v8)]) [1, 2, 3, 0, 4, 5, 6] rfl ?_
    exact jj_G_program_125 hok hrec hk25 v2 v3 b12 v5 v6 v8 x11
  · refine jm_V.run (is := bk_G_program_116_3) (pc' := (if 3 ≤ v8 then 125 else 122)) (ls' := [(0, .ref 2), (2, .int v2), (3, .int v3), (4, .int v4), (5, .int v5), (6, .int v6), (8, .int v8)]) (st' := []) (x' := x) hok hT bk_G_program_116_3_ok rfl ?_
    refine jm_V.ite (fun _ => ?_) (fun _ => ?_)
    · exact jj_G_program_125 hok hrec hk25 v2 v3 v4 v5 v6 v8 x
    · refine jm_V.run (is := bk_G_program_122_2) (pc' := 125) (ls' := [(4, .int v3), (0, .ref 2), (2, .int v2), (3, .int v3), (5, .int v5), (6, .int v6), (8, .int v8)]) (st' := []) (x' := x) hok hT bk_G_program_122_2_ok rfl ?_
      refine jm_V.sub (ls' := [(0, .ref 2), (2, .int v2), (3, .int v3), (4, .int v3), (5, .int v5), (6, .int v6), (8, .int v8)]) [1, 2, 3, 0, 4, 5, 6] rfl ?_
      exact jj_G_program_125 hok hrec hk25 v2 v3 v3 v5 v6 v8 x
def J_G_program_74 (K : Nat) (g : jm_Rec) (k25 : Int32 → Int32 → Int32 → Int32 → Int32 → jm_X → Option jm_R) (v2 : Int32) (v3 : Int32) (v4 : Int32) (v5 : Int32) (v6 : Int32) (v7 : Nat) (v8 : Int32) (x : jm_X) : Option jm_R := (if jm_cn 1000 55 v7 then jm_bV (f_G_takeAs K g (sg_kind.getD (v7 - 1000) 0) x) (fun x8 => (if v8 = 1 then jm_bI (f_G_heads K g (v3 + 1) x8) (fun b10 x9 => J_G_program_97 K g k25 v2 b10 v4 v5 v6 v8 x9) else J_G_program_97 K g k25 v2 v3 v4 v5 v6 v8 x8)) else none)
set_option maxRecDepth 100000 in
set_option maxHeartbeats 4000000 in
theorem jj_G_program_74 {l : Launch} {D : va_G} {ad : Nat → Nat} {aC : Nat → ClassId} {b0 : Nat} {K d0 : Nat} {g : jm_Rec} (hok : jm_Ok (jm_PP l D clC ad aC shC b0 1)) (hrec : ∀ (t : Nat) (av : List Value) (x : jm_X), jm_Con (jm_PP l D clC ad aC shC b0 1) (rcC t) d0 av x (g t av x)) {k25 : Int32 → Int32 → Int32 → Int32 → Int32 → jm_X → Option jm_R} (hk25 : ∀ (v2 : Int32) (v3 : Int32) (v4 : Int32) (v5 : Int32) (v6 : Int32) (x : jm_X), jm_V (jm_PP l D clC ad aC shC b0 1) mt_G_program (d0 + 15) 25 [(0, .ref 2), (2, .int v2), (3, .int v3), (4, .int v4), (5, .int v5), (6, .int v6)] [] x (k25 v2 v3 v4 v5 v6 x)) (v2 : Int32) (v3 : Int32) (v4 : Int32) (v5 : Int32) (v6 : Int32) (v7 : Nat) (v8 : Int32) (x : jm_X) : jm_V (jm_PP l D clC ad aC shC b0 1) mt_G_program (d0 + 15) 74 [(0, .ref 2), (2, .int v2), (3, .int v3), (4, .int v4), (5, .int v5), (6, .int v6), (7, .ref v7), (8, .int v8)] [] x (J_G_program_74 K g k25 v2 v3 v4 v5 v6 v7 v8 x) := by
  have hT := tk_G (l := l) (D := D) (ad := ad) (aC := aC) (b0 := b0)
  unfold J_G_program_74
  refine jm_V.run (is := bk_G_program_74_2) (pc' := 77) (ls' := [(0, .ref 2), (2, .int v2), (3, .int v3), (4, .int v4), (5, .int v5), (6, .int v6), (7, .ref v7), (8, .int v8)]) (st' := [.ref v7, .ref 2]) (x' := x) hok hT bk_G_program_74_2_ok rfl ?_
  refine jm_V.getC (v := fun i => .int (sg_kind.getD i 0)) hok cs_kind (Or.inr ⟨_, ln_G_121⟩) dd_G_program_77 ?_
  refine jm_V.callV (av := [.ref 2, .int (sg_kind.getD (v7 - 1000) 0)]) (rest := []) hok (jm_Con.mono (c_G_takeAs hok hrec (sg_kind.getD (v7 - 1000) 0) x) (by omega)) (jm_Inv.obj (q := ("FilterReader$Grammar", T_G, 5)) dd_G_program_80 (Or.inl lk_G_124) mn_G_takeAs ms_G_takeAs mw_G_takeAs mh_G_takeAs ml_G_takeAs rfl rfl) mw_G_takeAs mi_G (Nat.le_of_ble_eq_true rfl) (Nat.le_of_ble_eq_true rfl) (fun x8 => ?_)
  refine jm_V.run (is := bk_G_program_83_3) (pc' := (if v8 = 1 then 89 else 97)) (ls' := [(0, .ref 2), (2, .int v2), (3, .int v3), (4, .int v4), (5, .int v5), (6, .int v6), (7, .ref v7), (8, .int v8)]) (st' := []) (x' := x8) hok hT bk_G_program_83_3_ok rfl ?_
  refine jm_V.ite (fun _ => ?_) (fun _ => ?_)
  · refine jm_V.run (is := bk_G_program_89_4) (pc' := 93) (ls' := [(0, .ref 2), (2, .int v2), (3, .int v3), (4, .int v4), (5, .int v5), (6, .int v6), (7, .ref v7), (8, .int v8)]) (st' := [.int (v3 + 1), .ref 2]) (x' := x8) hok hT bk_G_program_89_4_ok rfl ?_
    refine jm_V.callI (av := [.ref 2, .int (v3 + 1)]) (rest := []) hok (jm_Con.mono (c_G_heads hok hrec (v3 + 1) x8) (by omega)) (jm_Inv.obj (q := ("FilterReader$Grammar", T_G, 5)) dd_G_program_93 (Or.inl lk_G_105) mn_G_heads ms_G_heads mw_G_heads mh_G_heads ml_G_heads rfl rfl) mw_G_heads mi_G (Nat.le_of_ble_eq_true rfl) (Nat.le_of_ble_eq_true rfl) (fun b10 x9 => ?_)
    refine jm_V.run (is := bk_G_program_96_1) (pc' := 97) (ls' := [(3, .int b10), (0, .ref 2), (2, .int v2), (4, .int v4), (5, .int v5), (6, .int v6), (7, .ref v7), (8, .int v8)]) (st' := []) (x' := x9) hok hT bk_G_program_96_1_ok rfl ?_
    refine jm_V.sub (ls' := [(0, .ref 2), (2, .int v2), (3, .int b10), (4, .int v4), (5, .int v5), (6, .int v6), (8, .int v8)]) [1, 2, 0, 3, 4, 5, 7] rfl ?_
    exact jj_G_program_97 hok hrec hk25 v2 b10 v4 v5 v6 v8 x9
  · refine jm_V.sub (ls' := [(0, .ref 2), (2, .int v2), (3, .int v3), (4, .int v4), (5, .int v5), (6, .int v6), (8, .int v8)]) [0, 1, 2, 3, 4, 5, 7] rfl ?_
    exact jj_G_program_97 hok hrec hk25 v2 v3 v4 v5 v6 v8 x8
def J_G_program_155 (K : Nat) (g : jm_Rec) (v2 : Int32) (x : jm_X) : Option jm_R := jm_bV (f_N_forgetFrom K g v2 x) (fun x13 => some (.inl (none, x13)))
set_option maxRecDepth 100000 in
set_option maxHeartbeats 4000000 in
theorem jj_G_program_155 {l : Launch} {D : va_G} {ad : Nat → Nat} {aC : Nat → ClassId} {b0 : Nat} {K d0 : Nat} {g : jm_Rec} (hok : jm_Ok (jm_PP l D clC ad aC shC b0 1)) (hrec : ∀ (t : Nat) (av : List Value) (x : jm_X), jm_Con (jm_PP l D clC ad aC shC b0 1) (rcC t) d0 av x (g t av x)) (v2 : Int32) (x : jm_X) : jm_V (jm_PP l D clC ad aC shC b0 1) mt_G_program (d0 + 15) 155 [(0, .ref 2), (2, .int v2)] [] x (J_G_program_155 K g v2 x) := by
  have hT := tk_G (l := l) (D := D) (ad := ad) (aC := aC) (b0 := b0)
  unfold J_G_program_155
  refine jm_V.run (is := bk_G_program_155_3) (pc' := 160) (ls' := [(0, .ref 2), (2, .int v2)]) (st' := [.int v2, .ref 6]) (x' := x) hok hT bk_G_program_155_3_ok rfl ?_
  refine jm_V.callV (av := [.ref 6, .int v2]) (rest := []) hok (jm_Con.mono (c_N_forgetFrom hok hrec v2 x) (by omega)) (jm_Inv.obj (q := ("FilterReader$Names", T_N, 6)) dd_G_program_160 (Or.inl lk_G_130) mn_N_forgetFrom ms_N_forgetFrom mw_N_forgetFrom mh_N_forgetFrom ml_N_forgetFrom rfl rfl) mw_N_forgetFrom mi_N (Nat.le_of_ble_eq_true rfl) (Nat.le_of_ble_eq_true rfl) (fun x13 => ?_)
  exact jm_V.vret rfl dd_G_program_163
def B_G_program_25 (K : Nat) (g : jm_Rec) (self : Int32 → Int32 → Int32 → Int32 → Int32 → jm_X → Option jm_R) (v2 : Int32) (v3 : Int32) (v4 : Int32) (v5 : Int32) (v6 : Int32) (x : jm_X) : Option jm_R := (if 16385 ≤ v6 then J_G_program_155 K g v2 x else jm_bV (f_G_operand K g v4 x) (fun x5 => jm_bA (f_S_sign K g x5) (fun b7 x6 => (if jm_cn 1000 55 b7 then (if (sg_level.getD (b7 - 1000) 0) = 0 then J_G_program_155 K g v2 x6 else (if (sg_level.getD (b7 - 1000) 0) = 5 then (if v5 = 0 then J_G_program_74 K g self v2 v3 v4 v5 v6 b7 (sg_level.getD (b7 - 1000) 0) x6 else J_G_program_155 K g v2 x6) else J_G_program_74 K g self v2 v3 v4 v5 v6 b7 (sg_level.getD (b7 - 1000) 0) x6)) else none))))
def L_G_program_25 (K : Nat) (g : jm_Rec) : Nat → Int32 → Int32 → Int32 → Int32 → Int32 → jm_X → Option jm_R
  | 0, _, _, _, _, _, _ => none
  | k + 1, v2, v3, v4, v5, v6, x => B_G_program_25 K g (L_G_program_25 K g k) v2 v3 v4 v5 v6 x
set_option maxRecDepth 100000 in
set_option maxHeartbeats 4000000 in
theorem jb_G_program_25 {l : Launch} {D : va_G} {ad : Nat → Nat} {aC : Nat → ClassId} {b0 : Nat} {K d0 : Nat} {g : jm_Rec} (hok : jm_Ok (jm_PP l D clC ad aC shC b0 1)) (hrec : ∀ (t : Nat) (av : List Value) (x : jm_X), jm_Con (jm_PP l D clC ad aC shC b0 1) (rcC t) d0 av x (g t av x)) {self : Int32 → Int32 → Int32 → Int32 → Int32 → jm_X → Option jm_R} (hself : ∀ (v2 : Int32) (v3 : Int32) (v4 : Int32) (v5 : Int32) (v6 : Int32) (x : jm_X), jm_V (jm_PP l D clC ad aC shC b0 1) mt_G_program (d0 + 15) 25 [(0, .ref 2), (2, .int v2), (3, .int v3), (4, .int v4), (5, .int v5), (6, .int v6)] [] x (self v2 v3 v4 v5 v6 x)) (v2 : Int32) (v3 : Int32) (v4 : Int32) (v5 : Int32) (v6 : Int32) (x : jm_X) : jm_V (jm_PP l D clC ad aC shC b0 1) mt_G_program (d0 + 15) 25 [(0, .ref 2), (2, .int v2), (3, .int v3), (4, .int v4), (5, .int v5), (6, .int v6)] [] x (B_G_program_25 K g self v2 v3 v4 v5 v6 x) := by
  have hT := tk_G (l := l) (D := D) (ad := ad) (aC := aC) (b0 := b0)
  unfold B_G_program_25
  refine jm_V.run (is := bk_G_program_25_3) (pc' := (if 16385 ≤ v6 then 155 else 33)) (ls' := [(0, .ref 2), (2, .int v2), (3, .int v3), (4, .int v4), (5, .int v5), (6, .int v6)]) (st' := []) (x' := x) hok hT bk_G_program_25_3_ok rfl ?_
  refine jm_V.ite (fun _ => ?_) (fun _ => ?_)
  · refine jm_V.sub (ls' := [(0, .ref 2), (2, .int v2)]) [0, 1] rfl ?_
    exact jj_G_program_155 hok hrec v2 x
  · refine jm_V.run (is := bk_G_program_33_2) (pc' := 36) (ls' := [(0, .ref 2), (2, .int v2), (3, .int v3), (4, .int v4), (5, .int v5), (6, .int v6)]) (st' := [.int v4, .ref 2]) (x' := x) hok hT bk_G_program_33_2_ok rfl ?_
    refine jm_V.callV (av := [.ref 2, .int v4]) (rest := []) hok (jm_Con.mono (c_G_operand hok hrec v4 x) (by omega)) (jm_Inv.obj (q := ("FilterReader$Grammar", T_G, 5)) dd_G_program_36 (Or.inl lk_G_109) mn_G_operand ms_G_operand mw_G_operand mh_G_operand ml_G_operand rfl rfl) mw_G_operand mi_G (Nat.le_of_ble_eq_true rfl) (Nat.le_of_ble_eq_true rfl) (fun x5 => ?_)
    refine jm_V.run (is := bk_G_program_39_2) (pc' := 43) (ls' := [(0, .ref 2), (2, .int v2), (3, .int v3), (4, .int v4), (5, .int v5), (6, .int v6)]) (st' := [.ref 4]) (x' := x5) hok hT bk_G_program_39_2_ok rfl ?_
    refine jm_V.callA (av := [.ref 4]) (rest := []) hok (jm_Con.mono (c_S_sign hok hrec x5) (by omega)) (jm_Inv.obj (q := ("FilterReader$Signs", T_S, 5)) dd_G_program_43 (Or.inl lk_G_112) mn_S_sign ms_S_sign mw_S_sign mh_S_sign ml_S_sign rfl rfl) mw_S_sign mi_S (Nat.le_of_ble_eq_true rfl) (Nat.le_of_ble_eq_true rfl) (fun b7 x6 => ?_)
    refine jm_V.run (is := bk_G_program_46_2) (pc' := 50) (ls' := [(7, .ref b7), (0, .ref 2), (2, .int v2), (3, .int v3), (4, .int v4), (5, .int v5), (6, .int v6)]) (st' := [.ref b7]) (x' := x6) hok hT bk_G_program_46_2_ok rfl ?_
    refine jm_V.getC (v := fun i => .int (sg_level.getD i 0)) hok cs_level (Or.inr ⟨_, ln_G_116⟩) dd_G_program_50 ?_
    refine jm_V.run (is := bk_G_program_53_3) (pc' := (if (sg_level.getD (b7 - 1000) 0) = 0 then 155 else 60)) (ls' := [(8, .int (sg_level.getD (b7 - 1000) 0)), (7, .ref b7), (0, .ref 2), (2, .int v2), (3, .int v3), (4, .int v4), (5, .int v5), (6, .int v6)]) (st' := []) (x' := x6) hok hT bk_G_program_53_3_ok rfl ?_
    refine jm_V.ite (fun _ => ?_) (fun _ => ?_)
    · refine jm_V.sub (ls' := [(0, .ref 2), (2, .int v2)]) [2, 3] rfl ?_
      exact jj_G_program_155 hok hrec v2 x6
    · refine jm_V.run (is := bk_G_program_60_3) (pc' := (if (sg_level.getD (b7 - 1000) 0) = 5 then 66 else 74)) (ls' := [(8, .int (sg_level.getD (b7 - 1000) 0)), (7, .ref b7), (0, .ref 2), (2, .int v2), (3, .int v3), (4, .int v4), (5, .int v5), (6, .int v6)]) (st' := []) (x' := x6) hok hT bk_G_program_60_3_ok rfl ?_
      refine jm_V.ite (fun _ => ?_) (fun _ => ?_)
      · refine jm_V.run (is := bk_G_program_66_2) (pc' := (if v5 = 0 then 74 else 71)) (ls' := [(8, .int (sg_level.getD (b7 - 1000) 0)), (7, .ref b7), (0, .ref 2), (2, .int v2), (3, .int v3), (4, .int v4), (5, .int v5), (6, .int v6)]) (st' := []) (x' := x6) hok hT bk_G_program_66_2_ok rfl ?_
        refine jm_V.ite (fun _ => ?_) (fun _ => ?_)
        · refine jm_V.sub (ls' := [(0, .ref 2), (2, .int v2), (3, .int v3), (4, .int v4), (5, .int v5), (6, .int v6), (7, .ref b7), (8, .int (sg_level.getD (b7 - 1000) 0))]) [2, 3, 4, 5, 6, 7, 1, 0] rfl ?_
          exact jj_G_program_74 hok hrec hself v2 v3 v4 v5 v6 b7 (sg_level.getD (b7 - 1000) 0) x6
        · refine jm_V.run (is := bk_G_program_71_1) (pc' := 155) (ls' := [(8, .int (sg_level.getD (b7 - 1000) 0)), (7, .ref b7), (0, .ref 2), (2, .int v2), (3, .int v3), (4, .int v4), (5, .int v5), (6, .int v6)]) (st' := []) (x' := x6) hok hT bk_G_program_71_1_ok rfl ?_
          refine jm_V.sub (ls' := [(0, .ref 2), (2, .int v2)]) [2, 3] rfl ?_
          exact jj_G_program_155 hok hrec v2 x6
      · refine jm_V.sub (ls' := [(0, .ref 2), (2, .int v2), (3, .int v3), (4, .int v4), (5, .int v5), (6, .int v6), (7, .ref b7), (8, .int (sg_level.getD (b7 - 1000) 0))]) [2, 3, 4, 5, 6, 7, 1, 0] rfl ?_
        exact jj_G_program_74 hok hrec hself v2 v3 v4 v5 v6 b7 (sg_level.getD (b7 - 1000) 0) x6
theorem jl_G_program_25 {l : Launch} {D : va_G} {ad : Nat → Nat} {aC : Nat → ClassId} {b0 : Nat} {K d0 : Nat} {g : jm_Rec} (hok : jm_Ok (jm_PP l D clC ad aC shC b0 1)) (hrec : ∀ (t : Nat) (av : List Value) (x : jm_X), jm_Con (jm_PP l D clC ad aC shC b0 1) (rcC t) d0 av x (g t av x)) : ∀ (k : Nat) (v2 : Int32) (v3 : Int32) (v4 : Int32) (v5 : Int32) (v6 : Int32) (x : jm_X), jm_V (jm_PP l D clC ad aC shC b0 1) mt_G_program (d0 + 15) 25 [(0, .ref 2), (2, .int v2), (3, .int v3), (4, .int v4), (5, .int v5), (6, .int v6)] [] x (L_G_program_25 K g k v2 v3 v4 v5 v6 x)
  | 0, _, _, _, _, _, _ => jm_V.stuck
  | k + 1, v2, v3, v4, v5, v6, x => jb_G_program_25 hok hrec (fun v2 v3 v4 v5 v6 x => jl_G_program_25 hok hrec k v2 v3 v4 v5 v6 x) v2 v3 v4 v5 v6 x
def f_G_program (K : Nat) (g : jm_Rec) (a1 : Int32) (x : jm_X) : Option jm_R := jm_bI (f_N_size K g x) (fun b2 x1 => jm_bI (f_G_heads K g (a1 + 1) x1) (fun b4 x3 => L_G_program_25 K g K b2 b4 b4 0 0 x3))
set_option maxRecDepth 100000 in
set_option maxHeartbeats 4000000 in
theorem c_G_program {l : Launch} {D : va_G} {ad : Nat → Nat} {aC : Nat → ClassId} {b0 : Nat} {K d0 : Nat} {g : jm_Rec} (hok : jm_Ok (jm_PP l D clC ad aC shC b0 1)) (hrec : ∀ (t : Nat) (av : List Value) (x : jm_X), jm_Con (jm_PP l D clC ad aC shC b0 1) (rcC t) d0 av x (g t av x)) (a1 : Int32) (x : jm_X) : jm_Con (jm_PP l D clC ad aC shC b0 1) mt_G_program (d0 + 15) [.ref 2, .int a1] x (f_G_program K g a1 x) := by
  refine jm_Con.of (plainFor_of_name (by decide +kernel)) (Nat.le_of_ble_eq_true rfl) ?_
  have hT := tk_G (l := l) (D := D) (ad := ad) (aC := aC) (b0 := b0)
  unfold f_G_program
  show jm_V _ _ _ 0 [(0, .ref 2), (1, .int a1)] [] x _
  refine jm_V.run (is := bk_G_program_0_2) (pc' := 4) (ls' := [(0, .ref 2), (1, .int a1)]) (st' := [.ref 6]) (x' := x) hok hT bk_G_program_0_2_ok rfl ?_
  refine jm_V.callI (av := [.ref 6]) (rest := []) hok (jm_Con.mono (c_N_size hok hrec x) (by omega)) (jm_Inv.obj (q := ("FilterReader$Names", T_N, 6)) dd_G_program_4 (Or.inl lk_G_102) mn_N_size ms_N_size mw_N_size mh_N_size ml_N_size rfl rfl) mw_N_size mi_N (Nat.le_of_ble_eq_true rfl) (Nat.le_of_ble_eq_true rfl) (fun b2 x1 => ?_)
  refine jm_V.run (is := bk_G_program_7_5) (pc' := 12) (ls' := [(2, .int b2), (0, .ref 2), (1, .int a1)]) (st' := [.int (a1 + 1), .ref 2]) (x' := x1) hok hT bk_G_program_7_5_ok rfl ?_
  refine jm_V.callI (av := [.ref 2, .int (a1 + 1)]) (rest := []) hok (jm_Con.mono (c_G_heads hok hrec (a1 + 1) x1) (by omega)) (jm_Inv.obj (q := ("FilterReader$Grammar", T_G, 5)) dd_G_program_12 (Or.inl lk_G_105) mn_G_heads ms_G_heads mw_G_heads mh_G_heads ml_G_heads rfl rfl) mw_G_heads mi_G (Nat.le_of_ble_eq_true rfl) (Nat.le_of_ble_eq_true rfl) (fun b4 x3 => ?_)
  refine jm_V.run (is := bk_G_program_15_7) (pc' := 25) (ls' := [(6, .int 0), (5, .int 0), (4, .int b4), (3, .int b4), (2, .int b2), (0, .ref 2), (1, .int a1)]) (st' := []) (x' := x3) hok hT bk_G_program_15_7_ok rfl ?_
  refine jm_V.sub (ls' := [(0, .ref 2), (2, .int b2), (3, .int b4), (4, .int b4), (5, .int 0), (6, .int 0)]) [5, 4, 3, 2, 1, 0] rfl ?_
  exact jl_G_program_25 hok hrec K b2 b4 b4 0 0 x3
abbrev bk_G_readProgram_0_1 : List (Nat × Instr × Nat) := [(0, .aload_n 0, 1)]
theorem bk_G_readProgram_0_1_ok : jm_at mt_G_readProgram.2.1 bk_G_readProgram_0_1 = true := by decide +kernel
abbrev bk_G_readProgram_4_3 : List (Nat × Instr × Nat) := [(4, .aload_n 0, 1), (5, .iconst (-1), 1), (6, .putfield 31, 3)]
theorem bk_G_readProgram_4_3_ok : jm_at mt_G_readProgram.2.1 bk_G_readProgram_4_3 = true := by decide +kernel
abbrev bk_G_readProgram_9_3 : List (Nat × Instr × Nat) := [(9, .aload_n 0, 1), (10, .getfield 27, 3), (13, .aload_n 1, 1)]
theorem bk_G_readProgram_9_3_ok : jm_at mt_G_readProgram.2.1 bk_G_readProgram_9_3 = true := by decide +kernel
abbrev bk_G_readProgram_17_4 : List (Nat × Instr × Nat) := [(17, .aload_n 0, 1), (18, .getfield 20, 3), (21, .aload_n 1, 1), (22, .iload_n 2, 1)]
theorem bk_G_readProgram_17_4_ok : jm_at mt_G_readProgram.2.1 bk_G_readProgram_17_4 = true := by decide +kernel
abbrev bk_G_readProgram_26_2 : List (Nat × Instr × Nat) := [(26, .aload_n 0, 1), (27, .iconst 0, 1)]
theorem bk_G_readProgram_26_2_ok : jm_at mt_G_readProgram.2.1 bk_G_readProgram_26_2 = true := by decide +kernel
abbrev bk_G_readProgram_31_2 : List (Nat × Instr × Nat) := [(31, .aload_n 0, 1), (32, .getstatic 49, 3)]
theorem bk_G_readProgram_31_2_ok : jm_at mt_G_readProgram.2.1 bk_G_readProgram_31_2 = true := by decide +kernel
abbrev bk_G_readProgram_38_2 : List (Nat × Instr × Nat) := [(38, .aload_n 0, 1), (39, .getfield 59, 3)]
theorem bk_G_readProgram_38_2_ok : jm_at mt_G_readProgram.2.1 bk_G_readProgram_38_2 = true := by decide +kernel
theorem dd_G_readProgram_1 : decode mt_G_readProgram.2.1 1 = .ok (.invokevirtual 35, 3) := by decide +kernel
theorem dd_G_readProgram_14 : decode mt_G_readProgram.2.1 14 = .ok (.invokevirtual 38, 3) := by decide +kernel
theorem dd_G_readProgram_23 : decode mt_G_readProgram.2.1 23 = .ok (.invokevirtual 42, 3) := by decide +kernel
theorem dd_G_readProgram_28 : decode mt_G_readProgram.2.1 28 = .ok (.invokevirtual 45, 3) := by decide +kernel
theorem dd_G_readProgram_35 : decode mt_G_readProgram.2.1 35 = .ok (.invokevirtual 55, 3) := by decide +kernel
theorem dd_G_readProgram_42 : decode mt_G_readProgram.2.1 42 = .ok (.ireturn, 1) := by decide +kernel
def f_G_readProgram (K : Nat) (g : jm_Rec) (a1 : Nat) (a2 : Int32) (x : jm_X) : Option jm_R := jm_bV (f_G_forgetProgram K g x) (fun x1 => jm_then (va_up x1.1 204 (-1), x1.2) (fun x2 => jm_bV (f_N_begin K g a1 x2) (fun x3 => jm_bV (f_S_begin K g a1 a2 x3) (fun x4 => jm_bV (f_G_program K g 0 x4) (fun x5 => jm_bV (f_G_need K g 1000 x5) (fun x6 => some (.inl (some (.int (x6.1 203)), x6))))))))
set_option maxRecDepth 100000 in
set_option maxHeartbeats 4000000 in
theorem c_G_readProgram {l : Launch} {D : va_G} {ad : Nat → Nat} {aC : Nat → ClassId} {b0 : Nat} {K d0 : Nat} {g : jm_Rec} (hok : jm_Ok (jm_PP l D clC ad aC shC b0 1)) (hrec : ∀ (t : Nat) (av : List Value) (x : jm_X), jm_Con (jm_PP l D clC ad aC shC b0 1) (rcC t) d0 av x (g t av x)) (a1 : Nat) (a2 : Int32) (x : jm_X) : jm_Con (jm_PP l D clC ad aC shC b0 1) mt_G_readProgram (d0 + 16) [.ref 2, .ref a1, .int a2] x (f_G_readProgram K g a1 a2 x) := by
  refine jm_Con.of (plainFor_of_name (by decide +kernel)) (Nat.le_of_ble_eq_true rfl) ?_
  have hT := tk_G (l := l) (D := D) (ad := ad) (aC := aC) (b0 := b0)
  unfold f_G_readProgram
  show jm_V _ _ _ 0 [(0, .ref 2), (1, .ref a1), (2, .int a2)] [] x _
  refine jm_V.run (is := bk_G_readProgram_0_1) (pc' := 1) (ls' := [(0, .ref 2), (1, .ref a1), (2, .int a2)]) (st' := [.ref 2]) (x' := x) hok hT bk_G_readProgram_0_1_ok rfl ?_
  refine jm_V.callV (av := [.ref 2]) (rest := []) hok (jm_Con.mono (c_G_forgetProgram hok hrec x) (by omega)) (jm_Inv.obj (q := ("FilterReader$Grammar", T_G, 5)) dd_G_readProgram_1 (Or.inl lk_G_35) mn_G_forgetProgram ms_G_forgetProgram mw_G_forgetProgram mh_G_forgetProgram ml_G_forgetProgram rfl rfl) mw_G_forgetProgram mi_G (Nat.le_of_ble_eq_true rfl) (Nat.le_of_ble_eq_true rfl) (fun x1 => ?_)
  refine jm_V.run (is := bk_G_readProgram_4_3) (pc' := 9) (ls' := [(0, .ref 2), (1, .ref a1), (2, .int a2)]) (st' := []) (x' := (va_up x1.1 204 (-1), x1.2)) hok hT bk_G_readProgram_4_3_ok rfl ?_
  refine jm_V.then_ (fun x2 => ?_)
  refine jm_V.run (is := bk_G_readProgram_9_3) (pc' := 14) (ls' := [(0, .ref 2), (1, .ref a1), (2, .int a2)]) (st' := [.ref a1, .ref 6]) (x' := x2) hok hT bk_G_readProgram_9_3_ok rfl ?_
  refine jm_V.callV (av := [.ref 6, .ref a1]) (rest := []) hok (jm_Con.mono (c_N_begin hok hrec a1 x2) (by omega)) (jm_Inv.obj (q := ("FilterReader$Names", T_N, 6)) dd_G_readProgram_14 (Or.inl lk_G_38) mn_N_begin ms_N_begin mw_N_begin mh_N_begin ml_N_begin rfl rfl) mw_N_begin mi_N (Nat.le_of_ble_eq_true rfl) (Nat.le_of_ble_eq_true rfl) (fun x3 => ?_)
  refine jm_V.run (is := bk_G_readProgram_17_4) (pc' := 23) (ls' := [(0, .ref 2), (1, .ref a1), (2, .int a2)]) (st' := [.int a2, .ref a1, .ref 4]) (x' := x3) hok hT bk_G_readProgram_17_4_ok rfl ?_
  refine jm_V.callV (av := [.ref 4, .ref a1, .int a2]) (rest := []) hok (jm_Con.mono (c_S_begin hok hrec a1 a2 x3) (by omega)) (jm_Inv.obj (q := ("FilterReader$Signs", T_S, 5)) dd_G_readProgram_23 (Or.inl lk_G_42) mn_S_begin ms_S_begin mw_S_begin mh_S_begin ml_S_begin rfl rfl) mw_S_begin mi_S (Nat.le_of_ble_eq_true rfl) (Nat.le_of_ble_eq_true rfl) (fun x4 => ?_)
  refine jm_V.run (is := bk_G_readProgram_26_2) (pc' := 28) (ls' := [(0, .ref 2), (1, .ref a1), (2, .int a2)]) (st' := [.int 0, .ref 2]) (x' := x4) hok hT bk_G_readProgram_26_2_ok rfl ?_
  refine jm_V.callV (av := [.ref 2, .int 0]) (rest := []) hok (jm_Con.mono (c_G_program hok hrec 0 x4) (by omega)) (jm_Inv.obj (q := ("FilterReader$Grammar", T_G, 5)) dd_G_readProgram_28 (Or.inl lk_G_45) mn_G_program ms_G_program mw_G_program mh_G_program ml_G_program rfl rfl) mw_G_program mi_G (Nat.le_of_ble_eq_true rfl) (Nat.le_of_ble_eq_true rfl) (fun x5 => ?_)
  refine jm_V.run (is := bk_G_readProgram_31_2) (pc' := 35) (ls' := [(0, .ref 2), (1, .ref a1), (2, .int a2)]) (st' := [.ref 1000, .ref 2]) (x' := x5) hok hT bk_G_readProgram_31_2_ok rfl ?_
  refine jm_V.callV (av := [.ref 2, .ref 1000]) (rest := []) hok (jm_Con.mono (c_G_need hok hrec 1000 x5) (by omega)) (jm_Inv.obj (q := ("FilterReader$Grammar", T_G, 5)) dd_G_readProgram_35 (Or.inl lk_G_55) mn_G_need ms_G_need mw_G_need mh_G_need ml_G_need rfl rfl) mw_G_need mi_G (Nat.le_of_ble_eq_true rfl) (Nat.le_of_ble_eq_true rfl) (fun x6 => ?_)
  refine jm_V.run (is := bk_G_readProgram_38_2) (pc' := 42) (ls' := [(0, .ref 2), (1, .ref a1), (2, .int a2)]) (st' := [.int (x6.1 203)]) (x' := x6) hok hT bk_G_readProgram_38_2_ok rfl ?_
  exact jm_V.iret rfl dd_G_readProgram_42
abbrev bk_FR_append_0_2 : List (Nat × Instr × Nat) := [(0, .bipush 24, 2), (2, .istore_n 2, 1)]
theorem bk_FR_append_0_2_ok : jm_at mt_FR_append.2.1 bk_FR_append_0_2 = true := by decide +kernel
abbrev bk_FR_append_3_2 : List (Nat × Instr × Nat) := [(3, .iload_n 2, 1), (4, .ifCond .lt 42, 3)]
theorem bk_FR_append_3_2_ok : jm_at mt_FR_append.2.1 bk_FR_append_3_2 = true := by decide +kernel
abbrev bk_FR_append_7_4 : List (Nat × Instr × Nat) := [(7, .aload_n 0, 1), (8, .getfield 20, 3), (11, .sipush 16384, 3), (14, .if_icmp .ge 32, 3)]
theorem bk_FR_append_7_4_ok : jm_at mt_FR_append.2.1 bk_FR_append_7_4 = true := by decide +kernel
abbrev bk_FR_append_17_8 : List (Nat × Instr × Nat) := [(17, .aload_n 0, 1), (18, .getfield 9, 3), (21, .aload_n 0, 1), (22, .getfield 20, 3), (25, .iload_n 1, 1), (26, .iload_n 2, 1), (27, .ishr, 1), (28, .i2b, 1)]
theorem bk_FR_append_17_8_ok : jm_at mt_FR_append.2.1 bk_FR_append_17_8 = true := by decide +kernel
abbrev bk_FR_append_30_6 : List (Nat × Instr × Nat) := [(30, .aload_n 0, 1), (31, .dup, 1), (32, .getfield 20, 3), (35, .iconst 1, 1), (36, .iadd, 1), (37, .putfield 20, 3)]
theorem bk_FR_append_30_6_ok : jm_at mt_FR_append.2.1 bk_FR_append_30_6 = true := by decide +kernel
abbrev bk_FR_append_40_2 : List (Nat × Instr × Nat) := [(40, .iinc 2 (-8), 3), (43, .goto (-40), 3)]
theorem bk_FR_append_40_2_ok : jm_at mt_FR_append.2.1 bk_FR_append_40_2 = true := by decide +kernel
theorem dd_FR_append_29 : decode mt_FR_append.2.1 29 = .ok (.bastore, 1) := by decide +kernel
theorem dd_FR_append_46 : decode mt_FR_append.2.1 46 = .ok (.return_, 1) := by decide +kernel
def J_FR_append_46 (K : Nat) (g : jm_Rec)  (x : jm_X) : Option jm_R := some (.inl (none, x))
set_option maxRecDepth 100000 in
set_option maxHeartbeats 4000000 in
theorem jj_FR_append_46 {l : Launch} {D : va_G} {ad : Nat → Nat} {aC : Nat → ClassId} {b0 : Nat} {K d0 : Nat} {g : jm_Rec} (hok : jm_Ok (jm_PP l D clC ad aC shC b0 1)) (hrec : ∀ (t : Nat) (av : List Value) (x : jm_X), jm_Con (jm_PP l D clC ad aC shC b0 1) (rcC t) d0 av x (g t av x))  (x : jm_X) : jm_V (jm_PP l D clC ad aC shC b0 1) mt_FR_append (d0 + 1) 46 [] [] x (J_FR_append_46 K g  x) := by
  have hT := tk_FR (l := l) (D := D) (ad := ad) (aC := aC) (b0 := b0)
  unfold J_FR_append_46
  exact jm_V.vret rfl dd_FR_append_46
def B_FR_append_3 (K : Nat) (g : jm_Rec) (self : Int32 → Int32 → jm_X → Option jm_R) (v1 : Int32) (v2 : Int32) (x : jm_X) : Option jm_R := (if v2 < 0 then J_FR_append_46 K g x else (if 16384 ≤ (x.1 2) then J_FR_append_46 K g x else (if jm_in shC 1 .byte (x.1 2) then jm_then (jm_ua x 1 (x.1 2) (vp_nar .byte (Int8.toInt32 (Int32.toInt8 (v1 >>> (v2 &&& 31)))))) (fun x1 => jm_then (va_up x1.1 2 ((x1.1 2) + 1), x1.2) (fun x2 => self v1 (v2 + (-8)) x2)) else none)))
def L_FR_append_3 (K : Nat) (g : jm_Rec) : Nat → Int32 → Int32 → jm_X → Option jm_R
  | 0, _, _, _ => none
  | k + 1, v1, v2, x => B_FR_append_3 K g (L_FR_append_3 K g k) v1 v2 x
set_option maxRecDepth 100000 in
set_option maxHeartbeats 4000000 in
theorem jb_FR_append_3 {l : Launch} {D : va_G} {ad : Nat → Nat} {aC : Nat → ClassId} {b0 : Nat} {K d0 : Nat} {g : jm_Rec} (hok : jm_Ok (jm_PP l D clC ad aC shC b0 1)) (hrec : ∀ (t : Nat) (av : List Value) (x : jm_X), jm_Con (jm_PP l D clC ad aC shC b0 1) (rcC t) d0 av x (g t av x)) {self : Int32 → Int32 → jm_X → Option jm_R} (hself : ∀ (v1 : Int32) (v2 : Int32) (x : jm_X), jm_V (jm_PP l D clC ad aC shC b0 1) mt_FR_append (d0 + 1) 3 [(0, .ref 0), (1, .int v1), (2, .int v2)] [] x (self v1 v2 x)) (v1 : Int32) (v2 : Int32) (x : jm_X) : jm_V (jm_PP l D clC ad aC shC b0 1) mt_FR_append (d0 + 1) 3 [(0, .ref 0), (1, .int v1), (2, .int v2)] [] x (B_FR_append_3 K g self v1 v2 x) := by
  have hT := tk_FR (l := l) (D := D) (ad := ad) (aC := aC) (b0 := b0)
  unfold B_FR_append_3
  refine jm_V.run (is := bk_FR_append_3_2) (pc' := (if v2 < 0 then 46 else 7)) (ls' := [(0, .ref 0), (1, .int v1), (2, .int v2)]) (st' := []) (x' := x) hok hT bk_FR_append_3_2_ok rfl ?_
  refine jm_V.ite (fun _ => ?_) (fun _ => ?_)
  · refine jm_V.sub (ls' := []) [] rfl ?_
    exact jj_FR_append_46 hok hrec x
  · refine jm_V.run (is := bk_FR_append_7_4) (pc' := (if 16384 ≤ (x.1 2) then 46 else 17)) (ls' := [(0, .ref 0), (1, .int v1), (2, .int v2)]) (st' := []) (x' := x) hok hT bk_FR_append_7_4_ok rfl ?_
    refine jm_V.ite (fun _ => ?_) (fun _ => ?_)
    · refine jm_V.sub (ls' := []) [] rfl ?_
      exact jj_FR_append_46 hok hrec x
    · refine jm_V.run (is := bk_FR_append_17_8) (pc' := 29) (ls' := [(0, .ref 0), (1, .int v1), (2, .int v2)]) (st' := [.int (Int8.toInt32 (Int32.toInt8 (v1 >>> (v2 &&& 31)))), .int (x.1 2), .ref 1]) (x' := x) hok hT bk_FR_append_17_8_ok rfl ?_
      refine jm_V.bast hok dd_FR_append_29 ?_
      refine jm_V.then_ (fun x1 => ?_)
      refine jm_V.run (is := bk_FR_append_30_6) (pc' := 40) (ls' := [(0, .ref 0), (1, .int v1), (2, .int v2)]) (st' := []) (x' := (va_up x1.1 2 ((x1.1 2) + 1), x1.2)) hok hT bk_FR_append_30_6_ok rfl ?_
      refine jm_V.then_ (fun x2 => ?_)
      refine jm_V.run (is := bk_FR_append_40_2) (pc' := 3) (ls' := [(2, .int (v2 + (-8))), (0, .ref 0), (1, .int v1)]) (st' := []) (x' := x2) hok hT bk_FR_append_40_2_ok rfl ?_
      refine jm_V.sub (ls' := [(0, .ref 0), (1, .int v1), (2, .int (v2 + (-8)))]) [1, 2, 0] rfl ?_
      exact hself v1 (v2 + (-8)) x2
theorem jl_FR_append_3 {l : Launch} {D : va_G} {ad : Nat → Nat} {aC : Nat → ClassId} {b0 : Nat} {K d0 : Nat} {g : jm_Rec} (hok : jm_Ok (jm_PP l D clC ad aC shC b0 1)) (hrec : ∀ (t : Nat) (av : List Value) (x : jm_X), jm_Con (jm_PP l D clC ad aC shC b0 1) (rcC t) d0 av x (g t av x)) : ∀ (k : Nat) (v1 : Int32) (v2 : Int32) (x : jm_X), jm_V (jm_PP l D clC ad aC shC b0 1) mt_FR_append (d0 + 1) 3 [(0, .ref 0), (1, .int v1), (2, .int v2)] [] x (L_FR_append_3 K g k v1 v2 x)
  | 0, _, _, _ => jm_V.stuck
  | k + 1, v1, v2, x => jb_FR_append_3 hok hrec (fun v1 v2 x => jl_FR_append_3 hok hrec k v1 v2 x) v1 v2 x
def f_FR_append (K : Nat) (g : jm_Rec) (a1 : Int32) (x : jm_X) : Option jm_R := L_FR_append_3 K g K a1 24 x
set_option maxRecDepth 100000 in
set_option maxHeartbeats 4000000 in
theorem c_FR_append {l : Launch} {D : va_G} {ad : Nat → Nat} {aC : Nat → ClassId} {b0 : Nat} {K d0 : Nat} {g : jm_Rec} (hok : jm_Ok (jm_PP l D clC ad aC shC b0 1)) (hrec : ∀ (t : Nat) (av : List Value) (x : jm_X), jm_Con (jm_PP l D clC ad aC shC b0 1) (rcC t) d0 av x (g t av x)) (a1 : Int32) (x : jm_X) : jm_Con (jm_PP l D clC ad aC shC b0 1) mt_FR_append (d0 + 1) [.ref 0, .int a1] x (f_FR_append K g a1 x) := by
  refine jm_Con.of (plainFor_of_name (by decide +kernel)) (Nat.le_of_ble_eq_true rfl) ?_
  have hT := tk_FR (l := l) (D := D) (ad := ad) (aC := aC) (b0 := b0)
  unfold f_FR_append
  show jm_V _ _ _ 0 [(0, .ref 0), (1, .int a1)] [] x _
  refine jm_V.run (is := bk_FR_append_0_2) (pc' := 3) (ls' := [(2, .int 24), (0, .ref 0), (1, .int a1)]) (st' := []) (x' := x) hok hT bk_FR_append_0_2_ok rfl ?_
  refine jm_V.sub (ls' := [(0, .ref 0), (1, .int a1), (2, .int 24)]) [1, 2, 0] rfl ?_
  exact jl_FR_append_3 hok hrec K a1 24 x
abbrev bk_FR_feed_0_4 : List (Nat × Instr × Nat) := [(0, .aload_n 0, 1), (1, .getfield 20, 3), (4, .sipush 16364, 3), (7, .if_icmp .le 11, 3)]
theorem bk_FR_feed_0_4_ok : jm_at mt_FR_feed.2.1 bk_FR_feed_0_4 = true := by decide +kernel
abbrev bk_FR_feed_18_2 : List (Nat × Instr × Nat) := [(18, .aload_n 0, 1), (19, .iload_n 1, 1)]
theorem bk_FR_feed_18_2_ok : jm_at mt_FR_feed.2.1 bk_FR_feed_18_2 = true := by decide +kernel
abbrev bk_FR_feed_23_2 : List (Nat × Instr × Nat) := [(23, .aload_n 0, 1), (24, .iload_n 2, 1)]
theorem bk_FR_feed_23_2_ok : jm_at mt_FR_feed.2.1 bk_FR_feed_23_2 = true := by decide +kernel
abbrev bk_FR_feed_28_2 : List (Nat × Instr × Nat) := [(28, .aload_n 0, 1), (29, .iload_n 3, 1)]
theorem bk_FR_feed_28_2_ok : jm_at mt_FR_feed.2.1 bk_FR_feed_28_2 = true := by decide +kernel
abbrev bk_FR_feed_33_2 : List (Nat × Instr × Nat) := [(33, .aload_n 0, 1), (34, .iload 4, 2)]
theorem bk_FR_feed_33_2_ok : jm_at mt_FR_feed.2.1 bk_FR_feed_33_2 = true := by decide +kernel
abbrev bk_FR_feed_39_2 : List (Nat × Instr × Nat) := [(39, .aload_n 0, 1), (40, .iload 5, 2)]
theorem bk_FR_feed_39_2_ok : jm_at mt_FR_feed.2.1 bk_FR_feed_39_2 = true := by decide +kernel
abbrev bk_FR_feed_45_2 : List (Nat × Instr × Nat) := [(45, .aload_n 0, 1), (46, .getfield 20, 3)]
theorem bk_FR_feed_45_2_ok : jm_at mt_FR_feed.2.1 bk_FR_feed_45_2 = true := by decide +kernel
theorem dd_FR_feed_20 : decode mt_FR_feed.2.1 20 = .ok (.invokevirtual 27, 3) := by decide +kernel
theorem dd_FR_feed_25 : decode mt_FR_feed.2.1 25 = .ok (.invokevirtual 27, 3) := by decide +kernel
theorem dd_FR_feed_30 : decode mt_FR_feed.2.1 30 = .ok (.invokevirtual 27, 3) := by decide +kernel
theorem dd_FR_feed_36 : decode mt_FR_feed.2.1 36 = .ok (.invokevirtual 27, 3) := by decide +kernel
theorem dd_FR_feed_42 : decode mt_FR_feed.2.1 42 = .ok (.invokevirtual 27, 3) := by decide +kernel
theorem dd_FR_feed_49 : decode mt_FR_feed.2.1 49 = .ok (.ireturn, 1) := by decide +kernel
theorem dd_FR_feed_10 : decode mt_FR_feed.2.1 10 = .ok (.new 24, 3) := by decide +kernel
theorem dd_FR_feed_13 : decode mt_FR_feed.2.1 13 = .ok (.dup, 1) := by decide +kernel
theorem dd_FR_feed_14 : decode mt_FR_feed.2.1 14 = .ok (.invokespecial 26, 3) := by decide +kernel
theorem dd_FR_feed_17 : decode mt_FR_feed.2.1 17 = .ok (.athrow, 1) := by decide +kernel
def f_FR_feed (K : Nat) (g : jm_Rec) (a1 : Int32) (a2 : Int32) (a3 : Int32) (a4 : Int32) (a5 : Int32) (x : jm_X) : Option jm_R := (if (x.1 2) ≤ 16364 then jm_bV (f_FR_append K g a1 x) (fun x1 => jm_bV (f_FR_append K g a2 x1) (fun x2 => jm_bV (f_FR_append K g a3 x2) (fun x3 => jm_bV (f_FR_append K g a4 x3) (fun x4 => jm_bV (f_FR_append K g a5 x4) (fun x5 => some (.inl (some (.int (x5.1 2)), x5))))))) else some (.inr ("java/lang/IndexOutOfBoundsException", x)))
set_option maxRecDepth 100000 in
set_option maxHeartbeats 4000000 in
theorem c_FR_feed {l : Launch} {D : va_G} {ad : Nat → Nat} {aC : Nat → ClassId} {b0 : Nat} {K d0 : Nat} {g : jm_Rec} (hok : jm_Ok (jm_PP l D clC ad aC shC b0 1)) (hrec : ∀ (t : Nat) (av : List Value) (x : jm_X), jm_Con (jm_PP l D clC ad aC shC b0 1) (rcC t) d0 av x (g t av x)) (a1 : Int32) (a2 : Int32) (a3 : Int32) (a4 : Int32) (a5 : Int32) (x : jm_X) : jm_Con (jm_PP l D clC ad aC shC b0 1) mt_FR_feed (d0 + 7) [.ref 0, .int a1, .int a2, .int a3, .int a4, .int a5] x (f_FR_feed K g a1 a2 a3 a4 a5 x) := by
  refine jm_Con.of (plainFor_of_name (by decide +kernel)) (Nat.le_of_ble_eq_true rfl) ?_
  have hT := tk_FR (l := l) (D := D) (ad := ad) (aC := aC) (b0 := b0)
  unfold f_FR_feed
  show jm_V _ _ _ 0 [(0, .ref 0), (1, .int a1), (2, .int a2), (3, .int a3), (4, .int a4), (5, .int a5)] [] x _
  refine jm_V.run (is := bk_FR_feed_0_4) (pc' := (if (x.1 2) ≤ 16364 then 18 else 10)) (ls' := [(0, .ref 0), (1, .int a1), (2, .int a2), (3, .int a3), (4, .int a4), (5, .int a5)]) (st' := []) (x' := x) hok hT bk_FR_feed_0_4_ok rfl ?_
  refine jm_V.ite (fun _ => ?_) (fun _ => ?_)
  · refine jm_V.run (is := bk_FR_feed_18_2) (pc' := 20) (ls' := [(0, .ref 0), (1, .int a1), (2, .int a2), (3, .int a3), (4, .int a4), (5, .int a5)]) (st' := [.int a1, .ref 0]) (x' := x) hok hT bk_FR_feed_18_2_ok rfl ?_
    refine jm_V.callV (av := [.ref 0, .int a1]) (rest := []) hok (jm_Con.mono (c_FR_append hok hrec a1 x) (by omega)) (jm_Inv.obj (q := ("FilterReader", T_FR, 3)) dd_FR_feed_20 (Or.inl lk_FR_27) mn_FR_append ms_FR_append mw_FR_append mh_FR_append ml_FR_append rfl rfl) mw_FR_append mi_FR (Nat.le_of_ble_eq_true rfl) (Nat.le_of_ble_eq_true rfl) (fun x1 => ?_)
    refine jm_V.run (is := bk_FR_feed_23_2) (pc' := 25) (ls' := [(0, .ref 0), (1, .int a1), (2, .int a2), (3, .int a3), (4, .int a4), (5, .int a5)]) (st' := [.int a2, .ref 0]) (x' := x1) hok hT bk_FR_feed_23_2_ok rfl ?_
    refine jm_V.callV (av := [.ref 0, .int a2]) (rest := []) hok (jm_Con.mono (c_FR_append hok hrec a2 x1) (by omega)) (jm_Inv.obj (q := ("FilterReader", T_FR, 3)) dd_FR_feed_25 (Or.inl lk_FR_27) mn_FR_append ms_FR_append mw_FR_append mh_FR_append ml_FR_append rfl rfl) mw_FR_append mi_FR (Nat.le_of_ble_eq_true rfl) (Nat.le_of_ble_eq_true rfl) (fun x2 => ?_)
    refine jm_V.run (is := bk_FR_feed_28_2) (pc' := 30) (ls' := [(0, .ref 0), (1, .int a1), (2, .int a2), (3, .int a3), (4, .int a4), (5, .int a5)]) (st' := [.int a3, .ref 0]) (x' := x2) hok hT bk_FR_feed_28_2_ok rfl ?_
    refine jm_V.callV (av := [.ref 0, .int a3]) (rest := []) hok (jm_Con.mono (c_FR_append hok hrec a3 x2) (by omega)) (jm_Inv.obj (q := ("FilterReader", T_FR, 3)) dd_FR_feed_30 (Or.inl lk_FR_27) mn_FR_append ms_FR_append mw_FR_append mh_FR_append ml_FR_append rfl rfl) mw_FR_append mi_FR (Nat.le_of_ble_eq_true rfl) (Nat.le_of_ble_eq_true rfl) (fun x3 => ?_)
    refine jm_V.run (is := bk_FR_feed_33_2) (pc' := 36) (ls' := [(0, .ref 0), (1, .int a1), (2, .int a2), (3, .int a3), (4, .int a4), (5, .int a5)]) (st' := [.int a4, .ref 0]) (x' := x3) hok hT bk_FR_feed_33_2_ok rfl ?_
    refine jm_V.callV (av := [.ref 0, .int a4]) (rest := []) hok (jm_Con.mono (c_FR_append hok hrec a4 x3) (by omega)) (jm_Inv.obj (q := ("FilterReader", T_FR, 3)) dd_FR_feed_36 (Or.inl lk_FR_27) mn_FR_append ms_FR_append mw_FR_append mh_FR_append ml_FR_append rfl rfl) mw_FR_append mi_FR (Nat.le_of_ble_eq_true rfl) (Nat.le_of_ble_eq_true rfl) (fun x4 => ?_)
    refine jm_V.run (is := bk_FR_feed_39_2) (pc' := 42) (ls' := [(0, .ref 0), (1, .int a1), (2, .int a2), (3, .int a3), (4, .int a4), (5, .int a5)]) (st' := [.int a5, .ref 0]) (x' := x4) hok hT bk_FR_feed_39_2_ok rfl ?_
    refine jm_V.callV (av := [.ref 0, .int a5]) (rest := []) hok (jm_Con.mono (c_FR_append hok hrec a5 x4) (by omega)) (jm_Inv.obj (q := ("FilterReader", T_FR, 3)) dd_FR_feed_42 (Or.inl lk_FR_27) mn_FR_append ms_FR_append mw_FR_append mh_FR_append ml_FR_append rfl rfl) mw_FR_append mi_FR (Nat.le_of_ble_eq_true rfl) (Nat.le_of_ble_eq_true rfl) (fun x5 => ?_)
    refine jm_V.run (is := bk_FR_feed_45_2) (pc' := 49) (ls' := [(0, .ref 0), (1, .int a1), (2, .int a2), (3, .int a3), (4, .int a4), (5, .int a5)]) (st' := [.int (x5.1 2)]) (x' := x5) hok hT bk_FR_feed_45_2_ok rfl ?_
    exact jm_V.iret rfl dd_FR_feed_49
  · exact jm_V.tnew hok tn_FR_24_a tn_FR_24_b (by decide) tn_FR_24_c tn_FR_24_d tn_FR_24_e tn_FR_24_f cs_thr dd_FR_feed_10 dd_FR_feed_13 dd_FR_feed_14 dd_FR_feed_17
abbrev bk_FR_end_0_2 : List (Nat × Instr × Nat) := [(0, .iload_n 1, 1), (1, .ifCond .lt 11, 3)]
theorem bk_FR_end_0_2_ok : jm_at mt_FR_end.2.1 bk_FR_end_0_2 = true := by decide +kernel
abbrev bk_FR_end_4_4 : List (Nat × Instr × Nat) := [(4, .iload_n 1, 1), (5, .aload_n 0, 1), (6, .getfield 20, 3), (9, .if_icmp .le 11, 3)]
theorem bk_FR_end_4_4_ok : jm_at mt_FR_end.2.1 bk_FR_end_4_4 = true := by decide +kernel
abbrev bk_FR_end_20_3 : List (Nat × Instr × Nat) := [(20, .aload_n 0, 1), (21, .iload_n 1, 1), (22, .putfield 20, 3)]
theorem bk_FR_end_20_3_ok : jm_at mt_FR_end.2.1 bk_FR_end_20_3 = true := by decide +kernel
abbrev bk_FR_end_25_2 : List (Nat × Instr × Nat) := [(25, .aload_n 0, 1), (26, .getfield 20, 3)]
theorem bk_FR_end_25_2_ok : jm_at mt_FR_end.2.1 bk_FR_end_25_2 = true := by decide +kernel
theorem dd_FR_end_29 : decode mt_FR_end.2.1 29 = .ok (.ireturn, 1) := by decide +kernel
theorem dd_FR_end_12 : decode mt_FR_end.2.1 12 = .ok (.new 31, 3) := by decide +kernel
theorem dd_FR_end_15 : decode mt_FR_end.2.1 15 = .ok (.dup, 1) := by decide +kernel
theorem dd_FR_end_16 : decode mt_FR_end.2.1 16 = .ok (.invokespecial 33, 3) := by decide +kernel
theorem dd_FR_end_19 : decode mt_FR_end.2.1 19 = .ok (.athrow, 1) := by decide +kernel
def J_FR_end_12 (K : Nat) (g : jm_Rec)  (x : jm_X) : Option jm_R := some (.inr ("java/lang/IllegalArgumentException", x))
set_option maxRecDepth 100000 in
set_option maxHeartbeats 4000000 in
theorem jj_FR_end_12 {l : Launch} {D : va_G} {ad : Nat → Nat} {aC : Nat → ClassId} {b0 : Nat} {K d0 : Nat} {g : jm_Rec} (hok : jm_Ok (jm_PP l D clC ad aC shC b0 1)) (hrec : ∀ (t : Nat) (av : List Value) (x : jm_X), jm_Con (jm_PP l D clC ad aC shC b0 1) (rcC t) d0 av x (g t av x))  (x : jm_X) : jm_V (jm_PP l D clC ad aC shC b0 1) mt_FR_end (d0 + 7) 12 [] [] x (J_FR_end_12 K g  x) := by
  have hT := tk_FR (l := l) (D := D) (ad := ad) (aC := aC) (b0 := b0)
  unfold J_FR_end_12
  exact jm_V.tnew hok tn_FR_31_a tn_FR_31_b (by decide) tn_FR_31_c tn_FR_31_d tn_FR_31_e tn_FR_31_f cs_thr dd_FR_end_12 dd_FR_end_15 dd_FR_end_16 dd_FR_end_19
def f_FR_end (K : Nat) (g : jm_Rec) (a1 : Int32) (x : jm_X) : Option jm_R := (if a1 < 0 then J_FR_end_12 K g x else (if a1 ≤ (x.1 2) then jm_then (va_up x.1 2 a1, x.2) (fun x1 => some (.inl (some (.int (x1.1 2)), x1))) else J_FR_end_12 K g x))
set_option maxRecDepth 100000 in
set_option maxHeartbeats 4000000 in
theorem c_FR_end {l : Launch} {D : va_G} {ad : Nat → Nat} {aC : Nat → ClassId} {b0 : Nat} {K d0 : Nat} {g : jm_Rec} (hok : jm_Ok (jm_PP l D clC ad aC shC b0 1)) (hrec : ∀ (t : Nat) (av : List Value) (x : jm_X), jm_Con (jm_PP l D clC ad aC shC b0 1) (rcC t) d0 av x (g t av x)) (a1 : Int32) (x : jm_X) : jm_Con (jm_PP l D clC ad aC shC b0 1) mt_FR_end (d0 + 7) [.ref 0, .int a1] x (f_FR_end K g a1 x) := by
  refine jm_Con.of (plainFor_of_name (by decide +kernel)) (Nat.le_of_ble_eq_true rfl) ?_
  have hT := tk_FR (l := l) (D := D) (ad := ad) (aC := aC) (b0 := b0)
  unfold f_FR_end
  show jm_V _ _ _ 0 [(0, .ref 0), (1, .int a1)] [] x _
  refine jm_V.run (is := bk_FR_end_0_2) (pc' := (if a1 < 0 then 12 else 4)) (ls' := [(0, .ref 0), (1, .int a1)]) (st' := []) (x' := x) hok hT bk_FR_end_0_2_ok rfl ?_
  refine jm_V.ite (fun _ => ?_) (fun _ => ?_)
  · refine jm_V.sub (ls' := []) [] rfl ?_
    exact jj_FR_end_12 hok hrec x
  · refine jm_V.run (is := bk_FR_end_4_4) (pc' := (if a1 ≤ (x.1 2) then 20 else 12)) (ls' := [(0, .ref 0), (1, .int a1)]) (st' := []) (x' := x) hok hT bk_FR_end_4_4_ok rfl ?_
    refine jm_V.ite (fun _ => ?_) (fun _ => ?_)
    · refine jm_V.run (is := bk_FR_end_20_3) (pc' := 25) (ls' := [(0, .ref 0), (1, .int a1)]) (st' := []) (x' := (va_up x.1 2 a1, x.2)) hok hT bk_FR_end_20_3_ok rfl ?_
      refine jm_V.then_ (fun x1 => ?_)
      refine jm_V.run (is := bk_FR_end_25_2) (pc' := 29) (ls' := [(0, .ref 0), (1, .int a1)]) (st' := [.int (x1.1 2)]) (x' := x1) hok hT bk_FR_end_25_2_ok rfl ?_
      exact jm_V.iret rfl dd_FR_end_29
    · refine jm_V.sub (ls' := []) [] rfl ?_
      exact jj_FR_end_12 hok hrec x
abbrev bk_FR_read_0_6 : List (Nat × Instr × Nat) := [(0, .aload_n 0, 1), (1, .getfield 20, 3), (4, .istore_n 1, 1), (5, .aload_n 0, 1), (6, .iconst 0, 1), (7, .putfield 20, 3)]
theorem bk_FR_read_0_6_ok : jm_at mt_FR_read.2.1 bk_FR_read_0_6 = true := by decide +kernel
abbrev bk_FR_read_10_5 : List (Nat × Instr × Nat) := [(10, .aload_n 0, 1), (11, .getfield 16, 3), (14, .aload_n 0, 1), (15, .getfield 9, 3), (18, .iload_n 1, 1)]
theorem bk_FR_read_10_5_ok : jm_at mt_FR_read.2.1 bk_FR_read_10_5 = true := by decide +kernel
theorem dd_FR_read_19 : decode mt_FR_read.2.1 19 = .ok (.invokevirtual 34, 3) := by decide +kernel
theorem dd_FR_read_22 : decode mt_FR_read.2.1 22 = .ok (.ireturn, 1) := by decide +kernel
def f_FR_read (K : Nat) (g : jm_Rec)  (x : jm_X) : Option jm_R := jm_then (va_up x.1 2 0, x.2) (fun x1 => jm_bI (f_G_readProgram K g 1 (x.1 2) x1) (fun b3 x2 => some (.inl (some (.int b3), x2))))
set_option maxRecDepth 100000 in
set_option maxHeartbeats 4000000 in
theorem c_FR_read {l : Launch} {D : va_G} {ad : Nat → Nat} {aC : Nat → ClassId} {b0 : Nat} {K d0 : Nat} {g : jm_Rec} (hok : jm_Ok (jm_PP l D clC ad aC shC b0 1)) (hrec : ∀ (t : Nat) (av : List Value) (x : jm_X), jm_Con (jm_PP l D clC ad aC shC b0 1) (rcC t) d0 av x (g t av x))  (x : jm_X) : jm_Con (jm_PP l D clC ad aC shC b0 1) mt_FR_read (d0 + 17) [.ref 0] x (f_FR_read K g  x) := by
  refine jm_Con.of (plainFor_of_name (by decide +kernel)) (Nat.le_of_ble_eq_true rfl) ?_
  have hT := tk_FR (l := l) (D := D) (ad := ad) (aC := aC) (b0 := b0)
  unfold f_FR_read
  show jm_V _ _ _ 0 [(0, .ref 0)] [] x _
  refine jm_V.run (is := bk_FR_read_0_6) (pc' := 10) (ls' := [(1, .int (x.1 2)), (0, .ref 0)]) (st' := []) (x' := (va_up x.1 2 0, x.2)) hok hT bk_FR_read_0_6_ok rfl ?_
  refine jm_V.then_ (fun x1 => ?_)
  refine jm_V.run (is := bk_FR_read_10_5) (pc' := 19) (ls' := [(1, .int (x.1 2)), (0, .ref 0)]) (st' := [.int (x.1 2), .ref 1, .ref 2]) (x' := x1) hok hT bk_FR_read_10_5_ok rfl ?_
  refine jm_V.callI (av := [.ref 2, .ref 1, .int (x.1 2)]) (rest := []) hok (jm_Con.mono (c_G_readProgram hok hrec 1 (x.1 2) x1) (by omega)) (jm_Inv.obj (q := ("FilterReader$Grammar", T_G, 5)) dd_FR_read_19 (Or.inl lk_FR_34) mn_G_readProgram ms_G_readProgram mw_G_readProgram mh_G_readProgram ml_G_readProgram rfl rfl) mw_G_readProgram mi_G (Nat.le_of_ble_eq_true rfl) (Nat.le_of_ble_eq_true rfl) (fun b3 x2 => ?_)
  exact jm_V.iret rfl dd_FR_read_22
abbrev bk_FR_many_0_1 : List (Nat × Instr × Nat) := [(0, .iload_n 1, 1)]
theorem bk_FR_many_0_1_ok : jm_at mt_FR_many.2.1 bk_FR_many_0_1 = true := by decide +kernel
abbrev bk_FR_many_4_1 : List (Nat × Instr × Nat) := [(4, .ifCond .ne 11, 3)]
theorem bk_FR_many_4_1_ok : jm_at mt_FR_many.2.1 bk_FR_many_4_1 = true := by decide +kernel
abbrev bk_FR_many_15_3 : List (Nat × Instr × Nat) := [(15, .aload_n 0, 1), (16, .getfield 16, 3), (19, .iload_n 1, 1)]
theorem bk_FR_many_15_3_ok : jm_at mt_FR_many.2.1 bk_FR_many_15_3 = true := by decide +kernel
theorem dd_FR_many_1 : decode mt_FR_many.2.1 1 = .ok (.invokestatic 38, 3) := by decide +kernel
theorem dd_FR_many_7 : decode mt_FR_many.2.1 7 = .ok (.new 31, 3) := by decide +kernel
theorem dd_FR_many_10 : decode mt_FR_many.2.1 10 = .ok (.dup, 1) := by decide +kernel
theorem dd_FR_many_11 : decode mt_FR_many.2.1 11 = .ok (.invokespecial 33, 3) := by decide +kernel
theorem dd_FR_many_14 : decode mt_FR_many.2.1 14 = .ok (.athrow, 1) := by decide +kernel
theorem dd_FR_many_20 : decode mt_FR_many.2.1 20 = .ok (.invokevirtual 44, 3) := by decide +kernel
theorem dd_FR_many_23 : decode mt_FR_many.2.1 23 = .ok (.ireturn, 1) := by decide +kernel
def f_FR_many (K : Nat) (g : jm_Rec) (a1 : Int32) (x : jm_X) : Option jm_R := jm_bI (f_K_isKind K g a1 x) (fun b2 x1 => (if b2 = 0 then some (.inr ("java/lang/IllegalArgumentException", x1)) else jm_bI (f_G_countOf K g a1 x1) (fun b4 x3 => some (.inl (some (.int b4), x3)))))
set_option maxRecDepth 100000 in
set_option maxHeartbeats 4000000 in
theorem c_FR_many {l : Launch} {D : va_G} {ad : Nat → Nat} {aC : Nat → ClassId} {b0 : Nat} {K d0 : Nat} {g : jm_Rec} (hok : jm_Ok (jm_PP l D clC ad aC shC b0 1)) (hrec : ∀ (t : Nat) (av : List Value) (x : jm_X), jm_Con (jm_PP l D clC ad aC shC b0 1) (rcC t) d0 av x (g t av x)) (a1 : Int32) (x : jm_X) : jm_Con (jm_PP l D clC ad aC shC b0 1) mt_FR_many (d0 + 7) [.ref 0, .int a1] x (f_FR_many K g a1 x) := by
  refine jm_Con.of (plainFor_of_name (by decide +kernel)) (Nat.le_of_ble_eq_true rfl) ?_
  have hT := tk_FR (l := l) (D := D) (ad := ad) (aC := aC) (b0 := b0)
  unfold f_FR_many
  show jm_V _ _ _ 0 [(0, .ref 0), (1, .int a1)] [] x _
  refine jm_V.run (is := bk_FR_many_0_1) (pc' := 1) (ls' := [(0, .ref 0), (1, .int a1)]) (st' := [.int a1]) (x' := x) hok hT bk_FR_many_0_1_ok rfl ?_
  refine jm_V.callI (av := [.int a1]) (rest := []) hok (jm_Con.mono (c_K_isKind hok hrec a1 x) (by omega)) (jm_Inv.stat dd_FR_many_1 (Or.inl lk_FR_38) mq_K_isKind mi_K mw_K_isKind mh_K_isKind ml_K_isKind) mw_K_isKind mi_K (Nat.le_of_ble_eq_true rfl) (Nat.le_of_ble_eq_true rfl) (fun b2 x1 => ?_)
  refine jm_V.run (is := bk_FR_many_4_1) (pc' := (if b2 = 0 then 7 else 15)) (ls' := [(0, .ref 0), (1, .int a1)]) (st' := []) (x' := x1) hok hT bk_FR_many_4_1_ok rfl ?_
  refine jm_V.ite (fun _ => ?_) (fun _ => ?_)
  · exact jm_V.tnew hok tn_FR_31_a tn_FR_31_b (by decide) tn_FR_31_c tn_FR_31_d tn_FR_31_e tn_FR_31_f cs_thr dd_FR_many_7 dd_FR_many_10 dd_FR_many_11 dd_FR_many_14
  · refine jm_V.run (is := bk_FR_many_15_3) (pc' := 20) (ls' := [(0, .ref 0), (1, .int a1)]) (st' := [.int a1, .ref 2]) (x' := x1) hok hT bk_FR_many_15_3_ok rfl ?_
    refine jm_V.callI (av := [.ref 2, .int a1]) (rest := []) hok (jm_Con.mono (c_G_countOf hok hrec a1 x1) (by omega)) (jm_Inv.obj (q := ("FilterReader$Grammar", T_G, 5)) dd_FR_many_20 (Or.inl lk_FR_44) mn_G_countOf ms_G_countOf mw_G_countOf mh_G_countOf ml_G_countOf rfl rfl) mw_G_countOf mi_G (Nat.le_of_ble_eq_true rfl) (Nat.le_of_ble_eq_true rfl) (fun b4 x3 => ?_)
    exact jm_V.iret rfl dd_FR_many_23
abbrev bk_FR_place_0_2 : List (Nat × Instr × Nat) := [(0, .aload_n 0, 1), (1, .getfield 16, 3)]
theorem bk_FR_place_0_2_ok : jm_at mt_FR_place.2.1 bk_FR_place_0_2 = true := by decide +kernel
theorem dd_FR_place_4 : decode mt_FR_place.2.1 4 = .ok (.invokevirtual 48, 3) := by decide +kernel
theorem dd_FR_place_7 : decode mt_FR_place.2.1 7 = .ok (.ireturn, 1) := by decide +kernel
def f_FR_place (K : Nat) (g : jm_Rec)  (x : jm_X) : Option jm_R := jm_bI (f_G_brokenPlace K g x) (fun b2 x1 => some (.inl (some (.int b2), x1)))
set_option maxRecDepth 100000 in
set_option maxHeartbeats 4000000 in
theorem c_FR_place {l : Launch} {D : va_G} {ad : Nat → Nat} {aC : Nat → ClassId} {b0 : Nat} {K d0 : Nat} {g : jm_Rec} (hok : jm_Ok (jm_PP l D clC ad aC shC b0 1)) (hrec : ∀ (t : Nat) (av : List Value) (x : jm_X), jm_Con (jm_PP l D clC ad aC shC b0 1) (rcC t) d0 av x (g t av x))  (x : jm_X) : jm_Con (jm_PP l D clC ad aC shC b0 1) mt_FR_place (d0 + 2) [.ref 0] x (f_FR_place K g  x) := by
  refine jm_Con.of (plainFor_of_name (by decide +kernel)) (Nat.le_of_ble_eq_true rfl) ?_
  have hT := tk_FR (l := l) (D := D) (ad := ad) (aC := aC) (b0 := b0)
  unfold f_FR_place
  show jm_V _ _ _ 0 [(0, .ref 0)] [] x _
  refine jm_V.run (is := bk_FR_place_0_2) (pc' := 4) (ls' := [(0, .ref 0)]) (st' := [.ref 2]) (x' := x) hok hT bk_FR_place_0_2_ok rfl ?_
  refine jm_V.callI (av := [.ref 2]) (rest := []) hok (jm_Con.mono (c_G_brokenPlace hok hrec x) (by omega)) (jm_Inv.obj (q := ("FilterReader$Grammar", T_G, 5)) dd_FR_place_4 (Or.inl lk_FR_48) mn_G_brokenPlace ms_G_brokenPlace mw_G_brokenPlace mh_G_brokenPlace ml_G_brokenPlace rfl rfl) mw_G_brokenPlace mi_G (Nat.le_of_ble_eq_true rfl) (Nat.le_of_ble_eq_true rfl) (fun b2 x1 => ?_)
  exact jm_V.iret rfl dd_FR_place_7
abbrev bk_FR_taped_0_2 : List (Nat × Instr × Nat) := [(0, .aload_n 0, 1), (1, .getfield 20, 3)]
theorem bk_FR_taped_0_2_ok : jm_at mt_FR_taped.2.1 bk_FR_taped_0_2 = true := by decide +kernel
theorem dd_FR_taped_4 : decode mt_FR_taped.2.1 4 = .ok (.ireturn, 1) := by decide +kernel
def f_FR_taped (K : Nat) (g : jm_Rec)  (x : jm_X) : Option jm_R := some (.inl (some (.int (x.1 2)), x))
set_option maxRecDepth 100000 in
set_option maxHeartbeats 4000000 in
theorem c_FR_taped {l : Launch} {D : va_G} {ad : Nat → Nat} {aC : Nat → ClassId} {b0 : Nat} {K d0 : Nat} {g : jm_Rec} (hok : jm_Ok (jm_PP l D clC ad aC shC b0 1)) (hrec : ∀ (t : Nat) (av : List Value) (x : jm_X), jm_Con (jm_PP l D clC ad aC shC b0 1) (rcC t) d0 av x (g t av x))  (x : jm_X) : jm_Con (jm_PP l D clC ad aC shC b0 1) mt_FR_taped (d0 + 1) [.ref 0] x (f_FR_taped K g  x) := by
  refine jm_Con.of (plainFor_of_name (by decide +kernel)) (Nat.le_of_ble_eq_true rfl) ?_
  have hT := tk_FR (l := l) (D := D) (ad := ad) (aC := aC) (b0 := b0)
  unfold f_FR_taped
  show jm_V _ _ _ 0 [(0, .ref 0)] [] x _
  refine jm_V.run (is := bk_FR_taped_0_2) (pc' := 4) (ls' := [(0, .ref 0)]) (st' := [.int (x.1 2)]) (x' := x) hok hT bk_FR_taped_0_2_ok rfl ?_
  exact jm_V.iret rfl dd_FR_taped_4

/-! THE REFERENCE: methods. Printed by wip/whole/printR.py. -/
abbrev bk_M_definition_0_4 : List (Nat × Instr × Nat) := [(0, .aload_n 0, 1), (1, .getfield 128, 3), (4, .iconst 1, 1), (5, .if_icmp .ne 10, 3)]
theorem bk_M_definition_0_4_ok : jm_at mt_M_definition.2.1 bk_M_definition_0_4 = true := by decide +kernel
abbrev bk_M_definition_8_1 : List (Nat × Instr × Nat) := [(8, .aload_n 0, 1)]
theorem bk_M_definition_8_1_ok : jm_at mt_M_definition.2.1 bk_M_definition_8_1 = true := by decide +kernel
abbrev bk_M_definition_12_1 : List (Nat × Instr × Nat) := [(12, .ifCond .eq 12, 3)]
theorem bk_M_definition_12_1_ok : jm_at mt_M_definition.2.1 bk_M_definition_12_1 = true := by decide +kernel
abbrev bk_M_definition_24_14 : List (Nat × Instr × Nat) := [(24, .aload_n 0, 1), (25, .getfield 113, 3), (28, .istore_n 1, 1), (29, .aload_n 0, 1), (30, .iconst 0, 1), (31, .aload_n 0, 1), (32, .getfield 131, 3), (35, .aload_n 0, 1), (36, .getfield 119, 3), (39, .aload_n 0, 1), (40, .getfield 131, 3), (43, .isub, 1), (44, .iconst 0, 1), (45, .iconst 0, 1)]
theorem bk_M_definition_24_14_ok : jm_at mt_M_definition.2.1 bk_M_definition_24_14 = true := by decide +kernel
abbrev bk_M_definition_49_1 : List (Nat × Instr × Nat) := [(49, .aload_n 0, 1)]
theorem bk_M_definition_49_1_ok : jm_at mt_M_definition.2.1 bk_M_definition_49_1 = true := by decide +kernel
abbrev bk_M_definition_53_2 : List (Nat × Instr × Nat) := [(53, .aload_n 0, 1), (54, .bipush 16, 2)]
theorem bk_M_definition_53_2_ok : jm_at mt_M_definition.2.1 bk_M_definition_53_2 = true := by decide +kernel
abbrev bk_M_definition_59_1 : List (Nat × Instr × Nat) := [(59, .ifCond .eq 174, 3)]
theorem bk_M_definition_59_1_ok : jm_at mt_M_definition.2.1 bk_M_definition_59_1 = true := by decide +kernel
abbrev bk_M_definition_15_3 : List (Nat × Instr × Nat) := [(15, .aload_n 0, 1), (16, .aload_n 0, 1), (17, .getfield 131, 3)]
theorem bk_M_definition_15_3_ok : jm_at mt_M_definition.2.1 bk_M_definition_15_3 = true := by decide +kernel
abbrev bk_M_definition_62_3 : List (Nat × Instr × Nat) := [(62, .aload_n 0, 1), (63, .getfield 89, 3), (66, .iload_n 1, 1)]
theorem bk_M_definition_62_3_ok : jm_at mt_M_definition.2.1 bk_M_definition_62_3 = true := by decide +kernel
abbrev bk_M_definition_68_2 : List (Nat × Instr × Nat) := [(68, .bipush 10, 2), (70, .if_icmp .ne 28, 3)]
theorem bk_M_definition_68_2_ok : jm_at mt_M_definition.2.1 bk_M_definition_68_2 = true := by decide +kernel
abbrev bk_M_definition_73_4 : List (Nat × Instr × Nat) := [(73, .aload_n 0, 1), (74, .getfield 128, 3), (77, .iconst 3, 1), (78, .if_icmp .eq 11, 3)]
theorem bk_M_definition_73_4_ok : jm_at mt_M_definition.2.1 bk_M_definition_73_4 = true := by decide +kernel
abbrev bk_M_definition_81_4 : List (Nat × Instr × Nat) := [(81, .aload_n 0, 1), (82, .getfield 128, 3), (85, .iconst 1, 1), (86, .if_icmp .ne 12, 3)]
theorem bk_M_definition_81_4_ok : jm_at mt_M_definition.2.1 bk_M_definition_81_4 = true := by decide +kernel
abbrev bk_M_definition_89_3 : List (Nat × Instr × Nat) := [(89, .aload_n 0, 1), (90, .aload_n 0, 1), (91, .getfield 131, 3)]
theorem bk_M_definition_89_3_ok : jm_at mt_M_definition.2.1 bk_M_definition_89_3 = true := by decide +kernel
abbrev bk_M_definition_98_4 : List (Nat × Instr × Nat) := [(98, .aload_n 0, 1), (99, .getfield 128, 3), (102, .iconst 3, 1), (103, .if_icmp .ne 54, 3)]
theorem bk_M_definition_98_4_ok : jm_at mt_M_definition.2.1 bk_M_definition_98_4 = true := by decide +kernel
abbrev bk_M_definition_106_15 : List (Nat × Instr × Nat) := [(106, .aload_n 0, 1), (107, .iconst 2, 1), (108, .aload_n 0, 1), (109, .getfield 131, 3), (112, .iconst 1, 1), (113, .iadd, 1), (114, .aload_n 0, 1), (115, .getfield 119, 3), (118, .aload_n 0, 1), (119, .getfield 131, 3), (122, .isub, 1), (123, .iconst 1, 1), (124, .isub, 1), (125, .iconst 0, 1), (126, .iconst 0, 1)]
theorem bk_M_definition_106_15_ok : jm_at mt_M_definition.2.1 bk_M_definition_106_15 = true := by decide +kernel
abbrev bk_M_definition_130_15 : List (Nat × Instr × Nat) := [(130, .aload_n 0, 1), (131, .iconst 1, 1), (132, .aload_n 0, 1), (133, .getfield 131, 3), (136, .iconst 1, 1), (137, .iadd, 1), (138, .aload_n 0, 1), (139, .getfield 119, 3), (142, .aload_n 0, 1), (143, .getfield 131, 3), (146, .isub, 1), (147, .iconst 1, 1), (148, .isub, 1), (149, .iconst 0, 1), (150, .iconst 0, 1)]
theorem bk_M_definition_130_15_ok : jm_at mt_M_definition.2.1 bk_M_definition_130_15 = true := by decide +kernel
abbrev bk_M_definition_154_1 : List (Nat × Instr × Nat) := [(154, .goto 50, 3)]
theorem bk_M_definition_154_1_ok : jm_at mt_M_definition.2.1 bk_M_definition_154_1 = true := by decide +kernel
abbrev bk_M_definition_157_4 : List (Nat × Instr × Nat) := [(157, .aload_n 0, 1), (158, .getfield 128, 3), (161, .iconst 1, 1), (162, .if_icmp .ne 33, 3)]
theorem bk_M_definition_157_4_ok : jm_at mt_M_definition.2.1 bk_M_definition_157_4 = true := by decide +kernel
abbrev bk_M_definition_165_1 : List (Nat × Instr × Nat) := [(165, .aload_n 0, 1)]
theorem bk_M_definition_165_1_ok : jm_at mt_M_definition.2.1 bk_M_definition_165_1 = true := by decide +kernel
abbrev bk_M_definition_169_1 : List (Nat × Instr × Nat) := [(169, .ifCond .ne 26, 3)]
theorem bk_M_definition_169_1_ok : jm_at mt_M_definition.2.1 bk_M_definition_169_1 = true := by decide +kernel
abbrev bk_M_definition_172_11 : List (Nat × Instr × Nat) := [(172, .aload_n 0, 1), (173, .iconst 1, 1), (174, .aload_n 0, 1), (175, .getfield 131, 3), (178, .aload_n 0, 1), (179, .getfield 119, 3), (182, .aload_n 0, 1), (183, .getfield 131, 3), (186, .isub, 1), (187, .iconst 0, 1), (188, .iconst 0, 1)]
theorem bk_M_definition_172_11_ok : jm_at mt_M_definition.2.1 bk_M_definition_172_11 = true := by decide +kernel
abbrev bk_M_definition_192_1 : List (Nat × Instr × Nat) := [(192, .goto 12, 3)]
theorem bk_M_definition_192_1_ok : jm_at mt_M_definition.2.1 bk_M_definition_192_1 = true := by decide +kernel
abbrev bk_M_definition_195_3 : List (Nat × Instr × Nat) := [(195, .aload_n 0, 1), (196, .aload_n 0, 1), (197, .getfield 131, 3)]
theorem bk_M_definition_195_3_ok : jm_at mt_M_definition.2.1 bk_M_definition_195_3 = true := by decide +kernel
abbrev bk_M_definition_204_4 : List (Nat × Instr × Nat) := [(204, .aload_n 0, 1), (205, .getfield 89, 3), (208, .iload_n 1, 1), (209, .dup2, 1)]
theorem bk_M_definition_204_4_ok : jm_at mt_M_definition.2.1 bk_M_definition_204_4 = true := by decide +kernel
abbrev bk_M_definition_211_2 : List (Nat × Instr × Nat) := [(211, .iconst 1, 1), (212, .iadd, 1)]
theorem bk_M_definition_211_2_ok : jm_at mt_M_definition.2.1 bk_M_definition_211_2 = true := by decide +kernel
abbrev bk_M_definition_214_1 : List (Nat × Instr × Nat) := [(214, .aload_n 0, 1)]
theorem bk_M_definition_214_1_ok : jm_at mt_M_definition.2.1 bk_M_definition_214_1 = true := by decide +kernel
abbrev bk_M_definition_218_2 : List (Nat × Instr × Nat) := [(218, .aload_n 0, 1), (219, .bipush 23, 2)]
theorem bk_M_definition_218_2_ok : jm_at mt_M_definition.2.1 bk_M_definition_218_2 = true := by decide +kernel
abbrev bk_M_definition_224_1 : List (Nat × Instr × Nat) := [(224, .ifCond .ne (-162), 3)]
theorem bk_M_definition_224_1_ok : jm_at mt_M_definition.2.1 bk_M_definition_224_1 = true := by decide +kernel
abbrev bk_M_definition_227_2 : List (Nat × Instr × Nat) := [(227, .aload_n 0, 1), (228, .bipush 17, 2)]
theorem bk_M_definition_227_2_ok : jm_at mt_M_definition.2.1 bk_M_definition_227_2 = true := by decide +kernel
abbrev bk_M_definition_233_2 : List (Nat × Instr × Nat) := [(233, .aload_n 0, 1), (234, .bipush 22, 2)]
theorem bk_M_definition_233_2_ok : jm_at mt_M_definition.2.1 bk_M_definition_233_2 = true := by decide +kernel
abbrev bk_M_definition_239_1 : List (Nat × Instr × Nat) := [(239, .aload_n 0, 1)]
theorem bk_M_definition_239_1_ok : jm_at mt_M_definition.2.1 bk_M_definition_239_1 = true := by decide +kernel
abbrev bk_M_definition_243_5 : List (Nat × Instr × Nat) := [(243, .aload_n 0, 1), (244, .iload_n 1, 1), (245, .iconst 1, 1), (246, .iadd, 1), (247, .putfield 113, 3)]
theorem bk_M_definition_243_5_ok : jm_at mt_M_definition.2.1 bk_M_definition_243_5 = true := by decide +kernel
theorem dd_M_definition_9 : decode mt_M_definition.2.1 9 = .ok (.invokevirtual 209, 3) := by decide +kernel
theorem dd_M_definition_46 : decode mt_M_definition.2.1 46 = .ok (.invokevirtual 202, 3) := by decide +kernel
theorem dd_M_definition_50 : decode mt_M_definition.2.1 50 = .ok (.invokevirtual 122, 3) := by decide +kernel
theorem dd_M_definition_56 : decode mt_M_definition.2.1 56 = .ok (.invokevirtual 184, 3) := by decide +kernel
theorem dd_M_definition_20 : decode mt_M_definition.2.1 20 = .ok (.invokevirtual 134, 3) := by decide +kernel
theorem dd_M_definition_23 : decode mt_M_definition.2.1 23 = .ok (.athrow, 1) := by decide +kernel
theorem dd_M_definition_67 : decode mt_M_definition.2.1 67 = .ok (.iaload, 1) := by decide +kernel
theorem dd_M_definition_94 : decode mt_M_definition.2.1 94 = .ok (.invokevirtual 134, 3) := by decide +kernel
theorem dd_M_definition_97 : decode mt_M_definition.2.1 97 = .ok (.athrow, 1) := by decide +kernel
theorem dd_M_definition_127 : decode mt_M_definition.2.1 127 = .ok (.invokevirtual 202, 3) := by decide +kernel
theorem dd_M_definition_151 : decode mt_M_definition.2.1 151 = .ok (.invokevirtual 202, 3) := by decide +kernel
theorem dd_M_definition_166 : decode mt_M_definition.2.1 166 = .ok (.invokevirtual 209, 3) := by decide +kernel
theorem dd_M_definition_189 : decode mt_M_definition.2.1 189 = .ok (.invokevirtual 202, 3) := by decide +kernel
theorem dd_M_definition_200 : decode mt_M_definition.2.1 200 = .ok (.invokevirtual 134, 3) := by decide +kernel
theorem dd_M_definition_203 : decode mt_M_definition.2.1 203 = .ok (.athrow, 1) := by decide +kernel
theorem dd_M_definition_215 : decode mt_M_definition.2.1 215 = .ok (.invokevirtual 122, 3) := by decide +kernel
theorem dd_M_definition_221 : decode mt_M_definition.2.1 221 = .ok (.invokevirtual 184, 3) := by decide +kernel
theorem dd_M_definition_230 : decode mt_M_definition.2.1 230 = .ok (.invokevirtual 199, 3) := by decide +kernel
theorem dd_M_definition_213 : decode mt_M_definition.2.1 213 = .ok (.iastore, 1) := by decide +kernel
theorem dd_M_definition_210 : decode mt_M_definition.2.1 210 = .ok (.iaload, 1) := by decide +kernel
theorem dd_M_definition_236 : decode mt_M_definition.2.1 236 = .ok (.invokevirtual 199, 3) := by decide +kernel
theorem dd_M_definition_240 : decode mt_M_definition.2.1 240 = .ok (.invokevirtual 125, 3) := by decide +kernel
theorem dd_M_definition_250 : decode mt_M_definition.2.1 250 = .ok (.return_, 1) := by decide +kernel
def J_M_definition_15 (K : Nat) (g : jm_Rec)  (x : jm_X) : Option jm_R := jm_bA (f_M_bad K g (x.1 9) x) (fun b8 x7 => (if b8 = 2 then some (.inr ("java/lang/IllegalStateException", x7)) else none))
set_option maxRecDepth 100000 in
set_option maxHeartbeats 4000000 in
theorem jj_M_definition_15 {l : Launch} {D : va_G} {ad : Nat → Nat} {aC : Nat → ClassId} {b0 : Nat} {K d0 : Nat} {g : jm_Rec} (hok : jm_Ok (jm_PP l D clR ad aC shR b0 0)) (hrec : ∀ (t : Nat) (av : List Value) (x : jm_X), jm_Con (jm_PP l D clR ad aC shR b0 0) (rcR t) d0 av x (g t av x))  (x : jm_X) : jm_V (jm_PP l D clR ad aC shR b0 0) mt_M_definition (d0 + 7) 15 [(0, .ref 0)] [] x (J_M_definition_15 K g  x) := by
  have hT := tk_M (l := l) (D := D) (ad := ad) (aC := aC) (b0 := b0)
  unfold J_M_definition_15
  refine jm_V.run (is := bk_M_definition_15_3) (pc' := 20) (ls' := [(0, .ref 0)]) (st' := [.int (x.1 9), .ref 0]) (x' := x) hok hT bk_M_definition_15_3_ok rfl ?_
  refine jm_V.callA (av := [.ref 0, .int (x.1 9)]) (rest := []) hok (jm_Con.mono (c_M_bad hok hrec (x.1 9) x) (by omega)) (jm_Inv.obj (q := ("FilterReaderModel", T_M, 22)) dd_M_definition_20 (Or.inl lk_M_134) mn_M_bad ms_M_bad mw_M_bad mh_M_bad ml_M_bad rfl rfl) mw_M_bad mi_M (Nat.le_of_ble_eq_true rfl) (Nat.le_of_ble_eq_true rfl) (fun b8 x7 => ?_)
  exact jm_V.athrowS (o := 2) (q := ("java/lang/IllegalStateException", T_X, 0)) rfl rfl dd_M_definition_23
def J_M_definition_89 (K : Nat) (g : jm_Rec)  (x : jm_X) : Option jm_R := jm_bA (f_M_bad K g (x.1 9) x) (fun b10 x9 => (if b10 = 2 then some (.inr ("java/lang/IllegalStateException", x9)) else none))
set_option maxRecDepth 100000 in
set_option maxHeartbeats 4000000 in
theorem jj_M_definition_89 {l : Launch} {D : va_G} {ad : Nat → Nat} {aC : Nat → ClassId} {b0 : Nat} {K d0 : Nat} {g : jm_Rec} (hok : jm_Ok (jm_PP l D clR ad aC shR b0 0)) (hrec : ∀ (t : Nat) (av : List Value) (x : jm_X), jm_Con (jm_PP l D clR ad aC shR b0 0) (rcR t) d0 av x (g t av x))  (x : jm_X) : jm_V (jm_PP l D clR ad aC shR b0 0) mt_M_definition (d0 + 7) 89 [(0, .ref 0)] [] x (J_M_definition_89 K g  x) := by
  have hT := tk_M (l := l) (D := D) (ad := ad) (aC := aC) (b0 := b0)
  unfold J_M_definition_89
  refine jm_V.run (is := bk_M_definition_89_3) (pc' := 94) (ls' := [(0, .ref 0)]) (st' := [.int (x.1 9), .ref 0]) (x' := x) hok hT bk_M_definition_89_3_ok rfl ?_
  refine jm_V.callA (av := [.ref 0, .int (x.1 9)]) (rest := []) hok (jm_Con.mono (c_M_bad hok hrec (x.1 9) x) (by omega)) (jm_Inv.obj (q := ("FilterReaderModel", T_M, 22)) dd_M_definition_94 (Or.inl lk_M_134) mn_M_bad ms_M_bad mw_M_bad mh_M_bad ml_M_bad rfl rfl) mw_M_bad mi_M (Nat.le_of_ble_eq_true rfl) (Nat.le_of_ble_eq_true rfl) (fun b10 x9 => ?_)
  exact jm_V.athrowS (o := 2) (q := ("java/lang/IllegalStateException", T_X, 0)) rfl rfl dd_M_definition_97
def J_M_definition_195 (K : Nat) (g : jm_Rec)  (x : jm_X) : Option jm_R := jm_bA (f_M_bad K g (x.1 9) x) (fun b17 x16 => (if b17 = 2 then some (.inr ("java/lang/IllegalStateException", x16)) else none))
set_option maxRecDepth 100000 in
set_option maxHeartbeats 4000000 in
theorem jj_M_definition_195 {l : Launch} {D : va_G} {ad : Nat → Nat} {aC : Nat → ClassId} {b0 : Nat} {K d0 : Nat} {g : jm_Rec} (hok : jm_Ok (jm_PP l D clR ad aC shR b0 0)) (hrec : ∀ (t : Nat) (av : List Value) (x : jm_X), jm_Con (jm_PP l D clR ad aC shR b0 0) (rcR t) d0 av x (g t av x))  (x : jm_X) : jm_V (jm_PP l D clR ad aC shR b0 0) mt_M_definition (d0 + 7) 195 [(0, .ref 0)] [] x (J_M_definition_195 K g  x) := by
  have hT := tk_M (l := l) (D := D) (ad := ad) (aC := aC) (b0 := b0)
  unfold J_M_definition_195
  refine jm_V.run (is := bk_M_definition_195_3) (pc' := 200) (ls' := [(0, .ref 0)]) (st' := [.int (x.1 9), .ref 0]) (x' := x) hok hT bk_M_definition_195_3_ok rfl ?_
  refine jm_V.callA (av := [.ref 0, .int (x.1 9)]) (rest := []) hok (jm_Con.mono (c_M_bad hok hrec (x.1 9) x) (by omega)) (jm_Inv.obj (q := ("FilterReaderModel", T_M, 22)) dd_M_definition_200 (Or.inl lk_M_134) mn_M_bad ms_M_bad mw_M_bad mh_M_bad ml_M_bad rfl rfl) mw_M_bad mi_M (Nat.le_of_ble_eq_true rfl) (Nat.le_of_ble_eq_true rfl) (fun b17 x16 => ?_)
  exact jm_V.athrowS (o := 2) (q := ("java/lang/IllegalStateException", T_X, 0)) rfl rfl dd_M_definition_203
def J_M_definition_233 (K : Nat) (g : jm_Rec) (v1 : Int32) (x : jm_X) : Option jm_R := jm_bV (f_M_need_i K g 22 x) (fun x23 => jm_bV (g 0 [.ref 0] x23) (fun x24 => jm_then (va_up x24.1 15 (v1 + 1), x24.2) (fun x25 => some (.inl (none, x25)))))
set_option maxRecDepth 100000 in
set_option maxHeartbeats 4000000 in
theorem jj_M_definition_233 {l : Launch} {D : va_G} {ad : Nat → Nat} {aC : Nat → ClassId} {b0 : Nat} {K d0 : Nat} {g : jm_Rec} (hok : jm_Ok (jm_PP l D clR ad aC shR b0 0)) (hrec : ∀ (t : Nat) (av : List Value) (x : jm_X), jm_Con (jm_PP l D clR ad aC shR b0 0) (rcR t) d0 av x (g t av x)) (v1 : Int32) (x : jm_X) : jm_V (jm_PP l D clR ad aC shR b0 0) mt_M_definition (d0 + 7) 233 [(0, .ref 0), (1, .int v1)] [] x (J_M_definition_233 K g v1 x) := by
  have hT := tk_M (l := l) (D := D) (ad := ad) (aC := aC) (b0 := b0)
  unfold J_M_definition_233
  refine jm_V.run (is := bk_M_definition_233_2) (pc' := 236) (ls' := [(0, .ref 0), (1, .int v1)]) (st' := [.int 22, .ref 0]) (x' := x) hok hT bk_M_definition_233_2_ok rfl ?_
  refine jm_V.callV (av := [.ref 0, .int 22]) (rest := []) hok (jm_Con.mono (c_M_need_i hok hrec 22 x) (by omega)) (jm_Inv.obj (q := ("FilterReaderModel", T_M, 22)) dd_M_definition_236 (Or.inl lk_M_199) mn_M_need_i ms_M_need_i mw_M_need_i mh_M_need_i ml_M_need_i rfl rfl) mw_M_need_i mi_M (Nat.le_of_ble_eq_true rfl) (Nat.le_of_ble_eq_true rfl) (fun x23 => ?_)
  refine jm_V.run (is := bk_M_definition_239_1) (pc' := 240) (ls' := [(0, .ref 0), (1, .int v1)]) (st' := [.ref 0]) (x' := x23) hok hT bk_M_definition_239_1_ok rfl ?_
  refine jm_V.callV (av := [.ref 0]) (rest := []) hok (jm_Con.mono (hrec 0 [.ref 0] x23) (by omega)) (jm_Inv.obj (q := ("FilterReaderModel", T_M, 22)) dd_M_definition_240 (Or.inl lk_M_125) mn_M_program ms_M_program mw_M_program mh_M_program ml_M_program rfl rfl) mw_M_program mi_M (Nat.le_of_ble_eq_true rfl) (Nat.le_of_ble_eq_true rfl) (fun x24 => ?_)
  refine jm_V.run (is := bk_M_definition_243_5) (pc' := 250) (ls' := [(0, .ref 0), (1, .int v1)]) (st' := []) (x' := (va_up x24.1 15 (v1 + 1), x24.2)) hok hT bk_M_definition_243_5_ok rfl ?_
  refine jm_V.then_ (fun x25 => ?_)
  exact jm_V.vret rfl dd_M_definition_250
def J_M_definition_204 (K : Nat) (g : jm_Rec) (k62 : Int32 → jm_X → Option jm_R) (v1 : Int32) (x : jm_X) : Option jm_R := (if jm_in shR 8 .int v1 then (if jm_in shR 8 .int v1 then jm_then (jm_ua x 8 v1 ((x.2.2 8 (Int32.toNatClampNeg v1)) + 1)) (fun x18 => jm_bV (f_M_scan K g x18) (fun x19 => jm_bI (f_M_skip_i K g 23 x19) (fun b21 x20 => (if b21 = 0 then jm_bV (f_M_need_i K g 17 x20) (fun x22 => J_M_definition_233 K g v1 x22) else k62 v1 x20)))) else none) else none)
set_option maxRecDepth 100000 in
set_option maxHeartbeats 4000000 in
theorem jj_M_definition_204 {l : Launch} {D : va_G} {ad : Nat → Nat} {aC : Nat → ClassId} {b0 : Nat} {K d0 : Nat} {g : jm_Rec} (hok : jm_Ok (jm_PP l D clR ad aC shR b0 0)) (hrec : ∀ (t : Nat) (av : List Value) (x : jm_X), jm_Con (jm_PP l D clR ad aC shR b0 0) (rcR t) d0 av x (g t av x)) {k62 : Int32 → jm_X → Option jm_R} (hk62 : ∀ (v1 : Int32) (x : jm_X), jm_V (jm_PP l D clR ad aC shR b0 0) mt_M_definition (d0 + 7) 62 [(0, .ref 0), (1, .int v1)] [] x (k62 v1 x)) (v1 : Int32) (x : jm_X) : jm_V (jm_PP l D clR ad aC shR b0 0) mt_M_definition (d0 + 7) 204 [(0, .ref 0), (1, .int v1)] [] x (J_M_definition_204 K g k62 v1 x) := by
  have hT := tk_M (l := l) (D := D) (ad := ad) (aC := aC) (b0 := b0)
  unfold J_M_definition_204
  refine jm_V.run (is := bk_M_definition_204_4) (pc' := 210) (ls' := [(0, .ref 0), (1, .int v1)]) (st' := [.int v1, .ref 8, .int v1, .ref 8]) (x' := x) hok hT bk_M_definition_204_4_ok rfl ?_
  refine jm_V.iald dd_M_definition_210 ?_
  refine jm_V.run (is := bk_M_definition_211_2) (pc' := 213) (ls' := [(0, .ref 0), (1, .int v1)]) (st' := [.int ((x.2.2 8 (Int32.toNatClampNeg v1)) + 1), .int v1, .ref 8]) (x' := x) hok hT bk_M_definition_211_2_ok rfl ?_
  refine jm_V.iast hok dd_M_definition_213 ?_
  refine jm_V.then_ (fun x18 => ?_)
  refine jm_V.run (is := bk_M_definition_214_1) (pc' := 215) (ls' := [(0, .ref 0), (1, .int v1)]) (st' := [.ref 0]) (x' := x18) hok hT bk_M_definition_214_1_ok rfl ?_
  refine jm_V.callV (av := [.ref 0]) (rest := []) hok (jm_Con.mono (c_M_scan hok hrec x18) (by omega)) (jm_Inv.obj (q := ("FilterReaderModel", T_M, 22)) dd_M_definition_215 (Or.inl lk_M_122) mn_M_scan ms_M_scan mw_M_scan mh_M_scan ml_M_scan rfl rfl) mw_M_scan mi_M (Nat.le_of_ble_eq_true rfl) (Nat.le_of_ble_eq_true rfl) (fun x19 => ?_)
  refine jm_V.run (is := bk_M_definition_218_2) (pc' := 221) (ls' := [(0, .ref 0), (1, .int v1)]) (st' := [.int 23, .ref 0]) (x' := x19) hok hT bk_M_definition_218_2_ok rfl ?_
  refine jm_V.callI (av := [.ref 0, .int 23]) (rest := []) hok (jm_Con.mono (c_M_skip_i hok hrec 23 x19) (by omega)) (jm_Inv.obj (q := ("FilterReaderModel", T_M, 22)) dd_M_definition_221 (Or.inl lk_M_184) mn_M_skip_i ms_M_skip_i mw_M_skip_i mh_M_skip_i ml_M_skip_i rfl rfl) mw_M_skip_i mi_M (Nat.le_of_ble_eq_true rfl) (Nat.le_of_ble_eq_true rfl) (fun b21 x20 => ?_)
  refine jm_V.run (is := bk_M_definition_224_1) (pc' := (if b21 = 0 then 227 else 62)) (ls' := [(0, .ref 0), (1, .int v1)]) (st' := []) (x' := x20) hok hT bk_M_definition_224_1_ok rfl ?_
  refine jm_V.ite (fun _ => ?_) (fun _ => ?_)
  · refine jm_V.run (is := bk_M_definition_227_2) (pc' := 230) (ls' := [(0, .ref 0), (1, .int v1)]) (st' := [.int 17, .ref 0]) (x' := x20) hok hT bk_M_definition_227_2_ok rfl ?_
    refine jm_V.callV (av := [.ref 0, .int 17]) (rest := []) hok (jm_Con.mono (c_M_need_i hok hrec 17 x20) (by omega)) (jm_Inv.obj (q := ("FilterReaderModel", T_M, 22)) dd_M_definition_230 (Or.inl lk_M_199) mn_M_need_i ms_M_need_i mw_M_need_i mh_M_need_i ml_M_need_i rfl rfl) mw_M_need_i mi_M (Nat.le_of_ble_eq_true rfl) (Nat.le_of_ble_eq_true rfl) (fun x22 => ?_)
    exact jj_M_definition_233 hok hrec v1 x22
  · exact hk62 v1 x20
def J_M_definition_98 (K : Nat) (g : jm_Rec) (k62 : Int32 → jm_X → Option jm_R) (v1 : Int32) (x : jm_X) : Option jm_R := (if (x.1 11) = 3 then jm_bV (f_M_know K g 2 ((x.1 9) + 1) (((x.1 10) - (x.1 9)) - 1) 0 0 x) (fun x11 => jm_bV (f_M_know K g 1 ((x11.1 9) + 1) (((x11.1 10) - (x11.1 9)) - 1) 0 0 x11) (fun x12 => J_M_definition_204 K g k62 v1 x12)) else (if (x.1 11) = 1 then jm_bI (f_M_isWord K g x) (fun b14 x13 => (if b14 = 0 then jm_bV (f_M_know K g 1 (x13.1 9) ((x13.1 10) - (x13.1 9)) 0 0 x13) (fun x15 => J_M_definition_204 K g k62 v1 x15) else J_M_definition_195 K g x13)) else J_M_definition_195 K g x))
set_option maxRecDepth 100000 in
set_option maxHeartbeats 4000000 in
theorem jj_M_definition_98 {l : Launch} {D : va_G} {ad : Nat → Nat} {aC : Nat → ClassId} {b0 : Nat} {K d0 : Nat} {g : jm_Rec} (hok : jm_Ok (jm_PP l D clR ad aC shR b0 0)) (hrec : ∀ (t : Nat) (av : List Value) (x : jm_X), jm_Con (jm_PP l D clR ad aC shR b0 0) (rcR t) d0 av x (g t av x)) {k62 : Int32 → jm_X → Option jm_R} (hk62 : ∀ (v1 : Int32) (x : jm_X), jm_V (jm_PP l D clR ad aC shR b0 0) mt_M_definition (d0 + 7) 62 [(0, .ref 0), (1, .int v1)] [] x (k62 v1 x)) (v1 : Int32) (x : jm_X) : jm_V (jm_PP l D clR ad aC shR b0 0) mt_M_definition (d0 + 7) 98 [(0, .ref 0), (1, .int v1)] [] x (J_M_definition_98 K g k62 v1 x) := by
  have hT := tk_M (l := l) (D := D) (ad := ad) (aC := aC) (b0 := b0)
  unfold J_M_definition_98
  refine jm_V.run (is := bk_M_definition_98_4) (pc' := (if (x.1 11) = 3 then 106 else 157)) (ls' := [(0, .ref 0), (1, .int v1)]) (st' := []) (x' := x) hok hT bk_M_definition_98_4_ok rfl ?_
  refine jm_V.ite (fun _ => ?_) (fun _ => ?_)
  · refine jm_V.run (is := bk_M_definition_106_15) (pc' := 127) (ls' := [(0, .ref 0), (1, .int v1)]) (st' := [.int 0, .int 0, .int (((x.1 10) - (x.1 9)) - 1), .int ((x.1 9) + 1), .int 2, .ref 0]) (x' := x) hok hT bk_M_definition_106_15_ok rfl ?_
    refine jm_V.callV (av := [.ref 0, .int 2, .int ((x.1 9) + 1), .int (((x.1 10) - (x.1 9)) - 1), .int 0, .int 0]) (rest := []) hok (jm_Con.mono (c_M_know hok hrec 2 ((x.1 9) + 1) (((x.1 10) - (x.1 9)) - 1) 0 0 x) (by omega)) (jm_Inv.obj (q := ("FilterReaderModel", T_M, 22)) dd_M_definition_127 (Or.inl lk_M_202) mn_M_know ms_M_know mw_M_know mh_M_know ml_M_know rfl rfl) mw_M_know mi_M (Nat.le_of_ble_eq_true rfl) (Nat.le_of_ble_eq_true rfl) (fun x11 => ?_)
    refine jm_V.run (is := bk_M_definition_130_15) (pc' := 151) (ls' := [(0, .ref 0), (1, .int v1)]) (st' := [.int 0, .int 0, .int (((x11.1 10) - (x11.1 9)) - 1), .int ((x11.1 9) + 1), .int 1, .ref 0]) (x' := x11) hok hT bk_M_definition_130_15_ok rfl ?_
    refine jm_V.callV (av := [.ref 0, .int 1, .int ((x11.1 9) + 1), .int (((x11.1 10) - (x11.1 9)) - 1), .int 0, .int 0]) (rest := []) hok (jm_Con.mono (c_M_know hok hrec 1 ((x11.1 9) + 1) (((x11.1 10) - (x11.1 9)) - 1) 0 0 x11) (by omega)) (jm_Inv.obj (q := ("FilterReaderModel", T_M, 22)) dd_M_definition_151 (Or.inl lk_M_202) mn_M_know ms_M_know mw_M_know mh_M_know ml_M_know rfl rfl) mw_M_know mi_M (Nat.le_of_ble_eq_true rfl) (Nat.le_of_ble_eq_true rfl) (fun x12 => ?_)
    refine jm_V.run (is := bk_M_definition_154_1) (pc' := 204) (ls' := [(0, .ref 0), (1, .int v1)]) (st' := []) (x' := x12) hok hT bk_M_definition_154_1_ok rfl ?_
    exact jj_M_definition_204 hok hrec hk62 v1 x12
  · refine jm_V.run (is := bk_M_definition_157_4) (pc' := (if (x.1 11) = 1 then 165 else 195)) (ls' := [(0, .ref 0), (1, .int v1)]) (st' := []) (x' := x) hok hT bk_M_definition_157_4_ok rfl ?_
    refine jm_V.ite (fun _ => ?_) (fun _ => ?_)
    · refine jm_V.run (is := bk_M_definition_165_1) (pc' := 166) (ls' := [(0, .ref 0), (1, .int v1)]) (st' := [.ref 0]) (x' := x) hok hT bk_M_definition_165_1_ok rfl ?_
      refine jm_V.callI (av := [.ref 0]) (rest := []) hok (jm_Con.mono (c_M_isWord hok hrec x) (by omega)) (jm_Inv.obj (q := ("FilterReaderModel", T_M, 22)) dd_M_definition_166 (Or.inl lk_M_209) mn_M_isWord ms_M_isWord mw_M_isWord mh_M_isWord ml_M_isWord rfl rfl) mw_M_isWord mi_M (Nat.le_of_ble_eq_true rfl) (Nat.le_of_ble_eq_true rfl) (fun b14 x13 => ?_)
      refine jm_V.run (is := bk_M_definition_169_1) (pc' := (if b14 = 0 then 172 else 195)) (ls' := [(0, .ref 0), (1, .int v1)]) (st' := []) (x' := x13) hok hT bk_M_definition_169_1_ok rfl ?_
      refine jm_V.ite (fun _ => ?_) (fun _ => ?_)
      · refine jm_V.run (is := bk_M_definition_172_11) (pc' := 189) (ls' := [(0, .ref 0), (1, .int v1)]) (st' := [.int 0, .int 0, .int ((x13.1 10) - (x13.1 9)), .int (x13.1 9), .int 1, .ref 0]) (x' := x13) hok hT bk_M_definition_172_11_ok rfl ?_
        refine jm_V.callV (av := [.ref 0, .int 1, .int (x13.1 9), .int ((x13.1 10) - (x13.1 9)), .int 0, .int 0]) (rest := []) hok (jm_Con.mono (c_M_know hok hrec 1 (x13.1 9) ((x13.1 10) - (x13.1 9)) 0 0 x13) (by omega)) (jm_Inv.obj (q := ("FilterReaderModel", T_M, 22)) dd_M_definition_189 (Or.inl lk_M_202) mn_M_know ms_M_know mw_M_know mh_M_know ml_M_know rfl rfl) mw_M_know mi_M (Nat.le_of_ble_eq_true rfl) (Nat.le_of_ble_eq_true rfl) (fun x15 => ?_)
        refine jm_V.run (is := bk_M_definition_192_1) (pc' := 204) (ls' := [(0, .ref 0), (1, .int v1)]) (st' := []) (x' := x15) hok hT bk_M_definition_192_1_ok rfl ?_
        exact jj_M_definition_204 hok hrec hk62 v1 x15
      · refine jm_V.sub (ls' := [(0, .ref 0)]) [0] rfl ?_
        exact jj_M_definition_195 hok hrec x13
    · refine jm_V.sub (ls' := [(0, .ref 0)]) [0] rfl ?_
      exact jj_M_definition_195 hok hrec x
def B_M_definition_62 (K : Nat) (g : jm_Rec) (self : Int32 → jm_X → Option jm_R) (v1 : Int32) (x : jm_X) : Option jm_R := (if jm_in shR 8 .int v1 then (if (x.2.2 8 (Int32.toNatClampNeg v1)) = 10 then (if (x.1 11) = 3 then J_M_definition_89 K g x else (if (x.1 11) = 1 then J_M_definition_89 K g x else J_M_definition_98 K g self v1 x)) else J_M_definition_98 K g self v1 x) else none)
def L_M_definition_62 (K : Nat) (g : jm_Rec) : Nat → Int32 → jm_X → Option jm_R
  | 0, _, _ => none
  | k + 1, v1, x => B_M_definition_62 K g (L_M_definition_62 K g k) v1 x
set_option maxRecDepth 100000 in
set_option maxHeartbeats 4000000 in
theorem jb_M_definition_62 {l : Launch} {D : va_G} {ad : Nat → Nat} {aC : Nat → ClassId} {b0 : Nat} {K d0 : Nat} {g : jm_Rec} (hok : jm_Ok (jm_PP l D clR ad aC shR b0 0)) (hrec : ∀ (t : Nat) (av : List Value) (x : jm_X), jm_Con (jm_PP l D clR ad aC shR b0 0) (rcR t) d0 av x (g t av x)) {self : Int32 → jm_X → Option jm_R} (hself : ∀ (v1 : Int32) (x : jm_X), jm_V (jm_PP l D clR ad aC shR b0 0) mt_M_definition (d0 + 7) 62 [(0, .ref 0), (1, .int v1)] [] x (self v1 x)) (v1 : Int32) (x : jm_X) : jm_V (jm_PP l D clR ad aC shR b0 0) mt_M_definition (d0 + 7) 62 [(0, .ref 0), (1, .int v1)] [] x (B_M_definition_62 K g self v1 x) := by
  have hT := tk_M (l := l) (D := D) (ad := ad) (aC := aC) (b0 := b0)
  unfold B_M_definition_62
  refine jm_V.run (is := bk_M_definition_62_3) (pc' := 67) (ls' := [(0, .ref 0), (1, .int v1)]) (st' := [.int v1, .ref 8]) (x' := x) hok hT bk_M_definition_62_3_ok rfl ?_
  refine jm_V.iald dd_M_definition_67 ?_
  refine jm_V.run (is := bk_M_definition_68_2) (pc' := (if (x.2.2 8 (Int32.toNatClampNeg v1)) = 10 then 73 else 98)) (ls' := [(0, .ref 0), (1, .int v1)]) (st' := []) (x' := x) hok hT bk_M_definition_68_2_ok rfl ?_
  refine jm_V.ite (fun _ => ?_) (fun _ => ?_)
  · refine jm_V.run (is := bk_M_definition_73_4) (pc' := (if (x.1 11) = 3 then 89 else 81)) (ls' := [(0, .ref 0), (1, .int v1)]) (st' := []) (x' := x) hok hT bk_M_definition_73_4_ok rfl ?_
    refine jm_V.ite (fun _ => ?_) (fun _ => ?_)
    · refine jm_V.sub (ls' := [(0, .ref 0)]) [0] rfl ?_
      exact jj_M_definition_89 hok hrec x
    · refine jm_V.run (is := bk_M_definition_81_4) (pc' := (if (x.1 11) = 1 then 89 else 98)) (ls' := [(0, .ref 0), (1, .int v1)]) (st' := []) (x' := x) hok hT bk_M_definition_81_4_ok rfl ?_
      refine jm_V.ite (fun _ => ?_) (fun _ => ?_)
      · refine jm_V.sub (ls' := [(0, .ref 0)]) [0] rfl ?_
        exact jj_M_definition_89 hok hrec x
      · exact jj_M_definition_98 hok hrec hself v1 x
  · exact jj_M_definition_98 hok hrec hself v1 x
theorem jl_M_definition_62 {l : Launch} {D : va_G} {ad : Nat → Nat} {aC : Nat → ClassId} {b0 : Nat} {K d0 : Nat} {g : jm_Rec} (hok : jm_Ok (jm_PP l D clR ad aC shR b0 0)) (hrec : ∀ (t : Nat) (av : List Value) (x : jm_X), jm_Con (jm_PP l D clR ad aC shR b0 0) (rcR t) d0 av x (g t av x)) : ∀ (k : Nat) (v1 : Int32) (x : jm_X), jm_V (jm_PP l D clR ad aC shR b0 0) mt_M_definition (d0 + 7) 62 [(0, .ref 0), (1, .int v1)] [] x (L_M_definition_62 K g k v1 x)
  | 0, _, _ => jm_V.stuck
  | k + 1, v1, x => jb_M_definition_62 hok hrec (fun v1 x => jl_M_definition_62 hok hrec k v1 x) v1 x
def f_M_definition (K : Nat) (g : jm_Rec)  (x : jm_X) : Option jm_R := (if (x.1 11) = 1 then jm_bI (f_M_isWord K g x) (fun b2 x1 => (if b2 = 0 then jm_bV (f_M_know K g 0 (x1.1 9) ((x1.1 10) - (x1.1 9)) 0 0 x1) (fun x3 => jm_bV (f_M_scan K g x3) (fun x4 => jm_bI (f_M_skip_i K g 16 x4) (fun b6 x5 => (if b6 = 0 then J_M_definition_233 K g (x1.1 15) x5 else L_M_definition_62 K g K (x1.1 15) x5)))) else J_M_definition_15 K g x1)) else J_M_definition_15 K g x)
set_option maxRecDepth 100000 in
set_option maxHeartbeats 4000000 in
theorem c_M_definition {l : Launch} {D : va_G} {ad : Nat → Nat} {aC : Nat → ClassId} {b0 : Nat} {K d0 : Nat} {g : jm_Rec} (hok : jm_Ok (jm_PP l D clR ad aC shR b0 0)) (hrec : ∀ (t : Nat) (av : List Value) (x : jm_X), jm_Con (jm_PP l D clR ad aC shR b0 0) (rcR t) d0 av x (g t av x))  (x : jm_X) : jm_Con (jm_PP l D clR ad aC shR b0 0) mt_M_definition (d0 + 7) [.ref 0] x (f_M_definition K g  x) := by
  refine jm_Con.of (plainFor_of_name (by decide +kernel)) (Nat.le_of_ble_eq_true rfl) ?_
  have hT := tk_M (l := l) (D := D) (ad := ad) (aC := aC) (b0 := b0)
  unfold f_M_definition
  show jm_V _ _ _ 0 [(0, .ref 0)] [] x _
  refine jm_V.run (is := bk_M_definition_0_4) (pc' := (if (x.1 11) = 1 then 8 else 15)) (ls' := [(0, .ref 0)]) (st' := []) (x' := x) hok hT bk_M_definition_0_4_ok rfl ?_
  refine jm_V.ite (fun _ => ?_) (fun _ => ?_)
  · refine jm_V.run (is := bk_M_definition_8_1) (pc' := 9) (ls' := [(0, .ref 0)]) (st' := [.ref 0]) (x' := x) hok hT bk_M_definition_8_1_ok rfl ?_
    refine jm_V.callI (av := [.ref 0]) (rest := []) hok (jm_Con.mono (c_M_isWord hok hrec x) (by omega)) (jm_Inv.obj (q := ("FilterReaderModel", T_M, 22)) dd_M_definition_9 (Or.inl lk_M_209) mn_M_isWord ms_M_isWord mw_M_isWord mh_M_isWord ml_M_isWord rfl rfl) mw_M_isWord mi_M (Nat.le_of_ble_eq_true rfl) (Nat.le_of_ble_eq_true rfl) (fun b2 x1 => ?_)
    refine jm_V.run (is := bk_M_definition_12_1) (pc' := (if b2 = 0 then 24 else 15)) (ls' := [(0, .ref 0)]) (st' := []) (x' := x1) hok hT bk_M_definition_12_1_ok rfl ?_
    refine jm_V.ite (fun _ => ?_) (fun _ => ?_)
    · refine jm_V.run (is := bk_M_definition_24_14) (pc' := 46) (ls' := [(1, .int (x1.1 15)), (0, .ref 0)]) (st' := [.int 0, .int 0, .int ((x1.1 10) - (x1.1 9)), .int (x1.1 9), .int 0, .ref 0]) (x' := x1) hok hT bk_M_definition_24_14_ok rfl ?_
      refine jm_V.callV (av := [.ref 0, .int 0, .int (x1.1 9), .int ((x1.1 10) - (x1.1 9)), .int 0, .int 0]) (rest := []) hok (jm_Con.mono (c_M_know hok hrec 0 (x1.1 9) ((x1.1 10) - (x1.1 9)) 0 0 x1) (by omega)) (jm_Inv.obj (q := ("FilterReaderModel", T_M, 22)) dd_M_definition_46 (Or.inl lk_M_202) mn_M_know ms_M_know mw_M_know mh_M_know ml_M_know rfl rfl) mw_M_know mi_M (Nat.le_of_ble_eq_true rfl) (Nat.le_of_ble_eq_true rfl) (fun x3 => ?_)
      refine jm_V.run (is := bk_M_definition_49_1) (pc' := 50) (ls' := [(1, .int (x1.1 15)), (0, .ref 0)]) (st' := [.ref 0]) (x' := x3) hok hT bk_M_definition_49_1_ok rfl ?_
      refine jm_V.callV (av := [.ref 0]) (rest := []) hok (jm_Con.mono (c_M_scan hok hrec x3) (by omega)) (jm_Inv.obj (q := ("FilterReaderModel", T_M, 22)) dd_M_definition_50 (Or.inl lk_M_122) mn_M_scan ms_M_scan mw_M_scan mh_M_scan ml_M_scan rfl rfl) mw_M_scan mi_M (Nat.le_of_ble_eq_true rfl) (Nat.le_of_ble_eq_true rfl) (fun x4 => ?_)
      refine jm_V.run (is := bk_M_definition_53_2) (pc' := 56) (ls' := [(1, .int (x1.1 15)), (0, .ref 0)]) (st' := [.int 16, .ref 0]) (x' := x4) hok hT bk_M_definition_53_2_ok rfl ?_
      refine jm_V.callI (av := [.ref 0, .int 16]) (rest := []) hok (jm_Con.mono (c_M_skip_i hok hrec 16 x4) (by omega)) (jm_Inv.obj (q := ("FilterReaderModel", T_M, 22)) dd_M_definition_56 (Or.inl lk_M_184) mn_M_skip_i ms_M_skip_i mw_M_skip_i mh_M_skip_i ml_M_skip_i rfl rfl) mw_M_skip_i mi_M (Nat.le_of_ble_eq_true rfl) (Nat.le_of_ble_eq_true rfl) (fun b6 x5 => ?_)
      refine jm_V.run (is := bk_M_definition_59_1) (pc' := (if b6 = 0 then 233 else 62)) (ls' := [(1, .int (x1.1 15)), (0, .ref 0)]) (st' := []) (x' := x5) hok hT bk_M_definition_59_1_ok rfl ?_
      refine jm_V.ite (fun _ => ?_) (fun _ => ?_)
      · refine jm_V.sub (ls' := [(0, .ref 0), (1, .int (x1.1 15))]) [1, 0] rfl ?_
        exact jj_M_definition_233 hok hrec (x1.1 15) x5
      · refine jm_V.sub (ls' := [(0, .ref 0), (1, .int (x1.1 15))]) [1, 0] rfl ?_
        exact jl_M_definition_62 hok hrec K (x1.1 15) x5
    · exact jj_M_definition_15 hok hrec x1
  · exact jj_M_definition_15 hok hrec x
abbrev bk_M_program_0_1 : List (Nat × Instr × Nat) := [(0, .aload_n 0, 1)]
theorem bk_M_program_0_1_ok : jm_at mt_M_program.2.1 bk_M_program_0_1 = true := by decide +kernel
abbrev bk_M_program_4_4 : List (Nat × Instr × Nat) := [(4, .aload_n 0, 1), (5, .getfield 113, 3), (8, .istore_n 1, 1), (9, .aload_n 0, 1)]
theorem bk_M_program_4_4_ok : jm_at mt_M_program.2.1 bk_M_program_4_4 = true := by decide +kernel
abbrev bk_M_program_15_1 : List (Nat × Instr × Nat) := [(15, .ifCond .eq 31, 3)]
theorem bk_M_program_15_1_ok : jm_at mt_M_program.2.1 bk_M_program_15_1 = true := by decide +kernel
abbrev bk_M_program_46_1 : List (Nat × Instr × Nat) := [(46, .aload_n 0, 1)]
theorem bk_M_program_46_1_ok : jm_at mt_M_program.2.1 bk_M_program_46_1 = true := by decide +kernel
abbrev bk_M_program_52_1 : List (Nat × Instr × Nat) := [(52, .ifCond .eq 72, 3)]
theorem bk_M_program_52_1_ok : jm_at mt_M_program.2.1 bk_M_program_52_1 = true := by decide +kernel
abbrev bk_M_program_124_1 : List (Nat × Instr × Nat) := [(124, .aload_n 0, 1)]
theorem bk_M_program_124_1_ok : jm_at mt_M_program.2.1 bk_M_program_124_1 = true := by decide +kernel
abbrev bk_M_program_55_4 : List (Nat × Instr × Nat) := [(55, .aload_n 0, 1), (56, .getfield 76, 3), (59, .bipush 27, 2), (61, .dup2, 1)]
theorem bk_M_program_55_4_ok : jm_at mt_M_program.2.1 bk_M_program_55_4 = true := by decide +kernel
abbrev bk_M_program_63_2 : List (Nat × Instr × Nat) := [(63, .iconst 1, 1), (64, .iadd, 1)]
theorem bk_M_program_63_2_ok : jm_at mt_M_program.2.1 bk_M_program_63_2 = true := by decide +kernel
abbrev bk_M_program_66_4 : List (Nat × Instr × Nat) := [(66, .aload_n 0, 1), (67, .getfield 128, 3), (70, .iconst 3, 1), (71, .if_icmp .eq 12, 3)]
theorem bk_M_program_66_4_ok : jm_at mt_M_program.2.1 bk_M_program_66_4 = true := by decide +kernel
abbrev bk_M_program_83_15 : List (Nat × Instr × Nat) := [(83, .aload_n 0, 1), (84, .iconst 3, 1), (85, .aload_n 0, 1), (86, .getfield 131, 3), (89, .iconst 1, 1), (90, .iadd, 1), (91, .aload_n 0, 1), (92, .getfield 119, 3), (95, .aload_n 0, 1), (96, .getfield 131, 3), (99, .isub, 1), (100, .iconst 1, 1), (101, .isub, 1), (102, .iconst 0, 1), (103, .iconst 0, 1)]
theorem bk_M_program_83_15_ok : jm_at mt_M_program.2.1 bk_M_program_83_15 = true := by decide +kernel
abbrev bk_M_program_107_1 : List (Nat × Instr × Nat) := [(107, .aload_n 0, 1)]
theorem bk_M_program_107_1_ok : jm_at mt_M_program.2.1 bk_M_program_107_1 = true := by decide +kernel
abbrev bk_M_program_111_2 : List (Nat × Instr × Nat) := [(111, .aload_n 0, 1), (112, .bipush 6, 2)]
theorem bk_M_program_111_2_ok : jm_at mt_M_program.2.1 bk_M_program_111_2 = true := by decide +kernel
abbrev bk_M_program_117_1 : List (Nat × Instr × Nat) := [(117, .aload_n 0, 1)]
theorem bk_M_program_117_1_ok : jm_at mt_M_program.2.1 bk_M_program_117_1 = true := by decide +kernel
abbrev bk_M_program_121_1 : List (Nat × Instr × Nat) := [(121, .goto 66, 3)]
theorem bk_M_program_121_1_ok : jm_at mt_M_program.2.1 bk_M_program_121_1 = true := by decide +kernel
abbrev bk_M_program_74_3 : List (Nat × Instr × Nat) := [(74, .aload_n 0, 1), (75, .aload_n 0, 1), (76, .getfield 131, 3)]
theorem bk_M_program_74_3_ok : jm_at mt_M_program.2.1 bk_M_program_74_3 = true := by decide +kernel
abbrev bk_M_program_18_4 : List (Nat × Instr × Nat) := [(18, .aload_n 0, 1), (19, .getfield 76, 3), (22, .bipush 28, 2), (24, .dup2, 1)]
theorem bk_M_program_18_4_ok : jm_at mt_M_program.2.1 bk_M_program_18_4 = true := by decide +kernel
abbrev bk_M_program_26_2 : List (Nat × Instr × Nat) := [(26, .iconst 1, 1), (27, .iadd, 1)]
theorem bk_M_program_26_2_ok : jm_at mt_M_program.2.1 bk_M_program_26_2 = true := by decide +kernel
abbrev bk_M_program_29_1 : List (Nat × Instr × Nat) := [(29, .aload_n 0, 1)]
theorem bk_M_program_29_1_ok : jm_at mt_M_program.2.1 bk_M_program_29_1 = true := by decide +kernel
abbrev bk_M_program_33_2 : List (Nat × Instr × Nat) := [(33, .aload_n 0, 1), (34, .bipush 23, 2)]
theorem bk_M_program_33_2_ok : jm_at mt_M_program.2.1 bk_M_program_33_2 = true := by decide +kernel
abbrev bk_M_program_39_1 : List (Nat × Instr × Nat) := [(39, .aload_n 0, 1)]
theorem bk_M_program_39_1_ok : jm_at mt_M_program.2.1 bk_M_program_39_1 = true := by decide +kernel
abbrev bk_M_program_43_1 : List (Nat × Instr × Nat) := [(43, .goto 144, 3)]
theorem bk_M_program_43_1_ok : jm_at mt_M_program.2.1 bk_M_program_43_1 = true := by decide +kernel
abbrev bk_M_program_128_4 : List (Nat × Instr × Nat) := [(128, .aload_n 0, 1), (129, .getfield 128, 3), (132, .bipush 7, 2), (134, .if_icmp .ne 25, 3)]
theorem bk_M_program_128_4_ok : jm_at mt_M_program.2.1 bk_M_program_128_4 = true := by decide +kernel
abbrev bk_M_program_137_4 : List (Nat × Instr × Nat) := [(137, .aload_n 0, 1), (138, .getfield 76, 3), (141, .bipush 17, 2), (143, .dup2, 1)]
theorem bk_M_program_137_4_ok : jm_at mt_M_program.2.1 bk_M_program_137_4 = true := by decide +kernel
abbrev bk_M_program_145_2 : List (Nat × Instr × Nat) := [(145, .iconst 1, 1), (146, .iadd, 1)]
theorem bk_M_program_145_2_ok : jm_at mt_M_program.2.1 bk_M_program_145_2 = true := by decide +kernel
abbrev bk_M_program_148_1 : List (Nat × Instr × Nat) := [(148, .aload_n 0, 1)]
theorem bk_M_program_148_1_ok : jm_at mt_M_program.2.1 bk_M_program_148_1 = true := by decide +kernel
abbrev bk_M_program_152_1 : List (Nat × Instr × Nat) := [(152, .aload_n 0, 1)]
theorem bk_M_program_152_1_ok : jm_at mt_M_program.2.1 bk_M_program_152_1 = true := by decide +kernel
abbrev bk_M_program_156_1 : List (Nat × Instr × Nat) := [(156, .goto (-28), 3)]
theorem bk_M_program_156_1_ok : jm_at mt_M_program.2.1 bk_M_program_156_1 = true := by decide +kernel
abbrev bk_M_program_159_4 : List (Nat × Instr × Nat) := [(159, .aload_n 0, 1), (160, .getfield 128, 3), (163, .bipush 6, 2), (165, .if_icmp .ne 22, 3)]
theorem bk_M_program_159_4_ok : jm_at mt_M_program.2.1 bk_M_program_159_4 = true := by decide +kernel
abbrev bk_M_program_168_4 : List (Nat × Instr × Nat) := [(168, .aload_n 0, 1), (169, .getfield 76, 3), (172, .bipush 16, 2), (174, .dup2, 1)]
theorem bk_M_program_168_4_ok : jm_at mt_M_program.2.1 bk_M_program_168_4 = true := by decide +kernel
abbrev bk_M_program_176_2 : List (Nat × Instr × Nat) := [(176, .iconst 1, 1), (177, .iadd, 1)]
theorem bk_M_program_176_2_ok : jm_at mt_M_program.2.1 bk_M_program_176_2 = true := by decide +kernel
abbrev bk_M_program_179_1 : List (Nat × Instr × Nat) := [(179, .aload_n 0, 1)]
theorem bk_M_program_179_1_ok : jm_at mt_M_program.2.1 bk_M_program_179_1 = true := by decide +kernel
abbrev bk_M_program_183_1 : List (Nat × Instr × Nat) := [(183, .aload_n 0, 1)]
theorem bk_M_program_183_1_ok : jm_at mt_M_program.2.1 bk_M_program_183_1 = true := by decide +kernel
abbrev bk_M_program_187_3 : List (Nat × Instr × Nat) := [(187, .aload_n 0, 1), (188, .iload_n 1, 1), (189, .putfield 113, 3)]
theorem bk_M_program_187_3_ok : jm_at mt_M_program.2.1 bk_M_program_187_3 = true := by decide +kernel
abbrev bk_M_program_192_6 : List (Nat × Instr × Nat) := [(192, .aload_n 0, 1), (193, .dup, 1), (194, .getfield 116, 3), (197, .iconst 1, 1), (198, .isub, 1), (199, .putfield 116, 3)]
theorem bk_M_program_192_6_ok : jm_at mt_M_program.2.1 bk_M_program_192_6 = true := by decide +kernel
theorem dd_M_program_1 : decode mt_M_program.2.1 1 = .ok (.invokevirtual 193, 3) := by decide +kernel
theorem dd_M_program_12 : decode mt_M_program.2.1 12 = .ok (.invokevirtual 187, 3) := by decide +kernel
theorem dd_M_program_49 : decode mt_M_program.2.1 49 = .ok (.invokevirtual 187, 3) := by decide +kernel
theorem dd_M_program_125 : decode mt_M_program.2.1 125 = .ok (.invokevirtual 206, 3) := by decide +kernel
theorem dd_M_program_104 : decode mt_M_program.2.1 104 = .ok (.invokevirtual 202, 3) := by decide +kernel
theorem dd_M_program_108 : decode mt_M_program.2.1 108 = .ok (.invokevirtual 122, 3) := by decide +kernel
theorem dd_M_program_114 : decode mt_M_program.2.1 114 = .ok (.invokevirtual 199, 3) := by decide +kernel
theorem dd_M_program_118 : decode mt_M_program.2.1 118 = .ok (.invokevirtual 125, 3) := by decide +kernel
theorem dd_M_program_79 : decode mt_M_program.2.1 79 = .ok (.invokevirtual 134, 3) := by decide +kernel
theorem dd_M_program_82 : decode mt_M_program.2.1 82 = .ok (.athrow, 1) := by decide +kernel
theorem dd_M_program_65 : decode mt_M_program.2.1 65 = .ok (.iastore, 1) := by decide +kernel
theorem dd_M_program_62 : decode mt_M_program.2.1 62 = .ok (.iaload, 1) := by decide +kernel
theorem dd_M_program_47 : decode mt_M_program.2.1 47 = .ok (.ldc 29, 2) := by decide +kernel
theorem dd_M_program_30 : decode mt_M_program.2.1 30 = .ok (.invokevirtual 196, 3) := by decide +kernel
theorem dd_M_program_36 : decode mt_M_program.2.1 36 = .ok (.invokevirtual 199, 3) := by decide +kernel
theorem dd_M_program_40 : decode mt_M_program.2.1 40 = .ok (.invokevirtual 125, 3) := by decide +kernel
theorem dd_M_program_28 : decode mt_M_program.2.1 28 = .ok (.iastore, 1) := by decide +kernel
theorem dd_M_program_25 : decode mt_M_program.2.1 25 = .ok (.iaload, 1) := by decide +kernel
theorem dd_M_program_10 : decode mt_M_program.2.1 10 = .ok (.ldc 17, 2) := by decide +kernel
theorem dd_M_program_149 : decode mt_M_program.2.1 149 = .ok (.invokevirtual 122, 3) := by decide +kernel
theorem dd_M_program_153 : decode mt_M_program.2.1 153 = .ok (.invokevirtual 206, 3) := by decide +kernel
theorem dd_M_program_147 : decode mt_M_program.2.1 147 = .ok (.iastore, 1) := by decide +kernel
theorem dd_M_program_144 : decode mt_M_program.2.1 144 = .ok (.iaload, 1) := by decide +kernel
theorem dd_M_program_180 : decode mt_M_program.2.1 180 = .ok (.invokevirtual 122, 3) := by decide +kernel
theorem dd_M_program_184 : decode mt_M_program.2.1 184 = .ok (.invokevirtual 125, 3) := by decide +kernel
theorem dd_M_program_178 : decode mt_M_program.2.1 178 = .ok (.iastore, 1) := by decide +kernel
theorem dd_M_program_175 : decode mt_M_program.2.1 175 = .ok (.iaload, 1) := by decide +kernel
theorem dd_M_program_202 : decode mt_M_program.2.1 202 = .ok (.return_, 1) := by decide +kernel
def J_M_program_187 (K : Nat) (g : jm_Rec) (v1 : Int32) (x : jm_X) : Option jm_R := jm_then (va_up x.1 15 v1, x.2) (fun x24 => jm_then (va_up x24.1 12 ((x24.1 12) - 1), x24.2) (fun x25 => some (.inl (none, x25))))
set_option maxRecDepth 100000 in
set_option maxHeartbeats 4000000 in
theorem jj_M_program_187 {l : Launch} {D : va_G} {ad : Nat → Nat} {aC : Nat → ClassId} {b0 : Nat} {K d0 : Nat} {g : jm_Rec} (hok : jm_Ok (jm_PP l D clR ad aC shR b0 0)) (hrec : ∀ (t : Nat) (av : List Value) (x : jm_X), jm_Con (jm_PP l D clR ad aC shR b0 0) (rcR t) d0 av x (g t av x)) (v1 : Int32) (x : jm_X) : jm_V (jm_PP l D clR ad aC shR b0 0) mt_M_program (d0 + 18) 187 [(0, .ref 0), (1, .int v1)] [] x (J_M_program_187 K g v1 x) := by
  have hT := tk_M (l := l) (D := D) (ad := ad) (aC := aC) (b0 := b0)
  unfold J_M_program_187
  refine jm_V.run (is := bk_M_program_187_3) (pc' := 192) (ls' := [(0, .ref 0), (1, .int v1)]) (st' := []) (x' := (va_up x.1 15 v1, x.2)) hok hT bk_M_program_187_3_ok rfl ?_
  refine jm_V.then_ (fun x24 => ?_)
  refine jm_V.run (is := bk_M_program_192_6) (pc' := 202) (ls' := [(0, .ref 0), (1, .int v1)]) (st' := []) (x' := (va_up x24.1 12 ((x24.1 12) - 1), x24.2)) hok hT bk_M_program_192_6_ok rfl ?_
  refine jm_V.then_ (fun x25 => ?_)
  exact jm_V.vret rfl dd_M_program_202
def B_M_program_128 (K : Nat) (g : jm_Rec) (self : Int32 → jm_X → Option jm_R) (v1 : Int32) (x : jm_X) : Option jm_R := (if (x.1 11) = 7 then (if jm_in shR 4 .int 17 then (if jm_in shR 4 .int 17 then jm_then (jm_ua x 4 17 ((x.2.2 4 (Int32.toNatClampNeg 17)) + 1)) (fun x18 => jm_bV (f_M_scan K g x18) (fun x19 => jm_bV (f_M_choices K g x19) (fun x20 => self v1 x20))) else none) else none) else (if (x.1 11) = 6 then (if jm_in shR 4 .int 16 then (if jm_in shR 4 .int 16 then jm_then (jm_ua x 4 16 ((x.2.2 4 (Int32.toNatClampNeg 16)) + 1)) (fun x21 => jm_bV (f_M_scan K g x21) (fun x22 => jm_bV (g 0 [.ref 0] x22) (fun x23 => J_M_program_187 K g v1 x23))) else none) else none) else J_M_program_187 K g v1 x))
def L_M_program_128 (K : Nat) (g : jm_Rec) : Nat → Int32 → jm_X → Option jm_R
  | 0, _, _ => none
  | k + 1, v1, x => B_M_program_128 K g (L_M_program_128 K g k) v1 x
set_option maxRecDepth 100000 in
set_option maxHeartbeats 4000000 in
theorem jb_M_program_128 {l : Launch} {D : va_G} {ad : Nat → Nat} {aC : Nat → ClassId} {b0 : Nat} {K d0 : Nat} {g : jm_Rec} (hok : jm_Ok (jm_PP l D clR ad aC shR b0 0)) (hrec : ∀ (t : Nat) (av : List Value) (x : jm_X), jm_Con (jm_PP l D clR ad aC shR b0 0) (rcR t) d0 av x (g t av x)) {self : Int32 → jm_X → Option jm_R} (hself : ∀ (v1 : Int32) (x : jm_X), jm_V (jm_PP l D clR ad aC shR b0 0) mt_M_program (d0 + 18) 128 [(0, .ref 0), (1, .int v1)] [] x (self v1 x)) (v1 : Int32) (x : jm_X) : jm_V (jm_PP l D clR ad aC shR b0 0) mt_M_program (d0 + 18) 128 [(0, .ref 0), (1, .int v1)] [] x (B_M_program_128 K g self v1 x) := by
  have hT := tk_M (l := l) (D := D) (ad := ad) (aC := aC) (b0 := b0)
  unfold B_M_program_128
  refine jm_V.run (is := bk_M_program_128_4) (pc' := (if (x.1 11) = 7 then 137 else 159)) (ls' := [(0, .ref 0), (1, .int v1)]) (st' := []) (x' := x) hok hT bk_M_program_128_4_ok rfl ?_
  refine jm_V.ite (fun _ => ?_) (fun _ => ?_)
  · refine jm_V.run (is := bk_M_program_137_4) (pc' := 144) (ls' := [(0, .ref 0), (1, .int v1)]) (st' := [.int 17, .ref 4, .int 17, .ref 4]) (x' := x) hok hT bk_M_program_137_4_ok rfl ?_
    refine jm_V.iald dd_M_program_144 ?_
    refine jm_V.run (is := bk_M_program_145_2) (pc' := 147) (ls' := [(0, .ref 0), (1, .int v1)]) (st' := [.int ((x.2.2 4 (Int32.toNatClampNeg 17)) + 1), .int 17, .ref 4]) (x' := x) hok hT bk_M_program_145_2_ok rfl ?_
    refine jm_V.iast hok dd_M_program_147 ?_
    refine jm_V.then_ (fun x18 => ?_)
    refine jm_V.run (is := bk_M_program_148_1) (pc' := 149) (ls' := [(0, .ref 0), (1, .int v1)]) (st' := [.ref 0]) (x' := x18) hok hT bk_M_program_148_1_ok rfl ?_
    refine jm_V.callV (av := [.ref 0]) (rest := []) hok (jm_Con.mono (c_M_scan hok hrec x18) (by omega)) (jm_Inv.obj (q := ("FilterReaderModel", T_M, 22)) dd_M_program_149 (Or.inl lk_M_122) mn_M_scan ms_M_scan mw_M_scan mh_M_scan ml_M_scan rfl rfl) mw_M_scan mi_M (Nat.le_of_ble_eq_true rfl) (Nat.le_of_ble_eq_true rfl) (fun x19 => ?_)
    refine jm_V.run (is := bk_M_program_152_1) (pc' := 153) (ls' := [(0, .ref 0), (1, .int v1)]) (st' := [.ref 0]) (x' := x19) hok hT bk_M_program_152_1_ok rfl ?_
    refine jm_V.callV (av := [.ref 0]) (rest := []) hok (jm_Con.mono (c_M_choices hok hrec x19) (by omega)) (jm_Inv.obj (q := ("FilterReaderModel", T_M, 22)) dd_M_program_153 (Or.inl lk_M_206) mn_M_choices ms_M_choices mw_M_choices mh_M_choices ml_M_choices rfl rfl) mw_M_choices mi_M (Nat.le_of_ble_eq_true rfl) (Nat.le_of_ble_eq_true rfl) (fun x20 => ?_)
    refine jm_V.run (is := bk_M_program_156_1) (pc' := 128) (ls' := [(0, .ref 0), (1, .int v1)]) (st' := []) (x' := x20) hok hT bk_M_program_156_1_ok rfl ?_
    exact hself v1 x20
  · refine jm_V.run (is := bk_M_program_159_4) (pc' := (if (x.1 11) = 6 then 168 else 187)) (ls' := [(0, .ref 0), (1, .int v1)]) (st' := []) (x' := x) hok hT bk_M_program_159_4_ok rfl ?_
    refine jm_V.ite (fun _ => ?_) (fun _ => ?_)
    · refine jm_V.run (is := bk_M_program_168_4) (pc' := 175) (ls' := [(0, .ref 0), (1, .int v1)]) (st' := [.int 16, .ref 4, .int 16, .ref 4]) (x' := x) hok hT bk_M_program_168_4_ok rfl ?_
      refine jm_V.iald dd_M_program_175 ?_
      refine jm_V.run (is := bk_M_program_176_2) (pc' := 178) (ls' := [(0, .ref 0), (1, .int v1)]) (st' := [.int ((x.2.2 4 (Int32.toNatClampNeg 16)) + 1), .int 16, .ref 4]) (x' := x) hok hT bk_M_program_176_2_ok rfl ?_
      refine jm_V.iast hok dd_M_program_178 ?_
      refine jm_V.then_ (fun x21 => ?_)
      refine jm_V.run (is := bk_M_program_179_1) (pc' := 180) (ls' := [(0, .ref 0), (1, .int v1)]) (st' := [.ref 0]) (x' := x21) hok hT bk_M_program_179_1_ok rfl ?_
      refine jm_V.callV (av := [.ref 0]) (rest := []) hok (jm_Con.mono (c_M_scan hok hrec x21) (by omega)) (jm_Inv.obj (q := ("FilterReaderModel", T_M, 22)) dd_M_program_180 (Or.inl lk_M_122) mn_M_scan ms_M_scan mw_M_scan mh_M_scan ml_M_scan rfl rfl) mw_M_scan mi_M (Nat.le_of_ble_eq_true rfl) (Nat.le_of_ble_eq_true rfl) (fun x22 => ?_)
      refine jm_V.run (is := bk_M_program_183_1) (pc' := 184) (ls' := [(0, .ref 0), (1, .int v1)]) (st' := [.ref 0]) (x' := x22) hok hT bk_M_program_183_1_ok rfl ?_
      refine jm_V.callV (av := [.ref 0]) (rest := []) hok (jm_Con.mono (hrec 0 [.ref 0] x22) (by omega)) (jm_Inv.obj (q := ("FilterReaderModel", T_M, 22)) dd_M_program_184 (Or.inl lk_M_125) mn_M_program ms_M_program mw_M_program mh_M_program ml_M_program rfl rfl) mw_M_program mi_M (Nat.le_of_ble_eq_true rfl) (Nat.le_of_ble_eq_true rfl) (fun x23 => ?_)
      exact jj_M_program_187 hok hrec v1 x23
    · exact jj_M_program_187 hok hrec v1 x
theorem jl_M_program_128 {l : Launch} {D : va_G} {ad : Nat → Nat} {aC : Nat → ClassId} {b0 : Nat} {K d0 : Nat} {g : jm_Rec} (hok : jm_Ok (jm_PP l D clR ad aC shR b0 0)) (hrec : ∀ (t : Nat) (av : List Value) (x : jm_X), jm_Con (jm_PP l D clR ad aC shR b0 0) (rcR t) d0 av x (g t av x)) : ∀ (k : Nat) (v1 : Int32) (x : jm_X), jm_V (jm_PP l D clR ad aC shR b0 0) mt_M_program (d0 + 18) 128 [(0, .ref 0), (1, .int v1)] [] x (L_M_program_128 K g k v1 x)
  | 0, _, _ => jm_V.stuck
  | k + 1, v1, x => jb_M_program_128 hok hrec (fun v1 x => jl_M_program_128 hok hrec k v1 x) v1 x
def f_M_program (K : Nat) (g : jm_Rec)  (x : jm_X) : Option jm_R := jm_bV (f_M_enter K g x) (fun x1 => jm_bI (f_M_skip_s K g 2007 x1) (fun b3 x2 => (if b3 = 0 then jm_bI (f_M_skip_s K g 2013 x2) (fun b5 x4 => (if b5 = 0 then jm_bV (f_M_choices K g x4) (fun x6 => L_M_program_128 K g K (x1.1 15) x6) else (if jm_in shR 4 .int 27 then (if jm_in shR 4 .int 27 then jm_then (jm_ua x4 4 27 ((x4.2.2 4 (Int32.toNatClampNeg 27)) + 1)) (fun x7 => (if (x7.1 11) = 3 then jm_bV (f_M_know K g 3 ((x7.1 9) + 1) (((x7.1 10) - (x7.1 9)) - 1) 0 0 x7) (fun x8 => jm_bV (f_M_scan K g x8) (fun x9 => jm_bV (f_M_need_i K g 6 x9) (fun x10 => jm_bV (g 0 [.ref 0] x10) (fun x11 => J_M_program_187 K g (x1.1 15) x11)))) else jm_bA (f_M_bad K g (x7.1 9) x7) (fun b13 x12 => (if b13 = 2 then some (.inr ("java/lang/IllegalStateException", x12)) else none)))) else none) else none))) else (if jm_in shR 4 .int 28 then (if jm_in shR 4 .int 28 then jm_then (jm_ua x2 4 28 ((x2.2.2 4 (Int32.toNatClampNeg 28)) + 1)) (fun x14 => jm_bV (f_M_definition K g x14) (fun x15 => jm_bV (f_M_need_i K g 23 x15) (fun x16 => jm_bV (g 0 [.ref 0] x16) (fun x17 => J_M_program_187 K g (x1.1 15) x17)))) else none) else none))))
set_option maxRecDepth 100000 in
set_option maxHeartbeats 4000000 in
theorem c_M_program {l : Launch} {D : va_G} {ad : Nat → Nat} {aC : Nat → ClassId} {b0 : Nat} {K d0 : Nat} {g : jm_Rec} (hok : jm_Ok (jm_PP l D clR ad aC shR b0 0)) (hrec : ∀ (t : Nat) (av : List Value) (x : jm_X), jm_Con (jm_PP l D clR ad aC shR b0 0) (rcR t) d0 av x (g t av x))  (x : jm_X) : jm_Con (jm_PP l D clR ad aC shR b0 0) mt_M_program (d0 + 18) [.ref 0] x (f_M_program K g  x) := by
  refine jm_Con.of (plainFor_of_name (by decide +kernel)) (Nat.le_of_ble_eq_true rfl) ?_
  have hT := tk_M (l := l) (D := D) (ad := ad) (aC := aC) (b0 := b0)
  unfold f_M_program
  show jm_V _ _ _ 0 [(0, .ref 0)] [] x _
  refine jm_V.run (is := bk_M_program_0_1) (pc' := 1) (ls' := [(0, .ref 0)]) (st' := [.ref 0]) (x' := x) hok hT bk_M_program_0_1_ok rfl ?_
  refine jm_V.callV (av := [.ref 0]) (rest := []) hok (jm_Con.mono (c_M_enter hok hrec x) (by omega)) (jm_Inv.obj (q := ("FilterReaderModel", T_M, 22)) dd_M_program_1 (Or.inl lk_M_193) mn_M_enter ms_M_enter mw_M_enter mh_M_enter ml_M_enter rfl rfl) mw_M_enter mi_M (Nat.le_of_ble_eq_true rfl) (Nat.le_of_ble_eq_true rfl) (fun x1 => ?_)
  refine jm_V.run (is := bk_M_program_4_4) (pc' := 10) (ls' := [(1, .int (x1.1 15)), (0, .ref 0)]) (st' := [.ref 0]) (x' := x1) hok hT bk_M_program_4_4_ok rfl ?_
  refine jm_V.lds (o := 2007) (tx := "def") (cs_str (i := 7) rfl) dd_M_program_10 ?_
  refine jm_V.callI (av := [.ref 0, .ref 2007]) (rest := []) hok (jm_Con.mono (c_M_skip_s hok hrec 2007 x1) (by omega)) (jm_Inv.obj (q := ("FilterReaderModel", T_M, 22)) dd_M_program_12 (Or.inl lk_M_187) mn_M_skip_s ms_M_skip_s mw_M_skip_s mh_M_skip_s ml_M_skip_s rfl rfl) mw_M_skip_s mi_M (Nat.le_of_ble_eq_true rfl) (Nat.le_of_ble_eq_true rfl) (fun b3 x2 => ?_)
  refine jm_V.run (is := bk_M_program_15_1) (pc' := (if b3 = 0 then 46 else 18)) (ls' := [(1, .int (x1.1 15)), (0, .ref 0)]) (st' := []) (x' := x2) hok hT bk_M_program_15_1_ok rfl ?_
  refine jm_V.ite (fun _ => ?_) (fun _ => ?_)
  · refine jm_V.run (is := bk_M_program_46_1) (pc' := 47) (ls' := [(1, .int (x1.1 15)), (0, .ref 0)]) (st' := [.ref 0]) (x' := x2) hok hT bk_M_program_46_1_ok rfl ?_
    refine jm_V.lds (o := 2013) (tx := "label") (cs_str (i := 13) rfl) dd_M_program_47 ?_
    refine jm_V.callI (av := [.ref 0, .ref 2013]) (rest := []) hok (jm_Con.mono (c_M_skip_s hok hrec 2013 x2) (by omega)) (jm_Inv.obj (q := ("FilterReaderModel", T_M, 22)) dd_M_program_49 (Or.inl lk_M_187) mn_M_skip_s ms_M_skip_s mw_M_skip_s mh_M_skip_s ml_M_skip_s rfl rfl) mw_M_skip_s mi_M (Nat.le_of_ble_eq_true rfl) (Nat.le_of_ble_eq_true rfl) (fun b5 x4 => ?_)
    refine jm_V.run (is := bk_M_program_52_1) (pc' := (if b5 = 0 then 124 else 55)) (ls' := [(1, .int (x1.1 15)), (0, .ref 0)]) (st' := []) (x' := x4) hok hT bk_M_program_52_1_ok rfl ?_
    refine jm_V.ite (fun _ => ?_) (fun _ => ?_)
    · refine jm_V.run (is := bk_M_program_124_1) (pc' := 125) (ls' := [(1, .int (x1.1 15)), (0, .ref 0)]) (st' := [.ref 0]) (x' := x4) hok hT bk_M_program_124_1_ok rfl ?_
      refine jm_V.callV (av := [.ref 0]) (rest := []) hok (jm_Con.mono (c_M_choices hok hrec x4) (by omega)) (jm_Inv.obj (q := ("FilterReaderModel", T_M, 22)) dd_M_program_125 (Or.inl lk_M_206) mn_M_choices ms_M_choices mw_M_choices mh_M_choices ml_M_choices rfl rfl) mw_M_choices mi_M (Nat.le_of_ble_eq_true rfl) (Nat.le_of_ble_eq_true rfl) (fun x6 => ?_)
      refine jm_V.sub (ls' := [(0, .ref 0), (1, .int (x1.1 15))]) [1, 0] rfl ?_
      exact jl_M_program_128 hok hrec K (x1.1 15) x6
    · refine jm_V.run (is := bk_M_program_55_4) (pc' := 62) (ls' := [(1, .int (x1.1 15)), (0, .ref 0)]) (st' := [.int 27, .ref 4, .int 27, .ref 4]) (x' := x4) hok hT bk_M_program_55_4_ok rfl ?_
      refine jm_V.iald dd_M_program_62 ?_
      refine jm_V.run (is := bk_M_program_63_2) (pc' := 65) (ls' := [(1, .int (x1.1 15)), (0, .ref 0)]) (st' := [.int ((x4.2.2 4 (Int32.toNatClampNeg 27)) + 1), .int 27, .ref 4]) (x' := x4) hok hT bk_M_program_63_2_ok rfl ?_
      refine jm_V.iast hok dd_M_program_65 ?_
      refine jm_V.then_ (fun x7 => ?_)
      refine jm_V.run (is := bk_M_program_66_4) (pc' := (if (x7.1 11) = 3 then 83 else 74)) (ls' := [(1, .int (x1.1 15)), (0, .ref 0)]) (st' := []) (x' := x7) hok hT bk_M_program_66_4_ok rfl ?_
      refine jm_V.ite (fun _ => ?_) (fun _ => ?_)
      · refine jm_V.run (is := bk_M_program_83_15) (pc' := 104) (ls' := [(1, .int (x1.1 15)), (0, .ref 0)]) (st' := [.int 0, .int 0, .int (((x7.1 10) - (x7.1 9)) - 1), .int ((x7.1 9) + 1), .int 3, .ref 0]) (x' := x7) hok hT bk_M_program_83_15_ok rfl ?_
        refine jm_V.callV (av := [.ref 0, .int 3, .int ((x7.1 9) + 1), .int (((x7.1 10) - (x7.1 9)) - 1), .int 0, .int 0]) (rest := []) hok (jm_Con.mono (c_M_know hok hrec 3 ((x7.1 9) + 1) (((x7.1 10) - (x7.1 9)) - 1) 0 0 x7) (by omega)) (jm_Inv.obj (q := ("FilterReaderModel", T_M, 22)) dd_M_program_104 (Or.inl lk_M_202) mn_M_know ms_M_know mw_M_know mh_M_know ml_M_know rfl rfl) mw_M_know mi_M (Nat.le_of_ble_eq_true rfl) (Nat.le_of_ble_eq_true rfl) (fun x8 => ?_)
        refine jm_V.run (is := bk_M_program_107_1) (pc' := 108) (ls' := [(1, .int (x1.1 15)), (0, .ref 0)]) (st' := [.ref 0]) (x' := x8) hok hT bk_M_program_107_1_ok rfl ?_
        refine jm_V.callV (av := [.ref 0]) (rest := []) hok (jm_Con.mono (c_M_scan hok hrec x8) (by omega)) (jm_Inv.obj (q := ("FilterReaderModel", T_M, 22)) dd_M_program_108 (Or.inl lk_M_122) mn_M_scan ms_M_scan mw_M_scan mh_M_scan ml_M_scan rfl rfl) mw_M_scan mi_M (Nat.le_of_ble_eq_true rfl) (Nat.le_of_ble_eq_true rfl) (fun x9 => ?_)
        refine jm_V.run (is := bk_M_program_111_2) (pc' := 114) (ls' := [(1, .int (x1.1 15)), (0, .ref 0)]) (st' := [.int 6, .ref 0]) (x' := x9) hok hT bk_M_program_111_2_ok rfl ?_
        refine jm_V.callV (av := [.ref 0, .int 6]) (rest := []) hok (jm_Con.mono (c_M_need_i hok hrec 6 x9) (by omega)) (jm_Inv.obj (q := ("FilterReaderModel", T_M, 22)) dd_M_program_114 (Or.inl lk_M_199) mn_M_need_i ms_M_need_i mw_M_need_i mh_M_need_i ml_M_need_i rfl rfl) mw_M_need_i mi_M (Nat.le_of_ble_eq_true rfl) (Nat.le_of_ble_eq_true rfl) (fun x10 => ?_)
        refine jm_V.run (is := bk_M_program_117_1) (pc' := 118) (ls' := [(1, .int (x1.1 15)), (0, .ref 0)]) (st' := [.ref 0]) (x' := x10) hok hT bk_M_program_117_1_ok rfl ?_
        refine jm_V.callV (av := [.ref 0]) (rest := []) hok (jm_Con.mono (hrec 0 [.ref 0] x10) (by omega)) (jm_Inv.obj (q := ("FilterReaderModel", T_M, 22)) dd_M_program_118 (Or.inl lk_M_125) mn_M_program ms_M_program mw_M_program mh_M_program ml_M_program rfl rfl) mw_M_program mi_M (Nat.le_of_ble_eq_true rfl) (Nat.le_of_ble_eq_true rfl) (fun x11 => ?_)
        refine jm_V.run (is := bk_M_program_121_1) (pc' := 187) (ls' := [(1, .int (x1.1 15)), (0, .ref 0)]) (st' := []) (x' := x11) hok hT bk_M_program_121_1_ok rfl ?_
        refine jm_V.sub (ls' := [(0, .ref 0), (1, .int (x1.1 15))]) [1, 0] rfl ?_
        exact jj_M_program_187 hok hrec (x1.1 15) x11
      · refine jm_V.run (is := bk_M_program_74_3) (pc' := 79) (ls' := [(1, .int (x1.1 15)), (0, .ref 0)]) (st' := [.int (x7.1 9), .ref 0]) (x' := x7) hok hT bk_M_program_74_3_ok rfl ?_
        refine jm_V.callA (av := [.ref 0, .int (x7.1 9)]) (rest := []) hok (jm_Con.mono (c_M_bad hok hrec (x7.1 9) x7) (by omega)) (jm_Inv.obj (q := ("FilterReaderModel", T_M, 22)) dd_M_program_79 (Or.inl lk_M_134) mn_M_bad ms_M_bad mw_M_bad mh_M_bad ml_M_bad rfl rfl) mw_M_bad mi_M (Nat.le_of_ble_eq_true rfl) (Nat.le_of_ble_eq_true rfl) (fun b13 x12 => ?_)
        exact jm_V.athrowS (o := 2) (q := ("java/lang/IllegalStateException", T_X, 0)) rfl rfl dd_M_program_82
  · refine jm_V.run (is := bk_M_program_18_4) (pc' := 25) (ls' := [(1, .int (x1.1 15)), (0, .ref 0)]) (st' := [.int 28, .ref 4, .int 28, .ref 4]) (x' := x2) hok hT bk_M_program_18_4_ok rfl ?_
    refine jm_V.iald dd_M_program_25 ?_
    refine jm_V.run (is := bk_M_program_26_2) (pc' := 28) (ls' := [(1, .int (x1.1 15)), (0, .ref 0)]) (st' := [.int ((x2.2.2 4 (Int32.toNatClampNeg 28)) + 1), .int 28, .ref 4]) (x' := x2) hok hT bk_M_program_26_2_ok rfl ?_
    refine jm_V.iast hok dd_M_program_28 ?_
    refine jm_V.then_ (fun x14 => ?_)
    refine jm_V.run (is := bk_M_program_29_1) (pc' := 30) (ls' := [(1, .int (x1.1 15)), (0, .ref 0)]) (st' := [.ref 0]) (x' := x14) hok hT bk_M_program_29_1_ok rfl ?_
    refine jm_V.callV (av := [.ref 0]) (rest := []) hok (jm_Con.mono (c_M_definition hok hrec x14) (by omega)) (jm_Inv.obj (q := ("FilterReaderModel", T_M, 22)) dd_M_program_30 (Or.inl lk_M_196) mn_M_definition ms_M_definition mw_M_definition mh_M_definition ml_M_definition rfl rfl) mw_M_definition mi_M (Nat.le_of_ble_eq_true rfl) (Nat.le_of_ble_eq_true rfl) (fun x15 => ?_)
    refine jm_V.run (is := bk_M_program_33_2) (pc' := 36) (ls' := [(1, .int (x1.1 15)), (0, .ref 0)]) (st' := [.int 23, .ref 0]) (x' := x15) hok hT bk_M_program_33_2_ok rfl ?_
    refine jm_V.callV (av := [.ref 0, .int 23]) (rest := []) hok (jm_Con.mono (c_M_need_i hok hrec 23 x15) (by omega)) (jm_Inv.obj (q := ("FilterReaderModel", T_M, 22)) dd_M_program_36 (Or.inl lk_M_199) mn_M_need_i ms_M_need_i mw_M_need_i mh_M_need_i ml_M_need_i rfl rfl) mw_M_need_i mi_M (Nat.le_of_ble_eq_true rfl) (Nat.le_of_ble_eq_true rfl) (fun x16 => ?_)
    refine jm_V.run (is := bk_M_program_39_1) (pc' := 40) (ls' := [(1, .int (x1.1 15)), (0, .ref 0)]) (st' := [.ref 0]) (x' := x16) hok hT bk_M_program_39_1_ok rfl ?_
    refine jm_V.callV (av := [.ref 0]) (rest := []) hok (jm_Con.mono (hrec 0 [.ref 0] x16) (by omega)) (jm_Inv.obj (q := ("FilterReaderModel", T_M, 22)) dd_M_program_40 (Or.inl lk_M_125) mn_M_program ms_M_program mw_M_program mh_M_program ml_M_program rfl rfl) mw_M_program mi_M (Nat.le_of_ble_eq_true rfl) (Nat.le_of_ble_eq_true rfl) (fun x17 => ?_)
    refine jm_V.run (is := bk_M_program_43_1) (pc' := 187) (ls' := [(1, .int (x1.1 15)), (0, .ref 0)]) (st' := []) (x' := x17) hok hT bk_M_program_43_1_ok rfl ?_
    refine jm_V.sub (ls' := [(0, .ref 0), (1, .int (x1.1 15))]) [1, 0] rfl ?_
    exact jj_M_program_187 hok hrec (x1.1 15) x17
abbrev bk_M_read_0_3 : List (Nat × Instr × Nat) := [(0, .aload_n 0, 1), (1, .iconst 0, 1), (2, .putfield 96, 3)]
theorem bk_M_read_0_3_ok : jm_at mt_M_read.2.1 bk_M_read_0_3 = true := by decide +kernel
abbrev bk_M_read_5_4 : List (Nat × Instr × Nat) := [(5, .aload_n 0, 1), (6, .aload_n 0, 1), (7, .getfield 99, 3), (10, .putfield 110, 3)]
theorem bk_M_read_5_4_ok : jm_at mt_M_read.2.1 bk_M_read_5_4 = true := by decide +kernel
abbrev bk_M_read_13_3 : List (Nat × Instr × Nat) := [(13, .aload_n 0, 1), (14, .iconst 0, 1), (15, .putfield 99, 3)]
theorem bk_M_read_13_3_ok : jm_at mt_M_read.2.1 bk_M_read_13_3 = true := by decide +kernel
abbrev bk_M_read_18_2 : List (Nat × Instr × Nat) := [(18, .iconst 0, 1), (19, .istore_n 1, 1)]
theorem bk_M_read_18_2_ok : jm_at mt_M_read.2.1 bk_M_read_18_2 = true := by decide +kernel
abbrev bk_M_read_20_3 : List (Nat × Instr × Nat) := [(20, .iload_n 1, 1), (21, .bipush 34, 2), (23, .if_icmp .ge 16, 3)]
theorem bk_M_read_20_3_ok : jm_at mt_M_read.2.1 bk_M_read_20_3 = true := by decide +kernel
abbrev bk_M_read_39_3 : List (Nat × Instr × Nat) := [(39, .aload_n 0, 1), (40, .iconst 0, 1), (41, .putfield 113, 3)]
theorem bk_M_read_39_3_ok : jm_at mt_M_read.2.1 bk_M_read_39_3 = true := by decide +kernel
abbrev bk_M_read_44_3 : List (Nat × Instr × Nat) := [(44, .aload_n 0, 1), (45, .iconst 0, 1), (46, .putfield 116, 3)]
theorem bk_M_read_44_3_ok : jm_at mt_M_read.2.1 bk_M_read_44_3 = true := by decide +kernel
abbrev bk_M_read_49_3 : List (Nat × Instr × Nat) := [(49, .aload_n 0, 1), (50, .iconst 0, 1), (51, .putfield 119, 3)]
theorem bk_M_read_49_3_ok : jm_at mt_M_read.2.1 bk_M_read_49_3 = true := by decide +kernel
abbrev bk_M_read_54_3 : List (Nat × Instr × Nat) := [(54, .aload_n 0, 1), (55, .iconst (-1), 1), (56, .putfield 68, 3)]
theorem bk_M_read_54_3_ok : jm_at mt_M_read.2.1 bk_M_read_54_3 = true := by decide +kernel
abbrev bk_M_read_59_1 : List (Nat × Instr × Nat) := [(59, .aload_n 0, 1)]
theorem bk_M_read_59_1_ok : jm_at mt_M_read.2.1 bk_M_read_59_1 = true := by decide +kernel
abbrev bk_M_read_63_1 : List (Nat × Instr × Nat) := [(63, .aload_n 0, 1)]
theorem bk_M_read_63_1_ok : jm_at mt_M_read.2.1 bk_M_read_63_1 = true := by decide +kernel
abbrev bk_M_read_67_3 : List (Nat × Instr × Nat) := [(67, .aload_n 0, 1), (68, .getfield 128, 3), (71, .ifCond .eq 12, 3)]
theorem bk_M_read_67_3_ok : jm_at mt_M_read.2.1 bk_M_read_67_3 = true := by decide +kernel
abbrev bk_M_read_83_5 : List (Nat × Instr × Nat) := [(83, .goto 31, 3), (114, .iconst 0, 1), (115, .istore_n 1, 1), (116, .iconst 0, 1), (117, .istore_n 2, 1)]
theorem bk_M_read_83_5_ok : jm_at mt_M_read.2.1 bk_M_read_83_5 = true := by decide +kernel
abbrev bk_M_read_74_3 : List (Nat × Instr × Nat) := [(74, .aload_n 0, 1), (75, .aload_n 0, 1), (76, .getfield 131, 3)]
theorem bk_M_read_74_3_ok : jm_at mt_M_read.2.1 bk_M_read_74_3 = true := by decide +kernel
abbrev bk_M_read_26_4 : List (Nat × Instr × Nat) := [(26, .aload_n 0, 1), (27, .getfield 76, 3), (30, .iload_n 1, 1), (31, .iconst 0, 1)]
theorem bk_M_read_26_4_ok : jm_at mt_M_read.2.1 bk_M_read_26_4 = true := by decide +kernel
abbrev bk_M_read_33_2 : List (Nat × Instr × Nat) := [(33, .iinc 1 1, 3), (36, .goto (-16), 3)]
theorem bk_M_read_33_2_ok : jm_at mt_M_read.2.1 bk_M_read_33_2 = true := by decide +kernel
abbrev bk_M_read_87_2 : List (Nat × Instr × Nat) := [(87, .iconst 0, 1), (88, .istore_n 2, 1)]
theorem bk_M_read_87_2_ok : jm_at mt_M_read.2.1 bk_M_read_87_2 = true := by decide +kernel
abbrev bk_M_read_89_3 : List (Nat × Instr × Nat) := [(89, .iload_n 2, 1), (90, .bipush 34, 2), (92, .if_icmp .ge 16, 3)]
theorem bk_M_read_89_3_ok : jm_at mt_M_read.2.1 bk_M_read_89_3 = true := by decide +kernel
abbrev bk_M_read_108_2 : List (Nat × Instr × Nat) := [(108, .aload_n 0, 1), (109, .iconst 1, 1)]
theorem bk_M_read_108_2_ok : jm_at mt_M_read.2.1 bk_M_read_108_2 = true := by decide +kernel
abbrev bk_M_read_95_4 : List (Nat × Instr × Nat) := [(95, .aload_n 0, 1), (96, .getfield 76, 3), (99, .iload_n 2, 1), (100, .iconst 0, 1)]
theorem bk_M_read_95_4_ok : jm_at mt_M_read.2.1 bk_M_read_95_4 = true := by decide +kernel
abbrev bk_M_read_102_2 : List (Nat × Instr × Nat) := [(102, .iinc 2 1, 3), (105, .goto (-16), 3)]
theorem bk_M_read_102_2_ok : jm_at mt_M_read.2.1 bk_M_read_102_2 = true := by decide +kernel
abbrev bk_M_read_118_3 : List (Nat × Instr × Nat) := [(118, .iload_n 2, 1), (119, .bipush 34, 2), (121, .if_icmp .ge 18, 3)]
theorem bk_M_read_118_3_ok : jm_at mt_M_read.2.1 bk_M_read_118_3 = true := by decide +kernel
abbrev bk_M_read_139_1 : List (Nat × Instr × Nat) := [(139, .iload_n 1, 1)]
theorem bk_M_read_139_1_ok : jm_at mt_M_read.2.1 bk_M_read_139_1 = true := by decide +kernel
abbrev bk_M_read_124_4 : List (Nat × Instr × Nat) := [(124, .iload_n 1, 1), (125, .aload_n 0, 1), (126, .getfield 76, 3), (129, .iload_n 2, 1)]
theorem bk_M_read_124_4_ok : jm_at mt_M_read.2.1 bk_M_read_124_4 = true := by decide +kernel
abbrev bk_M_read_131_4 : List (Nat × Instr × Nat) := [(131, .iadd, 1), (132, .istore_n 1, 1), (133, .iinc 2 1, 3), (136, .goto (-18), 3)]
theorem bk_M_read_131_4_ok : jm_at mt_M_read.2.1 bk_M_read_131_4 = true := by decide +kernel
theorem dd_M_read_60 : decode mt_M_read.2.1 60 = .ok (.invokevirtual 122, 3) := by decide +kernel
theorem dd_M_read_64 : decode mt_M_read.2.1 64 = .ok (.invokevirtual 125, 3) := by decide +kernel
theorem dd_M_read_79 : decode mt_M_read.2.1 79 = .ok (.invokevirtual 134, 3) := by decide +kernel
theorem dd_M_read_82 : decode mt_M_read.2.1 82 = .ok (.athrow, 1) := by decide +kernel
theorem dd_M_read_32 : decode mt_M_read.2.1 32 = .ok (.iastore, 1) := by decide +kernel
theorem dd_M_read_110 : decode mt_M_read.2.1 110 = .ok (.invokevirtual 102, 3) := by decide +kernel
theorem dd_M_read_113 : decode mt_M_read.2.1 113 = .ok (.ireturn, 1) := by decide +kernel
theorem dd_M_read_101 : decode mt_M_read.2.1 101 = .ok (.iastore, 1) := by decide +kernel
theorem dd_M_read_140 : decode mt_M_read.2.1 140 = .ok (.ireturn, 1) := by decide +kernel
theorem dd_M_read_130 : decode mt_M_read.2.1 130 = .ok (.iaload, 1) := by decide +kernel
def B_M_read_118 (K : Nat) (g : jm_Rec) (self : Int32 → Int32 → jm_X → Option jm_R) (v1 : Int32) (v2 : Int32) (x : jm_X) : Option jm_R := (if 34 ≤ v2 then some (.inl (some (.int v1), x)) else (if jm_in shR 4 .int v2 then self (v1 + (x.2.2 4 (Int32.toNatClampNeg v2))) (v2 + 1) x else none))
def L_M_read_118 (K : Nat) (g : jm_Rec) : Nat → Int32 → Int32 → jm_X → Option jm_R
  | 0, _, _, _ => none
  | k + 1, v1, v2, x => B_M_read_118 K g (L_M_read_118 K g k) v1 v2 x
set_option maxRecDepth 100000 in
set_option maxHeartbeats 4000000 in
theorem jb_M_read_118 {l : Launch} {D : va_G} {ad : Nat → Nat} {aC : Nat → ClassId} {b0 : Nat} {K d0 : Nat} {g : jm_Rec} (hok : jm_Ok (jm_PP l D clR ad aC shR b0 0)) (hrec : ∀ (t : Nat) (av : List Value) (x : jm_X), jm_Con (jm_PP l D clR ad aC shR b0 0) (rcR t) d0 av x (g t av x)) {self : Int32 → Int32 → jm_X → Option jm_R} (hself : ∀ (v1 : Int32) (v2 : Int32) (x : jm_X), jm_V (jm_PP l D clR ad aC shR b0 0) mt_M_read (d0 + 19) 118 [(0, .ref 0), (1, .int v1), (2, .int v2)] [] x (self v1 v2 x)) (v1 : Int32) (v2 : Int32) (x : jm_X) : jm_V (jm_PP l D clR ad aC shR b0 0) mt_M_read (d0 + 19) 118 [(0, .ref 0), (1, .int v1), (2, .int v2)] [] x (B_M_read_118 K g self v1 v2 x) := by
  have hT := tk_M (l := l) (D := D) (ad := ad) (aC := aC) (b0 := b0)
  unfold B_M_read_118
  refine jm_V.run (is := bk_M_read_118_3) (pc' := (if 34 ≤ v2 then 139 else 124)) (ls' := [(0, .ref 0), (1, .int v1), (2, .int v2)]) (st' := []) (x' := x) hok hT bk_M_read_118_3_ok rfl ?_
  refine jm_V.ite (fun _ => ?_) (fun _ => ?_)
  · refine jm_V.run (is := bk_M_read_139_1) (pc' := 140) (ls' := [(0, .ref 0), (1, .int v1), (2, .int v2)]) (st' := [.int v1]) (x' := x) hok hT bk_M_read_139_1_ok rfl ?_
    exact jm_V.iret rfl dd_M_read_140
  · refine jm_V.run (is := bk_M_read_124_4) (pc' := 130) (ls' := [(0, .ref 0), (1, .int v1), (2, .int v2)]) (st' := [.int v2, .ref 4, .int v1]) (x' := x) hok hT bk_M_read_124_4_ok rfl ?_
    refine jm_V.iald dd_M_read_130 ?_
    refine jm_V.run (is := bk_M_read_131_4) (pc' := 118) (ls' := [(2, .int (v2 + 1)), (1, .int (v1 + (x.2.2 4 (Int32.toNatClampNeg v2)))), (0, .ref 0)]) (st' := []) (x' := x) hok hT bk_M_read_131_4_ok rfl ?_
    refine jm_V.sub (ls' := [(0, .ref 0), (1, .int (v1 + (x.2.2 4 (Int32.toNatClampNeg v2)))), (2, .int (v2 + 1))]) [2, 1, 0] rfl ?_
    exact hself (v1 + (x.2.2 4 (Int32.toNatClampNeg v2))) (v2 + 1) x
theorem jl_M_read_118 {l : Launch} {D : va_G} {ad : Nat → Nat} {aC : Nat → ClassId} {b0 : Nat} {K d0 : Nat} {g : jm_Rec} (hok : jm_Ok (jm_PP l D clR ad aC shR b0 0)) (hrec : ∀ (t : Nat) (av : List Value) (x : jm_X), jm_Con (jm_PP l D clR ad aC shR b0 0) (rcR t) d0 av x (g t av x)) : ∀ (k : Nat) (v1 : Int32) (v2 : Int32) (x : jm_X), jm_V (jm_PP l D clR ad aC shR b0 0) mt_M_read (d0 + 19) 118 [(0, .ref 0), (1, .int v1), (2, .int v2)] [] x (L_M_read_118 K g k v1 v2 x)
  | 0, _, _, _ => jm_V.stuck
  | k + 1, v1, v2, x => jb_M_read_118 hok hrec (fun v1 v2 x => jl_M_read_118 hok hrec k v1 v2 x) v1 v2 x
def B_M_read_89 (K : Nat) (g : jm_Rec) (self : Int32 → jm_X → Option jm_R) (v2 : Int32) (x : jm_X) : Option jm_R := (if 34 ≤ v2 then jm_bI (f_M_fail K g 1 x) (fun b17 x16 => some (.inl (some (.int b17), x16))) else (if jm_in shR 4 .int v2 then jm_then (jm_ua x 4 v2 0) (fun x18 => self (v2 + 1) x18) else none))
def L_M_read_89 (K : Nat) (g : jm_Rec) : Nat → Int32 → jm_X → Option jm_R
  | 0, _, _ => none
  | k + 1, v2, x => B_M_read_89 K g (L_M_read_89 K g k) v2 x
set_option maxRecDepth 100000 in
set_option maxHeartbeats 4000000 in
theorem jb_M_read_89 {l : Launch} {D : va_G} {ad : Nat → Nat} {aC : Nat → ClassId} {b0 : Nat} {K d0 : Nat} {g : jm_Rec} (hok : jm_Ok (jm_PP l D clR ad aC shR b0 0)) (hrec : ∀ (t : Nat) (av : List Value) (x : jm_X), jm_Con (jm_PP l D clR ad aC shR b0 0) (rcR t) d0 av x (g t av x)) {self : Int32 → jm_X → Option jm_R} (hself : ∀ (v2 : Int32) (x : jm_X), jm_V (jm_PP l D clR ad aC shR b0 0) mt_M_read (d0 + 19) 89 [(0, .ref 0), (2, .int v2)] [] x (self v2 x)) (v2 : Int32) (x : jm_X) : jm_V (jm_PP l D clR ad aC shR b0 0) mt_M_read (d0 + 19) 89 [(0, .ref 0), (2, .int v2)] [] x (B_M_read_89 K g self v2 x) := by
  have hT := tk_M (l := l) (D := D) (ad := ad) (aC := aC) (b0 := b0)
  unfold B_M_read_89
  refine jm_V.run (is := bk_M_read_89_3) (pc' := (if 34 ≤ v2 then 108 else 95)) (ls' := [(0, .ref 0), (2, .int v2)]) (st' := []) (x' := x) hok hT bk_M_read_89_3_ok rfl ?_
  refine jm_V.ite (fun _ => ?_) (fun _ => ?_)
  · refine jm_V.run (is := bk_M_read_108_2) (pc' := 110) (ls' := [(0, .ref 0), (2, .int v2)]) (st' := [.int 1, .ref 0]) (x' := x) hok hT bk_M_read_108_2_ok rfl ?_
    refine jm_V.callI (av := [.ref 0, .int 1]) (rest := []) hok (jm_Con.mono (c_M_fail hok hrec 1 x) (by omega)) (jm_Inv.obj (q := ("FilterReaderModel", T_M, 22)) dd_M_read_110 (Or.inl lk_M_102) mn_M_fail ms_M_fail mw_M_fail mh_M_fail ml_M_fail rfl rfl) mw_M_fail mi_M (Nat.le_of_ble_eq_true rfl) (Nat.le_of_ble_eq_true rfl) (fun b17 x16 => ?_)
    exact jm_V.iret rfl dd_M_read_113
  · refine jm_V.run (is := bk_M_read_95_4) (pc' := 101) (ls' := [(0, .ref 0), (2, .int v2)]) (st' := [.int 0, .int v2, .ref 4]) (x' := x) hok hT bk_M_read_95_4_ok rfl ?_
    refine jm_V.iast hok dd_M_read_101 ?_
    refine jm_V.then_ (fun x18 => ?_)
    refine jm_V.run (is := bk_M_read_102_2) (pc' := 89) (ls' := [(2, .int (v2 + 1)), (0, .ref 0)]) (st' := []) (x' := x18) hok hT bk_M_read_102_2_ok rfl ?_
    refine jm_V.sub (ls' := [(0, .ref 0), (2, .int (v2 + 1))]) [1, 0] rfl ?_
    exact hself (v2 + 1) x18
theorem jl_M_read_89 {l : Launch} {D : va_G} {ad : Nat → Nat} {aC : Nat → ClassId} {b0 : Nat} {K d0 : Nat} {g : jm_Rec} (hok : jm_Ok (jm_PP l D clR ad aC shR b0 0)) (hrec : ∀ (t : Nat) (av : List Value) (x : jm_X), jm_Con (jm_PP l D clR ad aC shR b0 0) (rcR t) d0 av x (g t av x)) : ∀ (k : Nat) (v2 : Int32) (x : jm_X), jm_V (jm_PP l D clR ad aC shR b0 0) mt_M_read (d0 + 19) 89 [(0, .ref 0), (2, .int v2)] [] x (L_M_read_89 K g k v2 x)
  | 0, _, _ => jm_V.stuck
  | k + 1, v2, x => jb_M_read_89 hok hrec (fun v2 x => jl_M_read_89 hok hrec k v2 x) v2 x
def J_M_read_87 (K : Nat) (g : jm_Rec)  (x : jm_X) : Option jm_R := L_M_read_89 K g K 0 x
set_option maxRecDepth 100000 in
set_option maxHeartbeats 4000000 in
theorem jj_M_read_87 {l : Launch} {D : va_G} {ad : Nat → Nat} {aC : Nat → ClassId} {b0 : Nat} {K d0 : Nat} {g : jm_Rec} (hok : jm_Ok (jm_PP l D clR ad aC shR b0 0)) (hrec : ∀ (t : Nat) (av : List Value) (x : jm_X), jm_Con (jm_PP l D clR ad aC shR b0 0) (rcR t) d0 av x (g t av x))  (x : jm_X) : jm_V (jm_PP l D clR ad aC shR b0 0) mt_M_read (d0 + 19) 87 [(0, .ref 0)] [] x (J_M_read_87 K g  x) := by
  have hT := tk_M (l := l) (D := D) (ad := ad) (aC := aC) (b0 := b0)
  unfold J_M_read_87
  refine jm_V.run (is := bk_M_read_87_2) (pc' := 89) (ls' := [(2, .int 0), (0, .ref 0)]) (st' := []) (x' := x) hok hT bk_M_read_87_2_ok rfl ?_
  refine jm_V.sub (ls' := [(0, .ref 0), (2, .int 0)]) [1, 0] rfl ?_
  exact jl_M_read_89 hok hrec K 0 x
def B_M_read_20 (K : Nat) (g : jm_Rec) (self : Int32 → jm_X → Option jm_R) (v1 : Int32) (x : jm_X) : Option jm_R := (if 34 ≤ v1 then jm_then (va_up x.1 15 0, x.2) (fun x4 => jm_then (va_up x4.1 12 0, x4.2) (fun x5 => jm_then (va_up x5.1 10 0, x5.2) (fun x6 => jm_then (va_up x6.1 7 (-1), x6.2) (fun x7 => jm_bC (f_M_scan K g x7) "java/lang/IllegalStateException" (fun v x8 => jm_oV v (jm_bC (f_M_program K g x8) "java/lang/IllegalStateException" (fun v x10 => jm_oV v ((if (x10.1 11) = 0 then L_M_read_118 K g K 0 0 x10 else jm_bC (f_M_bad K g (x10.1 9) x10) "java/lang/IllegalStateException" (fun v x12 => jm_oA v (fun b14 => (if b14 = 2 then J_M_read_87 K g x12 else none))) (fun x13 => J_M_read_87 K g x13)))) (fun x11 => J_M_read_87 K g x11))) (fun x9 => J_M_read_87 K g x9))))) else (if jm_in shR 4 .int v1 then jm_then (jm_ua x 4 v1 0) (fun x15 => self (v1 + 1) x15) else none))
def L_M_read_20 (K : Nat) (g : jm_Rec) : Nat → Int32 → jm_X → Option jm_R
  | 0, _, _ => none
  | k + 1, v1, x => B_M_read_20 K g (L_M_read_20 K g k) v1 x
set_option maxRecDepth 100000 in
set_option maxHeartbeats 4000000 in
theorem jb_M_read_20 {l : Launch} {D : va_G} {ad : Nat → Nat} {aC : Nat → ClassId} {b0 : Nat} {K d0 : Nat} {g : jm_Rec} (hok : jm_Ok (jm_PP l D clR ad aC shR b0 0)) (hrec : ∀ (t : Nat) (av : List Value) (x : jm_X), jm_Con (jm_PP l D clR ad aC shR b0 0) (rcR t) d0 av x (g t av x)) {self : Int32 → jm_X → Option jm_R} (hself : ∀ (v1 : Int32) (x : jm_X), jm_V (jm_PP l D clR ad aC shR b0 0) mt_M_read (d0 + 19) 20 [(0, .ref 0), (1, .int v1)] [] x (self v1 x)) (v1 : Int32) (x : jm_X) : jm_V (jm_PP l D clR ad aC shR b0 0) mt_M_read (d0 + 19) 20 [(0, .ref 0), (1, .int v1)] [] x (B_M_read_20 K g self v1 x) := by
  have hT := tk_M (l := l) (D := D) (ad := ad) (aC := aC) (b0 := b0)
  unfold B_M_read_20
  refine jm_V.run (is := bk_M_read_20_3) (pc' := (if 34 ≤ v1 then 39 else 26)) (ls' := [(0, .ref 0), (1, .int v1)]) (st' := []) (x' := x) hok hT bk_M_read_20_3_ok rfl ?_
  refine jm_V.ite (fun _ => ?_) (fun _ => ?_)
  · refine jm_V.run (is := bk_M_read_39_3) (pc' := 44) (ls' := [(0, .ref 0), (1, .int v1)]) (st' := []) (x' := (va_up x.1 15 0, x.2)) hok hT bk_M_read_39_3_ok rfl ?_
    refine jm_V.then_ (fun x4 => ?_)
    refine jm_V.run (is := bk_M_read_44_3) (pc' := 49) (ls' := [(0, .ref 0), (1, .int v1)]) (st' := []) (x' := (va_up x4.1 12 0, x4.2)) hok hT bk_M_read_44_3_ok rfl ?_
    refine jm_V.then_ (fun x5 => ?_)
    refine jm_V.run (is := bk_M_read_49_3) (pc' := 54) (ls' := [(0, .ref 0), (1, .int v1)]) (st' := []) (x' := (va_up x5.1 10 0, x5.2)) hok hT bk_M_read_49_3_ok rfl ?_
    refine jm_V.then_ (fun x6 => ?_)
    refine jm_V.run (is := bk_M_read_54_3) (pc' := 59) (ls' := [(0, .ref 0), (1, .int v1)]) (st' := []) (x' := (va_up x6.1 7 (-1), x6.2)) hok hT bk_M_read_54_3_ok rfl ?_
    refine jm_V.then_ (fun x7 => ?_)
    refine jm_V.run (is := bk_M_read_59_1) (pc' := 60) (ls' := [(0, .ref 0), (1, .int v1)]) (st' := [.ref 0]) (x' := x7) hok hT bk_M_read_59_1_ok rfl ?_
    refine jm_V.callC (av := [.ref 0]) (rest := []) hok rfl (jm_Con.mono (c_M_scan hok hrec x7) (by omega)) (jm_Inv.obj (q := ("FilterReaderModel", T_M, 22)) dd_M_read_60 (Or.inl lk_M_122) mn_M_scan ms_M_scan mw_M_scan mh_M_scan ml_M_scan rfl rfl) mw_M_scan mi_M (Nat.le_of_ble_eq_true rfl) (Nat.le_of_ble_eq_true rfl) rfl (by decide) (by decide) rc_l rc_c (Or.inl ⟨1, rc_d, rfl, rfl⟩) (by decide) rfl (fun v x8 => ?_) (fun x9 => ?_)
    · refine jm_V.oV ?_
      refine jm_V.run (is := bk_M_read_63_1) (pc' := 64) (ls' := [(0, .ref 0), (1, .int v1)]) (st' := [.ref 0]) (x' := x8) hok hT bk_M_read_63_1_ok rfl ?_
      refine jm_V.callC (av := [.ref 0]) (rest := []) hok rfl (jm_Con.mono (c_M_program hok hrec x8) (by omega)) (jm_Inv.obj (q := ("FilterReaderModel", T_M, 22)) dd_M_read_64 (Or.inl lk_M_125) mn_M_program ms_M_program mw_M_program mh_M_program ml_M_program rfl rfl) mw_M_program mi_M (Nat.le_of_ble_eq_true rfl) (Nat.le_of_ble_eq_true rfl) rfl (by decide) (by decide) rc_l rc_c (Or.inl ⟨1, rc_d, rfl, rfl⟩) (by decide) rfl (fun v x10 => ?_) (fun x11 => ?_)
      · refine jm_V.oV ?_
        refine jm_V.run (is := bk_M_read_67_3) (pc' := (if (x10.1 11) = 0 then 83 else 74)) (ls' := [(0, .ref 0), (1, .int v1)]) (st' := []) (x' := x10) hok hT bk_M_read_67_3_ok rfl ?_
        refine jm_V.ite (fun _ => ?_) (fun _ => ?_)
        · refine jm_V.run (is := bk_M_read_83_5) (pc' := 118) (ls' := [(2, .int 0), (1, .int 0), (0, .ref 0)]) (st' := []) (x' := x10) hok hT bk_M_read_83_5_ok rfl ?_
          refine jm_V.sub (ls' := [(0, .ref 0), (1, .int 0), (2, .int 0)]) [2, 1, 0] rfl ?_
          exact jl_M_read_118 hok hrec K 0 0 x10
        · refine jm_V.run (is := bk_M_read_74_3) (pc' := 79) (ls' := [(0, .ref 0), (1, .int v1)]) (st' := [.int (x10.1 9), .ref 0]) (x' := x10) hok hT bk_M_read_74_3_ok rfl ?_
          refine jm_V.callC (av := [.ref 0, .int (x10.1 9)]) (rest := []) hok rfl (jm_Con.mono (c_M_bad hok hrec (x10.1 9) x10) (by omega)) (jm_Inv.obj (q := ("FilterReaderModel", T_M, 22)) dd_M_read_79 (Or.inl lk_M_134) mn_M_bad ms_M_bad mw_M_bad mh_M_bad ml_M_bad rfl rfl) mw_M_bad mi_M (Nat.le_of_ble_eq_true rfl) (Nat.le_of_ble_eq_true rfl) rfl (by decide) (by decide) rc_l rc_c (Or.inl ⟨1, rc_d, rfl, rfl⟩) (by decide) rfl (fun v x12 => ?_) (fun x13 => ?_)
          · refine jm_V.oA (fun b14 => ?_)
            refine jm_V.iteS (fun hb => ?_)
            subst hb
            refine jm_V.athrowC (qc := ("java/lang/IllegalStateException", T_X, 0)) rfl rfl dd_M_read_82 rfl (by decide) (by decide) rc_l rc_c (Or.inl ⟨1, rc_d, rfl, rfl⟩) (by decide) rfl ?_
            exact jj_M_read_87 hok hrec x12
          · exact jj_M_read_87 hok hrec x13
      · exact jj_M_read_87 hok hrec x11
    · exact jj_M_read_87 hok hrec x9
  · refine jm_V.run (is := bk_M_read_26_4) (pc' := 32) (ls' := [(0, .ref 0), (1, .int v1)]) (st' := [.int 0, .int v1, .ref 4]) (x' := x) hok hT bk_M_read_26_4_ok rfl ?_
    refine jm_V.iast hok dd_M_read_32 ?_
    refine jm_V.then_ (fun x15 => ?_)
    refine jm_V.run (is := bk_M_read_33_2) (pc' := 20) (ls' := [(1, .int (v1 + 1)), (0, .ref 0)]) (st' := []) (x' := x15) hok hT bk_M_read_33_2_ok rfl ?_
    refine jm_V.sub (ls' := [(0, .ref 0), (1, .int (v1 + 1))]) [1, 0] rfl ?_
    exact hself (v1 + 1) x15
theorem jl_M_read_20 {l : Launch} {D : va_G} {ad : Nat → Nat} {aC : Nat → ClassId} {b0 : Nat} {K d0 : Nat} {g : jm_Rec} (hok : jm_Ok (jm_PP l D clR ad aC shR b0 0)) (hrec : ∀ (t : Nat) (av : List Value) (x : jm_X), jm_Con (jm_PP l D clR ad aC shR b0 0) (rcR t) d0 av x (g t av x)) : ∀ (k : Nat) (v1 : Int32) (x : jm_X), jm_V (jm_PP l D clR ad aC shR b0 0) mt_M_read (d0 + 19) 20 [(0, .ref 0), (1, .int v1)] [] x (L_M_read_20 K g k v1 x)
  | 0, _, _ => jm_V.stuck
  | k + 1, v1, x => jb_M_read_20 hok hrec (fun v1 x => jl_M_read_20 hok hrec k v1 x) v1 x
def f_M_read (K : Nat) (g : jm_Rec)  (x : jm_X) : Option jm_R := jm_then (va_up x.1 5 0, x.2) (fun x1 => jm_then (va_up x1.1 8 (x1.1 6), x1.2) (fun x2 => jm_then (va_up x2.1 6 0, x2.2) (fun x3 => L_M_read_20 K g K 0 x3)))
set_option maxRecDepth 100000 in
set_option maxHeartbeats 4000000 in
theorem c_M_read {l : Launch} {D : va_G} {ad : Nat → Nat} {aC : Nat → ClassId} {b0 : Nat} {K d0 : Nat} {g : jm_Rec} (hok : jm_Ok (jm_PP l D clR ad aC shR b0 0)) (hrec : ∀ (t : Nat) (av : List Value) (x : jm_X), jm_Con (jm_PP l D clR ad aC shR b0 0) (rcR t) d0 av x (g t av x))  (x : jm_X) : jm_Con (jm_PP l D clR ad aC shR b0 0) mt_M_read (d0 + 19) [.ref 0] x (f_M_read K g  x) := by
  refine jm_Con.of (plainFor_of_name (by decide +kernel)) (Nat.le_of_ble_eq_true rfl) ?_
  have hT := tk_M (l := l) (D := D) (ad := ad) (aC := aC) (b0 := b0)
  unfold f_M_read
  show jm_V _ _ _ 0 [(0, .ref 0)] [] x _
  refine jm_V.run (is := bk_M_read_0_3) (pc' := 5) (ls' := [(0, .ref 0)]) (st' := []) (x' := (va_up x.1 5 0, x.2)) hok hT bk_M_read_0_3_ok rfl ?_
  refine jm_V.then_ (fun x1 => ?_)
  refine jm_V.run (is := bk_M_read_5_4) (pc' := 13) (ls' := [(0, .ref 0)]) (st' := []) (x' := (va_up x1.1 8 (x1.1 6), x1.2)) hok hT bk_M_read_5_4_ok rfl ?_
  refine jm_V.then_ (fun x2 => ?_)
  refine jm_V.run (is := bk_M_read_13_3) (pc' := 18) (ls' := [(0, .ref 0)]) (st' := []) (x' := (va_up x2.1 6 0, x2.2)) hok hT bk_M_read_13_3_ok rfl ?_
  refine jm_V.then_ (fun x3 => ?_)
  refine jm_V.run (is := bk_M_read_18_2) (pc' := 20) (ls' := [(1, .int 0), (0, .ref 0)]) (st' := []) (x' := x3) hok hT bk_M_read_18_2_ok rfl ?_
  refine jm_V.sub (ls' := [(0, .ref 0), (1, .int 0)]) [1, 0] rfl ?_
  exact jl_M_read_20 hok hrec K 0 x3

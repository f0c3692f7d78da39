/-! THE REFERENCE: methods. Printed by wip/whole/printR.py. -/
abbrev bk_M_kindOf_0_5 : List (Nat × Instr × Nat) := [(0, .aload_n 0, 1), (1, .getfield 113, 3), (4, .iconst 1, 1), (5, .isub, 1), (6, .istore 4, 2)]
theorem bk_M_kindOf_0_5_ok : jm_at mt_M_kindOf.2.1 bk_M_kindOf_0_5 = true := by decide +kernel
abbrev bk_M_kindOf_8_2 : List (Nat × Instr × Nat) := [(8, .iload 4, 2), (10, .ifCond .lt 70, 3)]
theorem bk_M_kindOf_8_2_ok : jm_at mt_M_kindOf.2.1 bk_M_kindOf_8_2 = true := by decide +kernel
abbrev bk_M_kindOf_80_2 : List (Nat × Instr × Nat) := [(80, .iload_n 3, 1), (81, .ifCond .ne 8, 3)]
theorem bk_M_kindOf_80_2_ok : jm_at mt_M_kindOf.2.1 bk_M_kindOf_80_2 = true := by decide +kernel
abbrev bk_M_kindOf_86_1 : List (Nat × Instr × Nat) := [(86, .goto 26, 3)]
theorem bk_M_kindOf_86_1_ok : jm_at mt_M_kindOf.2.1 bk_M_kindOf_86_1 = true := by decide +kernel
abbrev bk_M_kindOf_89_3 : List (Nat × Instr × Nat) := [(89, .iload_n 3, 1), (90, .iconst 1, 1), (91, .if_icmp .ne 8, 3)]
theorem bk_M_kindOf_89_3_ok : jm_at mt_M_kindOf.2.1 bk_M_kindOf_89_3 = true := by decide +kernel
abbrev bk_M_kindOf_96_1 : List (Nat × Instr × Nat) := [(96, .goto 16, 3)]
theorem bk_M_kindOf_96_1_ok : jm_at mt_M_kindOf.2.1 bk_M_kindOf_96_1 = true := by decide +kernel
abbrev bk_M_kindOf_99_3 : List (Nat × Instr × Nat) := [(99, .iload_n 3, 1), (100, .iconst 2, 1), (101, .if_icmp .ne 8, 3)]
theorem bk_M_kindOf_99_3_ok : jm_at mt_M_kindOf.2.1 bk_M_kindOf_99_3 = true := by decide +kernel
abbrev bk_M_kindOf_106_1 : List (Nat × Instr × Nat) := [(106, .goto 6, 3)]
theorem bk_M_kindOf_106_1_ok : jm_at mt_M_kindOf.2.1 bk_M_kindOf_106_1 = true := by decide +kernel
abbrev bk_M_kindOf_13_3 : List (Nat × Instr × Nat) := [(13, .aload_n 0, 1), (14, .getfield 80, 3), (17, .iload 4, 2)]
theorem bk_M_kindOf_13_3_ok : jm_at mt_M_kindOf.2.1 bk_M_kindOf_13_3 = true := by decide +kernel
abbrev bk_M_kindOf_20_2 : List (Nat × Instr × Nat) := [(20, .iconst 1, 1), (21, .if_icmp .gt 53, 3)]
theorem bk_M_kindOf_20_2_ok : jm_at mt_M_kindOf.2.1 bk_M_kindOf_20_2 = true := by decide +kernel
abbrev bk_M_kindOf_24_3 : List (Nat × Instr × Nat) := [(24, .aload_n 0, 1), (25, .getfield 92, 3), (28, .iload 4, 2)]
theorem bk_M_kindOf_24_3_ok : jm_at mt_M_kindOf.2.1 bk_M_kindOf_24_3 = true := by decide +kernel
abbrev bk_M_kindOf_31_1 : List (Nat × Instr × Nat) := [(31, .ifCond .ne 43, 3)]
theorem bk_M_kindOf_31_1_ok : jm_at mt_M_kindOf.2.1 bk_M_kindOf_31_1 = true := by decide +kernel
abbrev bk_M_kindOf_34_3 : List (Nat × Instr × Nat) := [(34, .aload_n 0, 1), (35, .getfield 89, 3), (38, .iload 4, 2)]
theorem bk_M_kindOf_34_3_ok : jm_at mt_M_kindOf.2.1 bk_M_kindOf_34_3 = true := by decide +kernel
abbrev bk_M_kindOf_41_2 : List (Nat × Instr × Nat) := [(41, .iload_n 3, 1), (42, .if_icmp .ne 32, 3)]
theorem bk_M_kindOf_41_2_ok : jm_at mt_M_kindOf.2.1 bk_M_kindOf_41_2 = true := by decide +kernel
abbrev bk_M_kindOf_45_4 : List (Nat × Instr × Nat) := [(45, .aload_n 0, 1), (46, .iload 4, 2), (48, .iload_n 1, 1), (49, .iload_n 2, 1)]
theorem bk_M_kindOf_45_4_ok : jm_at mt_M_kindOf.2.1 bk_M_kindOf_45_4 = true := by decide +kernel
abbrev bk_M_kindOf_53_1 : List (Nat × Instr × Nat) := [(53, .ifCond .eq 21, 3)]
theorem bk_M_kindOf_53_1_ok : jm_at mt_M_kindOf.2.1 bk_M_kindOf_53_1 = true := by decide +kernel
abbrev bk_M_kindOf_56_3 : List (Nat × Instr × Nat) := [(56, .aload_n 0, 1), (57, .getfield 80, 3), (60, .iload 4, 2)]
theorem bk_M_kindOf_56_3_ok : jm_at mt_M_kindOf.2.1 bk_M_kindOf_56_3 = true := by decide +kernel
abbrev bk_M_kindOf_63_1 : List (Nat × Instr × Nat) := [(63, .ifCond .ne 8, 3)]
theorem bk_M_kindOf_63_1_ok : jm_at mt_M_kindOf.2.1 bk_M_kindOf_63_1 = true := by decide +kernel
abbrev bk_M_kindOf_66_2 : List (Nat × Instr × Nat) := [(66, .bipush 12, 2), (68, .goto 5, 3)]
theorem bk_M_kindOf_66_2_ok : jm_at mt_M_kindOf.2.1 bk_M_kindOf_66_2 = true := by decide +kernel
abbrev bk_M_kindOf_71_1 : List (Nat × Instr × Nat) := [(71, .bipush 13, 2)]
theorem bk_M_kindOf_71_1_ok : jm_at mt_M_kindOf.2.1 bk_M_kindOf_71_1 = true := by decide +kernel
abbrev bk_M_kindOf_74_2 : List (Nat × Instr × Nat) := [(74, .iinc 4 (-1), 3), (77, .goto (-69), 3)]
theorem bk_M_kindOf_74_2_ok : jm_at mt_M_kindOf.2.1 bk_M_kindOf_74_2 = true := by decide +kernel
abbrev bk_M_kindOf_112_3 : List (Nat × Instr × Nat) := [(112, .astore 4, 2), (114, .iconst 0, 1), (115, .istore 5, 2)]
theorem bk_M_kindOf_112_3_ok : jm_at mt_M_kindOf.2.1 bk_M_kindOf_112_3 = true := by decide +kernel
abbrev bk_M_kindOf_117_6 : List (Nat × Instr × Nat) := [(117, .iload 5, 2), (119, .iload_n 2, 1), (120, .iadd, 1), (121, .iconst 2, 1), (122, .iadd, 1), (123, .aload 4, 2)]
theorem bk_M_kindOf_117_6_ok : jm_at mt_M_kindOf.2.1 bk_M_kindOf_117_6 = true := by decide +kernel
abbrev bk_M_kindOf_128_1 : List (Nat × Instr × Nat) := [(128, .if_icmp .gt 103, 3)]
theorem bk_M_kindOf_128_1_ok : jm_at mt_M_kindOf.2.1 bk_M_kindOf_128_1 = true := by decide +kernel
abbrev bk_M_kindOf_231_2 : List (Nat × Instr × Nat) := [(231, .aload_n 0, 1), (232, .iload_n 1, 1)]
theorem bk_M_kindOf_231_2_ok : jm_at mt_M_kindOf.2.1 bk_M_kindOf_231_2 = true := by decide +kernel
abbrev bk_M_kindOf_131_2 : List (Nat × Instr × Nat) := [(131, .aload 4, 2), (133, .iload 5, 2)]
theorem bk_M_kindOf_131_2_ok : jm_at mt_M_kindOf.2.1 bk_M_kindOf_131_2 = true := by decide +kernel
abbrev bk_M_kindOf_138_2 : List (Nat × Instr × Nat) := [(138, .bipush 32, 2), (140, .if_icmp .ne 23, 3)]
theorem bk_M_kindOf_138_2_ok : jm_at mt_M_kindOf.2.1 bk_M_kindOf_138_2 = true := by decide +kernel
abbrev bk_M_kindOf_143_6 : List (Nat × Instr × Nat) := [(143, .aload 4, 2), (145, .iload 5, 2), (147, .iload_n 2, 1), (148, .iadd, 1), (149, .iconst 1, 1), (150, .iadd, 1)]
theorem bk_M_kindOf_143_6_ok : jm_at mt_M_kindOf.2.1 bk_M_kindOf_143_6 = true := by decide +kernel
abbrev bk_M_kindOf_154_2 : List (Nat × Instr × Nat) := [(154, .bipush 32, 2), (156, .if_icmp .ne 7, 3)]
theorem bk_M_kindOf_154_2_ok : jm_at mt_M_kindOf.2.1 bk_M_kindOf_154_2 = true := by decide +kernel
abbrev bk_M_kindOf_159_2 : List (Nat × Instr × Nat) := [(159, .iconst 1, 1), (160, .goto 4, 3)]
theorem bk_M_kindOf_159_2_ok : jm_at mt_M_kindOf.2.1 bk_M_kindOf_159_2 = true := by decide +kernel
abbrev bk_M_kindOf_163_1 : List (Nat × Instr × Nat) := [(163, .iconst 0, 1)]
theorem bk_M_kindOf_163_1_ok : jm_at mt_M_kindOf.2.1 bk_M_kindOf_163_1 = true := by decide +kernel
abbrev bk_M_kindOf_164_3 : List (Nat × Instr × Nat) := [(164, .istore 6, 2), (166, .iconst 0, 1), (167, .istore 7, 2)]
theorem bk_M_kindOf_164_3_ok : jm_at mt_M_kindOf.2.1 bk_M_kindOf_164_3 = true := by decide +kernel
abbrev bk_M_kindOf_169_3 : List (Nat × Instr × Nat) := [(169, .iload 7, 2), (171, .iload_n 2, 1), (172, .if_icmp .ge 45, 3)]
theorem bk_M_kindOf_169_3_ok : jm_at mt_M_kindOf.2.1 bk_M_kindOf_169_3 = true := by decide +kernel
abbrev bk_M_kindOf_175_2 : List (Nat × Instr × Nat) := [(175, .iload 6, 2), (177, .ifCond .eq 40, 3)]
theorem bk_M_kindOf_175_2_ok : jm_at mt_M_kindOf.2.1 bk_M_kindOf_175_2 = true := by decide +kernel
abbrev bk_M_kindOf_180_6 : List (Nat × Instr × Nat) := [(180, .aload 4, 2), (182, .iload 5, 2), (184, .iconst 1, 1), (185, .iadd, 1), (186, .iload 7, 2), (188, .iadd, 1)]
theorem bk_M_kindOf_180_6_ok : jm_at mt_M_kindOf.2.1 bk_M_kindOf_180_6 = true := by decide +kernel
abbrev bk_M_kindOf_192_5 : List (Nat × Instr × Nat) := [(192, .aload_n 0, 1), (193, .getfield 72, 3), (196, .iload_n 1, 1), (197, .iload 7, 2), (199, .iadd, 1)]
theorem bk_M_kindOf_192_5_ok : jm_at mt_M_kindOf.2.1 bk_M_kindOf_192_5 = true := by decide +kernel
abbrev bk_M_kindOf_201_1 : List (Nat × Instr × Nat) := [(201, .if_icmp .ne 7, 3)]
theorem bk_M_kindOf_201_1_ok : jm_at mt_M_kindOf.2.1 bk_M_kindOf_201_1 = true := by decide +kernel
abbrev bk_M_kindOf_204_2 : List (Nat × Instr × Nat) := [(204, .iconst 1, 1), (205, .goto 4, 3)]
theorem bk_M_kindOf_204_2_ok : jm_at mt_M_kindOf.2.1 bk_M_kindOf_204_2 = true := by decide +kernel
abbrev bk_M_kindOf_208_1 : List (Nat × Instr × Nat) := [(208, .iconst 0, 1)]
theorem bk_M_kindOf_208_1_ok : jm_at mt_M_kindOf.2.1 bk_M_kindOf_208_1 = true := by decide +kernel
abbrev bk_M_kindOf_209_3 : List (Nat × Instr × Nat) := [(209, .istore 6, 2), (211, .iinc 7 1, 3), (214, .goto (-45), 3)]
theorem bk_M_kindOf_209_3_ok : jm_at mt_M_kindOf.2.1 bk_M_kindOf_209_3 = true := by decide +kernel
abbrev bk_M_kindOf_217_2 : List (Nat × Instr × Nat) := [(217, .iload 6, 2), (219, .ifCond .eq 6, 3)]
theorem bk_M_kindOf_217_2_ok : jm_at mt_M_kindOf.2.1 bk_M_kindOf_217_2 = true := by decide +kernel
abbrev bk_M_kindOf_225_2 : List (Nat × Instr × Nat) := [(225, .iinc 5 1, 3), (228, .goto (-111), 3)]
theorem bk_M_kindOf_225_2_ok : jm_at mt_M_kindOf.2.1 bk_M_kindOf_225_2 = true := by decide +kernel
abbrev bk_M_kindOf_222_1 : List (Nat × Instr × Nat) := [(222, .bipush 14, 2)]
theorem bk_M_kindOf_222_1_ok : jm_at mt_M_kindOf.2.1 bk_M_kindOf_222_1 = true := by decide +kernel
theorem dd_M_kindOf_84 : decode mt_M_kindOf.2.1 84 = .ok (.ldc 45, 2) := by decide +kernel
theorem dd_M_kindOf_94 : decode mt_M_kindOf.2.1 94 = .ok (.ldc 51, 2) := by decide +kernel
theorem dd_M_kindOf_104 : decode mt_M_kindOf.2.1 104 = .ok (.ldc 56, 2) := by decide +kernel
theorem dd_M_kindOf_109 : decode mt_M_kindOf.2.1 109 = .ok (.ldc_w 276, 3) := by decide +kernel
theorem dd_M_kindOf_50 : decode mt_M_kindOf.2.1 50 = .ok (.invokevirtual 189, 3) := by decide +kernel
theorem dd_M_kindOf_62 : decode mt_M_kindOf.2.1 62 = .ok (.iaload, 1) := by decide +kernel
theorem dd_M_kindOf_40 : decode mt_M_kindOf.2.1 40 = .ok (.iaload, 1) := by decide +kernel
theorem dd_M_kindOf_30 : decode mt_M_kindOf.2.1 30 = .ok (.baload, 1) := by decide +kernel
theorem dd_M_kindOf_19 : decode mt_M_kindOf.2.1 19 = .ok (.iaload, 1) := by decide +kernel
theorem dd_M_kindOf_73 : decode mt_M_kindOf.2.1 73 = .ok (.ireturn, 1) := by decide +kernel
theorem dd_M_kindOf_125 : decode mt_M_kindOf.2.1 125 = .ok (.invokevirtual 168, 3) := by decide +kernel
theorem dd_M_kindOf_233 : decode mt_M_kindOf.2.1 233 = .ok (.invokevirtual 134, 3) := by decide +kernel
theorem dd_M_kindOf_236 : decode mt_M_kindOf.2.1 236 = .ok (.athrow, 1) := by decide +kernel
theorem dd_M_kindOf_135 : decode mt_M_kindOf.2.1 135 = .ok (.invokevirtual 172, 3) := by decide +kernel
theorem dd_M_kindOf_151 : decode mt_M_kindOf.2.1 151 = .ok (.invokevirtual 172, 3) := by decide +kernel
theorem dd_M_kindOf_189 : decode mt_M_kindOf.2.1 189 = .ok (.invokevirtual 172, 3) := by decide +kernel
theorem dd_M_kindOf_200 : decode mt_M_kindOf.2.1 200 = .ok (.baload, 1) := by decide +kernel
theorem dd_M_kindOf_224 : decode mt_M_kindOf.2.1 224 = .ok (.ireturn, 1) := by decide +kernel
def J_M_kindOf_217 (K : Nat) (g : jm_Rec) (k117 : Int32 → Int32 → Nat → Int32 → jm_X → Option jm_R) (v1 : Int32) (v2 : Int32) (v4 : Nat) (v5 : Int32) (v6 : Int32) (x : jm_X) : Option jm_R := (if v6 = 0 then k117 v1 v2 v4 (v5 + 1) x else some (.inl (some (.int 14), x)))
set_option maxRecDepth 100000 in
set_option maxHeartbeats 4000000 in
theorem jj_M_kindOf_217 {l : Launch} {D : va_G} {ad : Nat → Nat} {aC : Nat → ClassId} {b0 : Nat} {K d0 : Nat} {g : jm_Rec} (hok : jm_Ok (jm_PP l D clR ad aC shR b0 0)) (hrec : ∀ (t : Nat) (av : List Value) (x : jm_X), jm_Con (jm_PP l D clR ad aC shR b0 0) (rcR t) d0 av x (g t av x)) {k117 : Int32 → Int32 → Nat → Int32 → jm_X → Option jm_R} (hk117 : ∀ (v1 : Int32) (v2 : Int32) (v4 : Nat) (v5 : Int32) (x : jm_X), jm_V (jm_PP l D clR ad aC shR b0 0) mt_M_kindOf (d0 + 5) 117 [(0, .ref 0), (1, .int v1), (2, .int v2), (4, .ref v4), (5, .int v5)] [] x (k117 v1 v2 v4 v5 x)) (v1 : Int32) (v2 : Int32) (v4 : Nat) (v5 : Int32) (v6 : Int32) (x : jm_X) : jm_V (jm_PP l D clR ad aC shR b0 0) mt_M_kindOf (d0 + 5) 217 [(0, .ref 0), (1, .int v1), (2, .int v2), (4, .ref v4), (5, .int v5), (6, .int v6)] [] x (J_M_kindOf_217 K g k117 v1 v2 v4 v5 v6 x) := by
  have hT := tk_M (l := l) (D := D) (ad := ad) (aC := aC) (b0 := b0)
  unfold J_M_kindOf_217
  refine jm_V.run (is := bk_M_kindOf_217_2) (pc' := (if v6 = 0 then 225 else 222)) (ls' := [(0, .ref 0), (1, .int v1), (2, .int v2), (4, .ref v4), (5, .int v5), (6, .int v6)]) (st' := []) (x' := x) hok hT bk_M_kindOf_217_2_ok rfl ?_
  refine jm_V.ite (fun _ => ?_) (fun _ => ?_)
  · refine jm_V.run (is := bk_M_kindOf_225_2) (pc' := 117) (ls' := [(5, .int (v5 + 1)), (0, .ref 0), (1, .int v1), (2, .int v2), (4, .ref v4), (6, .int v6)]) (st' := []) (x' := x) hok hT bk_M_kindOf_225_2_ok rfl ?_
    refine jm_V.sub (ls' := [(0, .ref 0), (1, .int v1), (2, .int v2), (4, .ref v4), (5, .int (v5 + 1))]) [1, 2, 3, 4, 0] rfl ?_
    exact hk117 v1 v2 v4 (v5 + 1) x
  · refine jm_V.run (is := bk_M_kindOf_222_1) (pc' := 224) (ls' := [(0, .ref 0), (1, .int v1), (2, .int v2), (4, .ref v4), (5, .int v5), (6, .int v6)]) (st' := [.int 14]) (x' := x) hok hT bk_M_kindOf_222_1_ok rfl ?_
    exact jm_V.iret rfl dd_M_kindOf_224
def J_M_kindOf_209 (K : Nat) (g : jm_Rec) (k117 : Int32 → Int32 → Nat → Int32 → jm_X → Option jm_R) (k169 : Int32 → Int32 → Nat → Int32 → Int32 → Int32 → jm_X → Option jm_R) (v1 : Int32) (v2 : Int32) (v4 : Nat) (v5 : Int32) (v7 : Int32) (s0 : Int32) (x : jm_X) : Option jm_R := k169 v1 v2 v4 v5 s0 (v7 + 1) x
set_option maxRecDepth 100000 in
set_option maxHeartbeats 4000000 in
theorem jj_M_kindOf_209 {l : Launch} {D : va_G} {ad : Nat → Nat} {aC : Nat → ClassId} {b0 : Nat} {K d0 : Nat} {g : jm_Rec} (hok : jm_Ok (jm_PP l D clR ad aC shR b0 0)) (hrec : ∀ (t : Nat) (av : List Value) (x : jm_X), jm_Con (jm_PP l D clR ad aC shR b0 0) (rcR t) d0 av x (g t av x)) {k117 : Int32 → Int32 → Nat → Int32 → jm_X → Option jm_R} (hk117 : ∀ (v1 : Int32) (v2 : Int32) (v4 : Nat) (v5 : Int32) (x : jm_X), jm_V (jm_PP l D clR ad aC shR b0 0) mt_M_kindOf (d0 + 5) 117 [(0, .ref 0), (1, .int v1), (2, .int v2), (4, .ref v4), (5, .int v5)] [] x (k117 v1 v2 v4 v5 x)) {k169 : Int32 → Int32 → Nat → Int32 → Int32 → Int32 → jm_X → Option jm_R} (hk169 : ∀ (v1 : Int32) (v2 : Int32) (v4 : Nat) (v5 : Int32) (v6 : Int32) (v7 : Int32) (x : jm_X), jm_V (jm_PP l D clR ad aC shR b0 0) mt_M_kindOf (d0 + 5) 169 [(0, .ref 0), (1, .int v1), (2, .int v2), (4, .ref v4), (5, .int v5), (6, .int v6), (7, .int v7)] [] x (k169 v1 v2 v4 v5 v6 v7 x)) (v1 : Int32) (v2 : Int32) (v4 : Nat) (v5 : Int32) (v7 : Int32) (s0 : Int32) (x : jm_X) : jm_V (jm_PP l D clR ad aC shR b0 0) mt_M_kindOf (d0 + 5) 209 [(0, .ref 0), (1, .int v1), (2, .int v2), (4, .ref v4), (5, .int v5), (7, .int v7)] [.int s0] x (J_M_kindOf_209 K g k117 k169 v1 v2 v4 v5 v7 s0 x) := by
  have hT := tk_M (l := l) (D := D) (ad := ad) (aC := aC) (b0 := b0)
  unfold J_M_kindOf_209
  refine jm_V.run (is := bk_M_kindOf_209_3) (pc' := 169) (ls' := [(7, .int (v7 + 1)), (6, .int s0), (0, .ref 0), (1, .int v1), (2, .int v2), (4, .ref v4), (5, .int v5)]) (st' := []) (x' := x) hok hT bk_M_kindOf_209_3_ok rfl ?_
  refine jm_V.sub (ls' := [(0, .ref 0), (1, .int v1), (2, .int v2), (4, .ref v4), (5, .int v5), (6, .int s0), (7, .int (v7 + 1))]) [2, 3, 4, 5, 6, 1, 0] rfl ?_
  exact hk169 v1 v2 v4 v5 s0 (v7 + 1) x
def B_M_kindOf_169 (K : Nat) (g : jm_Rec) (k117 : Int32 → Int32 → Nat → Int32 → jm_X → Option jm_R) (self : Int32 → Int32 → Nat → Int32 → Int32 → Int32 → jm_X → Option jm_R) (v1 : Int32) (v2 : Int32) (v4 : Nat) (v5 : Int32) (v6 : Int32) (v7 : Int32) (x : jm_X) : Option jm_R := (if v2 ≤ v7 then J_M_kindOf_217 K g k117 v1 v2 v4 v5 v6 x else (if v6 = 0 then J_M_kindOf_217 K g k117 v1 v2 v4 v5 v6 x else (if jm_cn 2000 73 v4 then jm_bI (f_JS_charAt K g v4 ((v5 + 1) + v7) x) (fun b12 x11 => (if jm_in shR 3 .byte (v1 + v7) then (if b12 = (x11.2.2 3 (Int32.toNatClampNeg (v1 + v7))) then J_M_kindOf_209 K g k117 self v1 v2 v4 v5 v7 1 x11 else J_M_kindOf_209 K g k117 self v1 v2 v4 v5 v7 0 x11) else none)) else none)))
def L_M_kindOf_169 (K : Nat) (g : jm_Rec) (k117 : Int32 → Int32 → Nat → Int32 → jm_X → Option jm_R) : Nat → Int32 → Int32 → Nat → Int32 → Int32 → Int32 → jm_X → Option jm_R
  | 0, _, _, _, _, _, _, _ => none
  | k + 1, v1, v2, v4, v5, v6, v7, x => B_M_kindOf_169 K g k117 (L_M_kindOf_169 K g k117 k) v1 v2 v4 v5 v6 v7 x
set_option maxRecDepth 100000 in
set_option maxHeartbeats 4000000 in
theorem jb_M_kindOf_169 {l : Launch} {D : va_G} {ad : Nat → Nat} {aC : Nat → ClassId} {b0 : Nat} {K d0 : Nat} {g : jm_Rec} (hok : jm_Ok (jm_PP l D clR ad aC shR b0 0)) (hrec : ∀ (t : Nat) (av : List Value) (x : jm_X), jm_Con (jm_PP l D clR ad aC shR b0 0) (rcR t) d0 av x (g t av x)) {k117 : Int32 → Int32 → Nat → Int32 → jm_X → Option jm_R} (hk117 : ∀ (v1 : Int32) (v2 : Int32) (v4 : Nat) (v5 : Int32) (x : jm_X), jm_V (jm_PP l D clR ad aC shR b0 0) mt_M_kindOf (d0 + 5) 117 [(0, .ref 0), (1, .int v1), (2, .int v2), (4, .ref v4), (5, .int v5)] [] x (k117 v1 v2 v4 v5 x)) {self : Int32 → Int32 → Nat → Int32 → Int32 → Int32 → jm_X → Option jm_R} (hself : ∀ (v1 : Int32) (v2 : Int32) (v4 : Nat) (v5 : Int32) (v6 : Int32) (v7 : Int32) (x : jm_X), jm_V (jm_PP l D clR ad aC shR b0 0) mt_M_kindOf (d0 + 5) 169 [(0, .ref 0), (1, .int v1), (2, .int v2), (4, .ref v4), (5, .int v5), (6, .int v6), (7, .int v7)] [] x (self v1 v2 v4 v5 v6 v7 x)) (v1 : Int32) (v2 : Int32) (v4 : Nat) (v5 : Int32) (v6 : Int32) (v7 : Int32) (x : jm_X) : jm_V (jm_PP l D clR ad aC shR b0 0) mt_M_kindOf (d0 + 5) 169 [(0, .ref 0), (1, .int v1), (2, .int v2), (4, .ref v4), (5, .int v5), (6, .int v6), (7, .int v7)] [] x (B_M_kindOf_169 K g k117 self v1 v2 v4 v5 v6 v7 x) := by
  have hT := tk_M (l := l) (D := D) (ad := ad) (aC := aC) (b0 := b0)
  unfold B_M_kindOf_169
  refine jm_V.run (is := bk_M_kindOf_169_3) (pc' := (if v2 ≤ v7 then 217 else 175)) (ls' := [(0, .ref 0), (1, .int v1), (2, .int v2), (4, .ref v4), (5, .int v5), (6, .int v6), (7, .int v7)]) (st' := []) (x' := x) hok hT bk_M_kindOf_169_3_ok rfl ?_
  refine jm_V.ite (fun _ => ?_) (fun _ => ?_)
  · refine jm_V.sub (ls' := [(0, .ref 0), (1, .int v1), (2, .int v2), (4, .ref v4), (5, .int v5), (6, .int v6)]) [0, 1, 2, 3, 4, 5] rfl ?_
    exact jj_M_kindOf_217 hok hrec hk117 v1 v2 v4 v5 v6 x
  · refine jm_V.run (is := bk_M_kindOf_175_2) (pc' := (if v6 = 0 then 217 else 180)) (ls' := [(0, .ref 0), (1, .int v1), (2, .int v2), (4, .ref v4), (5, .int v5), (6, .int v6), (7, .int v7)]) (st' := []) (x' := x) hok hT bk_M_kindOf_175_2_ok rfl ?_
    refine jm_V.ite (fun _ => ?_) (fun _ => ?_)
    · refine jm_V.sub (ls' := [(0, .ref 0), (1, .int v1), (2, .int v2), (4, .ref v4), (5, .int v5), (6, .int v6)]) [0, 1, 2, 3, 4, 5] rfl ?_
      exact jj_M_kindOf_217 hok hrec hk117 v1 v2 v4 v5 v6 x
    · refine jm_V.run (is := bk_M_kindOf_180_6) (pc' := 189) (ls' := [(0, .ref 0), (1, .int v1), (2, .int v2), (4, .ref v4), (5, .int v5), (6, .int v6), (7, .int v7)]) (st' := [.int ((v5 + 1) + v7), .ref v4]) (x' := x) hok hT bk_M_kindOf_180_6_ok rfl ?_
      refine jm_V.guard (fun hg => ?_)
      refine jm_V.callI (av := [.ref v4, .int ((v5 + 1) + v7)]) (rest := []) hok (jm_Con.mono (c_JS_charAt (d0 := d0) hok hrec v4 ((v5 + 1) + v7) x) (by omega)) (iv_str hok hg dd_M_kindOf_189 lk_M_172 mn_JS_charAt ms_JS_charAt mw_JS_charAt mh_JS_charAt ml_JS_charAt) mw_JS_charAt mi_JS (Nat.le_of_ble_eq_true rfl) (Nat.le_of_ble_eq_true rfl) (fun b12 x11 => ?_)
      refine jm_V.run (is := bk_M_kindOf_192_5) (pc' := 200) (ls' := [(0, .ref 0), (1, .int v1), (2, .int v2), (4, .ref v4), (5, .int v5), (6, .int v6), (7, .int v7)]) (st' := [.int (v1 + v7), .ref 3, .int b12]) (x' := x11) hok hT bk_M_kindOf_192_5_ok rfl ?_
      refine jm_V.bald dd_M_kindOf_200 ?_
      refine jm_V.run (is := bk_M_kindOf_201_1) (pc' := (if b12 = (x11.2.2 3 (Int32.toNatClampNeg (v1 + v7))) then 204 else 208)) (ls' := [(0, .ref 0), (1, .int v1), (2, .int v2), (4, .ref v4), (5, .int v5), (6, .int v6), (7, .int v7)]) (st' := []) (x' := x11) hok hT bk_M_kindOf_201_1_ok rfl ?_
      refine jm_V.ite (fun _ => ?_) (fun _ => ?_)
      · refine jm_V.run (is := bk_M_kindOf_204_2) (pc' := 209) (ls' := [(0, .ref 0), (1, .int v1), (2, .int v2), (4, .ref v4), (5, .int v5), (6, .int v6), (7, .int v7)]) (st' := [.int 1]) (x' := x11) hok hT bk_M_kindOf_204_2_ok rfl ?_
        refine jm_V.sub (ls' := [(0, .ref 0), (1, .int v1), (2, .int v2), (4, .ref v4), (5, .int v5), (7, .int v7)]) [0, 1, 2, 3, 4, 6] rfl ?_
        exact jj_M_kindOf_209 hok hrec hk117 hself v1 v2 v4 v5 v7 1 x11
      · refine jm_V.run (is := bk_M_kindOf_208_1) (pc' := 209) (ls' := [(0, .ref 0), (1, .int v1), (2, .int v2), (4, .ref v4), (5, .int v5), (6, .int v6), (7, .int v7)]) (st' := [.int 0]) (x' := x11) hok hT bk_M_kindOf_208_1_ok rfl ?_
        refine jm_V.sub (ls' := [(0, .ref 0), (1, .int v1), (2, .int v2), (4, .ref v4), (5, .int v5), (7, .int v7)]) [0, 1, 2, 3, 4, 6] rfl ?_
        exact jj_M_kindOf_209 hok hrec hk117 hself v1 v2 v4 v5 v7 0 x11
theorem jl_M_kindOf_169 {l : Launch} {D : va_G} {ad : Nat → Nat} {aC : Nat → ClassId} {b0 : Nat} {K d0 : Nat} {g : jm_Rec} (hok : jm_Ok (jm_PP l D clR ad aC shR b0 0)) (hrec : ∀ (t : Nat) (av : List Value) (x : jm_X), jm_Con (jm_PP l D clR ad aC shR b0 0) (rcR t) d0 av x (g t av x)) {k117 : Int32 → Int32 → Nat → Int32 → jm_X → Option jm_R} (hk117 : ∀ (v1 : Int32) (v2 : Int32) (v4 : Nat) (v5 : Int32) (x : jm_X), jm_V (jm_PP l D clR ad aC shR b0 0) mt_M_kindOf (d0 + 5) 117 [(0, .ref 0), (1, .int v1), (2, .int v2), (4, .ref v4), (5, .int v5)] [] x (k117 v1 v2 v4 v5 x)) : ∀ (k : Nat) (v1 : Int32) (v2 : Int32) (v4 : Nat) (v5 : Int32) (v6 : Int32) (v7 : Int32) (x : jm_X), jm_V (jm_PP l D clR ad aC shR b0 0) mt_M_kindOf (d0 + 5) 169 [(0, .ref 0), (1, .int v1), (2, .int v2), (4, .ref v4), (5, .int v5), (6, .int v6), (7, .int v7)] [] x (L_M_kindOf_169 K g k117 k v1 v2 v4 v5 v6 v7 x)
  | 0, _, _, _, _, _, _, _ => jm_V.stuck
  | k + 1, v1, v2, v4, v5, v6, v7, x => jb_M_kindOf_169 hok hrec hk117 (fun v1 v2 v4 v5 v6 v7 x => jl_M_kindOf_169 hok hrec hk117 k v1 v2 v4 v5 v6 v7 x) v1 v2 v4 v5 v6 v7 x
def J_M_kindOf_164 (K : Nat) (g : jm_Rec) (k117 : Int32 → Int32 → Nat → Int32 → jm_X → Option jm_R) (v1 : Int32) (v2 : Int32) (v4 : Nat) (v5 : Int32) (s0 : Int32) (x : jm_X) : Option jm_R := L_M_kindOf_169 K g k117 K v1 v2 v4 v5 s0 0 x
set_option maxRecDepth 100000 in
set_option maxHeartbeats 4000000 in
theorem jj_M_kindOf_164 {l : Launch} {D : va_G} {ad : Nat → Nat} {aC : Nat → ClassId} {b0 : Nat} {K d0 : Nat} {g : jm_Rec} (hok : jm_Ok (jm_PP l D clR ad aC shR b0 0)) (hrec : ∀ (t : Nat) (av : List Value) (x : jm_X), jm_Con (jm_PP l D clR ad aC shR b0 0) (rcR t) d0 av x (g t av x)) {k117 : Int32 → Int32 → Nat → Int32 → jm_X → Option jm_R} (hk117 : ∀ (v1 : Int32) (v2 : Int32) (v4 : Nat) (v5 : Int32) (x : jm_X), jm_V (jm_PP l D clR ad aC shR b0 0) mt_M_kindOf (d0 + 5) 117 [(0, .ref 0), (1, .int v1), (2, .int v2), (4, .ref v4), (5, .int v5)] [] x (k117 v1 v2 v4 v5 x)) (v1 : Int32) (v2 : Int32) (v4 : Nat) (v5 : Int32) (s0 : Int32) (x : jm_X) : jm_V (jm_PP l D clR ad aC shR b0 0) mt_M_kindOf (d0 + 5) 164 [(0, .ref 0), (1, .int v1), (2, .int v2), (4, .ref v4), (5, .int v5)] [.int s0] x (J_M_kindOf_164 K g k117 v1 v2 v4 v5 s0 x) := by
  have hT := tk_M (l := l) (D := D) (ad := ad) (aC := aC) (b0 := b0)
  unfold J_M_kindOf_164
  refine jm_V.run (is := bk_M_kindOf_164_3) (pc' := 169) (ls' := [(7, .int 0), (6, .int s0), (0, .ref 0), (1, .int v1), (2, .int v2), (4, .ref v4), (5, .int v5)]) (st' := []) (x' := x) hok hT bk_M_kindOf_164_3_ok rfl ?_
  refine jm_V.sub (ls' := [(0, .ref 0), (1, .int v1), (2, .int v2), (4, .ref v4), (5, .int v5), (6, .int s0), (7, .int 0)]) [2, 3, 4, 5, 6, 1, 0] rfl ?_
  exact jl_M_kindOf_169 hok hrec hk117 K v1 v2 v4 v5 s0 0 x
def J_M_kindOf_163 (K : Nat) (g : jm_Rec) (k117 : Int32 → Int32 → Nat → Int32 → jm_X → Option jm_R) (v1 : Int32) (v2 : Int32) (v4 : Nat) (v5 : Int32) (x : jm_X) : Option jm_R := J_M_kindOf_164 K g k117 v1 v2 v4 v5 0 x
set_option maxRecDepth 100000 in
set_option maxHeartbeats 4000000 in
theorem jj_M_kindOf_163 {l : Launch} {D : va_G} {ad : Nat → Nat} {aC : Nat → ClassId} {b0 : Nat} {K d0 : Nat} {g : jm_Rec} (hok : jm_Ok (jm_PP l D clR ad aC shR b0 0)) (hrec : ∀ (t : Nat) (av : List Value) (x : jm_X), jm_Con (jm_PP l D clR ad aC shR b0 0) (rcR t) d0 av x (g t av x)) {k117 : Int32 → Int32 → Nat → Int32 → jm_X → Option jm_R} (hk117 : ∀ (v1 : Int32) (v2 : Int32) (v4 : Nat) (v5 : Int32) (x : jm_X), jm_V (jm_PP l D clR ad aC shR b0 0) mt_M_kindOf (d0 + 5) 117 [(0, .ref 0), (1, .int v1), (2, .int v2), (4, .ref v4), (5, .int v5)] [] x (k117 v1 v2 v4 v5 x)) (v1 : Int32) (v2 : Int32) (v4 : Nat) (v5 : Int32) (x : jm_X) : jm_V (jm_PP l D clR ad aC shR b0 0) mt_M_kindOf (d0 + 5) 163 [(0, .ref 0), (1, .int v1), (2, .int v2), (4, .ref v4), (5, .int v5)] [] x (J_M_kindOf_163 K g k117 v1 v2 v4 v5 x) := by
  have hT := tk_M (l := l) (D := D) (ad := ad) (aC := aC) (b0 := b0)
  unfold J_M_kindOf_163
  refine jm_V.run (is := bk_M_kindOf_163_1) (pc' := 164) (ls' := [(0, .ref 0), (1, .int v1), (2, .int v2), (4, .ref v4), (5, .int v5)]) (st' := [.int 0]) (x' := x) hok hT bk_M_kindOf_163_1_ok rfl ?_
  exact jj_M_kindOf_164 hok hrec hk117 v1 v2 v4 v5 0 x
def B_M_kindOf_117 (K : Nat) (g : jm_Rec) (self : Int32 → Int32 → Nat → Int32 → jm_X → Option jm_R) (v1 : Int32) (v2 : Int32) (v4 : Nat) (v5 : Int32) (x : jm_X) : Option jm_R := (if jm_cn 2000 73 v4 then jm_bI (f_JS_length K g v4 x) (fun b4 x3 => (if b4 < ((v5 + v2) + 2) then jm_bA (f_M_bad K g v1 x3) (fun b6 x5 => (if b6 = 2 then some (.inr ("java/lang/IllegalStateException", x5)) else none)) else (if jm_cn 2000 73 v4 then jm_bI (f_JS_charAt K g v4 v5 x3) (fun b8 x7 => (if b8 = 32 then (if jm_cn 2000 73 v4 then jm_bI (f_JS_charAt K g v4 ((v5 + v2) + 1) x7) (fun b10 x9 => (if b10 = 32 then J_M_kindOf_164 K g self v1 v2 v4 v5 1 x9 else J_M_kindOf_163 K g self v1 v2 v4 v5 x9)) else none) else J_M_kindOf_163 K g self v1 v2 v4 v5 x7)) else none))) else none)
def L_M_kindOf_117 (K : Nat) (g : jm_Rec) : Nat → Int32 → Int32 → Nat → Int32 → jm_X → Option jm_R
  | 0, _, _, _, _, _ => none
  | k + 1, v1, v2, v4, v5, x => B_M_kindOf_117 K g (L_M_kindOf_117 K g k) v1 v2 v4 v5 x
set_option maxRecDepth 100000 in
set_option maxHeartbeats 4000000 in
theorem jb_M_kindOf_117 {l : Launch} {D : va_G} {ad : Nat → Nat} {aC : Nat → ClassId} {b0 : Nat} {K d0 : Nat} {g : jm_Rec} (hok : jm_Ok (jm_PP l D clR ad aC shR b0 0)) (hrec : ∀ (t : Nat) (av : List Value) (x : jm_X), jm_Con (jm_PP l D clR ad aC shR b0 0) (rcR t) d0 av x (g t av x)) {self : Int32 → Int32 → Nat → Int32 → jm_X → Option jm_R} (hself : ∀ (v1 : Int32) (v2 : Int32) (v4 : Nat) (v5 : Int32) (x : jm_X), jm_V (jm_PP l D clR ad aC shR b0 0) mt_M_kindOf (d0 + 5) 117 [(0, .ref 0), (1, .int v1), (2, .int v2), (4, .ref v4), (5, .int v5)] [] x (self v1 v2 v4 v5 x)) (v1 : Int32) (v2 : Int32) (v4 : Nat) (v5 : Int32) (x : jm_X) : jm_V (jm_PP l D clR ad aC shR b0 0) mt_M_kindOf (d0 + 5) 117 [(0, .ref 0), (1, .int v1), (2, .int v2), (4, .ref v4), (5, .int v5)] [] x (B_M_kindOf_117 K g self v1 v2 v4 v5 x) := by
  have hT := tk_M (l := l) (D := D) (ad := ad) (aC := aC) (b0 := b0)
  unfold B_M_kindOf_117
  refine jm_V.run (is := bk_M_kindOf_117_6) (pc' := 125) (ls' := [(0, .ref 0), (1, .int v1), (2, .int v2), (4, .ref v4), (5, .int v5)]) (st' := [.ref v4, .int ((v5 + v2) + 2)]) (x' := x) hok hT bk_M_kindOf_117_6_ok rfl ?_
  refine jm_V.guard (fun hg => ?_)
  refine jm_V.callI (av := [.ref v4]) (rest := [.int ((v5 + v2) + 2)]) hok (jm_Con.mono (c_JS_length (d0 := d0) hok hrec v4 x) (by omega)) (iv_str hok hg dd_M_kindOf_125 lk_M_168 mn_JS_length ms_JS_length mw_JS_length mh_JS_length ml_JS_length) mw_JS_length mi_JS (Nat.le_of_ble_eq_true rfl) (Nat.le_of_ble_eq_true rfl) (fun b4 x3 => ?_)
  refine jm_V.run (is := bk_M_kindOf_128_1) (pc' := (if b4 < ((v5 + v2) + 2) then 231 else 131)) (ls' := [(0, .ref 0), (1, .int v1), (2, .int v2), (4, .ref v4), (5, .int v5)]) (st' := []) (x' := x3) hok hT bk_M_kindOf_128_1_ok rfl ?_
  refine jm_V.ite (fun _ => ?_) (fun _ => ?_)
  · refine jm_V.run (is := bk_M_kindOf_231_2) (pc' := 233) (ls' := [(0, .ref 0), (1, .int v1), (2, .int v2), (4, .ref v4), (5, .int v5)]) (st' := [.int v1, .ref 0]) (x' := x3) hok hT bk_M_kindOf_231_2_ok rfl ?_
    refine jm_V.callA (av := [.ref 0, .int v1]) (rest := []) hok (jm_Con.mono (c_M_bad hok hrec v1 x3) (by omega)) (jm_Inv.obj (q := ("FilterReaderModel", T_M, 22)) dd_M_kindOf_233 (Or.inl lk_M_134) mn_M_bad ms_M_bad mw_M_bad mh_M_bad ml_M_bad rfl rfl) mw_M_bad mi_M (Nat.le_of_ble_eq_true rfl) (Nat.le_of_ble_eq_true rfl) (fun b6 x5 => ?_)
    exact jm_V.athrowS (o := 2) (q := ("java/lang/IllegalStateException", T_X, 0)) rfl rfl dd_M_kindOf_236
  · refine jm_V.run (is := bk_M_kindOf_131_2) (pc' := 135) (ls' := [(0, .ref 0), (1, .int v1), (2, .int v2), (4, .ref v4), (5, .int v5)]) (st' := [.int v5, .ref v4]) (x' := x3) hok hT bk_M_kindOf_131_2_ok rfl ?_
    refine jm_V.guard (fun hg => ?_)
    refine jm_V.callI (av := [.ref v4, .int v5]) (rest := []) hok (jm_Con.mono (c_JS_charAt (d0 := d0) hok hrec v4 v5 x3) (by omega)) (iv_str hok hg dd_M_kindOf_135 lk_M_172 mn_JS_charAt ms_JS_charAt mw_JS_charAt mh_JS_charAt ml_JS_charAt) mw_JS_charAt mi_JS (Nat.le_of_ble_eq_true rfl) (Nat.le_of_ble_eq_true rfl) (fun b8 x7 => ?_)
    refine jm_V.run (is := bk_M_kindOf_138_2) (pc' := (if b8 = 32 then 143 else 163)) (ls' := [(0, .ref 0), (1, .int v1), (2, .int v2), (4, .ref v4), (5, .int v5)]) (st' := []) (x' := x7) hok hT bk_M_kindOf_138_2_ok rfl ?_
    refine jm_V.ite (fun _ => ?_) (fun _ => ?_)
    · refine jm_V.run (is := bk_M_kindOf_143_6) (pc' := 151) (ls' := [(0, .ref 0), (1, .int v1), (2, .int v2), (4, .ref v4), (5, .int v5)]) (st' := [.int ((v5 + v2) + 1), .ref v4]) (x' := x7) hok hT bk_M_kindOf_143_6_ok rfl ?_
      refine jm_V.guard (fun hg => ?_)
      refine jm_V.callI (av := [.ref v4, .int ((v5 + v2) + 1)]) (rest := []) hok (jm_Con.mono (c_JS_charAt (d0 := d0) hok hrec v4 ((v5 + v2) + 1) x7) (by omega)) (iv_str hok hg dd_M_kindOf_151 lk_M_172 mn_JS_charAt ms_JS_charAt mw_JS_charAt mh_JS_charAt ml_JS_charAt) mw_JS_charAt mi_JS (Nat.le_of_ble_eq_true rfl) (Nat.le_of_ble_eq_true rfl) (fun b10 x9 => ?_)
      refine jm_V.run (is := bk_M_kindOf_154_2) (pc' := (if b10 = 32 then 159 else 163)) (ls' := [(0, .ref 0), (1, .int v1), (2, .int v2), (4, .ref v4), (5, .int v5)]) (st' := []) (x' := x9) hok hT bk_M_kindOf_154_2_ok rfl ?_
      refine jm_V.ite (fun _ => ?_) (fun _ => ?_)
      · refine jm_V.run (is := bk_M_kindOf_159_2) (pc' := 164) (ls' := [(0, .ref 0), (1, .int v1), (2, .int v2), (4, .ref v4), (5, .int v5)]) (st' := [.int 1]) (x' := x9) hok hT bk_M_kindOf_159_2_ok rfl ?_
        exact jj_M_kindOf_164 hok hrec hself v1 v2 v4 v5 1 x9
      · exact jj_M_kindOf_163 hok hrec hself v1 v2 v4 v5 x9
    · exact jj_M_kindOf_163 hok hrec hself v1 v2 v4 v5 x7
theorem jl_M_kindOf_117 {l : Launch} {D : va_G} {ad : Nat → Nat} {aC : Nat → ClassId} {b0 : Nat} {K d0 : Nat} {g : jm_Rec} (hok : jm_Ok (jm_PP l D clR ad aC shR b0 0)) (hrec : ∀ (t : Nat) (av : List Value) (x : jm_X), jm_Con (jm_PP l D clR ad aC shR b0 0) (rcR t) d0 av x (g t av x)) : ∀ (k : Nat) (v1 : Int32) (v2 : Int32) (v4 : Nat) (v5 : Int32) (x : jm_X), jm_V (jm_PP l D clR ad aC shR b0 0) mt_M_kindOf (d0 + 5) 117 [(0, .ref 0), (1, .int v1), (2, .int v2), (4, .ref v4), (5, .int v5)] [] x (L_M_kindOf_117 K g k v1 v2 v4 v5 x)
  | 0, _, _, _, _, _ => jm_V.stuck
  | k + 1, v1, v2, v4, v5, x => jb_M_kindOf_117 hok hrec (fun v1 v2 v4 v5 x => jl_M_kindOf_117 hok hrec k v1 v2 v4 v5 x) v1 v2 v4 v5 x
def J_M_kindOf_112 (K : Nat) (g : jm_Rec) (v1 : Int32) (v2 : Int32) (s0 : Nat) (x : jm_X) : Option jm_R := L_M_kindOf_117 K g K v1 v2 s0 0 x
set_option maxRecDepth 100000 in
set_option maxHeartbeats 4000000 in
theorem jj_M_kindOf_112 {l : Launch} {D : va_G} {ad : Nat → Nat} {aC : Nat → ClassId} {b0 : Nat} {K d0 : Nat} {g : jm_Rec} (hok : jm_Ok (jm_PP l D clR ad aC shR b0 0)) (hrec : ∀ (t : Nat) (av : List Value) (x : jm_X), jm_Con (jm_PP l D clR ad aC shR b0 0) (rcR t) d0 av x (g t av x)) (v1 : Int32) (v2 : Int32) (s0 : Nat) (x : jm_X) : jm_V (jm_PP l D clR ad aC shR b0 0) mt_M_kindOf (d0 + 5) 112 [(0, .ref 0), (1, .int v1), (2, .int v2)] [.ref s0] x (J_M_kindOf_112 K g v1 v2 s0 x) := by
  have hT := tk_M (l := l) (D := D) (ad := ad) (aC := aC) (b0 := b0)
  unfold J_M_kindOf_112
  refine jm_V.run (is := bk_M_kindOf_112_3) (pc' := 117) (ls' := [(5, .int 0), (4, .ref s0), (0, .ref 0), (1, .int v1), (2, .int v2)]) (st' := []) (x' := x) hok hT bk_M_kindOf_112_3_ok rfl ?_
  refine jm_V.sub (ls' := [(0, .ref 0), (1, .int v1), (2, .int v2), (4, .ref s0), (5, .int 0)]) [2, 3, 4, 1, 0] rfl ?_
  exact jl_M_kindOf_117 hok hrec K v1 v2 s0 0 x
def J_M_kindOf_73 (K : Nat) (g : jm_Rec) (s0 : Int32) (x : jm_X) : Option jm_R := some (.inl (some (.int s0), x))
set_option maxRecDepth 100000 in
set_option maxHeartbeats 4000000 in
theorem jj_M_kindOf_73 {l : Launch} {D : va_G} {ad : Nat → Nat} {aC : Nat → ClassId} {b0 : Nat} {K d0 : Nat} {g : jm_Rec} (hok : jm_Ok (jm_PP l D clR ad aC shR b0 0)) (hrec : ∀ (t : Nat) (av : List Value) (x : jm_X), jm_Con (jm_PP l D clR ad aC shR b0 0) (rcR t) d0 av x (g t av x)) (s0 : Int32) (x : jm_X) : jm_V (jm_PP l D clR ad aC shR b0 0) mt_M_kindOf (d0 + 5) 73 [] [.int s0] x (J_M_kindOf_73 K g s0 x) := by
  have hT := tk_M (l := l) (D := D) (ad := ad) (aC := aC) (b0 := b0)
  unfold J_M_kindOf_73
  exact jm_V.iret rfl dd_M_kindOf_73
def J_M_kindOf_74 (K : Nat) (g : jm_Rec) (k8 : Int32 → Int32 → Int32 → Int32 → jm_X → Option jm_R) (v1 : Int32) (v2 : Int32) (v3 : Int32) (v4 : Int32) (x : jm_X) : Option jm_R := k8 v1 v2 v3 (v4 + (-1)) x
set_option maxRecDepth 100000 in
set_option maxHeartbeats 4000000 in
theorem jj_M_kindOf_74 {l : Launch} {D : va_G} {ad : Nat → Nat} {aC : Nat → ClassId} {b0 : Nat} {K d0 : Nat} {g : jm_Rec} (hok : jm_Ok (jm_PP l D clR ad aC shR b0 0)) (hrec : ∀ (t : Nat) (av : List Value) (x : jm_X), jm_Con (jm_PP l D clR ad aC shR b0 0) (rcR t) d0 av x (g t av x)) {k8 : Int32 → Int32 → Int32 → Int32 → jm_X → Option jm_R} (hk8 : ∀ (v1 : Int32) (v2 : Int32) (v3 : Int32) (v4 : Int32) (x : jm_X), jm_V (jm_PP l D clR ad aC shR b0 0) mt_M_kindOf (d0 + 5) 8 [(0, .ref 0), (1, .int v1), (2, .int v2), (3, .int v3), (4, .int v4)] [] x (k8 v1 v2 v3 v4 x)) (v1 : Int32) (v2 : Int32) (v3 : Int32) (v4 : Int32) (x : jm_X) : jm_V (jm_PP l D clR ad aC shR b0 0) mt_M_kindOf (d0 + 5) 74 [(0, .ref 0), (1, .int v1), (2, .int v2), (3, .int v3), (4, .int v4)] [] x (J_M_kindOf_74 K g k8 v1 v2 v3 v4 x) := by
  have hT := tk_M (l := l) (D := D) (ad := ad) (aC := aC) (b0 := b0)
  unfold J_M_kindOf_74
  refine jm_V.run (is := bk_M_kindOf_74_2) (pc' := 8) (ls' := [(4, .int (v4 + (-1))), (0, .ref 0), (1, .int v1), (2, .int v2), (3, .int v3)]) (st' := []) (x' := x) hok hT bk_M_kindOf_74_2_ok rfl ?_
  refine jm_V.sub (ls' := [(0, .ref 0), (1, .int v1), (2, .int v2), (3, .int v3), (4, .int (v4 + (-1)))]) [1, 2, 3, 4, 0] rfl ?_
  exact hk8 v1 v2 v3 (v4 + (-1)) x
def B_M_kindOf_8 (K : Nat) (g : jm_Rec) (self : Int32 → Int32 → Int32 → Int32 → jm_X → Option jm_R) (v1 : Int32) (v2 : Int32) (v3 : Int32) (v4 : Int32) (x : jm_X) : Option jm_R := (if v4 < 0 then (if v3 = 0 then J_M_kindOf_112 K g v1 v2 2018 x else (if v3 = 1 then J_M_kindOf_112 K g v1 v2 2019 x else (if v3 = 2 then J_M_kindOf_112 K g v1 v2 2020 x else J_M_kindOf_112 K g v1 v2 2022 x))) else (if jm_in shR 5 .int v4 then (if 1 < (x.2.2 5 (Int32.toNatClampNeg v4)) then J_M_kindOf_74 K g self v1 v2 v3 v4 x else (if jm_in shR 9 .boolean v4 then (if (x.2.2 9 (Int32.toNatClampNeg v4)) = 0 then (if jm_in shR 8 .int v4 then (if (x.2.2 8 (Int32.toNatClampNeg v4)) = v3 then jm_bI (f_M_sameName K g v4 v1 v2 x) (fun b2 x1 => (if b2 = 0 then J_M_kindOf_74 K g self v1 v2 v3 v4 x1 else (if jm_in shR 5 .int v4 then (if (x1.2.2 5 (Int32.toNatClampNeg v4)) = 0 then J_M_kindOf_73 K g 12 x1 else J_M_kindOf_73 K g 13 x1) else none))) else J_M_kindOf_74 K g self v1 v2 v3 v4 x) else none) else J_M_kindOf_74 K g self v1 v2 v3 v4 x) else none)) else none))
def L_M_kindOf_8 (K : Nat) (g : jm_Rec) : Nat → Int32 → Int32 → Int32 → Int32 → jm_X → Option jm_R
  | 0, _, _, _, _, _ => none
  | k + 1, v1, v2, v3, v4, x => B_M_kindOf_8 K g (L_M_kindOf_8 K g k) v1 v2 v3 v4 x
set_option maxRecDepth 100000 in
set_option maxHeartbeats 4000000 in
theorem jb_M_kindOf_8 {l : Launch} {D : va_G} {ad : Nat → Nat} {aC : Nat → ClassId} {b0 : Nat} {K d0 : Nat} {g : jm_Rec} (hok : jm_Ok (jm_PP l D clR ad aC shR b0 0)) (hrec : ∀ (t : Nat) (av : List Value) (x : jm_X), jm_Con (jm_PP l D clR ad aC shR b0 0) (rcR t) d0 av x (g t av x)) {self : Int32 → Int32 → Int32 → Int32 → jm_X → Option jm_R} (hself : ∀ (v1 : Int32) (v2 : Int32) (v3 : Int32) (v4 : Int32) (x : jm_X), jm_V (jm_PP l D clR ad aC shR b0 0) mt_M_kindOf (d0 + 5) 8 [(0, .ref 0), (1, .int v1), (2, .int v2), (3, .int v3), (4, .int v4)] [] x (self v1 v2 v3 v4 x)) (v1 : Int32) (v2 : Int32) (v3 : Int32) (v4 : Int32) (x : jm_X) : jm_V (jm_PP l D clR ad aC shR b0 0) mt_M_kindOf (d0 + 5) 8 [(0, .ref 0), (1, .int v1), (2, .int v2), (3, .int v3), (4, .int v4)] [] x (B_M_kindOf_8 K g self v1 v2 v3 v4 x) := by
  have hT := tk_M (l := l) (D := D) (ad := ad) (aC := aC) (b0 := b0)
  unfold B_M_kindOf_8
  refine jm_V.run (is := bk_M_kindOf_8_2) (pc' := (if v4 < 0 then 80 else 13)) (ls' := [(0, .ref 0), (1, .int v1), (2, .int v2), (3, .int v3), (4, .int v4)]) (st' := []) (x' := x) hok hT bk_M_kindOf_8_2_ok rfl ?_
  refine jm_V.ite (fun _ => ?_) (fun _ => ?_)
  · refine jm_V.run (is := bk_M_kindOf_80_2) (pc' := (if v3 = 0 then 84 else 89)) (ls' := [(0, .ref 0), (1, .int v1), (2, .int v2), (3, .int v3), (4, .int v4)]) (st' := []) (x' := x) hok hT bk_M_kindOf_80_2_ok rfl ?_
    refine jm_V.ite (fun _ => ?_) (fun _ => ?_)
    · refine jm_V.lds (o := 2018) (tx := " null false true empty error not length keys type tostring tonumber sort reverse explode implode floor abs ") (cs_str (i := 18) rfl) dd_M_kindOf_84 ?_
      refine jm_V.run (is := bk_M_kindOf_86_1) (pc' := 112) (ls' := [(0, .ref 0), (1, .int v1), (2, .int v2), (3, .int v3), (4, .int v4)]) (st' := [.ref 2018]) (x' := x) hok hT bk_M_kindOf_86_1_ok rfl ?_
      refine jm_V.sub (ls' := [(0, .ref 0), (1, .int v1), (2, .int v2)]) [0, 1, 2] rfl ?_
      exact jj_M_kindOf_112 hok hrec v1 v2 2018 x
    · refine jm_V.run (is := bk_M_kindOf_89_3) (pc' := (if v3 = 1 then 94 else 99)) (ls' := [(0, .ref 0), (1, .int v1), (2, .int v2), (3, .int v3), (4, .int v4)]) (st' := []) (x' := x) hok hT bk_M_kindOf_89_3_ok rfl ?_
      refine jm_V.ite (fun _ => ?_) (fun _ => ?_)
      · refine jm_V.lds (o := 2019) (tx := " error has contains split join getpath sort_by group_by path ") (cs_str (i := 19) rfl) dd_M_kindOf_94 ?_
        refine jm_V.run (is := bk_M_kindOf_96_1) (pc' := 112) (ls' := [(0, .ref 0), (1, .int v1), (2, .int v2), (3, .int v3), (4, .int v4)]) (st' := [.ref 2019]) (x' := x) hok hT bk_M_kindOf_96_1_ok rfl ?_
        refine jm_V.sub (ls' := [(0, .ref 0), (1, .int v1), (2, .int v2)]) [0, 1, 2] rfl ?_
        exact jj_M_kindOf_112 hok hrec v1 v2 2019 x
      · refine jm_V.run (is := bk_M_kindOf_99_3) (pc' := (if v3 = 2 then 104 else 109)) (ls' := [(0, .ref 0), (1, .int v1), (2, .int v2), (3, .int v3), (4, .int v4)]) (st' := []) (x' := x) hok hT bk_M_kindOf_99_3_ok rfl ?_
        refine jm_V.ite (fun _ => ?_) (fun _ => ?_)
        · refine jm_V.lds (o := 2020) (tx := " range setpath ") (cs_str (i := 20) rfl) dd_M_kindOf_104 ?_
          refine jm_V.run (is := bk_M_kindOf_106_1) (pc' := 112) (ls' := [(0, .ref 0), (1, .int v1), (2, .int v2), (3, .int v3), (4, .int v4)]) (st' := [.ref 2020]) (x' := x) hok hT bk_M_kindOf_106_1_ok rfl ?_
          refine jm_V.sub (ls' := [(0, .ref 0), (1, .int v1), (2, .int v2)]) [0, 1, 2] rfl ?_
          exact jj_M_kindOf_112 hok hrec v1 v2 2020 x
        · refine jm_V.ldsw (o := 2022) (tx := "") (cs_str (i := 22) rfl) dd_M_kindOf_109 ?_
          refine jm_V.sub (ls' := [(0, .ref 0), (1, .int v1), (2, .int v2)]) [0, 1, 2] rfl ?_
          exact jj_M_kindOf_112 hok hrec v1 v2 2022 x
  · refine jm_V.run (is := bk_M_kindOf_13_3) (pc' := 19) (ls' := [(0, .ref 0), (1, .int v1), (2, .int v2), (3, .int v3), (4, .int v4)]) (st' := [.int v4, .ref 5]) (x' := x) hok hT bk_M_kindOf_13_3_ok rfl ?_
    refine jm_V.iald dd_M_kindOf_19 ?_
    refine jm_V.run (is := bk_M_kindOf_20_2) (pc' := (if 1 < (x.2.2 5 (Int32.toNatClampNeg v4)) then 74 else 24)) (ls' := [(0, .ref 0), (1, .int v1), (2, .int v2), (3, .int v3), (4, .int v4)]) (st' := []) (x' := x) hok hT bk_M_kindOf_20_2_ok rfl ?_
    refine jm_V.ite (fun _ => ?_) (fun _ => ?_)
    · exact jj_M_kindOf_74 hok hrec hself v1 v2 v3 v4 x
    · refine jm_V.run (is := bk_M_kindOf_24_3) (pc' := 30) (ls' := [(0, .ref 0), (1, .int v1), (2, .int v2), (3, .int v3), (4, .int v4)]) (st' := [.int v4, .ref 9]) (x' := x) hok hT bk_M_kindOf_24_3_ok rfl ?_
      refine jm_V.zald dd_M_kindOf_30 ?_
      refine jm_V.run (is := bk_M_kindOf_31_1) (pc' := (if (x.2.2 9 (Int32.toNatClampNeg v4)) = 0 then 34 else 74)) (ls' := [(0, .ref 0), (1, .int v1), (2, .int v2), (3, .int v3), (4, .int v4)]) (st' := []) (x' := x) hok hT bk_M_kindOf_31_1_ok rfl ?_
      refine jm_V.ite (fun _ => ?_) (fun _ => ?_)
      · refine jm_V.run (is := bk_M_kindOf_34_3) (pc' := 40) (ls' := [(0, .ref 0), (1, .int v1), (2, .int v2), (3, .int v3), (4, .int v4)]) (st' := [.int v4, .ref 8]) (x' := x) hok hT bk_M_kindOf_34_3_ok rfl ?_
        refine jm_V.iald dd_M_kindOf_40 ?_
        refine jm_V.run (is := bk_M_kindOf_41_2) (pc' := (if (x.2.2 8 (Int32.toNatClampNeg v4)) = v3 then 45 else 74)) (ls' := [(0, .ref 0), (1, .int v1), (2, .int v2), (3, .int v3), (4, .int v4)]) (st' := []) (x' := x) hok hT bk_M_kindOf_41_2_ok rfl ?_
        refine jm_V.ite (fun _ => ?_) (fun _ => ?_)
        · refine jm_V.run (is := bk_M_kindOf_45_4) (pc' := 50) (ls' := [(0, .ref 0), (1, .int v1), (2, .int v2), (3, .int v3), (4, .int v4)]) (st' := [.int v2, .int v1, .int v4, .ref 0]) (x' := x) hok hT bk_M_kindOf_45_4_ok rfl ?_
          refine jm_V.callI (av := [.ref 0, .int v4, .int v1, .int v2]) (rest := []) hok (jm_Con.mono (c_M_sameName hok hrec v4 v1 v2 x) (by omega)) (jm_Inv.obj (q := ("FilterReaderModel", T_M, 22)) dd_M_kindOf_50 (Or.inl lk_M_189) mn_M_sameName ms_M_sameName mw_M_sameName mh_M_sameName ml_M_sameName rfl rfl) mw_M_sameName mi_M (Nat.le_of_ble_eq_true rfl) (Nat.le_of_ble_eq_true rfl) (fun b2 x1 => ?_)
          refine jm_V.run (is := bk_M_kindOf_53_1) (pc' := (if b2 = 0 then 74 else 56)) (ls' := [(0, .ref 0), (1, .int v1), (2, .int v2), (3, .int v3), (4, .int v4)]) (st' := []) (x' := x1) hok hT bk_M_kindOf_53_1_ok rfl ?_
          refine jm_V.ite (fun _ => ?_) (fun _ => ?_)
          · exact jj_M_kindOf_74 hok hrec hself v1 v2 v3 v4 x1
          · refine jm_V.run (is := bk_M_kindOf_56_3) (pc' := 62) (ls' := [(0, .ref 0), (1, .int v1), (2, .int v2), (3, .int v3), (4, .int v4)]) (st' := [.int v4, .ref 5]) (x' := x1) hok hT bk_M_kindOf_56_3_ok rfl ?_
            refine jm_V.iald dd_M_kindOf_62 ?_
            refine jm_V.run (is := bk_M_kindOf_63_1) (pc' := (if (x1.2.2 5 (Int32.toNatClampNeg v4)) = 0 then 66 else 71)) (ls' := [(0, .ref 0), (1, .int v1), (2, .int v2), (3, .int v3), (4, .int v4)]) (st' := []) (x' := x1) hok hT bk_M_kindOf_63_1_ok rfl ?_
            refine jm_V.ite (fun _ => ?_) (fun _ => ?_)
            · refine jm_V.run (is := bk_M_kindOf_66_2) (pc' := 73) (ls' := [(0, .ref 0), (1, .int v1), (2, .int v2), (3, .int v3), (4, .int v4)]) (st' := [.int 12]) (x' := x1) hok hT bk_M_kindOf_66_2_ok rfl ?_
              refine jm_V.sub (ls' := []) [] rfl ?_
              exact jj_M_kindOf_73 hok hrec 12 x1
            · refine jm_V.run (is := bk_M_kindOf_71_1) (pc' := 73) (ls' := [(0, .ref 0), (1, .int v1), (2, .int v2), (3, .int v3), (4, .int v4)]) (st' := [.int 13]) (x' := x1) hok hT bk_M_kindOf_71_1_ok rfl ?_
              refine jm_V.sub (ls' := []) [] rfl ?_
              exact jj_M_kindOf_73 hok hrec 13 x1
        · exact jj_M_kindOf_74 hok hrec hself v1 v2 v3 v4 x
      · exact jj_M_kindOf_74 hok hrec hself v1 v2 v3 v4 x
theorem jl_M_kindOf_8 {l : Launch} {D : va_G} {ad : Nat → Nat} {aC : Nat → ClassId} {b0 : Nat} {K d0 : Nat} {g : jm_Rec} (hok : jm_Ok (jm_PP l D clR ad aC shR b0 0)) (hrec : ∀ (t : Nat) (av : List Value) (x : jm_X), jm_Con (jm_PP l D clR ad aC shR b0 0) (rcR t) d0 av x (g t av x)) : ∀ (k : Nat) (v1 : Int32) (v2 : Int32) (v3 : Int32) (v4 : Int32) (x : jm_X), jm_V (jm_PP l D clR ad aC shR b0 0) mt_M_kindOf (d0 + 5) 8 [(0, .ref 0), (1, .int v1), (2, .int v2), (3, .int v3), (4, .int v4)] [] x (L_M_kindOf_8 K g k v1 v2 v3 v4 x)
  | 0, _, _, _, _, _ => jm_V.stuck
  | k + 1, v1, v2, v3, v4, x => jb_M_kindOf_8 hok hrec (fun v1 v2 v3 v4 x => jl_M_kindOf_8 hok hrec k v1 v2 v3 v4 x) v1 v2 v3 v4 x
def f_M_kindOf (K : Nat) (g : jm_Rec) (a1 : Int32) (a2 : Int32) (a3 : Int32) (x : jm_X) : Option jm_R := L_M_kindOf_8 K g K a1 a2 a3 ((x.1 15) - 1) x
set_option maxRecDepth 100000 in
set_option maxHeartbeats 4000000 in
theorem c_M_kindOf {l : Launch} {D : va_G} {ad : Nat → Nat} {aC : Nat → ClassId} {b0 : Nat} {K d0 : Nat} {g : jm_Rec} (hok : jm_Ok (jm_PP l D clR ad aC shR b0 0)) (hrec : ∀ (t : Nat) (av : List Value) (x : jm_X), jm_Con (jm_PP l D clR ad aC shR b0 0) (rcR t) d0 av x (g t av x)) (a1 : Int32) (a2 : Int32) (a3 : Int32) (x : jm_X) : jm_Con (jm_PP l D clR ad aC shR b0 0) mt_M_kindOf (d0 + 5) [.ref 0, .int a1, .int a2, .int a3] x (f_M_kindOf K g a1 a2 a3 x) := by
  refine jm_Con.of (plainFor_of_name (by decide +kernel)) (Nat.le_of_ble_eq_true rfl) ?_
  have hT := tk_M (l := l) (D := D) (ad := ad) (aC := aC) (b0 := b0)
  unfold f_M_kindOf
  show jm_V _ _ _ 0 [(0, .ref 0), (1, .int a1), (2, .int a2), (3, .int a3)] [] x _
  refine jm_V.run (is := bk_M_kindOf_0_5) (pc' := 8) (ls' := [(4, .int ((x.1 15) - 1)), (0, .ref 0), (1, .int a1), (2, .int a2), (3, .int a3)]) (st' := []) (x' := x) hok hT bk_M_kindOf_0_5_ok rfl ?_
  refine jm_V.sub (ls' := [(0, .ref 0), (1, .int a1), (2, .int a2), (3, .int a3), (4, .int ((x.1 15) - 1))]) [1, 2, 3, 4, 0] rfl ?_
  exact jl_M_kindOf_8 hok hrec K a1 a2 a3 ((x.1 15) - 1) x
abbrev bk_M_named_0_1 : List (Nat × Instr × Nat) := [(0, .aload_n 0, 1)]
theorem bk_M_named_0_1_ok : jm_at mt_M_named.2.1 bk_M_named_0_1 = true := by decide +kernel
abbrev bk_M_named_6_1 : List (Nat × Instr × Nat) := [(6, .ifCond .eq 61, 3)]
theorem bk_M_named_6_1_ok : jm_at mt_M_named.2.1 bk_M_named_6_1 = true := by decide +kernel
abbrev bk_M_named_67_1 : List (Nat × Instr × Nat) := [(67, .aload_n 0, 1)]
theorem bk_M_named_67_1_ok : jm_at mt_M_named.2.1 bk_M_named_67_1 = true := by decide +kernel
abbrev bk_M_named_71_1 : List (Nat × Instr × Nat) := [(71, .ifCond .eq 12, 3)]
theorem bk_M_named_71_1_ok : jm_at mt_M_named.2.1 bk_M_named_71_1 = true := by decide +kernel
abbrev bk_M_named_83_12 : List (Nat × Instr × Nat) := [(83, .aload_n 0, 1), (84, .getfield 131, 3), (87, .istore_n 1, 1), (88, .aload_n 0, 1), (89, .getfield 119, 3), (92, .aload_n 0, 1), (93, .getfield 131, 3), (96, .isub, 1), (97, .istore_n 2, 1), (98, .iconst 0, 1), (99, .istore_n 3, 1), (100, .aload_n 0, 1)]
theorem bk_M_named_83_12_ok : jm_at mt_M_named.2.1 bk_M_named_83_12 = true := by decide +kernel
abbrev bk_M_named_104_2 : List (Nat × Instr × Nat) := [(104, .aload_n 0, 1), (105, .bipush 16, 2)]
theorem bk_M_named_104_2_ok : jm_at mt_M_named.2.1 bk_M_named_104_2 = true := by decide +kernel
abbrev bk_M_named_110_1 : List (Nat × Instr × Nat) := [(110, .ifCond .eq 25, 3)]
theorem bk_M_named_110_1_ok : jm_at mt_M_named.2.1 bk_M_named_110_1 = true := by decide +kernel
abbrev bk_M_named_74_3 : List (Nat × Instr × Nat) := [(74, .aload_n 0, 1), (75, .aload_n 0, 1), (76, .getfield 131, 3)]
theorem bk_M_named_74_3_ok : jm_at mt_M_named.2.1 bk_M_named_74_3 = true := by decide +kernel
abbrev bk_M_named_9_4 : List (Nat × Instr × Nat) := [(9, .aload_n 0, 1), (10, .getfield 128, 3), (13, .iconst 3, 1), (14, .if_icmp .ne 28, 3)]
theorem bk_M_named_9_4_ok : jm_at mt_M_named.2.1 bk_M_named_9_4 = true := by decide +kernel
abbrev bk_M_named_17_13 : List (Nat × Instr × Nat) := [(17, .aload_n 0, 1), (18, .iconst 3, 1), (19, .aload_n 0, 1), (20, .getfield 131, 3), (23, .iconst 1, 1), (24, .iadd, 1), (25, .aload_n 0, 1), (26, .getfield 119, 3), (29, .aload_n 0, 1), (30, .getfield 131, 3), (33, .isub, 1), (34, .iconst 1, 1), (35, .isub, 1)]
theorem bk_M_named_17_13_ok : jm_at mt_M_named.2.1 bk_M_named_17_13 = true := by decide +kernel
abbrev bk_M_named_39_1 : List (Nat × Instr × Nat) := [(39, .ifCond .ne 12, 3)]
theorem bk_M_named_39_1_ok : jm_at mt_M_named.2.1 bk_M_named_39_1 = true := by decide +kernel
abbrev bk_M_named_51_4 : List (Nat × Instr × Nat) := [(51, .aload_n 0, 1), (52, .getfield 76, 3), (55, .bipush 15, 2), (57, .dup2, 1)]
theorem bk_M_named_51_4_ok : jm_at mt_M_named.2.1 bk_M_named_51_4 = true := by decide +kernel
abbrev bk_M_named_59_2 : List (Nat × Instr × Nat) := [(59, .iconst 1, 1), (60, .iadd, 1)]
theorem bk_M_named_59_2_ok : jm_at mt_M_named.2.1 bk_M_named_59_2 = true := by decide +kernel
abbrev bk_M_named_62_1 : List (Nat × Instr × Nat) := [(62, .aload_n 0, 1)]
theorem bk_M_named_62_1_ok : jm_at mt_M_named.2.1 bk_M_named_62_1 = true := by decide +kernel
abbrev bk_M_named_42_3 : List (Nat × Instr × Nat) := [(42, .aload_n 0, 1), (43, .aload_n 0, 1), (44, .getfield 131, 3)]
theorem bk_M_named_42_3_ok : jm_at mt_M_named.2.1 bk_M_named_42_3 = true := by decide +kernel
abbrev bk_M_named_113_2 : List (Nat × Instr × Nat) := [(113, .iinc 3 1, 3), (116, .aload_n 0, 1)]
theorem bk_M_named_113_2_ok : jm_at mt_M_named.2.1 bk_M_named_113_2 = true := by decide +kernel
abbrev bk_M_named_120_2 : List (Nat × Instr × Nat) := [(120, .aload_n 0, 1), (121, .bipush 23, 2)]
theorem bk_M_named_120_2_ok : jm_at mt_M_named.2.1 bk_M_named_120_2 = true := by decide +kernel
abbrev bk_M_named_126_1 : List (Nat × Instr × Nat) := [(126, .ifCond .ne (-13), 3)]
theorem bk_M_named_126_1_ok : jm_at mt_M_named.2.1 bk_M_named_126_1 = true := by decide +kernel
abbrev bk_M_named_129_2 : List (Nat × Instr × Nat) := [(129, .aload_n 0, 1), (130, .bipush 17, 2)]
theorem bk_M_named_129_2_ok : jm_at mt_M_named.2.1 bk_M_named_129_2 = true := by decide +kernel
abbrev bk_M_named_135_6 : List (Nat × Instr × Nat) := [(135, .aload_n 0, 1), (136, .getfield 76, 3), (139, .aload_n 0, 1), (140, .iload_n 1, 1), (141, .iload_n 2, 1), (142, .iload_n 3, 1)]
theorem bk_M_named_135_6_ok : jm_at mt_M_named.2.1 bk_M_named_135_6 = true := by decide +kernel
abbrev bk_M_named_146_1 : List (Nat × Instr × Nat) := [(146, .dup2, 1)]
theorem bk_M_named_146_1_ok : jm_at mt_M_named.2.1 bk_M_named_146_1 = true := by decide +kernel
abbrev bk_M_named_148_2 : List (Nat × Instr × Nat) := [(148, .iconst 1, 1), (149, .iadd, 1)]
theorem bk_M_named_148_2_ok : jm_at mt_M_named.2.1 bk_M_named_148_2 = true := by decide +kernel
theorem dd_M_named_3 : decode mt_M_named.2.1 3 = .ok (.invokevirtual 187, 3) := by decide +kernel
theorem dd_M_named_68 : decode mt_M_named.2.1 68 = .ok (.invokevirtual 209, 3) := by decide +kernel
theorem dd_M_named_101 : decode mt_M_named.2.1 101 = .ok (.invokevirtual 122, 3) := by decide +kernel
theorem dd_M_named_107 : decode mt_M_named.2.1 107 = .ok (.invokevirtual 184, 3) := by decide +kernel
theorem dd_M_named_79 : decode mt_M_named.2.1 79 = .ok (.invokevirtual 134, 3) := by decide +kernel
theorem dd_M_named_82 : decode mt_M_named.2.1 82 = .ok (.athrow, 1) := by decide +kernel
theorem dd_M_named_36 : decode mt_M_named.2.1 36 = .ok (.invokevirtual 269, 3) := by decide +kernel
theorem dd_M_named_63 : decode mt_M_named.2.1 63 = .ok (.invokevirtual 122, 3) := by decide +kernel
theorem dd_M_named_66 : decode mt_M_named.2.1 66 = .ok (.return_, 1) := by decide +kernel
theorem dd_M_named_61 : decode mt_M_named.2.1 61 = .ok (.iastore, 1) := by decide +kernel
theorem dd_M_named_58 : decode mt_M_named.2.1 58 = .ok (.iaload, 1) := by decide +kernel
theorem dd_M_named_1 : decode mt_M_named.2.1 1 = .ok (.ldc 13, 2) := by decide +kernel
theorem dd_M_named_47 : decode mt_M_named.2.1 47 = .ok (.invokevirtual 134, 3) := by decide +kernel
theorem dd_M_named_50 : decode mt_M_named.2.1 50 = .ok (.athrow, 1) := by decide +kernel
theorem dd_M_named_117 : decode mt_M_named.2.1 117 = .ok (.invokevirtual 125, 3) := by decide +kernel
theorem dd_M_named_123 : decode mt_M_named.2.1 123 = .ok (.invokevirtual 184, 3) := by decide +kernel
theorem dd_M_named_132 : decode mt_M_named.2.1 132 = .ok (.invokevirtual 199, 3) := by decide +kernel
theorem dd_M_named_143 : decode mt_M_named.2.1 143 = .ok (.invokevirtual 272, 3) := by decide +kernel
theorem dd_M_named_151 : decode mt_M_named.2.1 151 = .ok (.return_, 1) := by decide +kernel
theorem dd_M_named_150 : decode mt_M_named.2.1 150 = .ok (.iastore, 1) := by decide +kernel
theorem dd_M_named_147 : decode mt_M_named.2.1 147 = .ok (.iaload, 1) := by decide +kernel
def J_M_named_42 (K : Nat) (g : jm_Rec)  (x : jm_X) : Option jm_R := jm_bA (f_M_bad K g (x.1 9) x) (fun b15 x14 => (if b15 = 2 then some (.inr ("java/lang/IllegalStateException", x14)) else none))
set_option maxRecDepth 100000 in
set_option maxHeartbeats 4000000 in
theorem jj_M_named_42 {l : Launch} {D : va_G} {ad : Nat → Nat} {aC : Nat → ClassId} {b0 : Nat} {K d0 : Nat} {g : jm_Rec} (hok : jm_Ok (jm_PP l D clR ad aC shR b0 0)) (hrec : ∀ (t : Nat) (av : List Value) (x : jm_X), jm_Con (jm_PP l D clR ad aC shR b0 0) (rcR t) d0 av x (g t av x))  (x : jm_X) : jm_V (jm_PP l D clR ad aC shR b0 0) mt_M_named (d0 + 8) 42 [(0, .ref 0)] [] x (J_M_named_42 K g  x) := by
  have hT := tk_M (l := l) (D := D) (ad := ad) (aC := aC) (b0 := b0)
  unfold J_M_named_42
  refine jm_V.run (is := bk_M_named_42_3) (pc' := 47) (ls' := [(0, .ref 0)]) (st' := [.int (x.1 9), .ref 0]) (x' := x) hok hT bk_M_named_42_3_ok rfl ?_
  refine jm_V.callA (av := [.ref 0, .int (x.1 9)]) (rest := []) hok (jm_Con.mono (c_M_bad hok hrec (x.1 9) x) (by omega)) (jm_Inv.obj (q := ("FilterReaderModel", T_M, 22)) dd_M_named_47 (Or.inl lk_M_134) mn_M_bad ms_M_bad mw_M_bad mh_M_bad ml_M_bad rfl rfl) mw_M_bad mi_M (Nat.le_of_ble_eq_true rfl) (Nat.le_of_ble_eq_true rfl) (fun b15 x14 => ?_)
  exact jm_V.athrowS (o := 2) (q := ("java/lang/IllegalStateException", T_X, 0)) rfl rfl dd_M_named_50
def J_M_named_135 (K : Nat) (g : jm_Rec) (v1 : Int32) (v2 : Int32) (v3 : Int32) (x : jm_X) : Option jm_R := jm_bI (f_M_kindOf K g v1 v2 v3 x) (fun b21 x20 => (if jm_in shR 4 .int b21 then (if jm_in shR 4 .int b21 then jm_then (jm_ua x20 4 b21 ((x20.2.2 4 (Int32.toNatClampNeg b21)) + 1)) (fun x22 => some (.inl (none, x22))) else none) else none))
set_option maxRecDepth 100000 in
set_option maxHeartbeats 4000000 in
theorem jj_M_named_135 {l : Launch} {D : va_G} {ad : Nat → Nat} {aC : Nat → ClassId} {b0 : Nat} {K d0 : Nat} {g : jm_Rec} (hok : jm_Ok (jm_PP l D clR ad aC shR b0 0)) (hrec : ∀ (t : Nat) (av : List Value) (x : jm_X), jm_Con (jm_PP l D clR ad aC shR b0 0) (rcR t) d0 av x (g t av x)) (v1 : Int32) (v2 : Int32) (v3 : Int32) (x : jm_X) : jm_V (jm_PP l D clR ad aC shR b0 0) mt_M_named (d0 + 8) 135 [(0, .ref 0), (1, .int v1), (2, .int v2), (3, .int v3)] [] x (J_M_named_135 K g v1 v2 v3 x) := by
  have hT := tk_M (l := l) (D := D) (ad := ad) (aC := aC) (b0 := b0)
  unfold J_M_named_135
  refine jm_V.run (is := bk_M_named_135_6) (pc' := 143) (ls' := [(0, .ref 0), (1, .int v1), (2, .int v2), (3, .int v3)]) (st' := [.int v3, .int v2, .int v1, .ref 0, .ref 4]) (x' := x) hok hT bk_M_named_135_6_ok rfl ?_
  refine jm_V.callI (av := [.ref 0, .int v1, .int v2, .int v3]) (rest := [.ref 4]) hok (jm_Con.mono (c_M_kindOf hok hrec v1 v2 v3 x) (by omega)) (jm_Inv.obj (q := ("FilterReaderModel", T_M, 22)) dd_M_named_143 (Or.inl lk_M_272) mn_M_kindOf ms_M_kindOf mw_M_kindOf mh_M_kindOf ml_M_kindOf rfl rfl) mw_M_kindOf mi_M (Nat.le_of_ble_eq_true rfl) (Nat.le_of_ble_eq_true rfl) (fun b21 x20 => ?_)
  refine jm_V.run (is := bk_M_named_146_1) (pc' := 147) (ls' := [(0, .ref 0), (1, .int v1), (2, .int v2), (3, .int v3)]) (st' := [.int b21, .ref 4, .int b21, .ref 4]) (x' := x20) hok hT bk_M_named_146_1_ok rfl ?_
  refine jm_V.iald dd_M_named_147 ?_
  refine jm_V.run (is := bk_M_named_148_2) (pc' := 150) (ls' := [(0, .ref 0), (1, .int v1), (2, .int v2), (3, .int v3)]) (st' := [.int ((x20.2.2 4 (Int32.toNatClampNeg b21)) + 1), .int b21, .ref 4]) (x' := x20) hok hT bk_M_named_148_2_ok rfl ?_
  refine jm_V.iast hok dd_M_named_150 ?_
  refine jm_V.then_ (fun x22 => ?_)
  exact jm_V.vret rfl dd_M_named_151
def B_M_named_113 (K : Nat) (g : jm_Rec) (self : Int32 → Int32 → Int32 → jm_X → Option jm_R) (v1 : Int32) (v2 : Int32) (v3 : Int32) (x : jm_X) : Option jm_R := jm_bV (g 0 [.ref 0] x) (fun x16 => jm_bI (f_M_skip_i K g 23 x16) (fun b18 x17 => (if b18 = 0 then jm_bV (f_M_need_i K g 17 x17) (fun x19 => J_M_named_135 K g v1 v2 (v3 + 1) x19) else self v1 v2 (v3 + 1) x17)))
def L_M_named_113 (K : Nat) (g : jm_Rec) : Nat → Int32 → Int32 → Int32 → jm_X → Option jm_R
  | 0, _, _, _, _ => none
  | k + 1, v1, v2, v3, x => B_M_named_113 K g (L_M_named_113 K g k) v1 v2 v3 x
set_option maxRecDepth 100000 in
set_option maxHeartbeats 4000000 in
theorem jb_M_named_113 {l : Launch} {D : va_G} {ad : Nat → Nat} {aC : Nat → ClassId} {b0 : Nat} {K d0 : Nat} {g : jm_Rec} (hok : jm_Ok (jm_PP l D clR ad aC shR b0 0)) (hrec : ∀ (t : Nat) (av : List Value) (x : jm_X), jm_Con (jm_PP l D clR ad aC shR b0 0) (rcR t) d0 av x (g t av x)) {self : Int32 → Int32 → Int32 → jm_X → Option jm_R} (hself : ∀ (v1 : Int32) (v2 : Int32) (v3 : Int32) (x : jm_X), jm_V (jm_PP l D clR ad aC shR b0 0) mt_M_named (d0 + 8) 113 [(0, .ref 0), (1, .int v1), (2, .int v2), (3, .int v3)] [] x (self v1 v2 v3 x)) (v1 : Int32) (v2 : Int32) (v3 : Int32) (x : jm_X) : jm_V (jm_PP l D clR ad aC shR b0 0) mt_M_named (d0 + 8) 113 [(0, .ref 0), (1, .int v1), (2, .int v2), (3, .int v3)] [] x (B_M_named_113 K g self v1 v2 v3 x) := by
  have hT := tk_M (l := l) (D := D) (ad := ad) (aC := aC) (b0 := b0)
  unfold B_M_named_113
  refine jm_V.run (is := bk_M_named_113_2) (pc' := 117) (ls' := [(3, .int (v3 + 1)), (0, .ref 0), (1, .int v1), (2, .int v2)]) (st' := [.ref 0]) (x' := x) hok hT bk_M_named_113_2_ok rfl ?_
  refine jm_V.callV (av := [.ref 0]) (rest := []) hok (jm_Con.mono (hrec 0 [.ref 0] x) (by omega)) (jm_Inv.obj (q := ("FilterReaderModel", T_M, 22)) dd_M_named_117 (Or.inl lk_M_125) mn_M_program ms_M_program mw_M_program mh_M_program ml_M_program rfl rfl) mw_M_program mi_M (Nat.le_of_ble_eq_true rfl) (Nat.le_of_ble_eq_true rfl) (fun x16 => ?_)
  refine jm_V.run (is := bk_M_named_120_2) (pc' := 123) (ls' := [(3, .int (v3 + 1)), (0, .ref 0), (1, .int v1), (2, .int v2)]) (st' := [.int 23, .ref 0]) (x' := x16) hok hT bk_M_named_120_2_ok rfl ?_
  refine jm_V.callI (av := [.ref 0, .int 23]) (rest := []) hok (jm_Con.mono (c_M_skip_i hok hrec 23 x16) (by omega)) (jm_Inv.obj (q := ("FilterReaderModel", T_M, 22)) dd_M_named_123 (Or.inl lk_M_184) mn_M_skip_i ms_M_skip_i mw_M_skip_i mh_M_skip_i ml_M_skip_i rfl rfl) mw_M_skip_i mi_M (Nat.le_of_ble_eq_true rfl) (Nat.le_of_ble_eq_true rfl) (fun b18 x17 => ?_)
  refine jm_V.run (is := bk_M_named_126_1) (pc' := (if b18 = 0 then 129 else 113)) (ls' := [(3, .int (v3 + 1)), (0, .ref 0), (1, .int v1), (2, .int v2)]) (st' := []) (x' := x17) hok hT bk_M_named_126_1_ok rfl ?_
  refine jm_V.ite (fun _ => ?_) (fun _ => ?_)
  · refine jm_V.run (is := bk_M_named_129_2) (pc' := 132) (ls' := [(3, .int (v3 + 1)), (0, .ref 0), (1, .int v1), (2, .int v2)]) (st' := [.int 17, .ref 0]) (x' := x17) hok hT bk_M_named_129_2_ok rfl ?_
    refine jm_V.callV (av := [.ref 0, .int 17]) (rest := []) hok (jm_Con.mono (c_M_need_i hok hrec 17 x17) (by omega)) (jm_Inv.obj (q := ("FilterReaderModel", T_M, 22)) dd_M_named_132 (Or.inl lk_M_199) mn_M_need_i ms_M_need_i mw_M_need_i mh_M_need_i ml_M_need_i rfl rfl) mw_M_need_i mi_M (Nat.le_of_ble_eq_true rfl) (Nat.le_of_ble_eq_true rfl) (fun x19 => ?_)
    refine jm_V.sub (ls' := [(0, .ref 0), (1, .int v1), (2, .int v2), (3, .int (v3 + 1))]) [1, 2, 3, 0] rfl ?_
    exact jj_M_named_135 hok hrec v1 v2 (v3 + 1) x19
  · refine jm_V.sub (ls' := [(0, .ref 0), (1, .int v1), (2, .int v2), (3, .int (v3 + 1))]) [1, 2, 3, 0] rfl ?_
    exact hself v1 v2 (v3 + 1) x17
theorem jl_M_named_113 {l : Launch} {D : va_G} {ad : Nat → Nat} {aC : Nat → ClassId} {b0 : Nat} {K d0 : Nat} {g : jm_Rec} (hok : jm_Ok (jm_PP l D clR ad aC shR b0 0)) (hrec : ∀ (t : Nat) (av : List Value) (x : jm_X), jm_Con (jm_PP l D clR ad aC shR b0 0) (rcR t) d0 av x (g t av x)) : ∀ (k : Nat) (v1 : Int32) (v2 : Int32) (v3 : Int32) (x : jm_X), jm_V (jm_PP l D clR ad aC shR b0 0) mt_M_named (d0 + 8) 113 [(0, .ref 0), (1, .int v1), (2, .int v2), (3, .int v3)] [] x (L_M_named_113 K g k v1 v2 v3 x)
  | 0, _, _, _, _ => jm_V.stuck
  | k + 1, v1, v2, v3, x => jb_M_named_113 hok hrec (fun v1 v2 v3 x => jl_M_named_113 hok hrec k v1 v2 v3 x) v1 v2 v3 x
def f_M_named (K : Nat) (g : jm_Rec)  (x : jm_X) : Option jm_R := jm_bI (f_M_skip_s K g 2005 x) (fun b2 x1 => (if b2 = 0 then jm_bI (f_M_isWord K g x1) (fun b4 x3 => (if b4 = 0 then jm_bV (f_M_scan K g x3) (fun x5 => jm_bI (f_M_skip_i K g 16 x5) (fun b7 x6 => (if b7 = 0 then J_M_named_135 K g (x3.1 9) ((x3.1 10) - (x3.1 9)) 0 x6 else L_M_named_113 K g K (x3.1 9) ((x3.1 10) - (x3.1 9)) 0 x6))) else jm_bA (f_M_bad K g (x3.1 9) x3) (fun b9 x8 => (if b9 = 2 then some (.inr ("java/lang/IllegalStateException", x8)) else none)))) else (if (x1.1 11) = 3 then jm_bI (f_M_has K g 3 ((x1.1 9) + 1) (((x1.1 10) - (x1.1 9)) - 1) x1) (fun b11 x10 => (if b11 = 0 then J_M_named_42 K g x10 else (if jm_in shR 4 .int 15 then (if jm_in shR 4 .int 15 then jm_then (jm_ua x10 4 15 ((x10.2.2 4 (Int32.toNatClampNeg 15)) + 1)) (fun x12 => jm_bV (f_M_scan K g x12) (fun x13 => some (.inl (none, x13)))) else none) else none))) else J_M_named_42 K g x1)))
set_option maxRecDepth 100000 in
set_option maxHeartbeats 4000000 in
theorem c_M_named {l : Launch} {D : va_G} {ad : Nat → Nat} {aC : Nat → ClassId} {b0 : Nat} {K d0 : Nat} {g : jm_Rec} (hok : jm_Ok (jm_PP l D clR ad aC shR b0 0)) (hrec : ∀ (t : Nat) (av : List Value) (x : jm_X), jm_Con (jm_PP l D clR ad aC shR b0 0) (rcR t) d0 av x (g t av x))  (x : jm_X) : jm_Con (jm_PP l D clR ad aC shR b0 0) mt_M_named (d0 + 8) [.ref 0] x (f_M_named K g  x) := by
  refine jm_Con.of (plainFor_of_name (by decide +kernel)) (Nat.le_of_ble_eq_true rfl) ?_
  have hT := tk_M (l := l) (D := D) (ad := ad) (aC := aC) (b0 := b0)
  unfold f_M_named
  show jm_V _ _ _ 0 [(0, .ref 0)] [] x _
  refine jm_V.run (is := bk_M_named_0_1) (pc' := 1) (ls' := [(0, .ref 0)]) (st' := [.ref 0]) (x' := x) hok hT bk_M_named_0_1_ok rfl ?_
  refine jm_V.lds (o := 2005) (tx := "break") (cs_str (i := 5) rfl) dd_M_named_1 ?_
  refine jm_V.callI (av := [.ref 0, .ref 2005]) (rest := []) hok (jm_Con.mono (c_M_skip_s hok hrec 2005 x) (by omega)) (jm_Inv.obj (q := ("FilterReaderModel", T_M, 22)) dd_M_named_3 (Or.inl lk_M_187) mn_M_skip_s ms_M_skip_s mw_M_skip_s mh_M_skip_s ml_M_skip_s rfl rfl) mw_M_skip_s mi_M (Nat.le_of_ble_eq_true rfl) (Nat.le_of_ble_eq_true rfl) (fun b2 x1 => ?_)
  refine jm_V.run (is := bk_M_named_6_1) (pc' := (if b2 = 0 then 67 else 9)) (ls' := [(0, .ref 0)]) (st' := []) (x' := x1) hok hT bk_M_named_6_1_ok rfl ?_
  refine jm_V.ite (fun _ => ?_) (fun _ => ?_)
  · refine jm_V.run (is := bk_M_named_67_1) (pc' := 68) (ls' := [(0, .ref 0)]) (st' := [.ref 0]) (x' := x1) hok hT bk_M_named_67_1_ok rfl ?_
    refine jm_V.callI (av := [.ref 0]) (rest := []) hok (jm_Con.mono (c_M_isWord hok hrec x1) (by omega)) (jm_Inv.obj (q := ("FilterReaderModel", T_M, 22)) dd_M_named_68 (Or.inl lk_M_209) mn_M_isWord ms_M_isWord mw_M_isWord mh_M_isWord ml_M_isWord rfl rfl) mw_M_isWord mi_M (Nat.le_of_ble_eq_true rfl) (Nat.le_of_ble_eq_true rfl) (fun b4 x3 => ?_)
    refine jm_V.run (is := bk_M_named_71_1) (pc' := (if b4 = 0 then 83 else 74)) (ls' := [(0, .ref 0)]) (st' := []) (x' := x3) hok hT bk_M_named_71_1_ok rfl ?_
    refine jm_V.ite (fun _ => ?_) (fun _ => ?_)
    · refine jm_V.run (is := bk_M_named_83_12) (pc' := 101) (ls' := [(3, .int 0), (2, .int ((x3.1 10) - (x3.1 9))), (1, .int (x3.1 9)), (0, .ref 0)]) (st' := [.ref 0]) (x' := x3) hok hT bk_M_named_83_12_ok rfl ?_
      refine jm_V.callV (av := [.ref 0]) (rest := []) hok (jm_Con.mono (c_M_scan hok hrec x3) (by omega)) (jm_Inv.obj (q := ("FilterReaderModel", T_M, 22)) dd_M_named_101 (Or.inl lk_M_122) mn_M_scan ms_M_scan mw_M_scan mh_M_scan ml_M_scan rfl rfl) mw_M_scan mi_M (Nat.le_of_ble_eq_true rfl) (Nat.le_of_ble_eq_true rfl) (fun x5 => ?_)
      refine jm_V.run (is := bk_M_named_104_2) (pc' := 107) (ls' := [(3, .int 0), (2, .int ((x3.1 10) - (x3.1 9))), (1, .int (x3.1 9)), (0, .ref 0)]) (st' := [.int 16, .ref 0]) (x' := x5) hok hT bk_M_named_104_2_ok rfl ?_
      refine jm_V.callI (av := [.ref 0, .int 16]) (rest := []) hok (jm_Con.mono (c_M_skip_i hok hrec 16 x5) (by omega)) (jm_Inv.obj (q := ("FilterReaderModel", T_M, 22)) dd_M_named_107 (Or.inl lk_M_184) mn_M_skip_i ms_M_skip_i mw_M_skip_i mh_M_skip_i ml_M_skip_i rfl rfl) mw_M_skip_i mi_M (Nat.le_of_ble_eq_true rfl) (Nat.le_of_ble_eq_true rfl) (fun b7 x6 => ?_)
      refine jm_V.run (is := bk_M_named_110_1) (pc' := (if b7 = 0 then 135 else 113)) (ls' := [(3, .int 0), (2, .int ((x3.1 10) - (x3.1 9))), (1, .int (x3.1 9)), (0, .ref 0)]) (st' := []) (x' := x6) hok hT bk_M_named_110_1_ok rfl ?_
      refine jm_V.ite (fun _ => ?_) (fun _ => ?_)
      · refine jm_V.sub (ls' := [(0, .ref 0), (1, .int (x3.1 9)), (2, .int ((x3.1 10) - (x3.1 9))), (3, .int 0)]) [3, 2, 1, 0] rfl ?_
        exact jj_M_named_135 hok hrec (x3.1 9) ((x3.1 10) - (x3.1 9)) 0 x6
      · refine jm_V.sub (ls' := [(0, .ref 0), (1, .int (x3.1 9)), (2, .int ((x3.1 10) - (x3.1 9))), (3, .int 0)]) [3, 2, 1, 0] rfl ?_
        exact jl_M_named_113 hok hrec K (x3.1 9) ((x3.1 10) - (x3.1 9)) 0 x6
    · refine jm_V.run (is := bk_M_named_74_3) (pc' := 79) (ls' := [(0, .ref 0)]) (st' := [.int (x3.1 9), .ref 0]) (x' := x3) hok hT bk_M_named_74_3_ok rfl ?_
      refine jm_V.callA (av := [.ref 0, .int (x3.1 9)]) (rest := []) hok (jm_Con.mono (c_M_bad hok hrec (x3.1 9) x3) (by omega)) (jm_Inv.obj (q := ("FilterReaderModel", T_M, 22)) dd_M_named_79 (Or.inl lk_M_134) mn_M_bad ms_M_bad mw_M_bad mh_M_bad ml_M_bad rfl rfl) mw_M_bad mi_M (Nat.le_of_ble_eq_true rfl) (Nat.le_of_ble_eq_true rfl) (fun b9 x8 => ?_)
      exact jm_V.athrowS (o := 2) (q := ("java/lang/IllegalStateException", T_X, 0)) rfl rfl dd_M_named_82
  · refine jm_V.run (is := bk_M_named_9_4) (pc' := (if (x1.1 11) = 3 then 17 else 42)) (ls' := [(0, .ref 0)]) (st' := []) (x' := x1) hok hT bk_M_named_9_4_ok rfl ?_
    refine jm_V.ite (fun _ => ?_) (fun _ => ?_)
    · refine jm_V.run (is := bk_M_named_17_13) (pc' := 36) (ls' := [(0, .ref 0)]) (st' := [.int (((x1.1 10) - (x1.1 9)) - 1), .int ((x1.1 9) + 1), .int 3, .ref 0]) (x' := x1) hok hT bk_M_named_17_13_ok rfl ?_
      refine jm_V.callI (av := [.ref 0, .int 3, .int ((x1.1 9) + 1), .int (((x1.1 10) - (x1.1 9)) - 1)]) (rest := []) hok (jm_Con.mono (c_M_has hok hrec 3 ((x1.1 9) + 1) (((x1.1 10) - (x1.1 9)) - 1) x1) (by omega)) (jm_Inv.obj (q := ("FilterReaderModel", T_M, 22)) dd_M_named_36 (Or.inl lk_M_269) mn_M_has ms_M_has mw_M_has mh_M_has ml_M_has rfl rfl) mw_M_has mi_M (Nat.le_of_ble_eq_true rfl) (Nat.le_of_ble_eq_true rfl) (fun b11 x10 => ?_)
      refine jm_V.run (is := bk_M_named_39_1) (pc' := (if b11 = 0 then 42 else 51)) (ls' := [(0, .ref 0)]) (st' := []) (x' := x10) hok hT bk_M_named_39_1_ok rfl ?_
      refine jm_V.ite (fun _ => ?_) (fun _ => ?_)
      · exact jj_M_named_42 hok hrec x10
      · refine jm_V.run (is := bk_M_named_51_4) (pc' := 58) (ls' := [(0, .ref 0)]) (st' := [.int 15, .ref 4, .int 15, .ref 4]) (x' := x10) hok hT bk_M_named_51_4_ok rfl ?_
        refine jm_V.iald dd_M_named_58 ?_
        refine jm_V.run (is := bk_M_named_59_2) (pc' := 61) (ls' := [(0, .ref 0)]) (st' := [.int ((x10.2.2 4 (Int32.toNatClampNeg 15)) + 1), .int 15, .ref 4]) (x' := x10) hok hT bk_M_named_59_2_ok rfl ?_
        refine jm_V.iast hok dd_M_named_61 ?_
        refine jm_V.then_ (fun x12 => ?_)
        refine jm_V.run (is := bk_M_named_62_1) (pc' := 63) (ls' := [(0, .ref 0)]) (st' := [.ref 0]) (x' := x12) hok hT bk_M_named_62_1_ok rfl ?_
        refine jm_V.callV (av := [.ref 0]) (rest := []) hok (jm_Con.mono (c_M_scan hok hrec x12) (by omega)) (jm_Inv.obj (q := ("FilterReaderModel", T_M, 22)) dd_M_named_63 (Or.inl lk_M_122) mn_M_scan ms_M_scan mw_M_scan mh_M_scan ml_M_scan rfl rfl) mw_M_scan mi_M (Nat.le_of_ble_eq_true rfl) (Nat.le_of_ble_eq_true rfl) (fun x13 => ?_)
        exact jm_V.vret rfl dd_M_named_66
    · exact jj_M_named_42 hok hrec x1
abbrev bk_M_variable_0_13 : List (Nat × Instr × Nat) := [(0, .aload_n 0, 1), (1, .iconst 2, 1), (2, .aload_n 0, 1), (3, .getfield 131, 3), (6, .iconst 1, 1), (7, .iadd, 1), (8, .aload_n 0, 1), (9, .getfield 119, 3), (12, .aload_n 0, 1), (13, .getfield 131, 3), (16, .isub, 1), (17, .iconst 1, 1), (18, .isub, 1)]
theorem bk_M_variable_0_13_ok : jm_at mt_M_variable.2.1 bk_M_variable_0_13 = true := by decide +kernel
abbrev bk_M_variable_22_1 : List (Nat × Instr × Nat) := [(22, .ifCond .ne 12, 3)]
theorem bk_M_variable_22_1_ok : jm_at mt_M_variable.2.1 bk_M_variable_22_1 = true := by decide +kernel
abbrev bk_M_variable_25_3 : List (Nat × Instr × Nat) := [(25, .aload_n 0, 1), (26, .aload_n 0, 1), (27, .getfield 131, 3)]
theorem bk_M_variable_25_3_ok : jm_at mt_M_variable.2.1 bk_M_variable_25_3 = true := by decide +kernel
abbrev bk_M_variable_34_1 : List (Nat × Instr × Nat) := [(34, .aload_n 0, 1)]
theorem bk_M_variable_34_1_ok : jm_at mt_M_variable.2.1 bk_M_variable_34_1 = true := by decide +kernel
theorem dd_M_variable_19 : decode mt_M_variable.2.1 19 = .ok (.invokevirtual 269, 3) := by decide +kernel
theorem dd_M_variable_30 : decode mt_M_variable.2.1 30 = .ok (.invokevirtual 134, 3) := by decide +kernel
theorem dd_M_variable_33 : decode mt_M_variable.2.1 33 = .ok (.athrow, 1) := by decide +kernel
theorem dd_M_variable_35 : decode mt_M_variable.2.1 35 = .ok (.invokevirtual 122, 3) := by decide +kernel
theorem dd_M_variable_38 : decode mt_M_variable.2.1 38 = .ok (.return_, 1) := by decide +kernel
def f_M_variable (K : Nat) (g : jm_Rec)  (x : jm_X) : Option jm_R := jm_bI (f_M_has K g 2 ((x.1 9) + 1) (((x.1 10) - (x.1 9)) - 1) x) (fun b2 x1 => (if b2 = 0 then jm_bA (f_M_bad K g (x1.1 9) x1) (fun b4 x3 => (if b4 = 2 then some (.inr ("java/lang/IllegalStateException", x3)) else none)) else jm_bV (f_M_scan K g x1) (fun x5 => some (.inl (none, x5)))))
set_option maxRecDepth 100000 in
set_option maxHeartbeats 4000000 in
theorem c_M_variable {l : Launch} {D : va_G} {ad : Nat → Nat} {aC : Nat → ClassId} {b0 : Nat} {K d0 : Nat} {g : jm_Rec} (hok : jm_Ok (jm_PP l D clR ad aC shR b0 0)) (hrec : ∀ (t : Nat) (av : List Value) (x : jm_X), jm_Con (jm_PP l D clR ad aC shR b0 0) (rcR t) d0 av x (g t av x))  (x : jm_X) : jm_Con (jm_PP l D clR ad aC shR b0 0) mt_M_variable (d0 + 4) [.ref 0] x (f_M_variable K g  x) := by
  refine jm_Con.of (plainFor_of_name (by decide +kernel)) (Nat.le_of_ble_eq_true rfl) ?_
  have hT := tk_M (l := l) (D := D) (ad := ad) (aC := aC) (b0 := b0)
  unfold f_M_variable
  show jm_V _ _ _ 0 [(0, .ref 0)] [] x _
  refine jm_V.run (is := bk_M_variable_0_13) (pc' := 19) (ls' := [(0, .ref 0)]) (st' := [.int (((x.1 10) - (x.1 9)) - 1), .int ((x.1 9) + 1), .int 2, .ref 0]) (x' := x) hok hT bk_M_variable_0_13_ok rfl ?_
  refine jm_V.callI (av := [.ref 0, .int 2, .int ((x.1 9) + 1), .int (((x.1 10) - (x.1 9)) - 1)]) (rest := []) hok (jm_Con.mono (c_M_has hok hrec 2 ((x.1 9) + 1) (((x.1 10) - (x.1 9)) - 1) x) (by omega)) (jm_Inv.obj (q := ("FilterReaderModel", T_M, 22)) dd_M_variable_19 (Or.inl lk_M_269) mn_M_has ms_M_has mw_M_has mh_M_has ml_M_has rfl rfl) mw_M_has mi_M (Nat.le_of_ble_eq_true rfl) (Nat.le_of_ble_eq_true rfl) (fun b2 x1 => ?_)
  refine jm_V.run (is := bk_M_variable_22_1) (pc' := (if b2 = 0 then 25 else 34)) (ls' := [(0, .ref 0)]) (st' := []) (x' := x1) hok hT bk_M_variable_22_1_ok rfl ?_
  refine jm_V.ite (fun _ => ?_) (fun _ => ?_)
  · refine jm_V.run (is := bk_M_variable_25_3) (pc' := 30) (ls' := [(0, .ref 0)]) (st' := [.int (x1.1 9), .ref 0]) (x' := x1) hok hT bk_M_variable_25_3_ok rfl ?_
    refine jm_V.callA (av := [.ref 0, .int (x1.1 9)]) (rest := []) hok (jm_Con.mono (c_M_bad hok hrec (x1.1 9) x1) (by omega)) (jm_Inv.obj (q := ("FilterReaderModel", T_M, 22)) dd_M_variable_30 (Or.inl lk_M_134) mn_M_bad ms_M_bad mw_M_bad mh_M_bad ml_M_bad rfl rfl) mw_M_bad mi_M (Nat.le_of_ble_eq_true rfl) (Nat.le_of_ble_eq_true rfl) (fun b4 x3 => ?_)
    exact jm_V.athrowS (o := 2) (q := ("java/lang/IllegalStateException", T_X, 0)) rfl rfl dd_M_variable_33
  · refine jm_V.run (is := bk_M_variable_34_1) (pc' := 35) (ls' := [(0, .ref 0)]) (st' := [.ref 0]) (x' := x1) hok hT bk_M_variable_34_1_ok rfl ?_
    refine jm_V.callV (av := [.ref 0]) (rest := []) hok (jm_Con.mono (c_M_scan hok hrec x1) (by omega)) (jm_Inv.obj (q := ("FilterReaderModel", T_M, 22)) dd_M_variable_35 (Or.inl lk_M_122) mn_M_scan ms_M_scan mw_M_scan mh_M_scan ml_M_scan rfl rfl) mw_M_scan mi_M (Nat.le_of_ble_eq_true rfl) (Nat.le_of_ble_eq_true rfl) (fun x5 => ?_)
    exact jm_V.vret rfl dd_M_variable_38
abbrev bk_M_entry_0_4 : List (Nat × Instr × Nat) := [(0, .aload_n 0, 1), (1, .getfield 76, 3), (4, .bipush 33, 2), (6, .dup2, 1)]
theorem bk_M_entry_0_4_ok : jm_at mt_M_entry.2.1 bk_M_entry_0_4 = true := by decide +kernel
abbrev bk_M_entry_8_2 : List (Nat × Instr × Nat) := [(8, .iconst 1, 1), (9, .iadd, 1)]
theorem bk_M_entry_8_2_ok : jm_at mt_M_entry.2.1 bk_M_entry_8_2 = true := by decide +kernel
abbrev bk_M_entry_11_4 : List (Nat × Instr × Nat) := [(11, .aload_n 0, 1), (12, .getfield 128, 3), (15, .bipush 16, 2), (17, .if_icmp .ne 7, 3)]
theorem bk_M_entry_11_4_ok : jm_at mt_M_entry.2.1 bk_M_entry_11_4 = true := by decide +kernel
abbrev bk_M_entry_20_2 : List (Nat × Instr × Nat) := [(20, .iconst 1, 1), (21, .goto 4, 3)]
theorem bk_M_entry_20_2_ok : jm_at mt_M_entry.2.1 bk_M_entry_20_2 = true := by decide +kernel
abbrev bk_M_entry_24_1 : List (Nat × Instr × Nat) := [(24, .iconst 0, 1)]
theorem bk_M_entry_24_1_ok : jm_at mt_M_entry.2.1 bk_M_entry_24_1 = true := by decide +kernel
abbrev bk_M_entry_25_5 : List (Nat × Instr × Nat) := [(25, .istore_n 1, 1), (26, .aload_n 0, 1), (27, .getfield 128, 3), (30, .iconst 3, 1), (31, .if_icmp .ne 7, 3)]
theorem bk_M_entry_25_5_ok : jm_at mt_M_entry.2.1 bk_M_entry_25_5 = true := by decide +kernel
abbrev bk_M_entry_34_2 : List (Nat × Instr × Nat) := [(34, .iconst 1, 1), (35, .goto 4, 3)]
theorem bk_M_entry_34_2_ok : jm_at mt_M_entry.2.1 bk_M_entry_34_2 = true := by decide +kernel
abbrev bk_M_entry_38_1 : List (Nat × Instr × Nat) := [(38, .iconst 0, 1)]
theorem bk_M_entry_38_1_ok : jm_at mt_M_entry.2.1 bk_M_entry_38_1 = true := by decide +kernel
abbrev bk_M_entry_39_5 : List (Nat × Instr × Nat) := [(39, .istore_n 2, 1), (40, .aload_n 0, 1), (41, .getfield 128, 3), (44, .iconst 1, 1), (45, .if_icmp .ne 21, 3)]
theorem bk_M_entry_39_5_ok : jm_at mt_M_entry.2.1 bk_M_entry_39_5 = true := by decide +kernel
abbrev bk_M_entry_48_4 : List (Nat × Instr × Nat) := [(48, .aload_n 0, 1), (49, .getfield 76, 3), (52, .bipush 7, 2), (54, .dup2, 1)]
theorem bk_M_entry_48_4_ok : jm_at mt_M_entry.2.1 bk_M_entry_48_4 = true := by decide +kernel
abbrev bk_M_entry_56_2 : List (Nat × Instr × Nat) := [(56, .iconst 1, 1), (57, .iadd, 1)]
theorem bk_M_entry_56_2_ok : jm_at mt_M_entry.2.1 bk_M_entry_56_2 = true := by decide +kernel
abbrev bk_M_entry_59_1 : List (Nat × Instr × Nat) := [(59, .aload_n 0, 1)]
theorem bk_M_entry_59_1_ok : jm_at mt_M_entry.2.1 bk_M_entry_59_1 = true := by decide +kernel
abbrev bk_M_entry_63_1 : List (Nat × Instr × Nat) := [(63, .goto 71, 3)]
theorem bk_M_entry_63_1_ok : jm_at mt_M_entry.2.1 bk_M_entry_63_1 = true := by decide +kernel
abbrev bk_M_entry_66_2 : List (Nat × Instr × Nat) := [(66, .iload_n 2, 1), (67, .ifCond .eq 21, 3)]
theorem bk_M_entry_66_2_ok : jm_at mt_M_entry.2.1 bk_M_entry_66_2 = true := by decide +kernel
abbrev bk_M_entry_88_4 : List (Nat × Instr × Nat) := [(88, .aload_n 0, 1), (89, .getfield 128, 3), (92, .iconst 5, 1), (93, .if_icmp .ne 11, 3)]
theorem bk_M_entry_88_4_ok : jm_at mt_M_entry.2.1 bk_M_entry_88_4 = true := by decide +kernel
abbrev bk_M_entry_96_2 : List (Nat × Instr × Nat) := [(96, .aload_n 0, 1), (97, .iconst 1, 1)]
theorem bk_M_entry_96_2_ok : jm_at mt_M_entry.2.1 bk_M_entry_96_2 = true := by decide +kernel
abbrev bk_M_entry_101_1 : List (Nat × Instr × Nat) := [(101, .goto 33, 3)]
theorem bk_M_entry_101_1_ok : jm_at mt_M_entry.2.1 bk_M_entry_101_1 = true := by decide +kernel
abbrev bk_M_entry_104_2 : List (Nat × Instr × Nat) := [(104, .iload_n 1, 1), (105, .ifCond .eq 20, 3)]
theorem bk_M_entry_104_2_ok : jm_at mt_M_entry.2.1 bk_M_entry_104_2 = true := by decide +kernel
abbrev bk_M_entry_125_3 : List (Nat × Instr × Nat) := [(125, .aload_n 0, 1), (126, .aload_n 0, 1), (127, .getfield 131, 3)]
theorem bk_M_entry_125_3_ok : jm_at mt_M_entry.2.1 bk_M_entry_125_3 = true := by decide +kernel
abbrev bk_M_entry_108_1 : List (Nat × Instr × Nat) := [(108, .aload_n 0, 1)]
theorem bk_M_entry_108_1_ok : jm_at mt_M_entry.2.1 bk_M_entry_108_1 = true := by decide +kernel
abbrev bk_M_entry_112_1 : List (Nat × Instr × Nat) := [(112, .aload_n 0, 1)]
theorem bk_M_entry_112_1_ok : jm_at mt_M_entry.2.1 bk_M_entry_112_1 = true := by decide +kernel
abbrev bk_M_entry_116_2 : List (Nat × Instr × Nat) := [(116, .aload_n 0, 1), (117, .bipush 17, 2)]
theorem bk_M_entry_116_2_ok : jm_at mt_M_entry.2.1 bk_M_entry_116_2 = true := by decide +kernel
abbrev bk_M_entry_122_1 : List (Nat × Instr × Nat) := [(122, .goto 12, 3)]
theorem bk_M_entry_122_1_ok : jm_at mt_M_entry.2.1 bk_M_entry_122_1 = true := by decide +kernel
abbrev bk_M_entry_70_1 : List (Nat × Instr × Nat) := [(70, .aload_n 0, 1)]
theorem bk_M_entry_70_1_ok : jm_at mt_M_entry.2.1 bk_M_entry_70_1 = true := by decide +kernel
abbrev bk_M_entry_74_4 : List (Nat × Instr × Nat) := [(74, .aload_n 0, 1), (75, .getfield 76, 3), (78, .bipush 7, 2), (80, .dup2, 1)]
theorem bk_M_entry_74_4_ok : jm_at mt_M_entry.2.1 bk_M_entry_74_4 = true := by decide +kernel
abbrev bk_M_entry_82_2 : List (Nat × Instr × Nat) := [(82, .iconst 1, 1), (83, .iadd, 1)]
theorem bk_M_entry_82_2_ok : jm_at mt_M_entry.2.1 bk_M_entry_82_2 = true := by decide +kernel
abbrev bk_M_entry_85_1 : List (Nat × Instr × Nat) := [(85, .goto 49, 3)]
theorem bk_M_entry_85_1_ok : jm_at mt_M_entry.2.1 bk_M_entry_85_1 = true := by decide +kernel
abbrev bk_M_entry_134_4 : List (Nat × Instr × Nat) := [(134, .aload_n 0, 1), (135, .getfield 128, 3), (138, .bipush 22, 2), (140, .if_icmp .eq 32, 3)]
theorem bk_M_entry_134_4_ok : jm_at mt_M_entry.2.1 bk_M_entry_134_4 = true := by decide +kernel
abbrev bk_M_entry_172_1 : List (Nat × Instr × Nat) := [(172, .aload_n 0, 1)]
theorem bk_M_entry_172_1_ok : jm_at mt_M_entry.2.1 bk_M_entry_172_1 = true := by decide +kernel
abbrev bk_M_entry_176_1 : List (Nat × Instr × Nat) := [(176, .aload_n 0, 1)]
theorem bk_M_entry_176_1_ok : jm_at mt_M_entry.2.1 bk_M_entry_176_1 = true := by decide +kernel
abbrev bk_M_entry_143_2 : List (Nat × Instr × Nat) := [(143, .iload_n 1, 1), (144, .ifCond .eq 12, 3)]
theorem bk_M_entry_143_2_ok : jm_at mt_M_entry.2.1 bk_M_entry_143_2 = true := by decide +kernel
abbrev bk_M_entry_156_2 : List (Nat × Instr × Nat) := [(156, .iload_n 2, 1), (157, .ifCond .eq 14, 3)]
theorem bk_M_entry_156_2_ok : jm_at mt_M_entry.2.1 bk_M_entry_156_2 = true := by decide +kernel
abbrev bk_M_entry_160_4 : List (Nat × Instr × Nat) := [(160, .aload_n 0, 1), (161, .getfield 76, 3), (164, .bipush 11, 2), (166, .dup2, 1)]
theorem bk_M_entry_160_4_ok : jm_at mt_M_entry.2.1 bk_M_entry_160_4 = true := by decide +kernel
abbrev bk_M_entry_168_2 : List (Nat × Instr × Nat) := [(168, .iconst 1, 1), (169, .iadd, 1)]
theorem bk_M_entry_168_2_ok : jm_at mt_M_entry.2.1 bk_M_entry_168_2 = true := by decide +kernel
abbrev bk_M_entry_147_3 : List (Nat × Instr × Nat) := [(147, .aload_n 0, 1), (148, .aload_n 0, 1), (149, .getfield 131, 3)]
theorem bk_M_entry_147_3_ok : jm_at mt_M_entry.2.1 bk_M_entry_147_3 = true := by decide +kernel
abbrev bk_M_entry_180_2 : List (Nat × Instr × Nat) := [(180, .aload_n 0, 1), (181, .bipush 6, 2)]
theorem bk_M_entry_180_2_ok : jm_at mt_M_entry.2.1 bk_M_entry_180_2 = true := by decide +kernel
abbrev bk_M_entry_186_1 : List (Nat × Instr × Nat) := [(186, .ifCond .eq 21, 3)]
theorem bk_M_entry_186_1_ok : jm_at mt_M_entry.2.1 bk_M_entry_186_1 = true := by decide +kernel
abbrev bk_M_entry_189_4 : List (Nat × Instr × Nat) := [(189, .aload_n 0, 1), (190, .getfield 76, 3), (193, .bipush 16, 2), (195, .dup2, 1)]
theorem bk_M_entry_189_4_ok : jm_at mt_M_entry.2.1 bk_M_entry_189_4 = true := by decide +kernel
abbrev bk_M_entry_197_2 : List (Nat × Instr × Nat) := [(197, .iconst 1, 1), (198, .iadd, 1)]
theorem bk_M_entry_197_2_ok : jm_at mt_M_entry.2.1 bk_M_entry_197_2 = true := by decide +kernel
abbrev bk_M_entry_200_1 : List (Nat × Instr × Nat) := [(200, .aload_n 0, 1)]
theorem bk_M_entry_200_1_ok : jm_at mt_M_entry.2.1 bk_M_entry_200_1 = true := by decide +kernel
abbrev bk_M_entry_204_1 : List (Nat × Instr × Nat) := [(204, .goto (-24), 3)]
theorem bk_M_entry_204_1_ok : jm_at mt_M_entry.2.1 bk_M_entry_204_1 = true := by decide +kernel
theorem dd_M_entry_10 : decode mt_M_entry.2.1 10 = .ok (.iastore, 1) := by decide +kernel
theorem dd_M_entry_7 : decode mt_M_entry.2.1 7 = .ok (.iaload, 1) := by decide +kernel
theorem dd_M_entry_60 : decode mt_M_entry.2.1 60 = .ok (.invokevirtual 122, 3) := by decide +kernel
theorem dd_M_entry_58 : decode mt_M_entry.2.1 58 = .ok (.iastore, 1) := by decide +kernel
theorem dd_M_entry_55 : decode mt_M_entry.2.1 55 = .ok (.iaload, 1) := by decide +kernel
theorem dd_M_entry_98 : decode mt_M_entry.2.1 98 = .ok (.invokevirtual 250, 3) := by decide +kernel
theorem dd_M_entry_130 : decode mt_M_entry.2.1 130 = .ok (.invokevirtual 134, 3) := by decide +kernel
theorem dd_M_entry_133 : decode mt_M_entry.2.1 133 = .ok (.athrow, 1) := by decide +kernel
theorem dd_M_entry_109 : decode mt_M_entry.2.1 109 = .ok (.invokevirtual 122, 3) := by decide +kernel
theorem dd_M_entry_113 : decode mt_M_entry.2.1 113 = .ok (.invokevirtual 125, 3) := by decide +kernel
theorem dd_M_entry_119 : decode mt_M_entry.2.1 119 = .ok (.invokevirtual 199, 3) := by decide +kernel
theorem dd_M_entry_71 : decode mt_M_entry.2.1 71 = .ok (.invokevirtual 260, 3) := by decide +kernel
theorem dd_M_entry_84 : decode mt_M_entry.2.1 84 = .ok (.iastore, 1) := by decide +kernel
theorem dd_M_entry_81 : decode mt_M_entry.2.1 81 = .ok (.iaload, 1) := by decide +kernel
theorem dd_M_entry_173 : decode mt_M_entry.2.1 173 = .ok (.invokevirtual 122, 3) := by decide +kernel
theorem dd_M_entry_177 : decode mt_M_entry.2.1 177 = .ok (.invokevirtual 231, 3) := by decide +kernel
theorem dd_M_entry_170 : decode mt_M_entry.2.1 170 = .ok (.iastore, 1) := by decide +kernel
theorem dd_M_entry_167 : decode mt_M_entry.2.1 167 = .ok (.iaload, 1) := by decide +kernel
theorem dd_M_entry_152 : decode mt_M_entry.2.1 152 = .ok (.invokevirtual 134, 3) := by decide +kernel
theorem dd_M_entry_155 : decode mt_M_entry.2.1 155 = .ok (.athrow, 1) := by decide +kernel
theorem dd_M_entry_171 : decode mt_M_entry.2.1 171 = .ok (.return_, 1) := by decide +kernel
theorem dd_M_entry_183 : decode mt_M_entry.2.1 183 = .ok (.invokevirtual 184, 3) := by decide +kernel
theorem dd_M_entry_207 : decode mt_M_entry.2.1 207 = .ok (.return_, 1) := by decide +kernel
theorem dd_M_entry_201 : decode mt_M_entry.2.1 201 = .ok (.invokevirtual 231, 3) := by decide +kernel
theorem dd_M_entry_199 : decode mt_M_entry.2.1 199 = .ok (.iastore, 1) := by decide +kernel
theorem dd_M_entry_196 : decode mt_M_entry.2.1 196 = .ok (.iaload, 1) := by decide +kernel
def J_M_entry_171 (K : Nat) (g : jm_Rec)  (x : jm_X) : Option jm_R := some (.inl (none, x))
set_option maxRecDepth 100000 in
set_option maxHeartbeats 4000000 in
theorem jj_M_entry_171 {l : Launch} {D : va_G} {ad : Nat → Nat} {aC : Nat → ClassId} {b0 : Nat} {K d0 : Nat} {g : jm_Rec} (hok : jm_Ok (jm_PP l D clR ad aC shR b0 0)) (hrec : ∀ (t : Nat) (av : List Value) (x : jm_X), jm_Con (jm_PP l D clR ad aC shR b0 0) (rcR t) d0 av x (g t av x))  (x : jm_X) : jm_V (jm_PP l D clR ad aC shR b0 0) mt_M_entry (d0 + 6) 171 [] [] x (J_M_entry_171 K g  x) := by
  have hT := tk_M (l := l) (D := D) (ad := ad) (aC := aC) (b0 := b0)
  unfold J_M_entry_171
  exact jm_V.vret rfl dd_M_entry_171
def B_M_entry_180 (K : Nat) (g : jm_Rec) (self : jm_X → Option jm_R)  (x : jm_X) : Option jm_R := jm_bI (f_M_skip_i K g 6 x) (fun b18 x17 => (if b18 = 0 then some (.inl (none, x17)) else (if jm_in shR 4 .int 16 then (if jm_in shR 4 .int 16 then jm_then (jm_ua x17 4 16 ((x17.2.2 4 (Int32.toNatClampNeg 16)) + 1)) (fun x19 => jm_bV (g 1 [.ref 0] x19) (fun x20 => self x20)) else none) else none)))
def L_M_entry_180 (K : Nat) (g : jm_Rec) : Nat → jm_X → Option jm_R
  | 0, _ => none
  | k + 1, x => B_M_entry_180 K g (L_M_entry_180 K g k)  x
set_option maxRecDepth 100000 in
set_option maxHeartbeats 4000000 in
theorem jb_M_entry_180 {l : Launch} {D : va_G} {ad : Nat → Nat} {aC : Nat → ClassId} {b0 : Nat} {K d0 : Nat} {g : jm_Rec} (hok : jm_Ok (jm_PP l D clR ad aC shR b0 0)) (hrec : ∀ (t : Nat) (av : List Value) (x : jm_X), jm_Con (jm_PP l D clR ad aC shR b0 0) (rcR t) d0 av x (g t av x)) {self : jm_X → Option jm_R} (hself : ∀  (x : jm_X), jm_V (jm_PP l D clR ad aC shR b0 0) mt_M_entry (d0 + 6) 180 [(0, .ref 0)] [] x (self  x))  (x : jm_X) : jm_V (jm_PP l D clR ad aC shR b0 0) mt_M_entry (d0 + 6) 180 [(0, .ref 0)] [] x (B_M_entry_180 K g self  x) := by
  have hT := tk_M (l := l) (D := D) (ad := ad) (aC := aC) (b0 := b0)
  unfold B_M_entry_180
  refine jm_V.run (is := bk_M_entry_180_2) (pc' := 183) (ls' := [(0, .ref 0)]) (st' := [.int 6, .ref 0]) (x' := x) hok hT bk_M_entry_180_2_ok rfl ?_
  refine jm_V.callI (av := [.ref 0, .int 6]) (rest := []) hok (jm_Con.mono (c_M_skip_i hok hrec 6 x) (by omega)) (jm_Inv.obj (q := ("FilterReaderModel", T_M, 22)) dd_M_entry_183 (Or.inl lk_M_184) mn_M_skip_i ms_M_skip_i mw_M_skip_i mh_M_skip_i ml_M_skip_i rfl rfl) mw_M_skip_i mi_M (Nat.le_of_ble_eq_true rfl) (Nat.le_of_ble_eq_true rfl) (fun b18 x17 => ?_)
  refine jm_V.run (is := bk_M_entry_186_1) (pc' := (if b18 = 0 then 207 else 189)) (ls' := [(0, .ref 0)]) (st' := []) (x' := x17) hok hT bk_M_entry_186_1_ok rfl ?_
  refine jm_V.ite (fun _ => ?_) (fun _ => ?_)
  · exact jm_V.vret rfl dd_M_entry_207
  · refine jm_V.run (is := bk_M_entry_189_4) (pc' := 196) (ls' := [(0, .ref 0)]) (st' := [.int 16, .ref 4, .int 16, .ref 4]) (x' := x17) hok hT bk_M_entry_189_4_ok rfl ?_
    refine jm_V.iald dd_M_entry_196 ?_
    refine jm_V.run (is := bk_M_entry_197_2) (pc' := 199) (ls' := [(0, .ref 0)]) (st' := [.int ((x17.2.2 4 (Int32.toNatClampNeg 16)) + 1), .int 16, .ref 4]) (x' := x17) hok hT bk_M_entry_197_2_ok rfl ?_
    refine jm_V.iast hok dd_M_entry_199 ?_
    refine jm_V.then_ (fun x19 => ?_)
    refine jm_V.run (is := bk_M_entry_200_1) (pc' := 201) (ls' := [(0, .ref 0)]) (st' := [.ref 0]) (x' := x19) hok hT bk_M_entry_200_1_ok rfl ?_
    refine jm_V.callV (av := [.ref 0]) (rest := []) hok (jm_Con.mono (hrec 1 [.ref 0] x19) (by omega)) (jm_Inv.obj (q := ("FilterReaderModel", T_M, 22)) dd_M_entry_201 (Or.inl lk_M_231) mn_M_term ms_M_term mw_M_term mh_M_term ml_M_term rfl rfl) mw_M_term mi_M (Nat.le_of_ble_eq_true rfl) (Nat.le_of_ble_eq_true rfl) (fun x20 => ?_)
    refine jm_V.run (is := bk_M_entry_204_1) (pc' := 180) (ls' := [(0, .ref 0)]) (st' := []) (x' := x20) hok hT bk_M_entry_204_1_ok rfl ?_
    exact hself x20
theorem jl_M_entry_180 {l : Launch} {D : va_G} {ad : Nat → Nat} {aC : Nat → ClassId} {b0 : Nat} {K d0 : Nat} {g : jm_Rec} (hok : jm_Ok (jm_PP l D clR ad aC shR b0 0)) (hrec : ∀ (t : Nat) (av : List Value) (x : jm_X), jm_Con (jm_PP l D clR ad aC shR b0 0) (rcR t) d0 av x (g t av x)) : ∀ (k : Nat)  (x : jm_X), jm_V (jm_PP l D clR ad aC shR b0 0) mt_M_entry (d0 + 6) 180 [(0, .ref 0)] [] x (L_M_entry_180 K g k  x)
  | 0, _ => jm_V.stuck
  | k + 1, x => jb_M_entry_180 hok hrec (fun  x => jl_M_entry_180 hok hrec k  x)  x
def J_M_entry_134 (K : Nat) (g : jm_Rec) (v1 : Int32) (v2 : Int32) (x : jm_X) : Option jm_R := (if (x.1 11) = 22 then jm_bV (f_M_scan K g x) (fun x12 => jm_bV (g 1 [.ref 0] x12) (fun x13 => L_M_entry_180 K g K x13)) else (if v1 = 0 then (if v2 = 0 then J_M_entry_171 K g x else (if jm_in shR 4 .int 11 then (if jm_in shR 4 .int 11 then jm_then (jm_ua x 4 11 ((x.2.2 4 (Int32.toNatClampNeg 11)) + 1)) (fun x14 => J_M_entry_171 K g x14) else none) else none)) else jm_bA (f_M_bad K g (x.1 9) x) (fun b16 x15 => (if b16 = 2 then some (.inr ("java/lang/IllegalStateException", x15)) else none))))
set_option maxRecDepth 100000 in
set_option maxHeartbeats 4000000 in
theorem jj_M_entry_134 {l : Launch} {D : va_G} {ad : Nat → Nat} {aC : Nat → ClassId} {b0 : Nat} {K d0 : Nat} {g : jm_Rec} (hok : jm_Ok (jm_PP l D clR ad aC shR b0 0)) (hrec : ∀ (t : Nat) (av : List Value) (x : jm_X), jm_Con (jm_PP l D clR ad aC shR b0 0) (rcR t) d0 av x (g t av x)) (v1 : Int32) (v2 : Int32) (x : jm_X) : jm_V (jm_PP l D clR ad aC shR b0 0) mt_M_entry (d0 + 6) 134 [(0, .ref 0), (1, .int v1), (2, .int v2)] [] x (J_M_entry_134 K g v1 v2 x) := by
  have hT := tk_M (l := l) (D := D) (ad := ad) (aC := aC) (b0 := b0)
  unfold J_M_entry_134
  refine jm_V.run (is := bk_M_entry_134_4) (pc' := (if (x.1 11) = 22 then 172 else 143)) (ls' := [(0, .ref 0), (1, .int v1), (2, .int v2)]) (st' := []) (x' := x) hok hT bk_M_entry_134_4_ok rfl ?_
  refine jm_V.ite (fun _ => ?_) (fun _ => ?_)
  · refine jm_V.run (is := bk_M_entry_172_1) (pc' := 173) (ls' := [(0, .ref 0), (1, .int v1), (2, .int v2)]) (st' := [.ref 0]) (x' := x) hok hT bk_M_entry_172_1_ok rfl ?_
    refine jm_V.callV (av := [.ref 0]) (rest := []) hok (jm_Con.mono (c_M_scan hok hrec x) (by omega)) (jm_Inv.obj (q := ("FilterReaderModel", T_M, 22)) dd_M_entry_173 (Or.inl lk_M_122) mn_M_scan ms_M_scan mw_M_scan mh_M_scan ml_M_scan rfl rfl) mw_M_scan mi_M (Nat.le_of_ble_eq_true rfl) (Nat.le_of_ble_eq_true rfl) (fun x12 => ?_)
    refine jm_V.run (is := bk_M_entry_176_1) (pc' := 177) (ls' := [(0, .ref 0), (1, .int v1), (2, .int v2)]) (st' := [.ref 0]) (x' := x12) hok hT bk_M_entry_176_1_ok rfl ?_
    refine jm_V.callV (av := [.ref 0]) (rest := []) hok (jm_Con.mono (hrec 1 [.ref 0] x12) (by omega)) (jm_Inv.obj (q := ("FilterReaderModel", T_M, 22)) dd_M_entry_177 (Or.inl lk_M_231) mn_M_term ms_M_term mw_M_term mh_M_term ml_M_term rfl rfl) mw_M_term mi_M (Nat.le_of_ble_eq_true rfl) (Nat.le_of_ble_eq_true rfl) (fun x13 => ?_)
    refine jm_V.sub (ls' := [(0, .ref 0)]) [0] rfl ?_
    exact jl_M_entry_180 hok hrec K x13
  · refine jm_V.run (is := bk_M_entry_143_2) (pc' := (if v1 = 0 then 156 else 147)) (ls' := [(0, .ref 0), (1, .int v1), (2, .int v2)]) (st' := []) (x' := x) hok hT bk_M_entry_143_2_ok rfl ?_
    refine jm_V.ite (fun _ => ?_) (fun _ => ?_)
    · refine jm_V.run (is := bk_M_entry_156_2) (pc' := (if v2 = 0 then 171 else 160)) (ls' := [(0, .ref 0), (1, .int v1), (2, .int v2)]) (st' := []) (x' := x) hok hT bk_M_entry_156_2_ok rfl ?_
      refine jm_V.ite (fun _ => ?_) (fun _ => ?_)
      · refine jm_V.sub (ls' := []) [] rfl ?_
        exact jj_M_entry_171 hok hrec x
      · refine jm_V.run (is := bk_M_entry_160_4) (pc' := 167) (ls' := [(0, .ref 0), (1, .int v1), (2, .int v2)]) (st' := [.int 11, .ref 4, .int 11, .ref 4]) (x' := x) hok hT bk_M_entry_160_4_ok rfl ?_
        refine jm_V.iald dd_M_entry_167 ?_
        refine jm_V.run (is := bk_M_entry_168_2) (pc' := 170) (ls' := [(0, .ref 0), (1, .int v1), (2, .int v2)]) (st' := [.int ((x.2.2 4 (Int32.toNatClampNeg 11)) + 1), .int 11, .ref 4]) (x' := x) hok hT bk_M_entry_168_2_ok rfl ?_
        refine jm_V.iast hok dd_M_entry_170 ?_
        refine jm_V.then_ (fun x14 => ?_)
        refine jm_V.sub (ls' := []) [] rfl ?_
        exact jj_M_entry_171 hok hrec x14
    · refine jm_V.run (is := bk_M_entry_147_3) (pc' := 152) (ls' := [(0, .ref 0), (1, .int v1), (2, .int v2)]) (st' := [.int (x.1 9), .ref 0]) (x' := x) hok hT bk_M_entry_147_3_ok rfl ?_
      refine jm_V.callA (av := [.ref 0, .int (x.1 9)]) (rest := []) hok (jm_Con.mono (c_M_bad hok hrec (x.1 9) x) (by omega)) (jm_Inv.obj (q := ("FilterReaderModel", T_M, 22)) dd_M_entry_152 (Or.inl lk_M_134) mn_M_bad ms_M_bad mw_M_bad mh_M_bad ml_M_bad rfl rfl) mw_M_bad mi_M (Nat.le_of_ble_eq_true rfl) (Nat.le_of_ble_eq_true rfl) (fun b16 x15 => ?_)
      exact jm_V.athrowS (o := 2) (q := ("java/lang/IllegalStateException", T_X, 0)) rfl rfl dd_M_entry_155
def J_M_entry_39 (K : Nat) (g : jm_Rec) (v1 : Int32) (s0 : Int32) (x : jm_X) : Option jm_R := (if (x.1 11) = 1 then (if jm_in shR 4 .int 7 then (if jm_in shR 4 .int 7 then jm_then (jm_ua x 4 7 ((x.2.2 4 (Int32.toNatClampNeg 7)) + 1)) (fun x2 => jm_bV (f_M_scan K g x2) (fun x3 => J_M_entry_134 K g v1 s0 x3)) else none) else none) else (if s0 = 0 then (if (x.1 11) = 5 then jm_bV (f_M_string K g 1 x) (fun x4 => J_M_entry_134 K g v1 s0 x4) else (if v1 = 0 then jm_bA (f_M_bad K g (x.1 9) x) (fun b6 x5 => (if b6 = 2 then some (.inr ("java/lang/IllegalStateException", x5)) else none)) else jm_bV (f_M_scan K g x) (fun x7 => jm_bV (g 0 [.ref 0] x7) (fun x8 => jm_bV (f_M_need_i K g 17 x8) (fun x9 => J_M_entry_134 K g v1 s0 x9))))) else jm_bV (f_M_variable K g x) (fun x10 => (if jm_in shR 4 .int 7 then (if jm_in shR 4 .int 7 then jm_then (jm_ua x10 4 7 ((x10.2.2 4 (Int32.toNatClampNeg 7)) + 1)) (fun x11 => J_M_entry_134 K g v1 s0 x11) else none) else none))))
set_option maxRecDepth 100000 in
set_option maxHeartbeats 4000000 in
theorem jj_M_entry_39 {l : Launch} {D : va_G} {ad : Nat → Nat} {aC : Nat → ClassId} {b0 : Nat} {K d0 : Nat} {g : jm_Rec} (hok : jm_Ok (jm_PP l D clR ad aC shR b0 0)) (hrec : ∀ (t : Nat) (av : List Value) (x : jm_X), jm_Con (jm_PP l D clR ad aC shR b0 0) (rcR t) d0 av x (g t av x)) (v1 : Int32) (s0 : Int32) (x : jm_X) : jm_V (jm_PP l D clR ad aC shR b0 0) mt_M_entry (d0 + 6) 39 [(0, .ref 0), (1, .int v1)] [.int s0] x (J_M_entry_39 K g v1 s0 x) := by
  have hT := tk_M (l := l) (D := D) (ad := ad) (aC := aC) (b0 := b0)
  unfold J_M_entry_39
  refine jm_V.run (is := bk_M_entry_39_5) (pc' := (if (x.1 11) = 1 then 48 else 66)) (ls' := [(2, .int s0), (0, .ref 0), (1, .int v1)]) (st' := []) (x' := x) hok hT bk_M_entry_39_5_ok rfl ?_
  refine jm_V.ite (fun _ => ?_) (fun _ => ?_)
  · refine jm_V.run (is := bk_M_entry_48_4) (pc' := 55) (ls' := [(2, .int s0), (0, .ref 0), (1, .int v1)]) (st' := [.int 7, .ref 4, .int 7, .ref 4]) (x' := x) hok hT bk_M_entry_48_4_ok rfl ?_
    refine jm_V.iald dd_M_entry_55 ?_
    refine jm_V.run (is := bk_M_entry_56_2) (pc' := 58) (ls' := [(2, .int s0), (0, .ref 0), (1, .int v1)]) (st' := [.int ((x.2.2 4 (Int32.toNatClampNeg 7)) + 1), .int 7, .ref 4]) (x' := x) hok hT bk_M_entry_56_2_ok rfl ?_
    refine jm_V.iast hok dd_M_entry_58 ?_
    refine jm_V.then_ (fun x2 => ?_)
    refine jm_V.run (is := bk_M_entry_59_1) (pc' := 60) (ls' := [(2, .int s0), (0, .ref 0), (1, .int v1)]) (st' := [.ref 0]) (x' := x2) hok hT bk_M_entry_59_1_ok rfl ?_
    refine jm_V.callV (av := [.ref 0]) (rest := []) hok (jm_Con.mono (c_M_scan hok hrec x2) (by omega)) (jm_Inv.obj (q := ("FilterReaderModel", T_M, 22)) dd_M_entry_60 (Or.inl lk_M_122) mn_M_scan ms_M_scan mw_M_scan mh_M_scan ml_M_scan rfl rfl) mw_M_scan mi_M (Nat.le_of_ble_eq_true rfl) (Nat.le_of_ble_eq_true rfl) (fun x3 => ?_)
    refine jm_V.run (is := bk_M_entry_63_1) (pc' := 134) (ls' := [(2, .int s0), (0, .ref 0), (1, .int v1)]) (st' := []) (x' := x3) hok hT bk_M_entry_63_1_ok rfl ?_
    refine jm_V.sub (ls' := [(0, .ref 0), (1, .int v1), (2, .int s0)]) [1, 2, 0] rfl ?_
    exact jj_M_entry_134 hok hrec v1 s0 x3
  · refine jm_V.run (is := bk_M_entry_66_2) (pc' := (if s0 = 0 then 88 else 70)) (ls' := [(2, .int s0), (0, .ref 0), (1, .int v1)]) (st' := []) (x' := x) hok hT bk_M_entry_66_2_ok rfl ?_
    refine jm_V.ite (fun _ => ?_) (fun _ => ?_)
    · refine jm_V.run (is := bk_M_entry_88_4) (pc' := (if (x.1 11) = 5 then 96 else 104)) (ls' := [(2, .int s0), (0, .ref 0), (1, .int v1)]) (st' := []) (x' := x) hok hT bk_M_entry_88_4_ok rfl ?_
      refine jm_V.ite (fun _ => ?_) (fun _ => ?_)
      · refine jm_V.run (is := bk_M_entry_96_2) (pc' := 98) (ls' := [(2, .int s0), (0, .ref 0), (1, .int v1)]) (st' := [.int 1, .ref 0]) (x' := x) hok hT bk_M_entry_96_2_ok rfl ?_
        refine jm_V.callV (av := [.ref 0, .int 1]) (rest := []) hok (jm_Con.mono (c_M_string hok hrec 1 x) (by omega)) (jm_Inv.obj (q := ("FilterReaderModel", T_M, 22)) dd_M_entry_98 (Or.inl lk_M_250) mn_M_string ms_M_string mw_M_string mh_M_string ml_M_string rfl rfl) mw_M_string mi_M (Nat.le_of_ble_eq_true rfl) (Nat.le_of_ble_eq_true rfl) (fun x4 => ?_)
        refine jm_V.run (is := bk_M_entry_101_1) (pc' := 134) (ls' := [(2, .int s0), (0, .ref 0), (1, .int v1)]) (st' := []) (x' := x4) hok hT bk_M_entry_101_1_ok rfl ?_
        refine jm_V.sub (ls' := [(0, .ref 0), (1, .int v1), (2, .int s0)]) [1, 2, 0] rfl ?_
        exact jj_M_entry_134 hok hrec v1 s0 x4
      · refine jm_V.run (is := bk_M_entry_104_2) (pc' := (if v1 = 0 then 125 else 108)) (ls' := [(2, .int s0), (0, .ref 0), (1, .int v1)]) (st' := []) (x' := x) hok hT bk_M_entry_104_2_ok rfl ?_
        refine jm_V.ite (fun _ => ?_) (fun _ => ?_)
        · refine jm_V.run (is := bk_M_entry_125_3) (pc' := 130) (ls' := [(2, .int s0), (0, .ref 0), (1, .int v1)]) (st' := [.int (x.1 9), .ref 0]) (x' := x) hok hT bk_M_entry_125_3_ok rfl ?_
          refine jm_V.callA (av := [.ref 0, .int (x.1 9)]) (rest := []) hok (jm_Con.mono (c_M_bad hok hrec (x.1 9) x) (by omega)) (jm_Inv.obj (q := ("FilterReaderModel", T_M, 22)) dd_M_entry_130 (Or.inl lk_M_134) mn_M_bad ms_M_bad mw_M_bad mh_M_bad ml_M_bad rfl rfl) mw_M_bad mi_M (Nat.le_of_ble_eq_true rfl) (Nat.le_of_ble_eq_true rfl) (fun b6 x5 => ?_)
          exact jm_V.athrowS (o := 2) (q := ("java/lang/IllegalStateException", T_X, 0)) rfl rfl dd_M_entry_133
        · refine jm_V.run (is := bk_M_entry_108_1) (pc' := 109) (ls' := [(2, .int s0), (0, .ref 0), (1, .int v1)]) (st' := [.ref 0]) (x' := x) hok hT bk_M_entry_108_1_ok rfl ?_
          refine jm_V.callV (av := [.ref 0]) (rest := []) hok (jm_Con.mono (c_M_scan hok hrec x) (by omega)) (jm_Inv.obj (q := ("FilterReaderModel", T_M, 22)) dd_M_entry_109 (Or.inl lk_M_122) mn_M_scan ms_M_scan mw_M_scan mh_M_scan ml_M_scan rfl rfl) mw_M_scan mi_M (Nat.le_of_ble_eq_true rfl) (Nat.le_of_ble_eq_true rfl) (fun x7 => ?_)
          refine jm_V.run (is := bk_M_entry_112_1) (pc' := 113) (ls' := [(2, .int s0), (0, .ref 0), (1, .int v1)]) (st' := [.ref 0]) (x' := x7) hok hT bk_M_entry_112_1_ok rfl ?_
          refine jm_V.callV (av := [.ref 0]) (rest := []) hok (jm_Con.mono (hrec 0 [.ref 0] x7) (by omega)) (jm_Inv.obj (q := ("FilterReaderModel", T_M, 22)) dd_M_entry_113 (Or.inl lk_M_125) mn_M_program ms_M_program mw_M_program mh_M_program ml_M_program rfl rfl) mw_M_program mi_M (Nat.le_of_ble_eq_true rfl) (Nat.le_of_ble_eq_true rfl) (fun x8 => ?_)
          refine jm_V.run (is := bk_M_entry_116_2) (pc' := 119) (ls' := [(2, .int s0), (0, .ref 0), (1, .int v1)]) (st' := [.int 17, .ref 0]) (x' := x8) hok hT bk_M_entry_116_2_ok rfl ?_
          refine jm_V.callV (av := [.ref 0, .int 17]) (rest := []) hok (jm_Con.mono (c_M_need_i hok hrec 17 x8) (by omega)) (jm_Inv.obj (q := ("FilterReaderModel", T_M, 22)) dd_M_entry_119 (Or.inl lk_M_199) mn_M_need_i ms_M_need_i mw_M_need_i mh_M_need_i ml_M_need_i rfl rfl) mw_M_need_i mi_M (Nat.le_of_ble_eq_true rfl) (Nat.le_of_ble_eq_true rfl) (fun x9 => ?_)
          refine jm_V.run (is := bk_M_entry_122_1) (pc' := 134) (ls' := [(2, .int s0), (0, .ref 0), (1, .int v1)]) (st' := []) (x' := x9) hok hT bk_M_entry_122_1_ok rfl ?_
          refine jm_V.sub (ls' := [(0, .ref 0), (1, .int v1), (2, .int s0)]) [1, 2, 0] rfl ?_
          exact jj_M_entry_134 hok hrec v1 s0 x9
    · refine jm_V.run (is := bk_M_entry_70_1) (pc' := 71) (ls' := [(2, .int s0), (0, .ref 0), (1, .int v1)]) (st' := [.ref 0]) (x' := x) hok hT bk_M_entry_70_1_ok rfl ?_
      refine jm_V.callV (av := [.ref 0]) (rest := []) hok (jm_Con.mono (c_M_variable hok hrec x) (by omega)) (jm_Inv.obj (q := ("FilterReaderModel", T_M, 22)) dd_M_entry_71 (Or.inl lk_M_260) mn_M_variable ms_M_variable mw_M_variable mh_M_variable ml_M_variable rfl rfl) mw_M_variable mi_M (Nat.le_of_ble_eq_true rfl) (Nat.le_of_ble_eq_true rfl) (fun x10 => ?_)
      refine jm_V.run (is := bk_M_entry_74_4) (pc' := 81) (ls' := [(2, .int s0), (0, .ref 0), (1, .int v1)]) (st' := [.int 7, .ref 4, .int 7, .ref 4]) (x' := x10) hok hT bk_M_entry_74_4_ok rfl ?_
      refine jm_V.iald dd_M_entry_81 ?_
      refine jm_V.run (is := bk_M_entry_82_2) (pc' := 84) (ls' := [(2, .int s0), (0, .ref 0), (1, .int v1)]) (st' := [.int ((x10.2.2 4 (Int32.toNatClampNeg 7)) + 1), .int 7, .ref 4]) (x' := x10) hok hT bk_M_entry_82_2_ok rfl ?_
      refine jm_V.iast hok dd_M_entry_84 ?_
      refine jm_V.then_ (fun x11 => ?_)
      refine jm_V.run (is := bk_M_entry_85_1) (pc' := 134) (ls' := [(2, .int s0), (0, .ref 0), (1, .int v1)]) (st' := []) (x' := x11) hok hT bk_M_entry_85_1_ok rfl ?_
      refine jm_V.sub (ls' := [(0, .ref 0), (1, .int v1), (2, .int s0)]) [1, 2, 0] rfl ?_
      exact jj_M_entry_134 hok hrec v1 s0 x11
def J_M_entry_25 (K : Nat) (g : jm_Rec) (s0 : Int32) (x : jm_X) : Option jm_R := (if (x.1 11) = 3 then J_M_entry_39 K g s0 1 x else J_M_entry_39 K g s0 0 x)
set_option maxRecDepth 100000 in
set_option maxHeartbeats 4000000 in
theorem jj_M_entry_25 {l : Launch} {D : va_G} {ad : Nat → Nat} {aC : Nat → ClassId} {b0 : Nat} {K d0 : Nat} {g : jm_Rec} (hok : jm_Ok (jm_PP l D clR ad aC shR b0 0)) (hrec : ∀ (t : Nat) (av : List Value) (x : jm_X), jm_Con (jm_PP l D clR ad aC shR b0 0) (rcR t) d0 av x (g t av x)) (s0 : Int32) (x : jm_X) : jm_V (jm_PP l D clR ad aC shR b0 0) mt_M_entry (d0 + 6) 25 [(0, .ref 0)] [.int s0] x (J_M_entry_25 K g s0 x) := by
  have hT := tk_M (l := l) (D := D) (ad := ad) (aC := aC) (b0 := b0)
  unfold J_M_entry_25
  refine jm_V.run (is := bk_M_entry_25_5) (pc' := (if (x.1 11) = 3 then 34 else 38)) (ls' := [(1, .int s0), (0, .ref 0)]) (st' := []) (x' := x) hok hT bk_M_entry_25_5_ok rfl ?_
  refine jm_V.ite (fun _ => ?_) (fun _ => ?_)
  · refine jm_V.run (is := bk_M_entry_34_2) (pc' := 39) (ls' := [(1, .int s0), (0, .ref 0)]) (st' := [.int 1]) (x' := x) hok hT bk_M_entry_34_2_ok rfl ?_
    refine jm_V.sub (ls' := [(0, .ref 0), (1, .int s0)]) [1, 0] rfl ?_
    exact jj_M_entry_39 hok hrec s0 1 x
  · refine jm_V.run (is := bk_M_entry_38_1) (pc' := 39) (ls' := [(1, .int s0), (0, .ref 0)]) (st' := [.int 0]) (x' := x) hok hT bk_M_entry_38_1_ok rfl ?_
    refine jm_V.sub (ls' := [(0, .ref 0), (1, .int s0)]) [1, 0] rfl ?_
    exact jj_M_entry_39 hok hrec s0 0 x
def f_M_entry (K : Nat) (g : jm_Rec)  (x : jm_X) : Option jm_R := (if jm_in shR 4 .int 33 then (if jm_in shR 4 .int 33 then jm_then (jm_ua x 4 33 ((x.2.2 4 (Int32.toNatClampNeg 33)) + 1)) (fun x1 => (if (x1.1 11) = 16 then J_M_entry_25 K g 1 x1 else J_M_entry_25 K g 0 x1)) else none) else none)
set_option maxRecDepth 100000 in
set_option maxHeartbeats 4000000 in
theorem c_M_entry {l : Launch} {D : va_G} {ad : Nat → Nat} {aC : Nat → ClassId} {b0 : Nat} {K d0 : Nat} {g : jm_Rec} (hok : jm_Ok (jm_PP l D clR ad aC shR b0 0)) (hrec : ∀ (t : Nat) (av : List Value) (x : jm_X), jm_Con (jm_PP l D clR ad aC shR b0 0) (rcR t) d0 av x (g t av x))  (x : jm_X) : jm_Con (jm_PP l D clR ad aC shR b0 0) mt_M_entry (d0 + 6) [.ref 0] x (f_M_entry K g  x) := by
  refine jm_Con.of (plainFor_of_name (by decide +kernel)) (Nat.le_of_ble_eq_true rfl) ?_
  have hT := tk_M (l := l) (D := D) (ad := ad) (aC := aC) (b0 := b0)
  unfold f_M_entry
  show jm_V _ _ _ 0 [(0, .ref 0)] [] x _
  refine jm_V.run (is := bk_M_entry_0_4) (pc' := 7) (ls' := [(0, .ref 0)]) (st' := [.int 33, .ref 4, .int 33, .ref 4]) (x' := x) hok hT bk_M_entry_0_4_ok rfl ?_
  refine jm_V.iald dd_M_entry_7 ?_
  refine jm_V.run (is := bk_M_entry_8_2) (pc' := 10) (ls' := [(0, .ref 0)]) (st' := [.int ((x.2.2 4 (Int32.toNatClampNeg 33)) + 1), .int 33, .ref 4]) (x' := x) hok hT bk_M_entry_8_2_ok rfl ?_
  refine jm_V.iast hok dd_M_entry_10 ?_
  refine jm_V.then_ (fun x1 => ?_)
  refine jm_V.run (is := bk_M_entry_11_4) (pc' := (if (x1.1 11) = 16 then 20 else 24)) (ls' := [(0, .ref 0)]) (st' := []) (x' := x1) hok hT bk_M_entry_11_4_ok rfl ?_
  refine jm_V.ite (fun _ => ?_) (fun _ => ?_)
  · refine jm_V.run (is := bk_M_entry_20_2) (pc' := 25) (ls' := [(0, .ref 0)]) (st' := [.int 1]) (x' := x1) hok hT bk_M_entry_20_2_ok rfl ?_
    exact jj_M_entry_25 hok hrec 1 x1
  · refine jm_V.run (is := bk_M_entry_24_1) (pc' := 25) (ls' := [(0, .ref 0)]) (st' := [.int 0]) (x' := x1) hok hT bk_M_entry_24_1_ok rfl ?_
    exact jj_M_entry_25 hok hrec 0 x1
abbrev bk_M_object_0_4 : List (Nat × Instr × Nat) := [(0, .aload_n 0, 1), (1, .getfield 76, 3), (4, .bipush 10, 2), (6, .dup2, 1)]
theorem bk_M_object_0_4_ok : jm_at mt_M_object.2.1 bk_M_object_0_4 = true := by decide +kernel
abbrev bk_M_object_8_2 : List (Nat × Instr × Nat) := [(8, .iconst 1, 1), (9, .iadd, 1)]
theorem bk_M_object_8_2_ok : jm_at mt_M_object.2.1 bk_M_object_8_2 = true := by decide +kernel
abbrev bk_M_object_11_1 : List (Nat × Instr × Nat) := [(11, .aload_n 0, 1)]
theorem bk_M_object_11_1_ok : jm_at mt_M_object.2.1 bk_M_object_11_1 = true := by decide +kernel
abbrev bk_M_object_15_1 : List (Nat × Instr × Nat) := [(15, .aload_n 0, 1)]
theorem bk_M_object_15_1_ok : jm_at mt_M_object.2.1 bk_M_object_15_1 = true := by decide +kernel
abbrev bk_M_object_19_4 : List (Nat × Instr × Nat) := [(19, .aload_n 0, 1), (20, .getfield 128, 3), (23, .bipush 21, 2), (25, .if_icmp .eq 23, 3)]
theorem bk_M_object_19_4_ok : jm_at mt_M_object.2.1 bk_M_object_19_4 = true := by decide +kernel
abbrev bk_M_object_28_1 : List (Nat × Instr × Nat) := [(28, .aload_n 0, 1)]
theorem bk_M_object_28_1_ok : jm_at mt_M_object.2.1 bk_M_object_28_1 = true := by decide +kernel
abbrev bk_M_object_32_2 : List (Nat × Instr × Nat) := [(32, .aload_n 0, 1), (33, .bipush 7, 2)]
theorem bk_M_object_32_2_ok : jm_at mt_M_object.2.1 bk_M_object_32_2 = true := by decide +kernel
abbrev bk_M_object_38_1 : List (Nat × Instr × Nat) := [(38, .ifCond .eq 10, 3)]
theorem bk_M_object_38_1_ok : jm_at mt_M_object.2.1 bk_M_object_38_1 = true := by decide +kernel
abbrev bk_M_object_41_1 : List (Nat × Instr × Nat) := [(41, .aload_n 0, 1)]
theorem bk_M_object_41_1_ok : jm_at mt_M_object.2.1 bk_M_object_41_1 = true := by decide +kernel
abbrev bk_M_object_45_1 : List (Nat × Instr × Nat) := [(45, .goto (-13), 3)]
theorem bk_M_object_45_1_ok : jm_at mt_M_object.2.1 bk_M_object_45_1 = true := by decide +kernel
abbrev bk_M_object_48_2 : List (Nat × Instr × Nat) := [(48, .aload_n 0, 1), (49, .bipush 21, 2)]
theorem bk_M_object_48_2_ok : jm_at mt_M_object.2.1 bk_M_object_48_2 = true := by decide +kernel
abbrev bk_M_object_54_6 : List (Nat × Instr × Nat) := [(54, .aload_n 0, 1), (55, .dup, 1), (56, .getfield 116, 3), (59, .iconst 1, 1), (60, .isub, 1), (61, .putfield 116, 3)]
theorem bk_M_object_54_6_ok : jm_at mt_M_object.2.1 bk_M_object_54_6 = true := by decide +kernel
theorem dd_M_object_12 : decode mt_M_object.2.1 12 = .ok (.invokevirtual 193, 3) := by decide +kernel
theorem dd_M_object_16 : decode mt_M_object.2.1 16 = .ok (.invokevirtual 122, 3) := by decide +kernel
theorem dd_M_object_29 : decode mt_M_object.2.1 29 = .ok (.invokevirtual 278, 3) := by decide +kernel
theorem dd_M_object_10 : decode mt_M_object.2.1 10 = .ok (.iastore, 1) := by decide +kernel
theorem dd_M_object_7 : decode mt_M_object.2.1 7 = .ok (.iaload, 1) := by decide +kernel
theorem dd_M_object_35 : decode mt_M_object.2.1 35 = .ok (.invokevirtual 184, 3) := by decide +kernel
theorem dd_M_object_42 : decode mt_M_object.2.1 42 = .ok (.invokevirtual 278, 3) := by decide +kernel
theorem dd_M_object_51 : decode mt_M_object.2.1 51 = .ok (.invokevirtual 199, 3) := by decide +kernel
theorem dd_M_object_64 : decode mt_M_object.2.1 64 = .ok (.return_, 1) := by decide +kernel
def J_M_object_48 (K : Nat) (g : jm_Rec)  (x : jm_X) : Option jm_R := jm_bV (f_M_need_i K g 21 x) (fun x8 => jm_then (va_up x8.1 12 ((x8.1 12) - 1), x8.2) (fun x9 => some (.inl (none, x9))))
set_option maxRecDepth 100000 in
set_option maxHeartbeats 4000000 in
theorem jj_M_object_48 {l : Launch} {D : va_G} {ad : Nat → Nat} {aC : Nat → ClassId} {b0 : Nat} {K d0 : Nat} {g : jm_Rec} (hok : jm_Ok (jm_PP l D clR ad aC shR b0 0)) (hrec : ∀ (t : Nat) (av : List Value) (x : jm_X), jm_Con (jm_PP l D clR ad aC shR b0 0) (rcR t) d0 av x (g t av x))  (x : jm_X) : jm_V (jm_PP l D clR ad aC shR b0 0) mt_M_object (d0 + 7) 48 [(0, .ref 0)] [] x (J_M_object_48 K g  x) := by
  have hT := tk_M (l := l) (D := D) (ad := ad) (aC := aC) (b0 := b0)
  unfold J_M_object_48
  refine jm_V.run (is := bk_M_object_48_2) (pc' := 51) (ls' := [(0, .ref 0)]) (st' := [.int 21, .ref 0]) (x' := x) hok hT bk_M_object_48_2_ok rfl ?_
  refine jm_V.callV (av := [.ref 0, .int 21]) (rest := []) hok (jm_Con.mono (c_M_need_i hok hrec 21 x) (by omega)) (jm_Inv.obj (q := ("FilterReaderModel", T_M, 22)) dd_M_object_51 (Or.inl lk_M_199) mn_M_need_i ms_M_need_i mw_M_need_i mh_M_need_i ml_M_need_i rfl rfl) mw_M_need_i mi_M (Nat.le_of_ble_eq_true rfl) (Nat.le_of_ble_eq_true rfl) (fun x8 => ?_)
  refine jm_V.run (is := bk_M_object_54_6) (pc' := 64) (ls' := [(0, .ref 0)]) (st' := []) (x' := (va_up x8.1 12 ((x8.1 12) - 1), x8.2)) hok hT bk_M_object_54_6_ok rfl ?_
  refine jm_V.then_ (fun x9 => ?_)
  exact jm_V.vret rfl dd_M_object_64
def B_M_object_32 (K : Nat) (g : jm_Rec) (self : jm_X → Option jm_R)  (x : jm_X) : Option jm_R := jm_bI (f_M_skip_i K g 7 x) (fun b6 x5 => (if b6 = 0 then J_M_object_48 K g x5 else jm_bV (f_M_entry K g x5) (fun x7 => self x7)))
def L_M_object_32 (K : Nat) (g : jm_Rec) : Nat → jm_X → Option jm_R
  | 0, _ => none
  | k + 1, x => B_M_object_32 K g (L_M_object_32 K g k)  x
set_option maxRecDepth 100000 in
set_option maxHeartbeats 4000000 in
theorem jb_M_object_32 {l : Launch} {D : va_G} {ad : Nat → Nat} {aC : Nat → ClassId} {b0 : Nat} {K d0 : Nat} {g : jm_Rec} (hok : jm_Ok (jm_PP l D clR ad aC shR b0 0)) (hrec : ∀ (t : Nat) (av : List Value) (x : jm_X), jm_Con (jm_PP l D clR ad aC shR b0 0) (rcR t) d0 av x (g t av x)) {self : jm_X → Option jm_R} (hself : ∀  (x : jm_X), jm_V (jm_PP l D clR ad aC shR b0 0) mt_M_object (d0 + 7) 32 [(0, .ref 0)] [] x (self  x))  (x : jm_X) : jm_V (jm_PP l D clR ad aC shR b0 0) mt_M_object (d0 + 7) 32 [(0, .ref 0)] [] x (B_M_object_32 K g self  x) := by
  have hT := tk_M (l := l) (D := D) (ad := ad) (aC := aC) (b0 := b0)
  unfold B_M_object_32
  refine jm_V.run (is := bk_M_object_32_2) (pc' := 35) (ls' := [(0, .ref 0)]) (st' := [.int 7, .ref 0]) (x' := x) hok hT bk_M_object_32_2_ok rfl ?_
  refine jm_V.callI (av := [.ref 0, .int 7]) (rest := []) hok (jm_Con.mono (c_M_skip_i hok hrec 7 x) (by omega)) (jm_Inv.obj (q := ("FilterReaderModel", T_M, 22)) dd_M_object_35 (Or.inl lk_M_184) mn_M_skip_i ms_M_skip_i mw_M_skip_i mh_M_skip_i ml_M_skip_i rfl rfl) mw_M_skip_i mi_M (Nat.le_of_ble_eq_true rfl) (Nat.le_of_ble_eq_true rfl) (fun b6 x5 => ?_)
  refine jm_V.run (is := bk_M_object_38_1) (pc' := (if b6 = 0 then 48 else 41)) (ls' := [(0, .ref 0)]) (st' := []) (x' := x5) hok hT bk_M_object_38_1_ok rfl ?_
  refine jm_V.ite (fun _ => ?_) (fun _ => ?_)
  · exact jj_M_object_48 hok hrec x5
  · refine jm_V.run (is := bk_M_object_41_1) (pc' := 42) (ls' := [(0, .ref 0)]) (st' := [.ref 0]) (x' := x5) hok hT bk_M_object_41_1_ok rfl ?_
    refine jm_V.callV (av := [.ref 0]) (rest := []) hok (jm_Con.mono (c_M_entry hok hrec x5) (by omega)) (jm_Inv.obj (q := ("FilterReaderModel", T_M, 22)) dd_M_object_42 (Or.inl lk_M_278) mn_M_entry ms_M_entry mw_M_entry mh_M_entry ml_M_entry rfl rfl) mw_M_entry mi_M (Nat.le_of_ble_eq_true rfl) (Nat.le_of_ble_eq_true rfl) (fun x7 => ?_)
    refine jm_V.run (is := bk_M_object_45_1) (pc' := 32) (ls' := [(0, .ref 0)]) (st' := []) (x' := x7) hok hT bk_M_object_45_1_ok rfl ?_
    exact hself x7
theorem jl_M_object_32 {l : Launch} {D : va_G} {ad : Nat → Nat} {aC : Nat → ClassId} {b0 : Nat} {K d0 : Nat} {g : jm_Rec} (hok : jm_Ok (jm_PP l D clR ad aC shR b0 0)) (hrec : ∀ (t : Nat) (av : List Value) (x : jm_X), jm_Con (jm_PP l D clR ad aC shR b0 0) (rcR t) d0 av x (g t av x)) : ∀ (k : Nat)  (x : jm_X), jm_V (jm_PP l D clR ad aC shR b0 0) mt_M_object (d0 + 7) 32 [(0, .ref 0)] [] x (L_M_object_32 K g k  x)
  | 0, _ => jm_V.stuck
  | k + 1, x => jb_M_object_32 hok hrec (fun  x => jl_M_object_32 hok hrec k  x)  x
def f_M_object (K : Nat) (g : jm_Rec)  (x : jm_X) : Option jm_R := (if jm_in shR 4 .int 10 then (if jm_in shR 4 .int 10 then jm_then (jm_ua x 4 10 ((x.2.2 4 (Int32.toNatClampNeg 10)) + 1)) (fun x1 => jm_bV (f_M_enter K g x1) (fun x2 => jm_bV (f_M_scan K g x2) (fun x3 => (if (x3.1 11) = 21 then J_M_object_48 K g x3 else jm_bV (f_M_entry K g x3) (fun x4 => L_M_object_32 K g K x4))))) else none) else none)
set_option maxRecDepth 100000 in
set_option maxHeartbeats 4000000 in
theorem c_M_object {l : Launch} {D : va_G} {ad : Nat → Nat} {aC : Nat → ClassId} {b0 : Nat} {K d0 : Nat} {g : jm_Rec} (hok : jm_Ok (jm_PP l D clR ad aC shR b0 0)) (hrec : ∀ (t : Nat) (av : List Value) (x : jm_X), jm_Con (jm_PP l D clR ad aC shR b0 0) (rcR t) d0 av x (g t av x))  (x : jm_X) : jm_Con (jm_PP l D clR ad aC shR b0 0) mt_M_object (d0 + 7) [.ref 0] x (f_M_object K g  x) := by
  refine jm_Con.of (plainFor_of_name (by decide +kernel)) (Nat.le_of_ble_eq_true rfl) ?_
  have hT := tk_M (l := l) (D := D) (ad := ad) (aC := aC) (b0 := b0)
  unfold f_M_object
  show jm_V _ _ _ 0 [(0, .ref 0)] [] x _
  refine jm_V.run (is := bk_M_object_0_4) (pc' := 7) (ls' := [(0, .ref 0)]) (st' := [.int 10, .ref 4, .int 10, .ref 4]) (x' := x) hok hT bk_M_object_0_4_ok rfl ?_
  refine jm_V.iald dd_M_object_7 ?_
  refine jm_V.run (is := bk_M_object_8_2) (pc' := 10) (ls' := [(0, .ref 0)]) (st' := [.int ((x.2.2 4 (Int32.toNatClampNeg 10)) + 1), .int 10, .ref 4]) (x' := x) hok hT bk_M_object_8_2_ok rfl ?_
  refine jm_V.iast hok dd_M_object_10 ?_
  refine jm_V.then_ (fun x1 => ?_)
  refine jm_V.run (is := bk_M_object_11_1) (pc' := 12) (ls' := [(0, .ref 0)]) (st' := [.ref 0]) (x' := x1) hok hT bk_M_object_11_1_ok rfl ?_
  refine jm_V.callV (av := [.ref 0]) (rest := []) hok (jm_Con.mono (c_M_enter hok hrec x1) (by omega)) (jm_Inv.obj (q := ("FilterReaderModel", T_M, 22)) dd_M_object_12 (Or.inl lk_M_193) mn_M_enter ms_M_enter mw_M_enter mh_M_enter ml_M_enter rfl rfl) mw_M_enter mi_M (Nat.le_of_ble_eq_true rfl) (Nat.le_of_ble_eq_true rfl) (fun x2 => ?_)
  refine jm_V.run (is := bk_M_object_15_1) (pc' := 16) (ls' := [(0, .ref 0)]) (st' := [.ref 0]) (x' := x2) hok hT bk_M_object_15_1_ok rfl ?_
  refine jm_V.callV (av := [.ref 0]) (rest := []) hok (jm_Con.mono (c_M_scan hok hrec x2) (by omega)) (jm_Inv.obj (q := ("FilterReaderModel", T_M, 22)) dd_M_object_16 (Or.inl lk_M_122) mn_M_scan ms_M_scan mw_M_scan mh_M_scan ml_M_scan rfl rfl) mw_M_scan mi_M (Nat.le_of_ble_eq_true rfl) (Nat.le_of_ble_eq_true rfl) (fun x3 => ?_)
  refine jm_V.run (is := bk_M_object_19_4) (pc' := (if (x3.1 11) = 21 then 48 else 28)) (ls' := [(0, .ref 0)]) (st' := []) (x' := x3) hok hT bk_M_object_19_4_ok rfl ?_
  refine jm_V.ite (fun _ => ?_) (fun _ => ?_)
  · exact jj_M_object_48 hok hrec x3
  · refine jm_V.run (is := bk_M_object_28_1) (pc' := 29) (ls' := [(0, .ref 0)]) (st' := [.ref 0]) (x' := x3) hok hT bk_M_object_28_1_ok rfl ?_
    refine jm_V.callV (av := [.ref 0]) (rest := []) hok (jm_Con.mono (c_M_entry hok hrec x3) (by omega)) (jm_Inv.obj (q := ("FilterReaderModel", T_M, 22)) dd_M_object_29 (Or.inl lk_M_278) mn_M_entry ms_M_entry mw_M_entry mh_M_entry ml_M_entry rfl rfl) mw_M_entry mi_M (Nat.le_of_ble_eq_true rfl) (Nat.le_of_ble_eq_true rfl) (fun x4 => ?_)
    exact jl_M_object_32 hok hrec K x4

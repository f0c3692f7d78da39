/-! THE REFERENCE: methods. Printed by wip/whole/printR.py. -/
abbrev bk_M_scan_0_3 : List (Nat × Instr × Nat) := [(0, .aload_n 0, 1), (1, .getfield 119, 3), (4, .istore_n 1, 1)]
theorem bk_M_scan_0_3_ok : jm_at mt_M_scan.2.1 bk_M_scan_0_3 = true := by decide +kernel
abbrev bk_M_scan_5_4 : List (Nat × Instr × Nat) := [(5, .iload_n 1, 1), (6, .aload_n 0, 1), (7, .getfield 110, 3), (10, .if_icmp .ge 93, 3)]
theorem bk_M_scan_5_4_ok : jm_at mt_M_scan.2.1 bk_M_scan_5_4 = true := by decide +kernel
abbrev bk_M_scan_13_2 : List (Nat × Instr × Nat) := [(13, .aload_n 0, 1), (14, .iload_n 1, 1)]
theorem bk_M_scan_13_2_ok : jm_at mt_M_scan.2.1 bk_M_scan_13_2 = true := by decide +kernel
abbrev bk_M_scan_18_2 : List (Nat × Instr × Nat) := [(18, .bipush 32, 2), (20, .if_icmp .eq 43, 3)]
theorem bk_M_scan_18_2_ok : jm_at mt_M_scan.2.1 bk_M_scan_18_2 = true := by decide +kernel
abbrev bk_M_scan_23_2 : List (Nat × Instr × Nat) := [(23, .aload_n 0, 1), (24, .iload_n 1, 1)]
theorem bk_M_scan_23_2_ok : jm_at mt_M_scan.2.1 bk_M_scan_23_2 = true := by decide +kernel
abbrev bk_M_scan_28_2 : List (Nat × Instr × Nat) := [(28, .bipush 9, 2), (30, .if_icmp .eq 33, 3)]
theorem bk_M_scan_28_2_ok : jm_at mt_M_scan.2.1 bk_M_scan_28_2 = true := by decide +kernel
abbrev bk_M_scan_33_2 : List (Nat × Instr × Nat) := [(33, .aload_n 0, 1), (34, .iload_n 1, 1)]
theorem bk_M_scan_33_2_ok : jm_at mt_M_scan.2.1 bk_M_scan_33_2 = true := by decide +kernel
abbrev bk_M_scan_38_2 : List (Nat × Instr × Nat) := [(38, .bipush 10, 2), (40, .if_icmp .eq 23, 3)]
theorem bk_M_scan_38_2_ok : jm_at mt_M_scan.2.1 bk_M_scan_38_2 = true := by decide +kernel
abbrev bk_M_scan_43_2 : List (Nat × Instr × Nat) := [(43, .aload_n 0, 1), (44, .iload_n 1, 1)]
theorem bk_M_scan_43_2_ok : jm_at mt_M_scan.2.1 bk_M_scan_43_2 = true := by decide +kernel
abbrev bk_M_scan_48_2 : List (Nat × Instr × Nat) := [(48, .bipush 13, 2), (50, .if_icmp .eq 13, 3)]
theorem bk_M_scan_48_2_ok : jm_at mt_M_scan.2.1 bk_M_scan_48_2 = true := by decide +kernel
abbrev bk_M_scan_53_2 : List (Nat × Instr × Nat) := [(53, .aload_n 0, 1), (54, .iload_n 1, 1)]
theorem bk_M_scan_53_2_ok : jm_at mt_M_scan.2.1 bk_M_scan_53_2 = true := by decide +kernel
abbrev bk_M_scan_58_2 : List (Nat × Instr × Nat) := [(58, .bipush 35, 2), (60, .if_icmp .ne 43, 3)]
theorem bk_M_scan_58_2_ok : jm_at mt_M_scan.2.1 bk_M_scan_58_2 = true := by decide +kernel
abbrev bk_M_scan_63_2 : List (Nat × Instr × Nat) := [(63, .aload_n 0, 1), (64, .iload_n 1, 1)]
theorem bk_M_scan_63_2_ok : jm_at mt_M_scan.2.1 bk_M_scan_63_2 = true := by decide +kernel
abbrev bk_M_scan_68_2 : List (Nat × Instr × Nat) := [(68, .bipush 35, 2), (70, .if_icmp .ne 27, 3)]
theorem bk_M_scan_68_2_ok : jm_at mt_M_scan.2.1 bk_M_scan_68_2 = true := by decide +kernel
abbrev bk_M_scan_97_2 : List (Nat × Instr × Nat) := [(97, .iinc 1 1, 3), (100, .goto (-95), 3)]
theorem bk_M_scan_97_2_ok : jm_at mt_M_scan.2.1 bk_M_scan_97_2 = true := by decide +kernel
abbrev bk_M_scan_73_4 : List (Nat × Instr × Nat) := [(73, .iload_n 1, 1), (74, .aload_n 0, 1), (75, .getfield 110, 3), (78, .if_icmp .ge (-73), 3)]
theorem bk_M_scan_73_4_ok : jm_at mt_M_scan.2.1 bk_M_scan_73_4 = true := by decide +kernel
abbrev bk_M_scan_81_2 : List (Nat × Instr × Nat) := [(81, .aload_n 0, 1), (82, .iload_n 1, 1)]
theorem bk_M_scan_81_2_ok : jm_at mt_M_scan.2.1 bk_M_scan_81_2 = true := by decide +kernel
abbrev bk_M_scan_86_2 : List (Nat × Instr × Nat) := [(86, .bipush 10, 2), (88, .if_icmp .eq (-83), 3)]
theorem bk_M_scan_86_2_ok : jm_at mt_M_scan.2.1 bk_M_scan_86_2 = true := by decide +kernel
abbrev bk_M_scan_91_2 : List (Nat × Instr × Nat) := [(91, .iinc 1 1, 3), (94, .goto (-21), 3)]
theorem bk_M_scan_91_2_ok : jm_at mt_M_scan.2.1 bk_M_scan_91_2 = true := by decide +kernel
abbrev bk_M_scan_103_3 : List (Nat × Instr × Nat) := [(103, .aload_n 0, 1), (104, .iload_n 1, 1), (105, .putfield 131, 3)]
theorem bk_M_scan_103_3_ok : jm_at mt_M_scan.2.1 bk_M_scan_103_3 = true := by decide +kernel
abbrev bk_M_scan_108_4 : List (Nat × Instr × Nat) := [(108, .iload_n 1, 1), (109, .aload_n 0, 1), (110, .getfield 110, 3), (113, .if_icmp .ge 11, 3)]
theorem bk_M_scan_108_4_ok : jm_at mt_M_scan.2.1 bk_M_scan_108_4 = true := by decide +kernel
abbrev bk_M_scan_124_1 : List (Nat × Instr × Nat) := [(124, .iconst (-1), 1)]
theorem bk_M_scan_124_1_ok : jm_at mt_M_scan.2.1 bk_M_scan_124_1 = true := by decide +kernel
abbrev bk_M_scan_116_2 : List (Nat × Instr × Nat) := [(116, .aload_n 0, 1), (117, .iload_n 1, 1)]
theorem bk_M_scan_116_2_ok : jm_at mt_M_scan.2.1 bk_M_scan_116_2 = true := by decide +kernel
abbrev bk_M_scan_121_1 : List (Nat × Instr × Nat) := [(121, .goto 4, 3)]
theorem bk_M_scan_121_1_ok : jm_at mt_M_scan.2.1 bk_M_scan_121_1 = true := by decide +kernel
abbrev bk_M_scan_125_5 : List (Nat × Instr × Nat) := [(125, .istore_n 2, 1), (126, .iload_n 1, 1), (127, .aload_n 0, 1), (128, .getfield 110, 3), (131, .if_icmp .ne 11, 3)]
theorem bk_M_scan_125_5_ok : jm_at mt_M_scan.2.1 bk_M_scan_125_5 = true := by decide +kernel
abbrev bk_M_scan_134_3 : List (Nat × Instr × Nat) := [(134, .aload_n 0, 1), (135, .iconst 0, 1), (136, .putfield 128, 3)]
theorem bk_M_scan_134_3_ok : jm_at mt_M_scan.2.1 bk_M_scan_134_3 = true := by decide +kernel
abbrev bk_M_scan_139_1 : List (Nat × Instr × Nat) := [(139, .goto 190, 3)]
theorem bk_M_scan_139_1_ok : jm_at mt_M_scan.2.1 bk_M_scan_139_1 = true := by decide +kernel
abbrev bk_M_scan_142_1 : List (Nat × Instr × Nat) := [(142, .iload_n 2, 1)]
theorem bk_M_scan_142_1_ok : jm_at mt_M_scan.2.1 bk_M_scan_142_1 = true := by decide +kernel
abbrev bk_M_scan_146_1 : List (Nat × Instr × Nat) := [(146, .ifCond .eq 18, 3)]
theorem bk_M_scan_146_1_ok : jm_at mt_M_scan.2.1 bk_M_scan_146_1 = true := by decide +kernel
abbrev bk_M_scan_164_1 : List (Nat × Instr × Nat) := [(164, .iload_n 2, 1)]
theorem bk_M_scan_164_1_ok : jm_at mt_M_scan.2.1 bk_M_scan_164_1 = true := by decide +kernel
abbrev bk_M_scan_168_1 : List (Nat × Instr × Nat) := [(168, .ifCond .eq 10, 3)]
theorem bk_M_scan_168_1_ok : jm_at mt_M_scan.2.1 bk_M_scan_168_1 = true := by decide +kernel
abbrev bk_M_scan_178_3 : List (Nat × Instr × Nat) := [(178, .iload_n 2, 1), (179, .bipush 36, 2), (181, .if_icmp .ne 38, 3)]
theorem bk_M_scan_178_3_ok : jm_at mt_M_scan.2.1 bk_M_scan_178_3 = true := by decide +kernel
abbrev bk_M_scan_184_5 : List (Nat × Instr × Nat) := [(184, .aload_n 0, 1), (185, .aload_n 0, 1), (186, .iload_n 1, 1), (187, .iconst 1, 1), (188, .iadd, 1)]
theorem bk_M_scan_184_5_ok : jm_at mt_M_scan.2.1 bk_M_scan_184_5 = true := by decide +kernel
abbrev bk_M_scan_195_1 : List (Nat × Instr × Nat) := [(195, .ifCond .eq 7, 3)]
theorem bk_M_scan_195_1_ok : jm_at mt_M_scan.2.1 bk_M_scan_195_1 = true := by decide +kernel
abbrev bk_M_scan_202_1 : List (Nat × Instr × Nat) := [(202, .bipush 25, 2)]
theorem bk_M_scan_202_1_ok : jm_at mt_M_scan.2.1 bk_M_scan_202_1 = true := by decide +kernel
abbrev bk_M_scan_198_2 : List (Nat × Instr × Nat) := [(198, .iconst 3, 1), (199, .goto 5, 3)]
theorem bk_M_scan_198_2_ok : jm_at mt_M_scan.2.1 bk_M_scan_198_2 = true := by decide +kernel
abbrev bk_M_scan_219_3 : List (Nat × Instr × Nat) := [(219, .iload_n 2, 1), (220, .bipush 46, 2), (222, .if_icmp .ne 88, 3)]
theorem bk_M_scan_219_3_ok : jm_at mt_M_scan.2.1 bk_M_scan_219_3 = true := by decide +kernel
abbrev bk_M_scan_225_5 : List (Nat × Instr × Nat) := [(225, .aload_n 0, 1), (226, .aload_n 0, 1), (227, .iload_n 1, 1), (228, .iconst 1, 1), (229, .iadd, 1)]
theorem bk_M_scan_225_5_ok : jm_at mt_M_scan.2.1 bk_M_scan_225_5 = true := by decide +kernel
abbrev bk_M_scan_236_1 : List (Nat × Instr × Nat) := [(236, .ifCond .eq 7, 3)]
theorem bk_M_scan_236_1_ok : jm_at mt_M_scan.2.1 bk_M_scan_236_1 = true := by decide +kernel
abbrev bk_M_scan_243_4 : List (Nat × Instr × Nat) := [(243, .aload_n 0, 1), (244, .iload_n 1, 1), (245, .iconst 1, 1), (246, .iadd, 1)]
theorem bk_M_scan_243_4_ok : jm_at mt_M_scan.2.1 bk_M_scan_243_4 = true := by decide +kernel
abbrev bk_M_scan_250_2 : List (Nat × Instr × Nat) := [(250, .bipush 46, 2), (252, .if_icmp .ne 8, 3)]
theorem bk_M_scan_250_2_ok : jm_at mt_M_scan.2.1 bk_M_scan_250_2 = true := by decide +kernel
abbrev bk_M_scan_255_2 : List (Nat × Instr × Nat) := [(255, .bipush 15, 2), (257, .goto 5, 3)]
theorem bk_M_scan_255_2_ok : jm_at mt_M_scan.2.1 bk_M_scan_255_2 = true := by decide +kernel
abbrev bk_M_scan_260_1 : List (Nat × Instr × Nat) := [(260, .bipush 14, 2)]
theorem bk_M_scan_260_1_ok : jm_at mt_M_scan.2.1 bk_M_scan_260_1 = true := by decide +kernel
abbrev bk_M_scan_239_2 : List (Nat × Instr × Nat) := [(239, .iconst 2, 1), (240, .goto 22, 3)]
theorem bk_M_scan_239_2_ok : jm_at mt_M_scan.2.1 bk_M_scan_239_2 = true := by decide +kernel
abbrev bk_M_scan_310_6 : List (Nat × Instr × Nat) := [(310, .aload_n 0, 1), (311, .iload_n 2, 1), (312, .aload_n 0, 1), (313, .iload_n 1, 1), (314, .iconst 1, 1), (315, .iadd, 1)]
theorem bk_M_scan_310_6_ok : jm_at mt_M_scan.2.1 bk_M_scan_310_6 = true := by decide +kernel
abbrev bk_M_scan_319_4 : List (Nat × Instr × Nat) := [(319, .aload_n 0, 1), (320, .iload_n 1, 1), (321, .iconst 2, 1), (322, .iadd, 1)]
theorem bk_M_scan_319_4_ok : jm_at mt_M_scan.2.1 bk_M_scan_319_4 = true := by decide +kernel
abbrev bk_M_scan_171_1 : List (Nat × Instr × Nat) := [(171, .aload_n 0, 1)]
theorem bk_M_scan_171_1_ok : jm_at mt_M_scan.2.1 bk_M_scan_171_1 = true := by decide +kernel
abbrev bk_M_scan_175_1 : List (Nat × Instr × Nat) := [(175, .goto 154, 3)]
theorem bk_M_scan_175_1_ok : jm_at mt_M_scan.2.1 bk_M_scan_175_1 = true := by decide +kernel
abbrev bk_M_scan_149_4 : List (Nat × Instr × Nat) := [(149, .aload_n 0, 1), (150, .iconst 1, 1), (151, .aload_n 0, 1), (152, .iload_n 1, 1)]
theorem bk_M_scan_149_4_ok : jm_at mt_M_scan.2.1 bk_M_scan_149_4 = true := by decide +kernel
abbrev bk_M_scan_156_2 : List (Nat × Instr × Nat) := [(156, .iload_n 1, 1), (157, .isub, 1)]
theorem bk_M_scan_156_2_ok : jm_at mt_M_scan.2.1 bk_M_scan_156_2 = true := by decide +kernel
abbrev bk_M_scan_161_1 : List (Nat × Instr × Nat) := [(161, .goto 168, 3)]
theorem bk_M_scan_161_1_ok : jm_at mt_M_scan.2.1 bk_M_scan_161_1 = true := by decide +kernel
abbrev bk_M_scan_204_4 : List (Nat × Instr × Nat) := [(204, .aload_n 0, 1), (205, .iload_n 1, 1), (206, .iconst 1, 1), (207, .iadd, 1)]
theorem bk_M_scan_204_4_ok : jm_at mt_M_scan.2.1 bk_M_scan_204_4 = true := by decide +kernel
abbrev bk_M_scan_211_2 : List (Nat × Instr × Nat) := [(211, .iload_n 1, 1), (212, .isub, 1)]
theorem bk_M_scan_211_2_ok : jm_at mt_M_scan.2.1 bk_M_scan_211_2 = true := by decide +kernel
abbrev bk_M_scan_216_1 : List (Nat × Instr × Nat) := [(216, .goto 113, 3)]
theorem bk_M_scan_216_1_ok : jm_at mt_M_scan.2.1 bk_M_scan_216_1 = true := by decide +kernel
abbrev bk_M_scan_262_4 : List (Nat × Instr × Nat) := [(262, .aload_n 0, 1), (263, .iload_n 1, 1), (264, .iconst 1, 1), (265, .iadd, 1)]
theorem bk_M_scan_262_4_ok : jm_at mt_M_scan.2.1 bk_M_scan_262_4 = true := by decide +kernel
abbrev bk_M_scan_272_1 : List (Nat × Instr × Nat) := [(272, .ifCond .eq 15, 3)]
theorem bk_M_scan_272_1_ok : jm_at mt_M_scan.2.1 bk_M_scan_272_1 = true := by decide +kernel
abbrev bk_M_scan_287_4 : List (Nat × Instr × Nat) := [(287, .aload_n 0, 1), (288, .iload_n 1, 1), (289, .iconst 1, 1), (290, .iadd, 1)]
theorem bk_M_scan_287_4_ok : jm_at mt_M_scan.2.1 bk_M_scan_287_4 = true := by decide +kernel
abbrev bk_M_scan_294_2 : List (Nat × Instr × Nat) := [(294, .bipush 46, 2), (296, .if_icmp .ne 7, 3)]
theorem bk_M_scan_294_2_ok : jm_at mt_M_scan.2.1 bk_M_scan_294_2 = true := by decide +kernel
abbrev bk_M_scan_299_2 : List (Nat × Instr × Nat) := [(299, .iconst 2, 1), (300, .goto 4, 3)]
theorem bk_M_scan_299_2_ok : jm_at mt_M_scan.2.1 bk_M_scan_299_2 = true := by decide +kernel
abbrev bk_M_scan_303_1 : List (Nat × Instr × Nat) := [(303, .iconst 1, 1)]
theorem bk_M_scan_303_1_ok : jm_at mt_M_scan.2.1 bk_M_scan_303_1 = true := by decide +kernel
abbrev bk_M_scan_275_4 : List (Nat × Instr × Nat) := [(275, .aload_n 0, 1), (276, .iload_n 1, 1), (277, .iconst 1, 1), (278, .iadd, 1)]
theorem bk_M_scan_275_4_ok : jm_at mt_M_scan.2.1 bk_M_scan_275_4 = true := by decide +kernel
abbrev bk_M_scan_282_3 : List (Nat × Instr × Nat) := [(282, .iload_n 1, 1), (283, .isub, 1), (284, .goto 20, 3)]
theorem bk_M_scan_282_3_ok : jm_at mt_M_scan.2.1 bk_M_scan_282_3 = true := by decide +kernel
abbrev bk_M_scan_307_1 : List (Nat × Instr × Nat) := [(307, .goto 22, 3)]
theorem bk_M_scan_307_1_ok : jm_at mt_M_scan.2.1 bk_M_scan_307_1 = true := by decide +kernel
theorem dd_M_scan_15 : decode mt_M_scan.2.1 15 = .ok (.invokevirtual 138, 3) := by decide +kernel
theorem dd_M_scan_25 : decode mt_M_scan.2.1 25 = .ok (.invokevirtual 138, 3) := by decide +kernel
theorem dd_M_scan_35 : decode mt_M_scan.2.1 35 = .ok (.invokevirtual 138, 3) := by decide +kernel
theorem dd_M_scan_45 : decode mt_M_scan.2.1 45 = .ok (.invokevirtual 138, 3) := by decide +kernel
theorem dd_M_scan_55 : decode mt_M_scan.2.1 55 = .ok (.invokevirtual 138, 3) := by decide +kernel
theorem dd_M_scan_65 : decode mt_M_scan.2.1 65 = .ok (.invokevirtual 138, 3) := by decide +kernel
theorem dd_M_scan_83 : decode mt_M_scan.2.1 83 = .ok (.invokevirtual 138, 3) := by decide +kernel
theorem dd_M_scan_118 : decode mt_M_scan.2.1 118 = .ok (.invokevirtual 138, 3) := by decide +kernel
theorem dd_M_scan_143 : decode mt_M_scan.2.1 143 = .ok (.invokestatic 141, 3) := by decide +kernel
theorem dd_M_scan_165 : decode mt_M_scan.2.1 165 = .ok (.invokestatic 145, 3) := by decide +kernel
theorem dd_M_scan_189 : decode mt_M_scan.2.1 189 = .ok (.invokevirtual 138, 3) := by decide +kernel
theorem dd_M_scan_192 : decode mt_M_scan.2.1 192 = .ok (.invokestatic 141, 3) := by decide +kernel
theorem dd_M_scan_230 : decode mt_M_scan.2.1 230 = .ok (.invokevirtual 138, 3) := by decide +kernel
theorem dd_M_scan_233 : decode mt_M_scan.2.1 233 = .ok (.invokestatic 141, 3) := by decide +kernel
theorem dd_M_scan_247 : decode mt_M_scan.2.1 247 = .ok (.invokevirtual 138, 3) := by decide +kernel
theorem dd_M_scan_316 : decode mt_M_scan.2.1 316 = .ok (.invokevirtual 138, 3) := by decide +kernel
theorem dd_M_scan_323 : decode mt_M_scan.2.1 323 = .ok (.invokevirtual 138, 3) := by decide +kernel
theorem dd_M_scan_326 : decode mt_M_scan.2.1 326 = .ok (.invokevirtual 158, 3) := by decide +kernel
theorem dd_M_scan_172 : decode mt_M_scan.2.1 172 = .ok (.invokevirtual 155, 3) := by decide +kernel
theorem dd_M_scan_153 : decode mt_M_scan.2.1 153 = .ok (.invokevirtual 148, 3) := by decide +kernel
theorem dd_M_scan_158 : decode mt_M_scan.2.1 158 = .ok (.invokevirtual 151, 3) := by decide +kernel
theorem dd_M_scan_208 : decode mt_M_scan.2.1 208 = .ok (.invokevirtual 148, 3) := by decide +kernel
theorem dd_M_scan_213 : decode mt_M_scan.2.1 213 = .ok (.invokevirtual 151, 3) := by decide +kernel
theorem dd_M_scan_266 : decode mt_M_scan.2.1 266 = .ok (.invokevirtual 138, 3) := by decide +kernel
theorem dd_M_scan_269 : decode mt_M_scan.2.1 269 = .ok (.invokestatic 141, 3) := by decide +kernel
theorem dd_M_scan_291 : decode mt_M_scan.2.1 291 = .ok (.invokevirtual 138, 3) := by decide +kernel
theorem dd_M_scan_279 : decode mt_M_scan.2.1 279 = .ok (.invokevirtual 148, 3) := by decide +kernel
theorem dd_M_scan_304 : decode mt_M_scan.2.1 304 = .ok (.invokevirtual 151, 3) := by decide +kernel
theorem dd_M_scan_329 : decode mt_M_scan.2.1 329 = .ok (.return_, 1) := by decide +kernel
def B_M_scan_73 (K : Nat) (g : jm_Rec) (k5 : Int32 → jm_X → Option jm_R) (self : Int32 → jm_X → Option jm_R) (v1 : Int32) (x : jm_X) : Option jm_R := (if (x.1 8) ≤ v1 then k5 v1 x else jm_bI (f_M_look K g v1 x) (fun b14 x13 => (if b14 = 10 then k5 v1 x13 else self (v1 + 1) x13)))
def L_M_scan_73 (K : Nat) (g : jm_Rec) (k5 : Int32 → jm_X → Option jm_R) : Nat → Int32 → jm_X → Option jm_R
  | 0, _, _ => none
  | k + 1, v1, x => B_M_scan_73 K g k5 (L_M_scan_73 K g k5 k) v1 x
set_option maxRecDepth 100000 in
set_option maxHeartbeats 4000000 in
theorem jb_M_scan_73 {l : Launch} {D : va_G} {ad : Nat → Nat} {aC : Nat → ClassId} {b0 : Nat} {K d0 : Nat} {g : jm_Rec} (hok : jm_Ok (jm_PP l D clR ad aC shR b0 0)) (hrec : ∀ (t : Nat) (av : List Value) (x : jm_X), jm_Con (jm_PP l D clR ad aC shR b0 0) (rcR t) d0 av x (g t av x)) {k5 : Int32 → jm_X → Option jm_R} (hk5 : ∀ (v1 : Int32) (x : jm_X), jm_V (jm_PP l D clR ad aC shR b0 0) mt_M_scan (d0 + 3) 5 [(0, .ref 0), (1, .int v1)] [] x (k5 v1 x)) {self : Int32 → jm_X → Option jm_R} (hself : ∀ (v1 : Int32) (x : jm_X), jm_V (jm_PP l D clR ad aC shR b0 0) mt_M_scan (d0 + 3) 73 [(0, .ref 0), (1, .int v1)] [] x (self v1 x)) (v1 : Int32) (x : jm_X) : jm_V (jm_PP l D clR ad aC shR b0 0) mt_M_scan (d0 + 3) 73 [(0, .ref 0), (1, .int v1)] [] x (B_M_scan_73 K g k5 self v1 x) := by
  have hT := tk_M (l := l) (D := D) (ad := ad) (aC := aC) (b0 := b0)
  unfold B_M_scan_73
  refine jm_V.run (is := bk_M_scan_73_4) (pc' := (if (x.1 8) ≤ v1 then 5 else 81)) (ls' := [(0, .ref 0), (1, .int v1)]) (st' := []) (x' := x) hok hT bk_M_scan_73_4_ok rfl ?_
  refine jm_V.ite (fun _ => ?_) (fun _ => ?_)
  · exact hk5 v1 x
  · refine jm_V.run (is := bk_M_scan_81_2) (pc' := 83) (ls' := [(0, .ref 0), (1, .int v1)]) (st' := [.int v1, .ref 0]) (x' := x) hok hT bk_M_scan_81_2_ok rfl ?_
    refine jm_V.callI (av := [.ref 0, .int v1]) (rest := []) hok (jm_Con.mono (c_M_look hok hrec v1 x) (by omega)) (jm_Inv.obj (q := ("FilterReaderModel", T_M, 22)) dd_M_scan_83 (Or.inl lk_M_138) mn_M_look ms_M_look mw_M_look mh_M_look ml_M_look rfl rfl) mw_M_look mi_M (Nat.le_of_ble_eq_true rfl) (Nat.le_of_ble_eq_true rfl) (fun b14 x13 => ?_)
    refine jm_V.run (is := bk_M_scan_86_2) (pc' := (if b14 = 10 then 5 else 91)) (ls' := [(0, .ref 0), (1, .int v1)]) (st' := []) (x' := x13) hok hT bk_M_scan_86_2_ok rfl ?_
    refine jm_V.ite (fun _ => ?_) (fun _ => ?_)
    · exact hk5 v1 x13
    · refine jm_V.run (is := bk_M_scan_91_2) (pc' := 73) (ls' := [(1, .int (v1 + 1)), (0, .ref 0)]) (st' := []) (x' := x13) hok hT bk_M_scan_91_2_ok rfl ?_
      refine jm_V.sub (ls' := [(0, .ref 0), (1, .int (v1 + 1))]) [1, 0] rfl ?_
      exact hself (v1 + 1) x13
theorem jl_M_scan_73 {l : Launch} {D : va_G} {ad : Nat → Nat} {aC : Nat → ClassId} {b0 : Nat} {K d0 : Nat} {g : jm_Rec} (hok : jm_Ok (jm_PP l D clR ad aC shR b0 0)) (hrec : ∀ (t : Nat) (av : List Value) (x : jm_X), jm_Con (jm_PP l D clR ad aC shR b0 0) (rcR t) d0 av x (g t av x)) {k5 : Int32 → jm_X → Option jm_R} (hk5 : ∀ (v1 : Int32) (x : jm_X), jm_V (jm_PP l D clR ad aC shR b0 0) mt_M_scan (d0 + 3) 5 [(0, .ref 0), (1, .int v1)] [] x (k5 v1 x)) : ∀ (k : Nat) (v1 : Int32) (x : jm_X), jm_V (jm_PP l D clR ad aC shR b0 0) mt_M_scan (d0 + 3) 73 [(0, .ref 0), (1, .int v1)] [] x (L_M_scan_73 K g k5 k v1 x)
  | 0, _, _ => jm_V.stuck
  | k + 1, v1, x => jb_M_scan_73 hok hrec hk5 (fun v1 x => jl_M_scan_73 hok hrec hk5 k v1 x) v1 x
def J_M_scan_63 (K : Nat) (g : jm_Rec) (k5 : Int32 → jm_X → Option jm_R) (v1 : Int32) (x : jm_X) : Option jm_R := jm_bI (f_M_look K g v1 x) (fun b12 x11 => (if b12 = 35 then L_M_scan_73 K g k5 K v1 x11 else k5 (v1 + 1) x11))
set_option maxRecDepth 100000 in
set_option maxHeartbeats 4000000 in
theorem jj_M_scan_63 {l : Launch} {D : va_G} {ad : Nat → Nat} {aC : Nat → ClassId} {b0 : Nat} {K d0 : Nat} {g : jm_Rec} (hok : jm_Ok (jm_PP l D clR ad aC shR b0 0)) (hrec : ∀ (t : Nat) (av : List Value) (x : jm_X), jm_Con (jm_PP l D clR ad aC shR b0 0) (rcR t) d0 av x (g t av x)) {k5 : Int32 → jm_X → Option jm_R} (hk5 : ∀ (v1 : Int32) (x : jm_X), jm_V (jm_PP l D clR ad aC shR b0 0) mt_M_scan (d0 + 3) 5 [(0, .ref 0), (1, .int v1)] [] x (k5 v1 x)) (v1 : Int32) (x : jm_X) : jm_V (jm_PP l D clR ad aC shR b0 0) mt_M_scan (d0 + 3) 63 [(0, .ref 0), (1, .int v1)] [] x (J_M_scan_63 K g k5 v1 x) := by
  have hT := tk_M (l := l) (D := D) (ad := ad) (aC := aC) (b0 := b0)
  unfold J_M_scan_63
  refine jm_V.run (is := bk_M_scan_63_2) (pc' := 65) (ls' := [(0, .ref 0), (1, .int v1)]) (st' := [.int v1, .ref 0]) (x' := x) hok hT bk_M_scan_63_2_ok rfl ?_
  refine jm_V.callI (av := [.ref 0, .int v1]) (rest := []) hok (jm_Con.mono (c_M_look hok hrec v1 x) (by omega)) (jm_Inv.obj (q := ("FilterReaderModel", T_M, 22)) dd_M_scan_65 (Or.inl lk_M_138) mn_M_look ms_M_look mw_M_look mh_M_look ml_M_look rfl rfl) mw_M_look mi_M (Nat.le_of_ble_eq_true rfl) (Nat.le_of_ble_eq_true rfl) (fun b12 x11 => ?_)
  refine jm_V.run (is := bk_M_scan_68_2) (pc' := (if b12 = 35 then 73 else 97)) (ls' := [(0, .ref 0), (1, .int v1)]) (st' := []) (x' := x11) hok hT bk_M_scan_68_2_ok rfl ?_
  refine jm_V.ite (fun _ => ?_) (fun _ => ?_)
  · exact jl_M_scan_73 hok hrec hk5 K v1 x11
  · refine jm_V.run (is := bk_M_scan_97_2) (pc' := 5) (ls' := [(1, .int (v1 + 1)), (0, .ref 0)]) (st' := []) (x' := x11) hok hT bk_M_scan_97_2_ok rfl ?_
    refine jm_V.sub (ls' := [(0, .ref 0), (1, .int (v1 + 1))]) [1, 0] rfl ?_
    exact hk5 (v1 + 1) x11
def J_M_scan_329 (K : Nat) (g : jm_Rec)  (x : jm_X) : Option jm_R := some (.inl (none, x))
set_option maxRecDepth 100000 in
set_option maxHeartbeats 4000000 in
theorem jj_M_scan_329 {l : Launch} {D : va_G} {ad : Nat → Nat} {aC : Nat → ClassId} {b0 : Nat} {K d0 : Nat} {g : jm_Rec} (hok : jm_Ok (jm_PP l D clR ad aC shR b0 0)) (hrec : ∀ (t : Nat) (av : List Value) (x : jm_X), jm_Con (jm_PP l D clR ad aC shR b0 0) (rcR t) d0 av x (g t av x))  (x : jm_X) : jm_V (jm_PP l D clR ad aC shR b0 0) mt_M_scan (d0 + 3) 329 [] [] x (J_M_scan_329 K g  x) := by
  have hT := tk_M (l := l) (D := D) (ad := ad) (aC := aC) (b0 := b0)
  unfold J_M_scan_329
  exact jm_V.vret rfl dd_M_scan_329
def J_M_scan_204 (K : Nat) (g : jm_Rec) (v1 : Int32) (s0 : Int32) (x : jm_X) : Option jm_R := jm_bI (f_M_nameFrom K g (v1 + 1) x) (fun b43 x42 => jm_bV (f_M_take K g s0 (b43 - v1) x42) (fun x44 => J_M_scan_329 K g x44))
set_option maxRecDepth 100000 in
set_option maxHeartbeats 4000000 in
theorem jj_M_scan_204 {l : Launch} {D : va_G} {ad : Nat → Nat} {aC : Nat → ClassId} {b0 : Nat} {K d0 : Nat} {g : jm_Rec} (hok : jm_Ok (jm_PP l D clR ad aC shR b0 0)) (hrec : ∀ (t : Nat) (av : List Value) (x : jm_X), jm_Con (jm_PP l D clR ad aC shR b0 0) (rcR t) d0 av x (g t av x)) (v1 : Int32) (s0 : Int32) (x : jm_X) : jm_V (jm_PP l D clR ad aC shR b0 0) mt_M_scan (d0 + 3) 204 [(0, .ref 0), (1, .int v1)] [.int s0, .ref 0] x (J_M_scan_204 K g v1 s0 x) := by
  have hT := tk_M (l := l) (D := D) (ad := ad) (aC := aC) (b0 := b0)
  unfold J_M_scan_204
  refine jm_V.run (is := bk_M_scan_204_4) (pc' := 208) (ls' := [(0, .ref 0), (1, .int v1)]) (st' := [.int (v1 + 1), .ref 0, .int s0, .ref 0]) (x' := x) hok hT bk_M_scan_204_4_ok rfl ?_
  refine jm_V.callI (av := [.ref 0, .int (v1 + 1)]) (rest := [.int s0, .ref 0]) hok (jm_Con.mono (c_M_nameFrom hok hrec (v1 + 1) x) (by omega)) (jm_Inv.obj (q := ("FilterReaderModel", T_M, 22)) dd_M_scan_208 (Or.inl lk_M_148) mn_M_nameFrom ms_M_nameFrom mw_M_nameFrom mh_M_nameFrom ml_M_nameFrom rfl rfl) mw_M_nameFrom mi_M (Nat.le_of_ble_eq_true rfl) (Nat.le_of_ble_eq_true rfl) (fun b43 x42 => ?_)
  refine jm_V.run (is := bk_M_scan_211_2) (pc' := 213) (ls' := [(0, .ref 0), (1, .int v1)]) (st' := [.int (b43 - v1), .int s0, .ref 0]) (x' := x42) hok hT bk_M_scan_211_2_ok rfl ?_
  refine jm_V.callV (av := [.ref 0, .int s0, .int (b43 - v1)]) (rest := []) hok (jm_Con.mono (c_M_take hok hrec s0 (b43 - v1) x42) (by omega)) (jm_Inv.obj (q := ("FilterReaderModel", T_M, 22)) dd_M_scan_213 (Or.inl lk_M_151) mn_M_take ms_M_take mw_M_take mh_M_take ml_M_take rfl rfl) mw_M_take mi_M (Nat.le_of_ble_eq_true rfl) (Nat.le_of_ble_eq_true rfl) (fun x44 => ?_)
  refine jm_V.run (is := bk_M_scan_216_1) (pc' := 329) (ls' := [(0, .ref 0), (1, .int v1)]) (st' := []) (x' := x44) hok hT bk_M_scan_216_1_ok rfl ?_
  refine jm_V.sub (ls' := []) [] rfl ?_
  exact jj_M_scan_329 hok hrec x44
def J_M_scan_304 (K : Nat) (g : jm_Rec) (s0 : Int32) (s1 : Int32) (x : jm_X) : Option jm_R := jm_bV (f_M_take K g s1 s0 x) (fun x53 => J_M_scan_329 K g x53)
set_option maxRecDepth 100000 in
set_option maxHeartbeats 4000000 in
theorem jj_M_scan_304 {l : Launch} {D : va_G} {ad : Nat → Nat} {aC : Nat → ClassId} {b0 : Nat} {K d0 : Nat} {g : jm_Rec} (hok : jm_Ok (jm_PP l D clR ad aC shR b0 0)) (hrec : ∀ (t : Nat) (av : List Value) (x : jm_X), jm_Con (jm_PP l D clR ad aC shR b0 0) (rcR t) d0 av x (g t av x)) (s0 : Int32) (s1 : Int32) (x : jm_X) : jm_V (jm_PP l D clR ad aC shR b0 0) mt_M_scan (d0 + 3) 304 [] [.int s0, .int s1, .ref 0] x (J_M_scan_304 K g s0 s1 x) := by
  have hT := tk_M (l := l) (D := D) (ad := ad) (aC := aC) (b0 := b0)
  unfold J_M_scan_304
  refine jm_V.callV (av := [.ref 0, .int s1, .int s0]) (rest := []) hok (jm_Con.mono (c_M_take hok hrec s1 s0 x) (by omega)) (jm_Inv.obj (q := ("FilterReaderModel", T_M, 22)) dd_M_scan_304 (Or.inl lk_M_151) mn_M_take ms_M_take mw_M_take mh_M_take ml_M_take rfl rfl) mw_M_take mi_M (Nat.le_of_ble_eq_true rfl) (Nat.le_of_ble_eq_true rfl) (fun x53 => ?_)
  refine jm_V.run (is := bk_M_scan_307_1) (pc' := 329) (ls' := []) (st' := []) (x' := x53) hok hT bk_M_scan_307_1_ok rfl ?_
  exact jj_M_scan_329 hok hrec x53
def J_M_scan_262 (K : Nat) (g : jm_Rec) (v1 : Int32) (s0 : Int32) (x : jm_X) : Option jm_R := jm_bI (f_M_look K g (v1 + 1) x) (fun b46 x45 => jm_bI (f_M_first K g b46 x45) (fun b48 x47 => (if b48 = 0 then jm_bI (f_M_look K g (v1 + 1) x47) (fun b50 x49 => (if b50 = 46 then J_M_scan_304 K g 2 s0 x49 else J_M_scan_304 K g 1 s0 x49)) else jm_bI (f_M_nameFrom K g (v1 + 1) x47) (fun b52 x51 => J_M_scan_304 K g (b52 - v1) s0 x51))))
set_option maxRecDepth 100000 in
set_option maxHeartbeats 4000000 in
theorem jj_M_scan_262 {l : Launch} {D : va_G} {ad : Nat → Nat} {aC : Nat → ClassId} {b0 : Nat} {K d0 : Nat} {g : jm_Rec} (hok : jm_Ok (jm_PP l D clR ad aC shR b0 0)) (hrec : ∀ (t : Nat) (av : List Value) (x : jm_X), jm_Con (jm_PP l D clR ad aC shR b0 0) (rcR t) d0 av x (g t av x)) (v1 : Int32) (s0 : Int32) (x : jm_X) : jm_V (jm_PP l D clR ad aC shR b0 0) mt_M_scan (d0 + 3) 262 [(0, .ref 0), (1, .int v1)] [.int s0, .ref 0] x (J_M_scan_262 K g v1 s0 x) := by
  have hT := tk_M (l := l) (D := D) (ad := ad) (aC := aC) (b0 := b0)
  unfold J_M_scan_262
  refine jm_V.run (is := bk_M_scan_262_4) (pc' := 266) (ls' := [(0, .ref 0), (1, .int v1)]) (st' := [.int (v1 + 1), .ref 0, .int s0, .ref 0]) (x' := x) hok hT bk_M_scan_262_4_ok rfl ?_
  refine jm_V.callI (av := [.ref 0, .int (v1 + 1)]) (rest := [.int s0, .ref 0]) hok (jm_Con.mono (c_M_look hok hrec (v1 + 1) x) (by omega)) (jm_Inv.obj (q := ("FilterReaderModel", T_M, 22)) dd_M_scan_266 (Or.inl lk_M_138) mn_M_look ms_M_look mw_M_look mh_M_look ml_M_look rfl rfl) mw_M_look mi_M (Nat.le_of_ble_eq_true rfl) (Nat.le_of_ble_eq_true rfl) (fun b46 x45 => ?_)
  refine jm_V.callI (av := [.int b46]) (rest := [.int s0, .ref 0]) hok (jm_Con.mono (c_M_first hok hrec b46 x45) (by omega)) (jm_Inv.stat dd_M_scan_269 (Or.inl lk_M_141) mq_M_first mi_M mw_M_first mh_M_first ml_M_first) mw_M_first mi_M (Nat.le_of_ble_eq_true rfl) (Nat.le_of_ble_eq_true rfl) (fun b48 x47 => ?_)
  refine jm_V.run (is := bk_M_scan_272_1) (pc' := (if b48 = 0 then 287 else 275)) (ls' := [(0, .ref 0), (1, .int v1)]) (st' := [.int s0, .ref 0]) (x' := x47) hok hT bk_M_scan_272_1_ok rfl ?_
  refine jm_V.ite (fun _ => ?_) (fun _ => ?_)
  · refine jm_V.run (is := bk_M_scan_287_4) (pc' := 291) (ls' := [(0, .ref 0), (1, .int v1)]) (st' := [.int (v1 + 1), .ref 0, .int s0, .ref 0]) (x' := x47) hok hT bk_M_scan_287_4_ok rfl ?_
    refine jm_V.callI (av := [.ref 0, .int (v1 + 1)]) (rest := [.int s0, .ref 0]) hok (jm_Con.mono (c_M_look hok hrec (v1 + 1) x47) (by omega)) (jm_Inv.obj (q := ("FilterReaderModel", T_M, 22)) dd_M_scan_291 (Or.inl lk_M_138) mn_M_look ms_M_look mw_M_look mh_M_look ml_M_look rfl rfl) mw_M_look mi_M (Nat.le_of_ble_eq_true rfl) (Nat.le_of_ble_eq_true rfl) (fun b50 x49 => ?_)
    refine jm_V.run (is := bk_M_scan_294_2) (pc' := (if b50 = 46 then 299 else 303)) (ls' := [(0, .ref 0), (1, .int v1)]) (st' := [.int s0, .ref 0]) (x' := x49) hok hT bk_M_scan_294_2_ok rfl ?_
    refine jm_V.ite (fun _ => ?_) (fun _ => ?_)
    · refine jm_V.run (is := bk_M_scan_299_2) (pc' := 304) (ls' := [(0, .ref 0), (1, .int v1)]) (st' := [.int 2, .int s0, .ref 0]) (x' := x49) hok hT bk_M_scan_299_2_ok rfl ?_
      refine jm_V.sub (ls' := []) [] rfl ?_
      exact jj_M_scan_304 hok hrec 2 s0 x49
    · refine jm_V.run (is := bk_M_scan_303_1) (pc' := 304) (ls' := [(0, .ref 0), (1, .int v1)]) (st' := [.int 1, .int s0, .ref 0]) (x' := x49) hok hT bk_M_scan_303_1_ok rfl ?_
      refine jm_V.sub (ls' := []) [] rfl ?_
      exact jj_M_scan_304 hok hrec 1 s0 x49
  · refine jm_V.run (is := bk_M_scan_275_4) (pc' := 279) (ls' := [(0, .ref 0), (1, .int v1)]) (st' := [.int (v1 + 1), .ref 0, .int s0, .ref 0]) (x' := x47) hok hT bk_M_scan_275_4_ok rfl ?_
    refine jm_V.callI (av := [.ref 0, .int (v1 + 1)]) (rest := [.int s0, .ref 0]) hok (jm_Con.mono (c_M_nameFrom hok hrec (v1 + 1) x47) (by omega)) (jm_Inv.obj (q := ("FilterReaderModel", T_M, 22)) dd_M_scan_279 (Or.inl lk_M_148) mn_M_nameFrom ms_M_nameFrom mw_M_nameFrom mh_M_nameFrom ml_M_nameFrom rfl rfl) mw_M_nameFrom mi_M (Nat.le_of_ble_eq_true rfl) (Nat.le_of_ble_eq_true rfl) (fun b52 x51 => ?_)
    refine jm_V.run (is := bk_M_scan_282_3) (pc' := 304) (ls' := [(0, .ref 0), (1, .int v1)]) (st' := [.int (b52 - v1), .int s0, .ref 0]) (x' := x51) hok hT bk_M_scan_282_3_ok rfl ?_
    refine jm_V.sub (ls' := []) [] rfl ?_
    exact jj_M_scan_304 hok hrec (b52 - v1) s0 x51
def J_M_scan_125 (K : Nat) (g : jm_Rec) (v1 : Int32) (s0 : Int32) (x : jm_X) : Option jm_R := (if v1 = (x.1 8) then jm_then (va_up x.1 11 0, x.2) (fun x18 => J_M_scan_329 K g x18) else jm_bI (f_M_first K g s0 x) (fun b20 x19 => (if b20 = 0 then jm_bI (f_M_digit K g s0 x19) (fun b22 x21 => (if b22 = 0 then (if s0 = 36 then jm_bI (f_M_look K g (v1 + 1) x21) (fun b24 x23 => jm_bI (f_M_first K g b24 x23) (fun b26 x25 => (if b26 = 0 then J_M_scan_204 K g v1 25 x25 else J_M_scan_204 K g v1 3 x25))) else (if s0 = 46 then jm_bI (f_M_look K g (v1 + 1) x21) (fun b28 x27 => jm_bI (f_M_first K g b28 x27) (fun b30 x29 => (if b30 = 0 then jm_bI (f_M_look K g (v1 + 1) x29) (fun b32 x31 => (if b32 = 46 then J_M_scan_262 K g v1 15 x31 else J_M_scan_262 K g v1 14 x31)) else J_M_scan_262 K g v1 2 x29))) else jm_bI (f_M_look K g (v1 + 1) x21) (fun b34 x33 => jm_bI (f_M_look K g (v1 + 2) x33) (fun b36 x35 => jm_bV (f_M_sign K g s0 b34 b36 x35) (fun x37 => J_M_scan_329 K g x37))))) else jm_bV (f_M_digits K g x21) (fun x38 => J_M_scan_329 K g x38))) else jm_bI (f_M_nameFrom K g v1 x19) (fun b40 x39 => jm_bV (f_M_take K g 1 (b40 - v1) x39) (fun x41 => J_M_scan_329 K g x41)))))
set_option maxRecDepth 100000 in
set_option maxHeartbeats 4000000 in
theorem jj_M_scan_125 {l : Launch} {D : va_G} {ad : Nat → Nat} {aC : Nat → ClassId} {b0 : Nat} {K d0 : Nat} {g : jm_Rec} (hok : jm_Ok (jm_PP l D clR ad aC shR b0 0)) (hrec : ∀ (t : Nat) (av : List Value) (x : jm_X), jm_Con (jm_PP l D clR ad aC shR b0 0) (rcR t) d0 av x (g t av x)) (v1 : Int32) (s0 : Int32) (x : jm_X) : jm_V (jm_PP l D clR ad aC shR b0 0) mt_M_scan (d0 + 3) 125 [(0, .ref 0), (1, .int v1)] [.int s0] x (J_M_scan_125 K g v1 s0 x) := by
  have hT := tk_M (l := l) (D := D) (ad := ad) (aC := aC) (b0 := b0)
  unfold J_M_scan_125
  refine jm_V.run (is := bk_M_scan_125_5) (pc' := (if v1 = (x.1 8) then 134 else 142)) (ls' := [(2, .int s0), (0, .ref 0), (1, .int v1)]) (st' := []) (x' := x) hok hT bk_M_scan_125_5_ok rfl ?_
  refine jm_V.ite (fun _ => ?_) (fun _ => ?_)
  · refine jm_V.run (is := bk_M_scan_134_3) (pc' := 139) (ls' := [(2, .int s0), (0, .ref 0), (1, .int v1)]) (st' := []) (x' := (va_up x.1 11 0, x.2)) hok hT bk_M_scan_134_3_ok rfl ?_
    refine jm_V.then_ (fun x18 => ?_)
    refine jm_V.run (is := bk_M_scan_139_1) (pc' := 329) (ls' := [(2, .int s0), (0, .ref 0), (1, .int v1)]) (st' := []) (x' := x18) hok hT bk_M_scan_139_1_ok rfl ?_
    refine jm_V.sub (ls' := []) [] rfl ?_
    exact jj_M_scan_329 hok hrec x18
  · refine jm_V.run (is := bk_M_scan_142_1) (pc' := 143) (ls' := [(2, .int s0), (0, .ref 0), (1, .int v1)]) (st' := [.int s0]) (x' := x) hok hT bk_M_scan_142_1_ok rfl ?_
    refine jm_V.callI (av := [.int s0]) (rest := []) hok (jm_Con.mono (c_M_first hok hrec s0 x) (by omega)) (jm_Inv.stat dd_M_scan_143 (Or.inl lk_M_141) mq_M_first mi_M mw_M_first mh_M_first ml_M_first) mw_M_first mi_M (Nat.le_of_ble_eq_true rfl) (Nat.le_of_ble_eq_true rfl) (fun b20 x19 => ?_)
    refine jm_V.run (is := bk_M_scan_146_1) (pc' := (if b20 = 0 then 164 else 149)) (ls' := [(2, .int s0), (0, .ref 0), (1, .int v1)]) (st' := []) (x' := x19) hok hT bk_M_scan_146_1_ok rfl ?_
    refine jm_V.ite (fun _ => ?_) (fun _ => ?_)
    · refine jm_V.run (is := bk_M_scan_164_1) (pc' := 165) (ls' := [(2, .int s0), (0, .ref 0), (1, .int v1)]) (st' := [.int s0]) (x' := x19) hok hT bk_M_scan_164_1_ok rfl ?_
      refine jm_V.callI (av := [.int s0]) (rest := []) hok (jm_Con.mono (c_M_digit hok hrec s0 x19) (by omega)) (jm_Inv.stat dd_M_scan_165 (Or.inl lk_M_145) mq_M_digit mi_M mw_M_digit mh_M_digit ml_M_digit) mw_M_digit mi_M (Nat.le_of_ble_eq_true rfl) (Nat.le_of_ble_eq_true rfl) (fun b22 x21 => ?_)
      refine jm_V.run (is := bk_M_scan_168_1) (pc' := (if b22 = 0 then 178 else 171)) (ls' := [(2, .int s0), (0, .ref 0), (1, .int v1)]) (st' := []) (x' := x21) hok hT bk_M_scan_168_1_ok rfl ?_
      refine jm_V.ite (fun _ => ?_) (fun _ => ?_)
      · refine jm_V.run (is := bk_M_scan_178_3) (pc' := (if s0 = 36 then 184 else 219)) (ls' := [(2, .int s0), (0, .ref 0), (1, .int v1)]) (st' := []) (x' := x21) hok hT bk_M_scan_178_3_ok rfl ?_
        refine jm_V.ite (fun _ => ?_) (fun _ => ?_)
        · refine jm_V.run (is := bk_M_scan_184_5) (pc' := 189) (ls' := [(2, .int s0), (0, .ref 0), (1, .int v1)]) (st' := [.int (v1 + 1), .ref 0, .ref 0]) (x' := x21) hok hT bk_M_scan_184_5_ok rfl ?_
          refine jm_V.callI (av := [.ref 0, .int (v1 + 1)]) (rest := [.ref 0]) hok (jm_Con.mono (c_M_look hok hrec (v1 + 1) x21) (by omega)) (jm_Inv.obj (q := ("FilterReaderModel", T_M, 22)) dd_M_scan_189 (Or.inl lk_M_138) mn_M_look ms_M_look mw_M_look mh_M_look ml_M_look rfl rfl) mw_M_look mi_M (Nat.le_of_ble_eq_true rfl) (Nat.le_of_ble_eq_true rfl) (fun b24 x23 => ?_)
          refine jm_V.callI (av := [.int b24]) (rest := [.ref 0]) hok (jm_Con.mono (c_M_first hok hrec b24 x23) (by omega)) (jm_Inv.stat dd_M_scan_192 (Or.inl lk_M_141) mq_M_first mi_M mw_M_first mh_M_first ml_M_first) mw_M_first mi_M (Nat.le_of_ble_eq_true rfl) (Nat.le_of_ble_eq_true rfl) (fun b26 x25 => ?_)
          refine jm_V.run (is := bk_M_scan_195_1) (pc' := (if b26 = 0 then 202 else 198)) (ls' := [(2, .int s0), (0, .ref 0), (1, .int v1)]) (st' := [.ref 0]) (x' := x25) hok hT bk_M_scan_195_1_ok rfl ?_
          refine jm_V.ite (fun _ => ?_) (fun _ => ?_)
          · refine jm_V.run (is := bk_M_scan_202_1) (pc' := 204) (ls' := [(2, .int s0), (0, .ref 0), (1, .int v1)]) (st' := [.int 25, .ref 0]) (x' := x25) hok hT bk_M_scan_202_1_ok rfl ?_
            refine jm_V.sub (ls' := [(0, .ref 0), (1, .int v1)]) [1, 2] rfl ?_
            exact jj_M_scan_204 hok hrec v1 25 x25
          · refine jm_V.run (is := bk_M_scan_198_2) (pc' := 204) (ls' := [(2, .int s0), (0, .ref 0), (1, .int v1)]) (st' := [.int 3, .ref 0]) (x' := x25) hok hT bk_M_scan_198_2_ok rfl ?_
            refine jm_V.sub (ls' := [(0, .ref 0), (1, .int v1)]) [1, 2] rfl ?_
            exact jj_M_scan_204 hok hrec v1 3 x25
        · refine jm_V.run (is := bk_M_scan_219_3) (pc' := (if s0 = 46 then 225 else 310)) (ls' := [(2, .int s0), (0, .ref 0), (1, .int v1)]) (st' := []) (x' := x21) hok hT bk_M_scan_219_3_ok rfl ?_
          refine jm_V.ite (fun _ => ?_) (fun _ => ?_)
          · refine jm_V.run (is := bk_M_scan_225_5) (pc' := 230) (ls' := [(2, .int s0), (0, .ref 0), (1, .int v1)]) (st' := [.int (v1 + 1), .ref 0, .ref 0]) (x' := x21) hok hT bk_M_scan_225_5_ok rfl ?_
            refine jm_V.callI (av := [.ref 0, .int (v1 + 1)]) (rest := [.ref 0]) hok (jm_Con.mono (c_M_look hok hrec (v1 + 1) x21) (by omega)) (jm_Inv.obj (q := ("FilterReaderModel", T_M, 22)) dd_M_scan_230 (Or.inl lk_M_138) mn_M_look ms_M_look mw_M_look mh_M_look ml_M_look rfl rfl) mw_M_look mi_M (Nat.le_of_ble_eq_true rfl) (Nat.le_of_ble_eq_true rfl) (fun b28 x27 => ?_)
            refine jm_V.callI (av := [.int b28]) (rest := [.ref 0]) hok (jm_Con.mono (c_M_first hok hrec b28 x27) (by omega)) (jm_Inv.stat dd_M_scan_233 (Or.inl lk_M_141) mq_M_first mi_M mw_M_first mh_M_first ml_M_first) mw_M_first mi_M (Nat.le_of_ble_eq_true rfl) (Nat.le_of_ble_eq_true rfl) (fun b30 x29 => ?_)
            refine jm_V.run (is := bk_M_scan_236_1) (pc' := (if b30 = 0 then 243 else 239)) (ls' := [(2, .int s0), (0, .ref 0), (1, .int v1)]) (st' := [.ref 0]) (x' := x29) hok hT bk_M_scan_236_1_ok rfl ?_
            refine jm_V.ite (fun _ => ?_) (fun _ => ?_)
            · refine jm_V.run (is := bk_M_scan_243_4) (pc' := 247) (ls' := [(2, .int s0), (0, .ref 0), (1, .int v1)]) (st' := [.int (v1 + 1), .ref 0, .ref 0]) (x' := x29) hok hT bk_M_scan_243_4_ok rfl ?_
              refine jm_V.callI (av := [.ref 0, .int (v1 + 1)]) (rest := [.ref 0]) hok (jm_Con.mono (c_M_look hok hrec (v1 + 1) x29) (by omega)) (jm_Inv.obj (q := ("FilterReaderModel", T_M, 22)) dd_M_scan_247 (Or.inl lk_M_138) mn_M_look ms_M_look mw_M_look mh_M_look ml_M_look rfl rfl) mw_M_look mi_M (Nat.le_of_ble_eq_true rfl) (Nat.le_of_ble_eq_true rfl) (fun b32 x31 => ?_)
              refine jm_V.run (is := bk_M_scan_250_2) (pc' := (if b32 = 46 then 255 else 260)) (ls' := [(2, .int s0), (0, .ref 0), (1, .int v1)]) (st' := [.ref 0]) (x' := x31) hok hT bk_M_scan_250_2_ok rfl ?_
              refine jm_V.ite (fun _ => ?_) (fun _ => ?_)
              · refine jm_V.run (is := bk_M_scan_255_2) (pc' := 262) (ls' := [(2, .int s0), (0, .ref 0), (1, .int v1)]) (st' := [.int 15, .ref 0]) (x' := x31) hok hT bk_M_scan_255_2_ok rfl ?_
                refine jm_V.sub (ls' := [(0, .ref 0), (1, .int v1)]) [1, 2] rfl ?_
                exact jj_M_scan_262 hok hrec v1 15 x31
              · refine jm_V.run (is := bk_M_scan_260_1) (pc' := 262) (ls' := [(2, .int s0), (0, .ref 0), (1, .int v1)]) (st' := [.int 14, .ref 0]) (x' := x31) hok hT bk_M_scan_260_1_ok rfl ?_
                refine jm_V.sub (ls' := [(0, .ref 0), (1, .int v1)]) [1, 2] rfl ?_
                exact jj_M_scan_262 hok hrec v1 14 x31
            · refine jm_V.run (is := bk_M_scan_239_2) (pc' := 262) (ls' := [(2, .int s0), (0, .ref 0), (1, .int v1)]) (st' := [.int 2, .ref 0]) (x' := x29) hok hT bk_M_scan_239_2_ok rfl ?_
              refine jm_V.sub (ls' := [(0, .ref 0), (1, .int v1)]) [1, 2] rfl ?_
              exact jj_M_scan_262 hok hrec v1 2 x29
          · refine jm_V.run (is := bk_M_scan_310_6) (pc' := 316) (ls' := [(2, .int s0), (0, .ref 0), (1, .int v1)]) (st' := [.int (v1 + 1), .ref 0, .int s0, .ref 0]) (x' := x21) hok hT bk_M_scan_310_6_ok rfl ?_
            refine jm_V.callI (av := [.ref 0, .int (v1 + 1)]) (rest := [.int s0, .ref 0]) hok (jm_Con.mono (c_M_look hok hrec (v1 + 1) x21) (by omega)) (jm_Inv.obj (q := ("FilterReaderModel", T_M, 22)) dd_M_scan_316 (Or.inl lk_M_138) mn_M_look ms_M_look mw_M_look mh_M_look ml_M_look rfl rfl) mw_M_look mi_M (Nat.le_of_ble_eq_true rfl) (Nat.le_of_ble_eq_true rfl) (fun b34 x33 => ?_)
            refine jm_V.run (is := bk_M_scan_319_4) (pc' := 323) (ls' := [(2, .int s0), (0, .ref 0), (1, .int v1)]) (st' := [.int (v1 + 2), .ref 0, .int b34, .int s0, .ref 0]) (x' := x33) hok hT bk_M_scan_319_4_ok rfl ?_
            refine jm_V.callI (av := [.ref 0, .int (v1 + 2)]) (rest := [.int b34, .int s0, .ref 0]) hok (jm_Con.mono (c_M_look hok hrec (v1 + 2) x33) (by omega)) (jm_Inv.obj (q := ("FilterReaderModel", T_M, 22)) dd_M_scan_323 (Or.inl lk_M_138) mn_M_look ms_M_look mw_M_look mh_M_look ml_M_look rfl rfl) mw_M_look mi_M (Nat.le_of_ble_eq_true rfl) (Nat.le_of_ble_eq_true rfl) (fun b36 x35 => ?_)
            refine jm_V.callV (av := [.ref 0, .int s0, .int b34, .int b36]) (rest := []) hok (jm_Con.mono (c_M_sign hok hrec s0 b34 b36 x35) (by omega)) (jm_Inv.obj (q := ("FilterReaderModel", T_M, 22)) dd_M_scan_326 (Or.inl lk_M_158) mn_M_sign ms_M_sign mw_M_sign mh_M_sign ml_M_sign rfl rfl) mw_M_sign mi_M (Nat.le_of_ble_eq_true rfl) (Nat.le_of_ble_eq_true rfl) (fun x37 => ?_)
            refine jm_V.sub (ls' := []) [] rfl ?_
            exact jj_M_scan_329 hok hrec x37
      · refine jm_V.run (is := bk_M_scan_171_1) (pc' := 172) (ls' := [(2, .int s0), (0, .ref 0), (1, .int v1)]) (st' := [.ref 0]) (x' := x21) hok hT bk_M_scan_171_1_ok rfl ?_
        refine jm_V.callV (av := [.ref 0]) (rest := []) hok (jm_Con.mono (c_M_digits hok hrec x21) (by omega)) (jm_Inv.obj (q := ("FilterReaderModel", T_M, 22)) dd_M_scan_172 (Or.inl lk_M_155) mn_M_digits ms_M_digits mw_M_digits mh_M_digits ml_M_digits rfl rfl) mw_M_digits mi_M (Nat.le_of_ble_eq_true rfl) (Nat.le_of_ble_eq_true rfl) (fun x38 => ?_)
        refine jm_V.run (is := bk_M_scan_175_1) (pc' := 329) (ls' := [(2, .int s0), (0, .ref 0), (1, .int v1)]) (st' := []) (x' := x38) hok hT bk_M_scan_175_1_ok rfl ?_
        refine jm_V.sub (ls' := []) [] rfl ?_
        exact jj_M_scan_329 hok hrec x38
    · refine jm_V.run (is := bk_M_scan_149_4) (pc' := 153) (ls' := [(2, .int s0), (0, .ref 0), (1, .int v1)]) (st' := [.int v1, .ref 0, .int 1, .ref 0]) (x' := x19) hok hT bk_M_scan_149_4_ok rfl ?_
      refine jm_V.callI (av := [.ref 0, .int v1]) (rest := [.int 1, .ref 0]) hok (jm_Con.mono (c_M_nameFrom hok hrec v1 x19) (by omega)) (jm_Inv.obj (q := ("FilterReaderModel", T_M, 22)) dd_M_scan_153 (Or.inl lk_M_148) mn_M_nameFrom ms_M_nameFrom mw_M_nameFrom mh_M_nameFrom ml_M_nameFrom rfl rfl) mw_M_nameFrom mi_M (Nat.le_of_ble_eq_true rfl) (Nat.le_of_ble_eq_true rfl) (fun b40 x39 => ?_)
      refine jm_V.run (is := bk_M_scan_156_2) (pc' := 158) (ls' := [(2, .int s0), (0, .ref 0), (1, .int v1)]) (st' := [.int (b40 - v1), .int 1, .ref 0]) (x' := x39) hok hT bk_M_scan_156_2_ok rfl ?_
      refine jm_V.callV (av := [.ref 0, .int 1, .int (b40 - v1)]) (rest := []) hok (jm_Con.mono (c_M_take hok hrec 1 (b40 - v1) x39) (by omega)) (jm_Inv.obj (q := ("FilterReaderModel", T_M, 22)) dd_M_scan_158 (Or.inl lk_M_151) mn_M_take ms_M_take mw_M_take mh_M_take ml_M_take rfl rfl) mw_M_take mi_M (Nat.le_of_ble_eq_true rfl) (Nat.le_of_ble_eq_true rfl) (fun x41 => ?_)
      refine jm_V.run (is := bk_M_scan_161_1) (pc' := 329) (ls' := [(2, .int s0), (0, .ref 0), (1, .int v1)]) (st' := []) (x' := x41) hok hT bk_M_scan_161_1_ok rfl ?_
      refine jm_V.sub (ls' := []) [] rfl ?_
      exact jj_M_scan_329 hok hrec x41
def J_M_scan_103 (K : Nat) (g : jm_Rec) (v1 : Int32) (x : jm_X) : Option jm_R := jm_then (va_up x.1 9 v1, x.2) (fun x15 => (if (x15.1 8) ≤ v1 then J_M_scan_125 K g v1 (-1) x15 else jm_bI (f_M_look K g v1 x15) (fun b17 x16 => J_M_scan_125 K g v1 b17 x16)))
set_option maxRecDepth 100000 in
set_option maxHeartbeats 4000000 in
theorem jj_M_scan_103 {l : Launch} {D : va_G} {ad : Nat → Nat} {aC : Nat → ClassId} {b0 : Nat} {K d0 : Nat} {g : jm_Rec} (hok : jm_Ok (jm_PP l D clR ad aC shR b0 0)) (hrec : ∀ (t : Nat) (av : List Value) (x : jm_X), jm_Con (jm_PP l D clR ad aC shR b0 0) (rcR t) d0 av x (g t av x)) (v1 : Int32) (x : jm_X) : jm_V (jm_PP l D clR ad aC shR b0 0) mt_M_scan (d0 + 3) 103 [(0, .ref 0), (1, .int v1)] [] x (J_M_scan_103 K g v1 x) := by
  have hT := tk_M (l := l) (D := D) (ad := ad) (aC := aC) (b0 := b0)
  unfold J_M_scan_103
  refine jm_V.run (is := bk_M_scan_103_3) (pc' := 108) (ls' := [(0, .ref 0), (1, .int v1)]) (st' := []) (x' := (va_up x.1 9 v1, x.2)) hok hT bk_M_scan_103_3_ok rfl ?_
  refine jm_V.then_ (fun x15 => ?_)
  refine jm_V.run (is := bk_M_scan_108_4) (pc' := (if (x15.1 8) ≤ v1 then 124 else 116)) (ls' := [(0, .ref 0), (1, .int v1)]) (st' := []) (x' := x15) hok hT bk_M_scan_108_4_ok rfl ?_
  refine jm_V.ite (fun _ => ?_) (fun _ => ?_)
  · refine jm_V.run (is := bk_M_scan_124_1) (pc' := 125) (ls' := [(0, .ref 0), (1, .int v1)]) (st' := [.int (-1)]) (x' := x15) hok hT bk_M_scan_124_1_ok rfl ?_
    exact jj_M_scan_125 hok hrec v1 (-1) x15
  · refine jm_V.run (is := bk_M_scan_116_2) (pc' := 118) (ls' := [(0, .ref 0), (1, .int v1)]) (st' := [.int v1, .ref 0]) (x' := x15) hok hT bk_M_scan_116_2_ok rfl ?_
    refine jm_V.callI (av := [.ref 0, .int v1]) (rest := []) hok (jm_Con.mono (c_M_look hok hrec v1 x15) (by omega)) (jm_Inv.obj (q := ("FilterReaderModel", T_M, 22)) dd_M_scan_118 (Or.inl lk_M_138) mn_M_look ms_M_look mw_M_look mh_M_look ml_M_look rfl rfl) mw_M_look mi_M (Nat.le_of_ble_eq_true rfl) (Nat.le_of_ble_eq_true rfl) (fun b17 x16 => ?_)
    refine jm_V.run (is := bk_M_scan_121_1) (pc' := 125) (ls' := [(0, .ref 0), (1, .int v1)]) (st' := [.int b17]) (x' := x16) hok hT bk_M_scan_121_1_ok rfl ?_
    exact jj_M_scan_125 hok hrec v1 b17 x16
def B_M_scan_5 (K : Nat) (g : jm_Rec) (self : Int32 → jm_X → Option jm_R) (v1 : Int32) (x : jm_X) : Option jm_R := (if (x.1 8) ≤ v1 then J_M_scan_103 K g v1 x else jm_bI (f_M_look K g v1 x) (fun b2 x1 => (if b2 = 32 then J_M_scan_63 K g self v1 x1 else jm_bI (f_M_look K g v1 x1) (fun b4 x3 => (if b4 = 9 then J_M_scan_63 K g self v1 x3 else jm_bI (f_M_look K g v1 x3) (fun b6 x5 => (if b6 = 10 then J_M_scan_63 K g self v1 x5 else jm_bI (f_M_look K g v1 x5) (fun b8 x7 => (if b8 = 13 then J_M_scan_63 K g self v1 x7 else jm_bI (f_M_look K g v1 x7) (fun b10 x9 => (if b10 = 35 then J_M_scan_63 K g self v1 x9 else J_M_scan_103 K g v1 x9)))))))))))
def L_M_scan_5 (K : Nat) (g : jm_Rec) : Nat → Int32 → jm_X → Option jm_R
  | 0, _, _ => none
  | k + 1, v1, x => B_M_scan_5 K g (L_M_scan_5 K g k) v1 x
set_option maxRecDepth 100000 in
set_option maxHeartbeats 4000000 in
theorem jb_M_scan_5 {l : Launch} {D : va_G} {ad : Nat → Nat} {aC : Nat → ClassId} {b0 : Nat} {K d0 : Nat} {g : jm_Rec} (hok : jm_Ok (jm_PP l D clR ad aC shR b0 0)) (hrec : ∀ (t : Nat) (av : List Value) (x : jm_X), jm_Con (jm_PP l D clR ad aC shR b0 0) (rcR t) d0 av x (g t av x)) {self : Int32 → jm_X → Option jm_R} (hself : ∀ (v1 : Int32) (x : jm_X), jm_V (jm_PP l D clR ad aC shR b0 0) mt_M_scan (d0 + 3) 5 [(0, .ref 0), (1, .int v1)] [] x (self v1 x)) (v1 : Int32) (x : jm_X) : jm_V (jm_PP l D clR ad aC shR b0 0) mt_M_scan (d0 + 3) 5 [(0, .ref 0), (1, .int v1)] [] x (B_M_scan_5 K g self v1 x) := by
  have hT := tk_M (l := l) (D := D) (ad := ad) (aC := aC) (b0 := b0)
  unfold B_M_scan_5
  refine jm_V.run (is := bk_M_scan_5_4) (pc' := (if (x.1 8) ≤ v1 then 103 else 13)) (ls' := [(0, .ref 0), (1, .int v1)]) (st' := []) (x' := x) hok hT bk_M_scan_5_4_ok rfl ?_
  refine jm_V.ite (fun _ => ?_) (fun _ => ?_)
  · exact jj_M_scan_103 hok hrec v1 x
  · refine jm_V.run (is := bk_M_scan_13_2) (pc' := 15) (ls' := [(0, .ref 0), (1, .int v1)]) (st' := [.int v1, .ref 0]) (x' := x) hok hT bk_M_scan_13_2_ok rfl ?_
    refine jm_V.callI (av := [.ref 0, .int v1]) (rest := []) hok (jm_Con.mono (c_M_look hok hrec v1 x) (by omega)) (jm_Inv.obj (q := ("FilterReaderModel", T_M, 22)) dd_M_scan_15 (Or.inl lk_M_138) mn_M_look ms_M_look mw_M_look mh_M_look ml_M_look rfl rfl) mw_M_look mi_M (Nat.le_of_ble_eq_true rfl) (Nat.le_of_ble_eq_true rfl) (fun b2 x1 => ?_)
    refine jm_V.run (is := bk_M_scan_18_2) (pc' := (if b2 = 32 then 63 else 23)) (ls' := [(0, .ref 0), (1, .int v1)]) (st' := []) (x' := x1) hok hT bk_M_scan_18_2_ok rfl ?_
    refine jm_V.ite (fun _ => ?_) (fun _ => ?_)
    · exact jj_M_scan_63 hok hrec hself v1 x1
    · refine jm_V.run (is := bk_M_scan_23_2) (pc' := 25) (ls' := [(0, .ref 0), (1, .int v1)]) (st' := [.int v1, .ref 0]) (x' := x1) hok hT bk_M_scan_23_2_ok rfl ?_
      refine jm_V.callI (av := [.ref 0, .int v1]) (rest := []) hok (jm_Con.mono (c_M_look hok hrec v1 x1) (by omega)) (jm_Inv.obj (q := ("FilterReaderModel", T_M, 22)) dd_M_scan_25 (Or.inl lk_M_138) mn_M_look ms_M_look mw_M_look mh_M_look ml_M_look rfl rfl) mw_M_look mi_M (Nat.le_of_ble_eq_true rfl) (Nat.le_of_ble_eq_true rfl) (fun b4 x3 => ?_)
      refine jm_V.run (is := bk_M_scan_28_2) (pc' := (if b4 = 9 then 63 else 33)) (ls' := [(0, .ref 0), (1, .int v1)]) (st' := []) (x' := x3) hok hT bk_M_scan_28_2_ok rfl ?_
      refine jm_V.ite (fun _ => ?_) (fun _ => ?_)
      · exact jj_M_scan_63 hok hrec hself v1 x3
      · refine jm_V.run (is := bk_M_scan_33_2) (pc' := 35) (ls' := [(0, .ref 0), (1, .int v1)]) (st' := [.int v1, .ref 0]) (x' := x3) hok hT bk_M_scan_33_2_ok rfl ?_
        refine jm_V.callI (av := [.ref 0, .int v1]) (rest := []) hok (jm_Con.mono (c_M_look hok hrec v1 x3) (by omega)) (jm_Inv.obj (q := ("FilterReaderModel", T_M, 22)) dd_M_scan_35 (Or.inl lk_M_138) mn_M_look ms_M_look mw_M_look mh_M_look ml_M_look rfl rfl) mw_M_look mi_M (Nat.le_of_ble_eq_true rfl) (Nat.le_of_ble_eq_true rfl) (fun b6 x5 => ?_)
        refine jm_V.run (is := bk_M_scan_38_2) (pc' := (if b6 = 10 then 63 else 43)) (ls' := [(0, .ref 0), (1, .int v1)]) (st' := []) (x' := x5) hok hT bk_M_scan_38_2_ok rfl ?_
        refine jm_V.ite (fun _ => ?_) (fun _ => ?_)
        · exact jj_M_scan_63 hok hrec hself v1 x5
        · refine jm_V.run (is := bk_M_scan_43_2) (pc' := 45) (ls' := [(0, .ref 0), (1, .int v1)]) (st' := [.int v1, .ref 0]) (x' := x5) hok hT bk_M_scan_43_2_ok rfl ?_
          refine jm_V.callI (av := [.ref 0, .int v1]) (rest := []) hok (jm_Con.mono (c_M_look hok hrec v1 x5) (by omega)) (jm_Inv.obj (q := ("FilterReaderModel", T_M, 22)) dd_M_scan_45 (Or.inl lk_M_138) mn_M_look ms_M_look mw_M_look mh_M_look ml_M_look rfl rfl) mw_M_look mi_M (Nat.le_of_ble_eq_true rfl) (Nat.le_of_ble_eq_true rfl) (fun b8 x7 => ?_)
          refine jm_V.run (is := bk_M_scan_48_2) (pc' := (if b8 = 13 then 63 else 53)) (ls' := [(0, .ref 0), (1, .int v1)]) (st' := []) (x' := x7) hok hT bk_M_scan_48_2_ok rfl ?_
          refine jm_V.ite (fun _ => ?_) (fun _ => ?_)
          · exact jj_M_scan_63 hok hrec hself v1 x7
          · refine jm_V.run (is := bk_M_scan_53_2) (pc' := 55) (ls' := [(0, .ref 0), (1, .int v1)]) (st' := [.int v1, .ref 0]) (x' := x7) hok hT bk_M_scan_53_2_ok rfl ?_
            refine jm_V.callI (av := [.ref 0, .int v1]) (rest := []) hok (jm_Con.mono (c_M_look hok hrec v1 x7) (by omega)) (jm_Inv.obj (q := ("FilterReaderModel", T_M, 22)) dd_M_scan_55 (Or.inl lk_M_138) mn_M_look ms_M_look mw_M_look mh_M_look ml_M_look rfl rfl) mw_M_look mi_M (Nat.le_of_ble_eq_true rfl) (Nat.le_of_ble_eq_true rfl) (fun b10 x9 => ?_)
            refine jm_V.run (is := bk_M_scan_58_2) (pc' := (if b10 = 35 then 63 else 103)) (ls' := [(0, .ref 0), (1, .int v1)]) (st' := []) (x' := x9) hok hT bk_M_scan_58_2_ok rfl ?_
            refine jm_V.ite (fun _ => ?_) (fun _ => ?_)
            · exact jj_M_scan_63 hok hrec hself v1 x9
            · exact jj_M_scan_103 hok hrec v1 x9
theorem jl_M_scan_5 {l : Launch} {D : va_G} {ad : Nat → Nat} {aC : Nat → ClassId} {b0 : Nat} {K d0 : Nat} {g : jm_Rec} (hok : jm_Ok (jm_PP l D clR ad aC shR b0 0)) (hrec : ∀ (t : Nat) (av : List Value) (x : jm_X), jm_Con (jm_PP l D clR ad aC shR b0 0) (rcR t) d0 av x (g t av x)) : ∀ (k : Nat) (v1 : Int32) (x : jm_X), jm_V (jm_PP l D clR ad aC shR b0 0) mt_M_scan (d0 + 3) 5 [(0, .ref 0), (1, .int v1)] [] x (L_M_scan_5 K g k v1 x)
  | 0, _, _ => jm_V.stuck
  | k + 1, v1, x => jb_M_scan_5 hok hrec (fun v1 x => jl_M_scan_5 hok hrec k v1 x) v1 x
def f_M_scan (K : Nat) (g : jm_Rec)  (x : jm_X) : Option jm_R := L_M_scan_5 K g K (x.1 10) x
set_option maxRecDepth 100000 in
set_option maxHeartbeats 4000000 in
theorem c_M_scan {l : Launch} {D : va_G} {ad : Nat → Nat} {aC : Nat → ClassId} {b0 : Nat} {K d0 : Nat} {g : jm_Rec} (hok : jm_Ok (jm_PP l D clR ad aC shR b0 0)) (hrec : ∀ (t : Nat) (av : List Value) (x : jm_X), jm_Con (jm_PP l D clR ad aC shR b0 0) (rcR t) d0 av x (g t av x))  (x : jm_X) : jm_Con (jm_PP l D clR ad aC shR b0 0) mt_M_scan (d0 + 3) [.ref 0] x (f_M_scan K g  x) := by
  refine jm_Con.of (plainFor_of_name (by decide +kernel)) (Nat.le_of_ble_eq_true rfl) ?_
  have hT := tk_M (l := l) (D := D) (ad := ad) (aC := aC) (b0 := b0)
  unfold f_M_scan
  show jm_V _ _ _ 0 [(0, .ref 0)] [] x _
  refine jm_V.run (is := bk_M_scan_0_3) (pc' := 5) (ls' := [(1, .int (x.1 10)), (0, .ref 0)]) (st' := []) (x' := x) hok hT bk_M_scan_0_3_ok rfl ?_
  refine jm_V.sub (ls' := [(0, .ref 0), (1, .int (x.1 10))]) [1, 0] rfl ?_
  exact jl_M_scan_5 hok hrec K (x.1 10) x
abbrev bk_M_spells_0_2 : List (Nat × Instr × Nat) := [(0, .iload_n 2, 1), (1, .aload_n 3, 1)]
theorem bk_M_spells_0_2_ok : jm_at mt_M_spells.2.1 bk_M_spells_0_2 = true := by decide +kernel
abbrev bk_M_spells_5_1 : List (Nat × Instr × Nat) := [(5, .if_icmp .eq 5, 3)]
theorem bk_M_spells_5_1_ok : jm_at mt_M_spells.2.1 bk_M_spells_5_1 = true := by decide +kernel
abbrev bk_M_spells_10_2 : List (Nat × Instr × Nat) := [(10, .iconst 0, 1), (11, .istore 4, 2)]
theorem bk_M_spells_10_2_ok : jm_at mt_M_spells.2.1 bk_M_spells_10_2 = true := by decide +kernel
abbrev bk_M_spells_8_1 : List (Nat × Instr × Nat) := [(8, .iconst 0, 1)]
theorem bk_M_spells_8_1_ok : jm_at mt_M_spells.2.1 bk_M_spells_8_1 = true := by decide +kernel
abbrev bk_M_spells_13_3 : List (Nat × Instr × Nat) := [(13, .iload 4, 2), (15, .iload_n 2, 1), (16, .if_icmp .ge 29, 3)]
theorem bk_M_spells_13_3_ok : jm_at mt_M_spells.2.1 bk_M_spells_13_3 = true := by decide +kernel
abbrev bk_M_spells_45_1 : List (Nat × Instr × Nat) := [(45, .iconst 1, 1)]
theorem bk_M_spells_45_1_ok : jm_at mt_M_spells.2.1 bk_M_spells_45_1 = true := by decide +kernel
abbrev bk_M_spells_19_5 : List (Nat × Instr × Nat) := [(19, .aload_n 0, 1), (20, .getfield 72, 3), (23, .iload_n 1, 1), (24, .iload 4, 2), (26, .iadd, 1)]
theorem bk_M_spells_19_5_ok : jm_at mt_M_spells.2.1 bk_M_spells_19_5 = true := by decide +kernel
abbrev bk_M_spells_28_2 : List (Nat × Instr × Nat) := [(28, .aload_n 3, 1), (29, .iload 4, 2)]
theorem bk_M_spells_28_2_ok : jm_at mt_M_spells.2.1 bk_M_spells_28_2 = true := by decide +kernel
abbrev bk_M_spells_34_1 : List (Nat × Instr × Nat) := [(34, .if_icmp .eq 5, 3)]
theorem bk_M_spells_34_1_ok : jm_at mt_M_spells.2.1 bk_M_spells_34_1 = true := by decide +kernel
abbrev bk_M_spells_39_2 : List (Nat × Instr × Nat) := [(39, .iinc 4 1, 3), (42, .goto (-29), 3)]
theorem bk_M_spells_39_2_ok : jm_at mt_M_spells.2.1 bk_M_spells_39_2 = true := by decide +kernel
abbrev bk_M_spells_37_1 : List (Nat × Instr × Nat) := [(37, .iconst 0, 1)]
theorem bk_M_spells_37_1_ok : jm_at mt_M_spells.2.1 bk_M_spells_37_1 = true := by decide +kernel
theorem dd_M_spells_2 : decode mt_M_spells.2.1 2 = .ok (.invokevirtual 168, 3) := by decide +kernel
theorem dd_M_spells_9 : decode mt_M_spells.2.1 9 = .ok (.ireturn, 1) := by decide +kernel
theorem dd_M_spells_46 : decode mt_M_spells.2.1 46 = .ok (.ireturn, 1) := by decide +kernel
theorem dd_M_spells_31 : decode mt_M_spells.2.1 31 = .ok (.invokevirtual 172, 3) := by decide +kernel
theorem dd_M_spells_38 : decode mt_M_spells.2.1 38 = .ok (.ireturn, 1) := by decide +kernel
theorem dd_M_spells_27 : decode mt_M_spells.2.1 27 = .ok (.baload, 1) := by decide +kernel
def B_M_spells_13 (K : Nat) (g : jm_Rec) (self : Int32 → Int32 → Nat → Int32 → jm_X → Option jm_R) (v1 : Int32) (v2 : Int32) (v3 : Nat) (v4 : Int32) (x : jm_X) : Option jm_R := (if v2 ≤ v4 then some (.inl (some (.int 1), x)) else (if jm_in shR 3 .byte (v1 + v4) then (if jm_cn 2000 73 v3 then jm_bI (f_JS_charAt K g v3 v4 x) (fun b4 x3 => (if (x.2.2 3 (Int32.toNatClampNeg (v1 + v4))) = b4 then self v1 v2 v3 (v4 + 1) x3 else some (.inl (some (.int 0), x3)))) else none) else none))
def L_M_spells_13 (K : Nat) (g : jm_Rec) : Nat → Int32 → Int32 → Nat → Int32 → jm_X → Option jm_R
  | 0, _, _, _, _, _ => none
  | k + 1, v1, v2, v3, v4, x => B_M_spells_13 K g (L_M_spells_13 K g k) v1 v2 v3 v4 x
set_option maxRecDepth 100000 in
set_option maxHeartbeats 4000000 in
theorem jb_M_spells_13 {l : Launch} {D : va_G} {ad : Nat → Nat} {aC : Nat → ClassId} {b0 : Nat} {K d0 : Nat} {g : jm_Rec} (hok : jm_Ok (jm_PP l D clR ad aC shR b0 0)) (hrec : ∀ (t : Nat) (av : List Value) (x : jm_X), jm_Con (jm_PP l D clR ad aC shR b0 0) (rcR t) d0 av x (g t av x)) {self : Int32 → Int32 → Nat → Int32 → jm_X → Option jm_R} (hself : ∀ (v1 : Int32) (v2 : Int32) (v3 : Nat) (v4 : Int32) (x : jm_X), jm_V (jm_PP l D clR ad aC shR b0 0) mt_M_spells (d0 + 5) 13 [(0, .ref 0), (1, .int v1), (2, .int v2), (3, .ref v3), (4, .int v4)] [] x (self v1 v2 v3 v4 x)) (v1 : Int32) (v2 : Int32) (v3 : Nat) (v4 : Int32) (x : jm_X) : jm_V (jm_PP l D clR ad aC shR b0 0) mt_M_spells (d0 + 5) 13 [(0, .ref 0), (1, .int v1), (2, .int v2), (3, .ref v3), (4, .int v4)] [] x (B_M_spells_13 K g self v1 v2 v3 v4 x) := by
  have hT := tk_M (l := l) (D := D) (ad := ad) (aC := aC) (b0 := b0)
  unfold B_M_spells_13
  refine jm_V.run (is := bk_M_spells_13_3) (pc' := (if v2 ≤ v4 then 45 else 19)) (ls' := [(0, .ref 0), (1, .int v1), (2, .int v2), (3, .ref v3), (4, .int v4)]) (st' := []) (x' := x) hok hT bk_M_spells_13_3_ok rfl ?_
  refine jm_V.ite (fun _ => ?_) (fun _ => ?_)
  · refine jm_V.run (is := bk_M_spells_45_1) (pc' := 46) (ls' := [(0, .ref 0), (1, .int v1), (2, .int v2), (3, .ref v3), (4, .int v4)]) (st' := [.int 1]) (x' := x) hok hT bk_M_spells_45_1_ok rfl ?_
    exact jm_V.nret (t := .boolean) rfl rfl dd_M_spells_46
  · refine jm_V.run (is := bk_M_spells_19_5) (pc' := 27) (ls' := [(0, .ref 0), (1, .int v1), (2, .int v2), (3, .ref v3), (4, .int v4)]) (st' := [.int (v1 + v4), .ref 3]) (x' := x) hok hT bk_M_spells_19_5_ok rfl ?_
    refine jm_V.bald dd_M_spells_27 ?_
    refine jm_V.run (is := bk_M_spells_28_2) (pc' := 31) (ls' := [(0, .ref 0), (1, .int v1), (2, .int v2), (3, .ref v3), (4, .int v4)]) (st' := [.int v4, .ref v3, .int (x.2.2 3 (Int32.toNatClampNeg (v1 + v4)))]) (x' := x) hok hT bk_M_spells_28_2_ok rfl ?_
    refine jm_V.guard (fun hg => ?_)
    refine jm_V.callI (av := [.ref v3, .int v4]) (rest := [.int (x.2.2 3 (Int32.toNatClampNeg (v1 + v4)))]) hok (jm_Con.mono (c_JS_charAt (d0 := d0) hok hrec v3 v4 x) (by omega)) (iv_str hok hg dd_M_spells_31 lk_M_172 mn_JS_charAt ms_JS_charAt mw_JS_charAt mh_JS_charAt ml_JS_charAt) mw_JS_charAt mi_JS (Nat.le_of_ble_eq_true rfl) (Nat.le_of_ble_eq_true rfl) (fun b4 x3 => ?_)
    refine jm_V.run (is := bk_M_spells_34_1) (pc' := (if (x.2.2 3 (Int32.toNatClampNeg (v1 + v4))) = b4 then 39 else 37)) (ls' := [(0, .ref 0), (1, .int v1), (2, .int v2), (3, .ref v3), (4, .int v4)]) (st' := []) (x' := x3) hok hT bk_M_spells_34_1_ok rfl ?_
    refine jm_V.ite (fun _ => ?_) (fun _ => ?_)
    · refine jm_V.run (is := bk_M_spells_39_2) (pc' := 13) (ls' := [(4, .int (v4 + 1)), (0, .ref 0), (1, .int v1), (2, .int v2), (3, .ref v3)]) (st' := []) (x' := x3) hok hT bk_M_spells_39_2_ok rfl ?_
      refine jm_V.sub (ls' := [(0, .ref 0), (1, .int v1), (2, .int v2), (3, .ref v3), (4, .int (v4 + 1))]) [1, 2, 3, 4, 0] rfl ?_
      exact hself v1 v2 v3 (v4 + 1) x3
    · refine jm_V.run (is := bk_M_spells_37_1) (pc' := 38) (ls' := [(0, .ref 0), (1, .int v1), (2, .int v2), (3, .ref v3), (4, .int v4)]) (st' := [.int 0]) (x' := x3) hok hT bk_M_spells_37_1_ok rfl ?_
      exact jm_V.nret (t := .boolean) rfl rfl dd_M_spells_38
theorem jl_M_spells_13 {l : Launch} {D : va_G} {ad : Nat → Nat} {aC : Nat → ClassId} {b0 : Nat} {K d0 : Nat} {g : jm_Rec} (hok : jm_Ok (jm_PP l D clR ad aC shR b0 0)) (hrec : ∀ (t : Nat) (av : List Value) (x : jm_X), jm_Con (jm_PP l D clR ad aC shR b0 0) (rcR t) d0 av x (g t av x)) : ∀ (k : Nat) (v1 : Int32) (v2 : Int32) (v3 : Nat) (v4 : Int32) (x : jm_X), jm_V (jm_PP l D clR ad aC shR b0 0) mt_M_spells (d0 + 5) 13 [(0, .ref 0), (1, .int v1), (2, .int v2), (3, .ref v3), (4, .int v4)] [] x (L_M_spells_13 K g k v1 v2 v3 v4 x)
  | 0, _, _, _, _, _ => jm_V.stuck
  | k + 1, v1, v2, v3, v4, x => jb_M_spells_13 hok hrec (fun v1 v2 v3 v4 x => jl_M_spells_13 hok hrec k v1 v2 v3 v4 x) v1 v2 v3 v4 x
def f_M_spells (K : Nat) (g : jm_Rec) (a1 : Int32) (a2 : Int32) (a3 : Nat) (x : jm_X) : Option jm_R := (if jm_cn 2000 73 a3 then jm_bI (f_JS_length K g a3 x) (fun b2 x1 => (if a2 = b2 then L_M_spells_13 K g K a1 a2 a3 0 x1 else some (.inl (some (.int 0), x1)))) else none)
set_option maxRecDepth 100000 in
set_option maxHeartbeats 4000000 in
theorem c_M_spells {l : Launch} {D : va_G} {ad : Nat → Nat} {aC : Nat → ClassId} {b0 : Nat} {K d0 : Nat} {g : jm_Rec} (hok : jm_Ok (jm_PP l D clR ad aC shR b0 0)) (hrec : ∀ (t : Nat) (av : List Value) (x : jm_X), jm_Con (jm_PP l D clR ad aC shR b0 0) (rcR t) d0 av x (g t av x)) (a1 : Int32) (a2 : Int32) (a3 : Nat) (x : jm_X) : jm_Con (jm_PP l D clR ad aC shR b0 0) mt_M_spells (d0 + 5) [.ref 0, .int a1, .int a2, .ref a3] x (f_M_spells K g a1 a2 a3 x) := by
  refine jm_Con.of (plainFor_of_name (by decide +kernel)) (Nat.le_of_ble_eq_true rfl) ?_
  have hT := tk_M (l := l) (D := D) (ad := ad) (aC := aC) (b0 := b0)
  unfold f_M_spells
  show jm_V _ _ _ 0 [(0, .ref 0), (1, .int a1), (2, .int a2), (3, .ref a3)] [] x _
  refine jm_V.run (is := bk_M_spells_0_2) (pc' := 2) (ls' := [(0, .ref 0), (1, .int a1), (2, .int a2), (3, .ref a3)]) (st' := [.ref a3, .int a2]) (x' := x) hok hT bk_M_spells_0_2_ok rfl ?_
  refine jm_V.guard (fun hg => ?_)
  refine jm_V.callI (av := [.ref a3]) (rest := [.int a2]) hok (jm_Con.mono (c_JS_length (d0 := d0) hok hrec a3 x) (by omega)) (iv_str hok hg dd_M_spells_2 lk_M_168 mn_JS_length ms_JS_length mw_JS_length mh_JS_length ml_JS_length) mw_JS_length mi_JS (Nat.le_of_ble_eq_true rfl) (Nat.le_of_ble_eq_true rfl) (fun b2 x1 => ?_)
  refine jm_V.run (is := bk_M_spells_5_1) (pc' := (if a2 = b2 then 10 else 8)) (ls' := [(0, .ref 0), (1, .int a1), (2, .int a2), (3, .ref a3)]) (st' := []) (x' := x1) hok hT bk_M_spells_5_1_ok rfl ?_
  refine jm_V.ite (fun _ => ?_) (fun _ => ?_)
  · refine jm_V.run (is := bk_M_spells_10_2) (pc' := 13) (ls' := [(4, .int 0), (0, .ref 0), (1, .int a1), (2, .int a2), (3, .ref a3)]) (st' := []) (x' := x1) hok hT bk_M_spells_10_2_ok rfl ?_
    refine jm_V.sub (ls' := [(0, .ref 0), (1, .int a1), (2, .int a2), (3, .ref a3), (4, .int 0)]) [1, 2, 3, 4, 0] rfl ?_
    exact jl_M_spells_13 hok hrec K a1 a2 a3 0 x1
  · refine jm_V.run (is := bk_M_spells_8_1) (pc' := 9) (ls' := [(0, .ref 0), (1, .int a1), (2, .int a2), (3, .ref a3)]) (st' := [.int 0]) (x' := x1) hok hT bk_M_spells_8_1_ok rfl ?_
    exact jm_V.nret (t := .boolean) rfl rfl dd_M_spells_9
abbrev bk_M_is_0_4 : List (Nat × Instr × Nat) := [(0, .aload_n 0, 1), (1, .getfield 128, 3), (4, .iconst 1, 1), (5, .if_icmp .ne 28, 3)]
theorem bk_M_is_0_4_ok : jm_at mt_M_is.2.1 bk_M_is_0_4 = true := by decide +kernel
abbrev bk_M_is_8_9 : List (Nat × Instr × Nat) := [(8, .aload_n 0, 1), (9, .aload_n 0, 1), (10, .getfield 131, 3), (13, .aload_n 0, 1), (14, .getfield 119, 3), (17, .aload_n 0, 1), (18, .getfield 131, 3), (21, .isub, 1), (22, .aload_n 1, 1)]
theorem bk_M_is_8_9_ok : jm_at mt_M_is.2.1 bk_M_is_8_9 = true := by decide +kernel
abbrev bk_M_is_26_1 : List (Nat × Instr × Nat) := [(26, .ifCond .eq 7, 3)]
theorem bk_M_is_26_1_ok : jm_at mt_M_is.2.1 bk_M_is_26_1 = true := by decide +kernel
abbrev bk_M_is_29_2 : List (Nat × Instr × Nat) := [(29, .iconst 1, 1), (30, .goto 4, 3)]
theorem bk_M_is_29_2_ok : jm_at mt_M_is.2.1 bk_M_is_29_2 = true := by decide +kernel
abbrev bk_M_is_33_1 : List (Nat × Instr × Nat) := [(33, .iconst 0, 1)]
theorem bk_M_is_33_1_ok : jm_at mt_M_is.2.1 bk_M_is_33_1 = true := by decide +kernel
theorem dd_M_is_23 : decode mt_M_is.2.1 23 = .ok (.invokevirtual 176, 3) := by decide +kernel
theorem dd_M_is_34 : decode mt_M_is.2.1 34 = .ok (.ireturn, 1) := by decide +kernel
def J_M_is_34 (K : Nat) (g : jm_Rec) (s0 : Int32) (x : jm_X) : Option jm_R := some (.inl (some (.int (vp_nar .boolean s0)), x))
set_option maxRecDepth 100000 in
set_option maxHeartbeats 4000000 in
theorem jj_M_is_34 {l : Launch} {D : va_G} {ad : Nat → Nat} {aC : Nat → ClassId} {b0 : Nat} {K d0 : Nat} {g : jm_Rec} (hok : jm_Ok (jm_PP l D clR ad aC shR b0 0)) (hrec : ∀ (t : Nat) (av : List Value) (x : jm_X), jm_Con (jm_PP l D clR ad aC shR b0 0) (rcR t) d0 av x (g t av x)) (s0 : Int32) (x : jm_X) : jm_V (jm_PP l D clR ad aC shR b0 0) mt_M_is (d0 + 6) 34 [] [.int s0] x (J_M_is_34 K g s0 x) := by
  have hT := tk_M (l := l) (D := D) (ad := ad) (aC := aC) (b0 := b0)
  unfold J_M_is_34
  exact jm_V.nret (t := .boolean) rfl rfl dd_M_is_34
def J_M_is_33 (K : Nat) (g : jm_Rec)  (x : jm_X) : Option jm_R := J_M_is_34 K g 0 x
set_option maxRecDepth 100000 in
set_option maxHeartbeats 4000000 in
theorem jj_M_is_33 {l : Launch} {D : va_G} {ad : Nat → Nat} {aC : Nat → ClassId} {b0 : Nat} {K d0 : Nat} {g : jm_Rec} (hok : jm_Ok (jm_PP l D clR ad aC shR b0 0)) (hrec : ∀ (t : Nat) (av : List Value) (x : jm_X), jm_Con (jm_PP l D clR ad aC shR b0 0) (rcR t) d0 av x (g t av x))  (x : jm_X) : jm_V (jm_PP l D clR ad aC shR b0 0) mt_M_is (d0 + 6) 33 [] [] x (J_M_is_33 K g  x) := by
  have hT := tk_M (l := l) (D := D) (ad := ad) (aC := aC) (b0 := b0)
  unfold J_M_is_33
  refine jm_V.run (is := bk_M_is_33_1) (pc' := 34) (ls' := []) (st' := [.int 0]) (x' := x) hok hT bk_M_is_33_1_ok rfl ?_
  exact jj_M_is_34 hok hrec 0 x
def f_M_is (K : Nat) (g : jm_Rec) (a1 : Nat) (x : jm_X) : Option jm_R := (if (x.1 11) = 1 then jm_bI (f_M_spells K g (x.1 9) ((x.1 10) - (x.1 9)) a1 x) (fun b2 x1 => (if b2 = 0 then J_M_is_33 K g x1 else J_M_is_34 K g 1 x1)) else J_M_is_33 K g x)
set_option maxRecDepth 100000 in
set_option maxHeartbeats 4000000 in
theorem c_M_is {l : Launch} {D : va_G} {ad : Nat → Nat} {aC : Nat → ClassId} {b0 : Nat} {K d0 : Nat} {g : jm_Rec} (hok : jm_Ok (jm_PP l D clR ad aC shR b0 0)) (hrec : ∀ (t : Nat) (av : List Value) (x : jm_X), jm_Con (jm_PP l D clR ad aC shR b0 0) (rcR t) d0 av x (g t av x)) (a1 : Nat) (x : jm_X) : jm_Con (jm_PP l D clR ad aC shR b0 0) mt_M_is (d0 + 6) [.ref 0, .ref a1] x (f_M_is K g a1 x) := by
  refine jm_Con.of (plainFor_of_name (by decide +kernel)) (Nat.le_of_ble_eq_true rfl) ?_
  have hT := tk_M (l := l) (D := D) (ad := ad) (aC := aC) (b0 := b0)
  unfold f_M_is
  show jm_V _ _ _ 0 [(0, .ref 0), (1, .ref a1)] [] x _
  refine jm_V.run (is := bk_M_is_0_4) (pc' := (if (x.1 11) = 1 then 8 else 33)) (ls' := [(0, .ref 0), (1, .ref a1)]) (st' := []) (x' := x) hok hT bk_M_is_0_4_ok rfl ?_
  refine jm_V.ite (fun _ => ?_) (fun _ => ?_)
  · refine jm_V.run (is := bk_M_is_8_9) (pc' := 23) (ls' := [(0, .ref 0), (1, .ref a1)]) (st' := [.ref a1, .int ((x.1 10) - (x.1 9)), .int (x.1 9), .ref 0]) (x' := x) hok hT bk_M_is_8_9_ok rfl ?_
    refine jm_V.callI (av := [.ref 0, .int (x.1 9), .int ((x.1 10) - (x.1 9)), .ref a1]) (rest := []) hok (jm_Con.mono (c_M_spells hok hrec (x.1 9) ((x.1 10) - (x.1 9)) a1 x) (by omega)) (jm_Inv.obj (q := ("FilterReaderModel", T_M, 22)) dd_M_is_23 (Or.inl lk_M_176) mn_M_spells ms_M_spells mw_M_spells mh_M_spells ml_M_spells rfl rfl) mw_M_spells mi_M (Nat.le_of_ble_eq_true rfl) (Nat.le_of_ble_eq_true rfl) (fun b2 x1 => ?_)
    refine jm_V.run (is := bk_M_is_26_1) (pc' := (if b2 = 0 then 33 else 29)) (ls' := [(0, .ref 0), (1, .ref a1)]) (st' := []) (x' := x1) hok hT bk_M_is_26_1_ok rfl ?_
    refine jm_V.ite (fun _ => ?_) (fun _ => ?_)
    · refine jm_V.sub (ls' := []) [] rfl ?_
      exact jj_M_is_33 hok hrec x1
    · refine jm_V.run (is := bk_M_is_29_2) (pc' := 34) (ls' := [(0, .ref 0), (1, .ref a1)]) (st' := [.int 1]) (x' := x1) hok hT bk_M_is_29_2_ok rfl ?_
      refine jm_V.sub (ls' := []) [] rfl ?_
      exact jj_M_is_34 hok hrec 1 x1
  · refine jm_V.sub (ls' := []) [] rfl ?_
    exact jj_M_is_33 hok hrec x
abbrev bk_M_skip_s_0_2 : List (Nat × Instr × Nat) := [(0, .aload_n 0, 1), (1, .aload_n 1, 1)]
theorem bk_M_skip_s_0_2_ok : jm_at mt_M_skip_s.2.1 bk_M_skip_s_0_2 = true := by decide +kernel
abbrev bk_M_skip_s_5_1 : List (Nat × Instr × Nat) := [(5, .ifCond .ne 5, 3)]
theorem bk_M_skip_s_5_1_ok : jm_at mt_M_skip_s.2.1 bk_M_skip_s_5_1 = true := by decide +kernel
abbrev bk_M_skip_s_8_1 : List (Nat × Instr × Nat) := [(8, .iconst 0, 1)]
theorem bk_M_skip_s_8_1_ok : jm_at mt_M_skip_s.2.1 bk_M_skip_s_8_1 = true := by decide +kernel
abbrev bk_M_skip_s_10_1 : List (Nat × Instr × Nat) := [(10, .aload_n 0, 1)]
theorem bk_M_skip_s_10_1_ok : jm_at mt_M_skip_s.2.1 bk_M_skip_s_10_1 = true := by decide +kernel
abbrev bk_M_skip_s_14_1 : List (Nat × Instr × Nat) := [(14, .iconst 1, 1)]
theorem bk_M_skip_s_14_1_ok : jm_at mt_M_skip_s.2.1 bk_M_skip_s_14_1 = true := by decide +kernel
theorem dd_M_skip_s_2 : decode mt_M_skip_s.2.1 2 = .ok (.invokevirtual 180, 3) := by decide +kernel
theorem dd_M_skip_s_9 : decode mt_M_skip_s.2.1 9 = .ok (.ireturn, 1) := by decide +kernel
theorem dd_M_skip_s_11 : decode mt_M_skip_s.2.1 11 = .ok (.invokevirtual 122, 3) := by decide +kernel
theorem dd_M_skip_s_15 : decode mt_M_skip_s.2.1 15 = .ok (.ireturn, 1) := by decide +kernel
def f_M_skip_s (K : Nat) (g : jm_Rec) (a1 : Nat) (x : jm_X) : Option jm_R := jm_bI (f_M_is K g a1 x) (fun b2 x1 => (if b2 = 0 then some (.inl (some (.int 0), x1)) else jm_bV (f_M_scan K g x1) (fun x3 => some (.inl (some (.int 1), x3)))))
set_option maxRecDepth 100000 in
set_option maxHeartbeats 4000000 in
theorem c_M_skip_s {l : Launch} {D : va_G} {ad : Nat → Nat} {aC : Nat → ClassId} {b0 : Nat} {K d0 : Nat} {g : jm_Rec} (hok : jm_Ok (jm_PP l D clR ad aC shR b0 0)) (hrec : ∀ (t : Nat) (av : List Value) (x : jm_X), jm_Con (jm_PP l D clR ad aC shR b0 0) (rcR t) d0 av x (g t av x)) (a1 : Nat) (x : jm_X) : jm_Con (jm_PP l D clR ad aC shR b0 0) mt_M_skip_s (d0 + 7) [.ref 0, .ref a1] x (f_M_skip_s K g a1 x) := by
  refine jm_Con.of (plainFor_of_name (by decide +kernel)) (Nat.le_of_ble_eq_true rfl) ?_
  have hT := tk_M (l := l) (D := D) (ad := ad) (aC := aC) (b0 := b0)
  unfold f_M_skip_s
  show jm_V _ _ _ 0 [(0, .ref 0), (1, .ref a1)] [] x _
  refine jm_V.run (is := bk_M_skip_s_0_2) (pc' := 2) (ls' := [(0, .ref 0), (1, .ref a1)]) (st' := [.ref a1, .ref 0]) (x' := x) hok hT bk_M_skip_s_0_2_ok rfl ?_
  refine jm_V.callI (av := [.ref 0, .ref a1]) (rest := []) hok (jm_Con.mono (c_M_is hok hrec a1 x) (by omega)) (jm_Inv.obj (q := ("FilterReaderModel", T_M, 22)) dd_M_skip_s_2 (Or.inl lk_M_180) mn_M_is ms_M_is mw_M_is mh_M_is ml_M_is rfl rfl) mw_M_is mi_M (Nat.le_of_ble_eq_true rfl) (Nat.le_of_ble_eq_true rfl) (fun b2 x1 => ?_)
  refine jm_V.run (is := bk_M_skip_s_5_1) (pc' := (if b2 = 0 then 8 else 10)) (ls' := [(0, .ref 0), (1, .ref a1)]) (st' := []) (x' := x1) hok hT bk_M_skip_s_5_1_ok rfl ?_
  refine jm_V.ite (fun _ => ?_) (fun _ => ?_)
  · refine jm_V.run (is := bk_M_skip_s_8_1) (pc' := 9) (ls' := [(0, .ref 0), (1, .ref a1)]) (st' := [.int 0]) (x' := x1) hok hT bk_M_skip_s_8_1_ok rfl ?_
    exact jm_V.nret (t := .boolean) rfl rfl dd_M_skip_s_9
  · refine jm_V.run (is := bk_M_skip_s_10_1) (pc' := 11) (ls' := [(0, .ref 0), (1, .ref a1)]) (st' := [.ref 0]) (x' := x1) hok hT bk_M_skip_s_10_1_ok rfl ?_
    refine jm_V.callV (av := [.ref 0]) (rest := []) hok (jm_Con.mono (c_M_scan hok hrec x1) (by omega)) (jm_Inv.obj (q := ("FilterReaderModel", T_M, 22)) dd_M_skip_s_11 (Or.inl lk_M_122) mn_M_scan ms_M_scan mw_M_scan mh_M_scan ml_M_scan rfl rfl) mw_M_scan mi_M (Nat.le_of_ble_eq_true rfl) (Nat.le_of_ble_eq_true rfl) (fun x3 => ?_)
    refine jm_V.run (is := bk_M_skip_s_14_1) (pc' := 15) (ls' := [(0, .ref 0), (1, .ref a1)]) (st' := [.int 1]) (x' := x3) hok hT bk_M_skip_s_14_1_ok rfl ?_
    exact jm_V.nret (t := .boolean) rfl rfl dd_M_skip_s_15
abbrev bk_M_need_s_0_2 : List (Nat × Instr × Nat) := [(0, .aload_n 0, 1), (1, .aload_n 1, 1)]
theorem bk_M_need_s_0_2_ok : jm_at mt_M_need_s.2.1 bk_M_need_s_0_2 = true := by decide +kernel
abbrev bk_M_need_s_5_1 : List (Nat × Instr × Nat) := [(5, .ifCond .ne 12, 3)]
theorem bk_M_need_s_5_1_ok : jm_at mt_M_need_s.2.1 bk_M_need_s_5_1 = true := by decide +kernel
abbrev bk_M_need_s_8_3 : List (Nat × Instr × Nat) := [(8, .aload_n 0, 1), (9, .aload_n 0, 1), (10, .getfield 131, 3)]
theorem bk_M_need_s_8_3_ok : jm_at mt_M_need_s.2.1 bk_M_need_s_8_3 = true := by decide +kernel
theorem dd_M_need_s_2 : decode mt_M_need_s.2.1 2 = .ok (.invokevirtual 187, 3) := by decide +kernel
theorem dd_M_need_s_13 : decode mt_M_need_s.2.1 13 = .ok (.invokevirtual 134, 3) := by decide +kernel
theorem dd_M_need_s_16 : decode mt_M_need_s.2.1 16 = .ok (.athrow, 1) := by decide +kernel
theorem dd_M_need_s_17 : decode mt_M_need_s.2.1 17 = .ok (.return_, 1) := by decide +kernel
def f_M_need_s (K : Nat) (g : jm_Rec) (a1 : Nat) (x : jm_X) : Option jm_R := jm_bI (f_M_skip_s K g a1 x) (fun b2 x1 => (if b2 = 0 then jm_bA (f_M_bad K g (x1.1 9) x1) (fun b4 x3 => (if b4 = 2 then some (.inr ("java/lang/IllegalStateException", x3)) else none)) else some (.inl (none, x1))))
set_option maxRecDepth 100000 in
set_option maxHeartbeats 4000000 in
theorem c_M_need_s {l : Launch} {D : va_G} {ad : Nat → Nat} {aC : Nat → ClassId} {b0 : Nat} {K d0 : Nat} {g : jm_Rec} (hok : jm_Ok (jm_PP l D clR ad aC shR b0 0)) (hrec : ∀ (t : Nat) (av : List Value) (x : jm_X), jm_Con (jm_PP l D clR ad aC shR b0 0) (rcR t) d0 av x (g t av x)) (a1 : Nat) (x : jm_X) : jm_Con (jm_PP l D clR ad aC shR b0 0) mt_M_need_s (d0 + 8) [.ref 0, .ref a1] x (f_M_need_s K g a1 x) := by
  refine jm_Con.of (plainFor_of_name (by decide +kernel)) (Nat.le_of_ble_eq_true rfl) ?_
  have hT := tk_M (l := l) (D := D) (ad := ad) (aC := aC) (b0 := b0)
  unfold f_M_need_s
  show jm_V _ _ _ 0 [(0, .ref 0), (1, .ref a1)] [] x _
  refine jm_V.run (is := bk_M_need_s_0_2) (pc' := 2) (ls' := [(0, .ref 0), (1, .ref a1)]) (st' := [.ref a1, .ref 0]) (x' := x) hok hT bk_M_need_s_0_2_ok rfl ?_
  refine jm_V.callI (av := [.ref 0, .ref a1]) (rest := []) hok (jm_Con.mono (c_M_skip_s hok hrec a1 x) (by omega)) (jm_Inv.obj (q := ("FilterReaderModel", T_M, 22)) dd_M_need_s_2 (Or.inl lk_M_187) mn_M_skip_s ms_M_skip_s mw_M_skip_s mh_M_skip_s ml_M_skip_s rfl rfl) mw_M_skip_s mi_M (Nat.le_of_ble_eq_true rfl) (Nat.le_of_ble_eq_true rfl) (fun b2 x1 => ?_)
  refine jm_V.run (is := bk_M_need_s_5_1) (pc' := (if b2 = 0 then 8 else 17)) (ls' := [(0, .ref 0), (1, .ref a1)]) (st' := []) (x' := x1) hok hT bk_M_need_s_5_1_ok rfl ?_
  refine jm_V.ite (fun _ => ?_) (fun _ => ?_)
  · refine jm_V.run (is := bk_M_need_s_8_3) (pc' := 13) (ls' := [(0, .ref 0), (1, .ref a1)]) (st' := [.int (x1.1 9), .ref 0]) (x' := x1) hok hT bk_M_need_s_8_3_ok rfl ?_
    refine jm_V.callA (av := [.ref 0, .int (x1.1 9)]) (rest := []) hok (jm_Con.mono (c_M_bad hok hrec (x1.1 9) x1) (by omega)) (jm_Inv.obj (q := ("FilterReaderModel", T_M, 22)) dd_M_need_s_13 (Or.inl lk_M_134) mn_M_bad ms_M_bad mw_M_bad mh_M_bad ml_M_bad rfl rfl) mw_M_bad mi_M (Nat.le_of_ble_eq_true rfl) (Nat.le_of_ble_eq_true rfl) (fun b4 x3 => ?_)
    exact jm_V.athrowS (o := 2) (q := ("java/lang/IllegalStateException", T_X, 0)) rfl rfl dd_M_need_s_16
  · exact jm_V.vret rfl dd_M_need_s_17
abbrev bk_M_condition_0_1 : List (Nat × Instr × Nat) := [(0, .aload_n 0, 1)]
theorem bk_M_condition_0_1_ok : jm_at mt_M_condition.2.1 bk_M_condition_0_1 = true := by decide +kernel
abbrev bk_M_condition_4_1 : List (Nat × Instr × Nat) := [(4, .aload_n 0, 1)]
theorem bk_M_condition_4_1_ok : jm_at mt_M_condition.2.1 bk_M_condition_4_1 = true := by decide +kernel
abbrev bk_M_condition_10_1 : List (Nat × Instr × Nat) := [(10, .aload_n 0, 1)]
theorem bk_M_condition_10_1_ok : jm_at mt_M_condition.2.1 bk_M_condition_10_1 = true := by decide +kernel
abbrev bk_M_condition_14_2 : List (Nat × Instr × Nat) := [(14, .iconst 0, 1), (15, .istore_n 1, 1)]
theorem bk_M_condition_14_2_ok : jm_at mt_M_condition.2.1 bk_M_condition_14_2 = true := by decide +kernel
abbrev bk_M_condition_16_1 : List (Nat × Instr × Nat) := [(16, .aload_n 0, 1)]
theorem bk_M_condition_16_1_ok : jm_at mt_M_condition.2.1 bk_M_condition_16_1 = true := by decide +kernel
abbrev bk_M_condition_22_1 : List (Nat × Instr × Nat) := [(22, .ifCond .eq 38, 3)]
theorem bk_M_condition_22_1_ok : jm_at mt_M_condition.2.1 bk_M_condition_22_1 = true := by decide +kernel
abbrev bk_M_condition_60_1 : List (Nat × Instr × Nat) := [(60, .aload_n 0, 1)]
theorem bk_M_condition_60_1_ok : jm_at mt_M_condition.2.1 bk_M_condition_60_1 = true := by decide +kernel
abbrev bk_M_condition_66_1 : List (Nat × Instr × Nat) := [(66, .ifCond .eq 7, 3)]
theorem bk_M_condition_66_1_ok : jm_at mt_M_condition.2.1 bk_M_condition_66_1 = true := by decide +kernel
abbrev bk_M_condition_69_1 : List (Nat × Instr × Nat) := [(69, .aload_n 0, 1)]
theorem bk_M_condition_69_1_ok : jm_at mt_M_condition.2.1 bk_M_condition_69_1 = true := by decide +kernel
abbrev bk_M_condition_25_4 : List (Nat × Instr × Nat) := [(25, .aload_n 0, 1), (26, .getfield 76, 3), (29, .bipush 25, 2), (31, .dup2, 1)]
theorem bk_M_condition_25_4_ok : jm_at mt_M_condition.2.1 bk_M_condition_25_4 = true := by decide +kernel
abbrev bk_M_condition_33_2 : List (Nat × Instr × Nat) := [(33, .iconst 1, 1), (34, .iadd, 1)]
theorem bk_M_condition_33_2_ok : jm_at mt_M_condition.2.1 bk_M_condition_33_2 = true := by decide +kernel
abbrev bk_M_condition_36_1 : List (Nat × Instr × Nat) := [(36, .aload_n 0, 1)]
theorem bk_M_condition_36_1_ok : jm_at mt_M_condition.2.1 bk_M_condition_36_1 = true := by decide +kernel
abbrev bk_M_condition_40_2 : List (Nat × Instr × Nat) := [(40, .iinc 1 1, 3), (43, .aload_n 0, 1)]
theorem bk_M_condition_40_2_ok : jm_at mt_M_condition.2.1 bk_M_condition_40_2 = true := by decide +kernel
abbrev bk_M_condition_47_1 : List (Nat × Instr × Nat) := [(47, .aload_n 0, 1)]
theorem bk_M_condition_47_1_ok : jm_at mt_M_condition.2.1 bk_M_condition_47_1 = true := by decide +kernel
abbrev bk_M_condition_53_1 : List (Nat × Instr × Nat) := [(53, .aload_n 0, 1)]
theorem bk_M_condition_53_1_ok : jm_at mt_M_condition.2.1 bk_M_condition_53_1 = true := by decide +kernel
abbrev bk_M_condition_57_1 : List (Nat × Instr × Nat) := [(57, .goto (-41), 3)]
theorem bk_M_condition_57_1_ok : jm_at mt_M_condition.2.1 bk_M_condition_57_1 = true := by decide +kernel
abbrev bk_M_condition_73_1 : List (Nat × Instr × Nat) := [(73, .aload_n 0, 1)]
theorem bk_M_condition_73_1_ok : jm_at mt_M_condition.2.1 bk_M_condition_73_1 = true := by decide +kernel
abbrev bk_M_condition_79_6 : List (Nat × Instr × Nat) := [(79, .aload_n 0, 1), (80, .dup, 1), (81, .getfield 116, 3), (84, .iload_n 1, 1), (85, .isub, 1), (86, .putfield 116, 3)]
theorem bk_M_condition_79_6_ok : jm_at mt_M_condition.2.1 bk_M_condition_79_6 = true := by decide +kernel
theorem dd_M_condition_1 : decode mt_M_condition.2.1 1 = .ok (.invokevirtual 125, 3) := by decide +kernel
theorem dd_M_condition_7 : decode mt_M_condition.2.1 7 = .ok (.invokevirtual 243, 3) := by decide +kernel
theorem dd_M_condition_11 : decode mt_M_condition.2.1 11 = .ok (.invokevirtual 125, 3) := by decide +kernel
theorem dd_M_condition_5 : decode mt_M_condition.2.1 5 = .ok (.ldc 35, 2) := by decide +kernel
theorem dd_M_condition_19 : decode mt_M_condition.2.1 19 = .ok (.invokevirtual 187, 3) := by decide +kernel
theorem dd_M_condition_63 : decode mt_M_condition.2.1 63 = .ok (.invokevirtual 187, 3) := by decide +kernel
theorem dd_M_condition_70 : decode mt_M_condition.2.1 70 = .ok (.invokevirtual 125, 3) := by decide +kernel
theorem dd_M_condition_61 : decode mt_M_condition.2.1 61 = .ok (.ldc 21, 2) := by decide +kernel
theorem dd_M_condition_37 : decode mt_M_condition.2.1 37 = .ok (.invokevirtual 193, 3) := by decide +kernel
theorem dd_M_condition_44 : decode mt_M_condition.2.1 44 = .ok (.invokevirtual 125, 3) := by decide +kernel
theorem dd_M_condition_50 : decode mt_M_condition.2.1 50 = .ok (.invokevirtual 243, 3) := by decide +kernel
theorem dd_M_condition_54 : decode mt_M_condition.2.1 54 = .ok (.invokevirtual 125, 3) := by decide +kernel
theorem dd_M_condition_48 : decode mt_M_condition.2.1 48 = .ok (.ldc 35, 2) := by decide +kernel
theorem dd_M_condition_35 : decode mt_M_condition.2.1 35 = .ok (.iastore, 1) := by decide +kernel
theorem dd_M_condition_32 : decode mt_M_condition.2.1 32 = .ok (.iaload, 1) := by decide +kernel
theorem dd_M_condition_17 : decode mt_M_condition.2.1 17 = .ok (.ldc 19, 2) := by decide +kernel
theorem dd_M_condition_76 : decode mt_M_condition.2.1 76 = .ok (.invokevirtual 243, 3) := by decide +kernel
theorem dd_M_condition_89 : decode mt_M_condition.2.1 89 = .ok (.return_, 1) := by decide +kernel
theorem dd_M_condition_74 : decode mt_M_condition.2.1 74 = .ok (.ldc 23, 2) := by decide +kernel
def J_M_condition_73 (K : Nat) (g : jm_Rec) (v1 : Int32) (x : jm_X) : Option jm_R := jm_bV (f_M_need_s K g 2010 x) (fun x14 => jm_then (va_up x14.1 12 ((x14.1 12) - v1), x14.2) (fun x15 => some (.inl (none, x15))))
set_option maxRecDepth 100000 in
set_option maxHeartbeats 4000000 in
theorem jj_M_condition_73 {l : Launch} {D : va_G} {ad : Nat → Nat} {aC : Nat → ClassId} {b0 : Nat} {K d0 : Nat} {g : jm_Rec} (hok : jm_Ok (jm_PP l D clR ad aC shR b0 0)) (hrec : ∀ (t : Nat) (av : List Value) (x : jm_X), jm_Con (jm_PP l D clR ad aC shR b0 0) (rcR t) d0 av x (g t av x)) (v1 : Int32) (x : jm_X) : jm_V (jm_PP l D clR ad aC shR b0 0) mt_M_condition (d0 + 9) 73 [(0, .ref 0), (1, .int v1)] [] x (J_M_condition_73 K g v1 x) := by
  have hT := tk_M (l := l) (D := D) (ad := ad) (aC := aC) (b0 := b0)
  unfold J_M_condition_73
  refine jm_V.run (is := bk_M_condition_73_1) (pc' := 74) (ls' := [(0, .ref 0), (1, .int v1)]) (st' := [.ref 0]) (x' := x) hok hT bk_M_condition_73_1_ok rfl ?_
  refine jm_V.lds (o := 2010) (tx := "end") (cs_str (i := 10) rfl) dd_M_condition_74 ?_
  refine jm_V.callV (av := [.ref 0, .ref 2010]) (rest := []) hok (jm_Con.mono (c_M_need_s hok hrec 2010 x) (by omega)) (jm_Inv.obj (q := ("FilterReaderModel", T_M, 22)) dd_M_condition_76 (Or.inl lk_M_243) mn_M_need_s ms_M_need_s mw_M_need_s mh_M_need_s ml_M_need_s rfl rfl) mw_M_need_s mi_M (Nat.le_of_ble_eq_true rfl) (Nat.le_of_ble_eq_true rfl) (fun x14 => ?_)
  refine jm_V.run (is := bk_M_condition_79_6) (pc' := 89) (ls' := [(0, .ref 0), (1, .int v1)]) (st' := []) (x' := (va_up x14.1 12 ((x14.1 12) - v1), x14.2)) hok hT bk_M_condition_79_6_ok rfl ?_
  refine jm_V.then_ (fun x15 => ?_)
  exact jm_V.vret rfl dd_M_condition_89
def B_M_condition_16 (K : Nat) (g : jm_Rec) (self : Int32 → jm_X → Option jm_R) (v1 : Int32) (x : jm_X) : Option jm_R := jm_bI (f_M_skip_s K g 2008 x) (fun b5 x4 => (if b5 = 0 then jm_bI (f_M_skip_s K g 2009 x4) (fun b7 x6 => (if b7 = 0 then J_M_condition_73 K g v1 x6 else jm_bV (g 0 [.ref 0] x6) (fun x8 => J_M_condition_73 K g v1 x8))) else (if jm_in shR 4 .int 25 then (if jm_in shR 4 .int 25 then jm_then (jm_ua x4 4 25 ((x4.2.2 4 (Int32.toNatClampNeg 25)) + 1)) (fun x9 => jm_bV (f_M_enter K g x9) (fun x10 => jm_bV (g 0 [.ref 0] x10) (fun x11 => jm_bV (f_M_need_s K g 2016 x11) (fun x12 => jm_bV (g 0 [.ref 0] x12) (fun x13 => self (v1 + 1) x13))))) else none) else none)))
def L_M_condition_16 (K : Nat) (g : jm_Rec) : Nat → Int32 → jm_X → Option jm_R
  | 0, _, _ => none
  | k + 1, v1, x => B_M_condition_16 K g (L_M_condition_16 K g k) v1 x
set_option maxRecDepth 100000 in
set_option maxHeartbeats 4000000 in
theorem jb_M_condition_16 {l : Launch} {D : va_G} {ad : Nat → Nat} {aC : Nat → ClassId} {b0 : Nat} {K d0 : Nat} {g : jm_Rec} (hok : jm_Ok (jm_PP l D clR ad aC shR b0 0)) (hrec : ∀ (t : Nat) (av : List Value) (x : jm_X), jm_Con (jm_PP l D clR ad aC shR b0 0) (rcR t) d0 av x (g t av x)) {self : Int32 → jm_X → Option jm_R} (hself : ∀ (v1 : Int32) (x : jm_X), jm_V (jm_PP l D clR ad aC shR b0 0) mt_M_condition (d0 + 9) 16 [(0, .ref 0), (1, .int v1)] [] x (self v1 x)) (v1 : Int32) (x : jm_X) : jm_V (jm_PP l D clR ad aC shR b0 0) mt_M_condition (d0 + 9) 16 [(0, .ref 0), (1, .int v1)] [] x (B_M_condition_16 K g self v1 x) := by
  have hT := tk_M (l := l) (D := D) (ad := ad) (aC := aC) (b0 := b0)
  unfold B_M_condition_16
  refine jm_V.run (is := bk_M_condition_16_1) (pc' := 17) (ls' := [(0, .ref 0), (1, .int v1)]) (st' := [.ref 0]) (x' := x) hok hT bk_M_condition_16_1_ok rfl ?_
  refine jm_V.lds (o := 2008) (tx := "elif") (cs_str (i := 8) rfl) dd_M_condition_17 ?_
  refine jm_V.callI (av := [.ref 0, .ref 2008]) (rest := []) hok (jm_Con.mono (c_M_skip_s hok hrec 2008 x) (by omega)) (jm_Inv.obj (q := ("FilterReaderModel", T_M, 22)) dd_M_condition_19 (Or.inl lk_M_187) mn_M_skip_s ms_M_skip_s mw_M_skip_s mh_M_skip_s ml_M_skip_s rfl rfl) mw_M_skip_s mi_M (Nat.le_of_ble_eq_true rfl) (Nat.le_of_ble_eq_true rfl) (fun b5 x4 => ?_)
  refine jm_V.run (is := bk_M_condition_22_1) (pc' := (if b5 = 0 then 60 else 25)) (ls' := [(0, .ref 0), (1, .int v1)]) (st' := []) (x' := x4) hok hT bk_M_condition_22_1_ok rfl ?_
  refine jm_V.ite (fun _ => ?_) (fun _ => ?_)
  · refine jm_V.run (is := bk_M_condition_60_1) (pc' := 61) (ls' := [(0, .ref 0), (1, .int v1)]) (st' := [.ref 0]) (x' := x4) hok hT bk_M_condition_60_1_ok rfl ?_
    refine jm_V.lds (o := 2009) (tx := "else") (cs_str (i := 9) rfl) dd_M_condition_61 ?_
    refine jm_V.callI (av := [.ref 0, .ref 2009]) (rest := []) hok (jm_Con.mono (c_M_skip_s hok hrec 2009 x4) (by omega)) (jm_Inv.obj (q := ("FilterReaderModel", T_M, 22)) dd_M_condition_63 (Or.inl lk_M_187) mn_M_skip_s ms_M_skip_s mw_M_skip_s mh_M_skip_s ml_M_skip_s rfl rfl) mw_M_skip_s mi_M (Nat.le_of_ble_eq_true rfl) (Nat.le_of_ble_eq_true rfl) (fun b7 x6 => ?_)
    refine jm_V.run (is := bk_M_condition_66_1) (pc' := (if b7 = 0 then 73 else 69)) (ls' := [(0, .ref 0), (1, .int v1)]) (st' := []) (x' := x6) hok hT bk_M_condition_66_1_ok rfl ?_
    refine jm_V.ite (fun _ => ?_) (fun _ => ?_)
    · exact jj_M_condition_73 hok hrec v1 x6
    · refine jm_V.run (is := bk_M_condition_69_1) (pc' := 70) (ls' := [(0, .ref 0), (1, .int v1)]) (st' := [.ref 0]) (x' := x6) hok hT bk_M_condition_69_1_ok rfl ?_
      refine jm_V.callV (av := [.ref 0]) (rest := []) hok (jm_Con.mono (hrec 0 [.ref 0] x6) (by omega)) (jm_Inv.obj (q := ("FilterReaderModel", T_M, 22)) dd_M_condition_70 (Or.inl lk_M_125) mn_M_program ms_M_program mw_M_program mh_M_program ml_M_program rfl rfl) mw_M_program mi_M (Nat.le_of_ble_eq_true rfl) (Nat.le_of_ble_eq_true rfl) (fun x8 => ?_)
      exact jj_M_condition_73 hok hrec v1 x8
  · refine jm_V.run (is := bk_M_condition_25_4) (pc' := 32) (ls' := [(0, .ref 0), (1, .int v1)]) (st' := [.int 25, .ref 4, .int 25, .ref 4]) (x' := x4) hok hT bk_M_condition_25_4_ok rfl ?_
    refine jm_V.iald dd_M_condition_32 ?_
    refine jm_V.run (is := bk_M_condition_33_2) (pc' := 35) (ls' := [(0, .ref 0), (1, .int v1)]) (st' := [.int ((x4.2.2 4 (Int32.toNatClampNeg 25)) + 1), .int 25, .ref 4]) (x' := x4) hok hT bk_M_condition_33_2_ok rfl ?_
    refine jm_V.iast hok dd_M_condition_35 ?_
    refine jm_V.then_ (fun x9 => ?_)
    refine jm_V.run (is := bk_M_condition_36_1) (pc' := 37) (ls' := [(0, .ref 0), (1, .int v1)]) (st' := [.ref 0]) (x' := x9) hok hT bk_M_condition_36_1_ok rfl ?_
    refine jm_V.callV (av := [.ref 0]) (rest := []) hok (jm_Con.mono (c_M_enter hok hrec x9) (by omega)) (jm_Inv.obj (q := ("FilterReaderModel", T_M, 22)) dd_M_condition_37 (Or.inl lk_M_193) mn_M_enter ms_M_enter mw_M_enter mh_M_enter ml_M_enter rfl rfl) mw_M_enter mi_M (Nat.le_of_ble_eq_true rfl) (Nat.le_of_ble_eq_true rfl) (fun x10 => ?_)
    refine jm_V.run (is := bk_M_condition_40_2) (pc' := 44) (ls' := [(1, .int (v1 + 1)), (0, .ref 0)]) (st' := [.ref 0]) (x' := x10) hok hT bk_M_condition_40_2_ok rfl ?_
    refine jm_V.callV (av := [.ref 0]) (rest := []) hok (jm_Con.mono (hrec 0 [.ref 0] x10) (by omega)) (jm_Inv.obj (q := ("FilterReaderModel", T_M, 22)) dd_M_condition_44 (Or.inl lk_M_125) mn_M_program ms_M_program mw_M_program mh_M_program ml_M_program rfl rfl) mw_M_program mi_M (Nat.le_of_ble_eq_true rfl) (Nat.le_of_ble_eq_true rfl) (fun x11 => ?_)
    refine jm_V.run (is := bk_M_condition_47_1) (pc' := 48) (ls' := [(1, .int (v1 + 1)), (0, .ref 0)]) (st' := [.ref 0]) (x' := x11) hok hT bk_M_condition_47_1_ok rfl ?_
    refine jm_V.lds (o := 2016) (tx := "then") (cs_str (i := 16) rfl) dd_M_condition_48 ?_
    refine jm_V.callV (av := [.ref 0, .ref 2016]) (rest := []) hok (jm_Con.mono (c_M_need_s hok hrec 2016 x11) (by omega)) (jm_Inv.obj (q := ("FilterReaderModel", T_M, 22)) dd_M_condition_50 (Or.inl lk_M_243) mn_M_need_s ms_M_need_s mw_M_need_s mh_M_need_s ml_M_need_s rfl rfl) mw_M_need_s mi_M (Nat.le_of_ble_eq_true rfl) (Nat.le_of_ble_eq_true rfl) (fun x12 => ?_)
    refine jm_V.run (is := bk_M_condition_53_1) (pc' := 54) (ls' := [(1, .int (v1 + 1)), (0, .ref 0)]) (st' := [.ref 0]) (x' := x12) hok hT bk_M_condition_53_1_ok rfl ?_
    refine jm_V.callV (av := [.ref 0]) (rest := []) hok (jm_Con.mono (hrec 0 [.ref 0] x12) (by omega)) (jm_Inv.obj (q := ("FilterReaderModel", T_M, 22)) dd_M_condition_54 (Or.inl lk_M_125) mn_M_program ms_M_program mw_M_program mh_M_program ml_M_program rfl rfl) mw_M_program mi_M (Nat.le_of_ble_eq_true rfl) (Nat.le_of_ble_eq_true rfl) (fun x13 => ?_)
    refine jm_V.run (is := bk_M_condition_57_1) (pc' := 16) (ls' := [(1, .int (v1 + 1)), (0, .ref 0)]) (st' := []) (x' := x13) hok hT bk_M_condition_57_1_ok rfl ?_
    refine jm_V.sub (ls' := [(0, .ref 0), (1, .int (v1 + 1))]) [1, 0] rfl ?_
    exact hself (v1 + 1) x13
theorem jl_M_condition_16 {l : Launch} {D : va_G} {ad : Nat → Nat} {aC : Nat → ClassId} {b0 : Nat} {K d0 : Nat} {g : jm_Rec} (hok : jm_Ok (jm_PP l D clR ad aC shR b0 0)) (hrec : ∀ (t : Nat) (av : List Value) (x : jm_X), jm_Con (jm_PP l D clR ad aC shR b0 0) (rcR t) d0 av x (g t av x)) : ∀ (k : Nat) (v1 : Int32) (x : jm_X), jm_V (jm_PP l D clR ad aC shR b0 0) mt_M_condition (d0 + 9) 16 [(0, .ref 0), (1, .int v1)] [] x (L_M_condition_16 K g k v1 x)
  | 0, _, _ => jm_V.stuck
  | k + 1, v1, x => jb_M_condition_16 hok hrec (fun v1 x => jl_M_condition_16 hok hrec k v1 x) v1 x
def f_M_condition (K : Nat) (g : jm_Rec)  (x : jm_X) : Option jm_R := jm_bV (g 0 [.ref 0] x) (fun x1 => jm_bV (f_M_need_s K g 2016 x1) (fun x2 => jm_bV (g 0 [.ref 0] x2) (fun x3 => L_M_condition_16 K g K 0 x3)))
set_option maxRecDepth 100000 in
set_option maxHeartbeats 4000000 in
theorem c_M_condition {l : Launch} {D : va_G} {ad : Nat → Nat} {aC : Nat → ClassId} {b0 : Nat} {K d0 : Nat} {g : jm_Rec} (hok : jm_Ok (jm_PP l D clR ad aC shR b0 0)) (hrec : ∀ (t : Nat) (av : List Value) (x : jm_X), jm_Con (jm_PP l D clR ad aC shR b0 0) (rcR t) d0 av x (g t av x))  (x : jm_X) : jm_Con (jm_PP l D clR ad aC shR b0 0) mt_M_condition (d0 + 9) [.ref 0] x (f_M_condition K g  x) := by
  refine jm_Con.of (plainFor_of_name (by decide +kernel)) (Nat.le_of_ble_eq_true rfl) ?_
  have hT := tk_M (l := l) (D := D) (ad := ad) (aC := aC) (b0 := b0)
  unfold f_M_condition
  show jm_V _ _ _ 0 [(0, .ref 0)] [] x _
  refine jm_V.run (is := bk_M_condition_0_1) (pc' := 1) (ls' := [(0, .ref 0)]) (st' := [.ref 0]) (x' := x) hok hT bk_M_condition_0_1_ok rfl ?_
  refine jm_V.callV (av := [.ref 0]) (rest := []) hok (jm_Con.mono (hrec 0 [.ref 0] x) (by omega)) (jm_Inv.obj (q := ("FilterReaderModel", T_M, 22)) dd_M_condition_1 (Or.inl lk_M_125) mn_M_program ms_M_program mw_M_program mh_M_program ml_M_program rfl rfl) mw_M_program mi_M (Nat.le_of_ble_eq_true rfl) (Nat.le_of_ble_eq_true rfl) (fun x1 => ?_)
  refine jm_V.run (is := bk_M_condition_4_1) (pc' := 5) (ls' := [(0, .ref 0)]) (st' := [.ref 0]) (x' := x1) hok hT bk_M_condition_4_1_ok rfl ?_
  refine jm_V.lds (o := 2016) (tx := "then") (cs_str (i := 16) rfl) dd_M_condition_5 ?_
  refine jm_V.callV (av := [.ref 0, .ref 2016]) (rest := []) hok (jm_Con.mono (c_M_need_s hok hrec 2016 x1) (by omega)) (jm_Inv.obj (q := ("FilterReaderModel", T_M, 22)) dd_M_condition_7 (Or.inl lk_M_243) mn_M_need_s ms_M_need_s mw_M_need_s mh_M_need_s ml_M_need_s rfl rfl) mw_M_need_s mi_M (Nat.le_of_ble_eq_true rfl) (Nat.le_of_ble_eq_true rfl) (fun x2 => ?_)
  refine jm_V.run (is := bk_M_condition_10_1) (pc' := 11) (ls' := [(0, .ref 0)]) (st' := [.ref 0]) (x' := x2) hok hT bk_M_condition_10_1_ok rfl ?_
  refine jm_V.callV (av := [.ref 0]) (rest := []) hok (jm_Con.mono (hrec 0 [.ref 0] x2) (by omega)) (jm_Inv.obj (q := ("FilterReaderModel", T_M, 22)) dd_M_condition_11 (Or.inl lk_M_125) mn_M_program ms_M_program mw_M_program mh_M_program ml_M_program rfl rfl) mw_M_program mi_M (Nat.le_of_ble_eq_true rfl) (Nat.le_of_ble_eq_true rfl) (fun x3 => ?_)
  refine jm_V.run (is := bk_M_condition_14_2) (pc' := 16) (ls' := [(1, .int 0), (0, .ref 0)]) (st' := []) (x' := x3) hok hT bk_M_condition_14_2_ok rfl ?_
  refine jm_V.sub (ls' := [(0, .ref 0), (1, .int 0)]) [1, 0] rfl ?_
  exact jl_M_condition_16 hok hrec K 0 x3
abbrev bk_M_hide_0_2 : List (Nat × Instr × Nat) := [(0, .iload_n 1, 1), (1, .istore_n 3, 1)]
theorem bk_M_hide_0_2_ok : jm_at mt_M_hide.2.1 bk_M_hide_0_2 = true := by decide +kernel
abbrev bk_M_hide_2_4 : List (Nat × Instr × Nat) := [(2, .iload_n 3, 1), (3, .aload_n 0, 1), (4, .getfield 113, 3), (7, .if_icmp .ge 16, 3)]
theorem bk_M_hide_2_4_ok : jm_at mt_M_hide.2.1 bk_M_hide_2_4 = true := by decide +kernel
abbrev bk_M_hide_10_4 : List (Nat × Instr × Nat) := [(10, .aload_n 0, 1), (11, .getfield 92, 3), (14, .iload_n 3, 1), (15, .iload_n 2, 1)]
theorem bk_M_hide_10_4_ok : jm_at mt_M_hide.2.1 bk_M_hide_10_4 = true := by decide +kernel
abbrev bk_M_hide_17_2 : List (Nat × Instr × Nat) := [(17, .iinc 3 1, 3), (20, .goto (-18), 3)]
theorem bk_M_hide_17_2_ok : jm_at mt_M_hide.2.1 bk_M_hide_17_2 = true := by decide +kernel
theorem dd_M_hide_23 : decode mt_M_hide.2.1 23 = .ok (.return_, 1) := by decide +kernel
theorem dd_M_hide_16 : decode mt_M_hide.2.1 16 = .ok (.bastore, 1) := by decide +kernel
def B_M_hide_2 (K : Nat) (g : jm_Rec) (self : Int32 → Int32 → jm_X → Option jm_R) (v2 : Int32) (v3 : Int32) (x : jm_X) : Option jm_R := (if (x.1 15) ≤ v3 then some (.inl (none, x)) else (if jm_in shR 9 .boolean v3 then jm_then (jm_ua x 9 v3 (vp_nar .boolean v2)) (fun x1 => self v2 (v3 + 1) x1) else none))
def L_M_hide_2 (K : Nat) (g : jm_Rec) : Nat → Int32 → Int32 → jm_X → Option jm_R
  | 0, _, _, _ => none
  | k + 1, v2, v3, x => B_M_hide_2 K g (L_M_hide_2 K g k) v2 v3 x
set_option maxRecDepth 100000 in
set_option maxHeartbeats 4000000 in
theorem jb_M_hide_2 {l : Launch} {D : va_G} {ad : Nat → Nat} {aC : Nat → ClassId} {b0 : Nat} {K d0 : Nat} {g : jm_Rec} (hok : jm_Ok (jm_PP l D clR ad aC shR b0 0)) (hrec : ∀ (t : Nat) (av : List Value) (x : jm_X), jm_Con (jm_PP l D clR ad aC shR b0 0) (rcR t) d0 av x (g t av x)) {self : Int32 → Int32 → jm_X → Option jm_R} (hself : ∀ (v2 : Int32) (v3 : Int32) (x : jm_X), jm_V (jm_PP l D clR ad aC shR b0 0) mt_M_hide (d0 + 1) 2 [(0, .ref 0), (2, .int v2), (3, .int v3)] [] x (self v2 v3 x)) (v2 : Int32) (v3 : Int32) (x : jm_X) : jm_V (jm_PP l D clR ad aC shR b0 0) mt_M_hide (d0 + 1) 2 [(0, .ref 0), (2, .int v2), (3, .int v3)] [] x (B_M_hide_2 K g self v2 v3 x) := by
  have hT := tk_M (l := l) (D := D) (ad := ad) (aC := aC) (b0 := b0)
  unfold B_M_hide_2
  refine jm_V.run (is := bk_M_hide_2_4) (pc' := (if (x.1 15) ≤ v3 then 23 else 10)) (ls' := [(0, .ref 0), (2, .int v2), (3, .int v3)]) (st' := []) (x' := x) hok hT bk_M_hide_2_4_ok rfl ?_
  refine jm_V.ite (fun _ => ?_) (fun _ => ?_)
  · exact jm_V.vret rfl dd_M_hide_23
  · refine jm_V.run (is := bk_M_hide_10_4) (pc' := 16) (ls' := [(0, .ref 0), (2, .int v2), (3, .int v3)]) (st' := [.int v2, .int v3, .ref 9]) (x' := x) hok hT bk_M_hide_10_4_ok rfl ?_
    refine jm_V.zast hok dd_M_hide_16 ?_
    refine jm_V.then_ (fun x1 => ?_)
    refine jm_V.run (is := bk_M_hide_17_2) (pc' := 2) (ls' := [(3, .int (v3 + 1)), (0, .ref 0), (2, .int v2)]) (st' := []) (x' := x1) hok hT bk_M_hide_17_2_ok rfl ?_
    refine jm_V.sub (ls' := [(0, .ref 0), (2, .int v2), (3, .int (v3 + 1))]) [1, 2, 0] rfl ?_
    exact hself v2 (v3 + 1) x1
theorem jl_M_hide_2 {l : Launch} {D : va_G} {ad : Nat → Nat} {aC : Nat → ClassId} {b0 : Nat} {K d0 : Nat} {g : jm_Rec} (hok : jm_Ok (jm_PP l D clR ad aC shR b0 0)) (hrec : ∀ (t : Nat) (av : List Value) (x : jm_X), jm_Con (jm_PP l D clR ad aC shR b0 0) (rcR t) d0 av x (g t av x)) : ∀ (k : Nat) (v2 : Int32) (v3 : Int32) (x : jm_X), jm_V (jm_PP l D clR ad aC shR b0 0) mt_M_hide (d0 + 1) 2 [(0, .ref 0), (2, .int v2), (3, .int v3)] [] x (L_M_hide_2 K g k v2 v3 x)
  | 0, _, _, _ => jm_V.stuck
  | k + 1, v2, v3, x => jb_M_hide_2 hok hrec (fun v2 v3 x => jl_M_hide_2 hok hrec k v2 v3 x) v2 v3 x
def f_M_hide (K : Nat) (g : jm_Rec) (a1 : Int32) (a2 : Int32) (x : jm_X) : Option jm_R := L_M_hide_2 K g K a2 a1 x
set_option maxRecDepth 100000 in
set_option maxHeartbeats 4000000 in
theorem c_M_hide {l : Launch} {D : va_G} {ad : Nat → Nat} {aC : Nat → ClassId} {b0 : Nat} {K d0 : Nat} {g : jm_Rec} (hok : jm_Ok (jm_PP l D clR ad aC shR b0 0)) (hrec : ∀ (t : Nat) (av : List Value) (x : jm_X), jm_Con (jm_PP l D clR ad aC shR b0 0) (rcR t) d0 av x (g t av x)) (a1 : Int32) (a2 : Int32) (x : jm_X) : jm_Con (jm_PP l D clR ad aC shR b0 0) mt_M_hide (d0 + 1) [.ref 0, .int a1, .int a2] x (f_M_hide K g a1 a2 x) := by
  refine jm_Con.of (plainFor_of_name (by decide +kernel)) (Nat.le_of_ble_eq_true rfl) ?_
  have hT := tk_M (l := l) (D := D) (ad := ad) (aC := aC) (b0 := b0)
  unfold f_M_hide
  show jm_V _ _ _ 0 [(0, .ref 0), (1, .int a1), (2, .int a2)] [] x _
  refine jm_V.run (is := bk_M_hide_0_2) (pc' := 2) (ls' := [(3, .int a1), (0, .ref 0), (1, .int a1), (2, .int a2)]) (st' := []) (x' := x) hok hT bk_M_hide_0_2_ok rfl ?_
  refine jm_V.sub (ls' := [(0, .ref 0), (2, .int a2), (3, .int a1)]) [1, 3, 0] rfl ?_
  exact jl_M_hide_2 hok hrec K a2 a1 x
abbrev bk_M_skip_i_0_4 : List (Nat × Instr × Nat) := [(0, .aload_n 0, 1), (1, .getfield 128, 3), (4, .iload_n 1, 1), (5, .if_icmp .eq 5, 3)]
theorem bk_M_skip_i_0_4_ok : jm_at mt_M_skip_i.2.1 bk_M_skip_i_0_4 = true := by decide +kernel
abbrev bk_M_skip_i_10_1 : List (Nat × Instr × Nat) := [(10, .aload_n 0, 1)]
theorem bk_M_skip_i_10_1_ok : jm_at mt_M_skip_i.2.1 bk_M_skip_i_10_1 = true := by decide +kernel
abbrev bk_M_skip_i_14_1 : List (Nat × Instr × Nat) := [(14, .iconst 1, 1)]
theorem bk_M_skip_i_14_1_ok : jm_at mt_M_skip_i.2.1 bk_M_skip_i_14_1 = true := by decide +kernel
abbrev bk_M_skip_i_8_1 : List (Nat × Instr × Nat) := [(8, .iconst 0, 1)]
theorem bk_M_skip_i_8_1_ok : jm_at mt_M_skip_i.2.1 bk_M_skip_i_8_1 = true := by decide +kernel
theorem dd_M_skip_i_11 : decode mt_M_skip_i.2.1 11 = .ok (.invokevirtual 122, 3) := by decide +kernel
theorem dd_M_skip_i_15 : decode mt_M_skip_i.2.1 15 = .ok (.ireturn, 1) := by decide +kernel
theorem dd_M_skip_i_9 : decode mt_M_skip_i.2.1 9 = .ok (.ireturn, 1) := by decide +kernel
def f_M_skip_i (K : Nat) (g : jm_Rec) (a1 : Int32) (x : jm_X) : Option jm_R := (if (x.1 11) = a1 then jm_bV (f_M_scan K g x) (fun x1 => some (.inl (some (.int 1), x1))) else some (.inl (some (.int 0), x)))
set_option maxRecDepth 100000 in
set_option maxHeartbeats 4000000 in
theorem c_M_skip_i {l : Launch} {D : va_G} {ad : Nat → Nat} {aC : Nat → ClassId} {b0 : Nat} {K d0 : Nat} {g : jm_Rec} (hok : jm_Ok (jm_PP l D clR ad aC shR b0 0)) (hrec : ∀ (t : Nat) (av : List Value) (x : jm_X), jm_Con (jm_PP l D clR ad aC shR b0 0) (rcR t) d0 av x (g t av x)) (a1 : Int32) (x : jm_X) : jm_Con (jm_PP l D clR ad aC shR b0 0) mt_M_skip_i (d0 + 4) [.ref 0, .int a1] x (f_M_skip_i K g a1 x) := by
  refine jm_Con.of (plainFor_of_name (by decide +kernel)) (Nat.le_of_ble_eq_true rfl) ?_
  have hT := tk_M (l := l) (D := D) (ad := ad) (aC := aC) (b0 := b0)
  unfold f_M_skip_i
  show jm_V _ _ _ 0 [(0, .ref 0), (1, .int a1)] [] x _
  refine jm_V.run (is := bk_M_skip_i_0_4) (pc' := (if (x.1 11) = a1 then 10 else 8)) (ls' := [(0, .ref 0), (1, .int a1)]) (st' := []) (x' := x) hok hT bk_M_skip_i_0_4_ok rfl ?_
  refine jm_V.ite (fun _ => ?_) (fun _ => ?_)
  · refine jm_V.run (is := bk_M_skip_i_10_1) (pc' := 11) (ls' := [(0, .ref 0), (1, .int a1)]) (st' := [.ref 0]) (x' := x) hok hT bk_M_skip_i_10_1_ok rfl ?_
    refine jm_V.callV (av := [.ref 0]) (rest := []) hok (jm_Con.mono (c_M_scan hok hrec x) (by omega)) (jm_Inv.obj (q := ("FilterReaderModel", T_M, 22)) dd_M_skip_i_11 (Or.inl lk_M_122) mn_M_scan ms_M_scan mw_M_scan mh_M_scan ml_M_scan rfl rfl) mw_M_scan mi_M (Nat.le_of_ble_eq_true rfl) (Nat.le_of_ble_eq_true rfl) (fun x1 => ?_)
    refine jm_V.run (is := bk_M_skip_i_14_1) (pc' := 15) (ls' := [(0, .ref 0), (1, .int a1)]) (st' := [.int 1]) (x' := x1) hok hT bk_M_skip_i_14_1_ok rfl ?_
    exact jm_V.nret (t := .boolean) rfl rfl dd_M_skip_i_15
  · refine jm_V.run (is := bk_M_skip_i_8_1) (pc' := 9) (ls' := [(0, .ref 0), (1, .int a1)]) (st' := [.int 0]) (x' := x) hok hT bk_M_skip_i_8_1_ok rfl ?_
    exact jm_V.nret (t := .boolean) rfl rfl dd_M_skip_i_9
abbrev bk_M_need_i_0_2 : List (Nat × Instr × Nat) := [(0, .aload_n 0, 1), (1, .iload_n 1, 1)]
theorem bk_M_need_i_0_2_ok : jm_at mt_M_need_i.2.1 bk_M_need_i_0_2 = true := by decide +kernel
abbrev bk_M_need_i_5_1 : List (Nat × Instr × Nat) := [(5, .ifCond .ne 12, 3)]
theorem bk_M_need_i_5_1_ok : jm_at mt_M_need_i.2.1 bk_M_need_i_5_1 = true := by decide +kernel
abbrev bk_M_need_i_8_3 : List (Nat × Instr × Nat) := [(8, .aload_n 0, 1), (9, .aload_n 0, 1), (10, .getfield 131, 3)]
theorem bk_M_need_i_8_3_ok : jm_at mt_M_need_i.2.1 bk_M_need_i_8_3 = true := by decide +kernel
theorem dd_M_need_i_2 : decode mt_M_need_i.2.1 2 = .ok (.invokevirtual 184, 3) := by decide +kernel
theorem dd_M_need_i_13 : decode mt_M_need_i.2.1 13 = .ok (.invokevirtual 134, 3) := by decide +kernel
theorem dd_M_need_i_16 : decode mt_M_need_i.2.1 16 = .ok (.athrow, 1) := by decide +kernel
theorem dd_M_need_i_17 : decode mt_M_need_i.2.1 17 = .ok (.return_, 1) := by decide +kernel
def f_M_need_i (K : Nat) (g : jm_Rec) (a1 : Int32) (x : jm_X) : Option jm_R := jm_bI (f_M_skip_i K g a1 x) (fun b2 x1 => (if b2 = 0 then jm_bA (f_M_bad K g (x1.1 9) x1) (fun b4 x3 => (if b4 = 2 then some (.inr ("java/lang/IllegalStateException", x3)) else none)) else some (.inl (none, x1))))
set_option maxRecDepth 100000 in
set_option maxHeartbeats 4000000 in
theorem c_M_need_i {l : Launch} {D : va_G} {ad : Nat → Nat} {aC : Nat → ClassId} {b0 : Nat} {K d0 : Nat} {g : jm_Rec} (hok : jm_Ok (jm_PP l D clR ad aC shR b0 0)) (hrec : ∀ (t : Nat) (av : List Value) (x : jm_X), jm_Con (jm_PP l D clR ad aC shR b0 0) (rcR t) d0 av x (g t av x)) (a1 : Int32) (x : jm_X) : jm_Con (jm_PP l D clR ad aC shR b0 0) mt_M_need_i (d0 + 5) [.ref 0, .int a1] x (f_M_need_i K g a1 x) := by
  refine jm_Con.of (plainFor_of_name (by decide +kernel)) (Nat.le_of_ble_eq_true rfl) ?_
  have hT := tk_M (l := l) (D := D) (ad := ad) (aC := aC) (b0 := b0)
  unfold f_M_need_i
  show jm_V _ _ _ 0 [(0, .ref 0), (1, .int a1)] [] x _
  refine jm_V.run (is := bk_M_need_i_0_2) (pc' := 2) (ls' := [(0, .ref 0), (1, .int a1)]) (st' := [.int a1, .ref 0]) (x' := x) hok hT bk_M_need_i_0_2_ok rfl ?_
  refine jm_V.callI (av := [.ref 0, .int a1]) (rest := []) hok (jm_Con.mono (c_M_skip_i hok hrec a1 x) (by omega)) (jm_Inv.obj (q := ("FilterReaderModel", T_M, 22)) dd_M_need_i_2 (Or.inl lk_M_184) mn_M_skip_i ms_M_skip_i mw_M_skip_i mh_M_skip_i ml_M_skip_i rfl rfl) mw_M_skip_i mi_M (Nat.le_of_ble_eq_true rfl) (Nat.le_of_ble_eq_true rfl) (fun b2 x1 => ?_)
  refine jm_V.run (is := bk_M_need_i_5_1) (pc' := (if b2 = 0 then 8 else 17)) (ls' := [(0, .ref 0), (1, .int a1)]) (st' := []) (x' := x1) hok hT bk_M_need_i_5_1_ok rfl ?_
  refine jm_V.ite (fun _ => ?_) (fun _ => ?_)
  · refine jm_V.run (is := bk_M_need_i_8_3) (pc' := 13) (ls' := [(0, .ref 0), (1, .int a1)]) (st' := [.int (x1.1 9), .ref 0]) (x' := x1) hok hT bk_M_need_i_8_3_ok rfl ?_
    refine jm_V.callA (av := [.ref 0, .int (x1.1 9)]) (rest := []) hok (jm_Con.mono (c_M_bad hok hrec (x1.1 9) x1) (by omega)) (jm_Inv.obj (q := ("FilterReaderModel", T_M, 22)) dd_M_need_i_13 (Or.inl lk_M_134) mn_M_bad ms_M_bad mw_M_bad mh_M_bad ml_M_bad rfl rfl) mw_M_bad mi_M (Nat.le_of_ble_eq_true rfl) (Nat.le_of_ble_eq_true rfl) (fun b4 x3 => ?_)
    exact jm_V.athrowS (o := 2) (q := ("java/lang/IllegalStateException", T_X, 0)) rfl rfl dd_M_need_i_16
  · exact jm_V.vret rfl dd_M_need_i_17
abbrev bk_M_field_0_4 : List (Nat × Instr × Nat) := [(0, .aload_n 0, 1), (1, .getfield 76, 3), (4, .iconst 2, 1), (5, .dup2, 1)]
theorem bk_M_field_0_4_ok : jm_at mt_M_field.2.1 bk_M_field_0_4 = true := by decide +kernel
abbrev bk_M_field_7_2 : List (Nat × Instr × Nat) := [(7, .iconst 1, 1), (8, .iadd, 1)]
theorem bk_M_field_7_2_ok : jm_at mt_M_field.2.1 bk_M_field_7_2 = true := by decide +kernel
abbrev bk_M_field_10_4 : List (Nat × Instr × Nat) := [(10, .aload_n 0, 1), (11, .getfield 76, 3), (14, .bipush 7, 2), (16, .dup2, 1)]
theorem bk_M_field_10_4_ok : jm_at mt_M_field.2.1 bk_M_field_10_4 = true := by decide +kernel
abbrev bk_M_field_18_2 : List (Nat × Instr × Nat) := [(18, .iconst 1, 1), (19, .iadd, 1)]
theorem bk_M_field_18_2_ok : jm_at mt_M_field.2.1 bk_M_field_18_2 = true := by decide +kernel
abbrev bk_M_field_21_1 : List (Nat × Instr × Nat) := [(21, .aload_n 0, 1)]
theorem bk_M_field_21_1_ok : jm_at mt_M_field.2.1 bk_M_field_21_1 = true := by decide +kernel
theorem dd_M_field_22 : decode mt_M_field.2.1 22 = .ok (.invokevirtual 122, 3) := by decide +kernel
theorem dd_M_field_25 : decode mt_M_field.2.1 25 = .ok (.return_, 1) := by decide +kernel
theorem dd_M_field_20 : decode mt_M_field.2.1 20 = .ok (.iastore, 1) := by decide +kernel
theorem dd_M_field_17 : decode mt_M_field.2.1 17 = .ok (.iaload, 1) := by decide +kernel
theorem dd_M_field_9 : decode mt_M_field.2.1 9 = .ok (.iastore, 1) := by decide +kernel
theorem dd_M_field_6 : decode mt_M_field.2.1 6 = .ok (.iaload, 1) := by decide +kernel
def f_M_field (K : Nat) (g : jm_Rec)  (x : jm_X) : Option jm_R := (if jm_in shR 4 .int 2 then (if jm_in shR 4 .int 2 then jm_then (jm_ua x 4 2 ((x.2.2 4 (Int32.toNatClampNeg 2)) + 1)) (fun x1 => (if jm_in shR 4 .int 7 then (if jm_in shR 4 .int 7 then jm_then (jm_ua x1 4 7 ((x1.2.2 4 (Int32.toNatClampNeg 7)) + 1)) (fun x2 => jm_bV (f_M_scan K g x2) (fun x3 => some (.inl (none, x3)))) else none) else none)) else none) else none)
set_option maxRecDepth 100000 in
set_option maxHeartbeats 4000000 in
theorem c_M_field {l : Launch} {D : va_G} {ad : Nat → Nat} {aC : Nat → ClassId} {b0 : Nat} {K d0 : Nat} {g : jm_Rec} (hok : jm_Ok (jm_PP l D clR ad aC shR b0 0)) (hrec : ∀ (t : Nat) (av : List Value) (x : jm_X), jm_Con (jm_PP l D clR ad aC shR b0 0) (rcR t) d0 av x (g t av x))  (x : jm_X) : jm_Con (jm_PP l D clR ad aC shR b0 0) mt_M_field (d0 + 4) [.ref 0] x (f_M_field K g  x) := by
  refine jm_Con.of (plainFor_of_name (by decide +kernel)) (Nat.le_of_ble_eq_true rfl) ?_
  have hT := tk_M (l := l) (D := D) (ad := ad) (aC := aC) (b0 := b0)
  unfold f_M_field
  show jm_V _ _ _ 0 [(0, .ref 0)] [] x _
  refine jm_V.run (is := bk_M_field_0_4) (pc' := 6) (ls' := [(0, .ref 0)]) (st' := [.int 2, .ref 4, .int 2, .ref 4]) (x' := x) hok hT bk_M_field_0_4_ok rfl ?_
  refine jm_V.iald dd_M_field_6 ?_
  refine jm_V.run (is := bk_M_field_7_2) (pc' := 9) (ls' := [(0, .ref 0)]) (st' := [.int ((x.2.2 4 (Int32.toNatClampNeg 2)) + 1), .int 2, .ref 4]) (x' := x) hok hT bk_M_field_7_2_ok rfl ?_
  refine jm_V.iast hok dd_M_field_9 ?_
  refine jm_V.then_ (fun x1 => ?_)
  refine jm_V.run (is := bk_M_field_10_4) (pc' := 17) (ls' := [(0, .ref 0)]) (st' := [.int 7, .ref 4, .int 7, .ref 4]) (x' := x1) hok hT bk_M_field_10_4_ok rfl ?_
  refine jm_V.iald dd_M_field_17 ?_
  refine jm_V.run (is := bk_M_field_18_2) (pc' := 20) (ls' := [(0, .ref 0)]) (st' := [.int ((x1.2.2 4 (Int32.toNatClampNeg 7)) + 1), .int 7, .ref 4]) (x' := x1) hok hT bk_M_field_18_2_ok rfl ?_
  refine jm_V.iast hok dd_M_field_20 ?_
  refine jm_V.then_ (fun x2 => ?_)
  refine jm_V.run (is := bk_M_field_21_1) (pc' := 22) (ls' := [(0, .ref 0)]) (st' := [.ref 0]) (x' := x2) hok hT bk_M_field_21_1_ok rfl ?_
  refine jm_V.callV (av := [.ref 0]) (rest := []) hok (jm_Con.mono (c_M_scan hok hrec x2) (by omega)) (jm_Inv.obj (q := ("FilterReaderModel", T_M, 22)) dd_M_field_22 (Or.inl lk_M_122) mn_M_scan ms_M_scan mw_M_scan mh_M_scan ml_M_scan rfl rfl) mw_M_scan mi_M (Nat.le_of_ble_eq_true rfl) (Nat.le_of_ble_eq_true rfl) (fun x3 => ?_)
  exact jm_V.vret rfl dd_M_field_25
abbrev bk_M_hex_0_3 : List (Nat × Instr × Nat) := [(0, .iload_n 0, 1), (1, .bipush 48, 2), (3, .if_icmp .lt 16, 3)]
theorem bk_M_hex_0_3_ok : jm_at mt_M_hex.2.1 bk_M_hex_0_3 = true := by decide +kernel
abbrev bk_M_hex_6_3 : List (Nat × Instr × Nat) := [(6, .iload_n 0, 1), (7, .bipush 57, 2), (9, .if_icmp .gt 10, 3)]
theorem bk_M_hex_6_3_ok : jm_at mt_M_hex.2.1 bk_M_hex_6_3 = true := by decide +kernel
abbrev bk_M_hex_12_4 : List (Nat × Instr × Nat) := [(12, .iload_n 0, 1), (13, .bipush 48, 2), (15, .isub, 1), (16, .goto 48, 3)]
theorem bk_M_hex_12_4_ok : jm_at mt_M_hex.2.1 bk_M_hex_12_4 = true := by decide +kernel
abbrev bk_M_hex_19_3 : List (Nat × Instr × Nat) := [(19, .iload_n 0, 1), (20, .bipush 97, 2), (22, .if_icmp .lt 19, 3)]
theorem bk_M_hex_19_3_ok : jm_at mt_M_hex.2.1 bk_M_hex_19_3 = true := by decide +kernel
abbrev bk_M_hex_25_3 : List (Nat × Instr × Nat) := [(25, .iload_n 0, 1), (26, .bipush 102, 2), (28, .if_icmp .gt 13, 3)]
theorem bk_M_hex_25_3_ok : jm_at mt_M_hex.2.1 bk_M_hex_25_3 = true := by decide +kernel
abbrev bk_M_hex_31_6 : List (Nat × Instr × Nat) := [(31, .iload_n 0, 1), (32, .bipush 97, 2), (34, .isub, 1), (35, .bipush 10, 2), (37, .iadd, 1), (38, .goto 26, 3)]
theorem bk_M_hex_31_6_ok : jm_at mt_M_hex.2.1 bk_M_hex_31_6 = true := by decide +kernel
abbrev bk_M_hex_41_3 : List (Nat × Instr × Nat) := [(41, .iload_n 0, 1), (42, .bipush 65, 2), (44, .if_icmp .lt 19, 3)]
theorem bk_M_hex_41_3_ok : jm_at mt_M_hex.2.1 bk_M_hex_41_3 = true := by decide +kernel
abbrev bk_M_hex_47_3 : List (Nat × Instr × Nat) := [(47, .iload_n 0, 1), (48, .bipush 70, 2), (50, .if_icmp .gt 13, 3)]
theorem bk_M_hex_47_3_ok : jm_at mt_M_hex.2.1 bk_M_hex_47_3 = true := by decide +kernel
abbrev bk_M_hex_53_6 : List (Nat × Instr × Nat) := [(53, .iload_n 0, 1), (54, .bipush 65, 2), (56, .isub, 1), (57, .bipush 10, 2), (59, .iadd, 1), (60, .goto 4, 3)]
theorem bk_M_hex_53_6_ok : jm_at mt_M_hex.2.1 bk_M_hex_53_6 = true := by decide +kernel
abbrev bk_M_hex_63_1 : List (Nat × Instr × Nat) := [(63, .iconst (-1), 1)]
theorem bk_M_hex_63_1_ok : jm_at mt_M_hex.2.1 bk_M_hex_63_1 = true := by decide +kernel
theorem dd_M_hex_64 : decode mt_M_hex.2.1 64 = .ok (.ireturn, 1) := by decide +kernel
def J_M_hex_64 (K : Nat) (g : jm_Rec) (s0 : Int32) (x : jm_X) : Option jm_R := some (.inl (some (.int s0), x))
set_option maxRecDepth 100000 in
set_option maxHeartbeats 4000000 in
theorem jj_M_hex_64 {l : Launch} {D : va_G} {ad : Nat → Nat} {aC : Nat → ClassId} {b0 : Nat} {K d0 : Nat} {g : jm_Rec} (hok : jm_Ok (jm_PP l D clR ad aC shR b0 0)) (hrec : ∀ (t : Nat) (av : List Value) (x : jm_X), jm_Con (jm_PP l D clR ad aC shR b0 0) (rcR t) d0 av x (g t av x)) (s0 : Int32) (x : jm_X) : jm_V (jm_PP l D clR ad aC shR b0 0) mt_M_hex (d0 + 1) 64 [] [.int s0] x (J_M_hex_64 K g s0 x) := by
  have hT := tk_M (l := l) (D := D) (ad := ad) (aC := aC) (b0 := b0)
  unfold J_M_hex_64
  exact jm_V.iret rfl dd_M_hex_64
def J_M_hex_63 (K : Nat) (g : jm_Rec)  (x : jm_X) : Option jm_R := J_M_hex_64 K g (-1) x
set_option maxRecDepth 100000 in
set_option maxHeartbeats 4000000 in
theorem jj_M_hex_63 {l : Launch} {D : va_G} {ad : Nat → Nat} {aC : Nat → ClassId} {b0 : Nat} {K d0 : Nat} {g : jm_Rec} (hok : jm_Ok (jm_PP l D clR ad aC shR b0 0)) (hrec : ∀ (t : Nat) (av : List Value) (x : jm_X), jm_Con (jm_PP l D clR ad aC shR b0 0) (rcR t) d0 av x (g t av x))  (x : jm_X) : jm_V (jm_PP l D clR ad aC shR b0 0) mt_M_hex (d0 + 1) 63 [] [] x (J_M_hex_63 K g  x) := by
  have hT := tk_M (l := l) (D := D) (ad := ad) (aC := aC) (b0 := b0)
  unfold J_M_hex_63
  refine jm_V.run (is := bk_M_hex_63_1) (pc' := 64) (ls' := []) (st' := [.int (-1)]) (x' := x) hok hT bk_M_hex_63_1_ok rfl ?_
  exact jj_M_hex_64 hok hrec (-1) x
def J_M_hex_41 (K : Nat) (g : jm_Rec) (v0 : Int32) (x : jm_X) : Option jm_R := (if v0 < 65 then J_M_hex_63 K g x else (if 70 < v0 then J_M_hex_63 K g x else J_M_hex_64 K g ((v0 - 65) + 10) x))
set_option maxRecDepth 100000 in
set_option maxHeartbeats 4000000 in
theorem jj_M_hex_41 {l : Launch} {D : va_G} {ad : Nat → Nat} {aC : Nat → ClassId} {b0 : Nat} {K d0 : Nat} {g : jm_Rec} (hok : jm_Ok (jm_PP l D clR ad aC shR b0 0)) (hrec : ∀ (t : Nat) (av : List Value) (x : jm_X), jm_Con (jm_PP l D clR ad aC shR b0 0) (rcR t) d0 av x (g t av x)) (v0 : Int32) (x : jm_X) : jm_V (jm_PP l D clR ad aC shR b0 0) mt_M_hex (d0 + 1) 41 [(0, .int v0)] [] x (J_M_hex_41 K g v0 x) := by
  have hT := tk_M (l := l) (D := D) (ad := ad) (aC := aC) (b0 := b0)
  unfold J_M_hex_41
  refine jm_V.run (is := bk_M_hex_41_3) (pc' := (if v0 < 65 then 63 else 47)) (ls' := [(0, .int v0)]) (st' := []) (x' := x) hok hT bk_M_hex_41_3_ok rfl ?_
  refine jm_V.ite (fun _ => ?_) (fun _ => ?_)
  · refine jm_V.sub (ls' := []) [] rfl ?_
    exact jj_M_hex_63 hok hrec x
  · refine jm_V.run (is := bk_M_hex_47_3) (pc' := (if 70 < v0 then 63 else 53)) (ls' := [(0, .int v0)]) (st' := []) (x' := x) hok hT bk_M_hex_47_3_ok rfl ?_
    refine jm_V.ite (fun _ => ?_) (fun _ => ?_)
    · refine jm_V.sub (ls' := []) [] rfl ?_
      exact jj_M_hex_63 hok hrec x
    · refine jm_V.run (is := bk_M_hex_53_6) (pc' := 64) (ls' := [(0, .int v0)]) (st' := [.int ((v0 - 65) + 10)]) (x' := x) hok hT bk_M_hex_53_6_ok rfl ?_
      refine jm_V.sub (ls' := []) [] rfl ?_
      exact jj_M_hex_64 hok hrec ((v0 - 65) + 10) x
def J_M_hex_19 (K : Nat) (g : jm_Rec) (v0 : Int32) (x : jm_X) : Option jm_R := (if v0 < 97 then J_M_hex_41 K g v0 x else (if 102 < v0 then J_M_hex_41 K g v0 x else J_M_hex_64 K g ((v0 - 97) + 10) x))
set_option maxRecDepth 100000 in
set_option maxHeartbeats 4000000 in
theorem jj_M_hex_19 {l : Launch} {D : va_G} {ad : Nat → Nat} {aC : Nat → ClassId} {b0 : Nat} {K d0 : Nat} {g : jm_Rec} (hok : jm_Ok (jm_PP l D clR ad aC shR b0 0)) (hrec : ∀ (t : Nat) (av : List Value) (x : jm_X), jm_Con (jm_PP l D clR ad aC shR b0 0) (rcR t) d0 av x (g t av x)) (v0 : Int32) (x : jm_X) : jm_V (jm_PP l D clR ad aC shR b0 0) mt_M_hex (d0 + 1) 19 [(0, .int v0)] [] x (J_M_hex_19 K g v0 x) := by
  have hT := tk_M (l := l) (D := D) (ad := ad) (aC := aC) (b0 := b0)
  unfold J_M_hex_19
  refine jm_V.run (is := bk_M_hex_19_3) (pc' := (if v0 < 97 then 41 else 25)) (ls' := [(0, .int v0)]) (st' := []) (x' := x) hok hT bk_M_hex_19_3_ok rfl ?_
  refine jm_V.ite (fun _ => ?_) (fun _ => ?_)
  · exact jj_M_hex_41 hok hrec v0 x
  · refine jm_V.run (is := bk_M_hex_25_3) (pc' := (if 102 < v0 then 41 else 31)) (ls' := [(0, .int v0)]) (st' := []) (x' := x) hok hT bk_M_hex_25_3_ok rfl ?_
    refine jm_V.ite (fun _ => ?_) (fun _ => ?_)
    · exact jj_M_hex_41 hok hrec v0 x
    · refine jm_V.run (is := bk_M_hex_31_6) (pc' := 64) (ls' := [(0, .int v0)]) (st' := [.int ((v0 - 97) + 10)]) (x' := x) hok hT bk_M_hex_31_6_ok rfl ?_
      refine jm_V.sub (ls' := []) [] rfl ?_
      exact jj_M_hex_64 hok hrec ((v0 - 97) + 10) x
def f_M_hex (K : Nat) (g : jm_Rec) (a1 : Int32) (x : jm_X) : Option jm_R := (if a1 < 48 then J_M_hex_19 K g a1 x else (if 57 < a1 then J_M_hex_19 K g a1 x else J_M_hex_64 K g (a1 - 48) x))
set_option maxRecDepth 100000 in
set_option maxHeartbeats 4000000 in
theorem c_M_hex {l : Launch} {D : va_G} {ad : Nat → Nat} {aC : Nat → ClassId} {b0 : Nat} {K d0 : Nat} {g : jm_Rec} (hok : jm_Ok (jm_PP l D clR ad aC shR b0 0)) (hrec : ∀ (t : Nat) (av : List Value) (x : jm_X), jm_Con (jm_PP l D clR ad aC shR b0 0) (rcR t) d0 av x (g t av x)) (a1 : Int32) (x : jm_X) : jm_Con (jm_PP l D clR ad aC shR b0 0) mt_M_hex (d0 + 1) [.int a1] x (f_M_hex K g a1 x) := by
  refine jm_Con.of (plainFor_of_name (by decide +kernel)) (Nat.le_of_ble_eq_true rfl) ?_
  have hT := tk_M (l := l) (D := D) (ad := ad) (aC := aC) (b0 := b0)
  unfold f_M_hex
  show jm_V _ _ _ 0 [(0, .int a1)] [] x _
  refine jm_V.run (is := bk_M_hex_0_3) (pc' := (if a1 < 48 then 19 else 6)) (ls' := [(0, .int a1)]) (st' := []) (x' := x) hok hT bk_M_hex_0_3_ok rfl ?_
  refine jm_V.ite (fun _ => ?_) (fun _ => ?_)
  · exact jj_M_hex_19 hok hrec a1 x
  · refine jm_V.run (is := bk_M_hex_6_3) (pc' := (if 57 < a1 then 19 else 12)) (ls' := [(0, .int a1)]) (st' := []) (x' := x) hok hT bk_M_hex_6_3_ok rfl ?_
    refine jm_V.ite (fun _ => ?_) (fun _ => ?_)
    · exact jj_M_hex_19 hok hrec a1 x
    · refine jm_V.run (is := bk_M_hex_12_4) (pc' := 64) (ls' := [(0, .int a1)]) (st' := [.int (a1 - 48)]) (x' := x) hok hT bk_M_hex_12_4_ok rfl ?_
      refine jm_V.sub (ls' := []) [] rfl ?_
      exact jj_M_hex_64 hok hrec (a1 - 48) x

/-! THE REFERENCE: methods. Printed by wip/whole/printR.py. -/
abbrev bk_M_string_0_8 : List (Nat × Instr × Nat) := [(0, .aload_n 0, 1), (1, .getfield 131, 3), (4, .istore_n 2, 1), (5, .aload_n 0, 1), (6, .getfield 119, 3), (9, .istore_n 3, 1), (10, .iconst 0, 1), (11, .istore 4, 2)]
theorem bk_M_string_0_8_ok : jm_at mt_M_string.2.1 bk_M_string_0_8 = true := by decide +kernel
abbrev bk_M_string_13_2 : List (Nat × Instr × Nat) := [(13, .aload_n 0, 1), (14, .iload_n 3, 1)]
theorem bk_M_string_13_2_ok : jm_at mt_M_string.2.1 bk_M_string_13_2 = true := by decide +kernel
abbrev bk_M_string_18_2 : List (Nat × Instr × Nat) := [(18, .bipush 34, 2), (20, .if_icmp .eq 222, 3)]
theorem bk_M_string_18_2_ok : jm_at mt_M_string.2.1 bk_M_string_18_2 = true := by decide +kernel
abbrev bk_M_string_242_5 : List (Nat × Instr × Nat) := [(242, .aload_n 0, 1), (243, .iload_n 3, 1), (244, .iconst 1, 1), (245, .iadd, 1), (246, .putfield 119, 3)]
theorem bk_M_string_242_5_ok : jm_at mt_M_string.2.1 bk_M_string_242_5 = true := by decide +kernel
abbrev bk_M_string_249_1 : List (Nat × Instr × Nat) := [(249, .aload_n 0, 1)]
theorem bk_M_string_249_1_ok : jm_at mt_M_string.2.1 bk_M_string_249_1 = true := by decide +kernel
abbrev bk_M_string_253_2 : List (Nat × Instr × Nat) := [(253, .iload 4, 2), (255, .ifCond .le 14, 3)]
theorem bk_M_string_253_2_ok : jm_at mt_M_string.2.1 bk_M_string_253_2 = true := by decide +kernel
abbrev bk_M_string_258_4 : List (Nat × Instr × Nat) := [(258, .aload_n 0, 1), (259, .getfield 76, 3), (262, .bipush 8, 2), (264, .dup2, 1)]
theorem bk_M_string_258_4_ok : jm_at mt_M_string.2.1 bk_M_string_258_4 = true := by decide +kernel
abbrev bk_M_string_266_2 : List (Nat × Instr × Nat) := [(266, .iconst 1, 1), (267, .iadd, 1)]
theorem bk_M_string_266_2_ok : jm_at mt_M_string.2.1 bk_M_string_266_2 = true := by decide +kernel
abbrev bk_M_string_23_2 : List (Nat × Instr × Nat) := [(23, .aload_n 0, 1), (24, .iload_n 3, 1)]
theorem bk_M_string_23_2_ok : jm_at mt_M_string.2.1 bk_M_string_23_2 = true := by decide +kernel
abbrev bk_M_string_28_5 : List (Nat × Instr × Nat) := [(28, .istore 5, 2), (30, .iload_n 3, 1), (31, .aload_n 0, 1), (32, .getfield 110, 3), (35, .if_icmp .ge 17, 3)]
theorem bk_M_string_28_5_ok : jm_at mt_M_string.2.1 bk_M_string_28_5 = true := by decide +kernel
abbrev bk_M_string_38_3 : List (Nat × Instr × Nat) := [(38, .iload 5, 2), (40, .bipush 32, 2), (42, .if_icmp .lt 10, 3)]
theorem bk_M_string_38_3_ok : jm_at mt_M_string.2.1 bk_M_string_38_3 = true := by decide +kernel
abbrev bk_M_string_45_3 : List (Nat × Instr × Nat) := [(45, .iload 5, 2), (47, .bipush 126, 2), (49, .if_icmp .le 9, 3)]
theorem bk_M_string_45_3_ok : jm_at mt_M_string.2.1 bk_M_string_45_3 = true := by decide +kernel
abbrev bk_M_string_58_4 : List (Nat × Instr × Nat) := [(58, .iinc 3 1, 3), (61, .iload 5, 2), (63, .bipush 92, 2), (65, .if_icmp .eq 6, 3)]
theorem bk_M_string_58_4_ok : jm_at mt_M_string.2.1 bk_M_string_58_4 = true := by decide +kernel
abbrev bk_M_string_71_2 : List (Nat × Instr × Nat) := [(71, .aload_n 0, 1), (72, .iload_n 3, 1)]
theorem bk_M_string_71_2_ok : jm_at mt_M_string.2.1 bk_M_string_71_2 = true := by decide +kernel
abbrev bk_M_string_76_5 : List (Nat × Instr × Nat) := [(76, .istore 5, 2), (78, .iinc 3 1, 3), (81, .iload 5, 2), (83, .bipush 40, 2), (85, .if_icmp .ne 55, 3)]
theorem bk_M_string_76_5_ok : jm_at mt_M_string.2.1 bk_M_string_76_5 = true := by decide +kernel
abbrev bk_M_string_88_2 : List (Nat × Instr × Nat) := [(88, .iload_n 1, 1), (89, .ifCond .ne 9, 3)]
theorem bk_M_string_88_2_ok : jm_at mt_M_string.2.1 bk_M_string_88_2 = true := by decide +kernel
abbrev bk_M_string_92_2 : List (Nat × Instr × Nat) := [(92, .aload_n 0, 1), (93, .iload_n 2, 1)]
theorem bk_M_string_92_2_ok : jm_at mt_M_string.2.1 bk_M_string_92_2 = true := by decide +kernel
abbrev bk_M_string_98_4 : List (Nat × Instr × Nat) := [(98, .iinc 4 1, 3), (101, .aload_n 0, 1), (102, .iload_n 3, 1), (103, .putfield 119, 3)]
theorem bk_M_string_98_4_ok : jm_at mt_M_string.2.1 bk_M_string_98_4 = true := by decide +kernel
abbrev bk_M_string_106_1 : List (Nat × Instr × Nat) := [(106, .aload_n 0, 1)]
theorem bk_M_string_106_1_ok : jm_at mt_M_string.2.1 bk_M_string_106_1 = true := by decide +kernel
abbrev bk_M_string_110_1 : List (Nat × Instr × Nat) := [(110, .aload_n 0, 1)]
theorem bk_M_string_110_1_ok : jm_at mt_M_string.2.1 bk_M_string_110_1 = true := by decide +kernel
abbrev bk_M_string_114_4 : List (Nat × Instr × Nat) := [(114, .aload_n 0, 1), (115, .getfield 128, 3), (118, .bipush 17, 2), (120, .if_icmp .eq 12, 3)]
theorem bk_M_string_114_4_ok : jm_at mt_M_string.2.1 bk_M_string_114_4 = true := by decide +kernel
abbrev bk_M_string_132_4 : List (Nat × Instr × Nat) := [(132, .aload_n 0, 1), (133, .getfield 119, 3), (136, .istore_n 3, 1), (137, .goto 102, 3)]
theorem bk_M_string_132_4_ok : jm_at mt_M_string.2.1 bk_M_string_132_4 = true := by decide +kernel
abbrev bk_M_string_123_3 : List (Nat × Instr × Nat) := [(123, .aload_n 0, 1), (124, .aload_n 0, 1), (125, .getfield 131, 3)]
theorem bk_M_string_123_3_ok : jm_at mt_M_string.2.1 bk_M_string_123_3 = true := by decide +kernel
abbrev bk_M_string_140_3 : List (Nat × Instr × Nat) := [(140, .iload 5, 2), (142, .bipush 117, 2), (144, .if_icmp .ne 73, 3)]
theorem bk_M_string_140_3_ok : jm_at mt_M_string.2.1 bk_M_string_140_3 = true := by decide +kernel
abbrev bk_M_string_147_4 : List (Nat × Instr × Nat) := [(147, .iconst 0, 1), (148, .istore 6, 2), (150, .iconst 0, 1), (151, .istore 7, 2)]
theorem bk_M_string_147_4_ok : jm_at mt_M_string.2.1 bk_M_string_147_4 = true := by decide +kernel
abbrev bk_M_string_217_2 : List (Nat × Instr × Nat) := [(217, .iload 5, 2), (219, .ifCond .lt 14, 3)]
theorem bk_M_string_217_2_ok : jm_at mt_M_string.2.1 bk_M_string_217_2 = true := by decide +kernel
abbrev bk_M_string_225_1 : List (Nat × Instr × Nat) := [(225, .iload 5, 2)]
theorem bk_M_string_225_1_ok : jm_at mt_M_string.2.1 bk_M_string_225_1 = true := by decide +kernel
abbrev bk_M_string_230_1 : List (Nat × Instr × Nat) := [(230, .ifCond .ge 9, 3)]
theorem bk_M_string_230_1_ok : jm_at mt_M_string.2.1 bk_M_string_230_1 = true := by decide +kernel
abbrev bk_M_string_68_1 : List (Nat × Instr × Nat) := [(68, .goto (-55), 3)]
theorem bk_M_string_68_1_ok : jm_at mt_M_string.2.1 bk_M_string_68_1 = true := by decide +kernel
abbrev bk_M_string_52_2 : List (Nat × Instr × Nat) := [(52, .aload_n 0, 1), (53, .iload_n 2, 1)]
theorem bk_M_string_52_2_ok : jm_at mt_M_string.2.1 bk_M_string_52_2 = true := by decide +kernel
abbrev bk_M_string_153_3 : List (Nat × Instr × Nat) := [(153, .iload 7, 2), (155, .iconst 4, 1), (156, .if_icmp .ge 45, 3)]
theorem bk_M_string_153_3_ok : jm_at mt_M_string.2.1 bk_M_string_153_3 = true := by decide +kernel
abbrev bk_M_string_201_3 : List (Nat × Instr × Nat) := [(201, .iload 6, 2), (203, .bipush 127, 2), (205, .if_icmp .le 9, 3)]
theorem bk_M_string_201_3_ok : jm_at mt_M_string.2.1 bk_M_string_201_3 = true := by decide +kernel
abbrev bk_M_string_214_1 : List (Nat × Instr × Nat) := [(214, .goto 25, 3)]
theorem bk_M_string_214_1_ok : jm_at mt_M_string.2.1 bk_M_string_214_1 = true := by decide +kernel
abbrev bk_M_string_208_2 : List (Nat × Instr × Nat) := [(208, .aload_n 0, 1), (209, .iload_n 2, 1)]
theorem bk_M_string_208_2_ok : jm_at mt_M_string.2.1 bk_M_string_208_2 = true := by decide +kernel
abbrev bk_M_string_159_2 : List (Nat × Instr × Nat) := [(159, .aload_n 0, 1), (160, .iload_n 3, 1)]
theorem bk_M_string_159_2_ok : jm_at mt_M_string.2.1 bk_M_string_159_2 = true := by decide +kernel
abbrev bk_M_string_167_1 : List (Nat × Instr × Nat) := [(167, .ifCond .ge 9, 3)]
theorem bk_M_string_167_1_ok : jm_at mt_M_string.2.1 bk_M_string_167_1 = true := by decide +kernel
abbrev bk_M_string_176_5 : List (Nat × Instr × Nat) := [(176, .bipush 16, 2), (178, .iload 6, 2), (180, .imul, 1), (181, .aload_n 0, 1), (182, .iload_n 3, 1)]
theorem bk_M_string_176_5_ok : jm_at mt_M_string.2.1 bk_M_string_176_5 = true := by decide +kernel
abbrev bk_M_string_189_5 : List (Nat × Instr × Nat) := [(189, .iadd, 1), (190, .istore 6, 2), (192, .iinc 3 1, 3), (195, .iinc 7 1, 3), (198, .goto (-45), 3)]
theorem bk_M_string_189_5_ok : jm_at mt_M_string.2.1 bk_M_string_189_5 = true := by decide +kernel
abbrev bk_M_string_170_2 : List (Nat × Instr × Nat) := [(170, .aload_n 0, 1), (171, .iload_n 2, 1)]
theorem bk_M_string_170_2_ok : jm_at mt_M_string.2.1 bk_M_string_170_2 = true := by decide +kernel
abbrev bk_M_string_233_2 : List (Nat × Instr × Nat) := [(233, .aload_n 0, 1), (234, .iload_n 2, 1)]
theorem bk_M_string_233_2_ok : jm_at mt_M_string.2.1 bk_M_string_233_2 = true := by decide +kernel
abbrev bk_M_string_239_1 : List (Nat × Instr × Nat) := [(239, .goto (-226), 3)]
theorem bk_M_string_239_1_ok : jm_at mt_M_string.2.1 bk_M_string_239_1 = true := by decide +kernel
abbrev bk_M_string_269_4 : List (Nat × Instr × Nat) := [(269, .aload_n 0, 1), (270, .getfield 76, 3), (273, .bipush 7, 2), (275, .dup2, 1)]
theorem bk_M_string_269_4_ok : jm_at mt_M_string.2.1 bk_M_string_269_4 = true := by decide +kernel
abbrev bk_M_string_277_4 : List (Nat × Instr × Nat) := [(277, .iload 4, 2), (279, .iconst 1, 1), (280, .iadd, 1), (281, .iadd, 1)]
theorem bk_M_string_277_4_ok : jm_at mt_M_string.2.1 bk_M_string_277_4 = true := by decide +kernel
theorem dd_M_string_15 : decode mt_M_string.2.1 15 = .ok (.invokevirtual 138, 3) := by decide +kernel
theorem dd_M_string_250 : decode mt_M_string.2.1 250 = .ok (.invokevirtual 122, 3) := by decide +kernel
theorem dd_M_string_268 : decode mt_M_string.2.1 268 = .ok (.iastore, 1) := by decide +kernel
theorem dd_M_string_265 : decode mt_M_string.2.1 265 = .ok (.iaload, 1) := by decide +kernel
theorem dd_M_string_25 : decode mt_M_string.2.1 25 = .ok (.invokevirtual 138, 3) := by decide +kernel
theorem dd_M_string_73 : decode mt_M_string.2.1 73 = .ok (.invokevirtual 138, 3) := by decide +kernel
theorem dd_M_string_94 : decode mt_M_string.2.1 94 = .ok (.invokevirtual 134, 3) := by decide +kernel
theorem dd_M_string_97 : decode mt_M_string.2.1 97 = .ok (.athrow, 1) := by decide +kernel
theorem dd_M_string_107 : decode mt_M_string.2.1 107 = .ok (.invokevirtual 122, 3) := by decide +kernel
theorem dd_M_string_111 : decode mt_M_string.2.1 111 = .ok (.invokevirtual 125, 3) := by decide +kernel
theorem dd_M_string_128 : decode mt_M_string.2.1 128 = .ok (.invokevirtual 134, 3) := by decide +kernel
theorem dd_M_string_131 : decode mt_M_string.2.1 131 = .ok (.athrow, 1) := by decide +kernel
theorem dd_M_string_227 : decode mt_M_string.2.1 227 = .ok (.invokevirtual 298, 3) := by decide +kernel
theorem dd_M_string_222 : decode mt_M_string.2.1 222 = .ok (.ldc_w 296, 3) := by decide +kernel
theorem dd_M_string_54 : decode mt_M_string.2.1 54 = .ok (.invokevirtual 134, 3) := by decide +kernel
theorem dd_M_string_57 : decode mt_M_string.2.1 57 = .ok (.athrow, 1) := by decide +kernel
theorem dd_M_string_210 : decode mt_M_string.2.1 210 = .ok (.invokevirtual 134, 3) := by decide +kernel
theorem dd_M_string_213 : decode mt_M_string.2.1 213 = .ok (.athrow, 1) := by decide +kernel
theorem dd_M_string_161 : decode mt_M_string.2.1 161 = .ok (.invokevirtual 138, 3) := by decide +kernel
theorem dd_M_string_164 : decode mt_M_string.2.1 164 = .ok (.invokestatic 293, 3) := by decide +kernel
theorem dd_M_string_183 : decode mt_M_string.2.1 183 = .ok (.invokevirtual 138, 3) := by decide +kernel
theorem dd_M_string_186 : decode mt_M_string.2.1 186 = .ok (.invokestatic 293, 3) := by decide +kernel
theorem dd_M_string_172 : decode mt_M_string.2.1 172 = .ok (.invokevirtual 134, 3) := by decide +kernel
theorem dd_M_string_175 : decode mt_M_string.2.1 175 = .ok (.athrow, 1) := by decide +kernel
theorem dd_M_string_235 : decode mt_M_string.2.1 235 = .ok (.invokevirtual 134, 3) := by decide +kernel
theorem dd_M_string_238 : decode mt_M_string.2.1 238 = .ok (.athrow, 1) := by decide +kernel
theorem dd_M_string_283 : decode mt_M_string.2.1 283 = .ok (.return_, 1) := by decide +kernel
theorem dd_M_string_282 : decode mt_M_string.2.1 282 = .ok (.iastore, 1) := by decide +kernel
theorem dd_M_string_276 : decode mt_M_string.2.1 276 = .ok (.iaload, 1) := by decide +kernel
def J_M_string_239 (K : Nat) (g : jm_Rec) (k13 : Int32 → Int32 → Int32 → Int32 → jm_X → Option jm_R) (v1 : Int32) (v2 : Int32) (v3 : Int32) (v4 : Int32) (x : jm_X) : Option jm_R := k13 v1 v2 v3 v4 x
set_option maxRecDepth 100000 in
set_option maxHeartbeats 4000000 in
theorem jj_M_string_239 {l : Launch} {D : va_G} {ad : Nat → Nat} {aC : Nat → ClassId} {b0 : Nat} {K d0 : Nat} {g : jm_Rec} (hok : jm_Ok (jm_PP l D clR ad aC shR b0 0)) (hrec : ∀ (t : Nat) (av : List Value) (x : jm_X), jm_Con (jm_PP l D clR ad aC shR b0 0) (rcR t) d0 av x (g t av x)) {k13 : Int32 → Int32 → Int32 → Int32 → jm_X → Option jm_R} (hk13 : ∀ (v1 : Int32) (v2 : Int32) (v3 : Int32) (v4 : Int32) (x : jm_X), jm_V (jm_PP l D clR ad aC shR b0 0) mt_M_string (d0 + 5) 13 [(0, .ref 0), (1, .int v1), (2, .int v2), (3, .int v3), (4, .int v4)] [] x (k13 v1 v2 v3 v4 x)) (v1 : Int32) (v2 : Int32) (v3 : Int32) (v4 : Int32) (x : jm_X) : jm_V (jm_PP l D clR ad aC shR b0 0) mt_M_string (d0 + 5) 239 [(0, .ref 0), (1, .int v1), (2, .int v2), (3, .int v3), (4, .int v4)] [] x (J_M_string_239 K g k13 v1 v2 v3 v4 x) := by
  have hT := tk_M (l := l) (D := D) (ad := ad) (aC := aC) (b0 := b0)
  unfold J_M_string_239
  refine jm_V.run (is := bk_M_string_239_1) (pc' := 13) (ls' := [(0, .ref 0), (1, .int v1), (2, .int v2), (3, .int v3), (4, .int v4)]) (st' := []) (x' := x) hok hT bk_M_string_239_1_ok rfl ?_
  exact hk13 v1 v2 v3 v4 x
def B_M_string_153 (K : Nat) (g : jm_Rec) (k13 : Int32 → Int32 → Int32 → Int32 → jm_X → Option jm_R) (self : Int32 → Int32 → Int32 → Int32 → Int32 → Int32 → jm_X → Option jm_R) (v1 : Int32) (v2 : Int32) (v3 : Int32) (v4 : Int32) (v6 : Int32) (v7 : Int32) (x : jm_X) : Option jm_R := (if 4 ≤ v7 then (if v6 ≤ 127 then J_M_string_239 K g k13 v1 v2 v3 v4 x else jm_bA (f_M_bad K g v2 x) (fun b22 x21 => (if b22 = 2 then some (.inr ("java/lang/IllegalStateException", x21)) else none))) else jm_bI (f_M_look K g v3 x) (fun b24 x23 => jm_bI (f_M_hex K g b24 x23) (fun b26 x25 => (if 0 ≤ b26 then jm_bI (f_M_look K g v3 x25) (fun b28 x27 => jm_bI (f_M_hex K g b28 x27) (fun b30 x29 => self v1 v2 (v3 + 1) v4 ((16 * v6) + b30) (v7 + 1) x29)) else jm_bA (f_M_bad K g v2 x25) (fun b32 x31 => (if b32 = 2 then some (.inr ("java/lang/IllegalStateException", x31)) else none))))))
def L_M_string_153 (K : Nat) (g : jm_Rec) (k13 : Int32 → Int32 → Int32 → Int32 → jm_X → Option jm_R) : Nat → Int32 → Int32 → Int32 → Int32 → Int32 → Int32 → jm_X → Option jm_R
  | 0, _, _, _, _, _, _, _ => none
  | k + 1, v1, v2, v3, v4, v6, v7, x => B_M_string_153 K g k13 (L_M_string_153 K g k13 k) v1 v2 v3 v4 v6 v7 x
set_option maxRecDepth 100000 in
set_option maxHeartbeats 4000000 in
theorem jb_M_string_153 {l : Launch} {D : va_G} {ad : Nat → Nat} {aC : Nat → ClassId} {b0 : Nat} {K d0 : Nat} {g : jm_Rec} (hok : jm_Ok (jm_PP l D clR ad aC shR b0 0)) (hrec : ∀ (t : Nat) (av : List Value) (x : jm_X), jm_Con (jm_PP l D clR ad aC shR b0 0) (rcR t) d0 av x (g t av x)) {k13 : Int32 → Int32 → Int32 → Int32 → jm_X → Option jm_R} (hk13 : ∀ (v1 : Int32) (v2 : Int32) (v3 : Int32) (v4 : Int32) (x : jm_X), jm_V (jm_PP l D clR ad aC shR b0 0) mt_M_string (d0 + 5) 13 [(0, .ref 0), (1, .int v1), (2, .int v2), (3, .int v3), (4, .int v4)] [] x (k13 v1 v2 v3 v4 x)) {self : Int32 → Int32 → Int32 → Int32 → Int32 → Int32 → jm_X → Option jm_R} (hself : ∀ (v1 : Int32) (v2 : Int32) (v3 : Int32) (v4 : Int32) (v6 : Int32) (v7 : Int32) (x : jm_X), jm_V (jm_PP l D clR ad aC shR b0 0) mt_M_string (d0 + 5) 153 [(0, .ref 0), (1, .int v1), (2, .int v2), (3, .int v3), (4, .int v4), (6, .int v6), (7, .int v7)] [] x (self v1 v2 v3 v4 v6 v7 x)) (v1 : Int32) (v2 : Int32) (v3 : Int32) (v4 : Int32) (v6 : Int32) (v7 : Int32) (x : jm_X) : jm_V (jm_PP l D clR ad aC shR b0 0) mt_M_string (d0 + 5) 153 [(0, .ref 0), (1, .int v1), (2, .int v2), (3, .int v3), (4, .int v4), (6, .int v6), (7, .int v7)] [] x (B_M_string_153 K g k13 self v1 v2 v3 v4 v6 v7 x) := by
  have hT := tk_M (l := l) (D := D) (ad := ad) (aC := aC) (b0 := b0)
  unfold B_M_string_153
  refine jm_V.run (is := bk_M_string_153_3) (pc' := (if 4 ≤ v7 then 201 else 159)) (ls' := [(0, .ref 0), (1, .int v1), (2, .int v2), (3, .int v3), (4, .int v4), (6, .int v6), (7, .int v7)]) (st' := []) (x' := x) hok hT bk_M_string_153_3_ok rfl ?_
  refine jm_V.ite (fun _ => ?_) (fun _ => ?_)
  · refine jm_V.run (is := bk_M_string_201_3) (pc' := (if v6 ≤ 127 then 214 else 208)) (ls' := [(0, .ref 0), (1, .int v1), (2, .int v2), (3, .int v3), (4, .int v4), (6, .int v6), (7, .int v7)]) (st' := []) (x' := x) hok hT bk_M_string_201_3_ok rfl ?_
    refine jm_V.ite (fun _ => ?_) (fun _ => ?_)
    · refine jm_V.run (is := bk_M_string_214_1) (pc' := 239) (ls' := [(0, .ref 0), (1, .int v1), (2, .int v2), (3, .int v3), (4, .int v4), (6, .int v6), (7, .int v7)]) (st' := []) (x' := x) hok hT bk_M_string_214_1_ok rfl ?_
      refine jm_V.sub (ls' := [(0, .ref 0), (1, .int v1), (2, .int v2), (3, .int v3), (4, .int v4)]) [0, 1, 2, 3, 4] rfl ?_
      exact jj_M_string_239 hok hrec hk13 v1 v2 v3 v4 x
    · refine jm_V.run (is := bk_M_string_208_2) (pc' := 210) (ls' := [(0, .ref 0), (1, .int v1), (2, .int v2), (3, .int v3), (4, .int v4), (6, .int v6), (7, .int v7)]) (st' := [.int v2, .ref 0]) (x' := x) hok hT bk_M_string_208_2_ok rfl ?_
      refine jm_V.callA (av := [.ref 0, .int v2]) (rest := []) hok (jm_Con.mono (c_M_bad hok hrec v2 x) (by omega)) (jm_Inv.obj (q := ("FilterReaderModel", T_M, 22)) dd_M_string_210 (Or.inl lk_M_134) mn_M_bad ms_M_bad mw_M_bad mh_M_bad ml_M_bad rfl rfl) mw_M_bad mi_M (Nat.le_of_ble_eq_true rfl) (Nat.le_of_ble_eq_true rfl) (fun b22 x21 => ?_)
      exact jm_V.athrowS (o := 2) (q := ("java/lang/IllegalStateException", T_X, 0)) rfl rfl dd_M_string_213
  · refine jm_V.run (is := bk_M_string_159_2) (pc' := 161) (ls' := [(0, .ref 0), (1, .int v1), (2, .int v2), (3, .int v3), (4, .int v4), (6, .int v6), (7, .int v7)]) (st' := [.int v3, .ref 0]) (x' := x) hok hT bk_M_string_159_2_ok rfl ?_
    refine jm_V.callI (av := [.ref 0, .int v3]) (rest := []) hok (jm_Con.mono (c_M_look hok hrec v3 x) (by omega)) (jm_Inv.obj (q := ("FilterReaderModel", T_M, 22)) dd_M_string_161 (Or.inl lk_M_138) mn_M_look ms_M_look mw_M_look mh_M_look ml_M_look rfl rfl) mw_M_look mi_M (Nat.le_of_ble_eq_true rfl) (Nat.le_of_ble_eq_true rfl) (fun b24 x23 => ?_)
    refine jm_V.callI (av := [.int b24]) (rest := []) hok (jm_Con.mono (c_M_hex hok hrec b24 x23) (by omega)) (jm_Inv.stat dd_M_string_164 (Or.inl lk_M_293) mq_M_hex mi_M mw_M_hex mh_M_hex ml_M_hex) mw_M_hex mi_M (Nat.le_of_ble_eq_true rfl) (Nat.le_of_ble_eq_true rfl) (fun b26 x25 => ?_)
    refine jm_V.run (is := bk_M_string_167_1) (pc' := (if 0 ≤ b26 then 176 else 170)) (ls' := [(0, .ref 0), (1, .int v1), (2, .int v2), (3, .int v3), (4, .int v4), (6, .int v6), (7, .int v7)]) (st' := []) (x' := x25) hok hT bk_M_string_167_1_ok rfl ?_
    refine jm_V.ite (fun _ => ?_) (fun _ => ?_)
    · refine jm_V.run (is := bk_M_string_176_5) (pc' := 183) (ls' := [(0, .ref 0), (1, .int v1), (2, .int v2), (3, .int v3), (4, .int v4), (6, .int v6), (7, .int v7)]) (st' := [.int v3, .ref 0, .int (16 * v6)]) (x' := x25) hok hT bk_M_string_176_5_ok rfl ?_
      refine jm_V.callI (av := [.ref 0, .int v3]) (rest := [.int (16 * v6)]) hok (jm_Con.mono (c_M_look hok hrec v3 x25) (by omega)) (jm_Inv.obj (q := ("FilterReaderModel", T_M, 22)) dd_M_string_183 (Or.inl lk_M_138) mn_M_look ms_M_look mw_M_look mh_M_look ml_M_look rfl rfl) mw_M_look mi_M (Nat.le_of_ble_eq_true rfl) (Nat.le_of_ble_eq_true rfl) (fun b28 x27 => ?_)
      refine jm_V.callI (av := [.int b28]) (rest := [.int (16 * v6)]) hok (jm_Con.mono (c_M_hex hok hrec b28 x27) (by omega)) (jm_Inv.stat dd_M_string_186 (Or.inl lk_M_293) mq_M_hex mi_M mw_M_hex mh_M_hex ml_M_hex) mw_M_hex mi_M (Nat.le_of_ble_eq_true rfl) (Nat.le_of_ble_eq_true rfl) (fun b30 x29 => ?_)
      refine jm_V.run (is := bk_M_string_189_5) (pc' := 153) (ls' := [(7, .int (v7 + 1)), (3, .int (v3 + 1)), (6, .int ((16 * v6) + b30)), (0, .ref 0), (1, .int v1), (2, .int v2), (4, .int v4)]) (st' := []) (x' := x29) hok hT bk_M_string_189_5_ok rfl ?_
      refine jm_V.sub (ls' := [(0, .ref 0), (1, .int v1), (2, .int v2), (3, .int (v3 + 1)), (4, .int v4), (6, .int ((16 * v6) + b30)), (7, .int (v7 + 1))]) [3, 4, 5, 1, 6, 2, 0] rfl ?_
      exact hself v1 v2 (v3 + 1) v4 ((16 * v6) + b30) (v7 + 1) x29
    · refine jm_V.run (is := bk_M_string_170_2) (pc' := 172) (ls' := [(0, .ref 0), (1, .int v1), (2, .int v2), (3, .int v3), (4, .int v4), (6, .int v6), (7, .int v7)]) (st' := [.int v2, .ref 0]) (x' := x25) hok hT bk_M_string_170_2_ok rfl ?_
      refine jm_V.callA (av := [.ref 0, .int v2]) (rest := []) hok (jm_Con.mono (c_M_bad hok hrec v2 x25) (by omega)) (jm_Inv.obj (q := ("FilterReaderModel", T_M, 22)) dd_M_string_172 (Or.inl lk_M_134) mn_M_bad ms_M_bad mw_M_bad mh_M_bad ml_M_bad rfl rfl) mw_M_bad mi_M (Nat.le_of_ble_eq_true rfl) (Nat.le_of_ble_eq_true rfl) (fun b32 x31 => ?_)
      exact jm_V.athrowS (o := 2) (q := ("java/lang/IllegalStateException", T_X, 0)) rfl rfl dd_M_string_175
theorem jl_M_string_153 {l : Launch} {D : va_G} {ad : Nat → Nat} {aC : Nat → ClassId} {b0 : Nat} {K d0 : Nat} {g : jm_Rec} (hok : jm_Ok (jm_PP l D clR ad aC shR b0 0)) (hrec : ∀ (t : Nat) (av : List Value) (x : jm_X), jm_Con (jm_PP l D clR ad aC shR b0 0) (rcR t) d0 av x (g t av x)) {k13 : Int32 → Int32 → Int32 → Int32 → jm_X → Option jm_R} (hk13 : ∀ (v1 : Int32) (v2 : Int32) (v3 : Int32) (v4 : Int32) (x : jm_X), jm_V (jm_PP l D clR ad aC shR b0 0) mt_M_string (d0 + 5) 13 [(0, .ref 0), (1, .int v1), (2, .int v2), (3, .int v3), (4, .int v4)] [] x (k13 v1 v2 v3 v4 x)) : ∀ (k : Nat) (v1 : Int32) (v2 : Int32) (v3 : Int32) (v4 : Int32) (v6 : Int32) (v7 : Int32) (x : jm_X), jm_V (jm_PP l D clR ad aC shR b0 0) mt_M_string (d0 + 5) 153 [(0, .ref 0), (1, .int v1), (2, .int v2), (3, .int v3), (4, .int v4), (6, .int v6), (7, .int v7)] [] x (L_M_string_153 K g k13 k v1 v2 v3 v4 v6 v7 x)
  | 0, _, _, _, _, _, _, _ => jm_V.stuck
  | k + 1, v1, v2, v3, v4, v6, v7, x => jb_M_string_153 hok hrec hk13 (fun v1 v2 v3 v4 v6 v7 x => jl_M_string_153 hok hrec hk13 k v1 v2 v3 v4 v6 v7 x) v1 v2 v3 v4 v6 v7 x
def J_M_string_52 (K : Nat) (g : jm_Rec) (v2 : Int32) (x : jm_X) : Option jm_R := jm_bA (f_M_bad K g v2 x) (fun b20 x19 => (if b20 = 2 then some (.inr ("java/lang/IllegalStateException", x19)) else none))
set_option maxRecDepth 100000 in
set_option maxHeartbeats 4000000 in
theorem jj_M_string_52 {l : Launch} {D : va_G} {ad : Nat → Nat} {aC : Nat → ClassId} {b0 : Nat} {K d0 : Nat} {g : jm_Rec} (hok : jm_Ok (jm_PP l D clR ad aC shR b0 0)) (hrec : ∀ (t : Nat) (av : List Value) (x : jm_X), jm_Con (jm_PP l D clR ad aC shR b0 0) (rcR t) d0 av x (g t av x)) (v2 : Int32) (x : jm_X) : jm_V (jm_PP l D clR ad aC shR b0 0) mt_M_string (d0 + 5) 52 [(0, .ref 0), (2, .int v2)] [] x (J_M_string_52 K g v2 x) := by
  have hT := tk_M (l := l) (D := D) (ad := ad) (aC := aC) (b0 := b0)
  unfold J_M_string_52
  refine jm_V.run (is := bk_M_string_52_2) (pc' := 54) (ls' := [(0, .ref 0), (2, .int v2)]) (st' := [.int v2, .ref 0]) (x' := x) hok hT bk_M_string_52_2_ok rfl ?_
  refine jm_V.callA (av := [.ref 0, .int v2]) (rest := []) hok (jm_Con.mono (c_M_bad hok hrec v2 x) (by omega)) (jm_Inv.obj (q := ("FilterReaderModel", T_M, 22)) dd_M_string_54 (Or.inl lk_M_134) mn_M_bad ms_M_bad mw_M_bad mh_M_bad ml_M_bad rfl rfl) mw_M_bad mi_M (Nat.le_of_ble_eq_true rfl) (Nat.le_of_ble_eq_true rfl) (fun b20 x19 => ?_)
  exact jm_V.athrowS (o := 2) (q := ("java/lang/IllegalStateException", T_X, 0)) rfl rfl dd_M_string_57
def J_M_string_233 (K : Nat) (g : jm_Rec) (v2 : Int32) (x : jm_X) : Option jm_R := jm_bA (f_M_bad K g v2 x) (fun b34 x33 => (if b34 = 2 then some (.inr ("java/lang/IllegalStateException", x33)) else none))
set_option maxRecDepth 100000 in
set_option maxHeartbeats 4000000 in
theorem jj_M_string_233 {l : Launch} {D : va_G} {ad : Nat → Nat} {aC : Nat → ClassId} {b0 : Nat} {K d0 : Nat} {g : jm_Rec} (hok : jm_Ok (jm_PP l D clR ad aC shR b0 0)) (hrec : ∀ (t : Nat) (av : List Value) (x : jm_X), jm_Con (jm_PP l D clR ad aC shR b0 0) (rcR t) d0 av x (g t av x)) (v2 : Int32) (x : jm_X) : jm_V (jm_PP l D clR ad aC shR b0 0) mt_M_string (d0 + 5) 233 [(0, .ref 0), (2, .int v2)] [] x (J_M_string_233 K g v2 x) := by
  have hT := tk_M (l := l) (D := D) (ad := ad) (aC := aC) (b0 := b0)
  unfold J_M_string_233
  refine jm_V.run (is := bk_M_string_233_2) (pc' := 235) (ls' := [(0, .ref 0), (2, .int v2)]) (st' := [.int v2, .ref 0]) (x' := x) hok hT bk_M_string_233_2_ok rfl ?_
  refine jm_V.callA (av := [.ref 0, .int v2]) (rest := []) hok (jm_Con.mono (c_M_bad hok hrec v2 x) (by omega)) (jm_Inv.obj (q := ("FilterReaderModel", T_M, 22)) dd_M_string_235 (Or.inl lk_M_134) mn_M_bad ms_M_bad mw_M_bad mh_M_bad ml_M_bad rfl rfl) mw_M_bad mi_M (Nat.le_of_ble_eq_true rfl) (Nat.le_of_ble_eq_true rfl) (fun b34 x33 => ?_)
  exact jm_V.athrowS (o := 2) (q := ("java/lang/IllegalStateException", T_X, 0)) rfl rfl dd_M_string_238
def J_M_string_269 (K : Nat) (g : jm_Rec) (v4 : Int32) (x : jm_X) : Option jm_R := (if jm_in shR 4 .int 7 then (if jm_in shR 4 .int 7 then jm_then (jm_ua x 4 7 ((x.2.2 4 (Int32.toNatClampNeg 7)) + (v4 + 1))) (fun x35 => some (.inl (none, x35))) else none) else none)
set_option maxRecDepth 100000 in
set_option maxHeartbeats 4000000 in
theorem jj_M_string_269 {l : Launch} {D : va_G} {ad : Nat → Nat} {aC : Nat → ClassId} {b0 : Nat} {K d0 : Nat} {g : jm_Rec} (hok : jm_Ok (jm_PP l D clR ad aC shR b0 0)) (hrec : ∀ (t : Nat) (av : List Value) (x : jm_X), jm_Con (jm_PP l D clR ad aC shR b0 0) (rcR t) d0 av x (g t av x)) (v4 : Int32) (x : jm_X) : jm_V (jm_PP l D clR ad aC shR b0 0) mt_M_string (d0 + 5) 269 [(0, .ref 0), (4, .int v4)] [] x (J_M_string_269 K g v4 x) := by
  have hT := tk_M (l := l) (D := D) (ad := ad) (aC := aC) (b0 := b0)
  unfold J_M_string_269
  refine jm_V.run (is := bk_M_string_269_4) (pc' := 276) (ls' := [(0, .ref 0), (4, .int v4)]) (st' := [.int 7, .ref 4, .int 7, .ref 4]) (x' := x) hok hT bk_M_string_269_4_ok rfl ?_
  refine jm_V.iald dd_M_string_276 ?_
  refine jm_V.run (is := bk_M_string_277_4) (pc' := 282) (ls' := [(0, .ref 0), (4, .int v4)]) (st' := [.int ((x.2.2 4 (Int32.toNatClampNeg 7)) + (v4 + 1)), .int 7, .ref 4]) (x' := x) hok hT bk_M_string_277_4_ok rfl ?_
  refine jm_V.iast hok dd_M_string_282 ?_
  refine jm_V.then_ (fun x35 => ?_)
  exact jm_V.vret rfl dd_M_string_283
def B_M_string_13 (K : Nat) (g : jm_Rec) (self : Int32 → Int32 → Int32 → Int32 → jm_X → Option jm_R) (v1 : Int32) (v2 : Int32) (v3 : Int32) (v4 : Int32) (x : jm_X) : Option jm_R := jm_bI (f_M_look K g v3 x) (fun b2 x1 => (if b2 = 34 then jm_then (va_up x1.1 10 (v3 + 1), x1.2) (fun x3 => jm_bV (f_M_scan K g x3) (fun x4 => (if v4 ≤ 0 then J_M_string_269 K g v4 x4 else (if jm_in shR 4 .int 8 then (if jm_in shR 4 .int 8 then jm_then (jm_ua x4 4 8 ((x4.2.2 4 (Int32.toNatClampNeg 8)) + 1)) (fun x5 => J_M_string_269 K g v4 x5) else none) else none)))) else jm_bI (f_M_look K g v3 x1) (fun b7 x6 => (if (x6.1 8) ≤ v3 then J_M_string_52 K g v2 x6 else (if b7 < 32 then J_M_string_52 K g v2 x6 else (if b7 ≤ 126 then (if b7 = 92 then jm_bI (f_M_look K g (v3 + 1) x6) (fun b9 x8 => (if b9 = 40 then (if v1 = 0 then jm_bA (f_M_bad K g v2 x8) (fun b11 x10 => (if b11 = 2 then some (.inr ("java/lang/IllegalStateException", x10)) else none)) else jm_then (va_up x8.1 10 ((v3 + 1) + 1), x8.2) (fun x12 => jm_bV (f_M_scan K g x12) (fun x13 => jm_bV (g 0 [.ref 0] x13) (fun x14 => (if (x14.1 11) = 17 then J_M_string_239 K g self v1 v2 (x14.1 10) (v4 + 1) x14 else jm_bA (f_M_bad K g (x14.1 9) x14) (fun b16 x15 => (if b16 = 2 then some (.inr ("java/lang/IllegalStateException", x15)) else none))))))) else (if b9 = 117 then L_M_string_153 K g self K v1 v2 ((v3 + 1) + 1) v4 0 0 x8 else (if b9 < 0 then J_M_string_233 K g v2 x8 else (if jm_cn 2000 73 2021 then jm_bI (f_JS_indexOf_i K g 2021 b9 x8) (fun b18 x17 => (if 0 ≤ b18 then J_M_string_239 K g self v1 v2 ((v3 + 1) + 1) v4 x17 else J_M_string_233 K g v2 x17)) else none))))) else self v1 v2 (v3 + 1) v4 x6) else J_M_string_52 K g v2 x6))))))
def L_M_string_13 (K : Nat) (g : jm_Rec) : Nat → Int32 → Int32 → Int32 → Int32 → jm_X → Option jm_R
  | 0, _, _, _, _, _ => none
  | k + 1, v1, v2, v3, v4, x => B_M_string_13 K g (L_M_string_13 K g k) v1 v2 v3 v4 x
set_option maxRecDepth 100000 in
set_option maxHeartbeats 4000000 in
theorem jb_M_string_13 {l : Launch} {D : va_G} {ad : Nat → Nat} {aC : Nat → ClassId} {b0 : Nat} {K d0 : Nat} {g : jm_Rec} (hok : jm_Ok (jm_PP l D clR ad aC shR b0 0)) (hrec : ∀ (t : Nat) (av : List Value) (x : jm_X), jm_Con (jm_PP l D clR ad aC shR b0 0) (rcR t) d0 av x (g t av x)) {self : Int32 → Int32 → Int32 → Int32 → jm_X → Option jm_R} (hself : ∀ (v1 : Int32) (v2 : Int32) (v3 : Int32) (v4 : Int32) (x : jm_X), jm_V (jm_PP l D clR ad aC shR b0 0) mt_M_string (d0 + 5) 13 [(0, .ref 0), (1, .int v1), (2, .int v2), (3, .int v3), (4, .int v4)] [] x (self v1 v2 v3 v4 x)) (v1 : Int32) (v2 : Int32) (v3 : Int32) (v4 : Int32) (x : jm_X) : jm_V (jm_PP l D clR ad aC shR b0 0) mt_M_string (d0 + 5) 13 [(0, .ref 0), (1, .int v1), (2, .int v2), (3, .int v3), (4, .int v4)] [] x (B_M_string_13 K g self v1 v2 v3 v4 x) := by
  have hT := tk_M (l := l) (D := D) (ad := ad) (aC := aC) (b0 := b0)
  unfold B_M_string_13
  refine jm_V.run (is := bk_M_string_13_2) (pc' := 15) (ls' := [(0, .ref 0), (1, .int v1), (2, .int v2), (3, .int v3), (4, .int v4)]) (st' := [.int v3, .ref 0]) (x' := x) hok hT bk_M_string_13_2_ok rfl ?_
  refine jm_V.callI (av := [.ref 0, .int v3]) (rest := []) hok (jm_Con.mono (c_M_look hok hrec v3 x) (by omega)) (jm_Inv.obj (q := ("FilterReaderModel", T_M, 22)) dd_M_string_15 (Or.inl lk_M_138) mn_M_look ms_M_look mw_M_look mh_M_look ml_M_look rfl rfl) mw_M_look mi_M (Nat.le_of_ble_eq_true rfl) (Nat.le_of_ble_eq_true rfl) (fun b2 x1 => ?_)
  refine jm_V.run (is := bk_M_string_18_2) (pc' := (if b2 = 34 then 242 else 23)) (ls' := [(0, .ref 0), (1, .int v1), (2, .int v2), (3, .int v3), (4, .int v4)]) (st' := []) (x' := x1) hok hT bk_M_string_18_2_ok rfl ?_
  refine jm_V.ite (fun _ => ?_) (fun _ => ?_)
  · refine jm_V.run (is := bk_M_string_242_5) (pc' := 249) (ls' := [(0, .ref 0), (1, .int v1), (2, .int v2), (3, .int v3), (4, .int v4)]) (st' := []) (x' := (va_up x1.1 10 (v3 + 1), x1.2)) hok hT bk_M_string_242_5_ok rfl ?_
    refine jm_V.then_ (fun x3 => ?_)
    refine jm_V.run (is := bk_M_string_249_1) (pc' := 250) (ls' := [(0, .ref 0), (1, .int v1), (2, .int v2), (3, .int v3), (4, .int v4)]) (st' := [.ref 0]) (x' := x3) hok hT bk_M_string_249_1_ok rfl ?_
    refine jm_V.callV (av := [.ref 0]) (rest := []) hok (jm_Con.mono (c_M_scan hok hrec x3) (by omega)) (jm_Inv.obj (q := ("FilterReaderModel", T_M, 22)) dd_M_string_250 (Or.inl lk_M_122) mn_M_scan ms_M_scan mw_M_scan mh_M_scan ml_M_scan rfl rfl) mw_M_scan mi_M (Nat.le_of_ble_eq_true rfl) (Nat.le_of_ble_eq_true rfl) (fun x4 => ?_)
    refine jm_V.run (is := bk_M_string_253_2) (pc' := (if v4 ≤ 0 then 269 else 258)) (ls' := [(0, .ref 0), (1, .int v1), (2, .int v2), (3, .int v3), (4, .int v4)]) (st' := []) (x' := x4) hok hT bk_M_string_253_2_ok rfl ?_
    refine jm_V.ite (fun _ => ?_) (fun _ => ?_)
    · refine jm_V.sub (ls' := [(0, .ref 0), (4, .int v4)]) [0, 4] rfl ?_
      exact jj_M_string_269 hok hrec v4 x4
    · refine jm_V.run (is := bk_M_string_258_4) (pc' := 265) (ls' := [(0, .ref 0), (1, .int v1), (2, .int v2), (3, .int v3), (4, .int v4)]) (st' := [.int 8, .ref 4, .int 8, .ref 4]) (x' := x4) hok hT bk_M_string_258_4_ok rfl ?_
      refine jm_V.iald dd_M_string_265 ?_
      refine jm_V.run (is := bk_M_string_266_2) (pc' := 268) (ls' := [(0, .ref 0), (1, .int v1), (2, .int v2), (3, .int v3), (4, .int v4)]) (st' := [.int ((x4.2.2 4 (Int32.toNatClampNeg 8)) + 1), .int 8, .ref 4]) (x' := x4) hok hT bk_M_string_266_2_ok rfl ?_
      refine jm_V.iast hok dd_M_string_268 ?_
      refine jm_V.then_ (fun x5 => ?_)
      refine jm_V.sub (ls' := [(0, .ref 0), (4, .int v4)]) [0, 4] rfl ?_
      exact jj_M_string_269 hok hrec v4 x5
  · refine jm_V.run (is := bk_M_string_23_2) (pc' := 25) (ls' := [(0, .ref 0), (1, .int v1), (2, .int v2), (3, .int v3), (4, .int v4)]) (st' := [.int v3, .ref 0]) (x' := x1) hok hT bk_M_string_23_2_ok rfl ?_
    refine jm_V.callI (av := [.ref 0, .int v3]) (rest := []) hok (jm_Con.mono (c_M_look hok hrec v3 x1) (by omega)) (jm_Inv.obj (q := ("FilterReaderModel", T_M, 22)) dd_M_string_25 (Or.inl lk_M_138) mn_M_look ms_M_look mw_M_look mh_M_look ml_M_look rfl rfl) mw_M_look mi_M (Nat.le_of_ble_eq_true rfl) (Nat.le_of_ble_eq_true rfl) (fun b7 x6 => ?_)
    refine jm_V.run (is := bk_M_string_28_5) (pc' := (if (x6.1 8) ≤ v3 then 52 else 38)) (ls' := [(5, .int b7), (0, .ref 0), (1, .int v1), (2, .int v2), (3, .int v3), (4, .int v4)]) (st' := []) (x' := x6) hok hT bk_M_string_28_5_ok rfl ?_
    refine jm_V.ite (fun _ => ?_) (fun _ => ?_)
    · refine jm_V.sub (ls' := [(0, .ref 0), (2, .int v2)]) [1, 3] rfl ?_
      exact jj_M_string_52 hok hrec v2 x6
    · refine jm_V.run (is := bk_M_string_38_3) (pc' := (if b7 < 32 then 52 else 45)) (ls' := [(5, .int b7), (0, .ref 0), (1, .int v1), (2, .int v2), (3, .int v3), (4, .int v4)]) (st' := []) (x' := x6) hok hT bk_M_string_38_3_ok rfl ?_
      refine jm_V.ite (fun _ => ?_) (fun _ => ?_)
      · refine jm_V.sub (ls' := [(0, .ref 0), (2, .int v2)]) [1, 3] rfl ?_
        exact jj_M_string_52 hok hrec v2 x6
      · refine jm_V.run (is := bk_M_string_45_3) (pc' := (if b7 ≤ 126 then 58 else 52)) (ls' := [(5, .int b7), (0, .ref 0), (1, .int v1), (2, .int v2), (3, .int v3), (4, .int v4)]) (st' := []) (x' := x6) hok hT bk_M_string_45_3_ok rfl ?_
        refine jm_V.ite (fun _ => ?_) (fun _ => ?_)
        · refine jm_V.run (is := bk_M_string_58_4) (pc' := (if b7 = 92 then 71 else 68)) (ls' := [(3, .int (v3 + 1)), (5, .int b7), (0, .ref 0), (1, .int v1), (2, .int v2), (4, .int v4)]) (st' := []) (x' := x6) hok hT bk_M_string_58_4_ok rfl ?_
          refine jm_V.ite (fun _ => ?_) (fun _ => ?_)
          · refine jm_V.run (is := bk_M_string_71_2) (pc' := 73) (ls' := [(3, .int (v3 + 1)), (5, .int b7), (0, .ref 0), (1, .int v1), (2, .int v2), (4, .int v4)]) (st' := [.int (v3 + 1), .ref 0]) (x' := x6) hok hT bk_M_string_71_2_ok rfl ?_
            refine jm_V.callI (av := [.ref 0, .int (v3 + 1)]) (rest := []) hok (jm_Con.mono (c_M_look hok hrec (v3 + 1) x6) (by omega)) (jm_Inv.obj (q := ("FilterReaderModel", T_M, 22)) dd_M_string_73 (Or.inl lk_M_138) mn_M_look ms_M_look mw_M_look mh_M_look ml_M_look rfl rfl) mw_M_look mi_M (Nat.le_of_ble_eq_true rfl) (Nat.le_of_ble_eq_true rfl) (fun b9 x8 => ?_)
            refine jm_V.run (is := bk_M_string_76_5) (pc' := (if b9 = 40 then 88 else 140)) (ls' := [(3, .int ((v3 + 1) + 1)), (5, .int b9), (0, .ref 0), (1, .int v1), (2, .int v2), (4, .int v4)]) (st' := []) (x' := x8) hok hT bk_M_string_76_5_ok rfl ?_
            refine jm_V.ite (fun _ => ?_) (fun _ => ?_)
            · refine jm_V.run (is := bk_M_string_88_2) (pc' := (if v1 = 0 then 92 else 98)) (ls' := [(3, .int ((v3 + 1) + 1)), (5, .int b9), (0, .ref 0), (1, .int v1), (2, .int v2), (4, .int v4)]) (st' := []) (x' := x8) hok hT bk_M_string_88_2_ok rfl ?_
              refine jm_V.ite (fun _ => ?_) (fun _ => ?_)
              · refine jm_V.run (is := bk_M_string_92_2) (pc' := 94) (ls' := [(3, .int ((v3 + 1) + 1)), (5, .int b9), (0, .ref 0), (1, .int v1), (2, .int v2), (4, .int v4)]) (st' := [.int v2, .ref 0]) (x' := x8) hok hT bk_M_string_92_2_ok rfl ?_
                refine jm_V.callA (av := [.ref 0, .int v2]) (rest := []) hok (jm_Con.mono (c_M_bad hok hrec v2 x8) (by omega)) (jm_Inv.obj (q := ("FilterReaderModel", T_M, 22)) dd_M_string_94 (Or.inl lk_M_134) mn_M_bad ms_M_bad mw_M_bad mh_M_bad ml_M_bad rfl rfl) mw_M_bad mi_M (Nat.le_of_ble_eq_true rfl) (Nat.le_of_ble_eq_true rfl) (fun b11 x10 => ?_)
                exact jm_V.athrowS (o := 2) (q := ("java/lang/IllegalStateException", T_X, 0)) rfl rfl dd_M_string_97
              · refine jm_V.run (is := bk_M_string_98_4) (pc' := 106) (ls' := [(4, .int (v4 + 1)), (3, .int ((v3 + 1) + 1)), (5, .int b9), (0, .ref 0), (1, .int v1), (2, .int v2)]) (st' := []) (x' := (va_up x8.1 10 ((v3 + 1) + 1), x8.2)) hok hT bk_M_string_98_4_ok rfl ?_
                refine jm_V.then_ (fun x12 => ?_)
                refine jm_V.run (is := bk_M_string_106_1) (pc' := 107) (ls' := [(4, .int (v4 + 1)), (3, .int ((v3 + 1) + 1)), (5, .int b9), (0, .ref 0), (1, .int v1), (2, .int v2)]) (st' := [.ref 0]) (x' := x12) hok hT bk_M_string_106_1_ok rfl ?_
                refine jm_V.callV (av := [.ref 0]) (rest := []) hok (jm_Con.mono (c_M_scan hok hrec x12) (by omega)) (jm_Inv.obj (q := ("FilterReaderModel", T_M, 22)) dd_M_string_107 (Or.inl lk_M_122) mn_M_scan ms_M_scan mw_M_scan mh_M_scan ml_M_scan rfl rfl) mw_M_scan mi_M (Nat.le_of_ble_eq_true rfl) (Nat.le_of_ble_eq_true rfl) (fun x13 => ?_)
                refine jm_V.run (is := bk_M_string_110_1) (pc' := 111) (ls' := [(4, .int (v4 + 1)), (3, .int ((v3 + 1) + 1)), (5, .int b9), (0, .ref 0), (1, .int v1), (2, .int v2)]) (st' := [.ref 0]) (x' := x13) hok hT bk_M_string_110_1_ok rfl ?_
                refine jm_V.callV (av := [.ref 0]) (rest := []) hok (jm_Con.mono (hrec 0 [.ref 0] x13) (by omega)) (jm_Inv.obj (q := ("FilterReaderModel", T_M, 22)) dd_M_string_111 (Or.inl lk_M_125) mn_M_program ms_M_program mw_M_program mh_M_program ml_M_program rfl rfl) mw_M_program mi_M (Nat.le_of_ble_eq_true rfl) (Nat.le_of_ble_eq_true rfl) (fun x14 => ?_)
                refine jm_V.run (is := bk_M_string_114_4) (pc' := (if (x14.1 11) = 17 then 132 else 123)) (ls' := [(4, .int (v4 + 1)), (3, .int ((v3 + 1) + 1)), (5, .int b9), (0, .ref 0), (1, .int v1), (2, .int v2)]) (st' := []) (x' := x14) hok hT bk_M_string_114_4_ok rfl ?_
                refine jm_V.ite (fun _ => ?_) (fun _ => ?_)
                · refine jm_V.run (is := bk_M_string_132_4) (pc' := 239) (ls' := [(3, .int (x14.1 10)), (4, .int (v4 + 1)), (5, .int b9), (0, .ref 0), (1, .int v1), (2, .int v2)]) (st' := []) (x' := x14) hok hT bk_M_string_132_4_ok rfl ?_
                  refine jm_V.sub (ls' := [(0, .ref 0), (1, .int v1), (2, .int v2), (3, .int (x14.1 10)), (4, .int (v4 + 1))]) [3, 4, 5, 0, 1] rfl ?_
                  exact jj_M_string_239 hok hrec hself v1 v2 (x14.1 10) (v4 + 1) x14
                · refine jm_V.run (is := bk_M_string_123_3) (pc' := 128) (ls' := [(4, .int (v4 + 1)), (3, .int ((v3 + 1) + 1)), (5, .int b9), (0, .ref 0), (1, .int v1), (2, .int v2)]) (st' := [.int (x14.1 9), .ref 0]) (x' := x14) hok hT bk_M_string_123_3_ok rfl ?_
                  refine jm_V.callA (av := [.ref 0, .int (x14.1 9)]) (rest := []) hok (jm_Con.mono (c_M_bad hok hrec (x14.1 9) x14) (by omega)) (jm_Inv.obj (q := ("FilterReaderModel", T_M, 22)) dd_M_string_128 (Or.inl lk_M_134) mn_M_bad ms_M_bad mw_M_bad mh_M_bad ml_M_bad rfl rfl) mw_M_bad mi_M (Nat.le_of_ble_eq_true rfl) (Nat.le_of_ble_eq_true rfl) (fun b16 x15 => ?_)
                  exact jm_V.athrowS (o := 2) (q := ("java/lang/IllegalStateException", T_X, 0)) rfl rfl dd_M_string_131
            · refine jm_V.run (is := bk_M_string_140_3) (pc' := (if b9 = 117 then 147 else 217)) (ls' := [(3, .int ((v3 + 1) + 1)), (5, .int b9), (0, .ref 0), (1, .int v1), (2, .int v2), (4, .int v4)]) (st' := []) (x' := x8) hok hT bk_M_string_140_3_ok rfl ?_
              refine jm_V.ite (fun _ => ?_) (fun _ => ?_)
              · refine jm_V.run (is := bk_M_string_147_4) (pc' := 153) (ls' := [(7, .int 0), (6, .int 0), (3, .int ((v3 + 1) + 1)), (5, .int b9), (0, .ref 0), (1, .int v1), (2, .int v2), (4, .int v4)]) (st' := []) (x' := x8) hok hT bk_M_string_147_4_ok rfl ?_
                refine jm_V.sub (ls' := [(0, .ref 0), (1, .int v1), (2, .int v2), (3, .int ((v3 + 1) + 1)), (4, .int v4), (6, .int 0), (7, .int 0)]) [4, 5, 6, 2, 7, 1, 0] rfl ?_
                exact jl_M_string_153 hok hrec hself K v1 v2 ((v3 + 1) + 1) v4 0 0 x8
              · refine jm_V.run (is := bk_M_string_217_2) (pc' := (if b9 < 0 then 233 else 222)) (ls' := [(3, .int ((v3 + 1) + 1)), (5, .int b9), (0, .ref 0), (1, .int v1), (2, .int v2), (4, .int v4)]) (st' := []) (x' := x8) hok hT bk_M_string_217_2_ok rfl ?_
                refine jm_V.ite (fun _ => ?_) (fun _ => ?_)
                · refine jm_V.sub (ls' := [(0, .ref 0), (2, .int v2)]) [2, 4] rfl ?_
                  exact jj_M_string_233 hok hrec v2 x8
                · refine jm_V.ldsw (o := 2021) (tx := "\"\\/bfnrt") (cs_str (i := 21) rfl) dd_M_string_222 ?_
                  refine jm_V.run (is := bk_M_string_225_1) (pc' := 227) (ls' := [(3, .int ((v3 + 1) + 1)), (5, .int b9), (0, .ref 0), (1, .int v1), (2, .int v2), (4, .int v4)]) (st' := [.int b9, .ref 2021]) (x' := x8) hok hT bk_M_string_225_1_ok rfl ?_
                  refine jm_V.guard (fun hg => ?_)
                  refine jm_V.callI (av := [.ref 2021, .int b9]) (rest := []) hok (jm_Con.mono (c_JS_indexOf_i (d0 := d0) hok hrec 2021 b9 x8) (by omega)) (iv_str hok hg dd_M_string_227 lk_M_298 mn_JS_indexOf_i ms_JS_indexOf_i mw_JS_indexOf_i mh_JS_indexOf_i ml_JS_indexOf_i) mw_JS_indexOf_i mi_JS (Nat.le_of_ble_eq_true rfl) (Nat.le_of_ble_eq_true rfl) (fun b18 x17 => ?_)
                  refine jm_V.run (is := bk_M_string_230_1) (pc' := (if 0 ≤ b18 then 239 else 233)) (ls' := [(3, .int ((v3 + 1) + 1)), (5, .int b9), (0, .ref 0), (1, .int v1), (2, .int v2), (4, .int v4)]) (st' := []) (x' := x17) hok hT bk_M_string_230_1_ok rfl ?_
                  refine jm_V.ite (fun _ => ?_) (fun _ => ?_)
                  · refine jm_V.sub (ls' := [(0, .ref 0), (1, .int v1), (2, .int v2), (3, .int ((v3 + 1) + 1)), (4, .int v4)]) [2, 3, 4, 0, 5] rfl ?_
                    exact jj_M_string_239 hok hrec hself v1 v2 ((v3 + 1) + 1) v4 x17
                  · refine jm_V.sub (ls' := [(0, .ref 0), (2, .int v2)]) [2, 4] rfl ?_
                    exact jj_M_string_233 hok hrec v2 x17
          · refine jm_V.run (is := bk_M_string_68_1) (pc' := 13) (ls' := [(3, .int (v3 + 1)), (5, .int b7), (0, .ref 0), (1, .int v1), (2, .int v2), (4, .int v4)]) (st' := []) (x' := x6) hok hT bk_M_string_68_1_ok rfl ?_
            refine jm_V.sub (ls' := [(0, .ref 0), (1, .int v1), (2, .int v2), (3, .int (v3 + 1)), (4, .int v4)]) [2, 3, 4, 0, 5] rfl ?_
            exact hself v1 v2 (v3 + 1) v4 x6
        · refine jm_V.sub (ls' := [(0, .ref 0), (2, .int v2)]) [1, 3] rfl ?_
          exact jj_M_string_52 hok hrec v2 x6
theorem jl_M_string_13 {l : Launch} {D : va_G} {ad : Nat → Nat} {aC : Nat → ClassId} {b0 : Nat} {K d0 : Nat} {g : jm_Rec} (hok : jm_Ok (jm_PP l D clR ad aC shR b0 0)) (hrec : ∀ (t : Nat) (av : List Value) (x : jm_X), jm_Con (jm_PP l D clR ad aC shR b0 0) (rcR t) d0 av x (g t av x)) : ∀ (k : Nat) (v1 : Int32) (v2 : Int32) (v3 : Int32) (v4 : Int32) (x : jm_X), jm_V (jm_PP l D clR ad aC shR b0 0) mt_M_string (d0 + 5) 13 [(0, .ref 0), (1, .int v1), (2, .int v2), (3, .int v3), (4, .int v4)] [] x (L_M_string_13 K g k v1 v2 v3 v4 x)
  | 0, _, _, _, _, _ => jm_V.stuck
  | k + 1, v1, v2, v3, v4, x => jb_M_string_13 hok hrec (fun v1 v2 v3 v4 x => jl_M_string_13 hok hrec k v1 v2 v3 v4 x) v1 v2 v3 v4 x
def f_M_string (K : Nat) (g : jm_Rec) (a1 : Int32) (x : jm_X) : Option jm_R := L_M_string_13 K g K a1 (x.1 9) (x.1 10) 0 x
set_option maxRecDepth 100000 in
set_option maxHeartbeats 4000000 in
theorem c_M_string {l : Launch} {D : va_G} {ad : Nat → Nat} {aC : Nat → ClassId} {b0 : Nat} {K d0 : Nat} {g : jm_Rec} (hok : jm_Ok (jm_PP l D clR ad aC shR b0 0)) (hrec : ∀ (t : Nat) (av : List Value) (x : jm_X), jm_Con (jm_PP l D clR ad aC shR b0 0) (rcR t) d0 av x (g t av x)) (a1 : Int32) (x : jm_X) : jm_Con (jm_PP l D clR ad aC shR b0 0) mt_M_string (d0 + 5) [.ref 0, .int a1] x (f_M_string K g a1 x) := by
  refine jm_Con.of (plainFor_of_name (by decide +kernel)) (Nat.le_of_ble_eq_true rfl) ?_
  have hT := tk_M (l := l) (D := D) (ad := ad) (aC := aC) (b0 := b0)
  unfold f_M_string
  show jm_V _ _ _ 0 [(0, .ref 0), (1, .int a1)] [] x _
  refine jm_V.run (is := bk_M_string_0_8) (pc' := 13) (ls' := [(4, .int 0), (3, .int (x.1 10)), (2, .int (x.1 9)), (0, .ref 0), (1, .int a1)]) (st' := []) (x' := x) hok hT bk_M_string_0_8_ok rfl ?_
  refine jm_V.sub (ls' := [(0, .ref 0), (1, .int a1), (2, .int (x.1 9)), (3, .int (x.1 10)), (4, .int 0)]) [3, 4, 2, 1, 0] rfl ?_
  exact jl_M_string_13 hok hrec K a1 (x.1 9) (x.1 10) 0 x
abbrev bk_M_behindTerm_0_4 : List (Nat × Instr × Nat) := [(0, .aload_n 0, 1), (1, .getfield 128, 3), (4, .iconst 2, 1), (5, .if_icmp .ne 9, 3)]
theorem bk_M_behindTerm_0_4_ok : jm_at mt_M_behindTerm.2.1 bk_M_behindTerm_0_4 = true := by decide +kernel
abbrev bk_M_behindTerm_8_1 : List (Nat × Instr × Nat) := [(8, .aload_n 0, 1)]
theorem bk_M_behindTerm_8_1_ok : jm_at mt_M_behindTerm.2.1 bk_M_behindTerm_8_1 = true := by decide +kernel
abbrev bk_M_behindTerm_12_1 : List (Nat × Instr × Nat) := [(12, .iconst 1, 1)]
theorem bk_M_behindTerm_12_1_ok : jm_at mt_M_behindTerm.2.1 bk_M_behindTerm_12_1 = true := by decide +kernel
abbrev bk_M_behindTerm_14_4 : List (Nat × Instr × Nat) := [(14, .aload_n 0, 1), (15, .getfield 128, 3), (18, .bipush 24, 2), (20, .if_icmp .ne 19, 3)]
theorem bk_M_behindTerm_14_4_ok : jm_at mt_M_behindTerm.2.1 bk_M_behindTerm_14_4 = true := by decide +kernel
abbrev bk_M_behindTerm_23_4 : List (Nat × Instr × Nat) := [(23, .aload_n 0, 1), (24, .getfield 76, 3), (27, .iconst 5, 1), (28, .dup2, 1)]
theorem bk_M_behindTerm_23_4_ok : jm_at mt_M_behindTerm.2.1 bk_M_behindTerm_23_4 = true := by decide +kernel
abbrev bk_M_behindTerm_30_2 : List (Nat × Instr × Nat) := [(30, .iconst 1, 1), (31, .iadd, 1)]
theorem bk_M_behindTerm_30_2_ok : jm_at mt_M_behindTerm.2.1 bk_M_behindTerm_30_2 = true := by decide +kernel
abbrev bk_M_behindTerm_33_1 : List (Nat × Instr × Nat) := [(33, .aload_n 0, 1)]
theorem bk_M_behindTerm_33_1_ok : jm_at mt_M_behindTerm.2.1 bk_M_behindTerm_33_1 = true := by decide +kernel
abbrev bk_M_behindTerm_37_1 : List (Nat × Instr × Nat) := [(37, .iconst 1, 1)]
theorem bk_M_behindTerm_37_1_ok : jm_at mt_M_behindTerm.2.1 bk_M_behindTerm_37_1 = true := by decide +kernel
abbrev bk_M_behindTerm_39_2 : List (Nat × Instr × Nat) := [(39, .aload_n 0, 1), (40, .bipush 14, 2)]
theorem bk_M_behindTerm_39_2_ok : jm_at mt_M_behindTerm.2.1 bk_M_behindTerm_39_2 = true := by decide +kernel
abbrev bk_M_behindTerm_45_3 : List (Nat × Instr × Nat) := [(45, .istore_n 1, 1), (46, .iload_n 1, 1), (47, .ifCond .eq 28, 3)]
theorem bk_M_behindTerm_45_3_ok : jm_at mt_M_behindTerm.2.1 bk_M_behindTerm_45_3 = true := by decide +kernel
abbrev bk_M_behindTerm_50_4 : List (Nat × Instr × Nat) := [(50, .aload_n 0, 1), (51, .getfield 128, 3), (54, .iconst 5, 1), (55, .if_icmp .ne 20, 3)]
theorem bk_M_behindTerm_50_4_ok : jm_at mt_M_behindTerm.2.1 bk_M_behindTerm_50_4 = true := by decide +kernel
abbrev bk_M_behindTerm_58_4 : List (Nat × Instr × Nat) := [(58, .aload_n 0, 1), (59, .getfield 76, 3), (62, .iconst 2, 1), (63, .dup2, 1)]
theorem bk_M_behindTerm_58_4_ok : jm_at mt_M_behindTerm.2.1 bk_M_behindTerm_58_4 = true := by decide +kernel
abbrev bk_M_behindTerm_65_2 : List (Nat × Instr × Nat) := [(65, .iconst 1, 1), (66, .iadd, 1)]
theorem bk_M_behindTerm_65_2_ok : jm_at mt_M_behindTerm.2.1 bk_M_behindTerm_65_2 = true := by decide +kernel
abbrev bk_M_behindTerm_68_2 : List (Nat × Instr × Nat) := [(68, .aload_n 0, 1), (69, .iconst 1, 1)]
theorem bk_M_behindTerm_68_2_ok : jm_at mt_M_behindTerm.2.1 bk_M_behindTerm_68_2 = true := by decide +kernel
abbrev bk_M_behindTerm_73_1 : List (Nat × Instr × Nat) := [(73, .iconst 1, 1)]
theorem bk_M_behindTerm_73_1_ok : jm_at mt_M_behindTerm.2.1 bk_M_behindTerm_73_1 = true := by decide +kernel
abbrev bk_M_behindTerm_75_4 : List (Nat × Instr × Nat) := [(75, .aload_n 0, 1), (76, .getfield 128, 3), (79, .bipush 18, 2), (81, .if_icmp .eq 18, 3)]
theorem bk_M_behindTerm_75_4_ok : jm_at mt_M_behindTerm.2.1 bk_M_behindTerm_75_4 = true := by decide +kernel
abbrev bk_M_behindTerm_99_1 : List (Nat × Instr × Nat) := [(99, .aload_n 0, 1)]
theorem bk_M_behindTerm_99_1_ok : jm_at mt_M_behindTerm.2.1 bk_M_behindTerm_99_1 = true := by decide +kernel
abbrev bk_M_behindTerm_103_2 : List (Nat × Instr × Nat) := [(103, .aload_n 0, 1), (104, .bipush 19, 2)]
theorem bk_M_behindTerm_103_2_ok : jm_at mt_M_behindTerm.2.1 bk_M_behindTerm_103_2 = true := by decide +kernel
abbrev bk_M_behindTerm_109_1 : List (Nat × Instr × Nat) := [(109, .ifCond .eq 15, 3)]
theorem bk_M_behindTerm_109_1_ok : jm_at mt_M_behindTerm.2.1 bk_M_behindTerm_109_1 = true := by decide +kernel
abbrev bk_M_behindTerm_124_4 : List (Nat × Instr × Nat) := [(124, .aload_n 0, 1), (125, .getfield 128, 3), (128, .bipush 22, 2), (130, .if_icmp .eq 7, 3)]
theorem bk_M_behindTerm_124_4_ok : jm_at mt_M_behindTerm.2.1 bk_M_behindTerm_124_4 = true := by decide +kernel
abbrev bk_M_behindTerm_137_1 : List (Nat × Instr × Nat) := [(137, .iconst 0, 1)]
theorem bk_M_behindTerm_137_1_ok : jm_at mt_M_behindTerm.2.1 bk_M_behindTerm_137_1 = true := by decide +kernel
abbrev bk_M_behindTerm_133_2 : List (Nat × Instr × Nat) := [(133, .iconst 1, 1), (134, .goto 4, 3)]
theorem bk_M_behindTerm_133_2_ok : jm_at mt_M_behindTerm.2.1 bk_M_behindTerm_133_2 = true := by decide +kernel
abbrev bk_M_behindTerm_112_4 : List (Nat × Instr × Nat) := [(112, .aload_n 0, 1), (113, .getfield 76, 3), (116, .iconst 4, 1), (117, .dup2, 1)]
theorem bk_M_behindTerm_112_4_ok : jm_at mt_M_behindTerm.2.1 bk_M_behindTerm_112_4 = true := by decide +kernel
abbrev bk_M_behindTerm_119_2 : List (Nat × Instr × Nat) := [(119, .iconst 1, 1), (120, .iadd, 1)]
theorem bk_M_behindTerm_119_2_ok : jm_at mt_M_behindTerm.2.1 bk_M_behindTerm_119_2 = true := by decide +kernel
abbrev bk_M_behindTerm_122_1 : List (Nat × Instr × Nat) := [(122, .iconst 1, 1)]
theorem bk_M_behindTerm_122_1_ok : jm_at mt_M_behindTerm.2.1 bk_M_behindTerm_122_1 = true := by decide +kernel
abbrev bk_M_behindTerm_84_2 : List (Nat × Instr × Nat) := [(84, .iload_n 1, 1), (85, .ifCond .eq 12, 3)]
theorem bk_M_behindTerm_84_2_ok : jm_at mt_M_behindTerm.2.1 bk_M_behindTerm_84_2 = true := by decide +kernel
abbrev bk_M_behindTerm_97_1 : List (Nat × Instr × Nat) := [(97, .iconst 0, 1)]
theorem bk_M_behindTerm_97_1_ok : jm_at mt_M_behindTerm.2.1 bk_M_behindTerm_97_1 = true := by decide +kernel
abbrev bk_M_behindTerm_88_3 : List (Nat × Instr × Nat) := [(88, .aload_n 0, 1), (89, .aload_n 0, 1), (90, .getfield 131, 3)]
theorem bk_M_behindTerm_88_3_ok : jm_at mt_M_behindTerm.2.1 bk_M_behindTerm_88_3 = true := by decide +kernel
abbrev bk_M_behindTerm_138_3 : List (Nat × Instr × Nat) := [(138, .istore_n 2, 1), (139, .iload_n 2, 1), (140, .ifCond .eq 7, 3)]
theorem bk_M_behindTerm_138_3_ok : jm_at mt_M_behindTerm.2.1 bk_M_behindTerm_138_3 = true := by decide +kernel
abbrev bk_M_behindTerm_143_1 : List (Nat × Instr × Nat) := [(143, .aload_n 0, 1)]
theorem bk_M_behindTerm_143_1_ok : jm_at mt_M_behindTerm.2.1 bk_M_behindTerm_143_1 = true := by decide +kernel
abbrev bk_M_behindTerm_147_2 : List (Nat × Instr × Nat) := [(147, .aload_n 0, 1), (148, .bipush 22, 2)]
theorem bk_M_behindTerm_147_2_ok : jm_at mt_M_behindTerm.2.1 bk_M_behindTerm_147_2 = true := by decide +kernel
abbrev bk_M_behindTerm_153_1 : List (Nat × Instr × Nat) := [(153, .ifCond .eq 33, 3)]
theorem bk_M_behindTerm_153_1_ok : jm_at mt_M_behindTerm.2.1 bk_M_behindTerm_153_1 = true := by decide +kernel
abbrev bk_M_behindTerm_186_4 : List (Nat × Instr × Nat) := [(186, .aload_n 0, 1), (187, .getfield 76, 3), (190, .iconst 2, 1), (191, .dup2, 1)]
theorem bk_M_behindTerm_186_4_ok : jm_at mt_M_behindTerm.2.1 bk_M_behindTerm_186_4 = true := by decide +kernel
abbrev bk_M_behindTerm_193_2 : List (Nat × Instr × Nat) := [(193, .iconst 1, 1), (194, .iadd, 1)]
theorem bk_M_behindTerm_193_2_ok : jm_at mt_M_behindTerm.2.1 bk_M_behindTerm_193_2 = true := by decide +kernel
abbrev bk_M_behindTerm_156_4 : List (Nat × Instr × Nat) := [(156, .aload_n 0, 1), (157, .getfield 76, 3), (160, .iconst 3, 1), (161, .dup2, 1)]
theorem bk_M_behindTerm_156_4_ok : jm_at mt_M_behindTerm.2.1 bk_M_behindTerm_156_4 = true := by decide +kernel
abbrev bk_M_behindTerm_163_2 : List (Nat × Instr × Nat) := [(163, .iconst 1, 1), (164, .iadd, 1)]
theorem bk_M_behindTerm_163_2_ok : jm_at mt_M_behindTerm.2.1 bk_M_behindTerm_163_2 = true := by decide +kernel
abbrev bk_M_behindTerm_166_2 : List (Nat × Instr × Nat) := [(166, .iload_n 2, 1), (167, .ifCond .eq 12, 3)]
theorem bk_M_behindTerm_166_2_ok : jm_at mt_M_behindTerm.2.1 bk_M_behindTerm_166_2 = true := by decide +kernel
abbrev bk_M_behindTerm_170_4 : List (Nat × Instr × Nat) := [(170, .aload_n 0, 1), (171, .getfield 128, 3), (174, .bipush 19, 2), (176, .if_icmp .eq 20, 3)]
theorem bk_M_behindTerm_170_4_ok : jm_at mt_M_behindTerm.2.1 bk_M_behindTerm_170_4 = true := by decide +kernel
abbrev bk_M_behindTerm_179_1 : List (Nat × Instr × Nat) := [(179, .aload_n 0, 1)]
theorem bk_M_behindTerm_179_1_ok : jm_at mt_M_behindTerm.2.1 bk_M_behindTerm_179_1 = true := by decide +kernel
abbrev bk_M_behindTerm_183_1 : List (Nat × Instr × Nat) := [(183, .goto 13, 3)]
theorem bk_M_behindTerm_183_1_ok : jm_at mt_M_behindTerm.2.1 bk_M_behindTerm_183_1 = true := by decide +kernel
abbrev bk_M_behindTerm_196_2 : List (Nat × Instr × Nat) := [(196, .aload_n 0, 1), (197, .bipush 19, 2)]
theorem bk_M_behindTerm_196_2_ok : jm_at mt_M_behindTerm.2.1 bk_M_behindTerm_196_2 = true := by decide +kernel
abbrev bk_M_behindTerm_202_1 : List (Nat × Instr × Nat) := [(202, .iconst 1, 1)]
theorem bk_M_behindTerm_202_1_ok : jm_at mt_M_behindTerm.2.1 bk_M_behindTerm_202_1 = true := by decide +kernel
theorem dd_M_behindTerm_9 : decode mt_M_behindTerm.2.1 9 = .ok (.invokevirtual 254, 3) := by decide +kernel
theorem dd_M_behindTerm_13 : decode mt_M_behindTerm.2.1 13 = .ok (.ireturn, 1) := by decide +kernel
theorem dd_M_behindTerm_34 : decode mt_M_behindTerm.2.1 34 = .ok (.invokevirtual 122, 3) := by decide +kernel
theorem dd_M_behindTerm_38 : decode mt_M_behindTerm.2.1 38 = .ok (.ireturn, 1) := by decide +kernel
theorem dd_M_behindTerm_32 : decode mt_M_behindTerm.2.1 32 = .ok (.iastore, 1) := by decide +kernel
theorem dd_M_behindTerm_29 : decode mt_M_behindTerm.2.1 29 = .ok (.iaload, 1) := by decide +kernel
theorem dd_M_behindTerm_42 : decode mt_M_behindTerm.2.1 42 = .ok (.invokevirtual 184, 3) := by decide +kernel
theorem dd_M_behindTerm_70 : decode mt_M_behindTerm.2.1 70 = .ok (.invokevirtual 250, 3) := by decide +kernel
theorem dd_M_behindTerm_74 : decode mt_M_behindTerm.2.1 74 = .ok (.ireturn, 1) := by decide +kernel
theorem dd_M_behindTerm_67 : decode mt_M_behindTerm.2.1 67 = .ok (.iastore, 1) := by decide +kernel
theorem dd_M_behindTerm_64 : decode mt_M_behindTerm.2.1 64 = .ok (.iaload, 1) := by decide +kernel
theorem dd_M_behindTerm_100 : decode mt_M_behindTerm.2.1 100 = .ok (.invokevirtual 122, 3) := by decide +kernel
theorem dd_M_behindTerm_106 : decode mt_M_behindTerm.2.1 106 = .ok (.invokevirtual 184, 3) := by decide +kernel
theorem dd_M_behindTerm_123 : decode mt_M_behindTerm.2.1 123 = .ok (.ireturn, 1) := by decide +kernel
theorem dd_M_behindTerm_121 : decode mt_M_behindTerm.2.1 121 = .ok (.iastore, 1) := by decide +kernel
theorem dd_M_behindTerm_118 : decode mt_M_behindTerm.2.1 118 = .ok (.iaload, 1) := by decide +kernel
theorem dd_M_behindTerm_98 : decode mt_M_behindTerm.2.1 98 = .ok (.ireturn, 1) := by decide +kernel
theorem dd_M_behindTerm_93 : decode mt_M_behindTerm.2.1 93 = .ok (.invokevirtual 134, 3) := by decide +kernel
theorem dd_M_behindTerm_96 : decode mt_M_behindTerm.2.1 96 = .ok (.athrow, 1) := by decide +kernel
theorem dd_M_behindTerm_144 : decode mt_M_behindTerm.2.1 144 = .ok (.invokevirtual 125, 3) := by decide +kernel
theorem dd_M_behindTerm_150 : decode mt_M_behindTerm.2.1 150 = .ok (.invokevirtual 184, 3) := by decide +kernel
theorem dd_M_behindTerm_195 : decode mt_M_behindTerm.2.1 195 = .ok (.iastore, 1) := by decide +kernel
theorem dd_M_behindTerm_192 : decode mt_M_behindTerm.2.1 192 = .ok (.iaload, 1) := by decide +kernel
theorem dd_M_behindTerm_165 : decode mt_M_behindTerm.2.1 165 = .ok (.iastore, 1) := by decide +kernel
theorem dd_M_behindTerm_162 : decode mt_M_behindTerm.2.1 162 = .ok (.iaload, 1) := by decide +kernel
theorem dd_M_behindTerm_180 : decode mt_M_behindTerm.2.1 180 = .ok (.invokevirtual 125, 3) := by decide +kernel
theorem dd_M_behindTerm_199 : decode mt_M_behindTerm.2.1 199 = .ok (.invokevirtual 199, 3) := by decide +kernel
theorem dd_M_behindTerm_203 : decode mt_M_behindTerm.2.1 203 = .ok (.ireturn, 1) := by decide +kernel
def J_M_behindTerm_196 (K : Nat) (g : jm_Rec)  (x : jm_X) : Option jm_R := jm_bV (f_M_need_i K g 19 x) (fun x20 => some (.inl (some (.int 1), x20)))
set_option maxRecDepth 100000 in
set_option maxHeartbeats 4000000 in
theorem jj_M_behindTerm_196 {l : Launch} {D : va_G} {ad : Nat → Nat} {aC : Nat → ClassId} {b0 : Nat} {K d0 : Nat} {g : jm_Rec} (hok : jm_Ok (jm_PP l D clR ad aC shR b0 0)) (hrec : ∀ (t : Nat) (av : List Value) (x : jm_X), jm_Con (jm_PP l D clR ad aC shR b0 0) (rcR t) d0 av x (g t av x))  (x : jm_X) : jm_V (jm_PP l D clR ad aC shR b0 0) mt_M_behindTerm (d0 + 6) 196 [(0, .ref 0)] [] x (J_M_behindTerm_196 K g  x) := by
  have hT := tk_M (l := l) (D := D) (ad := ad) (aC := aC) (b0 := b0)
  unfold J_M_behindTerm_196
  refine jm_V.run (is := bk_M_behindTerm_196_2) (pc' := 199) (ls' := [(0, .ref 0)]) (st' := [.int 19, .ref 0]) (x' := x) hok hT bk_M_behindTerm_196_2_ok rfl ?_
  refine jm_V.callV (av := [.ref 0, .int 19]) (rest := []) hok (jm_Con.mono (c_M_need_i hok hrec 19 x) (by omega)) (jm_Inv.obj (q := ("FilterReaderModel", T_M, 22)) dd_M_behindTerm_199 (Or.inl lk_M_199) mn_M_need_i ms_M_need_i mw_M_need_i mh_M_need_i ml_M_need_i rfl rfl) mw_M_need_i mi_M (Nat.le_of_ble_eq_true rfl) (Nat.le_of_ble_eq_true rfl) (fun x20 => ?_)
  refine jm_V.run (is := bk_M_behindTerm_202_1) (pc' := 203) (ls' := [(0, .ref 0)]) (st' := [.int 1]) (x' := x20) hok hT bk_M_behindTerm_202_1_ok rfl ?_
  exact jm_V.nret (t := .boolean) rfl rfl dd_M_behindTerm_203
def J_M_behindTerm_179 (K : Nat) (g : jm_Rec)  (x : jm_X) : Option jm_R := jm_bV (g 0 [.ref 0] x) (fun x19 => J_M_behindTerm_196 K g x19)
set_option maxRecDepth 100000 in
set_option maxHeartbeats 4000000 in
theorem jj_M_behindTerm_179 {l : Launch} {D : va_G} {ad : Nat → Nat} {aC : Nat → ClassId} {b0 : Nat} {K d0 : Nat} {g : jm_Rec} (hok : jm_Ok (jm_PP l D clR ad aC shR b0 0)) (hrec : ∀ (t : Nat) (av : List Value) (x : jm_X), jm_Con (jm_PP l D clR ad aC shR b0 0) (rcR t) d0 av x (g t av x))  (x : jm_X) : jm_V (jm_PP l D clR ad aC shR b0 0) mt_M_behindTerm (d0 + 6) 179 [(0, .ref 0)] [] x (J_M_behindTerm_179 K g  x) := by
  have hT := tk_M (l := l) (D := D) (ad := ad) (aC := aC) (b0 := b0)
  unfold J_M_behindTerm_179
  refine jm_V.run (is := bk_M_behindTerm_179_1) (pc' := 180) (ls' := [(0, .ref 0)]) (st' := [.ref 0]) (x' := x) hok hT bk_M_behindTerm_179_1_ok rfl ?_
  refine jm_V.callV (av := [.ref 0]) (rest := []) hok (jm_Con.mono (hrec 0 [.ref 0] x) (by omega)) (jm_Inv.obj (q := ("FilterReaderModel", T_M, 22)) dd_M_behindTerm_180 (Or.inl lk_M_125) mn_M_program ms_M_program mw_M_program mh_M_program ml_M_program rfl rfl) mw_M_program mi_M (Nat.le_of_ble_eq_true rfl) (Nat.le_of_ble_eq_true rfl) (fun x19 => ?_)
  refine jm_V.run (is := bk_M_behindTerm_183_1) (pc' := 196) (ls' := [(0, .ref 0)]) (st' := []) (x' := x19) hok hT bk_M_behindTerm_183_1_ok rfl ?_
  exact jj_M_behindTerm_196 hok hrec x19
def J_M_behindTerm_147 (K : Nat) (g : jm_Rec) (v2 : Int32) (x : jm_X) : Option jm_R := jm_bI (f_M_skip_i K g 22 x) (fun b16 x15 => (if b16 = 0 then (if jm_in shR 4 .int 2 then (if jm_in shR 4 .int 2 then jm_then (jm_ua x15 4 2 ((x15.2.2 4 (Int32.toNatClampNeg 2)) + 1)) (fun x17 => J_M_behindTerm_196 K g x17) else none) else none) else (if jm_in shR 4 .int 3 then (if jm_in shR 4 .int 3 then jm_then (jm_ua x15 4 3 ((x15.2.2 4 (Int32.toNatClampNeg 3)) + 1)) (fun x18 => (if v2 = 0 then J_M_behindTerm_179 K g x18 else (if (x18.1 11) = 19 then J_M_behindTerm_196 K g x18 else J_M_behindTerm_179 K g x18))) else none) else none)))
set_option maxRecDepth 100000 in
set_option maxHeartbeats 4000000 in
theorem jj_M_behindTerm_147 {l : Launch} {D : va_G} {ad : Nat → Nat} {aC : Nat → ClassId} {b0 : Nat} {K d0 : Nat} {g : jm_Rec} (hok : jm_Ok (jm_PP l D clR ad aC shR b0 0)) (hrec : ∀ (t : Nat) (av : List Value) (x : jm_X), jm_Con (jm_PP l D clR ad aC shR b0 0) (rcR t) d0 av x (g t av x)) (v2 : Int32) (x : jm_X) : jm_V (jm_PP l D clR ad aC shR b0 0) mt_M_behindTerm (d0 + 6) 147 [(0, .ref 0), (2, .int v2)] [] x (J_M_behindTerm_147 K g v2 x) := by
  have hT := tk_M (l := l) (D := D) (ad := ad) (aC := aC) (b0 := b0)
  unfold J_M_behindTerm_147
  refine jm_V.run (is := bk_M_behindTerm_147_2) (pc' := 150) (ls' := [(0, .ref 0), (2, .int v2)]) (st' := [.int 22, .ref 0]) (x' := x) hok hT bk_M_behindTerm_147_2_ok rfl ?_
  refine jm_V.callI (av := [.ref 0, .int 22]) (rest := []) hok (jm_Con.mono (c_M_skip_i hok hrec 22 x) (by omega)) (jm_Inv.obj (q := ("FilterReaderModel", T_M, 22)) dd_M_behindTerm_150 (Or.inl lk_M_184) mn_M_skip_i ms_M_skip_i mw_M_skip_i mh_M_skip_i ml_M_skip_i rfl rfl) mw_M_skip_i mi_M (Nat.le_of_ble_eq_true rfl) (Nat.le_of_ble_eq_true rfl) (fun b16 x15 => ?_)
  refine jm_V.run (is := bk_M_behindTerm_153_1) (pc' := (if b16 = 0 then 186 else 156)) (ls' := [(0, .ref 0), (2, .int v2)]) (st' := []) (x' := x15) hok hT bk_M_behindTerm_153_1_ok rfl ?_
  refine jm_V.ite (fun _ => ?_) (fun _ => ?_)
  · refine jm_V.run (is := bk_M_behindTerm_186_4) (pc' := 192) (ls' := [(0, .ref 0), (2, .int v2)]) (st' := [.int 2, .ref 4, .int 2, .ref 4]) (x' := x15) hok hT bk_M_behindTerm_186_4_ok rfl ?_
    refine jm_V.iald dd_M_behindTerm_192 ?_
    refine jm_V.run (is := bk_M_behindTerm_193_2) (pc' := 195) (ls' := [(0, .ref 0), (2, .int v2)]) (st' := [.int ((x15.2.2 4 (Int32.toNatClampNeg 2)) + 1), .int 2, .ref 4]) (x' := x15) hok hT bk_M_behindTerm_193_2_ok rfl ?_
    refine jm_V.iast hok dd_M_behindTerm_195 ?_
    refine jm_V.then_ (fun x17 => ?_)
    refine jm_V.sub (ls' := [(0, .ref 0)]) [0] rfl ?_
    exact jj_M_behindTerm_196 hok hrec x17
  · refine jm_V.run (is := bk_M_behindTerm_156_4) (pc' := 162) (ls' := [(0, .ref 0), (2, .int v2)]) (st' := [.int 3, .ref 4, .int 3, .ref 4]) (x' := x15) hok hT bk_M_behindTerm_156_4_ok rfl ?_
    refine jm_V.iald dd_M_behindTerm_162 ?_
    refine jm_V.run (is := bk_M_behindTerm_163_2) (pc' := 165) (ls' := [(0, .ref 0), (2, .int v2)]) (st' := [.int ((x15.2.2 4 (Int32.toNatClampNeg 3)) + 1), .int 3, .ref 4]) (x' := x15) hok hT bk_M_behindTerm_163_2_ok rfl ?_
    refine jm_V.iast hok dd_M_behindTerm_165 ?_
    refine jm_V.then_ (fun x18 => ?_)
    refine jm_V.run (is := bk_M_behindTerm_166_2) (pc' := (if v2 = 0 then 179 else 170)) (ls' := [(0, .ref 0), (2, .int v2)]) (st' := []) (x' := x18) hok hT bk_M_behindTerm_166_2_ok rfl ?_
    refine jm_V.ite (fun _ => ?_) (fun _ => ?_)
    · refine jm_V.sub (ls' := [(0, .ref 0)]) [0] rfl ?_
      exact jj_M_behindTerm_179 hok hrec x18
    · refine jm_V.run (is := bk_M_behindTerm_170_4) (pc' := (if (x18.1 11) = 19 then 196 else 179)) (ls' := [(0, .ref 0), (2, .int v2)]) (st' := []) (x' := x18) hok hT bk_M_behindTerm_170_4_ok rfl ?_
      refine jm_V.ite (fun _ => ?_) (fun _ => ?_)
      · refine jm_V.sub (ls' := [(0, .ref 0)]) [0] rfl ?_
        exact jj_M_behindTerm_196 hok hrec x18
      · refine jm_V.sub (ls' := [(0, .ref 0)]) [0] rfl ?_
        exact jj_M_behindTerm_179 hok hrec x18
def J_M_behindTerm_138 (K : Nat) (g : jm_Rec) (s0 : Int32) (x : jm_X) : Option jm_R := (if s0 = 0 then J_M_behindTerm_147 K g s0 x else jm_bV (g 0 [.ref 0] x) (fun x14 => J_M_behindTerm_147 K g s0 x14))
set_option maxRecDepth 100000 in
set_option maxHeartbeats 4000000 in
theorem jj_M_behindTerm_138 {l : Launch} {D : va_G} {ad : Nat → Nat} {aC : Nat → ClassId} {b0 : Nat} {K d0 : Nat} {g : jm_Rec} (hok : jm_Ok (jm_PP l D clR ad aC shR b0 0)) (hrec : ∀ (t : Nat) (av : List Value) (x : jm_X), jm_Con (jm_PP l D clR ad aC shR b0 0) (rcR t) d0 av x (g t av x)) (s0 : Int32) (x : jm_X) : jm_V (jm_PP l D clR ad aC shR b0 0) mt_M_behindTerm (d0 + 6) 138 [(0, .ref 0)] [.int s0] x (J_M_behindTerm_138 K g s0 x) := by
  have hT := tk_M (l := l) (D := D) (ad := ad) (aC := aC) (b0 := b0)
  unfold J_M_behindTerm_138
  refine jm_V.run (is := bk_M_behindTerm_138_3) (pc' := (if s0 = 0 then 147 else 143)) (ls' := [(2, .int s0), (0, .ref 0)]) (st' := []) (x' := x) hok hT bk_M_behindTerm_138_3_ok rfl ?_
  refine jm_V.ite (fun _ => ?_) (fun _ => ?_)
  · refine jm_V.sub (ls' := [(0, .ref 0), (2, .int s0)]) [1, 0] rfl ?_
    exact jj_M_behindTerm_147 hok hrec s0 x
  · refine jm_V.run (is := bk_M_behindTerm_143_1) (pc' := 144) (ls' := [(2, .int s0), (0, .ref 0)]) (st' := [.ref 0]) (x' := x) hok hT bk_M_behindTerm_143_1_ok rfl ?_
    refine jm_V.callV (av := [.ref 0]) (rest := []) hok (jm_Con.mono (hrec 0 [.ref 0] x) (by omega)) (jm_Inv.obj (q := ("FilterReaderModel", T_M, 22)) dd_M_behindTerm_144 (Or.inl lk_M_125) mn_M_program ms_M_program mw_M_program mh_M_program ml_M_program rfl rfl) mw_M_program mi_M (Nat.le_of_ble_eq_true rfl) (Nat.le_of_ble_eq_true rfl) (fun x14 => ?_)
    refine jm_V.sub (ls' := [(0, .ref 0), (2, .int s0)]) [1, 0] rfl ?_
    exact jj_M_behindTerm_147 hok hrec s0 x14
def J_M_behindTerm_75 (K : Nat) (g : jm_Rec) (v1 : Int32) (x : jm_X) : Option jm_R := (if (x.1 11) = 18 then jm_bV (f_M_scan K g x) (fun x8 => jm_bI (f_M_skip_i K g 19 x8) (fun b10 x9 => (if b10 = 0 then (if (x9.1 11) = 22 then J_M_behindTerm_138 K g 0 x9 else J_M_behindTerm_138 K g 1 x9) else (if jm_in shR 4 .int 4 then (if jm_in shR 4 .int 4 then jm_then (jm_ua x9 4 4 ((x9.2.2 4 (Int32.toNatClampNeg 4)) + 1)) (fun x11 => some (.inl (some (.int 1), x11))) else none) else none)))) else (if v1 = 0 then some (.inl (some (.int 0), x)) else jm_bA (f_M_bad K g (x.1 9) x) (fun b13 x12 => (if b13 = 2 then some (.inr ("java/lang/IllegalStateException", x12)) else none))))
set_option maxRecDepth 100000 in
set_option maxHeartbeats 4000000 in
theorem jj_M_behindTerm_75 {l : Launch} {D : va_G} {ad : Nat → Nat} {aC : Nat → ClassId} {b0 : Nat} {K d0 : Nat} {g : jm_Rec} (hok : jm_Ok (jm_PP l D clR ad aC shR b0 0)) (hrec : ∀ (t : Nat) (av : List Value) (x : jm_X), jm_Con (jm_PP l D clR ad aC shR b0 0) (rcR t) d0 av x (g t av x)) (v1 : Int32) (x : jm_X) : jm_V (jm_PP l D clR ad aC shR b0 0) mt_M_behindTerm (d0 + 6) 75 [(0, .ref 0), (1, .int v1)] [] x (J_M_behindTerm_75 K g v1 x) := by
  have hT := tk_M (l := l) (D := D) (ad := ad) (aC := aC) (b0 := b0)
  unfold J_M_behindTerm_75
  refine jm_V.run (is := bk_M_behindTerm_75_4) (pc' := (if (x.1 11) = 18 then 99 else 84)) (ls' := [(0, .ref 0), (1, .int v1)]) (st' := []) (x' := x) hok hT bk_M_behindTerm_75_4_ok rfl ?_
  refine jm_V.ite (fun _ => ?_) (fun _ => ?_)
  · refine jm_V.run (is := bk_M_behindTerm_99_1) (pc' := 100) (ls' := [(0, .ref 0), (1, .int v1)]) (st' := [.ref 0]) (x' := x) hok hT bk_M_behindTerm_99_1_ok rfl ?_
    refine jm_V.callV (av := [.ref 0]) (rest := []) hok (jm_Con.mono (c_M_scan hok hrec x) (by omega)) (jm_Inv.obj (q := ("FilterReaderModel", T_M, 22)) dd_M_behindTerm_100 (Or.inl lk_M_122) mn_M_scan ms_M_scan mw_M_scan mh_M_scan ml_M_scan rfl rfl) mw_M_scan mi_M (Nat.le_of_ble_eq_true rfl) (Nat.le_of_ble_eq_true rfl) (fun x8 => ?_)
    refine jm_V.run (is := bk_M_behindTerm_103_2) (pc' := 106) (ls' := [(0, .ref 0), (1, .int v1)]) (st' := [.int 19, .ref 0]) (x' := x8) hok hT bk_M_behindTerm_103_2_ok rfl ?_
    refine jm_V.callI (av := [.ref 0, .int 19]) (rest := []) hok (jm_Con.mono (c_M_skip_i hok hrec 19 x8) (by omega)) (jm_Inv.obj (q := ("FilterReaderModel", T_M, 22)) dd_M_behindTerm_106 (Or.inl lk_M_184) mn_M_skip_i ms_M_skip_i mw_M_skip_i mh_M_skip_i ml_M_skip_i rfl rfl) mw_M_skip_i mi_M (Nat.le_of_ble_eq_true rfl) (Nat.le_of_ble_eq_true rfl) (fun b10 x9 => ?_)
    refine jm_V.run (is := bk_M_behindTerm_109_1) (pc' := (if b10 = 0 then 124 else 112)) (ls' := [(0, .ref 0), (1, .int v1)]) (st' := []) (x' := x9) hok hT bk_M_behindTerm_109_1_ok rfl ?_
    refine jm_V.ite (fun _ => ?_) (fun _ => ?_)
    · refine jm_V.run (is := bk_M_behindTerm_124_4) (pc' := (if (x9.1 11) = 22 then 137 else 133)) (ls' := [(0, .ref 0), (1, .int v1)]) (st' := []) (x' := x9) hok hT bk_M_behindTerm_124_4_ok rfl ?_
      refine jm_V.ite (fun _ => ?_) (fun _ => ?_)
      · refine jm_V.run (is := bk_M_behindTerm_137_1) (pc' := 138) (ls' := [(0, .ref 0), (1, .int v1)]) (st' := [.int 0]) (x' := x9) hok hT bk_M_behindTerm_137_1_ok rfl ?_
        refine jm_V.sub (ls' := [(0, .ref 0)]) [0] rfl ?_
        exact jj_M_behindTerm_138 hok hrec 0 x9
      · refine jm_V.run (is := bk_M_behindTerm_133_2) (pc' := 138) (ls' := [(0, .ref 0), (1, .int v1)]) (st' := [.int 1]) (x' := x9) hok hT bk_M_behindTerm_133_2_ok rfl ?_
        refine jm_V.sub (ls' := [(0, .ref 0)]) [0] rfl ?_
        exact jj_M_behindTerm_138 hok hrec 1 x9
    · refine jm_V.run (is := bk_M_behindTerm_112_4) (pc' := 118) (ls' := [(0, .ref 0), (1, .int v1)]) (st' := [.int 4, .ref 4, .int 4, .ref 4]) (x' := x9) hok hT bk_M_behindTerm_112_4_ok rfl ?_
      refine jm_V.iald dd_M_behindTerm_118 ?_
      refine jm_V.run (is := bk_M_behindTerm_119_2) (pc' := 121) (ls' := [(0, .ref 0), (1, .int v1)]) (st' := [.int ((x9.2.2 4 (Int32.toNatClampNeg 4)) + 1), .int 4, .ref 4]) (x' := x9) hok hT bk_M_behindTerm_119_2_ok rfl ?_
      refine jm_V.iast hok dd_M_behindTerm_121 ?_
      refine jm_V.then_ (fun x11 => ?_)
      refine jm_V.run (is := bk_M_behindTerm_122_1) (pc' := 123) (ls' := [(0, .ref 0), (1, .int v1)]) (st' := [.int 1]) (x' := x11) hok hT bk_M_behindTerm_122_1_ok rfl ?_
      exact jm_V.nret (t := .boolean) rfl rfl dd_M_behindTerm_123
  · refine jm_V.run (is := bk_M_behindTerm_84_2) (pc' := (if v1 = 0 then 97 else 88)) (ls' := [(0, .ref 0), (1, .int v1)]) (st' := []) (x' := x) hok hT bk_M_behindTerm_84_2_ok rfl ?_
    refine jm_V.ite (fun _ => ?_) (fun _ => ?_)
    · refine jm_V.run (is := bk_M_behindTerm_97_1) (pc' := 98) (ls' := [(0, .ref 0), (1, .int v1)]) (st' := [.int 0]) (x' := x) hok hT bk_M_behindTerm_97_1_ok rfl ?_
      exact jm_V.nret (t := .boolean) rfl rfl dd_M_behindTerm_98
    · refine jm_V.run (is := bk_M_behindTerm_88_3) (pc' := 93) (ls' := [(0, .ref 0), (1, .int v1)]) (st' := [.int (x.1 9), .ref 0]) (x' := x) hok hT bk_M_behindTerm_88_3_ok rfl ?_
      refine jm_V.callA (av := [.ref 0, .int (x.1 9)]) (rest := []) hok (jm_Con.mono (c_M_bad hok hrec (x.1 9) x) (by omega)) (jm_Inv.obj (q := ("FilterReaderModel", T_M, 22)) dd_M_behindTerm_93 (Or.inl lk_M_134) mn_M_bad ms_M_bad mw_M_bad mh_M_bad ml_M_bad rfl rfl) mw_M_bad mi_M (Nat.le_of_ble_eq_true rfl) (Nat.le_of_ble_eq_true rfl) (fun b13 x12 => ?_)
      exact jm_V.athrowS (o := 2) (q := ("java/lang/IllegalStateException", T_X, 0)) rfl rfl dd_M_behindTerm_96
def f_M_behindTerm (K : Nat) (g : jm_Rec)  (x : jm_X) : Option jm_R := (if (x.1 11) = 2 then jm_bV (f_M_field K g x) (fun x1 => some (.inl (some (.int 1), x1))) else (if (x.1 11) = 24 then (if jm_in shR 4 .int 5 then (if jm_in shR 4 .int 5 then jm_then (jm_ua x 4 5 ((x.2.2 4 (Int32.toNatClampNeg 5)) + 1)) (fun x2 => jm_bV (f_M_scan K g x2) (fun x3 => some (.inl (some (.int 1), x3)))) else none) else none) else jm_bI (f_M_skip_i K g 14 x) (fun b5 x4 => (if b5 = 0 then J_M_behindTerm_75 K g b5 x4 else (if (x4.1 11) = 5 then (if jm_in shR 4 .int 2 then (if jm_in shR 4 .int 2 then jm_then (jm_ua x4 4 2 ((x4.2.2 4 (Int32.toNatClampNeg 2)) + 1)) (fun x6 => jm_bV (f_M_string K g 1 x6) (fun x7 => some (.inl (some (.int 1), x7)))) else none) else none) else J_M_behindTerm_75 K g b5 x4)))))
set_option maxRecDepth 100000 in
set_option maxHeartbeats 4000000 in
theorem c_M_behindTerm {l : Launch} {D : va_G} {ad : Nat → Nat} {aC : Nat → ClassId} {b0 : Nat} {K d0 : Nat} {g : jm_Rec} (hok : jm_Ok (jm_PP l D clR ad aC shR b0 0)) (hrec : ∀ (t : Nat) (av : List Value) (x : jm_X), jm_Con (jm_PP l D clR ad aC shR b0 0) (rcR t) d0 av x (g t av x))  (x : jm_X) : jm_Con (jm_PP l D clR ad aC shR b0 0) mt_M_behindTerm (d0 + 6) [.ref 0] x (f_M_behindTerm K g  x) := by
  refine jm_Con.of (plainFor_of_name (by decide +kernel)) (Nat.le_of_ble_eq_true rfl) ?_
  have hT := tk_M (l := l) (D := D) (ad := ad) (aC := aC) (b0 := b0)
  unfold f_M_behindTerm
  show jm_V _ _ _ 0 [(0, .ref 0)] [] x _
  refine jm_V.run (is := bk_M_behindTerm_0_4) (pc' := (if (x.1 11) = 2 then 8 else 14)) (ls' := [(0, .ref 0)]) (st' := []) (x' := x) hok hT bk_M_behindTerm_0_4_ok rfl ?_
  refine jm_V.ite (fun _ => ?_) (fun _ => ?_)
  · refine jm_V.run (is := bk_M_behindTerm_8_1) (pc' := 9) (ls' := [(0, .ref 0)]) (st' := [.ref 0]) (x' := x) hok hT bk_M_behindTerm_8_1_ok rfl ?_
    refine jm_V.callV (av := [.ref 0]) (rest := []) hok (jm_Con.mono (c_M_field hok hrec x) (by omega)) (jm_Inv.obj (q := ("FilterReaderModel", T_M, 22)) dd_M_behindTerm_9 (Or.inl lk_M_254) mn_M_field ms_M_field mw_M_field mh_M_field ml_M_field rfl rfl) mw_M_field mi_M (Nat.le_of_ble_eq_true rfl) (Nat.le_of_ble_eq_true rfl) (fun x1 => ?_)
    refine jm_V.run (is := bk_M_behindTerm_12_1) (pc' := 13) (ls' := [(0, .ref 0)]) (st' := [.int 1]) (x' := x1) hok hT bk_M_behindTerm_12_1_ok rfl ?_
    exact jm_V.nret (t := .boolean) rfl rfl dd_M_behindTerm_13
  · refine jm_V.run (is := bk_M_behindTerm_14_4) (pc' := (if (x.1 11) = 24 then 23 else 39)) (ls' := [(0, .ref 0)]) (st' := []) (x' := x) hok hT bk_M_behindTerm_14_4_ok rfl ?_
    refine jm_V.ite (fun _ => ?_) (fun _ => ?_)
    · refine jm_V.run (is := bk_M_behindTerm_23_4) (pc' := 29) (ls' := [(0, .ref 0)]) (st' := [.int 5, .ref 4, .int 5, .ref 4]) (x' := x) hok hT bk_M_behindTerm_23_4_ok rfl ?_
      refine jm_V.iald dd_M_behindTerm_29 ?_
      refine jm_V.run (is := bk_M_behindTerm_30_2) (pc' := 32) (ls' := [(0, .ref 0)]) (st' := [.int ((x.2.2 4 (Int32.toNatClampNeg 5)) + 1), .int 5, .ref 4]) (x' := x) hok hT bk_M_behindTerm_30_2_ok rfl ?_
      refine jm_V.iast hok dd_M_behindTerm_32 ?_
      refine jm_V.then_ (fun x2 => ?_)
      refine jm_V.run (is := bk_M_behindTerm_33_1) (pc' := 34) (ls' := [(0, .ref 0)]) (st' := [.ref 0]) (x' := x2) hok hT bk_M_behindTerm_33_1_ok rfl ?_
      refine jm_V.callV (av := [.ref 0]) (rest := []) hok (jm_Con.mono (c_M_scan hok hrec x2) (by omega)) (jm_Inv.obj (q := ("FilterReaderModel", T_M, 22)) dd_M_behindTerm_34 (Or.inl lk_M_122) mn_M_scan ms_M_scan mw_M_scan mh_M_scan ml_M_scan rfl rfl) mw_M_scan mi_M (Nat.le_of_ble_eq_true rfl) (Nat.le_of_ble_eq_true rfl) (fun x3 => ?_)
      refine jm_V.run (is := bk_M_behindTerm_37_1) (pc' := 38) (ls' := [(0, .ref 0)]) (st' := [.int 1]) (x' := x3) hok hT bk_M_behindTerm_37_1_ok rfl ?_
      exact jm_V.nret (t := .boolean) rfl rfl dd_M_behindTerm_38
    · refine jm_V.run (is := bk_M_behindTerm_39_2) (pc' := 42) (ls' := [(0, .ref 0)]) (st' := [.int 14, .ref 0]) (x' := x) hok hT bk_M_behindTerm_39_2_ok rfl ?_
      refine jm_V.callI (av := [.ref 0, .int 14]) (rest := []) hok (jm_Con.mono (c_M_skip_i hok hrec 14 x) (by omega)) (jm_Inv.obj (q := ("FilterReaderModel", T_M, 22)) dd_M_behindTerm_42 (Or.inl lk_M_184) mn_M_skip_i ms_M_skip_i mw_M_skip_i mh_M_skip_i ml_M_skip_i rfl rfl) mw_M_skip_i mi_M (Nat.le_of_ble_eq_true rfl) (Nat.le_of_ble_eq_true rfl) (fun b5 x4 => ?_)
      refine jm_V.run (is := bk_M_behindTerm_45_3) (pc' := (if b5 = 0 then 75 else 50)) (ls' := [(1, .int b5), (0, .ref 0)]) (st' := []) (x' := x4) hok hT bk_M_behindTerm_45_3_ok rfl ?_
      refine jm_V.ite (fun _ => ?_) (fun _ => ?_)
      · refine jm_V.sub (ls' := [(0, .ref 0), (1, .int b5)]) [1, 0] rfl ?_
        exact jj_M_behindTerm_75 hok hrec b5 x4
      · refine jm_V.run (is := bk_M_behindTerm_50_4) (pc' := (if (x4.1 11) = 5 then 58 else 75)) (ls' := [(1, .int b5), (0, .ref 0)]) (st' := []) (x' := x4) hok hT bk_M_behindTerm_50_4_ok rfl ?_
        refine jm_V.ite (fun _ => ?_) (fun _ => ?_)
        · refine jm_V.run (is := bk_M_behindTerm_58_4) (pc' := 64) (ls' := [(1, .int b5), (0, .ref 0)]) (st' := [.int 2, .ref 4, .int 2, .ref 4]) (x' := x4) hok hT bk_M_behindTerm_58_4_ok rfl ?_
          refine jm_V.iald dd_M_behindTerm_64 ?_
          refine jm_V.run (is := bk_M_behindTerm_65_2) (pc' := 67) (ls' := [(1, .int b5), (0, .ref 0)]) (st' := [.int ((x4.2.2 4 (Int32.toNatClampNeg 2)) + 1), .int 2, .ref 4]) (x' := x4) hok hT bk_M_behindTerm_65_2_ok rfl ?_
          refine jm_V.iast hok dd_M_behindTerm_67 ?_
          refine jm_V.then_ (fun x6 => ?_)
          refine jm_V.run (is := bk_M_behindTerm_68_2) (pc' := 70) (ls' := [(1, .int b5), (0, .ref 0)]) (st' := [.int 1, .ref 0]) (x' := x6) hok hT bk_M_behindTerm_68_2_ok rfl ?_
          refine jm_V.callV (av := [.ref 0, .int 1]) (rest := []) hok (jm_Con.mono (c_M_string hok hrec 1 x6) (by omega)) (jm_Inv.obj (q := ("FilterReaderModel", T_M, 22)) dd_M_behindTerm_70 (Or.inl lk_M_250) mn_M_string ms_M_string mw_M_string mh_M_string ml_M_string rfl rfl) mw_M_string mi_M (Nat.le_of_ble_eq_true rfl) (Nat.le_of_ble_eq_true rfl) (fun x7 => ?_)
          refine jm_V.run (is := bk_M_behindTerm_73_1) (pc' := 74) (ls' := [(1, .int b5), (0, .ref 0)]) (st' := [.int 1]) (x' := x7) hok hT bk_M_behindTerm_73_1_ok rfl ?_
          exact jm_V.nret (t := .boolean) rfl rfl dd_M_behindTerm_74
        · refine jm_V.sub (ls' := [(0, .ref 0), (1, .int b5)]) [1, 0] rfl ?_
          exact jj_M_behindTerm_75 hok hrec b5 x4
abbrev bk_M_sameName_0_3 : List (Nat × Instr × Nat) := [(0, .aload_n 0, 1), (1, .getfield 86, 3), (4, .iload_n 1, 1)]
theorem bk_M_sameName_0_3_ok : jm_at mt_M_sameName.2.1 bk_M_sameName_0_3 = true := by decide +kernel
abbrev bk_M_sameName_6_2 : List (Nat × Instr × Nat) := [(6, .iload_n 3, 1), (7, .if_icmp .eq 5, 3)]
theorem bk_M_sameName_6_2_ok : jm_at mt_M_sameName.2.1 bk_M_sameName_6_2 = true := by decide +kernel
abbrev bk_M_sameName_12_2 : List (Nat × Instr × Nat) := [(12, .iconst 0, 1), (13, .istore 4, 2)]
theorem bk_M_sameName_12_2_ok : jm_at mt_M_sameName.2.1 bk_M_sameName_12_2 = true := by decide +kernel
abbrev bk_M_sameName_10_1 : List (Nat × Instr × Nat) := [(10, .iconst 0, 1)]
theorem bk_M_sameName_10_1_ok : jm_at mt_M_sameName.2.1 bk_M_sameName_10_1 = true := by decide +kernel
abbrev bk_M_sameName_15_3 : List (Nat × Instr × Nat) := [(15, .iload 4, 2), (17, .iload_n 3, 1), (18, .if_icmp .ge 37, 3)]
theorem bk_M_sameName_15_3_ok : jm_at mt_M_sameName.2.1 bk_M_sameName_15_3 = true := by decide +kernel
abbrev bk_M_sameName_55_1 : List (Nat × Instr × Nat) := [(55, .iconst 1, 1)]
theorem bk_M_sameName_55_1_ok : jm_at mt_M_sameName.2.1 bk_M_sameName_55_1 = true := by decide +kernel
abbrev bk_M_sameName_21_5 : List (Nat × Instr × Nat) := [(21, .aload_n 0, 1), (22, .getfield 72, 3), (25, .aload_n 0, 1), (26, .getfield 83, 3), (29, .iload_n 1, 1)]
theorem bk_M_sameName_21_5_ok : jm_at mt_M_sameName.2.1 bk_M_sameName_21_5 = true := by decide +kernel
abbrev bk_M_sameName_31_2 : List (Nat × Instr × Nat) := [(31, .iload 4, 2), (33, .iadd, 1)]
theorem bk_M_sameName_31_2_ok : jm_at mt_M_sameName.2.1 bk_M_sameName_31_2 = true := by decide +kernel
abbrev bk_M_sameName_35_5 : List (Nat × Instr × Nat) := [(35, .aload_n 0, 1), (36, .getfield 72, 3), (39, .iload_n 2, 1), (40, .iload 4, 2), (42, .iadd, 1)]
theorem bk_M_sameName_35_5_ok : jm_at mt_M_sameName.2.1 bk_M_sameName_35_5 = true := by decide +kernel
abbrev bk_M_sameName_44_1 : List (Nat × Instr × Nat) := [(44, .if_icmp .eq 5, 3)]
theorem bk_M_sameName_44_1_ok : jm_at mt_M_sameName.2.1 bk_M_sameName_44_1 = true := by decide +kernel
abbrev bk_M_sameName_49_2 : List (Nat × Instr × Nat) := [(49, .iinc 4 1, 3), (52, .goto (-37), 3)]
theorem bk_M_sameName_49_2_ok : jm_at mt_M_sameName.2.1 bk_M_sameName_49_2 = true := by decide +kernel
abbrev bk_M_sameName_47_1 : List (Nat × Instr × Nat) := [(47, .iconst 0, 1)]
theorem bk_M_sameName_47_1_ok : jm_at mt_M_sameName.2.1 bk_M_sameName_47_1 = true := by decide +kernel
theorem dd_M_sameName_11 : decode mt_M_sameName.2.1 11 = .ok (.ireturn, 1) := by decide +kernel
theorem dd_M_sameName_5 : decode mt_M_sameName.2.1 5 = .ok (.iaload, 1) := by decide +kernel
theorem dd_M_sameName_56 : decode mt_M_sameName.2.1 56 = .ok (.ireturn, 1) := by decide +kernel
theorem dd_M_sameName_48 : decode mt_M_sameName.2.1 48 = .ok (.ireturn, 1) := by decide +kernel
theorem dd_M_sameName_43 : decode mt_M_sameName.2.1 43 = .ok (.baload, 1) := by decide +kernel
theorem dd_M_sameName_34 : decode mt_M_sameName.2.1 34 = .ok (.baload, 1) := by decide +kernel
theorem dd_M_sameName_30 : decode mt_M_sameName.2.1 30 = .ok (.iaload, 1) := by decide +kernel
def B_M_sameName_15 (K : Nat) (g : jm_Rec) (self : Int32 → Int32 → Int32 → Int32 → jm_X → Option jm_R) (v1 : Int32) (v2 : Int32) (v3 : Int32) (v4 : Int32) (x : jm_X) : Option jm_R := (if v3 ≤ v4 then some (.inl (some (.int 1), x)) else (if jm_in shR 6 .int v1 then (if jm_in shR 3 .byte ((x.2.2 6 (Int32.toNatClampNeg v1)) + v4) then (if jm_in shR 3 .byte (v2 + v4) then (if (x.2.2 3 (Int32.toNatClampNeg ((x.2.2 6 (Int32.toNatClampNeg v1)) + v4))) = (x.2.2 3 (Int32.toNatClampNeg (v2 + v4))) then self v1 v2 v3 (v4 + 1) x else some (.inl (some (.int 0), x))) else none) else none) else none))
def L_M_sameName_15 (K : Nat) (g : jm_Rec) : Nat → Int32 → Int32 → Int32 → Int32 → jm_X → Option jm_R
  | 0, _, _, _, _, _ => none
  | k + 1, v1, v2, v3, v4, x => B_M_sameName_15 K g (L_M_sameName_15 K g k) v1 v2 v3 v4 x
set_option maxRecDepth 100000 in
set_option maxHeartbeats 4000000 in
theorem jb_M_sameName_15 {l : Launch} {D : va_G} {ad : Nat → Nat} {aC : Nat → ClassId} {b0 : Nat} {K d0 : Nat} {g : jm_Rec} (hok : jm_Ok (jm_PP l D clR ad aC shR b0 0)) (hrec : ∀ (t : Nat) (av : List Value) (x : jm_X), jm_Con (jm_PP l D clR ad aC shR b0 0) (rcR t) d0 av x (g t av x)) {self : Int32 → Int32 → Int32 → Int32 → jm_X → Option jm_R} (hself : ∀ (v1 : Int32) (v2 : Int32) (v3 : Int32) (v4 : Int32) (x : jm_X), jm_V (jm_PP l D clR ad aC shR b0 0) mt_M_sameName (d0 + 1) 15 [(0, .ref 0), (1, .int v1), (2, .int v2), (3, .int v3), (4, .int v4)] [] x (self v1 v2 v3 v4 x)) (v1 : Int32) (v2 : Int32) (v3 : Int32) (v4 : Int32) (x : jm_X) : jm_V (jm_PP l D clR ad aC shR b0 0) mt_M_sameName (d0 + 1) 15 [(0, .ref 0), (1, .int v1), (2, .int v2), (3, .int v3), (4, .int v4)] [] x (B_M_sameName_15 K g self v1 v2 v3 v4 x) := by
  have hT := tk_M (l := l) (D := D) (ad := ad) (aC := aC) (b0 := b0)
  unfold B_M_sameName_15
  refine jm_V.run (is := bk_M_sameName_15_3) (pc' := (if v3 ≤ v4 then 55 else 21)) (ls' := [(0, .ref 0), (1, .int v1), (2, .int v2), (3, .int v3), (4, .int v4)]) (st' := []) (x' := x) hok hT bk_M_sameName_15_3_ok rfl ?_
  refine jm_V.ite (fun _ => ?_) (fun _ => ?_)
  · refine jm_V.run (is := bk_M_sameName_55_1) (pc' := 56) (ls' := [(0, .ref 0), (1, .int v1), (2, .int v2), (3, .int v3), (4, .int v4)]) (st' := [.int 1]) (x' := x) hok hT bk_M_sameName_55_1_ok rfl ?_
    exact jm_V.nret (t := .boolean) rfl rfl dd_M_sameName_56
  · refine jm_V.run (is := bk_M_sameName_21_5) (pc' := 30) (ls' := [(0, .ref 0), (1, .int v1), (2, .int v2), (3, .int v3), (4, .int v4)]) (st' := [.int v1, .ref 6, .ref 3]) (x' := x) hok hT bk_M_sameName_21_5_ok rfl ?_
    refine jm_V.iald dd_M_sameName_30 ?_
    refine jm_V.run (is := bk_M_sameName_31_2) (pc' := 34) (ls' := [(0, .ref 0), (1, .int v1), (2, .int v2), (3, .int v3), (4, .int v4)]) (st' := [.int ((x.2.2 6 (Int32.toNatClampNeg v1)) + v4), .ref 3]) (x' := x) hok hT bk_M_sameName_31_2_ok rfl ?_
    refine jm_V.bald dd_M_sameName_34 ?_
    refine jm_V.run (is := bk_M_sameName_35_5) (pc' := 43) (ls' := [(0, .ref 0), (1, .int v1), (2, .int v2), (3, .int v3), (4, .int v4)]) (st' := [.int (v2 + v4), .ref 3, .int (x.2.2 3 (Int32.toNatClampNeg ((x.2.2 6 (Int32.toNatClampNeg v1)) + v4)))]) (x' := x) hok hT bk_M_sameName_35_5_ok rfl ?_
    refine jm_V.bald dd_M_sameName_43 ?_
    refine jm_V.run (is := bk_M_sameName_44_1) (pc' := (if (x.2.2 3 (Int32.toNatClampNeg ((x.2.2 6 (Int32.toNatClampNeg v1)) + v4))) = (x.2.2 3 (Int32.toNatClampNeg (v2 + v4))) then 49 else 47)) (ls' := [(0, .ref 0), (1, .int v1), (2, .int v2), (3, .int v3), (4, .int v4)]) (st' := []) (x' := x) hok hT bk_M_sameName_44_1_ok rfl ?_
    refine jm_V.ite (fun _ => ?_) (fun _ => ?_)
    · refine jm_V.run (is := bk_M_sameName_49_2) (pc' := 15) (ls' := [(4, .int (v4 + 1)), (0, .ref 0), (1, .int v1), (2, .int v2), (3, .int v3)]) (st' := []) (x' := x) hok hT bk_M_sameName_49_2_ok rfl ?_
      refine jm_V.sub (ls' := [(0, .ref 0), (1, .int v1), (2, .int v2), (3, .int v3), (4, .int (v4 + 1))]) [1, 2, 3, 4, 0] rfl ?_
      exact hself v1 v2 v3 (v4 + 1) x
    · refine jm_V.run (is := bk_M_sameName_47_1) (pc' := 48) (ls' := [(0, .ref 0), (1, .int v1), (2, .int v2), (3, .int v3), (4, .int v4)]) (st' := [.int 0]) (x' := x) hok hT bk_M_sameName_47_1_ok rfl ?_
      exact jm_V.nret (t := .boolean) rfl rfl dd_M_sameName_48
theorem jl_M_sameName_15 {l : Launch} {D : va_G} {ad : Nat → Nat} {aC : Nat → ClassId} {b0 : Nat} {K d0 : Nat} {g : jm_Rec} (hok : jm_Ok (jm_PP l D clR ad aC shR b0 0)) (hrec : ∀ (t : Nat) (av : List Value) (x : jm_X), jm_Con (jm_PP l D clR ad aC shR b0 0) (rcR t) d0 av x (g t av x)) : ∀ (k : Nat) (v1 : Int32) (v2 : Int32) (v3 : Int32) (v4 : Int32) (x : jm_X), jm_V (jm_PP l D clR ad aC shR b0 0) mt_M_sameName (d0 + 1) 15 [(0, .ref 0), (1, .int v1), (2, .int v2), (3, .int v3), (4, .int v4)] [] x (L_M_sameName_15 K g k v1 v2 v3 v4 x)
  | 0, _, _, _, _, _ => jm_V.stuck
  | k + 1, v1, v2, v3, v4, x => jb_M_sameName_15 hok hrec (fun v1 v2 v3 v4 x => jl_M_sameName_15 hok hrec k v1 v2 v3 v4 x) v1 v2 v3 v4 x
def f_M_sameName (K : Nat) (g : jm_Rec) (a1 : Int32) (a2 : Int32) (a3 : Int32) (x : jm_X) : Option jm_R := (if jm_in shR 7 .int a1 then (if (x.2.2 7 (Int32.toNatClampNeg a1)) = a3 then L_M_sameName_15 K g K a1 a2 a3 0 x else some (.inl (some (.int 0), x))) else none)
set_option maxRecDepth 100000 in
set_option maxHeartbeats 4000000 in
theorem c_M_sameName {l : Launch} {D : va_G} {ad : Nat → Nat} {aC : Nat → ClassId} {b0 : Nat} {K d0 : Nat} {g : jm_Rec} (hok : jm_Ok (jm_PP l D clR ad aC shR b0 0)) (hrec : ∀ (t : Nat) (av : List Value) (x : jm_X), jm_Con (jm_PP l D clR ad aC shR b0 0) (rcR t) d0 av x (g t av x)) (a1 : Int32) (a2 : Int32) (a3 : Int32) (x : jm_X) : jm_Con (jm_PP l D clR ad aC shR b0 0) mt_M_sameName (d0 + 1) [.ref 0, .int a1, .int a2, .int a3] x (f_M_sameName K g a1 a2 a3 x) := by
  refine jm_Con.of (plainFor_of_name (by decide +kernel)) (Nat.le_of_ble_eq_true rfl) ?_
  have hT := tk_M (l := l) (D := D) (ad := ad) (aC := aC) (b0 := b0)
  unfold f_M_sameName
  show jm_V _ _ _ 0 [(0, .ref 0), (1, .int a1), (2, .int a2), (3, .int a3)] [] x _
  refine jm_V.run (is := bk_M_sameName_0_3) (pc' := 5) (ls' := [(0, .ref 0), (1, .int a1), (2, .int a2), (3, .int a3)]) (st' := [.int a1, .ref 7]) (x' := x) hok hT bk_M_sameName_0_3_ok rfl ?_
  refine jm_V.iald dd_M_sameName_5 ?_
  refine jm_V.run (is := bk_M_sameName_6_2) (pc' := (if (x.2.2 7 (Int32.toNatClampNeg a1)) = a3 then 12 else 10)) (ls' := [(0, .ref 0), (1, .int a1), (2, .int a2), (3, .int a3)]) (st' := []) (x' := x) hok hT bk_M_sameName_6_2_ok rfl ?_
  refine jm_V.ite (fun _ => ?_) (fun _ => ?_)
  · refine jm_V.run (is := bk_M_sameName_12_2) (pc' := 15) (ls' := [(4, .int 0), (0, .ref 0), (1, .int a1), (2, .int a2), (3, .int a3)]) (st' := []) (x' := x) hok hT bk_M_sameName_12_2_ok rfl ?_
    refine jm_V.sub (ls' := [(0, .ref 0), (1, .int a1), (2, .int a2), (3, .int a3), (4, .int 0)]) [1, 2, 3, 4, 0] rfl ?_
    exact jl_M_sameName_15 hok hrec K a1 a2 a3 0 x
  · refine jm_V.run (is := bk_M_sameName_10_1) (pc' := 11) (ls' := [(0, .ref 0), (1, .int a1), (2, .int a2), (3, .int a3)]) (st' := [.int 0]) (x' := x) hok hT bk_M_sameName_10_1_ok rfl ?_
    exact jm_V.nret (t := .boolean) rfl rfl dd_M_sameName_11
abbrev bk_M_has_0_2 : List (Nat × Instr × Nat) := [(0, .iconst 0, 1), (1, .istore 4, 2)]
theorem bk_M_has_0_2_ok : jm_at mt_M_has.2.1 bk_M_has_0_2 = true := by decide +kernel
abbrev bk_M_has_3_4 : List (Nat × Instr × Nat) := [(3, .iload 4, 2), (5, .aload_n 0, 1), (6, .getfield 113, 3), (9, .if_icmp .ge 43, 3)]
theorem bk_M_has_3_4_ok : jm_at mt_M_has.2.1 bk_M_has_3_4 = true := by decide +kernel
abbrev bk_M_has_52_1 : List (Nat × Instr × Nat) := [(52, .iconst 0, 1)]
theorem bk_M_has_52_1_ok : jm_at mt_M_has.2.1 bk_M_has_52_1 = true := by decide +kernel
abbrev bk_M_has_12_3 : List (Nat × Instr × Nat) := [(12, .aload_n 0, 1), (13, .getfield 80, 3), (16, .iload 4, 2)]
theorem bk_M_has_12_3_ok : jm_at mt_M_has.2.1 bk_M_has_12_3 = true := by decide +kernel
abbrev bk_M_has_19_2 : List (Nat × Instr × Nat) := [(19, .iload_n 1, 1), (20, .if_icmp .ne 26, 3)]
theorem bk_M_has_19_2_ok : jm_at mt_M_has.2.1 bk_M_has_19_2 = true := by decide +kernel
abbrev bk_M_has_23_3 : List (Nat × Instr × Nat) := [(23, .aload_n 0, 1), (24, .getfield 92, 3), (27, .iload 4, 2)]
theorem bk_M_has_23_3_ok : jm_at mt_M_has.2.1 bk_M_has_23_3 = true := by decide +kernel
abbrev bk_M_has_30_1 : List (Nat × Instr × Nat) := [(30, .ifCond .ne 16, 3)]
theorem bk_M_has_30_1_ok : jm_at mt_M_has.2.1 bk_M_has_30_1 = true := by decide +kernel
abbrev bk_M_has_33_4 : List (Nat × Instr × Nat) := [(33, .aload_n 0, 1), (34, .iload 4, 2), (36, .iload_n 2, 1), (37, .iload_n 3, 1)]
theorem bk_M_has_33_4_ok : jm_at mt_M_has.2.1 bk_M_has_33_4 = true := by decide +kernel
abbrev bk_M_has_41_1 : List (Nat × Instr × Nat) := [(41, .ifCond .eq 5, 3)]
theorem bk_M_has_41_1_ok : jm_at mt_M_has.2.1 bk_M_has_41_1 = true := by decide +kernel
abbrev bk_M_has_44_1 : List (Nat × Instr × Nat) := [(44, .iconst 1, 1)]
theorem bk_M_has_44_1_ok : jm_at mt_M_has.2.1 bk_M_has_44_1 = true := by decide +kernel
abbrev bk_M_has_46_2 : List (Nat × Instr × Nat) := [(46, .iinc 4 1, 3), (49, .goto (-46), 3)]
theorem bk_M_has_46_2_ok : jm_at mt_M_has.2.1 bk_M_has_46_2 = true := by decide +kernel
theorem dd_M_has_53 : decode mt_M_has.2.1 53 = .ok (.ireturn, 1) := by decide +kernel
theorem dd_M_has_38 : decode mt_M_has.2.1 38 = .ok (.invokevirtual 189, 3) := by decide +kernel
theorem dd_M_has_45 : decode mt_M_has.2.1 45 = .ok (.ireturn, 1) := by decide +kernel
theorem dd_M_has_29 : decode mt_M_has.2.1 29 = .ok (.baload, 1) := by decide +kernel
theorem dd_M_has_18 : decode mt_M_has.2.1 18 = .ok (.iaload, 1) := by decide +kernel
def J_M_has_46 (K : Nat) (g : jm_Rec) (k3 : Int32 → Int32 → Int32 → Int32 → jm_X → Option jm_R) (v1 : Int32) (v2 : Int32) (v3 : Int32) (v4 : Int32) (x : jm_X) : Option jm_R := k3 v1 v2 v3 (v4 + 1) x
set_option maxRecDepth 100000 in
set_option maxHeartbeats 4000000 in
theorem jj_M_has_46 {l : Launch} {D : va_G} {ad : Nat → Nat} {aC : Nat → ClassId} {b0 : Nat} {K d0 : Nat} {g : jm_Rec} (hok : jm_Ok (jm_PP l D clR ad aC shR b0 0)) (hrec : ∀ (t : Nat) (av : List Value) (x : jm_X), jm_Con (jm_PP l D clR ad aC shR b0 0) (rcR t) d0 av x (g t av x)) {k3 : Int32 → Int32 → Int32 → Int32 → jm_X → Option jm_R} (hk3 : ∀ (v1 : Int32) (v2 : Int32) (v3 : Int32) (v4 : Int32) (x : jm_X), jm_V (jm_PP l D clR ad aC shR b0 0) mt_M_has (d0 + 2) 3 [(0, .ref 0), (1, .int v1), (2, .int v2), (3, .int v3), (4, .int v4)] [] x (k3 v1 v2 v3 v4 x)) (v1 : Int32) (v2 : Int32) (v3 : Int32) (v4 : Int32) (x : jm_X) : jm_V (jm_PP l D clR ad aC shR b0 0) mt_M_has (d0 + 2) 46 [(0, .ref 0), (1, .int v1), (2, .int v2), (3, .int v3), (4, .int v4)] [] x (J_M_has_46 K g k3 v1 v2 v3 v4 x) := by
  have hT := tk_M (l := l) (D := D) (ad := ad) (aC := aC) (b0 := b0)
  unfold J_M_has_46
  refine jm_V.run (is := bk_M_has_46_2) (pc' := 3) (ls' := [(4, .int (v4 + 1)), (0, .ref 0), (1, .int v1), (2, .int v2), (3, .int v3)]) (st' := []) (x' := x) hok hT bk_M_has_46_2_ok rfl ?_
  refine jm_V.sub (ls' := [(0, .ref 0), (1, .int v1), (2, .int v2), (3, .int v3), (4, .int (v4 + 1))]) [1, 2, 3, 4, 0] rfl ?_
  exact hk3 v1 v2 v3 (v4 + 1) x
def B_M_has_3 (K : Nat) (g : jm_Rec) (self : Int32 → Int32 → Int32 → Int32 → jm_X → Option jm_R) (v1 : Int32) (v2 : Int32) (v3 : Int32) (v4 : Int32) (x : jm_X) : Option jm_R := (if (x.1 15) ≤ v4 then some (.inl (some (.int 0), x)) else (if jm_in shR 5 .int v4 then (if (x.2.2 5 (Int32.toNatClampNeg v4)) = v1 then (if jm_in shR 9 .boolean v4 then (if (x.2.2 9 (Int32.toNatClampNeg v4)) = 0 then jm_bI (f_M_sameName K g v4 v2 v3 x) (fun b2 x1 => (if b2 = 0 then J_M_has_46 K g self v1 v2 v3 v4 x1 else some (.inl (some (.int 1), x1)))) else J_M_has_46 K g self v1 v2 v3 v4 x) else none) else J_M_has_46 K g self v1 v2 v3 v4 x) else none))
def L_M_has_3 (K : Nat) (g : jm_Rec) : Nat → Int32 → Int32 → Int32 → Int32 → jm_X → Option jm_R
  | 0, _, _, _, _, _ => none
  | k + 1, v1, v2, v3, v4, x => B_M_has_3 K g (L_M_has_3 K g k) v1 v2 v3 v4 x
set_option maxRecDepth 100000 in
set_option maxHeartbeats 4000000 in
theorem jb_M_has_3 {l : Launch} {D : va_G} {ad : Nat → Nat} {aC : Nat → ClassId} {b0 : Nat} {K d0 : Nat} {g : jm_Rec} (hok : jm_Ok (jm_PP l D clR ad aC shR b0 0)) (hrec : ∀ (t : Nat) (av : List Value) (x : jm_X), jm_Con (jm_PP l D clR ad aC shR b0 0) (rcR t) d0 av x (g t av x)) {self : Int32 → Int32 → Int32 → Int32 → jm_X → Option jm_R} (hself : ∀ (v1 : Int32) (v2 : Int32) (v3 : Int32) (v4 : Int32) (x : jm_X), jm_V (jm_PP l D clR ad aC shR b0 0) mt_M_has (d0 + 2) 3 [(0, .ref 0), (1, .int v1), (2, .int v2), (3, .int v3), (4, .int v4)] [] x (self v1 v2 v3 v4 x)) (v1 : Int32) (v2 : Int32) (v3 : Int32) (v4 : Int32) (x : jm_X) : jm_V (jm_PP l D clR ad aC shR b0 0) mt_M_has (d0 + 2) 3 [(0, .ref 0), (1, .int v1), (2, .int v2), (3, .int v3), (4, .int v4)] [] x (B_M_has_3 K g self v1 v2 v3 v4 x) := by
  have hT := tk_M (l := l) (D := D) (ad := ad) (aC := aC) (b0 := b0)
  unfold B_M_has_3
  refine jm_V.run (is := bk_M_has_3_4) (pc' := (if (x.1 15) ≤ v4 then 52 else 12)) (ls' := [(0, .ref 0), (1, .int v1), (2, .int v2), (3, .int v3), (4, .int v4)]) (st' := []) (x' := x) hok hT bk_M_has_3_4_ok rfl ?_
  refine jm_V.ite (fun _ => ?_) (fun _ => ?_)
  · refine jm_V.run (is := bk_M_has_52_1) (pc' := 53) (ls' := [(0, .ref 0), (1, .int v1), (2, .int v2), (3, .int v3), (4, .int v4)]) (st' := [.int 0]) (x' := x) hok hT bk_M_has_52_1_ok rfl ?_
    exact jm_V.nret (t := .boolean) rfl rfl dd_M_has_53
  · refine jm_V.run (is := bk_M_has_12_3) (pc' := 18) (ls' := [(0, .ref 0), (1, .int v1), (2, .int v2), (3, .int v3), (4, .int v4)]) (st' := [.int v4, .ref 5]) (x' := x) hok hT bk_M_has_12_3_ok rfl ?_
    refine jm_V.iald dd_M_has_18 ?_
    refine jm_V.run (is := bk_M_has_19_2) (pc' := (if (x.2.2 5 (Int32.toNatClampNeg v4)) = v1 then 23 else 46)) (ls' := [(0, .ref 0), (1, .int v1), (2, .int v2), (3, .int v3), (4, .int v4)]) (st' := []) (x' := x) hok hT bk_M_has_19_2_ok rfl ?_
    refine jm_V.ite (fun _ => ?_) (fun _ => ?_)
    · refine jm_V.run (is := bk_M_has_23_3) (pc' := 29) (ls' := [(0, .ref 0), (1, .int v1), (2, .int v2), (3, .int v3), (4, .int v4)]) (st' := [.int v4, .ref 9]) (x' := x) hok hT bk_M_has_23_3_ok rfl ?_
      refine jm_V.zald dd_M_has_29 ?_
      refine jm_V.run (is := bk_M_has_30_1) (pc' := (if (x.2.2 9 (Int32.toNatClampNeg v4)) = 0 then 33 else 46)) (ls' := [(0, .ref 0), (1, .int v1), (2, .int v2), (3, .int v3), (4, .int v4)]) (st' := []) (x' := x) hok hT bk_M_has_30_1_ok rfl ?_
      refine jm_V.ite (fun _ => ?_) (fun _ => ?_)
      · refine jm_V.run (is := bk_M_has_33_4) (pc' := 38) (ls' := [(0, .ref 0), (1, .int v1), (2, .int v2), (3, .int v3), (4, .int v4)]) (st' := [.int v3, .int v2, .int v4, .ref 0]) (x' := x) hok hT bk_M_has_33_4_ok rfl ?_
        refine jm_V.callI (av := [.ref 0, .int v4, .int v2, .int v3]) (rest := []) hok (jm_Con.mono (c_M_sameName hok hrec v4 v2 v3 x) (by omega)) (jm_Inv.obj (q := ("FilterReaderModel", T_M, 22)) dd_M_has_38 (Or.inl lk_M_189) mn_M_sameName ms_M_sameName mw_M_sameName mh_M_sameName ml_M_sameName rfl rfl) mw_M_sameName mi_M (Nat.le_of_ble_eq_true rfl) (Nat.le_of_ble_eq_true rfl) (fun b2 x1 => ?_)
        refine jm_V.run (is := bk_M_has_41_1) (pc' := (if b2 = 0 then 46 else 44)) (ls' := [(0, .ref 0), (1, .int v1), (2, .int v2), (3, .int v3), (4, .int v4)]) (st' := []) (x' := x1) hok hT bk_M_has_41_1_ok rfl ?_
        refine jm_V.ite (fun _ => ?_) (fun _ => ?_)
        · exact jj_M_has_46 hok hrec hself v1 v2 v3 v4 x1
        · refine jm_V.run (is := bk_M_has_44_1) (pc' := 45) (ls' := [(0, .ref 0), (1, .int v1), (2, .int v2), (3, .int v3), (4, .int v4)]) (st' := [.int 1]) (x' := x1) hok hT bk_M_has_44_1_ok rfl ?_
          exact jm_V.nret (t := .boolean) rfl rfl dd_M_has_45
      · exact jj_M_has_46 hok hrec hself v1 v2 v3 v4 x
    · exact jj_M_has_46 hok hrec hself v1 v2 v3 v4 x
theorem jl_M_has_3 {l : Launch} {D : va_G} {ad : Nat → Nat} {aC : Nat → ClassId} {b0 : Nat} {K d0 : Nat} {g : jm_Rec} (hok : jm_Ok (jm_PP l D clR ad aC shR b0 0)) (hrec : ∀ (t : Nat) (av : List Value) (x : jm_X), jm_Con (jm_PP l D clR ad aC shR b0 0) (rcR t) d0 av x (g t av x)) : ∀ (k : Nat) (v1 : Int32) (v2 : Int32) (v3 : Int32) (v4 : Int32) (x : jm_X), jm_V (jm_PP l D clR ad aC shR b0 0) mt_M_has (d0 + 2) 3 [(0, .ref 0), (1, .int v1), (2, .int v2), (3, .int v3), (4, .int v4)] [] x (L_M_has_3 K g k v1 v2 v3 v4 x)
  | 0, _, _, _, _, _ => jm_V.stuck
  | k + 1, v1, v2, v3, v4, x => jb_M_has_3 hok hrec (fun v1 v2 v3 v4 x => jl_M_has_3 hok hrec k v1 v2 v3 v4 x) v1 v2 v3 v4 x
def f_M_has (K : Nat) (g : jm_Rec) (a1 : Int32) (a2 : Int32) (a3 : Int32) (x : jm_X) : Option jm_R := L_M_has_3 K g K a1 a2 a3 0 x
set_option maxRecDepth 100000 in
set_option maxHeartbeats 4000000 in
theorem c_M_has {l : Launch} {D : va_G} {ad : Nat → Nat} {aC : Nat → ClassId} {b0 : Nat} {K d0 : Nat} {g : jm_Rec} (hok : jm_Ok (jm_PP l D clR ad aC shR b0 0)) (hrec : ∀ (t : Nat) (av : List Value) (x : jm_X), jm_Con (jm_PP l D clR ad aC shR b0 0) (rcR t) d0 av x (g t av x)) (a1 : Int32) (a2 : Int32) (a3 : Int32) (x : jm_X) : jm_Con (jm_PP l D clR ad aC shR b0 0) mt_M_has (d0 + 2) [.ref 0, .int a1, .int a2, .int a3] x (f_M_has K g a1 a2 a3 x) := by
  refine jm_Con.of (plainFor_of_name (by decide +kernel)) (Nat.le_of_ble_eq_true rfl) ?_
  have hT := tk_M (l := l) (D := D) (ad := ad) (aC := aC) (b0 := b0)
  unfold f_M_has
  show jm_V _ _ _ 0 [(0, .ref 0), (1, .int a1), (2, .int a2), (3, .int a3)] [] x _
  refine jm_V.run (is := bk_M_has_0_2) (pc' := 3) (ls' := [(4, .int 0), (0, .ref 0), (1, .int a1), (2, .int a2), (3, .int a3)]) (st' := []) (x' := x) hok hT bk_M_has_0_2_ok rfl ?_
  refine jm_V.sub (ls' := [(0, .ref 0), (1, .int a1), (2, .int a2), (3, .int a3), (4, .int 0)]) [1, 2, 3, 4, 0] rfl ?_
  exact jl_M_has_3 hok hrec K a1 a2 a3 0 x
abbrev bk_M_isWord_0_4 : List (Nat × Instr × Nat) := [(0, .aload_n 0, 1), (1, .getfield 128, 3), (4, .iconst 1, 1), (5, .if_icmp .eq 5, 3)]
theorem bk_M_isWord_0_4_ok : jm_at mt_M_isWord.2.1 bk_M_isWord_0_4 = true := by decide +kernel
abbrev bk_M_isWord_10_4 : List (Nat × Instr × Nat) := [(10, .aload_n 0, 1), (11, .getfield 39, 3), (14, .astore_n 1, 1), (15, .aload_n 1, 1)]
theorem bk_M_isWord_10_4_ok : jm_at mt_M_isWord.2.1 bk_M_isWord_10_4 = true := by decide +kernel
abbrev bk_M_isWord_17_3 : List (Nat × Instr × Nat) := [(17, .istore_n 2, 1), (18, .iconst 0, 1), (19, .istore_n 3, 1)]
theorem bk_M_isWord_17_3_ok : jm_at mt_M_isWord.2.1 bk_M_isWord_17_3 = true := by decide +kernel
abbrev bk_M_isWord_8_1 : List (Nat × Instr × Nat) := [(8, .iconst 0, 1)]
theorem bk_M_isWord_8_1_ok : jm_at mt_M_isWord.2.1 bk_M_isWord_8_1 = true := by decide +kernel
abbrev bk_M_isWord_20_3 : List (Nat × Instr × Nat) := [(20, .iload_n 3, 1), (21, .iload_n 2, 1), (22, .if_icmp .ge 38, 3)]
theorem bk_M_isWord_20_3_ok : jm_at mt_M_isWord.2.1 bk_M_isWord_20_3 = true := by decide +kernel
abbrev bk_M_isWord_60_1 : List (Nat × Instr × Nat) := [(60, .iconst 0, 1)]
theorem bk_M_isWord_60_1_ok : jm_at mt_M_isWord.2.1 bk_M_isWord_60_1 = true := by decide +kernel
abbrev bk_M_isWord_25_2 : List (Nat × Instr × Nat) := [(25, .aload_n 1, 1), (26, .iload_n 3, 1)]
theorem bk_M_isWord_25_2_ok : jm_at mt_M_isWord.2.1 bk_M_isWord_25_2 = true := by decide +kernel
abbrev bk_M_isWord_28_10 : List (Nat × Instr × Nat) := [(28, .astore 4, 2), (30, .aload_n 0, 1), (31, .aload_n 0, 1), (32, .getfield 131, 3), (35, .aload_n 0, 1), (36, .getfield 119, 3), (39, .aload_n 0, 1), (40, .getfield 131, 3), (43, .isub, 1), (44, .aload 4, 2)]
theorem bk_M_isWord_28_10_ok : jm_at mt_M_isWord.2.1 bk_M_isWord_28_10 = true := by decide +kernel
abbrev bk_M_isWord_49_1 : List (Nat × Instr × Nat) := [(49, .ifCond .eq 5, 3)]
theorem bk_M_isWord_49_1_ok : jm_at mt_M_isWord.2.1 bk_M_isWord_49_1 = true := by decide +kernel
abbrev bk_M_isWord_54_2 : List (Nat × Instr × Nat) := [(54, .iinc 3 1, 3), (57, .goto (-37), 3)]
theorem bk_M_isWord_54_2_ok : jm_at mt_M_isWord.2.1 bk_M_isWord_54_2 = true := by decide +kernel
abbrev bk_M_isWord_52_1 : List (Nat × Instr × Nat) := [(52, .iconst 1, 1)]
theorem bk_M_isWord_52_1_ok : jm_at mt_M_isWord.2.1 bk_M_isWord_52_1 = true := by decide +kernel
theorem dd_M_isWord_16 : decode mt_M_isWord.2.1 16 = .ok (.arraylength, 1) := by decide +kernel
theorem dd_M_isWord_9 : decode mt_M_isWord.2.1 9 = .ok (.ireturn, 1) := by decide +kernel
theorem dd_M_isWord_61 : decode mt_M_isWord.2.1 61 = .ok (.ireturn, 1) := by decide +kernel
theorem dd_M_isWord_46 : decode mt_M_isWord.2.1 46 = .ok (.invokevirtual 176, 3) := by decide +kernel
theorem dd_M_isWord_53 : decode mt_M_isWord.2.1 53 = .ok (.ireturn, 1) := by decide +kernel
theorem dd_M_isWord_27 : decode mt_M_isWord.2.1 27 = .ok (.aaload, 1) := by decide +kernel
def B_M_isWord_20 (K : Nat) (g : jm_Rec) (self : Int32 → Int32 → jm_X → Option jm_R) (v2 : Int32) (v3 : Int32) (x : jm_X) : Option jm_R := (if v2 ≤ v3 then some (.inl (some (.int 0), x)) else (if jm_ix wdR.length v3 then jm_bI (f_M_spells K g (x.1 9) ((x.1 10) - (x.1 9)) (wdR.getD (Int32.toNatClampNeg v3) 0) x) (fun b2 x1 => (if b2 = 0 then self v2 (v3 + 1) x1 else some (.inl (some (.int 1), x1)))) else none))
def L_M_isWord_20 (K : Nat) (g : jm_Rec) : Nat → Int32 → Int32 → jm_X → Option jm_R
  | 0, _, _, _ => none
  | k + 1, v2, v3, x => B_M_isWord_20 K g (L_M_isWord_20 K g k) v2 v3 x
set_option maxRecDepth 100000 in
set_option maxHeartbeats 4000000 in
theorem jb_M_isWord_20 {l : Launch} {D : va_G} {ad : Nat → Nat} {aC : Nat → ClassId} {b0 : Nat} {K d0 : Nat} {g : jm_Rec} (hok : jm_Ok (jm_PP l D clR ad aC shR b0 0)) (hrec : ∀ (t : Nat) (av : List Value) (x : jm_X), jm_Con (jm_PP l D clR ad aC shR b0 0) (rcR t) d0 av x (g t av x)) {self : Int32 → Int32 → jm_X → Option jm_R} (hself : ∀ (v2 : Int32) (v3 : Int32) (x : jm_X), jm_V (jm_PP l D clR ad aC shR b0 0) mt_M_isWord (d0 + 6) 20 [(0, .ref 0), (1, .ref 1), (2, .int v2), (3, .int v3)] [] x (self v2 v3 x)) (v2 : Int32) (v3 : Int32) (x : jm_X) : jm_V (jm_PP l D clR ad aC shR b0 0) mt_M_isWord (d0 + 6) 20 [(0, .ref 0), (1, .ref 1), (2, .int v2), (3, .int v3)] [] x (B_M_isWord_20 K g self v2 v3 x) := by
  have hT := tk_M (l := l) (D := D) (ad := ad) (aC := aC) (b0 := b0)
  unfold B_M_isWord_20
  refine jm_V.run (is := bk_M_isWord_20_3) (pc' := (if v2 ≤ v3 then 60 else 25)) (ls' := [(0, .ref 0), (1, .ref 1), (2, .int v2), (3, .int v3)]) (st' := []) (x' := x) hok hT bk_M_isWord_20_3_ok rfl ?_
  refine jm_V.ite (fun _ => ?_) (fun _ => ?_)
  · refine jm_V.run (is := bk_M_isWord_60_1) (pc' := 61) (ls' := [(0, .ref 0), (1, .ref 1), (2, .int v2), (3, .int v3)]) (st' := [.int 0]) (x' := x) hok hT bk_M_isWord_60_1_ok rfl ?_
    exact jm_V.nret (t := .boolean) rfl rfl dd_M_isWord_61
  · refine jm_V.run (is := bk_M_isWord_25_2) (pc' := 27) (ls' := [(0, .ref 0), (1, .ref 1), (2, .int v2), (3, .int v3)]) (st' := [.int v3, .ref 1]) (x' := x) hok hT bk_M_isWord_25_2_ok rfl ?_
    refine jm_V.aald (ids := wdR) rfl dd_M_isWord_27 ?_
    refine jm_V.run (is := bk_M_isWord_28_10) (pc' := 46) (ls' := [(4, .ref (wdR.getD (Int32.toNatClampNeg v3) 0)), (0, .ref 0), (1, .ref 1), (2, .int v2), (3, .int v3)]) (st' := [.ref (wdR.getD (Int32.toNatClampNeg v3) 0), .int ((x.1 10) - (x.1 9)), .int (x.1 9), .ref 0]) (x' := x) hok hT bk_M_isWord_28_10_ok rfl ?_
    refine jm_V.callI (av := [.ref 0, .int (x.1 9), .int ((x.1 10) - (x.1 9)), .ref (wdR.getD (Int32.toNatClampNeg v3) 0)]) (rest := []) hok (jm_Con.mono (c_M_spells hok hrec (x.1 9) ((x.1 10) - (x.1 9)) (wdR.getD (Int32.toNatClampNeg v3) 0) x) (by omega)) (jm_Inv.obj (q := ("FilterReaderModel", T_M, 22)) dd_M_isWord_46 (Or.inl lk_M_176) mn_M_spells ms_M_spells mw_M_spells mh_M_spells ml_M_spells rfl rfl) mw_M_spells mi_M (Nat.le_of_ble_eq_true rfl) (Nat.le_of_ble_eq_true rfl) (fun b2 x1 => ?_)
    refine jm_V.run (is := bk_M_isWord_49_1) (pc' := (if b2 = 0 then 54 else 52)) (ls' := [(4, .ref (wdR.getD (Int32.toNatClampNeg v3) 0)), (0, .ref 0), (1, .ref 1), (2, .int v2), (3, .int v3)]) (st' := []) (x' := x1) hok hT bk_M_isWord_49_1_ok rfl ?_
    refine jm_V.ite (fun _ => ?_) (fun _ => ?_)
    · refine jm_V.run (is := bk_M_isWord_54_2) (pc' := 20) (ls' := [(3, .int (v3 + 1)), (4, .ref (wdR.getD (Int32.toNatClampNeg v3) 0)), (0, .ref 0), (1, .ref 1), (2, .int v2)]) (st' := []) (x' := x1) hok hT bk_M_isWord_54_2_ok rfl ?_
      refine jm_V.sub (ls' := [(0, .ref 0), (1, .ref 1), (2, .int v2), (3, .int (v3 + 1))]) [2, 3, 4, 0] rfl ?_
      exact hself v2 (v3 + 1) x1
    · refine jm_V.run (is := bk_M_isWord_52_1) (pc' := 53) (ls' := [(4, .ref (wdR.getD (Int32.toNatClampNeg v3) 0)), (0, .ref 0), (1, .ref 1), (2, .int v2), (3, .int v3)]) (st' := [.int 1]) (x' := x1) hok hT bk_M_isWord_52_1_ok rfl ?_
      exact jm_V.nret (t := .boolean) rfl rfl dd_M_isWord_53
theorem jl_M_isWord_20 {l : Launch} {D : va_G} {ad : Nat → Nat} {aC : Nat → ClassId} {b0 : Nat} {K d0 : Nat} {g : jm_Rec} (hok : jm_Ok (jm_PP l D clR ad aC shR b0 0)) (hrec : ∀ (t : Nat) (av : List Value) (x : jm_X), jm_Con (jm_PP l D clR ad aC shR b0 0) (rcR t) d0 av x (g t av x)) : ∀ (k : Nat) (v2 : Int32) (v3 : Int32) (x : jm_X), jm_V (jm_PP l D clR ad aC shR b0 0) mt_M_isWord (d0 + 6) 20 [(0, .ref 0), (1, .ref 1), (2, .int v2), (3, .int v3)] [] x (L_M_isWord_20 K g k v2 v3 x)
  | 0, _, _, _ => jm_V.stuck
  | k + 1, v2, v3, x => jb_M_isWord_20 hok hrec (fun v2 v3 x => jl_M_isWord_20 hok hrec k v2 v3 x) v2 v3 x
def f_M_isWord (K : Nat) (g : jm_Rec)  (x : jm_X) : Option jm_R := (if (x.1 11) = 1 then (if jm_len shR 1 = some 15 then L_M_isWord_20 K g K (Int32.ofNat 15) 0 x else none) else some (.inl (some (.int 0), x)))
set_option maxRecDepth 100000 in
set_option maxHeartbeats 4000000 in
theorem c_M_isWord {l : Launch} {D : va_G} {ad : Nat → Nat} {aC : Nat → ClassId} {b0 : Nat} {K d0 : Nat} {g : jm_Rec} (hok : jm_Ok (jm_PP l D clR ad aC shR b0 0)) (hrec : ∀ (t : Nat) (av : List Value) (x : jm_X), jm_Con (jm_PP l D clR ad aC shR b0 0) (rcR t) d0 av x (g t av x))  (x : jm_X) : jm_Con (jm_PP l D clR ad aC shR b0 0) mt_M_isWord (d0 + 6) [.ref 0] x (f_M_isWord K g  x) := by
  refine jm_Con.of (plainFor_of_name (by decide +kernel)) (Nat.le_of_ble_eq_true rfl) ?_
  have hT := tk_M (l := l) (D := D) (ad := ad) (aC := aC) (b0 := b0)
  unfold f_M_isWord
  show jm_V _ _ _ 0 [(0, .ref 0)] [] x _
  refine jm_V.run (is := bk_M_isWord_0_4) (pc' := (if (x.1 11) = 1 then 10 else 8)) (ls' := [(0, .ref 0)]) (st' := []) (x' := x) hok hT bk_M_isWord_0_4_ok rfl ?_
  refine jm_V.ite (fun _ => ?_) (fun _ => ?_)
  · refine jm_V.run (is := bk_M_isWord_10_4) (pc' := 16) (ls' := [(1, .ref 1), (0, .ref 0)]) (st' := [.ref 1]) (x' := x) hok hT bk_M_isWord_10_4_ok rfl ?_
    refine jm_V.alen dd_M_isWord_16 ?_
    refine jm_V.run (is := bk_M_isWord_17_3) (pc' := 20) (ls' := [(3, .int 0), (2, .int (Int32.ofNat 15)), (1, .ref 1), (0, .ref 0)]) (st' := []) (x' := x) hok hT bk_M_isWord_17_3_ok rfl ?_
    refine jm_V.sub (ls' := [(0, .ref 0), (1, .ref 1), (2, .int (Int32.ofNat 15)), (3, .int 0)]) [3, 2, 1, 0] rfl ?_
    exact jl_M_isWord_20 hok hrec K (Int32.ofNat 15) 0 x
  · refine jm_V.run (is := bk_M_isWord_8_1) (pc' := 9) (ls' := [(0, .ref 0)]) (st' := [.int 0]) (x' := x) hok hT bk_M_isWord_8_1_ok rfl ?_
    exact jm_V.nret (t := .boolean) rfl rfl dd_M_isWord_9

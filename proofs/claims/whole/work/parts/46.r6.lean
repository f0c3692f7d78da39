/-! THE REFERENCE: methods. Printed by wip/whole/printR.py. -/
abbrev bk_M_term_0_2 : List (Nat × Instr × Nat) := [(0, .aload_n 0, 1), (1, .getfield 128, 3)]
theorem bk_M_term_0_2_ok : jm_at mt_M_term.2.1 bk_M_term_0_2 = true := by decide +kernel
abbrev bk_M_term_279_1 : List (Nat × Instr × Nat) := [(279, .aload_n 0, 1)]
theorem bk_M_term_279_1_ok : jm_at mt_M_term.2.1 bk_M_term_279_1 = true := by decide +kernel
abbrev bk_M_term_283_1 : List (Nat × Instr × Nat) := [(283, .goto 12, 3)]
theorem bk_M_term_283_1_ok : jm_at mt_M_term.2.1 bk_M_term_283_1 = true := by decide +kernel
abbrev bk_M_term_157_4 : List (Nat × Instr × Nat) := [(157, .aload_n 0, 1), (158, .getfield 76, 3), (161, .iconst 0, 1), (162, .dup2, 1)]
theorem bk_M_term_157_4_ok : jm_at mt_M_term.2.1 bk_M_term_157_4 = true := by decide +kernel
abbrev bk_M_term_164_2 : List (Nat × Instr × Nat) := [(164, .iconst 1, 1), (165, .iadd, 1)]
theorem bk_M_term_164_2_ok : jm_at mt_M_term.2.1 bk_M_term_164_2 = true := by decide +kernel
abbrev bk_M_term_167_1 : List (Nat × Instr × Nat) := [(167, .aload_n 0, 1)]
theorem bk_M_term_167_1_ok : jm_at mt_M_term.2.1 bk_M_term_167_1 = true := by decide +kernel
abbrev bk_M_term_171_1 : List (Nat × Instr × Nat) := [(171, .goto 124, 3)]
theorem bk_M_term_171_1_ok : jm_at mt_M_term.2.1 bk_M_term_171_1 = true := by decide +kernel
abbrev bk_M_term_261_1 : List (Nat × Instr × Nat) := [(261, .aload_n 0, 1)]
theorem bk_M_term_261_1_ok : jm_at mt_M_term.2.1 bk_M_term_261_1 = true := by decide +kernel
abbrev bk_M_term_265_4 : List (Nat × Instr × Nat) := [(265, .aload_n 0, 1), (266, .getfield 76, 3), (269, .bipush 11, 2), (271, .dup2, 1)]
theorem bk_M_term_265_4_ok : jm_at mt_M_term.2.1 bk_M_term_265_4 = true := by decide +kernel
abbrev bk_M_term_273_2 : List (Nat × Instr × Nat) := [(273, .iconst 1, 1), (274, .iadd, 1)]
theorem bk_M_term_273_2_ok : jm_at mt_M_term.2.1 bk_M_term_273_2 = true := by decide +kernel
abbrev bk_M_term_276_1 : List (Nat × Instr × Nat) := [(276, .goto 19, 3)]
theorem bk_M_term_276_1_ok : jm_at mt_M_term.2.1 bk_M_term_276_1 = true := by decide +kernel
abbrev bk_M_term_174_4 : List (Nat × Instr × Nat) := [(174, .aload_n 0, 1), (175, .getfield 76, 3), (178, .bipush 6, 2), (180, .dup2, 1)]
theorem bk_M_term_174_4_ok : jm_at mt_M_term.2.1 bk_M_term_174_4 = true := by decide +kernel
abbrev bk_M_term_182_2 : List (Nat × Instr × Nat) := [(182, .iconst 1, 1), (183, .iadd, 1)]
theorem bk_M_term_182_2_ok : jm_at mt_M_term.2.1 bk_M_term_182_2 = true := by decide +kernel
abbrev bk_M_term_185_1 : List (Nat × Instr × Nat) := [(185, .aload_n 0, 1)]
theorem bk_M_term_185_1_ok : jm_at mt_M_term.2.1 bk_M_term_185_1 = true := by decide +kernel
abbrev bk_M_term_189_1 : List (Nat × Instr × Nat) := [(189, .goto 106, 3)]
theorem bk_M_term_189_1_ok : jm_at mt_M_term.2.1 bk_M_term_189_1 = true := by decide +kernel
abbrev bk_M_term_192_2 : List (Nat × Instr × Nat) := [(192, .aload_n 0, 1), (193, .iconst 1, 1)]
theorem bk_M_term_192_2_ok : jm_at mt_M_term.2.1 bk_M_term_192_2 = true := by decide +kernel
abbrev bk_M_term_197_1 : List (Nat × Instr × Nat) := [(197, .goto 98, 3)]
theorem bk_M_term_197_1_ok : jm_at mt_M_term.2.1 bk_M_term_197_1 = true := by decide +kernel
abbrev bk_M_term_286_3 : List (Nat × Instr × Nat) := [(286, .aload_n 0, 1), (287, .aload_n 0, 1), (288, .getfield 131, 3)]
theorem bk_M_term_286_3_ok : jm_at mt_M_term.2.1 bk_M_term_286_3 = true := by decide +kernel
abbrev bk_M_term_100_4 : List (Nat × Instr × Nat) := [(100, .aload_n 0, 1), (101, .getfield 76, 3), (104, .iconst 0, 1), (105, .dup2, 1)]
theorem bk_M_term_100_4_ok : jm_at mt_M_term.2.1 bk_M_term_100_4 = true := by decide +kernel
abbrev bk_M_term_107_2 : List (Nat × Instr × Nat) := [(107, .iconst 1, 1), (108, .iadd, 1)]
theorem bk_M_term_107_2_ok : jm_at mt_M_term.2.1 bk_M_term_107_2 = true := by decide +kernel
abbrev bk_M_term_110_1 : List (Nat × Instr × Nat) := [(110, .aload_n 0, 1)]
theorem bk_M_term_110_1_ok : jm_at mt_M_term.2.1 bk_M_term_110_1 = true := by decide +kernel
abbrev bk_M_term_114_4 : List (Nat × Instr × Nat) := [(114, .aload_n 0, 1), (115, .getfield 128, 3), (118, .iconst 5, 1), (119, .if_icmp .ne 176, 3)]
theorem bk_M_term_114_4_ok : jm_at mt_M_term.2.1 bk_M_term_114_4 = true := by decide +kernel
abbrev bk_M_term_122_4 : List (Nat × Instr × Nat) := [(122, .aload_n 0, 1), (123, .getfield 76, 3), (126, .iconst 2, 1), (127, .dup2, 1)]
theorem bk_M_term_122_4_ok : jm_at mt_M_term.2.1 bk_M_term_122_4 = true := by decide +kernel
abbrev bk_M_term_129_2 : List (Nat × Instr × Nat) := [(129, .iconst 1, 1), (130, .iadd, 1)]
theorem bk_M_term_129_2_ok : jm_at mt_M_term.2.1 bk_M_term_129_2 = true := by decide +kernel
abbrev bk_M_term_132_2 : List (Nat × Instr × Nat) := [(132, .aload_n 0, 1), (133, .iconst 1, 1)]
theorem bk_M_term_132_2_ok : jm_at mt_M_term.2.1 bk_M_term_132_2 = true := by decide +kernel
abbrev bk_M_term_137_1 : List (Nat × Instr × Nat) := [(137, .goto 158, 3)]
theorem bk_M_term_137_1_ok : jm_at mt_M_term.2.1 bk_M_term_137_1 = true := by decide +kernel
abbrev bk_M_term_140_4 : List (Nat × Instr × Nat) := [(140, .aload_n 0, 1), (141, .getfield 76, 3), (144, .iconst 1, 1), (145, .dup2, 1)]
theorem bk_M_term_140_4_ok : jm_at mt_M_term.2.1 bk_M_term_140_4 = true := by decide +kernel
abbrev bk_M_term_147_2 : List (Nat × Instr × Nat) := [(147, .iconst 1, 1), (148, .iadd, 1)]
theorem bk_M_term_147_2_ok : jm_at mt_M_term.2.1 bk_M_term_147_2 = true := by decide +kernel
abbrev bk_M_term_150_1 : List (Nat × Instr × Nat) := [(150, .aload_n 0, 1)]
theorem bk_M_term_150_1_ok : jm_at mt_M_term.2.1 bk_M_term_150_1 = true := by decide +kernel
abbrev bk_M_term_154_1 : List (Nat × Instr × Nat) := [(154, .goto 141, 3)]
theorem bk_M_term_154_1_ok : jm_at mt_M_term.2.1 bk_M_term_154_1 = true := by decide +kernel
abbrev bk_M_term_200_1 : List (Nat × Instr × Nat) := [(200, .aload_n 0, 1)]
theorem bk_M_term_200_1_ok : jm_at mt_M_term.2.1 bk_M_term_200_1 = true := by decide +kernel
abbrev bk_M_term_204_1 : List (Nat × Instr × Nat) := [(204, .aload_n 0, 1)]
theorem bk_M_term_204_1_ok : jm_at mt_M_term.2.1 bk_M_term_204_1 = true := by decide +kernel
abbrev bk_M_term_208_2 : List (Nat × Instr × Nat) := [(208, .aload_n 0, 1), (209, .bipush 17, 2)]
theorem bk_M_term_208_2_ok : jm_at mt_M_term.2.1 bk_M_term_208_2 = true := by decide +kernel
abbrev bk_M_term_214_1 : List (Nat × Instr × Nat) := [(214, .goto 81, 3)]
theorem bk_M_term_214_1_ok : jm_at mt_M_term.2.1 bk_M_term_214_1 = true := by decide +kernel
abbrev bk_M_term_217_4 : List (Nat × Instr × Nat) := [(217, .aload_n 0, 1), (218, .getfield 76, 3), (221, .bipush 9, 2), (223, .dup2, 1)]
theorem bk_M_term_217_4_ok : jm_at mt_M_term.2.1 bk_M_term_217_4 = true := by decide +kernel
abbrev bk_M_term_225_2 : List (Nat × Instr × Nat) := [(225, .iconst 1, 1), (226, .iadd, 1)]
theorem bk_M_term_225_2_ok : jm_at mt_M_term.2.1 bk_M_term_225_2 = true := by decide +kernel
abbrev bk_M_term_228_1 : List (Nat × Instr × Nat) := [(228, .aload_n 0, 1)]
theorem bk_M_term_228_1_ok : jm_at mt_M_term.2.1 bk_M_term_228_1 = true := by decide +kernel
abbrev bk_M_term_232_4 : List (Nat × Instr × Nat) := [(232, .aload_n 0, 1), (233, .getfield 128, 3), (236, .bipush 19, 2), (238, .if_icmp .eq 7, 3)]
theorem bk_M_term_232_4_ok : jm_at mt_M_term.2.1 bk_M_term_232_4 = true := by decide +kernel
abbrev bk_M_term_241_1 : List (Nat × Instr × Nat) := [(241, .aload_n 0, 1)]
theorem bk_M_term_241_1_ok : jm_at mt_M_term.2.1 bk_M_term_241_1 = true := by decide +kernel
abbrev bk_M_term_254_1 : List (Nat × Instr × Nat) := [(254, .aload_n 0, 1)]
theorem bk_M_term_254_1_ok : jm_at mt_M_term.2.1 bk_M_term_254_1 = true := by decide +kernel
abbrev bk_M_term_258_1 : List (Nat × Instr × Nat) := [(258, .goto 37, 3)]
theorem bk_M_term_258_1_ok : jm_at mt_M_term.2.1 bk_M_term_258_1 = true := by decide +kernel
abbrev bk_M_term_245_2 : List (Nat × Instr × Nat) := [(245, .aload_n 0, 1), (246, .bipush 19, 2)]
theorem bk_M_term_245_2_ok : jm_at mt_M_term.2.1 bk_M_term_245_2 = true := by decide +kernel
abbrev bk_M_term_251_1 : List (Nat × Instr × Nat) := [(251, .goto 44, 3)]
theorem bk_M_term_251_1_ok : jm_at mt_M_term.2.1 bk_M_term_251_1 = true := by decide +kernel
abbrev bk_M_term_295_1 : List (Nat × Instr × Nat) := [(295, .aload_n 0, 1)]
theorem bk_M_term_295_1_ok : jm_at mt_M_term.2.1 bk_M_term_295_1 = true := by decide +kernel
abbrev bk_M_term_299_1 : List (Nat × Instr × Nat) := [(299, .ifCond .eq 6, 3)]
theorem bk_M_term_299_1_ok : jm_at mt_M_term.2.1 bk_M_term_299_1 = true := by decide +kernel
abbrev bk_M_term_302_1 : List (Nat × Instr × Nat) := [(302, .goto (-7), 3)]
theorem bk_M_term_302_1_ok : jm_at mt_M_term.2.1 bk_M_term_302_1 = true := by decide +kernel
theorem dd_M_term_280 : decode mt_M_term.2.1 280 = .ok (.invokevirtual 263, 3) := by decide +kernel
theorem dd_M_term_168 : decode mt_M_term.2.1 168 = .ok (.invokevirtual 254, 3) := by decide +kernel
theorem dd_M_term_166 : decode mt_M_term.2.1 166 = .ok (.iastore, 1) := by decide +kernel
theorem dd_M_term_163 : decode mt_M_term.2.1 163 = .ok (.iaload, 1) := by decide +kernel
theorem dd_M_term_262 : decode mt_M_term.2.1 262 = .ok (.invokevirtual 260, 3) := by decide +kernel
theorem dd_M_term_275 : decode mt_M_term.2.1 275 = .ok (.iastore, 1) := by decide +kernel
theorem dd_M_term_272 : decode mt_M_term.2.1 272 = .ok (.iaload, 1) := by decide +kernel
theorem dd_M_term_186 : decode mt_M_term.2.1 186 = .ok (.invokevirtual 122, 3) := by decide +kernel
theorem dd_M_term_184 : decode mt_M_term.2.1 184 = .ok (.iastore, 1) := by decide +kernel
theorem dd_M_term_181 : decode mt_M_term.2.1 181 = .ok (.iaload, 1) := by decide +kernel
theorem dd_M_term_194 : decode mt_M_term.2.1 194 = .ok (.invokevirtual 250, 3) := by decide +kernel
theorem dd_M_term_291 : decode mt_M_term.2.1 291 = .ok (.invokevirtual 134, 3) := by decide +kernel
theorem dd_M_term_294 : decode mt_M_term.2.1 294 = .ok (.athrow, 1) := by decide +kernel
theorem dd_M_term_111 : decode mt_M_term.2.1 111 = .ok (.invokevirtual 122, 3) := by decide +kernel
theorem dd_M_term_134 : decode mt_M_term.2.1 134 = .ok (.invokevirtual 250, 3) := by decide +kernel
theorem dd_M_term_131 : decode mt_M_term.2.1 131 = .ok (.iastore, 1) := by decide +kernel
theorem dd_M_term_128 : decode mt_M_term.2.1 128 = .ok (.iaload, 1) := by decide +kernel
theorem dd_M_term_109 : decode mt_M_term.2.1 109 = .ok (.iastore, 1) := by decide +kernel
theorem dd_M_term_106 : decode mt_M_term.2.1 106 = .ok (.iaload, 1) := by decide +kernel
theorem dd_M_term_151 : decode mt_M_term.2.1 151 = .ok (.invokevirtual 122, 3) := by decide +kernel
theorem dd_M_term_149 : decode mt_M_term.2.1 149 = .ok (.iastore, 1) := by decide +kernel
theorem dd_M_term_146 : decode mt_M_term.2.1 146 = .ok (.iaload, 1) := by decide +kernel
theorem dd_M_term_201 : decode mt_M_term.2.1 201 = .ok (.invokevirtual 122, 3) := by decide +kernel
theorem dd_M_term_205 : decode mt_M_term.2.1 205 = .ok (.invokevirtual 125, 3) := by decide +kernel
theorem dd_M_term_211 : decode mt_M_term.2.1 211 = .ok (.invokevirtual 199, 3) := by decide +kernel
theorem dd_M_term_229 : decode mt_M_term.2.1 229 = .ok (.invokevirtual 122, 3) := by decide +kernel
theorem dd_M_term_242 : decode mt_M_term.2.1 242 = .ok (.invokevirtual 125, 3) := by decide +kernel
theorem dd_M_term_227 : decode mt_M_term.2.1 227 = .ok (.iastore, 1) := by decide +kernel
theorem dd_M_term_224 : decode mt_M_term.2.1 224 = .ok (.iaload, 1) := by decide +kernel
theorem dd_M_term_255 : decode mt_M_term.2.1 255 = .ok (.invokevirtual 257, 3) := by decide +kernel
theorem dd_M_term_4 : decode mt_M_term.2.1 4 = .ok (.tableswitch 282 1 20 #[275, 153, 257, 170, 188, 282, 282, 282, 282, 282, 282, 282, 282, 96, 136, 196, 282, 213, 282, 250], 96) := by decide +kernel
theorem dd_M_term_248 : decode mt_M_term.2.1 248 = .ok (.invokevirtual 199, 3) := by decide +kernel
theorem dd_M_term_296 : decode mt_M_term.2.1 296 = .ok (.invokevirtual 266, 3) := by decide +kernel
theorem dd_M_term_305 : decode mt_M_term.2.1 305 = .ok (.return_, 1) := by decide +kernel
def B_M_term_295 (K : Nat) (g : jm_Rec) (self : jm_X → Option jm_R)  (x : jm_X) : Option jm_R := jm_bI (f_M_behindTerm K g x) (fun b46 x45 => (if b46 = 0 then some (.inl (none, x45)) else self x45))
def L_M_term_295 (K : Nat) (g : jm_Rec) : Nat → jm_X → Option jm_R
  | 0, _ => none
  | k + 1, x => B_M_term_295 K g (L_M_term_295 K g k)  x
set_option maxRecDepth 100000 in
set_option maxHeartbeats 4000000 in
theorem jb_M_term_295 {l : Launch} {D : va_G} {ad : Nat → Nat} {aC : Nat → ClassId} {b0 : Nat} {K d0 : Nat} {g : jm_Rec} (hok : jm_Ok (jm_PP l D clR ad aC shR b0 0)) (hrec : ∀ (t : Nat) (av : List Value) (x : jm_X), jm_Con (jm_PP l D clR ad aC shR b0 0) (rcR t) d0 av x (g t av x)) {self : jm_X → Option jm_R} (hself : ∀  (x : jm_X), jm_V (jm_PP l D clR ad aC shR b0 0) mt_M_term (d0 + 9) 295 [(0, .ref 0)] [] x (self  x))  (x : jm_X) : jm_V (jm_PP l D clR ad aC shR b0 0) mt_M_term (d0 + 9) 295 [(0, .ref 0)] [] x (B_M_term_295 K g self  x) := by
  have hT := tk_M (l := l) (D := D) (ad := ad) (aC := aC) (b0 := b0)
  unfold B_M_term_295
  refine jm_V.run (is := bk_M_term_295_1) (pc' := 296) (ls' := [(0, .ref 0)]) (st' := [.ref 0]) (x' := x) hok hT bk_M_term_295_1_ok rfl ?_
  refine jm_V.callI (av := [.ref 0]) (rest := []) hok (jm_Con.mono (c_M_behindTerm hok hrec x) (by omega)) (jm_Inv.obj (q := ("FilterReaderModel", T_M, 22)) dd_M_term_296 (Or.inl lk_M_266) mn_M_behindTerm ms_M_behindTerm mw_M_behindTerm mh_M_behindTerm ml_M_behindTerm rfl rfl) mw_M_behindTerm mi_M (Nat.le_of_ble_eq_true rfl) (Nat.le_of_ble_eq_true rfl) (fun b46 x45 => ?_)
  refine jm_V.run (is := bk_M_term_299_1) (pc' := (if b46 = 0 then 305 else 302)) (ls' := [(0, .ref 0)]) (st' := []) (x' := x45) hok hT bk_M_term_299_1_ok rfl ?_
  refine jm_V.ite (fun _ => ?_) (fun _ => ?_)
  · exact jm_V.vret rfl dd_M_term_305
  · refine jm_V.run (is := bk_M_term_302_1) (pc' := 295) (ls' := [(0, .ref 0)]) (st' := []) (x' := x45) hok hT bk_M_term_302_1_ok rfl ?_
    exact hself x45
theorem jl_M_term_295 {l : Launch} {D : va_G} {ad : Nat → Nat} {aC : Nat → ClassId} {b0 : Nat} {K d0 : Nat} {g : jm_Rec} (hok : jm_Ok (jm_PP l D clR ad aC shR b0 0)) (hrec : ∀ (t : Nat) (av : List Value) (x : jm_X), jm_Con (jm_PP l D clR ad aC shR b0 0) (rcR t) d0 av x (g t av x)) : ∀ (k : Nat)  (x : jm_X), jm_V (jm_PP l D clR ad aC shR b0 0) mt_M_term (d0 + 9) 295 [(0, .ref 0)] [] x (L_M_term_295 K g k  x)
  | 0, _ => jm_V.stuck
  | k + 1, x => jb_M_term_295 hok hrec (fun  x => jl_M_term_295 hok hrec k  x)  x
def J_M_term_245 (K : Nat) (g : jm_Rec)  (x : jm_X) : Option jm_R := jm_bV (f_M_need_i K g 19 x) (fun x44 => L_M_term_295 K g K x44)
set_option maxRecDepth 100000 in
set_option maxHeartbeats 4000000 in
theorem jj_M_term_245 {l : Launch} {D : va_G} {ad : Nat → Nat} {aC : Nat → ClassId} {b0 : Nat} {K d0 : Nat} {g : jm_Rec} (hok : jm_Ok (jm_PP l D clR ad aC shR b0 0)) (hrec : ∀ (t : Nat) (av : List Value) (x : jm_X), jm_Con (jm_PP l D clR ad aC shR b0 0) (rcR t) d0 av x (g t av x))  (x : jm_X) : jm_V (jm_PP l D clR ad aC shR b0 0) mt_M_term (d0 + 9) 245 [(0, .ref 0)] [] x (J_M_term_245 K g  x) := by
  have hT := tk_M (l := l) (D := D) (ad := ad) (aC := aC) (b0 := b0)
  unfold J_M_term_245
  refine jm_V.run (is := bk_M_term_245_2) (pc' := 248) (ls' := [(0, .ref 0)]) (st' := [.int 19, .ref 0]) (x' := x) hok hT bk_M_term_245_2_ok rfl ?_
  refine jm_V.callV (av := [.ref 0, .int 19]) (rest := []) hok (jm_Con.mono (c_M_need_i hok hrec 19 x) (by omega)) (jm_Inv.obj (q := ("FilterReaderModel", T_M, 22)) dd_M_term_248 (Or.inl lk_M_199) mn_M_need_i ms_M_need_i mw_M_need_i mh_M_need_i ml_M_need_i rfl rfl) mw_M_need_i mi_M (Nat.le_of_ble_eq_true rfl) (Nat.le_of_ble_eq_true rfl) (fun x44 => ?_)
  refine jm_V.run (is := bk_M_term_251_1) (pc' := 295) (ls' := [(0, .ref 0)]) (st' := []) (x' := x44) hok hT bk_M_term_251_1_ok rfl ?_
  exact jl_M_term_295 hok hrec K x44
def f_M_term (K : Nat) (g : jm_Rec)  (x : jm_X) : Option jm_R := (if (x.1 11) = 1 then jm_bV (f_M_named K g x) (fun x1 => L_M_term_295 K g K x1) else (if (x.1 11) = 2 then (if jm_in shR 4 .int 0 then (if jm_in shR 4 .int 0 then jm_then (jm_ua x 4 0 ((x.2.2 4 (Int32.toNatClampNeg 0)) + 1)) (fun x2 => jm_bV (f_M_field K g x2) (fun x3 => L_M_term_295 K g K x3)) else none) else none) else (if (x.1 11) = 3 then jm_bV (f_M_variable K g x) (fun x4 => (if jm_in shR 4 .int 11 then (if jm_in shR 4 .int 11 then jm_then (jm_ua x4 4 11 ((x4.2.2 4 (Int32.toNatClampNeg 11)) + 1)) (fun x5 => L_M_term_295 K g K x5) else none) else none)) else (if (x.1 11) = 4 then (if jm_in shR 4 .int 6 then (if jm_in shR 4 .int 6 then jm_then (jm_ua x 4 6 ((x.2.2 4 (Int32.toNatClampNeg 6)) + 1)) (fun x6 => jm_bV (f_M_scan K g x6) (fun x7 => L_M_term_295 K g K x7)) else none) else none) else (if (x.1 11) = 5 then jm_bV (f_M_string K g 1 x) (fun x8 => L_M_term_295 K g K x8) else (if (x.1 11) = 6 then jm_bA (f_M_bad K g (x.1 9) x) (fun b10 x9 => (if b10 = 2 then some (.inr ("java/lang/IllegalStateException", x9)) else none)) else (if (x.1 11) = 7 then jm_bA (f_M_bad K g (x.1 9) x) (fun b12 x11 => (if b12 = 2 then some (.inr ("java/lang/IllegalStateException", x11)) else none)) else (if (x.1 11) = 8 then jm_bA (f_M_bad K g (x.1 9) x) (fun b14 x13 => (if b14 = 2 then some (.inr ("java/lang/IllegalStateException", x13)) else none)) else (if (x.1 11) = 9 then jm_bA (f_M_bad K g (x.1 9) x) (fun b16 x15 => (if b16 = 2 then some (.inr ("java/lang/IllegalStateException", x15)) else none)) else (if (x.1 11) = 10 then jm_bA (f_M_bad K g (x.1 9) x) (fun b18 x17 => (if b18 = 2 then some (.inr ("java/lang/IllegalStateException", x17)) else none)) else (if (x.1 11) = 11 then jm_bA (f_M_bad K g (x.1 9) x) (fun b20 x19 => (if b20 = 2 then some (.inr ("java/lang/IllegalStateException", x19)) else none)) else (if (x.1 11) = 12 then jm_bA (f_M_bad K g (x.1 9) x) (fun b22 x21 => (if b22 = 2 then some (.inr ("java/lang/IllegalStateException", x21)) else none)) else (if (x.1 11) = 13 then jm_bA (f_M_bad K g (x.1 9) x) (fun b24 x23 => (if b24 = 2 then some (.inr ("java/lang/IllegalStateException", x23)) else none)) else (if (x.1 11) = 14 then (if jm_in shR 4 .int 0 then (if jm_in shR 4 .int 0 then jm_then (jm_ua x 4 0 ((x.2.2 4 (Int32.toNatClampNeg 0)) + 1)) (fun x25 => jm_bV (f_M_scan K g x25) (fun x26 => (if (x26.1 11) = 5 then (if jm_in shR 4 .int 2 then (if jm_in shR 4 .int 2 then jm_then (jm_ua x26 4 2 ((x26.2.2 4 (Int32.toNatClampNeg 2)) + 1)) (fun x27 => jm_bV (f_M_string K g 1 x27) (fun x28 => L_M_term_295 K g K x28)) else none) else none) else L_M_term_295 K g K x26))) else none) else none) else (if (x.1 11) = 15 then (if jm_in shR 4 .int 1 then (if jm_in shR 4 .int 1 then jm_then (jm_ua x 4 1 ((x.2.2 4 (Int32.toNatClampNeg 1)) + 1)) (fun x29 => jm_bV (f_M_scan K g x29) (fun x30 => L_M_term_295 K g K x30)) else none) else none) else (if (x.1 11) = 16 then jm_bV (f_M_scan K g x) (fun x31 => jm_bV (g 0 [.ref 0] x31) (fun x32 => jm_bV (f_M_need_i K g 17 x32) (fun x33 => L_M_term_295 K g K x33))) else (if (x.1 11) = 17 then jm_bA (f_M_bad K g (x.1 9) x) (fun b35 x34 => (if b35 = 2 then some (.inr ("java/lang/IllegalStateException", x34)) else none)) else (if (x.1 11) = 18 then (if jm_in shR 4 .int 9 then (if jm_in shR 4 .int 9 then jm_then (jm_ua x 4 9 ((x.2.2 4 (Int32.toNatClampNeg 9)) + 1)) (fun x36 => jm_bV (f_M_scan K g x36) (fun x37 => (if (x37.1 11) = 19 then J_M_term_245 K g x37 else jm_bV (g 0 [.ref 0] x37) (fun x38 => J_M_term_245 K g x38)))) else none) else none) else (if (x.1 11) = 19 then jm_bA (f_M_bad K g (x.1 9) x) (fun b40 x39 => (if b40 = 2 then some (.inr ("java/lang/IllegalStateException", x39)) else none)) else (if (x.1 11) = 20 then jm_bV (f_M_object K g x) (fun x41 => L_M_term_295 K g K x41) else jm_bA (f_M_bad K g (x.1 9) x) (fun b43 x42 => (if b43 = 2 then some (.inr ("java/lang/IllegalStateException", x42)) else none))))))))))))))))))))))
set_option maxRecDepth 100000 in
set_option maxHeartbeats 4000000 in
theorem c_M_term {l : Launch} {D : va_G} {ad : Nat → Nat} {aC : Nat → ClassId} {b0 : Nat} {K d0 : Nat} {g : jm_Rec} (hok : jm_Ok (jm_PP l D clR ad aC shR b0 0)) (hrec : ∀ (t : Nat) (av : List Value) (x : jm_X), jm_Con (jm_PP l D clR ad aC shR b0 0) (rcR t) d0 av x (g t av x))  (x : jm_X) : jm_Con (jm_PP l D clR ad aC shR b0 0) mt_M_term (d0 + 9) [.ref 0] x (f_M_term K g  x) := by
  refine jm_Con.of (plainFor_of_name (by decide +kernel)) (Nat.le_of_ble_eq_true rfl) ?_
  have hT := tk_M (l := l) (D := D) (ad := ad) (aC := aC) (b0 := b0)
  unfold f_M_term
  show jm_V _ _ _ 0 [(0, .ref 0)] [] x _
  refine jm_V.run (is := bk_M_term_0_2) (pc' := 4) (ls' := [(0, .ref 0)]) (st' := [.int (x.1 11)]) (x' := x) hok hT bk_M_term_0_2_ok rfl ?_
  refine jm_V.tsw dd_M_term_4 (by decide +kernel) (by decide +kernel) ?_
  refine jm_V.pc_ (pc' := (if (x.1 11) = 1 then 279 else (if (x.1 11) = 2 then 157 else (if (x.1 11) = 3 then 261 else (if (x.1 11) = 4 then 174 else (if (x.1 11) = 5 then 192 else (if (x.1 11) = 6 then 286 else (if (x.1 11) = 7 then 286 else (if (x.1 11) = 8 then 286 else (if (x.1 11) = 9 then 286 else (if (x.1 11) = 10 then 286 else (if (x.1 11) = 11 then 286 else (if (x.1 11) = 12 then 286 else (if (x.1 11) = 13 then 286 else (if (x.1 11) = 14 then 100 else (if (x.1 11) = 15 then 140 else (if (x.1 11) = 16 then 200 else (if (x.1 11) = 17 then 286 else (if (x.1 11) = 18 then 217 else (if (x.1 11) = 19 then 286 else (if (x.1 11) = 20 then 254 else 286))))))))))))))))))))) rfl ?_
  refine jm_V.ite (fun _ => ?_) (fun _ => ?_)
  · refine jm_V.run (is := bk_M_term_279_1) (pc' := 280) (ls' := [(0, .ref 0)]) (st' := [.ref 0]) (x' := x) hok hT bk_M_term_279_1_ok rfl ?_
    refine jm_V.callV (av := [.ref 0]) (rest := []) hok (jm_Con.mono (c_M_named hok hrec x) (by omega)) (jm_Inv.obj (q := ("FilterReaderModel", T_M, 22)) dd_M_term_280 (Or.inl lk_M_263) mn_M_named ms_M_named mw_M_named mh_M_named ml_M_named rfl rfl) mw_M_named mi_M (Nat.le_of_ble_eq_true rfl) (Nat.le_of_ble_eq_true rfl) (fun x1 => ?_)
    refine jm_V.run (is := bk_M_term_283_1) (pc' := 295) (ls' := [(0, .ref 0)]) (st' := []) (x' := x1) hok hT bk_M_term_283_1_ok rfl ?_
    exact jl_M_term_295 hok hrec K x1
  refine jm_V.ite (fun _ => ?_) (fun _ => ?_)
  · refine jm_V.run (is := bk_M_term_157_4) (pc' := 163) (ls' := [(0, .ref 0)]) (st' := [.int 0, .ref 4, .int 0, .ref 4]) (x' := x) hok hT bk_M_term_157_4_ok rfl ?_
    refine jm_V.iald dd_M_term_163 ?_
    refine jm_V.run (is := bk_M_term_164_2) (pc' := 166) (ls' := [(0, .ref 0)]) (st' := [.int ((x.2.2 4 (Int32.toNatClampNeg 0)) + 1), .int 0, .ref 4]) (x' := x) hok hT bk_M_term_164_2_ok rfl ?_
    refine jm_V.iast hok dd_M_term_166 ?_
    refine jm_V.then_ (fun x2 => ?_)
    refine jm_V.run (is := bk_M_term_167_1) (pc' := 168) (ls' := [(0, .ref 0)]) (st' := [.ref 0]) (x' := x2) hok hT bk_M_term_167_1_ok rfl ?_
    refine jm_V.callV (av := [.ref 0]) (rest := []) hok (jm_Con.mono (c_M_field hok hrec x2) (by omega)) (jm_Inv.obj (q := ("FilterReaderModel", T_M, 22)) dd_M_term_168 (Or.inl lk_M_254) mn_M_field ms_M_field mw_M_field mh_M_field ml_M_field rfl rfl) mw_M_field mi_M (Nat.le_of_ble_eq_true rfl) (Nat.le_of_ble_eq_true rfl) (fun x3 => ?_)
    refine jm_V.run (is := bk_M_term_171_1) (pc' := 295) (ls' := [(0, .ref 0)]) (st' := []) (x' := x3) hok hT bk_M_term_171_1_ok rfl ?_
    exact jl_M_term_295 hok hrec K x3
  refine jm_V.ite (fun _ => ?_) (fun _ => ?_)
  · refine jm_V.run (is := bk_M_term_261_1) (pc' := 262) (ls' := [(0, .ref 0)]) (st' := [.ref 0]) (x' := x) hok hT bk_M_term_261_1_ok rfl ?_
    refine jm_V.callV (av := [.ref 0]) (rest := []) hok (jm_Con.mono (c_M_variable hok hrec x) (by omega)) (jm_Inv.obj (q := ("FilterReaderModel", T_M, 22)) dd_M_term_262 (Or.inl lk_M_260) mn_M_variable ms_M_variable mw_M_variable mh_M_variable ml_M_variable rfl rfl) mw_M_variable mi_M (Nat.le_of_ble_eq_true rfl) (Nat.le_of_ble_eq_true rfl) (fun x4 => ?_)
    refine jm_V.run (is := bk_M_term_265_4) (pc' := 272) (ls' := [(0, .ref 0)]) (st' := [.int 11, .ref 4, .int 11, .ref 4]) (x' := x4) hok hT bk_M_term_265_4_ok rfl ?_
    refine jm_V.iald dd_M_term_272 ?_
    refine jm_V.run (is := bk_M_term_273_2) (pc' := 275) (ls' := [(0, .ref 0)]) (st' := [.int ((x4.2.2 4 (Int32.toNatClampNeg 11)) + 1), .int 11, .ref 4]) (x' := x4) hok hT bk_M_term_273_2_ok rfl ?_
    refine jm_V.iast hok dd_M_term_275 ?_
    refine jm_V.then_ (fun x5 => ?_)
    refine jm_V.run (is := bk_M_term_276_1) (pc' := 295) (ls' := [(0, .ref 0)]) (st' := []) (x' := x5) hok hT bk_M_term_276_1_ok rfl ?_
    exact jl_M_term_295 hok hrec K x5
  refine jm_V.ite (fun _ => ?_) (fun _ => ?_)
  · refine jm_V.run (is := bk_M_term_174_4) (pc' := 181) (ls' := [(0, .ref 0)]) (st' := [.int 6, .ref 4, .int 6, .ref 4]) (x' := x) hok hT bk_M_term_174_4_ok rfl ?_
    refine jm_V.iald dd_M_term_181 ?_
    refine jm_V.run (is := bk_M_term_182_2) (pc' := 184) (ls' := [(0, .ref 0)]) (st' := [.int ((x.2.2 4 (Int32.toNatClampNeg 6)) + 1), .int 6, .ref 4]) (x' := x) hok hT bk_M_term_182_2_ok rfl ?_
    refine jm_V.iast hok dd_M_term_184 ?_
    refine jm_V.then_ (fun x6 => ?_)
    refine jm_V.run (is := bk_M_term_185_1) (pc' := 186) (ls' := [(0, .ref 0)]) (st' := [.ref 0]) (x' := x6) hok hT bk_M_term_185_1_ok rfl ?_
    refine jm_V.callV (av := [.ref 0]) (rest := []) hok (jm_Con.mono (c_M_scan hok hrec x6) (by omega)) (jm_Inv.obj (q := ("FilterReaderModel", T_M, 22)) dd_M_term_186 (Or.inl lk_M_122) mn_M_scan ms_M_scan mw_M_scan mh_M_scan ml_M_scan rfl rfl) mw_M_scan mi_M (Nat.le_of_ble_eq_true rfl) (Nat.le_of_ble_eq_true rfl) (fun x7 => ?_)
    refine jm_V.run (is := bk_M_term_189_1) (pc' := 295) (ls' := [(0, .ref 0)]) (st' := []) (x' := x7) hok hT bk_M_term_189_1_ok rfl ?_
    exact jl_M_term_295 hok hrec K x7
  refine jm_V.ite (fun _ => ?_) (fun _ => ?_)
  · refine jm_V.run (is := bk_M_term_192_2) (pc' := 194) (ls' := [(0, .ref 0)]) (st' := [.int 1, .ref 0]) (x' := x) hok hT bk_M_term_192_2_ok rfl ?_
    refine jm_V.callV (av := [.ref 0, .int 1]) (rest := []) hok (jm_Con.mono (c_M_string hok hrec 1 x) (by omega)) (jm_Inv.obj (q := ("FilterReaderModel", T_M, 22)) dd_M_term_194 (Or.inl lk_M_250) mn_M_string ms_M_string mw_M_string mh_M_string ml_M_string rfl rfl) mw_M_string mi_M (Nat.le_of_ble_eq_true rfl) (Nat.le_of_ble_eq_true rfl) (fun x8 => ?_)
    refine jm_V.run (is := bk_M_term_197_1) (pc' := 295) (ls' := [(0, .ref 0)]) (st' := []) (x' := x8) hok hT bk_M_term_197_1_ok rfl ?_
    exact jl_M_term_295 hok hrec K x8
  refine jm_V.ite (fun _ => ?_) (fun _ => ?_)
  · refine jm_V.run (is := bk_M_term_286_3) (pc' := 291) (ls' := [(0, .ref 0)]) (st' := [.int (x.1 9), .ref 0]) (x' := x) hok hT bk_M_term_286_3_ok rfl ?_
    refine jm_V.callA (av := [.ref 0, .int (x.1 9)]) (rest := []) hok (jm_Con.mono (c_M_bad hok hrec (x.1 9) x) (by omega)) (jm_Inv.obj (q := ("FilterReaderModel", T_M, 22)) dd_M_term_291 (Or.inl lk_M_134) mn_M_bad ms_M_bad mw_M_bad mh_M_bad ml_M_bad rfl rfl) mw_M_bad mi_M (Nat.le_of_ble_eq_true rfl) (Nat.le_of_ble_eq_true rfl) (fun b10 x9 => ?_)
    exact jm_V.athrowS (o := 2) (q := ("java/lang/IllegalStateException", T_X, 0)) rfl rfl dd_M_term_294
  refine jm_V.ite (fun _ => ?_) (fun _ => ?_)
  · refine jm_V.run (is := bk_M_term_286_3) (pc' := 291) (ls' := [(0, .ref 0)]) (st' := [.int (x.1 9), .ref 0]) (x' := x) hok hT bk_M_term_286_3_ok rfl ?_
    refine jm_V.callA (av := [.ref 0, .int (x.1 9)]) (rest := []) hok (jm_Con.mono (c_M_bad hok hrec (x.1 9) x) (by omega)) (jm_Inv.obj (q := ("FilterReaderModel", T_M, 22)) dd_M_term_291 (Or.inl lk_M_134) mn_M_bad ms_M_bad mw_M_bad mh_M_bad ml_M_bad rfl rfl) mw_M_bad mi_M (Nat.le_of_ble_eq_true rfl) (Nat.le_of_ble_eq_true rfl) (fun b12 x11 => ?_)
    exact jm_V.athrowS (o := 2) (q := ("java/lang/IllegalStateException", T_X, 0)) rfl rfl dd_M_term_294
  refine jm_V.ite (fun _ => ?_) (fun _ => ?_)
  · refine jm_V.run (is := bk_M_term_286_3) (pc' := 291) (ls' := [(0, .ref 0)]) (st' := [.int (x.1 9), .ref 0]) (x' := x) hok hT bk_M_term_286_3_ok rfl ?_
    refine jm_V.callA (av := [.ref 0, .int (x.1 9)]) (rest := []) hok (jm_Con.mono (c_M_bad hok hrec (x.1 9) x) (by omega)) (jm_Inv.obj (q := ("FilterReaderModel", T_M, 22)) dd_M_term_291 (Or.inl lk_M_134) mn_M_bad ms_M_bad mw_M_bad mh_M_bad ml_M_bad rfl rfl) mw_M_bad mi_M (Nat.le_of_ble_eq_true rfl) (Nat.le_of_ble_eq_true rfl) (fun b14 x13 => ?_)
    exact jm_V.athrowS (o := 2) (q := ("java/lang/IllegalStateException", T_X, 0)) rfl rfl dd_M_term_294
  refine jm_V.ite (fun _ => ?_) (fun _ => ?_)
  · refine jm_V.run (is := bk_M_term_286_3) (pc' := 291) (ls' := [(0, .ref 0)]) (st' := [.int (x.1 9), .ref 0]) (x' := x) hok hT bk_M_term_286_3_ok rfl ?_
    refine jm_V.callA (av := [.ref 0, .int (x.1 9)]) (rest := []) hok (jm_Con.mono (c_M_bad hok hrec (x.1 9) x) (by omega)) (jm_Inv.obj (q := ("FilterReaderModel", T_M, 22)) dd_M_term_291 (Or.inl lk_M_134) mn_M_bad ms_M_bad mw_M_bad mh_M_bad ml_M_bad rfl rfl) mw_M_bad mi_M (Nat.le_of_ble_eq_true rfl) (Nat.le_of_ble_eq_true rfl) (fun b16 x15 => ?_)
    exact jm_V.athrowS (o := 2) (q := ("java/lang/IllegalStateException", T_X, 0)) rfl rfl dd_M_term_294
  refine jm_V.ite (fun _ => ?_) (fun _ => ?_)
  · refine jm_V.run (is := bk_M_term_286_3) (pc' := 291) (ls' := [(0, .ref 0)]) (st' := [.int (x.1 9), .ref 0]) (x' := x) hok hT bk_M_term_286_3_ok rfl ?_
    refine jm_V.callA (av := [.ref 0, .int (x.1 9)]) (rest := []) hok (jm_Con.mono (c_M_bad hok hrec (x.1 9) x) (by omega)) (jm_Inv.obj (q := ("FilterReaderModel", T_M, 22)) dd_M_term_291 (Or.inl lk_M_134) mn_M_bad ms_M_bad mw_M_bad mh_M_bad ml_M_bad rfl rfl) mw_M_bad mi_M (Nat.le_of_ble_eq_true rfl) (Nat.le_of_ble_eq_true rfl) (fun b18 x17 => ?_)
    exact jm_V.athrowS (o := 2) (q := ("java/lang/IllegalStateException", T_X, 0)) rfl rfl dd_M_term_294
  refine jm_V.ite (fun _ => ?_) (fun _ => ?_)
  · refine jm_V.run (is := bk_M_term_286_3) (pc' := 291) (ls' := [(0, .ref 0)]) (st' := [.int (x.1 9), .ref 0]) (x' := x) hok hT bk_M_term_286_3_ok rfl ?_
    refine jm_V.callA (av := [.ref 0, .int (x.1 9)]) (rest := []) hok (jm_Con.mono (c_M_bad hok hrec (x.1 9) x) (by omega)) (jm_Inv.obj (q := ("FilterReaderModel", T_M, 22)) dd_M_term_291 (Or.inl lk_M_134) mn_M_bad ms_M_bad mw_M_bad mh_M_bad ml_M_bad rfl rfl) mw_M_bad mi_M (Nat.le_of_ble_eq_true rfl) (Nat.le_of_ble_eq_true rfl) (fun b20 x19 => ?_)
    exact jm_V.athrowS (o := 2) (q := ("java/lang/IllegalStateException", T_X, 0)) rfl rfl dd_M_term_294
  refine jm_V.ite (fun _ => ?_) (fun _ => ?_)
  · refine jm_V.run (is := bk_M_term_286_3) (pc' := 291) (ls' := [(0, .ref 0)]) (st' := [.int (x.1 9), .ref 0]) (x' := x) hok hT bk_M_term_286_3_ok rfl ?_
    refine jm_V.callA (av := [.ref 0, .int (x.1 9)]) (rest := []) hok (jm_Con.mono (c_M_bad hok hrec (x.1 9) x) (by omega)) (jm_Inv.obj (q := ("FilterReaderModel", T_M, 22)) dd_M_term_291 (Or.inl lk_M_134) mn_M_bad ms_M_bad mw_M_bad mh_M_bad ml_M_bad rfl rfl) mw_M_bad mi_M (Nat.le_of_ble_eq_true rfl) (Nat.le_of_ble_eq_true rfl) (fun b22 x21 => ?_)
    exact jm_V.athrowS (o := 2) (q := ("java/lang/IllegalStateException", T_X, 0)) rfl rfl dd_M_term_294
  refine jm_V.ite (fun _ => ?_) (fun _ => ?_)
  · refine jm_V.run (is := bk_M_term_286_3) (pc' := 291) (ls' := [(0, .ref 0)]) (st' := [.int (x.1 9), .ref 0]) (x' := x) hok hT bk_M_term_286_3_ok rfl ?_
    refine jm_V.callA (av := [.ref 0, .int (x.1 9)]) (rest := []) hok (jm_Con.mono (c_M_bad hok hrec (x.1 9) x) (by omega)) (jm_Inv.obj (q := ("FilterReaderModel", T_M, 22)) dd_M_term_291 (Or.inl lk_M_134) mn_M_bad ms_M_bad mw_M_bad mh_M_bad ml_M_bad rfl rfl) mw_M_bad mi_M (Nat.le_of_ble_eq_true rfl) (Nat.le_of_ble_eq_true rfl) (fun b24 x23 => ?_)
    exact jm_V.athrowS (o := 2) (q := ("java/lang/IllegalStateException", T_X, 0)) rfl rfl dd_M_term_294
  refine jm_V.ite (fun _ => ?_) (fun _ => ?_)
  · refine jm_V.run (is := bk_M_term_100_4) (pc' := 106) (ls' := [(0, .ref 0)]) (st' := [.int 0, .ref 4, .int 0, .ref 4]) (x' := x) hok hT bk_M_term_100_4_ok rfl ?_
    refine jm_V.iald dd_M_term_106 ?_
    refine jm_V.run (is := bk_M_term_107_2) (pc' := 109) (ls' := [(0, .ref 0)]) (st' := [.int ((x.2.2 4 (Int32.toNatClampNeg 0)) + 1), .int 0, .ref 4]) (x' := x) hok hT bk_M_term_107_2_ok rfl ?_
    refine jm_V.iast hok dd_M_term_109 ?_
    refine jm_V.then_ (fun x25 => ?_)
    refine jm_V.run (is := bk_M_term_110_1) (pc' := 111) (ls' := [(0, .ref 0)]) (st' := [.ref 0]) (x' := x25) hok hT bk_M_term_110_1_ok rfl ?_
    refine jm_V.callV (av := [.ref 0]) (rest := []) hok (jm_Con.mono (c_M_scan hok hrec x25) (by omega)) (jm_Inv.obj (q := ("FilterReaderModel", T_M, 22)) dd_M_term_111 (Or.inl lk_M_122) mn_M_scan ms_M_scan mw_M_scan mh_M_scan ml_M_scan rfl rfl) mw_M_scan mi_M (Nat.le_of_ble_eq_true rfl) (Nat.le_of_ble_eq_true rfl) (fun x26 => ?_)
    refine jm_V.run (is := bk_M_term_114_4) (pc' := (if (x26.1 11) = 5 then 122 else 295)) (ls' := [(0, .ref 0)]) (st' := []) (x' := x26) hok hT bk_M_term_114_4_ok rfl ?_
    refine jm_V.ite (fun _ => ?_) (fun _ => ?_)
    · refine jm_V.run (is := bk_M_term_122_4) (pc' := 128) (ls' := [(0, .ref 0)]) (st' := [.int 2, .ref 4, .int 2, .ref 4]) (x' := x26) hok hT bk_M_term_122_4_ok rfl ?_
      refine jm_V.iald dd_M_term_128 ?_
      refine jm_V.run (is := bk_M_term_129_2) (pc' := 131) (ls' := [(0, .ref 0)]) (st' := [.int ((x26.2.2 4 (Int32.toNatClampNeg 2)) + 1), .int 2, .ref 4]) (x' := x26) hok hT bk_M_term_129_2_ok rfl ?_
      refine jm_V.iast hok dd_M_term_131 ?_
      refine jm_V.then_ (fun x27 => ?_)
      refine jm_V.run (is := bk_M_term_132_2) (pc' := 134) (ls' := [(0, .ref 0)]) (st' := [.int 1, .ref 0]) (x' := x27) hok hT bk_M_term_132_2_ok rfl ?_
      refine jm_V.callV (av := [.ref 0, .int 1]) (rest := []) hok (jm_Con.mono (c_M_string hok hrec 1 x27) (by omega)) (jm_Inv.obj (q := ("FilterReaderModel", T_M, 22)) dd_M_term_134 (Or.inl lk_M_250) mn_M_string ms_M_string mw_M_string mh_M_string ml_M_string rfl rfl) mw_M_string mi_M (Nat.le_of_ble_eq_true rfl) (Nat.le_of_ble_eq_true rfl) (fun x28 => ?_)
      refine jm_V.run (is := bk_M_term_137_1) (pc' := 295) (ls' := [(0, .ref 0)]) (st' := []) (x' := x28) hok hT bk_M_term_137_1_ok rfl ?_
      exact jl_M_term_295 hok hrec K x28
    · exact jl_M_term_295 hok hrec K x26
  refine jm_V.ite (fun _ => ?_) (fun _ => ?_)
  · refine jm_V.run (is := bk_M_term_140_4) (pc' := 146) (ls' := [(0, .ref 0)]) (st' := [.int 1, .ref 4, .int 1, .ref 4]) (x' := x) hok hT bk_M_term_140_4_ok rfl ?_
    refine jm_V.iald dd_M_term_146 ?_
    refine jm_V.run (is := bk_M_term_147_2) (pc' := 149) (ls' := [(0, .ref 0)]) (st' := [.int ((x.2.2 4 (Int32.toNatClampNeg 1)) + 1), .int 1, .ref 4]) (x' := x) hok hT bk_M_term_147_2_ok rfl ?_
    refine jm_V.iast hok dd_M_term_149 ?_
    refine jm_V.then_ (fun x29 => ?_)
    refine jm_V.run (is := bk_M_term_150_1) (pc' := 151) (ls' := [(0, .ref 0)]) (st' := [.ref 0]) (x' := x29) hok hT bk_M_term_150_1_ok rfl ?_
    refine jm_V.callV (av := [.ref 0]) (rest := []) hok (jm_Con.mono (c_M_scan hok hrec x29) (by omega)) (jm_Inv.obj (q := ("FilterReaderModel", T_M, 22)) dd_M_term_151 (Or.inl lk_M_122) mn_M_scan ms_M_scan mw_M_scan mh_M_scan ml_M_scan rfl rfl) mw_M_scan mi_M (Nat.le_of_ble_eq_true rfl) (Nat.le_of_ble_eq_true rfl) (fun x30 => ?_)
    refine jm_V.run (is := bk_M_term_154_1) (pc' := 295) (ls' := [(0, .ref 0)]) (st' := []) (x' := x30) hok hT bk_M_term_154_1_ok rfl ?_
    exact jl_M_term_295 hok hrec K x30
  refine jm_V.ite (fun _ => ?_) (fun _ => ?_)
  · refine jm_V.run (is := bk_M_term_200_1) (pc' := 201) (ls' := [(0, .ref 0)]) (st' := [.ref 0]) (x' := x) hok hT bk_M_term_200_1_ok rfl ?_
    refine jm_V.callV (av := [.ref 0]) (rest := []) hok (jm_Con.mono (c_M_scan hok hrec x) (by omega)) (jm_Inv.obj (q := ("FilterReaderModel", T_M, 22)) dd_M_term_201 (Or.inl lk_M_122) mn_M_scan ms_M_scan mw_M_scan mh_M_scan ml_M_scan rfl rfl) mw_M_scan mi_M (Nat.le_of_ble_eq_true rfl) (Nat.le_of_ble_eq_true rfl) (fun x31 => ?_)
    refine jm_V.run (is := bk_M_term_204_1) (pc' := 205) (ls' := [(0, .ref 0)]) (st' := [.ref 0]) (x' := x31) hok hT bk_M_term_204_1_ok rfl ?_
    refine jm_V.callV (av := [.ref 0]) (rest := []) hok (jm_Con.mono (hrec 0 [.ref 0] x31) (by omega)) (jm_Inv.obj (q := ("FilterReaderModel", T_M, 22)) dd_M_term_205 (Or.inl lk_M_125) mn_M_program ms_M_program mw_M_program mh_M_program ml_M_program rfl rfl) mw_M_program mi_M (Nat.le_of_ble_eq_true rfl) (Nat.le_of_ble_eq_true rfl) (fun x32 => ?_)
    refine jm_V.run (is := bk_M_term_208_2) (pc' := 211) (ls' := [(0, .ref 0)]) (st' := [.int 17, .ref 0]) (x' := x32) hok hT bk_M_term_208_2_ok rfl ?_
    refine jm_V.callV (av := [.ref 0, .int 17]) (rest := []) hok (jm_Con.mono (c_M_need_i hok hrec 17 x32) (by omega)) (jm_Inv.obj (q := ("FilterReaderModel", T_M, 22)) dd_M_term_211 (Or.inl lk_M_199) mn_M_need_i ms_M_need_i mw_M_need_i mh_M_need_i ml_M_need_i rfl rfl) mw_M_need_i mi_M (Nat.le_of_ble_eq_true rfl) (Nat.le_of_ble_eq_true rfl) (fun x33 => ?_)
    refine jm_V.run (is := bk_M_term_214_1) (pc' := 295) (ls' := [(0, .ref 0)]) (st' := []) (x' := x33) hok hT bk_M_term_214_1_ok rfl ?_
    exact jl_M_term_295 hok hrec K x33
  refine jm_V.ite (fun _ => ?_) (fun _ => ?_)
  · refine jm_V.run (is := bk_M_term_286_3) (pc' := 291) (ls' := [(0, .ref 0)]) (st' := [.int (x.1 9), .ref 0]) (x' := x) hok hT bk_M_term_286_3_ok rfl ?_
    refine jm_V.callA (av := [.ref 0, .int (x.1 9)]) (rest := []) hok (jm_Con.mono (c_M_bad hok hrec (x.1 9) x) (by omega)) (jm_Inv.obj (q := ("FilterReaderModel", T_M, 22)) dd_M_term_291 (Or.inl lk_M_134) mn_M_bad ms_M_bad mw_M_bad mh_M_bad ml_M_bad rfl rfl) mw_M_bad mi_M (Nat.le_of_ble_eq_true rfl) (Nat.le_of_ble_eq_true rfl) (fun b35 x34 => ?_)
    exact jm_V.athrowS (o := 2) (q := ("java/lang/IllegalStateException", T_X, 0)) rfl rfl dd_M_term_294
  refine jm_V.ite (fun _ => ?_) (fun _ => ?_)
  · refine jm_V.run (is := bk_M_term_217_4) (pc' := 224) (ls' := [(0, .ref 0)]) (st' := [.int 9, .ref 4, .int 9, .ref 4]) (x' := x) hok hT bk_M_term_217_4_ok rfl ?_
    refine jm_V.iald dd_M_term_224 ?_
    refine jm_V.run (is := bk_M_term_225_2) (pc' := 227) (ls' := [(0, .ref 0)]) (st' := [.int ((x.2.2 4 (Int32.toNatClampNeg 9)) + 1), .int 9, .ref 4]) (x' := x) hok hT bk_M_term_225_2_ok rfl ?_
    refine jm_V.iast hok dd_M_term_227 ?_
    refine jm_V.then_ (fun x36 => ?_)
    refine jm_V.run (is := bk_M_term_228_1) (pc' := 229) (ls' := [(0, .ref 0)]) (st' := [.ref 0]) (x' := x36) hok hT bk_M_term_228_1_ok rfl ?_
    refine jm_V.callV (av := [.ref 0]) (rest := []) hok (jm_Con.mono (c_M_scan hok hrec x36) (by omega)) (jm_Inv.obj (q := ("FilterReaderModel", T_M, 22)) dd_M_term_229 (Or.inl lk_M_122) mn_M_scan ms_M_scan mw_M_scan mh_M_scan ml_M_scan rfl rfl) mw_M_scan mi_M (Nat.le_of_ble_eq_true rfl) (Nat.le_of_ble_eq_true rfl) (fun x37 => ?_)
    refine jm_V.run (is := bk_M_term_232_4) (pc' := (if (x37.1 11) = 19 then 245 else 241)) (ls' := [(0, .ref 0)]) (st' := []) (x' := x37) hok hT bk_M_term_232_4_ok rfl ?_
    refine jm_V.ite (fun _ => ?_) (fun _ => ?_)
    · exact jj_M_term_245 hok hrec x37
    · refine jm_V.run (is := bk_M_term_241_1) (pc' := 242) (ls' := [(0, .ref 0)]) (st' := [.ref 0]) (x' := x37) hok hT bk_M_term_241_1_ok rfl ?_
      refine jm_V.callV (av := [.ref 0]) (rest := []) hok (jm_Con.mono (hrec 0 [.ref 0] x37) (by omega)) (jm_Inv.obj (q := ("FilterReaderModel", T_M, 22)) dd_M_term_242 (Or.inl lk_M_125) mn_M_program ms_M_program mw_M_program mh_M_program ml_M_program rfl rfl) mw_M_program mi_M (Nat.le_of_ble_eq_true rfl) (Nat.le_of_ble_eq_true rfl) (fun x38 => ?_)
      exact jj_M_term_245 hok hrec x38
  refine jm_V.ite (fun _ => ?_) (fun _ => ?_)
  · refine jm_V.run (is := bk_M_term_286_3) (pc' := 291) (ls' := [(0, .ref 0)]) (st' := [.int (x.1 9), .ref 0]) (x' := x) hok hT bk_M_term_286_3_ok rfl ?_
    refine jm_V.callA (av := [.ref 0, .int (x.1 9)]) (rest := []) hok (jm_Con.mono (c_M_bad hok hrec (x.1 9) x) (by omega)) (jm_Inv.obj (q := ("FilterReaderModel", T_M, 22)) dd_M_term_291 (Or.inl lk_M_134) mn_M_bad ms_M_bad mw_M_bad mh_M_bad ml_M_bad rfl rfl) mw_M_bad mi_M (Nat.le_of_ble_eq_true rfl) (Nat.le_of_ble_eq_true rfl) (fun b40 x39 => ?_)
    exact jm_V.athrowS (o := 2) (q := ("java/lang/IllegalStateException", T_X, 0)) rfl rfl dd_M_term_294
  refine jm_V.ite (fun _ => ?_) (fun _ => ?_)
  · refine jm_V.run (is := bk_M_term_254_1) (pc' := 255) (ls' := [(0, .ref 0)]) (st' := [.ref 0]) (x' := x) hok hT bk_M_term_254_1_ok rfl ?_
    refine jm_V.callV (av := [.ref 0]) (rest := []) hok (jm_Con.mono (c_M_object hok hrec x) (by omega)) (jm_Inv.obj (q := ("FilterReaderModel", T_M, 22)) dd_M_term_255 (Or.inl lk_M_257) mn_M_object ms_M_object mw_M_object mh_M_object ml_M_object rfl rfl) mw_M_object mi_M (Nat.le_of_ble_eq_true rfl) (Nat.le_of_ble_eq_true rfl) (fun x41 => ?_)
    refine jm_V.run (is := bk_M_term_258_1) (pc' := 295) (ls' := [(0, .ref 0)]) (st' := []) (x' := x41) hok hT bk_M_term_258_1_ok rfl ?_
    exact jl_M_term_295 hok hrec K x41
  refine jm_V.run (is := bk_M_term_286_3) (pc' := 291) (ls' := [(0, .ref 0)]) (st' := [.int (x.1 9), .ref 0]) (x' := x) hok hT bk_M_term_286_3_ok rfl ?_
  refine jm_V.callA (av := [.ref 0, .int (x.1 9)]) (rest := []) hok (jm_Con.mono (c_M_bad hok hrec (x.1 9) x) (by omega)) (jm_Inv.obj (q := ("FilterReaderModel", T_M, 22)) dd_M_term_291 (Or.inl lk_M_134) mn_M_bad ms_M_bad mw_M_bad mh_M_bad ml_M_bad rfl rfl) mw_M_bad mi_M (Nat.le_of_ble_eq_true rfl) (Nat.le_of_ble_eq_true rfl) (fun b43 x42 => ?_)
  exact jm_V.athrowS (o := 2) (q := ("java/lang/IllegalStateException", T_X, 0)) rfl rfl dd_M_term_294
abbrev bk_M_another_0_4 : List (Nat × Instr × Nat) := [(0, .aload_n 0, 1), (1, .getfield 281, 3), (4, .bipush 10, 2), (6, .if_icmp .ne 12, 3)]
theorem bk_M_another_0_4_ok : jm_at mt_M_another.2.1 bk_M_another_0_4 = true := by decide +kernel
abbrev bk_M_another_9_3 : List (Nat × Instr × Nat) := [(9, .aload_n 0, 1), (10, .aload_n 0, 1), (11, .getfield 131, 3)]
theorem bk_M_another_9_3_ok : jm_at mt_M_another.2.1 bk_M_another_9_3 = true := by decide +kernel
abbrev bk_M_another_18_6 : List (Nat × Instr × Nat) := [(18, .aload_n 0, 1), (19, .dup, 1), (20, .getfield 281, 3), (23, .iconst 1, 1), (24, .iadd, 1), (25, .putfield 281, 3)]
theorem bk_M_another_18_6_ok : jm_at mt_M_another.2.1 bk_M_another_18_6 = true := by decide +kernel
theorem dd_M_another_14 : decode mt_M_another.2.1 14 = .ok (.invokevirtual 134, 3) := by decide +kernel
theorem dd_M_another_17 : decode mt_M_another.2.1 17 = .ok (.athrow, 1) := by decide +kernel
theorem dd_M_another_28 : decode mt_M_another.2.1 28 = .ok (.return_, 1) := by decide +kernel
def f_M_another (K : Nat) (g : jm_Rec)  (x : jm_X) : Option jm_R := (if (x.1 21) = 10 then jm_bA (f_M_bad K g (x.1 9) x) (fun b2 x1 => (if b2 = 2 then some (.inr ("java/lang/IllegalStateException", x1)) else none)) else jm_then (va_up x.1 21 ((x.1 21) + 1), x.2) (fun x3 => some (.inl (none, x3))))
set_option maxRecDepth 100000 in
set_option maxHeartbeats 4000000 in
theorem c_M_another {l : Launch} {D : va_G} {ad : Nat → Nat} {aC : Nat → ClassId} {b0 : Nat} {K d0 : Nat} {g : jm_Rec} (hok : jm_Ok (jm_PP l D clR ad aC shR b0 0)) (hrec : ∀ (t : Nat) (av : List Value) (x : jm_X), jm_Con (jm_PP l D clR ad aC shR b0 0) (rcR t) d0 av x (g t av x))  (x : jm_X) : jm_Con (jm_PP l D clR ad aC shR b0 0) mt_M_another (d0 + 2) [.ref 0] x (f_M_another K g  x) := by
  refine jm_Con.of (plainFor_of_name (by decide +kernel)) (Nat.le_of_ble_eq_true rfl) ?_
  have hT := tk_M (l := l) (D := D) (ad := ad) (aC := aC) (b0 := b0)
  unfold f_M_another
  show jm_V _ _ _ 0 [(0, .ref 0)] [] x _
  refine jm_V.run (is := bk_M_another_0_4) (pc' := (if (x.1 21) = 10 then 9 else 18)) (ls' := [(0, .ref 0)]) (st' := []) (x' := x) hok hT bk_M_another_0_4_ok rfl ?_
  refine jm_V.ite (fun _ => ?_) (fun _ => ?_)
  · refine jm_V.run (is := bk_M_another_9_3) (pc' := 14) (ls' := [(0, .ref 0)]) (st' := [.int (x.1 9), .ref 0]) (x' := x) hok hT bk_M_another_9_3_ok rfl ?_
    refine jm_V.callA (av := [.ref 0, .int (x.1 9)]) (rest := []) hok (jm_Con.mono (c_M_bad hok hrec (x.1 9) x) (by omega)) (jm_Inv.obj (q := ("FilterReaderModel", T_M, 22)) dd_M_another_14 (Or.inl lk_M_134) mn_M_bad ms_M_bad mw_M_bad mh_M_bad ml_M_bad rfl rfl) mw_M_bad mi_M (Nat.le_of_ble_eq_true rfl) (Nat.le_of_ble_eq_true rfl) (fun b2 x1 => ?_)
    exact jm_V.athrowS (o := 2) (q := ("java/lang/IllegalStateException", T_X, 0)) rfl rfl dd_M_another_17
  · refine jm_V.run (is := bk_M_another_18_6) (pc' := 28) (ls' := [(0, .ref 0)]) (st' := []) (x' := (va_up x.1 21 ((x.1 21) + 1), x.2)) hok hT bk_M_another_18_6_ok rfl ?_
    refine jm_V.then_ (fun x3 => ?_)
    exact jm_V.vret rfl dd_M_another_28
abbrev bk_M_know_0_5 : List (Nat × Instr × Nat) := [(0, .aload_n 0, 1), (1, .getfield 80, 3), (4, .aload_n 0, 1), (5, .getfield 113, 3), (8, .iload_n 1, 1)]
theorem bk_M_know_0_5_ok : jm_at mt_M_know.2.1 bk_M_know_0_5 = true := by decide +kernel
abbrev bk_M_know_10_5 : List (Nat × Instr × Nat) := [(10, .aload_n 0, 1), (11, .getfield 83, 3), (14, .aload_n 0, 1), (15, .getfield 113, 3), (18, .iload_n 2, 1)]
theorem bk_M_know_10_5_ok : jm_at mt_M_know.2.1 bk_M_know_10_5 = true := by decide +kernel
abbrev bk_M_know_20_5 : List (Nat × Instr × Nat) := [(20, .aload_n 0, 1), (21, .getfield 86, 3), (24, .aload_n 0, 1), (25, .getfield 113, 3), (28, .iload_n 3, 1)]
theorem bk_M_know_20_5_ok : jm_at mt_M_know.2.1 bk_M_know_20_5 = true := by decide +kernel
abbrev bk_M_know_30_5 : List (Nat × Instr × Nat) := [(30, .aload_n 0, 1), (31, .getfield 89, 3), (34, .aload_n 0, 1), (35, .getfield 113, 3), (38, .iload 4, 2)]
theorem bk_M_know_30_5_ok : jm_at mt_M_know.2.1 bk_M_know_30_5 = true := by decide +kernel
abbrev bk_M_know_41_5 : List (Nat × Instr × Nat) := [(41, .aload_n 0, 1), (42, .getfield 92, 3), (45, .aload_n 0, 1), (46, .getfield 113, 3), (49, .iload 5, 2)]
theorem bk_M_know_41_5_ok : jm_at mt_M_know.2.1 bk_M_know_41_5 = true := by decide +kernel
abbrev bk_M_know_52_6 : List (Nat × Instr × Nat) := [(52, .aload_n 0, 1), (53, .dup, 1), (54, .getfield 113, 3), (57, .iconst 1, 1), (58, .iadd, 1), (59, .putfield 113, 3)]
theorem bk_M_know_52_6_ok : jm_at mt_M_know.2.1 bk_M_know_52_6 = true := by decide +kernel
theorem dd_M_know_62 : decode mt_M_know.2.1 62 = .ok (.return_, 1) := by decide +kernel
theorem dd_M_know_51 : decode mt_M_know.2.1 51 = .ok (.bastore, 1) := by decide +kernel
theorem dd_M_know_40 : decode mt_M_know.2.1 40 = .ok (.iastore, 1) := by decide +kernel
theorem dd_M_know_29 : decode mt_M_know.2.1 29 = .ok (.iastore, 1) := by decide +kernel
theorem dd_M_know_19 : decode mt_M_know.2.1 19 = .ok (.iastore, 1) := by decide +kernel
theorem dd_M_know_9 : decode mt_M_know.2.1 9 = .ok (.iastore, 1) := by decide +kernel
def f_M_know (K : Nat) (g : jm_Rec) (a1 : Int32) (a2 : Int32) (a3 : Int32) (a4 : Int32) (a5 : Int32) (x : jm_X) : Option jm_R := (if jm_in shR 5 .int (x.1 15) then jm_then (jm_ua x 5 (x.1 15) a1) (fun x1 => (if jm_in shR 6 .int (x1.1 15) then jm_then (jm_ua x1 6 (x1.1 15) a2) (fun x2 => (if jm_in shR 7 .int (x2.1 15) then jm_then (jm_ua x2 7 (x2.1 15) a3) (fun x3 => (if jm_in shR 8 .int (x3.1 15) then jm_then (jm_ua x3 8 (x3.1 15) a4) (fun x4 => (if jm_in shR 9 .boolean (x4.1 15) then jm_then (jm_ua x4 9 (x4.1 15) (vp_nar .boolean a5)) (fun x5 => jm_then (va_up x5.1 15 ((x5.1 15) + 1), x5.2) (fun x6 => some (.inl (none, x6)))) else none)) else none)) else none)) else none)) else none)
set_option maxRecDepth 100000 in
set_option maxHeartbeats 4000000 in
theorem c_M_know {l : Launch} {D : va_G} {ad : Nat → Nat} {aC : Nat → ClassId} {b0 : Nat} {K d0 : Nat} {g : jm_Rec} (hok : jm_Ok (jm_PP l D clR ad aC shR b0 0)) (hrec : ∀ (t : Nat) (av : List Value) (x : jm_X), jm_Con (jm_PP l D clR ad aC shR b0 0) (rcR t) d0 av x (g t av x)) (a1 : Int32) (a2 : Int32) (a3 : Int32) (a4 : Int32) (a5 : Int32) (x : jm_X) : jm_Con (jm_PP l D clR ad aC shR b0 0) mt_M_know (d0 + 1) [.ref 0, .int a1, .int a2, .int a3, .int a4, .int a5] x (f_M_know K g a1 a2 a3 a4 a5 x) := by
  refine jm_Con.of (plainFor_of_name (by decide +kernel)) (Nat.le_of_ble_eq_true rfl) ?_
  have hT := tk_M (l := l) (D := D) (ad := ad) (aC := aC) (b0 := b0)
  unfold f_M_know
  show jm_V _ _ _ 0 [(0, .ref 0), (1, .int a1), (2, .int a2), (3, .int a3), (4, .int a4), (5, .int a5)] [] x _
  refine jm_V.run (is := bk_M_know_0_5) (pc' := 9) (ls' := [(0, .ref 0), (1, .int a1), (2, .int a2), (3, .int a3), (4, .int a4), (5, .int a5)]) (st' := [.int a1, .int (x.1 15), .ref 5]) (x' := x) hok hT bk_M_know_0_5_ok rfl ?_
  refine jm_V.iast hok dd_M_know_9 ?_
  refine jm_V.then_ (fun x1 => ?_)
  refine jm_V.run (is := bk_M_know_10_5) (pc' := 19) (ls' := [(0, .ref 0), (1, .int a1), (2, .int a2), (3, .int a3), (4, .int a4), (5, .int a5)]) (st' := [.int a2, .int (x1.1 15), .ref 6]) (x' := x1) hok hT bk_M_know_10_5_ok rfl ?_
  refine jm_V.iast hok dd_M_know_19 ?_
  refine jm_V.then_ (fun x2 => ?_)
  refine jm_V.run (is := bk_M_know_20_5) (pc' := 29) (ls' := [(0, .ref 0), (1, .int a1), (2, .int a2), (3, .int a3), (4, .int a4), (5, .int a5)]) (st' := [.int a3, .int (x2.1 15), .ref 7]) (x' := x2) hok hT bk_M_know_20_5_ok rfl ?_
  refine jm_V.iast hok dd_M_know_29 ?_
  refine jm_V.then_ (fun x3 => ?_)
  refine jm_V.run (is := bk_M_know_30_5) (pc' := 40) (ls' := [(0, .ref 0), (1, .int a1), (2, .int a2), (3, .int a3), (4, .int a4), (5, .int a5)]) (st' := [.int a4, .int (x3.1 15), .ref 8]) (x' := x3) hok hT bk_M_know_30_5_ok rfl ?_
  refine jm_V.iast hok dd_M_know_40 ?_
  refine jm_V.then_ (fun x4 => ?_)
  refine jm_V.run (is := bk_M_know_41_5) (pc' := 51) (ls' := [(0, .ref 0), (1, .int a1), (2, .int a2), (3, .int a3), (4, .int a4), (5, .int a5)]) (st' := [.int a5, .int (x4.1 15), .ref 9]) (x' := x4) hok hT bk_M_know_41_5_ok rfl ?_
  refine jm_V.zast hok dd_M_know_51 ?_
  refine jm_V.then_ (fun x5 => ?_)
  refine jm_V.run (is := bk_M_know_52_6) (pc' := 62) (ls' := [(0, .ref 0), (1, .int a1), (2, .int a2), (3, .int a3), (4, .int a4), (5, .int a5)]) (st' := []) (x' := (va_up x5.1 15 ((x5.1 15) + 1), x5.2)) hok hT bk_M_know_52_6_ok rfl ?_
  refine jm_V.then_ (fun x6 => ?_)
  exact jm_V.vret rfl dd_M_know_62
abbrev bk_M_entryOfPattern_0_4 : List (Nat × Instr × Nat) := [(0, .aload_n 0, 1), (1, .getfield 76, 3), (4, .bipush 33, 2), (6, .dup2, 1)]
theorem bk_M_entryOfPattern_0_4_ok : jm_at mt_M_entryOfPattern.2.1 bk_M_entryOfPattern_0_4 = true := by decide +kernel
abbrev bk_M_entryOfPattern_8_2 : List (Nat × Instr × Nat) := [(8, .iconst 1, 1), (9, .iadd, 1)]
theorem bk_M_entryOfPattern_8_2_ok : jm_at mt_M_entryOfPattern.2.1 bk_M_entryOfPattern_8_2 = true := by decide +kernel
abbrev bk_M_entryOfPattern_11_4 : List (Nat × Instr × Nat) := [(11, .aload_n 0, 1), (12, .getfield 128, 3), (15, .iconst 3, 1), (16, .if_icmp .ne 60, 3)]
theorem bk_M_entryOfPattern_11_4_ok : jm_at mt_M_entryOfPattern.2.1 bk_M_entryOfPattern_11_4 = true := by decide +kernel
abbrev bk_M_entryOfPattern_19_1 : List (Nat × Instr × Nat) := [(19, .aload_n 0, 1)]
theorem bk_M_entryOfPattern_19_1_ok : jm_at mt_M_entryOfPattern.2.1 bk_M_entryOfPattern_19_1 = true := by decide +kernel
abbrev bk_M_entryOfPattern_23_4 : List (Nat × Instr × Nat) := [(23, .aload_n 0, 1), (24, .getfield 76, 3), (27, .bipush 7, 2), (29, .dup2, 1)]
theorem bk_M_entryOfPattern_23_4_ok : jm_at mt_M_entryOfPattern.2.1 bk_M_entryOfPattern_23_4 = true := by decide +kernel
abbrev bk_M_entryOfPattern_31_2 : List (Nat × Instr × Nat) := [(31, .iconst 1, 1), (32, .iadd, 1)]
theorem bk_M_entryOfPattern_31_2_ok : jm_at mt_M_entryOfPattern.2.1 bk_M_entryOfPattern_31_2 = true := by decide +kernel
abbrev bk_M_entryOfPattern_34_15 : List (Nat × Instr × Nat) := [(34, .aload_n 0, 1), (35, .iconst 2, 1), (36, .aload_n 0, 1), (37, .getfield 131, 3), (40, .iconst 1, 1), (41, .iadd, 1), (42, .aload_n 0, 1), (43, .getfield 119, 3), (46, .aload_n 0, 1), (47, .getfield 131, 3), (50, .isub, 1), (51, .iconst 1, 1), (52, .isub, 1), (53, .iconst 0, 1), (54, .iconst 0, 1)]
theorem bk_M_entryOfPattern_34_15_ok : jm_at mt_M_entryOfPattern.2.1 bk_M_entryOfPattern_34_15 = true := by decide +kernel
abbrev bk_M_entryOfPattern_58_1 : List (Nat × Instr × Nat) := [(58, .aload_n 0, 1)]
theorem bk_M_entryOfPattern_58_1_ok : jm_at mt_M_entryOfPattern.2.1 bk_M_entryOfPattern_58_1 = true := by decide +kernel
abbrev bk_M_entryOfPattern_62_2 : List (Nat × Instr × Nat) := [(62, .aload_n 0, 1), (63, .bipush 22, 2)]
theorem bk_M_entryOfPattern_62_2_ok : jm_at mt_M_entryOfPattern.2.1 bk_M_entryOfPattern_62_2 = true := by decide +kernel
abbrev bk_M_entryOfPattern_68_1 : List (Nat × Instr × Nat) := [(68, .ifCond .eq 7, 3)]
theorem bk_M_entryOfPattern_68_1_ok : jm_at mt_M_entryOfPattern.2.1 bk_M_entryOfPattern_68_1 = true := by decide +kernel
abbrev bk_M_entryOfPattern_71_1 : List (Nat × Instr × Nat) := [(71, .aload_n 0, 1)]
theorem bk_M_entryOfPattern_71_1_ok : jm_at mt_M_entryOfPattern.2.1 bk_M_entryOfPattern_71_1 = true := by decide +kernel
abbrev bk_M_entryOfPattern_76_4 : List (Nat × Instr × Nat) := [(76, .aload_n 0, 1), (77, .getfield 128, 3), (80, .iconst 1, 1), (81, .if_icmp .ne 21, 3)]
theorem bk_M_entryOfPattern_76_4_ok : jm_at mt_M_entryOfPattern.2.1 bk_M_entryOfPattern_76_4 = true := by decide +kernel
abbrev bk_M_entryOfPattern_84_4 : List (Nat × Instr × Nat) := [(84, .aload_n 0, 1), (85, .getfield 76, 3), (88, .bipush 7, 2), (90, .dup2, 1)]
theorem bk_M_entryOfPattern_84_4_ok : jm_at mt_M_entryOfPattern.2.1 bk_M_entryOfPattern_84_4 = true := by decide +kernel
abbrev bk_M_entryOfPattern_92_2 : List (Nat × Instr × Nat) := [(92, .iconst 1, 1), (93, .iadd, 1)]
theorem bk_M_entryOfPattern_92_2_ok : jm_at mt_M_entryOfPattern.2.1 bk_M_entryOfPattern_92_2 = true := by decide +kernel
abbrev bk_M_entryOfPattern_95_1 : List (Nat × Instr × Nat) := [(95, .aload_n 0, 1)]
theorem bk_M_entryOfPattern_95_1_ok : jm_at mt_M_entryOfPattern.2.1 bk_M_entryOfPattern_95_1 = true := by decide +kernel
abbrev bk_M_entryOfPattern_99_1 : List (Nat × Instr × Nat) := [(99, .goto 50, 3)]
theorem bk_M_entryOfPattern_99_1_ok : jm_at mt_M_entryOfPattern.2.1 bk_M_entryOfPattern_99_1 = true := by decide +kernel
abbrev bk_M_entryOfPattern_102_4 : List (Nat × Instr × Nat) := [(102, .aload_n 0, 1), (103, .getfield 128, 3), (106, .iconst 5, 1), (107, .if_icmp .ne 11, 3)]
theorem bk_M_entryOfPattern_102_4_ok : jm_at mt_M_entryOfPattern.2.1 bk_M_entryOfPattern_102_4 = true := by decide +kernel
abbrev bk_M_entryOfPattern_110_2 : List (Nat × Instr × Nat) := [(110, .aload_n 0, 1), (111, .iconst 0, 1)]
theorem bk_M_entryOfPattern_110_2_ok : jm_at mt_M_entryOfPattern.2.1 bk_M_entryOfPattern_110_2 = true := by decide +kernel
abbrev bk_M_entryOfPattern_115_1 : List (Nat × Instr × Nat) := [(115, .goto 34, 3)]
theorem bk_M_entryOfPattern_115_1_ok : jm_at mt_M_entryOfPattern.2.1 bk_M_entryOfPattern_115_1 = true := by decide +kernel
abbrev bk_M_entryOfPattern_118_2 : List (Nat × Instr × Nat) := [(118, .aload_n 0, 1), (119, .bipush 16, 2)]
theorem bk_M_entryOfPattern_118_2_ok : jm_at mt_M_entryOfPattern.2.1 bk_M_entryOfPattern_118_2 = true := by decide +kernel
abbrev bk_M_entryOfPattern_124_1 : List (Nat × Instr × Nat) := [(124, .ifCond .eq 16, 3)]
theorem bk_M_entryOfPattern_124_1_ok : jm_at mt_M_entryOfPattern.2.1 bk_M_entryOfPattern_124_1 = true := by decide +kernel
abbrev bk_M_entryOfPattern_140_3 : List (Nat × Instr × Nat) := [(140, .aload_n 0, 1), (141, .aload_n 0, 1), (142, .getfield 131, 3)]
theorem bk_M_entryOfPattern_140_3_ok : jm_at mt_M_entryOfPattern.2.1 bk_M_entryOfPattern_140_3 = true := by decide +kernel
abbrev bk_M_entryOfPattern_127_1 : List (Nat × Instr × Nat) := [(127, .aload_n 0, 1)]
theorem bk_M_entryOfPattern_127_1_ok : jm_at mt_M_entryOfPattern.2.1 bk_M_entryOfPattern_127_1 = true := by decide +kernel
abbrev bk_M_entryOfPattern_131_2 : List (Nat × Instr × Nat) := [(131, .aload_n 0, 1), (132, .bipush 17, 2)]
theorem bk_M_entryOfPattern_131_2_ok : jm_at mt_M_entryOfPattern.2.1 bk_M_entryOfPattern_131_2 = true := by decide +kernel
abbrev bk_M_entryOfPattern_137_1 : List (Nat × Instr × Nat) := [(137, .goto 12, 3)]
theorem bk_M_entryOfPattern_137_1_ok : jm_at mt_M_entryOfPattern.2.1 bk_M_entryOfPattern_137_1 = true := by decide +kernel
abbrev bk_M_entryOfPattern_149_2 : List (Nat × Instr × Nat) := [(149, .aload_n 0, 1), (150, .bipush 22, 2)]
theorem bk_M_entryOfPattern_149_2_ok : jm_at mt_M_entryOfPattern.2.1 bk_M_entryOfPattern_149_2 = true := by decide +kernel
abbrev bk_M_entryOfPattern_155_1 : List (Nat × Instr × Nat) := [(155, .aload_n 0, 1)]
theorem bk_M_entryOfPattern_155_1_ok : jm_at mt_M_entryOfPattern.2.1 bk_M_entryOfPattern_155_1 = true := by decide +kernel
theorem dd_M_entryOfPattern_20 : decode mt_M_entryOfPattern.2.1 20 = .ok (.invokevirtual 287, 3) := by decide +kernel
theorem dd_M_entryOfPattern_55 : decode mt_M_entryOfPattern.2.1 55 = .ok (.invokevirtual 202, 3) := by decide +kernel
theorem dd_M_entryOfPattern_59 : decode mt_M_entryOfPattern.2.1 59 = .ok (.invokevirtual 122, 3) := by decide +kernel
theorem dd_M_entryOfPattern_65 : decode mt_M_entryOfPattern.2.1 65 = .ok (.invokevirtual 184, 3) := by decide +kernel
theorem dd_M_entryOfPattern_72 : decode mt_M_entryOfPattern.2.1 72 = .ok (.invokevirtual 284, 3) := by decide +kernel
theorem dd_M_entryOfPattern_33 : decode mt_M_entryOfPattern.2.1 33 = .ok (.iastore, 1) := by decide +kernel
theorem dd_M_entryOfPattern_30 : decode mt_M_entryOfPattern.2.1 30 = .ok (.iaload, 1) := by decide +kernel
theorem dd_M_entryOfPattern_96 : decode mt_M_entryOfPattern.2.1 96 = .ok (.invokevirtual 122, 3) := by decide +kernel
theorem dd_M_entryOfPattern_94 : decode mt_M_entryOfPattern.2.1 94 = .ok (.iastore, 1) := by decide +kernel
theorem dd_M_entryOfPattern_91 : decode mt_M_entryOfPattern.2.1 91 = .ok (.iaload, 1) := by decide +kernel
theorem dd_M_entryOfPattern_112 : decode mt_M_entryOfPattern.2.1 112 = .ok (.invokevirtual 250, 3) := by decide +kernel
theorem dd_M_entryOfPattern_121 : decode mt_M_entryOfPattern.2.1 121 = .ok (.invokevirtual 184, 3) := by decide +kernel
theorem dd_M_entryOfPattern_145 : decode mt_M_entryOfPattern.2.1 145 = .ok (.invokevirtual 134, 3) := by decide +kernel
theorem dd_M_entryOfPattern_148 : decode mt_M_entryOfPattern.2.1 148 = .ok (.athrow, 1) := by decide +kernel
theorem dd_M_entryOfPattern_128 : decode mt_M_entryOfPattern.2.1 128 = .ok (.invokevirtual 125, 3) := by decide +kernel
theorem dd_M_entryOfPattern_134 : decode mt_M_entryOfPattern.2.1 134 = .ok (.invokevirtual 199, 3) := by decide +kernel
theorem dd_M_entryOfPattern_10 : decode mt_M_entryOfPattern.2.1 10 = .ok (.iastore, 1) := by decide +kernel
theorem dd_M_entryOfPattern_7 : decode mt_M_entryOfPattern.2.1 7 = .ok (.iaload, 1) := by decide +kernel
theorem dd_M_entryOfPattern_75 : decode mt_M_entryOfPattern.2.1 75 = .ok (.return_, 1) := by decide +kernel
theorem dd_M_entryOfPattern_152 : decode mt_M_entryOfPattern.2.1 152 = .ok (.invokevirtual 199, 3) := by decide +kernel
theorem dd_M_entryOfPattern_156 : decode mt_M_entryOfPattern.2.1 156 = .ok (.invokevirtual 284, 3) := by decide +kernel
theorem dd_M_entryOfPattern_159 : decode mt_M_entryOfPattern.2.1 159 = .ok (.return_, 1) := by decide +kernel
def J_M_entryOfPattern_75 (K : Nat) (g : jm_Rec)  (x : jm_X) : Option jm_R := some (.inl (none, x))
set_option maxRecDepth 100000 in
set_option maxHeartbeats 4000000 in
theorem jj_M_entryOfPattern_75 {l : Launch} {D : va_G} {ad : Nat → Nat} {aC : Nat → ClassId} {b0 : Nat} {K d0 : Nat} {g : jm_Rec} (hok : jm_Ok (jm_PP l D clR ad aC shR b0 0)) (hrec : ∀ (t : Nat) (av : List Value) (x : jm_X), jm_Con (jm_PP l D clR ad aC shR b0 0) (rcR t) d0 av x (g t av x))  (x : jm_X) : jm_V (jm_PP l D clR ad aC shR b0 0) mt_M_entryOfPattern (d0 + 6) 75 [] [] x (J_M_entryOfPattern_75 K g  x) := by
  have hT := tk_M (l := l) (D := D) (ad := ad) (aC := aC) (b0 := b0)
  unfold J_M_entryOfPattern_75
  exact jm_V.vret rfl dd_M_entryOfPattern_75
def J_M_entryOfPattern_149 (K : Nat) (g : jm_Rec)  (x : jm_X) : Option jm_R := jm_bV (f_M_need_i K g 22 x) (fun x18 => jm_bV (g 2 [.ref 0] x18) (fun x19 => some (.inl (none, x19))))
set_option maxRecDepth 100000 in
set_option maxHeartbeats 4000000 in
theorem jj_M_entryOfPattern_149 {l : Launch} {D : va_G} {ad : Nat → Nat} {aC : Nat → ClassId} {b0 : Nat} {K d0 : Nat} {g : jm_Rec} (hok : jm_Ok (jm_PP l D clR ad aC shR b0 0)) (hrec : ∀ (t : Nat) (av : List Value) (x : jm_X), jm_Con (jm_PP l D clR ad aC shR b0 0) (rcR t) d0 av x (g t av x))  (x : jm_X) : jm_V (jm_PP l D clR ad aC shR b0 0) mt_M_entryOfPattern (d0 + 6) 149 [(0, .ref 0)] [] x (J_M_entryOfPattern_149 K g  x) := by
  have hT := tk_M (l := l) (D := D) (ad := ad) (aC := aC) (b0 := b0)
  unfold J_M_entryOfPattern_149
  refine jm_V.run (is := bk_M_entryOfPattern_149_2) (pc' := 152) (ls' := [(0, .ref 0)]) (st' := [.int 22, .ref 0]) (x' := x) hok hT bk_M_entryOfPattern_149_2_ok rfl ?_
  refine jm_V.callV (av := [.ref 0, .int 22]) (rest := []) hok (jm_Con.mono (c_M_need_i hok hrec 22 x) (by omega)) (jm_Inv.obj (q := ("FilterReaderModel", T_M, 22)) dd_M_entryOfPattern_152 (Or.inl lk_M_199) mn_M_need_i ms_M_need_i mw_M_need_i mh_M_need_i ml_M_need_i rfl rfl) mw_M_need_i mi_M (Nat.le_of_ble_eq_true rfl) (Nat.le_of_ble_eq_true rfl) (fun x18 => ?_)
  refine jm_V.run (is := bk_M_entryOfPattern_155_1) (pc' := 156) (ls' := [(0, .ref 0)]) (st' := [.ref 0]) (x' := x18) hok hT bk_M_entryOfPattern_155_1_ok rfl ?_
  refine jm_V.callV (av := [.ref 0]) (rest := []) hok (jm_Con.mono (hrec 2 [.ref 0] x18) (by omega)) (jm_Inv.obj (q := ("FilterReaderModel", T_M, 22)) dd_M_entryOfPattern_156 (Or.inl lk_M_284) mn_M_pattern ms_M_pattern mw_M_pattern mh_M_pattern ml_M_pattern rfl rfl) mw_M_pattern mi_M (Nat.le_of_ble_eq_true rfl) (Nat.le_of_ble_eq_true rfl) (fun x19 => ?_)
  exact jm_V.vret rfl dd_M_entryOfPattern_159
def f_M_entryOfPattern (K : Nat) (g : jm_Rec)  (x : jm_X) : Option jm_R := (if jm_in shR 4 .int 33 then (if jm_in shR 4 .int 33 then jm_then (jm_ua x 4 33 ((x.2.2 4 (Int32.toNatClampNeg 33)) + 1)) (fun x1 => (if (x1.1 11) = 3 then jm_bV (f_M_another K g x1) (fun x2 => (if jm_in shR 4 .int 7 then (if jm_in shR 4 .int 7 then jm_then (jm_ua x2 4 7 ((x2.2.2 4 (Int32.toNatClampNeg 7)) + 1)) (fun x3 => jm_bV (f_M_know K g 2 ((x3.1 9) + 1) (((x3.1 10) - (x3.1 9)) - 1) 0 0 x3) (fun x4 => jm_bV (f_M_scan K g x4) (fun x5 => jm_bI (f_M_skip_i K g 22 x5) (fun b7 x6 => (if b7 = 0 then J_M_entryOfPattern_75 K g x6 else jm_bV (g 2 [.ref 0] x6) (fun x8 => J_M_entryOfPattern_75 K g x8)))))) else none) else none)) else (if (x1.1 11) = 1 then (if jm_in shR 4 .int 7 then (if jm_in shR 4 .int 7 then jm_then (jm_ua x1 4 7 ((x1.2.2 4 (Int32.toNatClampNeg 7)) + 1)) (fun x9 => jm_bV (f_M_scan K g x9) (fun x10 => J_M_entryOfPattern_149 K g x10)) else none) else none) else (if (x1.1 11) = 5 then jm_bV (f_M_string K g 0 x1) (fun x11 => J_M_entryOfPattern_149 K g x11) else jm_bI (f_M_skip_i K g 16 x1) (fun b13 x12 => (if b13 = 0 then jm_bA (f_M_bad K g (x12.1 9) x12) (fun b15 x14 => (if b15 = 2 then some (.inr ("java/lang/IllegalStateException", x14)) else none)) else jm_bV (g 0 [.ref 0] x12) (fun x16 => jm_bV (f_M_need_i K g 17 x16) (fun x17 => J_M_entryOfPattern_149 K g x17)))))))) else none) else none)
set_option maxRecDepth 100000 in
set_option maxHeartbeats 4000000 in
theorem c_M_entryOfPattern {l : Launch} {D : va_G} {ad : Nat → Nat} {aC : Nat → ClassId} {b0 : Nat} {K d0 : Nat} {g : jm_Rec} (hok : jm_Ok (jm_PP l D clR ad aC shR b0 0)) (hrec : ∀ (t : Nat) (av : List Value) (x : jm_X), jm_Con (jm_PP l D clR ad aC shR b0 0) (rcR t) d0 av x (g t av x))  (x : jm_X) : jm_Con (jm_PP l D clR ad aC shR b0 0) mt_M_entryOfPattern (d0 + 6) [.ref 0] x (f_M_entryOfPattern K g  x) := by
  refine jm_Con.of (plainFor_of_name (by decide +kernel)) (Nat.le_of_ble_eq_true rfl) ?_
  have hT := tk_M (l := l) (D := D) (ad := ad) (aC := aC) (b0 := b0)
  unfold f_M_entryOfPattern
  show jm_V _ _ _ 0 [(0, .ref 0)] [] x _
  refine jm_V.run (is := bk_M_entryOfPattern_0_4) (pc' := 7) (ls' := [(0, .ref 0)]) (st' := [.int 33, .ref 4, .int 33, .ref 4]) (x' := x) hok hT bk_M_entryOfPattern_0_4_ok rfl ?_
  refine jm_V.iald dd_M_entryOfPattern_7 ?_
  refine jm_V.run (is := bk_M_entryOfPattern_8_2) (pc' := 10) (ls' := [(0, .ref 0)]) (st' := [.int ((x.2.2 4 (Int32.toNatClampNeg 33)) + 1), .int 33, .ref 4]) (x' := x) hok hT bk_M_entryOfPattern_8_2_ok rfl ?_
  refine jm_V.iast hok dd_M_entryOfPattern_10 ?_
  refine jm_V.then_ (fun x1 => ?_)
  refine jm_V.run (is := bk_M_entryOfPattern_11_4) (pc' := (if (x1.1 11) = 3 then 19 else 76)) (ls' := [(0, .ref 0)]) (st' := []) (x' := x1) hok hT bk_M_entryOfPattern_11_4_ok rfl ?_
  refine jm_V.ite (fun _ => ?_) (fun _ => ?_)
  · refine jm_V.run (is := bk_M_entryOfPattern_19_1) (pc' := 20) (ls' := [(0, .ref 0)]) (st' := [.ref 0]) (x' := x1) hok hT bk_M_entryOfPattern_19_1_ok rfl ?_
    refine jm_V.callV (av := [.ref 0]) (rest := []) hok (jm_Con.mono (c_M_another hok hrec x1) (by omega)) (jm_Inv.obj (q := ("FilterReaderModel", T_M, 22)) dd_M_entryOfPattern_20 (Or.inl lk_M_287) mn_M_another ms_M_another mw_M_another mh_M_another ml_M_another rfl rfl) mw_M_another mi_M (Nat.le_of_ble_eq_true rfl) (Nat.le_of_ble_eq_true rfl) (fun x2 => ?_)
    refine jm_V.run (is := bk_M_entryOfPattern_23_4) (pc' := 30) (ls' := [(0, .ref 0)]) (st' := [.int 7, .ref 4, .int 7, .ref 4]) (x' := x2) hok hT bk_M_entryOfPattern_23_4_ok rfl ?_
    refine jm_V.iald dd_M_entryOfPattern_30 ?_
    refine jm_V.run (is := bk_M_entryOfPattern_31_2) (pc' := 33) (ls' := [(0, .ref 0)]) (st' := [.int ((x2.2.2 4 (Int32.toNatClampNeg 7)) + 1), .int 7, .ref 4]) (x' := x2) hok hT bk_M_entryOfPattern_31_2_ok rfl ?_
    refine jm_V.iast hok dd_M_entryOfPattern_33 ?_
    refine jm_V.then_ (fun x3 => ?_)
    refine jm_V.run (is := bk_M_entryOfPattern_34_15) (pc' := 55) (ls' := [(0, .ref 0)]) (st' := [.int 0, .int 0, .int (((x3.1 10) - (x3.1 9)) - 1), .int ((x3.1 9) + 1), .int 2, .ref 0]) (x' := x3) hok hT bk_M_entryOfPattern_34_15_ok rfl ?_
    refine jm_V.callV (av := [.ref 0, .int 2, .int ((x3.1 9) + 1), .int (((x3.1 10) - (x3.1 9)) - 1), .int 0, .int 0]) (rest := []) hok (jm_Con.mono (c_M_know hok hrec 2 ((x3.1 9) + 1) (((x3.1 10) - (x3.1 9)) - 1) 0 0 x3) (by omega)) (jm_Inv.obj (q := ("FilterReaderModel", T_M, 22)) dd_M_entryOfPattern_55 (Or.inl lk_M_202) mn_M_know ms_M_know mw_M_know mh_M_know ml_M_know rfl rfl) mw_M_know mi_M (Nat.le_of_ble_eq_true rfl) (Nat.le_of_ble_eq_true rfl) (fun x4 => ?_)
    refine jm_V.run (is := bk_M_entryOfPattern_58_1) (pc' := 59) (ls' := [(0, .ref 0)]) (st' := [.ref 0]) (x' := x4) hok hT bk_M_entryOfPattern_58_1_ok rfl ?_
    refine jm_V.callV (av := [.ref 0]) (rest := []) hok (jm_Con.mono (c_M_scan hok hrec x4) (by omega)) (jm_Inv.obj (q := ("FilterReaderModel", T_M, 22)) dd_M_entryOfPattern_59 (Or.inl lk_M_122) mn_M_scan ms_M_scan mw_M_scan mh_M_scan ml_M_scan rfl rfl) mw_M_scan mi_M (Nat.le_of_ble_eq_true rfl) (Nat.le_of_ble_eq_true rfl) (fun x5 => ?_)
    refine jm_V.run (is := bk_M_entryOfPattern_62_2) (pc' := 65) (ls' := [(0, .ref 0)]) (st' := [.int 22, .ref 0]) (x' := x5) hok hT bk_M_entryOfPattern_62_2_ok rfl ?_
    refine jm_V.callI (av := [.ref 0, .int 22]) (rest := []) hok (jm_Con.mono (c_M_skip_i hok hrec 22 x5) (by omega)) (jm_Inv.obj (q := ("FilterReaderModel", T_M, 22)) dd_M_entryOfPattern_65 (Or.inl lk_M_184) mn_M_skip_i ms_M_skip_i mw_M_skip_i mh_M_skip_i ml_M_skip_i rfl rfl) mw_M_skip_i mi_M (Nat.le_of_ble_eq_true rfl) (Nat.le_of_ble_eq_true rfl) (fun b7 x6 => ?_)
    refine jm_V.run (is := bk_M_entryOfPattern_68_1) (pc' := (if b7 = 0 then 75 else 71)) (ls' := [(0, .ref 0)]) (st' := []) (x' := x6) hok hT bk_M_entryOfPattern_68_1_ok rfl ?_
    refine jm_V.ite (fun _ => ?_) (fun _ => ?_)
    · refine jm_V.sub (ls' := []) [] rfl ?_
      exact jj_M_entryOfPattern_75 hok hrec x6
    · refine jm_V.run (is := bk_M_entryOfPattern_71_1) (pc' := 72) (ls' := [(0, .ref 0)]) (st' := [.ref 0]) (x' := x6) hok hT bk_M_entryOfPattern_71_1_ok rfl ?_
      refine jm_V.callV (av := [.ref 0]) (rest := []) hok (jm_Con.mono (hrec 2 [.ref 0] x6) (by omega)) (jm_Inv.obj (q := ("FilterReaderModel", T_M, 22)) dd_M_entryOfPattern_72 (Or.inl lk_M_284) mn_M_pattern ms_M_pattern mw_M_pattern mh_M_pattern ml_M_pattern rfl rfl) mw_M_pattern mi_M (Nat.le_of_ble_eq_true rfl) (Nat.le_of_ble_eq_true rfl) (fun x8 => ?_)
      refine jm_V.sub (ls' := []) [] rfl ?_
      exact jj_M_entryOfPattern_75 hok hrec x8
  · refine jm_V.run (is := bk_M_entryOfPattern_76_4) (pc' := (if (x1.1 11) = 1 then 84 else 102)) (ls' := [(0, .ref 0)]) (st' := []) (x' := x1) hok hT bk_M_entryOfPattern_76_4_ok rfl ?_
    refine jm_V.ite (fun _ => ?_) (fun _ => ?_)
    · refine jm_V.run (is := bk_M_entryOfPattern_84_4) (pc' := 91) (ls' := [(0, .ref 0)]) (st' := [.int 7, .ref 4, .int 7, .ref 4]) (x' := x1) hok hT bk_M_entryOfPattern_84_4_ok rfl ?_
      refine jm_V.iald dd_M_entryOfPattern_91 ?_
      refine jm_V.run (is := bk_M_entryOfPattern_92_2) (pc' := 94) (ls' := [(0, .ref 0)]) (st' := [.int ((x1.2.2 4 (Int32.toNatClampNeg 7)) + 1), .int 7, .ref 4]) (x' := x1) hok hT bk_M_entryOfPattern_92_2_ok rfl ?_
      refine jm_V.iast hok dd_M_entryOfPattern_94 ?_
      refine jm_V.then_ (fun x9 => ?_)
      refine jm_V.run (is := bk_M_entryOfPattern_95_1) (pc' := 96) (ls' := [(0, .ref 0)]) (st' := [.ref 0]) (x' := x9) hok hT bk_M_entryOfPattern_95_1_ok rfl ?_
      refine jm_V.callV (av := [.ref 0]) (rest := []) hok (jm_Con.mono (c_M_scan hok hrec x9) (by omega)) (jm_Inv.obj (q := ("FilterReaderModel", T_M, 22)) dd_M_entryOfPattern_96 (Or.inl lk_M_122) mn_M_scan ms_M_scan mw_M_scan mh_M_scan ml_M_scan rfl rfl) mw_M_scan mi_M (Nat.le_of_ble_eq_true rfl) (Nat.le_of_ble_eq_true rfl) (fun x10 => ?_)
      refine jm_V.run (is := bk_M_entryOfPattern_99_1) (pc' := 149) (ls' := [(0, .ref 0)]) (st' := []) (x' := x10) hok hT bk_M_entryOfPattern_99_1_ok rfl ?_
      exact jj_M_entryOfPattern_149 hok hrec x10
    · refine jm_V.run (is := bk_M_entryOfPattern_102_4) (pc' := (if (x1.1 11) = 5 then 110 else 118)) (ls' := [(0, .ref 0)]) (st' := []) (x' := x1) hok hT bk_M_entryOfPattern_102_4_ok rfl ?_
      refine jm_V.ite (fun _ => ?_) (fun _ => ?_)
      · refine jm_V.run (is := bk_M_entryOfPattern_110_2) (pc' := 112) (ls' := [(0, .ref 0)]) (st' := [.int 0, .ref 0]) (x' := x1) hok hT bk_M_entryOfPattern_110_2_ok rfl ?_
        refine jm_V.callV (av := [.ref 0, .int 0]) (rest := []) hok (jm_Con.mono (c_M_string hok hrec 0 x1) (by omega)) (jm_Inv.obj (q := ("FilterReaderModel", T_M, 22)) dd_M_entryOfPattern_112 (Or.inl lk_M_250) mn_M_string ms_M_string mw_M_string mh_M_string ml_M_string rfl rfl) mw_M_string mi_M (Nat.le_of_ble_eq_true rfl) (Nat.le_of_ble_eq_true rfl) (fun x11 => ?_)
        refine jm_V.run (is := bk_M_entryOfPattern_115_1) (pc' := 149) (ls' := [(0, .ref 0)]) (st' := []) (x' := x11) hok hT bk_M_entryOfPattern_115_1_ok rfl ?_
        exact jj_M_entryOfPattern_149 hok hrec x11
      · refine jm_V.run (is := bk_M_entryOfPattern_118_2) (pc' := 121) (ls' := [(0, .ref 0)]) (st' := [.int 16, .ref 0]) (x' := x1) hok hT bk_M_entryOfPattern_118_2_ok rfl ?_
        refine jm_V.callI (av := [.ref 0, .int 16]) (rest := []) hok (jm_Con.mono (c_M_skip_i hok hrec 16 x1) (by omega)) (jm_Inv.obj (q := ("FilterReaderModel", T_M, 22)) dd_M_entryOfPattern_121 (Or.inl lk_M_184) mn_M_skip_i ms_M_skip_i mw_M_skip_i mh_M_skip_i ml_M_skip_i rfl rfl) mw_M_skip_i mi_M (Nat.le_of_ble_eq_true rfl) (Nat.le_of_ble_eq_true rfl) (fun b13 x12 => ?_)
        refine jm_V.run (is := bk_M_entryOfPattern_124_1) (pc' := (if b13 = 0 then 140 else 127)) (ls' := [(0, .ref 0)]) (st' := []) (x' := x12) hok hT bk_M_entryOfPattern_124_1_ok rfl ?_
        refine jm_V.ite (fun _ => ?_) (fun _ => ?_)
        · refine jm_V.run (is := bk_M_entryOfPattern_140_3) (pc' := 145) (ls' := [(0, .ref 0)]) (st' := [.int (x12.1 9), .ref 0]) (x' := x12) hok hT bk_M_entryOfPattern_140_3_ok rfl ?_
          refine jm_V.callA (av := [.ref 0, .int (x12.1 9)]) (rest := []) hok (jm_Con.mono (c_M_bad hok hrec (x12.1 9) x12) (by omega)) (jm_Inv.obj (q := ("FilterReaderModel", T_M, 22)) dd_M_entryOfPattern_145 (Or.inl lk_M_134) mn_M_bad ms_M_bad mw_M_bad mh_M_bad ml_M_bad rfl rfl) mw_M_bad mi_M (Nat.le_of_ble_eq_true rfl) (Nat.le_of_ble_eq_true rfl) (fun b15 x14 => ?_)
          exact jm_V.athrowS (o := 2) (q := ("java/lang/IllegalStateException", T_X, 0)) rfl rfl dd_M_entryOfPattern_148
        · refine jm_V.run (is := bk_M_entryOfPattern_127_1) (pc' := 128) (ls' := [(0, .ref 0)]) (st' := [.ref 0]) (x' := x12) hok hT bk_M_entryOfPattern_127_1_ok rfl ?_
          refine jm_V.callV (av := [.ref 0]) (rest := []) hok (jm_Con.mono (hrec 0 [.ref 0] x12) (by omega)) (jm_Inv.obj (q := ("FilterReaderModel", T_M, 22)) dd_M_entryOfPattern_128 (Or.inl lk_M_125) mn_M_program ms_M_program mw_M_program mh_M_program ml_M_program rfl rfl) mw_M_program mi_M (Nat.le_of_ble_eq_true rfl) (Nat.le_of_ble_eq_true rfl) (fun x16 => ?_)
          refine jm_V.run (is := bk_M_entryOfPattern_131_2) (pc' := 134) (ls' := [(0, .ref 0)]) (st' := [.int 17, .ref 0]) (x' := x16) hok hT bk_M_entryOfPattern_131_2_ok rfl ?_
          refine jm_V.callV (av := [.ref 0, .int 17]) (rest := []) hok (jm_Con.mono (c_M_need_i hok hrec 17 x16) (by omega)) (jm_Inv.obj (q := ("FilterReaderModel", T_M, 22)) dd_M_entryOfPattern_134 (Or.inl lk_M_199) mn_M_need_i ms_M_need_i mw_M_need_i mh_M_need_i ml_M_need_i rfl rfl) mw_M_need_i mi_M (Nat.le_of_ble_eq_true rfl) (Nat.le_of_ble_eq_true rfl) (fun x17 => ?_)
          refine jm_V.run (is := bk_M_entryOfPattern_137_1) (pc' := 149) (ls' := [(0, .ref 0)]) (st' := []) (x' := x17) hok hT bk_M_entryOfPattern_137_1_ok rfl ?_
          exact jj_M_entryOfPattern_149 hok hrec x17
abbrev bk_M_pattern_0_4 : List (Nat × Instr × Nat) := [(0, .aload_n 0, 1), (1, .getfield 128, 3), (4, .iconst 3, 1), (5, .if_icmp .ne 49, 3)]
theorem bk_M_pattern_0_4_ok : jm_at mt_M_pattern.2.1 bk_M_pattern_0_4 = true := by decide +kernel
abbrev bk_M_pattern_8_1 : List (Nat × Instr × Nat) := [(8, .aload_n 0, 1)]
theorem bk_M_pattern_8_1_ok : jm_at mt_M_pattern.2.1 bk_M_pattern_8_1 = true := by decide +kernel
abbrev bk_M_pattern_12_4 : List (Nat × Instr × Nat) := [(12, .aload_n 0, 1), (13, .getfield 76, 3), (16, .bipush 30, 2), (18, .dup2, 1)]
theorem bk_M_pattern_12_4_ok : jm_at mt_M_pattern.2.1 bk_M_pattern_12_4 = true := by decide +kernel
abbrev bk_M_pattern_20_2 : List (Nat × Instr × Nat) := [(20, .iconst 1, 1), (21, .iadd, 1)]
theorem bk_M_pattern_20_2_ok : jm_at mt_M_pattern.2.1 bk_M_pattern_20_2 = true := by decide +kernel
abbrev bk_M_pattern_23_15 : List (Nat × Instr × Nat) := [(23, .aload_n 0, 1), (24, .iconst 2, 1), (25, .aload_n 0, 1), (26, .getfield 131, 3), (29, .iconst 1, 1), (30, .iadd, 1), (31, .aload_n 0, 1), (32, .getfield 119, 3), (35, .aload_n 0, 1), (36, .getfield 131, 3), (39, .isub, 1), (40, .iconst 1, 1), (41, .isub, 1), (42, .iconst 0, 1), (43, .iconst 0, 1)]
theorem bk_M_pattern_23_15_ok : jm_at mt_M_pattern.2.1 bk_M_pattern_23_15 = true := by decide +kernel
abbrev bk_M_pattern_47_1 : List (Nat × Instr × Nat) := [(47, .aload_n 0, 1)]
theorem bk_M_pattern_47_1_ok : jm_at mt_M_pattern.2.1 bk_M_pattern_47_1 = true := by decide +kernel
abbrev bk_M_pattern_51_1 : List (Nat × Instr × Nat) := [(51, .goto 146, 3)]
theorem bk_M_pattern_51_1_ok : jm_at mt_M_pattern.2.1 bk_M_pattern_51_1 = true := by decide +kernel
abbrev bk_M_pattern_54_4 : List (Nat × Instr × Nat) := [(54, .aload_n 0, 1), (55, .getfield 128, 3), (58, .bipush 18, 2), (60, .if_icmp .ne 61, 3)]
theorem bk_M_pattern_54_4_ok : jm_at mt_M_pattern.2.1 bk_M_pattern_54_4 = true := by decide +kernel
abbrev bk_M_pattern_63_4 : List (Nat × Instr × Nat) := [(63, .aload_n 0, 1), (64, .getfield 76, 3), (67, .bipush 31, 2), (69, .dup2, 1)]
theorem bk_M_pattern_63_4_ok : jm_at mt_M_pattern.2.1 bk_M_pattern_63_4 = true := by decide +kernel
abbrev bk_M_pattern_71_2 : List (Nat × Instr × Nat) := [(71, .iconst 1, 1), (72, .iadd, 1)]
theorem bk_M_pattern_71_2_ok : jm_at mt_M_pattern.2.1 bk_M_pattern_71_2 = true := by decide +kernel
abbrev bk_M_pattern_74_1 : List (Nat × Instr × Nat) := [(74, .aload_n 0, 1)]
theorem bk_M_pattern_74_1_ok : jm_at mt_M_pattern.2.1 bk_M_pattern_74_1 = true := by decide +kernel
abbrev bk_M_pattern_78_1 : List (Nat × Instr × Nat) := [(78, .aload_n 0, 1)]
theorem bk_M_pattern_78_1_ok : jm_at mt_M_pattern.2.1 bk_M_pattern_78_1 = true := by decide +kernel
abbrev bk_M_pattern_82_1 : List (Nat × Instr × Nat) := [(82, .aload_n 0, 1)]
theorem bk_M_pattern_82_1_ok : jm_at mt_M_pattern.2.1 bk_M_pattern_82_1 = true := by decide +kernel
abbrev bk_M_pattern_121_4 : List (Nat × Instr × Nat) := [(121, .aload_n 0, 1), (122, .getfield 128, 3), (125, .bipush 20, 2), (127, .if_icmp .ne 61, 3)]
theorem bk_M_pattern_121_4_ok : jm_at mt_M_pattern.2.1 bk_M_pattern_121_4 = true := by decide +kernel
abbrev bk_M_pattern_130_4 : List (Nat × Instr × Nat) := [(130, .aload_n 0, 1), (131, .getfield 76, 3), (134, .bipush 32, 2), (136, .dup2, 1)]
theorem bk_M_pattern_130_4_ok : jm_at mt_M_pattern.2.1 bk_M_pattern_130_4 = true := by decide +kernel
abbrev bk_M_pattern_138_2 : List (Nat × Instr × Nat) := [(138, .iconst 1, 1), (139, .iadd, 1)]
theorem bk_M_pattern_138_2_ok : jm_at mt_M_pattern.2.1 bk_M_pattern_138_2 = true := by decide +kernel
abbrev bk_M_pattern_141_1 : List (Nat × Instr × Nat) := [(141, .aload_n 0, 1)]
theorem bk_M_pattern_141_1_ok : jm_at mt_M_pattern.2.1 bk_M_pattern_141_1 = true := by decide +kernel
abbrev bk_M_pattern_145_1 : List (Nat × Instr × Nat) := [(145, .aload_n 0, 1)]
theorem bk_M_pattern_145_1_ok : jm_at mt_M_pattern.2.1 bk_M_pattern_145_1 = true := by decide +kernel
abbrev bk_M_pattern_149_1 : List (Nat × Instr × Nat) := [(149, .aload_n 0, 1)]
theorem bk_M_pattern_149_1_ok : jm_at mt_M_pattern.2.1 bk_M_pattern_149_1 = true := by decide +kernel
abbrev bk_M_pattern_188_3 : List (Nat × Instr × Nat) := [(188, .aload_n 0, 1), (189, .aload_n 0, 1), (190, .getfield 131, 3)]
theorem bk_M_pattern_188_3_ok : jm_at mt_M_pattern.2.1 bk_M_pattern_188_3 = true := by decide +kernel
abbrev bk_M_pattern_86_2 : List (Nat × Instr × Nat) := [(86, .aload_n 0, 1), (87, .bipush 7, 2)]
theorem bk_M_pattern_86_2_ok : jm_at mt_M_pattern.2.1 bk_M_pattern_86_2 = true := by decide +kernel
abbrev bk_M_pattern_92_1 : List (Nat × Instr × Nat) := [(92, .ifCond .eq 10, 3)]
theorem bk_M_pattern_92_1_ok : jm_at mt_M_pattern.2.1 bk_M_pattern_92_1 = true := by decide +kernel
abbrev bk_M_pattern_102_2 : List (Nat × Instr × Nat) := [(102, .aload_n 0, 1), (103, .bipush 19, 2)]
theorem bk_M_pattern_102_2_ok : jm_at mt_M_pattern.2.1 bk_M_pattern_102_2 = true := by decide +kernel
abbrev bk_M_pattern_108_6 : List (Nat × Instr × Nat) := [(108, .aload_n 0, 1), (109, .dup, 1), (110, .getfield 116, 3), (113, .iconst 1, 1), (114, .isub, 1), (115, .putfield 116, 3)]
theorem bk_M_pattern_108_6_ok : jm_at mt_M_pattern.2.1 bk_M_pattern_108_6 = true := by decide +kernel
abbrev bk_M_pattern_118_1 : List (Nat × Instr × Nat) := [(118, .goto 79, 3)]
theorem bk_M_pattern_118_1_ok : jm_at mt_M_pattern.2.1 bk_M_pattern_118_1 = true := by decide +kernel
abbrev bk_M_pattern_95_1 : List (Nat × Instr × Nat) := [(95, .aload_n 0, 1)]
theorem bk_M_pattern_95_1_ok : jm_at mt_M_pattern.2.1 bk_M_pattern_95_1 = true := by decide +kernel
abbrev bk_M_pattern_99_1 : List (Nat × Instr × Nat) := [(99, .goto (-13), 3)]
theorem bk_M_pattern_99_1_ok : jm_at mt_M_pattern.2.1 bk_M_pattern_99_1 = true := by decide +kernel
abbrev bk_M_pattern_153_2 : List (Nat × Instr × Nat) := [(153, .aload_n 0, 1), (154, .bipush 7, 2)]
theorem bk_M_pattern_153_2_ok : jm_at mt_M_pattern.2.1 bk_M_pattern_153_2 = true := by decide +kernel
abbrev bk_M_pattern_159_1 : List (Nat × Instr × Nat) := [(159, .ifCond .eq 10, 3)]
theorem bk_M_pattern_159_1_ok : jm_at mt_M_pattern.2.1 bk_M_pattern_159_1 = true := by decide +kernel
abbrev bk_M_pattern_169_2 : List (Nat × Instr × Nat) := [(169, .aload_n 0, 1), (170, .bipush 21, 2)]
theorem bk_M_pattern_169_2_ok : jm_at mt_M_pattern.2.1 bk_M_pattern_169_2 = true := by decide +kernel
abbrev bk_M_pattern_175_6 : List (Nat × Instr × Nat) := [(175, .aload_n 0, 1), (176, .dup, 1), (177, .getfield 116, 3), (180, .iconst 1, 1), (181, .isub, 1), (182, .putfield 116, 3)]
theorem bk_M_pattern_175_6_ok : jm_at mt_M_pattern.2.1 bk_M_pattern_175_6 = true := by decide +kernel
abbrev bk_M_pattern_185_1 : List (Nat × Instr × Nat) := [(185, .goto 12, 3)]
theorem bk_M_pattern_185_1_ok : jm_at mt_M_pattern.2.1 bk_M_pattern_185_1 = true := by decide +kernel
abbrev bk_M_pattern_162_1 : List (Nat × Instr × Nat) := [(162, .aload_n 0, 1)]
theorem bk_M_pattern_162_1_ok : jm_at mt_M_pattern.2.1 bk_M_pattern_162_1 = true := by decide +kernel
abbrev bk_M_pattern_166_1 : List (Nat × Instr × Nat) := [(166, .goto (-13), 3)]
theorem bk_M_pattern_166_1_ok : jm_at mt_M_pattern.2.1 bk_M_pattern_166_1 = true := by decide +kernel
theorem dd_M_pattern_9 : decode mt_M_pattern.2.1 9 = .ok (.invokevirtual 287, 3) := by decide +kernel
theorem dd_M_pattern_44 : decode mt_M_pattern.2.1 44 = .ok (.invokevirtual 202, 3) := by decide +kernel
theorem dd_M_pattern_48 : decode mt_M_pattern.2.1 48 = .ok (.invokevirtual 122, 3) := by decide +kernel
theorem dd_M_pattern_22 : decode mt_M_pattern.2.1 22 = .ok (.iastore, 1) := by decide +kernel
theorem dd_M_pattern_19 : decode mt_M_pattern.2.1 19 = .ok (.iaload, 1) := by decide +kernel
theorem dd_M_pattern_75 : decode mt_M_pattern.2.1 75 = .ok (.invokevirtual 193, 3) := by decide +kernel
theorem dd_M_pattern_79 : decode mt_M_pattern.2.1 79 = .ok (.invokevirtual 122, 3) := by decide +kernel
theorem dd_M_pattern_83 : decode mt_M_pattern.2.1 83 = .ok (.invokevirtual 284, 3) := by decide +kernel
theorem dd_M_pattern_73 : decode mt_M_pattern.2.1 73 = .ok (.iastore, 1) := by decide +kernel
theorem dd_M_pattern_70 : decode mt_M_pattern.2.1 70 = .ok (.iaload, 1) := by decide +kernel
theorem dd_M_pattern_142 : decode mt_M_pattern.2.1 142 = .ok (.invokevirtual 193, 3) := by decide +kernel
theorem dd_M_pattern_146 : decode mt_M_pattern.2.1 146 = .ok (.invokevirtual 122, 3) := by decide +kernel
theorem dd_M_pattern_150 : decode mt_M_pattern.2.1 150 = .ok (.invokevirtual 290, 3) := by decide +kernel
theorem dd_M_pattern_140 : decode mt_M_pattern.2.1 140 = .ok (.iastore, 1) := by decide +kernel
theorem dd_M_pattern_137 : decode mt_M_pattern.2.1 137 = .ok (.iaload, 1) := by decide +kernel
theorem dd_M_pattern_193 : decode mt_M_pattern.2.1 193 = .ok (.invokevirtual 134, 3) := by decide +kernel
theorem dd_M_pattern_196 : decode mt_M_pattern.2.1 196 = .ok (.athrow, 1) := by decide +kernel
theorem dd_M_pattern_89 : decode mt_M_pattern.2.1 89 = .ok (.invokevirtual 184, 3) := by decide +kernel
theorem dd_M_pattern_105 : decode mt_M_pattern.2.1 105 = .ok (.invokevirtual 199, 3) := by decide +kernel
theorem dd_M_pattern_96 : decode mt_M_pattern.2.1 96 = .ok (.invokevirtual 284, 3) := by decide +kernel
theorem dd_M_pattern_156 : decode mt_M_pattern.2.1 156 = .ok (.invokevirtual 184, 3) := by decide +kernel
theorem dd_M_pattern_172 : decode mt_M_pattern.2.1 172 = .ok (.invokevirtual 199, 3) := by decide +kernel
theorem dd_M_pattern_163 : decode mt_M_pattern.2.1 163 = .ok (.invokevirtual 290, 3) := by decide +kernel
theorem dd_M_pattern_197 : decode mt_M_pattern.2.1 197 = .ok (.return_, 1) := by decide +kernel
def J_M_pattern_197 (K : Nat) (g : jm_Rec)  (x : jm_X) : Option jm_R := some (.inl (none, x))
set_option maxRecDepth 100000 in
set_option maxHeartbeats 4000000 in
theorem jj_M_pattern_197 {l : Launch} {D : va_G} {ad : Nat → Nat} {aC : Nat → ClassId} {b0 : Nat} {K d0 : Nat} {g : jm_Rec} (hok : jm_Ok (jm_PP l D clR ad aC shR b0 0)) (hrec : ∀ (t : Nat) (av : List Value) (x : jm_X), jm_Con (jm_PP l D clR ad aC shR b0 0) (rcR t) d0 av x (g t av x))  (x : jm_X) : jm_V (jm_PP l D clR ad aC shR b0 0) mt_M_pattern (d0 + 7) 197 [] [] x (J_M_pattern_197 K g  x) := by
  have hT := tk_M (l := l) (D := D) (ad := ad) (aC := aC) (b0 := b0)
  unfold J_M_pattern_197
  exact jm_V.vret rfl dd_M_pattern_197
def B_M_pattern_86 (K : Nat) (g : jm_Rec) (self : jm_X → Option jm_R)  (x : jm_X) : Option jm_R := jm_bI (f_M_skip_i K g 7 x) (fun b16 x15 => (if b16 = 0 then jm_bV (f_M_need_i K g 19 x15) (fun x17 => jm_then (va_up x17.1 12 ((x17.1 12) - 1), x17.2) (fun x18 => J_M_pattern_197 K g x18)) else jm_bV (g 2 [.ref 0] x15) (fun x19 => self x19)))
def L_M_pattern_86 (K : Nat) (g : jm_Rec) : Nat → jm_X → Option jm_R
  | 0, _ => none
  | k + 1, x => B_M_pattern_86 K g (L_M_pattern_86 K g k)  x
set_option maxRecDepth 100000 in
set_option maxHeartbeats 4000000 in
theorem jb_M_pattern_86 {l : Launch} {D : va_G} {ad : Nat → Nat} {aC : Nat → ClassId} {b0 : Nat} {K d0 : Nat} {g : jm_Rec} (hok : jm_Ok (jm_PP l D clR ad aC shR b0 0)) (hrec : ∀ (t : Nat) (av : List Value) (x : jm_X), jm_Con (jm_PP l D clR ad aC shR b0 0) (rcR t) d0 av x (g t av x)) {self : jm_X → Option jm_R} (hself : ∀  (x : jm_X), jm_V (jm_PP l D clR ad aC shR b0 0) mt_M_pattern (d0 + 7) 86 [(0, .ref 0)] [] x (self  x))  (x : jm_X) : jm_V (jm_PP l D clR ad aC shR b0 0) mt_M_pattern (d0 + 7) 86 [(0, .ref 0)] [] x (B_M_pattern_86 K g self  x) := by
  have hT := tk_M (l := l) (D := D) (ad := ad) (aC := aC) (b0 := b0)
  unfold B_M_pattern_86
  refine jm_V.run (is := bk_M_pattern_86_2) (pc' := 89) (ls' := [(0, .ref 0)]) (st' := [.int 7, .ref 0]) (x' := x) hok hT bk_M_pattern_86_2_ok rfl ?_
  refine jm_V.callI (av := [.ref 0, .int 7]) (rest := []) hok (jm_Con.mono (c_M_skip_i hok hrec 7 x) (by omega)) (jm_Inv.obj (q := ("FilterReaderModel", T_M, 22)) dd_M_pattern_89 (Or.inl lk_M_184) mn_M_skip_i ms_M_skip_i mw_M_skip_i mh_M_skip_i ml_M_skip_i rfl rfl) mw_M_skip_i mi_M (Nat.le_of_ble_eq_true rfl) (Nat.le_of_ble_eq_true rfl) (fun b16 x15 => ?_)
  refine jm_V.run (is := bk_M_pattern_92_1) (pc' := (if b16 = 0 then 102 else 95)) (ls' := [(0, .ref 0)]) (st' := []) (x' := x15) hok hT bk_M_pattern_92_1_ok rfl ?_
  refine jm_V.ite (fun _ => ?_) (fun _ => ?_)
  · refine jm_V.run (is := bk_M_pattern_102_2) (pc' := 105) (ls' := [(0, .ref 0)]) (st' := [.int 19, .ref 0]) (x' := x15) hok hT bk_M_pattern_102_2_ok rfl ?_
    refine jm_V.callV (av := [.ref 0, .int 19]) (rest := []) hok (jm_Con.mono (c_M_need_i hok hrec 19 x15) (by omega)) (jm_Inv.obj (q := ("FilterReaderModel", T_M, 22)) dd_M_pattern_105 (Or.inl lk_M_199) mn_M_need_i ms_M_need_i mw_M_need_i mh_M_need_i ml_M_need_i rfl rfl) mw_M_need_i mi_M (Nat.le_of_ble_eq_true rfl) (Nat.le_of_ble_eq_true rfl) (fun x17 => ?_)
    refine jm_V.run (is := bk_M_pattern_108_6) (pc' := 118) (ls' := [(0, .ref 0)]) (st' := []) (x' := (va_up x17.1 12 ((x17.1 12) - 1), x17.2)) hok hT bk_M_pattern_108_6_ok rfl ?_
    refine jm_V.then_ (fun x18 => ?_)
    refine jm_V.run (is := bk_M_pattern_118_1) (pc' := 197) (ls' := [(0, .ref 0)]) (st' := []) (x' := x18) hok hT bk_M_pattern_118_1_ok rfl ?_
    refine jm_V.sub (ls' := []) [] rfl ?_
    exact jj_M_pattern_197 hok hrec x18
  · refine jm_V.run (is := bk_M_pattern_95_1) (pc' := 96) (ls' := [(0, .ref 0)]) (st' := [.ref 0]) (x' := x15) hok hT bk_M_pattern_95_1_ok rfl ?_
    refine jm_V.callV (av := [.ref 0]) (rest := []) hok (jm_Con.mono (hrec 2 [.ref 0] x15) (by omega)) (jm_Inv.obj (q := ("FilterReaderModel", T_M, 22)) dd_M_pattern_96 (Or.inl lk_M_284) mn_M_pattern ms_M_pattern mw_M_pattern mh_M_pattern ml_M_pattern rfl rfl) mw_M_pattern mi_M (Nat.le_of_ble_eq_true rfl) (Nat.le_of_ble_eq_true rfl) (fun x19 => ?_)
    refine jm_V.run (is := bk_M_pattern_99_1) (pc' := 86) (ls' := [(0, .ref 0)]) (st' := []) (x' := x19) hok hT bk_M_pattern_99_1_ok rfl ?_
    exact hself x19
theorem jl_M_pattern_86 {l : Launch} {D : va_G} {ad : Nat → Nat} {aC : Nat → ClassId} {b0 : Nat} {K d0 : Nat} {g : jm_Rec} (hok : jm_Ok (jm_PP l D clR ad aC shR b0 0)) (hrec : ∀ (t : Nat) (av : List Value) (x : jm_X), jm_Con (jm_PP l D clR ad aC shR b0 0) (rcR t) d0 av x (g t av x)) : ∀ (k : Nat)  (x : jm_X), jm_V (jm_PP l D clR ad aC shR b0 0) mt_M_pattern (d0 + 7) 86 [(0, .ref 0)] [] x (L_M_pattern_86 K g k  x)
  | 0, _ => jm_V.stuck
  | k + 1, x => jb_M_pattern_86 hok hrec (fun  x => jl_M_pattern_86 hok hrec k  x)  x
def B_M_pattern_153 (K : Nat) (g : jm_Rec) (self : jm_X → Option jm_R)  (x : jm_X) : Option jm_R := jm_bI (f_M_skip_i K g 7 x) (fun b21 x20 => (if b21 = 0 then jm_bV (f_M_need_i K g 21 x20) (fun x22 => jm_then (va_up x22.1 12 ((x22.1 12) - 1), x22.2) (fun x23 => J_M_pattern_197 K g x23)) else jm_bV (f_M_entryOfPattern K g x20) (fun x24 => self x24)))
def L_M_pattern_153 (K : Nat) (g : jm_Rec) : Nat → jm_X → Option jm_R
  | 0, _ => none
  | k + 1, x => B_M_pattern_153 K g (L_M_pattern_153 K g k)  x
set_option maxRecDepth 100000 in
set_option maxHeartbeats 4000000 in
theorem jb_M_pattern_153 {l : Launch} {D : va_G} {ad : Nat → Nat} {aC : Nat → ClassId} {b0 : Nat} {K d0 : Nat} {g : jm_Rec} (hok : jm_Ok (jm_PP l D clR ad aC shR b0 0)) (hrec : ∀ (t : Nat) (av : List Value) (x : jm_X), jm_Con (jm_PP l D clR ad aC shR b0 0) (rcR t) d0 av x (g t av x)) {self : jm_X → Option jm_R} (hself : ∀  (x : jm_X), jm_V (jm_PP l D clR ad aC shR b0 0) mt_M_pattern (d0 + 7) 153 [(0, .ref 0)] [] x (self  x))  (x : jm_X) : jm_V (jm_PP l D clR ad aC shR b0 0) mt_M_pattern (d0 + 7) 153 [(0, .ref 0)] [] x (B_M_pattern_153 K g self  x) := by
  have hT := tk_M (l := l) (D := D) (ad := ad) (aC := aC) (b0 := b0)
  unfold B_M_pattern_153
  refine jm_V.run (is := bk_M_pattern_153_2) (pc' := 156) (ls' := [(0, .ref 0)]) (st' := [.int 7, .ref 0]) (x' := x) hok hT bk_M_pattern_153_2_ok rfl ?_
  refine jm_V.callI (av := [.ref 0, .int 7]) (rest := []) hok (jm_Con.mono (c_M_skip_i hok hrec 7 x) (by omega)) (jm_Inv.obj (q := ("FilterReaderModel", T_M, 22)) dd_M_pattern_156 (Or.inl lk_M_184) mn_M_skip_i ms_M_skip_i mw_M_skip_i mh_M_skip_i ml_M_skip_i rfl rfl) mw_M_skip_i mi_M (Nat.le_of_ble_eq_true rfl) (Nat.le_of_ble_eq_true rfl) (fun b21 x20 => ?_)
  refine jm_V.run (is := bk_M_pattern_159_1) (pc' := (if b21 = 0 then 169 else 162)) (ls' := [(0, .ref 0)]) (st' := []) (x' := x20) hok hT bk_M_pattern_159_1_ok rfl ?_
  refine jm_V.ite (fun _ => ?_) (fun _ => ?_)
  · refine jm_V.run (is := bk_M_pattern_169_2) (pc' := 172) (ls' := [(0, .ref 0)]) (st' := [.int 21, .ref 0]) (x' := x20) hok hT bk_M_pattern_169_2_ok rfl ?_
    refine jm_V.callV (av := [.ref 0, .int 21]) (rest := []) hok (jm_Con.mono (c_M_need_i hok hrec 21 x20) (by omega)) (jm_Inv.obj (q := ("FilterReaderModel", T_M, 22)) dd_M_pattern_172 (Or.inl lk_M_199) mn_M_need_i ms_M_need_i mw_M_need_i mh_M_need_i ml_M_need_i rfl rfl) mw_M_need_i mi_M (Nat.le_of_ble_eq_true rfl) (Nat.le_of_ble_eq_true rfl) (fun x22 => ?_)
    refine jm_V.run (is := bk_M_pattern_175_6) (pc' := 185) (ls' := [(0, .ref 0)]) (st' := []) (x' := (va_up x22.1 12 ((x22.1 12) - 1), x22.2)) hok hT bk_M_pattern_175_6_ok rfl ?_
    refine jm_V.then_ (fun x23 => ?_)
    refine jm_V.run (is := bk_M_pattern_185_1) (pc' := 197) (ls' := [(0, .ref 0)]) (st' := []) (x' := x23) hok hT bk_M_pattern_185_1_ok rfl ?_
    refine jm_V.sub (ls' := []) [] rfl ?_
    exact jj_M_pattern_197 hok hrec x23
  · refine jm_V.run (is := bk_M_pattern_162_1) (pc' := 163) (ls' := [(0, .ref 0)]) (st' := [.ref 0]) (x' := x20) hok hT bk_M_pattern_162_1_ok rfl ?_
    refine jm_V.callV (av := [.ref 0]) (rest := []) hok (jm_Con.mono (c_M_entryOfPattern hok hrec x20) (by omega)) (jm_Inv.obj (q := ("FilterReaderModel", T_M, 22)) dd_M_pattern_163 (Or.inl lk_M_290) mn_M_entryOfPattern ms_M_entryOfPattern mw_M_entryOfPattern mh_M_entryOfPattern ml_M_entryOfPattern rfl rfl) mw_M_entryOfPattern mi_M (Nat.le_of_ble_eq_true rfl) (Nat.le_of_ble_eq_true rfl) (fun x24 => ?_)
    refine jm_V.run (is := bk_M_pattern_166_1) (pc' := 153) (ls' := [(0, .ref 0)]) (st' := []) (x' := x24) hok hT bk_M_pattern_166_1_ok rfl ?_
    exact hself x24
theorem jl_M_pattern_153 {l : Launch} {D : va_G} {ad : Nat → Nat} {aC : Nat → ClassId} {b0 : Nat} {K d0 : Nat} {g : jm_Rec} (hok : jm_Ok (jm_PP l D clR ad aC shR b0 0)) (hrec : ∀ (t : Nat) (av : List Value) (x : jm_X), jm_Con (jm_PP l D clR ad aC shR b0 0) (rcR t) d0 av x (g t av x)) : ∀ (k : Nat)  (x : jm_X), jm_V (jm_PP l D clR ad aC shR b0 0) mt_M_pattern (d0 + 7) 153 [(0, .ref 0)] [] x (L_M_pattern_153 K g k  x)
  | 0, _ => jm_V.stuck
  | k + 1, x => jb_M_pattern_153 hok hrec (fun  x => jl_M_pattern_153 hok hrec k  x)  x
def f_M_pattern (K : Nat) (g : jm_Rec)  (x : jm_X) : Option jm_R := (if (x.1 11) = 3 then jm_bV (f_M_another K g x) (fun x1 => (if jm_in shR 4 .int 30 then (if jm_in shR 4 .int 30 then jm_then (jm_ua x1 4 30 ((x1.2.2 4 (Int32.toNatClampNeg 30)) + 1)) (fun x2 => jm_bV (f_M_know K g 2 ((x2.1 9) + 1) (((x2.1 10) - (x2.1 9)) - 1) 0 0 x2) (fun x3 => jm_bV (f_M_scan K g x3) (fun x4 => J_M_pattern_197 K g x4))) else none) else none)) else (if (x.1 11) = 18 then (if jm_in shR 4 .int 31 then (if jm_in shR 4 .int 31 then jm_then (jm_ua x 4 31 ((x.2.2 4 (Int32.toNatClampNeg 31)) + 1)) (fun x5 => jm_bV (f_M_enter K g x5) (fun x6 => jm_bV (f_M_scan K g x6) (fun x7 => jm_bV (g 2 [.ref 0] x7) (fun x8 => L_M_pattern_86 K g K x8)))) else none) else none) else (if (x.1 11) = 20 then (if jm_in shR 4 .int 32 then (if jm_in shR 4 .int 32 then jm_then (jm_ua x 4 32 ((x.2.2 4 (Int32.toNatClampNeg 32)) + 1)) (fun x9 => jm_bV (f_M_enter K g x9) (fun x10 => jm_bV (f_M_scan K g x10) (fun x11 => jm_bV (f_M_entryOfPattern K g x11) (fun x12 => L_M_pattern_153 K g K x12)))) else none) else none) else jm_bA (f_M_bad K g (x.1 9) x) (fun b14 x13 => (if b14 = 2 then some (.inr ("java/lang/IllegalStateException", x13)) else none)))))
set_option maxRecDepth 100000 in
set_option maxHeartbeats 4000000 in
theorem c_M_pattern {l : Launch} {D : va_G} {ad : Nat → Nat} {aC : Nat → ClassId} {b0 : Nat} {K d0 : Nat} {g : jm_Rec} (hok : jm_Ok (jm_PP l D clR ad aC shR b0 0)) (hrec : ∀ (t : Nat) (av : List Value) (x : jm_X), jm_Con (jm_PP l D clR ad aC shR b0 0) (rcR t) d0 av x (g t av x))  (x : jm_X) : jm_Con (jm_PP l D clR ad aC shR b0 0) mt_M_pattern (d0 + 7) [.ref 0] x (f_M_pattern K g  x) := by
  refine jm_Con.of (plainFor_of_name (by decide +kernel)) (Nat.le_of_ble_eq_true rfl) ?_
  have hT := tk_M (l := l) (D := D) (ad := ad) (aC := aC) (b0 := b0)
  unfold f_M_pattern
  show jm_V _ _ _ 0 [(0, .ref 0)] [] x _
  refine jm_V.run (is := bk_M_pattern_0_4) (pc' := (if (x.1 11) = 3 then 8 else 54)) (ls' := [(0, .ref 0)]) (st' := []) (x' := x) hok hT bk_M_pattern_0_4_ok rfl ?_
  refine jm_V.ite (fun _ => ?_) (fun _ => ?_)
  · refine jm_V.run (is := bk_M_pattern_8_1) (pc' := 9) (ls' := [(0, .ref 0)]) (st' := [.ref 0]) (x' := x) hok hT bk_M_pattern_8_1_ok rfl ?_
    refine jm_V.callV (av := [.ref 0]) (rest := []) hok (jm_Con.mono (c_M_another hok hrec x) (by omega)) (jm_Inv.obj (q := ("FilterReaderModel", T_M, 22)) dd_M_pattern_9 (Or.inl lk_M_287) mn_M_another ms_M_another mw_M_another mh_M_another ml_M_another rfl rfl) mw_M_another mi_M (Nat.le_of_ble_eq_true rfl) (Nat.le_of_ble_eq_true rfl) (fun x1 => ?_)
    refine jm_V.run (is := bk_M_pattern_12_4) (pc' := 19) (ls' := [(0, .ref 0)]) (st' := [.int 30, .ref 4, .int 30, .ref 4]) (x' := x1) hok hT bk_M_pattern_12_4_ok rfl ?_
    refine jm_V.iald dd_M_pattern_19 ?_
    refine jm_V.run (is := bk_M_pattern_20_2) (pc' := 22) (ls' := [(0, .ref 0)]) (st' := [.int ((x1.2.2 4 (Int32.toNatClampNeg 30)) + 1), .int 30, .ref 4]) (x' := x1) hok hT bk_M_pattern_20_2_ok rfl ?_
    refine jm_V.iast hok dd_M_pattern_22 ?_
    refine jm_V.then_ (fun x2 => ?_)
    refine jm_V.run (is := bk_M_pattern_23_15) (pc' := 44) (ls' := [(0, .ref 0)]) (st' := [.int 0, .int 0, .int (((x2.1 10) - (x2.1 9)) - 1), .int ((x2.1 9) + 1), .int 2, .ref 0]) (x' := x2) hok hT bk_M_pattern_23_15_ok rfl ?_
    refine jm_V.callV (av := [.ref 0, .int 2, .int ((x2.1 9) + 1), .int (((x2.1 10) - (x2.1 9)) - 1), .int 0, .int 0]) (rest := []) hok (jm_Con.mono (c_M_know hok hrec 2 ((x2.1 9) + 1) (((x2.1 10) - (x2.1 9)) - 1) 0 0 x2) (by omega)) (jm_Inv.obj (q := ("FilterReaderModel", T_M, 22)) dd_M_pattern_44 (Or.inl lk_M_202) mn_M_know ms_M_know mw_M_know mh_M_know ml_M_know rfl rfl) mw_M_know mi_M (Nat.le_of_ble_eq_true rfl) (Nat.le_of_ble_eq_true rfl) (fun x3 => ?_)
    refine jm_V.run (is := bk_M_pattern_47_1) (pc' := 48) (ls' := [(0, .ref 0)]) (st' := [.ref 0]) (x' := x3) hok hT bk_M_pattern_47_1_ok rfl ?_
    refine jm_V.callV (av := [.ref 0]) (rest := []) hok (jm_Con.mono (c_M_scan hok hrec x3) (by omega)) (jm_Inv.obj (q := ("FilterReaderModel", T_M, 22)) dd_M_pattern_48 (Or.inl lk_M_122) mn_M_scan ms_M_scan mw_M_scan mh_M_scan ml_M_scan rfl rfl) mw_M_scan mi_M (Nat.le_of_ble_eq_true rfl) (Nat.le_of_ble_eq_true rfl) (fun x4 => ?_)
    refine jm_V.run (is := bk_M_pattern_51_1) (pc' := 197) (ls' := [(0, .ref 0)]) (st' := []) (x' := x4) hok hT bk_M_pattern_51_1_ok rfl ?_
    refine jm_V.sub (ls' := []) [] rfl ?_
    exact jj_M_pattern_197 hok hrec x4
  · refine jm_V.run (is := bk_M_pattern_54_4) (pc' := (if (x.1 11) = 18 then 63 else 121)) (ls' := [(0, .ref 0)]) (st' := []) (x' := x) hok hT bk_M_pattern_54_4_ok rfl ?_
    refine jm_V.ite (fun _ => ?_) (fun _ => ?_)
    · refine jm_V.run (is := bk_M_pattern_63_4) (pc' := 70) (ls' := [(0, .ref 0)]) (st' := [.int 31, .ref 4, .int 31, .ref 4]) (x' := x) hok hT bk_M_pattern_63_4_ok rfl ?_
      refine jm_V.iald dd_M_pattern_70 ?_
      refine jm_V.run (is := bk_M_pattern_71_2) (pc' := 73) (ls' := [(0, .ref 0)]) (st' := [.int ((x.2.2 4 (Int32.toNatClampNeg 31)) + 1), .int 31, .ref 4]) (x' := x) hok hT bk_M_pattern_71_2_ok rfl ?_
      refine jm_V.iast hok dd_M_pattern_73 ?_
      refine jm_V.then_ (fun x5 => ?_)
      refine jm_V.run (is := bk_M_pattern_74_1) (pc' := 75) (ls' := [(0, .ref 0)]) (st' := [.ref 0]) (x' := x5) hok hT bk_M_pattern_74_1_ok rfl ?_
      refine jm_V.callV (av := [.ref 0]) (rest := []) hok (jm_Con.mono (c_M_enter hok hrec x5) (by omega)) (jm_Inv.obj (q := ("FilterReaderModel", T_M, 22)) dd_M_pattern_75 (Or.inl lk_M_193) mn_M_enter ms_M_enter mw_M_enter mh_M_enter ml_M_enter rfl rfl) mw_M_enter mi_M (Nat.le_of_ble_eq_true rfl) (Nat.le_of_ble_eq_true rfl) (fun x6 => ?_)
      refine jm_V.run (is := bk_M_pattern_78_1) (pc' := 79) (ls' := [(0, .ref 0)]) (st' := [.ref 0]) (x' := x6) hok hT bk_M_pattern_78_1_ok rfl ?_
      refine jm_V.callV (av := [.ref 0]) (rest := []) hok (jm_Con.mono (c_M_scan hok hrec x6) (by omega)) (jm_Inv.obj (q := ("FilterReaderModel", T_M, 22)) dd_M_pattern_79 (Or.inl lk_M_122) mn_M_scan ms_M_scan mw_M_scan mh_M_scan ml_M_scan rfl rfl) mw_M_scan mi_M (Nat.le_of_ble_eq_true rfl) (Nat.le_of_ble_eq_true rfl) (fun x7 => ?_)
      refine jm_V.run (is := bk_M_pattern_82_1) (pc' := 83) (ls' := [(0, .ref 0)]) (st' := [.ref 0]) (x' := x7) hok hT bk_M_pattern_82_1_ok rfl ?_
      refine jm_V.callV (av := [.ref 0]) (rest := []) hok (jm_Con.mono (hrec 2 [.ref 0] x7) (by omega)) (jm_Inv.obj (q := ("FilterReaderModel", T_M, 22)) dd_M_pattern_83 (Or.inl lk_M_284) mn_M_pattern ms_M_pattern mw_M_pattern mh_M_pattern ml_M_pattern rfl rfl) mw_M_pattern mi_M (Nat.le_of_ble_eq_true rfl) (Nat.le_of_ble_eq_true rfl) (fun x8 => ?_)
      exact jl_M_pattern_86 hok hrec K x8
    · refine jm_V.run (is := bk_M_pattern_121_4) (pc' := (if (x.1 11) = 20 then 130 else 188)) (ls' := [(0, .ref 0)]) (st' := []) (x' := x) hok hT bk_M_pattern_121_4_ok rfl ?_
      refine jm_V.ite (fun _ => ?_) (fun _ => ?_)
      · refine jm_V.run (is := bk_M_pattern_130_4) (pc' := 137) (ls' := [(0, .ref 0)]) (st' := [.int 32, .ref 4, .int 32, .ref 4]) (x' := x) hok hT bk_M_pattern_130_4_ok rfl ?_
        refine jm_V.iald dd_M_pattern_137 ?_
        refine jm_V.run (is := bk_M_pattern_138_2) (pc' := 140) (ls' := [(0, .ref 0)]) (st' := [.int ((x.2.2 4 (Int32.toNatClampNeg 32)) + 1), .int 32, .ref 4]) (x' := x) hok hT bk_M_pattern_138_2_ok rfl ?_
        refine jm_V.iast hok dd_M_pattern_140 ?_
        refine jm_V.then_ (fun x9 => ?_)
        refine jm_V.run (is := bk_M_pattern_141_1) (pc' := 142) (ls' := [(0, .ref 0)]) (st' := [.ref 0]) (x' := x9) hok hT bk_M_pattern_141_1_ok rfl ?_
        refine jm_V.callV (av := [.ref 0]) (rest := []) hok (jm_Con.mono (c_M_enter hok hrec x9) (by omega)) (jm_Inv.obj (q := ("FilterReaderModel", T_M, 22)) dd_M_pattern_142 (Or.inl lk_M_193) mn_M_enter ms_M_enter mw_M_enter mh_M_enter ml_M_enter rfl rfl) mw_M_enter mi_M (Nat.le_of_ble_eq_true rfl) (Nat.le_of_ble_eq_true rfl) (fun x10 => ?_)
        refine jm_V.run (is := bk_M_pattern_145_1) (pc' := 146) (ls' := [(0, .ref 0)]) (st' := [.ref 0]) (x' := x10) hok hT bk_M_pattern_145_1_ok rfl ?_
        refine jm_V.callV (av := [.ref 0]) (rest := []) hok (jm_Con.mono (c_M_scan hok hrec x10) (by omega)) (jm_Inv.obj (q := ("FilterReaderModel", T_M, 22)) dd_M_pattern_146 (Or.inl lk_M_122) mn_M_scan ms_M_scan mw_M_scan mh_M_scan ml_M_scan rfl rfl) mw_M_scan mi_M (Nat.le_of_ble_eq_true rfl) (Nat.le_of_ble_eq_true rfl) (fun x11 => ?_)
        refine jm_V.run (is := bk_M_pattern_149_1) (pc' := 150) (ls' := [(0, .ref 0)]) (st' := [.ref 0]) (x' := x11) hok hT bk_M_pattern_149_1_ok rfl ?_
        refine jm_V.callV (av := [.ref 0]) (rest := []) hok (jm_Con.mono (c_M_entryOfPattern hok hrec x11) (by omega)) (jm_Inv.obj (q := ("FilterReaderModel", T_M, 22)) dd_M_pattern_150 (Or.inl lk_M_290) mn_M_entryOfPattern ms_M_entryOfPattern mw_M_entryOfPattern mh_M_entryOfPattern ml_M_entryOfPattern rfl rfl) mw_M_entryOfPattern mi_M (Nat.le_of_ble_eq_true rfl) (Nat.le_of_ble_eq_true rfl) (fun x12 => ?_)
        exact jl_M_pattern_153 hok hrec K x12
      · refine jm_V.run (is := bk_M_pattern_188_3) (pc' := 193) (ls' := [(0, .ref 0)]) (st' := [.int (x.1 9), .ref 0]) (x' := x) hok hT bk_M_pattern_188_3_ok rfl ?_
        refine jm_V.callA (av := [.ref 0, .int (x.1 9)]) (rest := []) hok (jm_Con.mono (c_M_bad hok hrec (x.1 9) x) (by omega)) (jm_Inv.obj (q := ("FilterReaderModel", T_M, 22)) dd_M_pattern_193 (Or.inl lk_M_134) mn_M_bad ms_M_bad mw_M_bad mh_M_bad ml_M_bad rfl rfl) mw_M_bad mi_M (Nat.le_of_ble_eq_true rfl) (Nat.le_of_ble_eq_true rfl) (fun b14 x13 => ?_)
        exact jm_V.athrowS (o := 2) (q := ("java/lang/IllegalStateException", T_X, 0)) rfl rfl dd_M_pattern_196
abbrev bk_M_whole_0_6 : List (Nat × Instr × Nat) := [(0, .aload_n 0, 1), (1, .getfield 281, 3), (4, .istore_n 1, 1), (5, .aload_n 0, 1), (6, .iconst 0, 1), (7, .putfield 281, 3)]
theorem bk_M_whole_0_6_ok : jm_at mt_M_whole.2.1 bk_M_whole_0_6 = true := by decide +kernel
abbrev bk_M_whole_10_1 : List (Nat × Instr × Nat) := [(10, .aload_n 0, 1)]
theorem bk_M_whole_10_1_ok : jm_at mt_M_whole.2.1 bk_M_whole_10_1 = true := by decide +kernel
abbrev bk_M_whole_14_3 : List (Nat × Instr × Nat) := [(14, .aload_n 0, 1), (15, .iload_n 1, 1), (16, .putfield 281, 3)]
theorem bk_M_whole_14_3_ok : jm_at mt_M_whole.2.1 bk_M_whole_14_3 = true := by decide +kernel
theorem dd_M_whole_11 : decode mt_M_whole.2.1 11 = .ok (.invokevirtual 284, 3) := by decide +kernel
theorem dd_M_whole_19 : decode mt_M_whole.2.1 19 = .ok (.return_, 1) := by decide +kernel
def f_M_whole (K : Nat) (g : jm_Rec)  (x : jm_X) : Option jm_R := jm_then (va_up x.1 21 0, x.2) (fun x1 => jm_bV (f_M_pattern K g x1) (fun x2 => jm_then (va_up x2.1 21 (x.1 21), x2.2) (fun x3 => some (.inl (none, x3)))))
set_option maxRecDepth 100000 in
set_option maxHeartbeats 4000000 in
theorem c_M_whole {l : Launch} {D : va_G} {ad : Nat → Nat} {aC : Nat → ClassId} {b0 : Nat} {K d0 : Nat} {g : jm_Rec} (hok : jm_Ok (jm_PP l D clR ad aC shR b0 0)) (hrec : ∀ (t : Nat) (av : List Value) (x : jm_X), jm_Con (jm_PP l D clR ad aC shR b0 0) (rcR t) d0 av x (g t av x))  (x : jm_X) : jm_Con (jm_PP l D clR ad aC shR b0 0) mt_M_whole (d0 + 8) [.ref 0] x (f_M_whole K g  x) := by
  refine jm_Con.of (plainFor_of_name (by decide +kernel)) (Nat.le_of_ble_eq_true rfl) ?_
  have hT := tk_M (l := l) (D := D) (ad := ad) (aC := aC) (b0 := b0)
  unfold f_M_whole
  show jm_V _ _ _ 0 [(0, .ref 0)] [] x _
  refine jm_V.run (is := bk_M_whole_0_6) (pc' := 10) (ls' := [(1, .int (x.1 21)), (0, .ref 0)]) (st' := []) (x' := (va_up x.1 21 0, x.2)) hok hT bk_M_whole_0_6_ok rfl ?_
  refine jm_V.then_ (fun x1 => ?_)
  refine jm_V.run (is := bk_M_whole_10_1) (pc' := 11) (ls' := [(1, .int (x.1 21)), (0, .ref 0)]) (st' := [.ref 0]) (x' := x1) hok hT bk_M_whole_10_1_ok rfl ?_
  refine jm_V.callV (av := [.ref 0]) (rest := []) hok (jm_Con.mono (c_M_pattern hok hrec x1) (by omega)) (jm_Inv.obj (q := ("FilterReaderModel", T_M, 22)) dd_M_whole_11 (Or.inl lk_M_284) mn_M_pattern ms_M_pattern mw_M_pattern mh_M_pattern ml_M_pattern rfl rfl) mw_M_pattern mi_M (Nat.le_of_ble_eq_true rfl) (Nat.le_of_ble_eq_true rfl) (fun x2 => ?_)
  refine jm_V.run (is := bk_M_whole_14_3) (pc' := 19) (ls' := [(1, .int (x.1 21)), (0, .ref 0)]) (st' := []) (x' := (va_up x2.1 21 (x.1 21), x2.2)) hok hT bk_M_whole_14_3_ok rfl ?_
  refine jm_V.then_ (fun x3 => ?_)
  exact jm_V.vret rfl dd_M_whole_19

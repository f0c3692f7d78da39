/-! THE CLASS: methods. Printed by wip/whole/printC.py. -/
abbrev bk_G_pattern_0_3 : List (Nat × Instr × Nat) := [(0, .aload_n 0, 1), (1, .getfield 20, 3), (4, .getstatic 176, 3)]
theorem bk_G_pattern_0_3_ok : jm_at mt_G_pattern.2.1 bk_G_pattern_0_3 = true := by decide +kernel
abbrev bk_G_pattern_10_1 : List (Nat × Instr × Nat) := [(10, .ifCond .eq 15, 3)]
theorem bk_G_pattern_10_1_ok : jm_at mt_G_pattern.2.1 bk_G_pattern_10_1 = true := by decide +kernel
abbrev bk_G_pattern_25_3 : List (Nat × Instr × Nat) := [(25, .aload_n 0, 1), (26, .getfield 20, 3), (29, .getstatic 261, 3)]
theorem bk_G_pattern_25_3_ok : jm_at mt_G_pattern.2.1 bk_G_pattern_25_3 = true := by decide +kernel
abbrev bk_G_pattern_35_3 : List (Nat × Instr × Nat) := [(35, .istore_n 3, 1), (36, .iload_n 3, 1), (37, .ifCond .ne 10, 3)]
theorem bk_G_pattern_35_3_ok : jm_at mt_G_pattern.2.1 bk_G_pattern_35_3 = true := by decide +kernel
abbrev bk_G_pattern_40_2 : List (Nat × Instr × Nat) := [(40, .aload_n 0, 1), (41, .getstatic 312, 3)]
theorem bk_G_pattern_40_2_ok : jm_at mt_G_pattern.2.1 bk_G_pattern_40_2 = true := by decide +kernel
abbrev bk_G_pattern_13_2 : List (Nat × Instr × Nat) := [(13, .aload_n 0, 1), (14, .bipush 30, 2)]
theorem bk_G_pattern_13_2_ok : jm_at mt_G_pattern.2.1 bk_G_pattern_13_2 = true := by decide +kernel
abbrev bk_G_pattern_19_2 : List (Nat × Instr × Nat) := [(19, .aload_n 0, 1), (20, .iload_n 2, 1)]
theorem bk_G_pattern_19_2_ok : jm_at mt_G_pattern.2.1 bk_G_pattern_19_2 = true := by decide +kernel
abbrev bk_G_pattern_47_4 : List (Nat × Instr × Nat) := [(47, .aload_n 0, 1), (48, .iload_n 1, 1), (49, .iconst 1, 1), (50, .iadd, 1)]
theorem bk_G_pattern_47_4_ok : jm_at mt_G_pattern.2.1 bk_G_pattern_47_4 = true := by decide +kernel
abbrev bk_G_pattern_54_4 : List (Nat × Instr × Nat) := [(54, .istore 4, 2), (56, .aload_n 0, 1), (57, .iload_n 3, 1), (58, .ifCond .eq 8, 3)]
theorem bk_G_pattern_54_4_ok : jm_at mt_G_pattern.2.1 bk_G_pattern_54_4 = true := by decide +kernel
abbrev bk_G_pattern_66_1 : List (Nat × Instr × Nat) := [(66, .bipush 32, 2)]
theorem bk_G_pattern_66_1_ok : jm_at mt_G_pattern.2.1 bk_G_pattern_66_1 = true := by decide +kernel
abbrev bk_G_pattern_61_2 : List (Nat × Instr × Nat) := [(61, .bipush 31, 2), (63, .goto 5, 3)]
theorem bk_G_pattern_61_2_ok : jm_at mt_G_pattern.2.1 bk_G_pattern_61_2 = true := by decide +kernel
abbrev bk_G_pattern_71_4 : List (Nat × Instr × Nat) := [(71, .iload_n 2, 1), (72, .istore 5, 2), (74, .iconst 0, 1), (75, .istore 6, 2)]
theorem bk_G_pattern_71_4_ok : jm_at mt_G_pattern.2.1 bk_G_pattern_71_4 = true := by decide +kernel
abbrev bk_G_pattern_77_2 : List (Nat × Instr × Nat) := [(77, .iload_n 3, 1), (78, .ifCond .eq 14, 3)]
theorem bk_G_pattern_77_2_ok : jm_at mt_G_pattern.2.1 bk_G_pattern_77_2 = true := by decide +kernel
abbrev bk_G_pattern_92_3 : List (Nat × Instr × Nat) := [(92, .aload_n 0, 1), (93, .iload 4, 2), (95, .iload 5, 2)]
theorem bk_G_pattern_92_3_ok : jm_at mt_G_pattern.2.1 bk_G_pattern_92_3 = true := by decide +kernel
abbrev bk_G_pattern_81_3 : List (Nat × Instr × Nat) := [(81, .aload_n 0, 1), (82, .iload 4, 2), (84, .iload 5, 2)]
theorem bk_G_pattern_81_3_ok : jm_at mt_G_pattern.2.1 bk_G_pattern_81_3 = true := by decide +kernel
abbrev bk_G_pattern_89_1 : List (Nat × Instr × Nat) := [(89, .goto 11, 3)]
theorem bk_G_pattern_89_1_ok : jm_at mt_G_pattern.2.1 bk_G_pattern_89_1 = true := by decide +kernel
abbrev bk_G_pattern_100_5 : List (Nat × Instr × Nat) := [(100, .istore 5, 2), (102, .iinc 6 1, 3), (105, .iload 6, 2), (107, .sipush 16385, 3), (110, .if_icmp .ge 13, 3)]
theorem bk_G_pattern_100_5_ok : jm_at mt_G_pattern.2.1 bk_G_pattern_100_5 = true := by decide +kernel
abbrev bk_G_pattern_113_2 : List (Nat × Instr × Nat) := [(113, .aload_n 0, 1), (114, .getstatic 296, 3)]
theorem bk_G_pattern_113_2_ok : jm_at mt_G_pattern.2.1 bk_G_pattern_113_2 = true := by decide +kernel
abbrev bk_G_pattern_120_1 : List (Nat × Instr × Nat) := [(120, .ifCond .ne (-43), 3)]
theorem bk_G_pattern_120_1_ok : jm_at mt_G_pattern.2.1 bk_G_pattern_120_1 = true := by decide +kernel
abbrev bk_G_pattern_123_3 : List (Nat × Instr × Nat) := [(123, .aload_n 0, 1), (124, .iload_n 3, 1), (125, .ifCond .eq 9, 3)]
theorem bk_G_pattern_123_3_ok : jm_at mt_G_pattern.2.1 bk_G_pattern_123_3 = true := by decide +kernel
abbrev bk_G_pattern_134_1 : List (Nat × Instr × Nat) := [(134, .getstatic 290, 3)]
theorem bk_G_pattern_134_1_ok : jm_at mt_G_pattern.2.1 bk_G_pattern_134_1 = true := by decide +kernel
abbrev bk_G_pattern_128_2 : List (Nat × Instr × Nat) := [(128, .getstatic 273, 3), (131, .goto 6, 3)]
theorem bk_G_pattern_128_2_ok : jm_at mt_G_pattern.2.1 bk_G_pattern_128_2 = true := by decide +kernel
abbrev bk_G_pattern_140_1 : List (Nat × Instr × Nat) := [(140, .iload 5, 2)]
theorem bk_G_pattern_140_1_ok : jm_at mt_G_pattern.2.1 bk_G_pattern_140_1 = true := by decide +kernel
theorem dd_G_pattern_7 : decode mt_G_pattern.2.1 7 = .ok (.invokevirtual 71, 3) := by decide +kernel
theorem dd_G_pattern_32 : decode mt_G_pattern.2.1 32 = .ok (.invokevirtual 71, 3) := by decide +kernel
theorem dd_G_pattern_44 : decode mt_G_pattern.2.1 44 = .ok (.invokevirtual 55, 3) := by decide +kernel
theorem dd_G_pattern_16 : decode mt_G_pattern.2.1 16 = .ok (.invokevirtual 85, 3) := by decide +kernel
theorem dd_G_pattern_21 : decode mt_G_pattern.2.1 21 = .ok (.invokevirtual 309, 3) := by decide +kernel
theorem dd_G_pattern_24 : decode mt_G_pattern.2.1 24 = .ok (.ireturn, 1) := by decide +kernel
theorem dd_G_pattern_51 : decode mt_G_pattern.2.1 51 = .ok (.invokevirtual 127, 3) := by decide +kernel
theorem dd_G_pattern_68 : decode mt_G_pattern.2.1 68 = .ok (.invokevirtual 124, 3) := by decide +kernel
theorem dd_G_pattern_97 : decode mt_G_pattern.2.1 97 = .ok (.invokevirtual 315, 3) := by decide +kernel
theorem dd_G_pattern_86 : decode mt_G_pattern.2.1 86 = .ok (.invokevirtual 209, 3) := by decide +kernel
theorem dd_G_pattern_117 : decode mt_G_pattern.2.1 117 = .ok (.invokevirtual 154, 3) := by decide +kernel
theorem dd_G_pattern_137 : decode mt_G_pattern.2.1 137 = .ok (.invokevirtual 170, 3) := by decide +kernel
theorem dd_G_pattern_142 : decode mt_G_pattern.2.1 142 = .ok (.ireturn, 1) := by decide +kernel
def J_G_pattern_137 (K : Nat) (g : jm_Rec) (v5 : Int32) (s0 : Nat) (x : jm_X) : Option jm_R := jm_bV (f_G_take K g s0 x) (fun x18 => some (.inl (some (.int v5), x18)))
set_option maxRecDepth 100000 in
set_option maxHeartbeats 4000000 in
theorem jj_G_pattern_137 {l : Launch} {D : va_G} {ad : Nat → Nat} {aC : Nat → ClassId} {b0 : Nat} {K d0 : Nat} {g : jm_Rec} (hok : jm_Ok (jm_PP l D clC ad aC shC b0 1)) (hrec : ∀ (t : Nat) (av : List Value) (x : jm_X), jm_Con (jm_PP l D clC ad aC shC b0 1) (rcC t) d0 av x (g t av x)) (v5 : Int32) (s0 : Nat) (x : jm_X) : jm_V (jm_PP l D clC ad aC shC b0 1) mt_G_pattern (d0 + 12) 137 [(5, .int v5)] [.ref s0, .ref 2] x (J_G_pattern_137 K g v5 s0 x) := by
  have hT := tk_G (l := l) (D := D) (ad := ad) (aC := aC) (b0 := b0)
  unfold J_G_pattern_137
  refine jm_V.callV (av := [.ref 2, .ref s0]) (rest := []) hok (jm_Con.mono (c_G_take hok hrec s0 x) (by omega)) (jm_Inv.obj (q := ("FilterReader$Grammar", T_G, 5)) dd_G_pattern_137 (Or.inl lk_G_170) mn_G_take ms_G_take mw_G_take mh_G_take ml_G_take rfl rfl) mw_G_take mi_G (Nat.le_of_ble_eq_true rfl) (Nat.le_of_ble_eq_true rfl) (fun x18 => ?_)
  refine jm_V.run (is := bk_G_pattern_140_1) (pc' := 142) (ls' := [(5, .int v5)]) (st' := [.int v5]) (x' := x18) hok hT bk_G_pattern_140_1_ok rfl ?_
  exact jm_V.iret rfl dd_G_pattern_142
def J_G_pattern_123 (K : Nat) (g : jm_Rec) (v3 : Int32) (v5 : Int32) (x : jm_X) : Option jm_R := (if v3 = 0 then J_G_pattern_137 K g v5 1017 x else J_G_pattern_137 K g v5 1015 x)
set_option maxRecDepth 100000 in
set_option maxHeartbeats 4000000 in
theorem jj_G_pattern_123 {l : Launch} {D : va_G} {ad : Nat → Nat} {aC : Nat → ClassId} {b0 : Nat} {K d0 : Nat} {g : jm_Rec} (hok : jm_Ok (jm_PP l D clC ad aC shC b0 1)) (hrec : ∀ (t : Nat) (av : List Value) (x : jm_X), jm_Con (jm_PP l D clC ad aC shC b0 1) (rcC t) d0 av x (g t av x)) (v3 : Int32) (v5 : Int32) (x : jm_X) : jm_V (jm_PP l D clC ad aC shC b0 1) mt_G_pattern (d0 + 12) 123 [(0, .ref 2), (3, .int v3), (5, .int v5)] [] x (J_G_pattern_123 K g v3 v5 x) := by
  have hT := tk_G (l := l) (D := D) (ad := ad) (aC := aC) (b0 := b0)
  unfold J_G_pattern_123
  refine jm_V.run (is := bk_G_pattern_123_3) (pc' := (if v3 = 0 then 134 else 128)) (ls' := [(0, .ref 2), (3, .int v3), (5, .int v5)]) (st' := [.ref 2]) (x' := x) hok hT bk_G_pattern_123_3_ok rfl ?_
  refine jm_V.ite (fun _ => ?_) (fun _ => ?_)
  · refine jm_V.run (is := bk_G_pattern_134_1) (pc' := 137) (ls' := [(0, .ref 2), (3, .int v3), (5, .int v5)]) (st' := [.ref 1017, .ref 2]) (x' := x) hok hT bk_G_pattern_134_1_ok rfl ?_
    refine jm_V.sub (ls' := [(5, .int v5)]) [2] rfl ?_
    exact jj_G_pattern_137 hok hrec v5 1017 x
  · refine jm_V.run (is := bk_G_pattern_128_2) (pc' := 137) (ls' := [(0, .ref 2), (3, .int v3), (5, .int v5)]) (st' := [.ref 1015, .ref 2]) (x' := x) hok hT bk_G_pattern_128_2_ok rfl ?_
    refine jm_V.sub (ls' := [(5, .int v5)]) [2] rfl ?_
    exact jj_G_pattern_137 hok hrec v5 1015 x
def J_G_pattern_100 (K : Nat) (g : jm_Rec) (k77 : Int32 → Int32 → Int32 → Int32 → jm_X → Option jm_R) (v3 : Int32) (v4 : Int32) (v6 : Int32) (s0 : Int32) (x : jm_X) : Option jm_R := (if 16385 ≤ (v6 + 1) then J_G_pattern_123 K g v3 s0 x else jm_bI (f_G_takes K g 1032 x) (fun b17 x16 => (if b17 = 0 then J_G_pattern_123 K g v3 s0 x16 else k77 v3 v4 s0 (v6 + 1) x16)))
set_option maxRecDepth 100000 in
set_option maxHeartbeats 4000000 in
theorem jj_G_pattern_100 {l : Launch} {D : va_G} {ad : Nat → Nat} {aC : Nat → ClassId} {b0 : Nat} {K d0 : Nat} {g : jm_Rec} (hok : jm_Ok (jm_PP l D clC ad aC shC b0 1)) (hrec : ∀ (t : Nat) (av : List Value) (x : jm_X), jm_Con (jm_PP l D clC ad aC shC b0 1) (rcC t) d0 av x (g t av x)) {k77 : Int32 → Int32 → Int32 → Int32 → jm_X → Option jm_R} (hk77 : ∀ (v3 : Int32) (v4 : Int32) (v5 : Int32) (v6 : Int32) (x : jm_X), jm_V (jm_PP l D clC ad aC shC b0 1) mt_G_pattern (d0 + 12) 77 [(0, .ref 2), (3, .int v3), (4, .int v4), (5, .int v5), (6, .int v6)] [] x (k77 v3 v4 v5 v6 x)) (v3 : Int32) (v4 : Int32) (v6 : Int32) (s0 : Int32) (x : jm_X) : jm_V (jm_PP l D clC ad aC shC b0 1) mt_G_pattern (d0 + 12) 100 [(0, .ref 2), (3, .int v3), (4, .int v4), (6, .int v6)] [.int s0] x (J_G_pattern_100 K g k77 v3 v4 v6 s0 x) := by
  have hT := tk_G (l := l) (D := D) (ad := ad) (aC := aC) (b0 := b0)
  unfold J_G_pattern_100
  refine jm_V.run (is := bk_G_pattern_100_5) (pc' := (if 16385 ≤ (v6 + 1) then 123 else 113)) (ls' := [(6, .int (v6 + 1)), (5, .int s0), (0, .ref 2), (3, .int v3), (4, .int v4)]) (st' := []) (x' := x) hok hT bk_G_pattern_100_5_ok rfl ?_
  refine jm_V.ite (fun _ => ?_) (fun _ => ?_)
  · refine jm_V.sub (ls' := [(0, .ref 2), (3, .int v3), (5, .int s0)]) [2, 3, 1] rfl ?_
    exact jj_G_pattern_123 hok hrec v3 s0 x
  · refine jm_V.run (is := bk_G_pattern_113_2) (pc' := 117) (ls' := [(6, .int (v6 + 1)), (5, .int s0), (0, .ref 2), (3, .int v3), (4, .int v4)]) (st' := [.ref 1032, .ref 2]) (x' := x) hok hT bk_G_pattern_113_2_ok rfl ?_
    refine jm_V.callI (av := [.ref 2, .ref 1032]) (rest := []) hok (jm_Con.mono (c_G_takes hok hrec 1032 x) (by omega)) (jm_Inv.obj (q := ("FilterReader$Grammar", T_G, 5)) dd_G_pattern_117 (Or.inl lk_G_154) mn_G_takes ms_G_takes mw_G_takes mh_G_takes ml_G_takes rfl rfl) mw_G_takes mi_G (Nat.le_of_ble_eq_true rfl) (Nat.le_of_ble_eq_true rfl) (fun b17 x16 => ?_)
    refine jm_V.run (is := bk_G_pattern_120_1) (pc' := (if b17 = 0 then 123 else 77)) (ls' := [(6, .int (v6 + 1)), (5, .int s0), (0, .ref 2), (3, .int v3), (4, .int v4)]) (st' := []) (x' := x16) hok hT bk_G_pattern_120_1_ok rfl ?_
    refine jm_V.ite (fun _ => ?_) (fun _ => ?_)
    · refine jm_V.sub (ls' := [(0, .ref 2), (3, .int v3), (5, .int s0)]) [2, 3, 1] rfl ?_
      exact jj_G_pattern_123 hok hrec v3 s0 x16
    · refine jm_V.sub (ls' := [(0, .ref 2), (3, .int v3), (4, .int v4), (5, .int s0), (6, .int (v6 + 1))]) [2, 3, 4, 1, 0] rfl ?_
      exact hk77 v3 v4 s0 (v6 + 1) x16
def B_G_pattern_77 (K : Nat) (g : jm_Rec) (self : Int32 → Int32 → Int32 → Int32 → jm_X → Option jm_R) (v3 : Int32) (v4 : Int32) (v5 : Int32) (v6 : Int32) (x : jm_X) : Option jm_R := (if v3 = 0 then jm_bI (f_G_patternEntry K g v4 v5 x) (fun b13 x12 => J_G_pattern_100 K g self v3 v4 v6 b13 x12) else jm_bI (g 2 [.ref 2, .int v4, .int v5] x) (fun b15 x14 => J_G_pattern_100 K g self v3 v4 v6 b15 x14))
def L_G_pattern_77 (K : Nat) (g : jm_Rec) : Nat → Int32 → Int32 → Int32 → Int32 → jm_X → Option jm_R
  | 0, _, _, _, _, _ => none
  | k + 1, v3, v4, v5, v6, x => B_G_pattern_77 K g (L_G_pattern_77 K g k) v3 v4 v5 v6 x
set_option maxRecDepth 100000 in
set_option maxHeartbeats 4000000 in
theorem jb_G_pattern_77 {l : Launch} {D : va_G} {ad : Nat → Nat} {aC : Nat → ClassId} {b0 : Nat} {K d0 : Nat} {g : jm_Rec} (hok : jm_Ok (jm_PP l D clC ad aC shC b0 1)) (hrec : ∀ (t : Nat) (av : List Value) (x : jm_X), jm_Con (jm_PP l D clC ad aC shC b0 1) (rcC t) d0 av x (g t av x)) {self : Int32 → Int32 → Int32 → Int32 → jm_X → Option jm_R} (hself : ∀ (v3 : Int32) (v4 : Int32) (v5 : Int32) (v6 : Int32) (x : jm_X), jm_V (jm_PP l D clC ad aC shC b0 1) mt_G_pattern (d0 + 12) 77 [(0, .ref 2), (3, .int v3), (4, .int v4), (5, .int v5), (6, .int v6)] [] x (self v3 v4 v5 v6 x)) (v3 : Int32) (v4 : Int32) (v5 : Int32) (v6 : Int32) (x : jm_X) : jm_V (jm_PP l D clC ad aC shC b0 1) mt_G_pattern (d0 + 12) 77 [(0, .ref 2), (3, .int v3), (4, .int v4), (5, .int v5), (6, .int v6)] [] x (B_G_pattern_77 K g self v3 v4 v5 v6 x) := by
  have hT := tk_G (l := l) (D := D) (ad := ad) (aC := aC) (b0 := b0)
  unfold B_G_pattern_77
  refine jm_V.run (is := bk_G_pattern_77_2) (pc' := (if v3 = 0 then 92 else 81)) (ls' := [(0, .ref 2), (3, .int v3), (4, .int v4), (5, .int v5), (6, .int v6)]) (st' := []) (x' := x) hok hT bk_G_pattern_77_2_ok rfl ?_
  refine jm_V.ite (fun _ => ?_) (fun _ => ?_)
  · refine jm_V.run (is := bk_G_pattern_92_3) (pc' := 97) (ls' := [(0, .ref 2), (3, .int v3), (4, .int v4), (5, .int v5), (6, .int v6)]) (st' := [.int v5, .int v4, .ref 2]) (x' := x) hok hT bk_G_pattern_92_3_ok rfl ?_
    refine jm_V.callI (av := [.ref 2, .int v4, .int v5]) (rest := []) hok (jm_Con.mono (c_G_patternEntry hok hrec v4 v5 x) (by omega)) (jm_Inv.obj (q := ("FilterReader$Grammar", T_G, 5)) dd_G_pattern_97 (Or.inl lk_G_315) mn_G_patternEntry ms_G_patternEntry mw_G_patternEntry mh_G_patternEntry ml_G_patternEntry rfl rfl) mw_G_patternEntry mi_G (Nat.le_of_ble_eq_true rfl) (Nat.le_of_ble_eq_true rfl) (fun b13 x12 => ?_)
    refine jm_V.sub (ls' := [(0, .ref 2), (3, .int v3), (4, .int v4), (6, .int v6)]) [0, 1, 2, 4] rfl ?_
    exact jj_G_pattern_100 hok hrec hself v3 v4 v6 b13 x12
  · refine jm_V.run (is := bk_G_pattern_81_3) (pc' := 86) (ls' := [(0, .ref 2), (3, .int v3), (4, .int v4), (5, .int v5), (6, .int v6)]) (st' := [.int v5, .int v4, .ref 2]) (x' := x) hok hT bk_G_pattern_81_3_ok rfl ?_
    refine jm_V.callI (av := [.ref 2, .int v4, .int v5]) (rest := []) hok (jm_Con.mono (hrec 2 [.ref 2, .int v4, .int v5] x) (by omega)) (jm_Inv.obj (q := ("FilterReader$Grammar", T_G, 5)) dd_G_pattern_86 (Or.inl lk_G_209) mn_G_pattern ms_G_pattern mw_G_pattern mh_G_pattern ml_G_pattern rfl rfl) mw_G_pattern mi_G (Nat.le_of_ble_eq_true rfl) (Nat.le_of_ble_eq_true rfl) (fun b15 x14 => ?_)
    refine jm_V.run (is := bk_G_pattern_89_1) (pc' := 100) (ls' := [(0, .ref 2), (3, .int v3), (4, .int v4), (5, .int v5), (6, .int v6)]) (st' := [.int b15]) (x' := x14) hok hT bk_G_pattern_89_1_ok rfl ?_
    refine jm_V.sub (ls' := [(0, .ref 2), (3, .int v3), (4, .int v4), (6, .int v6)]) [0, 1, 2, 4] rfl ?_
    exact jj_G_pattern_100 hok hrec hself v3 v4 v6 b15 x14
theorem jl_G_pattern_77 {l : Launch} {D : va_G} {ad : Nat → Nat} {aC : Nat → ClassId} {b0 : Nat} {K d0 : Nat} {g : jm_Rec} (hok : jm_Ok (jm_PP l D clC ad aC shC b0 1)) (hrec : ∀ (t : Nat) (av : List Value) (x : jm_X), jm_Con (jm_PP l D clC ad aC shC b0 1) (rcC t) d0 av x (g t av x)) : ∀ (k : Nat) (v3 : Int32) (v4 : Int32) (v5 : Int32) (v6 : Int32) (x : jm_X), jm_V (jm_PP l D clC ad aC shC b0 1) mt_G_pattern (d0 + 12) 77 [(0, .ref 2), (3, .int v3), (4, .int v4), (5, .int v5), (6, .int v6)] [] x (L_G_pattern_77 K g k v3 v4 v5 v6 x)
  | 0, _, _, _, _, _ => jm_V.stuck
  | k + 1, v3, v4, v5, v6, x => jb_G_pattern_77 hok hrec (fun v3 v4 v5 v6 x => jl_G_pattern_77 hok hrec k v3 v4 v5 v6 x) v3 v4 v5 v6 x
def J_G_pattern_68 (K : Nat) (g : jm_Rec) (v2 : Int32) (v3 : Int32) (v4 : Int32) (s0 : Int32) (x : jm_X) : Option jm_R := jm_bV (f_G_takeAs K g s0 x) (fun x11 => L_G_pattern_77 K g K v3 v4 v2 0 x11)
set_option maxRecDepth 100000 in
set_option maxHeartbeats 4000000 in
theorem jj_G_pattern_68 {l : Launch} {D : va_G} {ad : Nat → Nat} {aC : Nat → ClassId} {b0 : Nat} {K d0 : Nat} {g : jm_Rec} (hok : jm_Ok (jm_PP l D clC ad aC shC b0 1)) (hrec : ∀ (t : Nat) (av : List Value) (x : jm_X), jm_Con (jm_PP l D clC ad aC shC b0 1) (rcC t) d0 av x (g t av x)) (v2 : Int32) (v3 : Int32) (v4 : Int32) (s0 : Int32) (x : jm_X) : jm_V (jm_PP l D clC ad aC shC b0 1) mt_G_pattern (d0 + 12) 68 [(0, .ref 2), (2, .int v2), (3, .int v3), (4, .int v4)] [.int s0, .ref 2] x (J_G_pattern_68 K g v2 v3 v4 s0 x) := by
  have hT := tk_G (l := l) (D := D) (ad := ad) (aC := aC) (b0 := b0)
  unfold J_G_pattern_68
  refine jm_V.callV (av := [.ref 2, .int s0]) (rest := []) hok (jm_Con.mono (c_G_takeAs hok hrec s0 x) (by omega)) (jm_Inv.obj (q := ("FilterReader$Grammar", T_G, 5)) dd_G_pattern_68 (Or.inl lk_G_124) mn_G_takeAs ms_G_takeAs mw_G_takeAs mh_G_takeAs ml_G_takeAs rfl rfl) mw_G_takeAs mi_G (Nat.le_of_ble_eq_true rfl) (Nat.le_of_ble_eq_true rfl) (fun x11 => ?_)
  refine jm_V.run (is := bk_G_pattern_71_4) (pc' := 77) (ls' := [(6, .int 0), (5, .int v2), (0, .ref 2), (2, .int v2), (3, .int v3), (4, .int v4)]) (st' := []) (x' := x11) hok hT bk_G_pattern_71_4_ok rfl ?_
  refine jm_V.sub (ls' := [(0, .ref 2), (3, .int v3), (4, .int v4), (5, .int v2), (6, .int 0)]) [2, 4, 5, 1, 0] rfl ?_
  exact jl_G_pattern_77 hok hrec K v3 v4 v2 0 x11
def J_G_pattern_47 (K : Nat) (g : jm_Rec) (v1 : Int32) (v2 : Int32) (v3 : Int32) (x : jm_X) : Option jm_R := jm_bI (f_G_opened K g (v1 + 1) x) (fun b10 x9 => (if v3 = 0 then J_G_pattern_68 K g v2 v3 b10 32 x9 else J_G_pattern_68 K g v2 v3 b10 31 x9))
set_option maxRecDepth 100000 in
set_option maxHeartbeats 4000000 in
theorem jj_G_pattern_47 {l : Launch} {D : va_G} {ad : Nat → Nat} {aC : Nat → ClassId} {b0 : Nat} {K d0 : Nat} {g : jm_Rec} (hok : jm_Ok (jm_PP l D clC ad aC shC b0 1)) (hrec : ∀ (t : Nat) (av : List Value) (x : jm_X), jm_Con (jm_PP l D clC ad aC shC b0 1) (rcC t) d0 av x (g t av x)) (v1 : Int32) (v2 : Int32) (v3 : Int32) (x : jm_X) : jm_V (jm_PP l D clC ad aC shC b0 1) mt_G_pattern (d0 + 12) 47 [(0, .ref 2), (1, .int v1), (2, .int v2), (3, .int v3)] [] x (J_G_pattern_47 K g v1 v2 v3 x) := by
  have hT := tk_G (l := l) (D := D) (ad := ad) (aC := aC) (b0 := b0)
  unfold J_G_pattern_47
  refine jm_V.run (is := bk_G_pattern_47_4) (pc' := 51) (ls' := [(0, .ref 2), (1, .int v1), (2, .int v2), (3, .int v3)]) (st' := [.int (v1 + 1), .ref 2]) (x' := x) hok hT bk_G_pattern_47_4_ok rfl ?_
  refine jm_V.callI (av := [.ref 2, .int (v1 + 1)]) (rest := []) hok (jm_Con.mono (c_G_opened hok hrec (v1 + 1) x) (by omega)) (jm_Inv.obj (q := ("FilterReader$Grammar", T_G, 5)) dd_G_pattern_51 (Or.inl lk_G_127) mn_G_opened ms_G_opened mw_G_opened mh_G_opened ml_G_opened rfl rfl) mw_G_opened mi_G (Nat.le_of_ble_eq_true rfl) (Nat.le_of_ble_eq_true rfl) (fun b10 x9 => ?_)
  refine jm_V.run (is := bk_G_pattern_54_4) (pc' := (if v3 = 0 then 66 else 61)) (ls' := [(4, .int b10), (0, .ref 2), (1, .int v1), (2, .int v2), (3, .int v3)]) (st' := [.ref 2]) (x' := x9) hok hT bk_G_pattern_54_4_ok rfl ?_
  refine jm_V.ite (fun _ => ?_) (fun _ => ?_)
  · refine jm_V.run (is := bk_G_pattern_66_1) (pc' := 68) (ls' := [(4, .int b10), (0, .ref 2), (1, .int v1), (2, .int v2), (3, .int v3)]) (st' := [.int 32, .ref 2]) (x' := x9) hok hT bk_G_pattern_66_1_ok rfl ?_
    refine jm_V.sub (ls' := [(0, .ref 2), (2, .int v2), (3, .int v3), (4, .int b10)]) [1, 3, 4, 0] rfl ?_
    exact jj_G_pattern_68 hok hrec v2 v3 b10 32 x9
  · refine jm_V.run (is := bk_G_pattern_61_2) (pc' := 68) (ls' := [(4, .int b10), (0, .ref 2), (1, .int v1), (2, .int v2), (3, .int v3)]) (st' := [.int 31, .ref 2]) (x' := x9) hok hT bk_G_pattern_61_2_ok rfl ?_
    refine jm_V.sub (ls' := [(0, .ref 2), (2, .int v2), (3, .int v3), (4, .int b10)]) [1, 3, 4, 0] rfl ?_
    exact jj_G_pattern_68 hok hrec v2 v3 b10 31 x9
def f_G_pattern (K : Nat) (g : jm_Rec) (a1 : Int32) (a2 : Int32) (x : jm_X) : Option jm_R := jm_bI (f_S_is K g 1004 x) (fun b2 x1 => (if b2 = 0 then jm_bI (f_S_is K g 1014 x1) (fun b4 x3 => (if b4 = 0 then jm_bV (f_G_need K g 1016 x3) (fun x5 => J_G_pattern_47 K g a1 a2 b4 x5) else J_G_pattern_47 K g a1 a2 b4 x3)) else jm_bV (f_G_count K g 30 x1) (fun x6 => jm_bI (f_G_patternName K g a2 x6) (fun b8 x7 => some (.inl (some (.int b8), x7))))))
set_option maxRecDepth 100000 in
set_option maxHeartbeats 4000000 in
theorem c_G_pattern {l : Launch} {D : va_G} {ad : Nat → Nat} {aC : Nat → ClassId} {b0 : Nat} {K d0 : Nat} {g : jm_Rec} (hok : jm_Ok (jm_PP l D clC ad aC shC b0 1)) (hrec : ∀ (t : Nat) (av : List Value) (x : jm_X), jm_Con (jm_PP l D clC ad aC shC b0 1) (rcC t) d0 av x (g t av x)) (a1 : Int32) (a2 : Int32) (x : jm_X) : jm_Con (jm_PP l D clC ad aC shC b0 1) mt_G_pattern (d0 + 12) [.ref 2, .int a1, .int a2] x (f_G_pattern K g a1 a2 x) := by
  refine jm_Con.of (plainFor_of_name (by decide +kernel)) (Nat.le_of_ble_eq_true rfl) ?_
  have hT := tk_G (l := l) (D := D) (ad := ad) (aC := aC) (b0 := b0)
  unfold f_G_pattern
  show jm_V _ _ _ 0 [(0, .ref 2), (1, .int a1), (2, .int a2)] [] x _
  refine jm_V.run (is := bk_G_pattern_0_3) (pc' := 7) (ls' := [(0, .ref 2), (1, .int a1), (2, .int a2)]) (st' := [.ref 1004, .ref 4]) (x' := x) hok hT bk_G_pattern_0_3_ok rfl ?_
  refine jm_V.callI (av := [.ref 4, .ref 1004]) (rest := []) hok (jm_Con.mono (c_S_is hok hrec 1004 x) (by omega)) (jm_Inv.obj (q := ("FilterReader$Signs", T_S, 5)) dd_G_pattern_7 (Or.inl lk_G_71) mn_S_is ms_S_is mw_S_is mh_S_is ml_S_is rfl rfl) mw_S_is mi_S (Nat.le_of_ble_eq_true rfl) (Nat.le_of_ble_eq_true rfl) (fun b2 x1 => ?_)
  refine jm_V.run (is := bk_G_pattern_10_1) (pc' := (if b2 = 0 then 25 else 13)) (ls' := [(0, .ref 2), (1, .int a1), (2, .int a2)]) (st' := []) (x' := x1) hok hT bk_G_pattern_10_1_ok rfl ?_
  refine jm_V.ite (fun _ => ?_) (fun _ => ?_)
  · refine jm_V.run (is := bk_G_pattern_25_3) (pc' := 32) (ls' := [(0, .ref 2), (1, .int a1), (2, .int a2)]) (st' := [.ref 1014, .ref 4]) (x' := x1) hok hT bk_G_pattern_25_3_ok rfl ?_
    refine jm_V.callI (av := [.ref 4, .ref 1014]) (rest := []) hok (jm_Con.mono (c_S_is hok hrec 1014 x1) (by omega)) (jm_Inv.obj (q := ("FilterReader$Signs", T_S, 5)) dd_G_pattern_32 (Or.inl lk_G_71) mn_S_is ms_S_is mw_S_is mh_S_is ml_S_is rfl rfl) mw_S_is mi_S (Nat.le_of_ble_eq_true rfl) (Nat.le_of_ble_eq_true rfl) (fun b4 x3 => ?_)
    refine jm_V.run (is := bk_G_pattern_35_3) (pc' := (if b4 = 0 then 40 else 47)) (ls' := [(3, .int b4), (0, .ref 2), (1, .int a1), (2, .int a2)]) (st' := []) (x' := x3) hok hT bk_G_pattern_35_3_ok rfl ?_
    refine jm_V.ite (fun _ => ?_) (fun _ => ?_)
    · refine jm_V.run (is := bk_G_pattern_40_2) (pc' := 44) (ls' := [(3, .int b4), (0, .ref 2), (1, .int a1), (2, .int a2)]) (st' := [.ref 1016, .ref 2]) (x' := x3) hok hT bk_G_pattern_40_2_ok rfl ?_
      refine jm_V.callV (av := [.ref 2, .ref 1016]) (rest := []) hok (jm_Con.mono (c_G_need hok hrec 1016 x3) (by omega)) (jm_Inv.obj (q := ("FilterReader$Grammar", T_G, 5)) dd_G_pattern_44 (Or.inl lk_G_55) mn_G_need ms_G_need mw_G_need mh_G_need ml_G_need rfl rfl) mw_G_need mi_G (Nat.le_of_ble_eq_true rfl) (Nat.le_of_ble_eq_true rfl) (fun x5 => ?_)
      refine jm_V.sub (ls' := [(0, .ref 2), (1, .int a1), (2, .int a2), (3, .int b4)]) [1, 2, 3, 0] rfl ?_
      exact jj_G_pattern_47 hok hrec a1 a2 b4 x5
    · refine jm_V.sub (ls' := [(0, .ref 2), (1, .int a1), (2, .int a2), (3, .int b4)]) [1, 2, 3, 0] rfl ?_
      exact jj_G_pattern_47 hok hrec a1 a2 b4 x3
  · refine jm_V.run (is := bk_G_pattern_13_2) (pc' := 16) (ls' := [(0, .ref 2), (1, .int a1), (2, .int a2)]) (st' := [.int 30, .ref 2]) (x' := x1) hok hT bk_G_pattern_13_2_ok rfl ?_
    refine jm_V.callV (av := [.ref 2, .int 30]) (rest := []) hok (jm_Con.mono (c_G_count hok hrec 30 x1) (by omega)) (jm_Inv.obj (q := ("FilterReader$Grammar", T_G, 5)) dd_G_pattern_16 (Or.inl lk_G_85) mn_G_count ms_G_count mw_G_count mh_G_count ml_G_count rfl rfl) mw_G_count mi_G (Nat.le_of_ble_eq_true rfl) (Nat.le_of_ble_eq_true rfl) (fun x6 => ?_)
    refine jm_V.run (is := bk_G_pattern_19_2) (pc' := 21) (ls' := [(0, .ref 2), (1, .int a1), (2, .int a2)]) (st' := [.int a2, .ref 2]) (x' := x6) hok hT bk_G_pattern_19_2_ok rfl ?_
    refine jm_V.callI (av := [.ref 2, .int a2]) (rest := []) hok (jm_Con.mono (c_G_patternName hok hrec a2 x6) (by omega)) (jm_Inv.obj (q := ("FilterReader$Grammar", T_G, 5)) dd_G_pattern_21 (Or.inl lk_G_309) mn_G_patternName ms_G_patternName mw_G_patternName mh_G_patternName ml_G_patternName rfl rfl) mw_G_patternName mi_G (Nat.le_of_ble_eq_true rfl) (Nat.le_of_ble_eq_true rfl) (fun b8 x7 => ?_)
    exact jm_V.iret rfl dd_G_pattern_24
abbrev bk_G_bind_0_2 : List (Nat × Instr × Nat) := [(0, .aload_n 0, 1), (1, .getfield 27, 3)]
theorem bk_G_bind_0_2_ok : jm_at mt_G_bind.2.1 bk_G_bind_0_2 = true := by decide +kernel
abbrev bk_G_bind_7_3 : List (Nat × Instr × Nat) := [(7, .istore_n 2, 1), (8, .aload_n 0, 1), (9, .bipush 26, 2)]
theorem bk_G_bind_7_3_ok : jm_at mt_G_bind.2.1 bk_G_bind_7_3 = true := by decide +kernel
abbrev bk_G_bind_14_3 : List (Nat × Instr × Nat) := [(14, .aload_n 0, 1), (15, .iload_n 1, 1), (16, .iconst 0, 1)]
theorem bk_G_bind_14_3_ok : jm_at mt_G_bind.2.1 bk_G_bind_14_3 = true := by decide +kernel
abbrev bk_G_bind_20_3 : List (Nat × Instr × Nat) := [(20, .pop, 1), (21, .aload_n 0, 1), (22, .getstatic 179, 3)]
theorem bk_G_bind_20_3_ok : jm_at mt_G_bind.2.1 bk_G_bind_20_3 = true := by decide +kernel
abbrev bk_G_bind_28_2 : List (Nat × Instr × Nat) := [(28, .aload_n 0, 1), (29, .iload_n 1, 1)]
theorem bk_G_bind_28_2_ok : jm_at mt_G_bind.2.1 bk_G_bind_28_2 = true := by decide +kernel
abbrev bk_G_bind_33_3 : List (Nat × Instr × Nat) := [(33, .aload_n 0, 1), (34, .getfield 27, 3), (37, .iload_n 2, 1)]
theorem bk_G_bind_33_3_ok : jm_at mt_G_bind.2.1 bk_G_bind_33_3 = true := by decide +kernel
theorem dd_G_bind_4 : decode mt_G_bind.2.1 4 = .ok (.invokevirtual 102, 3) := by decide +kernel
theorem dd_G_bind_11 : decode mt_G_bind.2.1 11 = .ok (.invokevirtual 124, 3) := by decide +kernel
theorem dd_G_bind_17 : decode mt_G_bind.2.1 17 = .ok (.invokevirtual 209, 3) := by decide +kernel
theorem dd_G_bind_25 : decode mt_G_bind.2.1 25 = .ok (.invokevirtual 170, 3) := by decide +kernel
theorem dd_G_bind_30 : decode mt_G_bind.2.1 30 = .ok (.invokevirtual 45, 3) := by decide +kernel
theorem dd_G_bind_38 : decode mt_G_bind.2.1 38 = .ok (.invokevirtual 130, 3) := by decide +kernel
theorem dd_G_bind_41 : decode mt_G_bind.2.1 41 = .ok (.return_, 1) := by decide +kernel
def f_G_bind (K : Nat) (g : jm_Rec) (a1 : Int32) (x : jm_X) : Option jm_R := jm_bI (f_N_size K g x) (fun b2 x1 => jm_bV (f_G_takeAs K g 26 x1) (fun x3 => jm_bI (f_G_pattern K g a1 0 x3) (fun b5 x4 => jm_bV (f_G_take K g 1031 x4) (fun x6 => jm_bV (g 0 [.ref 2, .int a1] x6) (fun x7 => jm_bV (f_N_forgetFrom K g b2 x7) (fun x8 => some (.inl (none, x8))))))))
set_option maxRecDepth 100000 in
set_option maxHeartbeats 4000000 in
theorem c_G_bind {l : Launch} {D : va_G} {ad : Nat → Nat} {aC : Nat → ClassId} {b0 : Nat} {K d0 : Nat} {g : jm_Rec} (hok : jm_Ok (jm_PP l D clC ad aC shC b0 1)) (hrec : ∀ (t : Nat) (av : List Value) (x : jm_X), jm_Con (jm_PP l D clC ad aC shC b0 1) (rcC t) d0 av x (g t av x)) (a1 : Int32) (x : jm_X) : jm_Con (jm_PP l D clC ad aC shC b0 1) mt_G_bind (d0 + 13) [.ref 2, .int a1] x (f_G_bind K g a1 x) := by
  refine jm_Con.of (plainFor_of_name (by decide +kernel)) (Nat.le_of_ble_eq_true rfl) ?_
  have hT := tk_G (l := l) (D := D) (ad := ad) (aC := aC) (b0 := b0)
  unfold f_G_bind
  show jm_V _ _ _ 0 [(0, .ref 2), (1, .int a1)] [] x _
  refine jm_V.run (is := bk_G_bind_0_2) (pc' := 4) (ls' := [(0, .ref 2), (1, .int a1)]) (st' := [.ref 6]) (x' := x) hok hT bk_G_bind_0_2_ok rfl ?_
  refine jm_V.callI (av := [.ref 6]) (rest := []) hok (jm_Con.mono (c_N_size hok hrec x) (by omega)) (jm_Inv.obj (q := ("FilterReader$Names", T_N, 6)) dd_G_bind_4 (Or.inl lk_G_102) mn_N_size ms_N_size mw_N_size mh_N_size ml_N_size rfl rfl) mw_N_size mi_N (Nat.le_of_ble_eq_true rfl) (Nat.le_of_ble_eq_true rfl) (fun b2 x1 => ?_)
  refine jm_V.run (is := bk_G_bind_7_3) (pc' := 11) (ls' := [(2, .int b2), (0, .ref 2), (1, .int a1)]) (st' := [.int 26, .ref 2]) (x' := x1) hok hT bk_G_bind_7_3_ok rfl ?_
  refine jm_V.callV (av := [.ref 2, .int 26]) (rest := []) hok (jm_Con.mono (c_G_takeAs hok hrec 26 x1) (by omega)) (jm_Inv.obj (q := ("FilterReader$Grammar", T_G, 5)) dd_G_bind_11 (Or.inl lk_G_124) mn_G_takeAs ms_G_takeAs mw_G_takeAs mh_G_takeAs ml_G_takeAs rfl rfl) mw_G_takeAs mi_G (Nat.le_of_ble_eq_true rfl) (Nat.le_of_ble_eq_true rfl) (fun x3 => ?_)
  refine jm_V.run (is := bk_G_bind_14_3) (pc' := 17) (ls' := [(2, .int b2), (0, .ref 2), (1, .int a1)]) (st' := [.int 0, .int a1, .ref 2]) (x' := x3) hok hT bk_G_bind_14_3_ok rfl ?_
  refine jm_V.callI (av := [.ref 2, .int a1, .int 0]) (rest := []) hok (jm_Con.mono (c_G_pattern hok hrec a1 0 x3) (by omega)) (jm_Inv.obj (q := ("FilterReader$Grammar", T_G, 5)) dd_G_bind_17 (Or.inl lk_G_209) mn_G_pattern ms_G_pattern mw_G_pattern mh_G_pattern ml_G_pattern rfl rfl) mw_G_pattern mi_G (Nat.le_of_ble_eq_true rfl) (Nat.le_of_ble_eq_true rfl) (fun b5 x4 => ?_)
  refine jm_V.run (is := bk_G_bind_20_3) (pc' := 25) (ls' := [(2, .int b2), (0, .ref 2), (1, .int a1)]) (st' := [.ref 1031, .ref 2]) (x' := x4) hok hT bk_G_bind_20_3_ok rfl ?_
  refine jm_V.callV (av := [.ref 2, .ref 1031]) (rest := []) hok (jm_Con.mono (c_G_take hok hrec 1031 x4) (by omega)) (jm_Inv.obj (q := ("FilterReader$Grammar", T_G, 5)) dd_G_bind_25 (Or.inl lk_G_170) mn_G_take ms_G_take mw_G_take mh_G_take ml_G_take rfl rfl) mw_G_take mi_G (Nat.le_of_ble_eq_true rfl) (Nat.le_of_ble_eq_true rfl) (fun x6 => ?_)
  refine jm_V.run (is := bk_G_bind_28_2) (pc' := 30) (ls' := [(2, .int b2), (0, .ref 2), (1, .int a1)]) (st' := [.int a1, .ref 2]) (x' := x6) hok hT bk_G_bind_28_2_ok rfl ?_
  refine jm_V.callV (av := [.ref 2, .int a1]) (rest := []) hok (jm_Con.mono (hrec 0 [.ref 2, .int a1] x6) (by omega)) (jm_Inv.obj (q := ("FilterReader$Grammar", T_G, 5)) dd_G_bind_30 (Or.inl lk_G_45) mn_G_program ms_G_program mw_G_program mh_G_program ml_G_program rfl rfl) mw_G_program mi_G (Nat.le_of_ble_eq_true rfl) (Nat.le_of_ble_eq_true rfl) (fun x7 => ?_)
  refine jm_V.run (is := bk_G_bind_33_3) (pc' := 38) (ls' := [(2, .int b2), (0, .ref 2), (1, .int a1)]) (st' := [.int b2, .ref 6]) (x' := x7) hok hT bk_G_bind_33_3_ok rfl ?_
  refine jm_V.callV (av := [.ref 6, .int b2]) (rest := []) hok (jm_Con.mono (c_N_forgetFrom hok hrec b2 x7) (by omega)) (jm_Inv.obj (q := ("FilterReader$Names", T_N, 6)) dd_G_bind_38 (Or.inl lk_G_130) mn_N_forgetFrom ms_N_forgetFrom mw_N_forgetFrom mh_N_forgetFrom ml_N_forgetFrom rfl rfl) mw_N_forgetFrom mi_N (Nat.le_of_ble_eq_true rfl) (Nat.le_of_ble_eq_true rfl) (fun x8 => ?_)
  exact jm_V.vret rfl dd_G_bind_41
abbrev bk_G_branch_0_2 : List (Nat × Instr × Nat) := [(0, .aload_n 0, 1), (1, .bipush 25, 2)]
theorem bk_G_branch_0_2_ok : jm_at mt_G_branch.2.1 bk_G_branch_0_2 = true := by decide +kernel
abbrev bk_G_branch_6_2 : List (Nat × Instr × Nat) := [(6, .aload_n 0, 1), (7, .iload_n 1, 1)]
theorem bk_G_branch_6_2_ok : jm_at mt_G_branch.2.1 bk_G_branch_6_2 = true := by decide +kernel
abbrev bk_G_branch_11_2 : List (Nat × Instr × Nat) := [(11, .aload_n 0, 1), (12, .getstatic 228, 3)]
theorem bk_G_branch_11_2_ok : jm_at mt_G_branch.2.1 bk_G_branch_11_2 = true := by decide +kernel
abbrev bk_G_branch_18_2 : List (Nat × Instr × Nat) := [(18, .aload_n 0, 1), (19, .iload_n 1, 1)]
theorem bk_G_branch_18_2_ok : jm_at mt_G_branch.2.1 bk_G_branch_18_2 = true := by decide +kernel
theorem dd_G_branch_3 : decode mt_G_branch.2.1 3 = .ok (.invokevirtual 124, 3) := by decide +kernel
theorem dd_G_branch_8 : decode mt_G_branch.2.1 8 = .ok (.invokevirtual 45, 3) := by decide +kernel
theorem dd_G_branch_15 : decode mt_G_branch.2.1 15 = .ok (.invokevirtual 170, 3) := by decide +kernel
theorem dd_G_branch_20 : decode mt_G_branch.2.1 20 = .ok (.invokevirtual 45, 3) := by decide +kernel
theorem dd_G_branch_23 : decode mt_G_branch.2.1 23 = .ok (.return_, 1) := by decide +kernel
def f_G_branch (K : Nat) (g : jm_Rec) (a1 : Int32) (x : jm_X) : Option jm_R := jm_bV (f_G_takeAs K g 25 x) (fun x1 => jm_bV (g 0 [.ref 2, .int a1] x1) (fun x2 => jm_bV (f_G_take K g 1029 x2) (fun x3 => jm_bV (g 0 [.ref 2, .int a1] x3) (fun x4 => some (.inl (none, x4))))))
set_option maxRecDepth 100000 in
set_option maxHeartbeats 4000000 in
theorem c_G_branch {l : Launch} {D : va_G} {ad : Nat → Nat} {aC : Nat → ClassId} {b0 : Nat} {K d0 : Nat} {g : jm_Rec} (hok : jm_Ok (jm_PP l D clC ad aC shC b0 1)) (hrec : ∀ (t : Nat) (av : List Value) (x : jm_X), jm_Con (jm_PP l D clC ad aC shC b0 1) (rcC t) d0 av x (g t av x)) (a1 : Int32) (x : jm_X) : jm_Con (jm_PP l D clC ad aC shC b0 1) mt_G_branch (d0 + 10) [.ref 2, .int a1] x (f_G_branch K g a1 x) := by
  refine jm_Con.of (plainFor_of_name (by decide +kernel)) (Nat.le_of_ble_eq_true rfl) ?_
  have hT := tk_G (l := l) (D := D) (ad := ad) (aC := aC) (b0 := b0)
  unfold f_G_branch
  show jm_V _ _ _ 0 [(0, .ref 2), (1, .int a1)] [] x _
  refine jm_V.run (is := bk_G_branch_0_2) (pc' := 3) (ls' := [(0, .ref 2), (1, .int a1)]) (st' := [.int 25, .ref 2]) (x' := x) hok hT bk_G_branch_0_2_ok rfl ?_
  refine jm_V.callV (av := [.ref 2, .int 25]) (rest := []) hok (jm_Con.mono (c_G_takeAs hok hrec 25 x) (by omega)) (jm_Inv.obj (q := ("FilterReader$Grammar", T_G, 5)) dd_G_branch_3 (Or.inl lk_G_124) mn_G_takeAs ms_G_takeAs mw_G_takeAs mh_G_takeAs ml_G_takeAs rfl rfl) mw_G_takeAs mi_G (Nat.le_of_ble_eq_true rfl) (Nat.le_of_ble_eq_true rfl) (fun x1 => ?_)
  refine jm_V.run (is := bk_G_branch_6_2) (pc' := 8) (ls' := [(0, .ref 2), (1, .int a1)]) (st' := [.int a1, .ref 2]) (x' := x1) hok hT bk_G_branch_6_2_ok rfl ?_
  refine jm_V.callV (av := [.ref 2, .int a1]) (rest := []) hok (jm_Con.mono (hrec 0 [.ref 2, .int a1] x1) (by omega)) (jm_Inv.obj (q := ("FilterReader$Grammar", T_G, 5)) dd_G_branch_8 (Or.inl lk_G_45) mn_G_program ms_G_program mw_G_program mh_G_program ml_G_program rfl rfl) mw_G_program mi_G (Nat.le_of_ble_eq_true rfl) (Nat.le_of_ble_eq_true rfl) (fun x2 => ?_)
  refine jm_V.run (is := bk_G_branch_11_2) (pc' := 15) (ls' := [(0, .ref 2), (1, .int a1)]) (st' := [.ref 1029, .ref 2]) (x' := x2) hok hT bk_G_branch_11_2_ok rfl ?_
  refine jm_V.callV (av := [.ref 2, .ref 1029]) (rest := []) hok (jm_Con.mono (c_G_take hok hrec 1029 x2) (by omega)) (jm_Inv.obj (q := ("FilterReader$Grammar", T_G, 5)) dd_G_branch_15 (Or.inl lk_G_170) mn_G_take ms_G_take mw_G_take mh_G_take ml_G_take rfl rfl) mw_G_take mi_G (Nat.le_of_ble_eq_true rfl) (Nat.le_of_ble_eq_true rfl) (fun x3 => ?_)
  refine jm_V.run (is := bk_G_branch_18_2) (pc' := 20) (ls' := [(0, .ref 2), (1, .int a1)]) (st' := [.int a1, .ref 2]) (x' := x3) hok hT bk_G_branch_18_2_ok rfl ?_
  refine jm_V.callV (av := [.ref 2, .int a1]) (rest := []) hok (jm_Con.mono (hrec 0 [.ref 2, .int a1] x3) (by omega)) (jm_Inv.obj (q := ("FilterReader$Grammar", T_G, 5)) dd_G_branch_20 (Or.inl lk_G_45) mn_G_program ms_G_program mw_G_program mh_G_program ml_G_program rfl rfl) mw_G_program mi_G (Nat.le_of_ble_eq_true rfl) (Nat.le_of_ble_eq_true rfl) (fun x4 => ?_)
  exact jm_V.vret rfl dd_G_branch_23
abbrev bk_G_condition_0_2 : List (Nat × Instr × Nat) := [(0, .aload_n 0, 1), (1, .iload_n 1, 1)]
theorem bk_G_condition_0_2_ok : jm_at mt_G_condition.2.1 bk_G_condition_0_2 = true := by decide +kernel
abbrev bk_G_condition_5_4 : List (Nat × Instr × Nat) := [(5, .iload_n 1, 1), (6, .istore_n 2, 1), (7, .iconst 0, 1), (8, .istore_n 3, 1)]
theorem bk_G_condition_5_4_ok : jm_at mt_G_condition.2.1 bk_G_condition_5_4 = true := by decide +kernel
abbrev bk_G_condition_9_3 : List (Nat × Instr × Nat) := [(9, .iload_n 3, 1), (10, .bipush 60, 2), (12, .if_icmp .ge 35, 3)]
theorem bk_G_condition_9_3_ok : jm_at mt_G_condition.2.1 bk_G_condition_9_3 = true := by decide +kernel
abbrev bk_G_condition_15_3 : List (Nat × Instr × Nat) := [(15, .aload_n 0, 1), (16, .getfield 20, 3), (19, .getstatic 219, 3)]
theorem bk_G_condition_15_3_ok : jm_at mt_G_condition.2.1 bk_G_condition_15_3 = true := by decide +kernel
abbrev bk_G_condition_25_1 : List (Nat × Instr × Nat) := [(25, .ifCond .eq 22, 3)]
theorem bk_G_condition_25_1_ok : jm_at mt_G_condition.2.1 bk_G_condition_25_1 = true := by decide +kernel
abbrev bk_G_condition_28_4 : List (Nat × Instr × Nat) := [(28, .aload_n 0, 1), (29, .iload_n 2, 1), (30, .iconst 1, 1), (31, .iadd, 1)]
theorem bk_G_condition_28_4_ok : jm_at mt_G_condition.2.1 bk_G_condition_28_4 = true := by decide +kernel
abbrev bk_G_condition_35_3 : List (Nat × Instr × Nat) := [(35, .istore_n 2, 1), (36, .aload_n 0, 1), (37, .iload_n 2, 1)]
theorem bk_G_condition_35_3_ok : jm_at mt_G_condition.2.1 bk_G_condition_35_3 = true := by decide +kernel
abbrev bk_G_condition_41_2 : List (Nat × Instr × Nat) := [(41, .iinc 3 1, 3), (44, .goto (-35), 3)]
theorem bk_G_condition_41_2_ok : jm_at mt_G_condition.2.1 bk_G_condition_41_2 = true := by decide +kernel
abbrev bk_G_condition_47_2 : List (Nat × Instr × Nat) := [(47, .aload_n 0, 1), (48, .getstatic 222, 3)]
theorem bk_G_condition_47_2_ok : jm_at mt_G_condition.2.1 bk_G_condition_47_2 = true := by decide +kernel
abbrev bk_G_condition_54_1 : List (Nat × Instr × Nat) := [(54, .ifCond .eq 8, 3)]
theorem bk_G_condition_54_1_ok : jm_at mt_G_condition.2.1 bk_G_condition_54_1 = true := by decide +kernel
abbrev bk_G_condition_57_2 : List (Nat × Instr × Nat) := [(57, .aload_n 0, 1), (58, .iload_n 2, 1)]
theorem bk_G_condition_57_2_ok : jm_at mt_G_condition.2.1 bk_G_condition_57_2 = true := by decide +kernel
abbrev bk_G_condition_62_2 : List (Nat × Instr × Nat) := [(62, .aload_n 0, 1), (63, .getstatic 225, 3)]
theorem bk_G_condition_62_2_ok : jm_at mt_G_condition.2.1 bk_G_condition_62_2 = true := by decide +kernel
theorem dd_G_condition_2 : decode mt_G_condition.2.1 2 = .ok (.invokevirtual 216, 3) := by decide +kernel
theorem dd_G_condition_22 : decode mt_G_condition.2.1 22 = .ok (.invokevirtual 71, 3) := by decide +kernel
theorem dd_G_condition_32 : decode mt_G_condition.2.1 32 = .ok (.invokevirtual 127, 3) := by decide +kernel
theorem dd_G_condition_38 : decode mt_G_condition.2.1 38 = .ok (.invokevirtual 216, 3) := by decide +kernel
theorem dd_G_condition_51 : decode mt_G_condition.2.1 51 = .ok (.invokevirtual 154, 3) := by decide +kernel
theorem dd_G_condition_59 : decode mt_G_condition.2.1 59 = .ok (.invokevirtual 45, 3) := by decide +kernel
theorem dd_G_condition_66 : decode mt_G_condition.2.1 66 = .ok (.invokevirtual 170, 3) := by decide +kernel
theorem dd_G_condition_69 : decode mt_G_condition.2.1 69 = .ok (.return_, 1) := by decide +kernel
def J_G_condition_62 (K : Nat) (g : jm_Rec)  (x : jm_X) : Option jm_R := jm_bV (f_G_take K g 1024 x) (fun x10 => some (.inl (none, x10)))
set_option maxRecDepth 100000 in
set_option maxHeartbeats 4000000 in
theorem jj_G_condition_62 {l : Launch} {D : va_G} {ad : Nat → Nat} {aC : Nat → ClassId} {b0 : Nat} {K d0 : Nat} {g : jm_Rec} (hok : jm_Ok (jm_PP l D clC ad aC shC b0 1)) (hrec : ∀ (t : Nat) (av : List Value) (x : jm_X), jm_Con (jm_PP l D clC ad aC shC b0 1) (rcC t) d0 av x (g t av x))  (x : jm_X) : jm_V (jm_PP l D clC ad aC shC b0 1) mt_G_condition (d0 + 11) 62 [(0, .ref 2)] [] x (J_G_condition_62 K g  x) := by
  have hT := tk_G (l := l) (D := D) (ad := ad) (aC := aC) (b0 := b0)
  unfold J_G_condition_62
  refine jm_V.run (is := bk_G_condition_62_2) (pc' := 66) (ls' := [(0, .ref 2)]) (st' := [.ref 1024, .ref 2]) (x' := x) hok hT bk_G_condition_62_2_ok rfl ?_
  refine jm_V.callV (av := [.ref 2, .ref 1024]) (rest := []) hok (jm_Con.mono (c_G_take hok hrec 1024 x) (by omega)) (jm_Inv.obj (q := ("FilterReader$Grammar", T_G, 5)) dd_G_condition_66 (Or.inl lk_G_170) mn_G_take ms_G_take mw_G_take mh_G_take ml_G_take rfl rfl) mw_G_take mi_G (Nat.le_of_ble_eq_true rfl) (Nat.le_of_ble_eq_true rfl) (fun x10 => ?_)
  exact jm_V.vret rfl dd_G_condition_69
def J_G_condition_47 (K : Nat) (g : jm_Rec) (v2 : Int32) (x : jm_X) : Option jm_R := jm_bI (f_G_takes K g 1023 x) (fun b8 x7 => (if b8 = 0 then J_G_condition_62 K g x7 else jm_bV (g 0 [.ref 2, .int v2] x7) (fun x9 => J_G_condition_62 K g x9)))
set_option maxRecDepth 100000 in
set_option maxHeartbeats 4000000 in
theorem jj_G_condition_47 {l : Launch} {D : va_G} {ad : Nat → Nat} {aC : Nat → ClassId} {b0 : Nat} {K d0 : Nat} {g : jm_Rec} (hok : jm_Ok (jm_PP l D clC ad aC shC b0 1)) (hrec : ∀ (t : Nat) (av : List Value) (x : jm_X), jm_Con (jm_PP l D clC ad aC shC b0 1) (rcC t) d0 av x (g t av x)) (v2 : Int32) (x : jm_X) : jm_V (jm_PP l D clC ad aC shC b0 1) mt_G_condition (d0 + 11) 47 [(0, .ref 2), (2, .int v2)] [] x (J_G_condition_47 K g v2 x) := by
  have hT := tk_G (l := l) (D := D) (ad := ad) (aC := aC) (b0 := b0)
  unfold J_G_condition_47
  refine jm_V.run (is := bk_G_condition_47_2) (pc' := 51) (ls' := [(0, .ref 2), (2, .int v2)]) (st' := [.ref 1023, .ref 2]) (x' := x) hok hT bk_G_condition_47_2_ok rfl ?_
  refine jm_V.callI (av := [.ref 2, .ref 1023]) (rest := []) hok (jm_Con.mono (c_G_takes hok hrec 1023 x) (by omega)) (jm_Inv.obj (q := ("FilterReader$Grammar", T_G, 5)) dd_G_condition_51 (Or.inl lk_G_154) mn_G_takes ms_G_takes mw_G_takes mh_G_takes ml_G_takes rfl rfl) mw_G_takes mi_G (Nat.le_of_ble_eq_true rfl) (Nat.le_of_ble_eq_true rfl) (fun b8 x7 => ?_)
  refine jm_V.run (is := bk_G_condition_54_1) (pc' := (if b8 = 0 then 62 else 57)) (ls' := [(0, .ref 2), (2, .int v2)]) (st' := []) (x' := x7) hok hT bk_G_condition_54_1_ok rfl ?_
  refine jm_V.ite (fun _ => ?_) (fun _ => ?_)
  · refine jm_V.sub (ls' := [(0, .ref 2)]) [0] rfl ?_
    exact jj_G_condition_62 hok hrec x7
  · refine jm_V.run (is := bk_G_condition_57_2) (pc' := 59) (ls' := [(0, .ref 2), (2, .int v2)]) (st' := [.int v2, .ref 2]) (x' := x7) hok hT bk_G_condition_57_2_ok rfl ?_
    refine jm_V.callV (av := [.ref 2, .int v2]) (rest := []) hok (jm_Con.mono (hrec 0 [.ref 2, .int v2] x7) (by omega)) (jm_Inv.obj (q := ("FilterReader$Grammar", T_G, 5)) dd_G_condition_59 (Or.inl lk_G_45) mn_G_program ms_G_program mw_G_program mh_G_program ml_G_program rfl rfl) mw_G_program mi_G (Nat.le_of_ble_eq_true rfl) (Nat.le_of_ble_eq_true rfl) (fun x9 => ?_)
    refine jm_V.sub (ls' := [(0, .ref 2)]) [0] rfl ?_
    exact jj_G_condition_62 hok hrec x9
def B_G_condition_9 (K : Nat) (g : jm_Rec) (self : Int32 → Int32 → jm_X → Option jm_R) (v2 : Int32) (v3 : Int32) (x : jm_X) : Option jm_R := (if 60 ≤ v3 then J_G_condition_47 K g v2 x else jm_bI (f_S_is K g 1022 x) (fun b3 x2 => (if b3 = 0 then J_G_condition_47 K g v2 x2 else jm_bI (f_G_opened K g (v2 + 1) x2) (fun b5 x4 => jm_bV (f_G_branch K g b5 x4) (fun x6 => self b5 (v3 + 1) x6)))))
def L_G_condition_9 (K : Nat) (g : jm_Rec) : Nat → Int32 → Int32 → jm_X → Option jm_R
  | 0, _, _, _ => none
  | k + 1, v2, v3, x => B_G_condition_9 K g (L_G_condition_9 K g k) v2 v3 x
set_option maxRecDepth 100000 in
set_option maxHeartbeats 4000000 in
theorem jb_G_condition_9 {l : Launch} {D : va_G} {ad : Nat → Nat} {aC : Nat → ClassId} {b0 : Nat} {K d0 : Nat} {g : jm_Rec} (hok : jm_Ok (jm_PP l D clC ad aC shC b0 1)) (hrec : ∀ (t : Nat) (av : List Value) (x : jm_X), jm_Con (jm_PP l D clC ad aC shC b0 1) (rcC t) d0 av x (g t av x)) {self : Int32 → Int32 → jm_X → Option jm_R} (hself : ∀ (v2 : Int32) (v3 : Int32) (x : jm_X), jm_V (jm_PP l D clC ad aC shC b0 1) mt_G_condition (d0 + 11) 9 [(0, .ref 2), (2, .int v2), (3, .int v3)] [] x (self v2 v3 x)) (v2 : Int32) (v3 : Int32) (x : jm_X) : jm_V (jm_PP l D clC ad aC shC b0 1) mt_G_condition (d0 + 11) 9 [(0, .ref 2), (2, .int v2), (3, .int v3)] [] x (B_G_condition_9 K g self v2 v3 x) := by
  have hT := tk_G (l := l) (D := D) (ad := ad) (aC := aC) (b0 := b0)
  unfold B_G_condition_9
  refine jm_V.run (is := bk_G_condition_9_3) (pc' := (if 60 ≤ v3 then 47 else 15)) (ls' := [(0, .ref 2), (2, .int v2), (3, .int v3)]) (st' := []) (x' := x) hok hT bk_G_condition_9_3_ok rfl ?_
  refine jm_V.ite (fun _ => ?_) (fun _ => ?_)
  · refine jm_V.sub (ls' := [(0, .ref 2), (2, .int v2)]) [0, 1] rfl ?_
    exact jj_G_condition_47 hok hrec v2 x
  · refine jm_V.run (is := bk_G_condition_15_3) (pc' := 22) (ls' := [(0, .ref 2), (2, .int v2), (3, .int v3)]) (st' := [.ref 1022, .ref 4]) (x' := x) hok hT bk_G_condition_15_3_ok rfl ?_
    refine jm_V.callI (av := [.ref 4, .ref 1022]) (rest := []) hok (jm_Con.mono (c_S_is hok hrec 1022 x) (by omega)) (jm_Inv.obj (q := ("FilterReader$Signs", T_S, 5)) dd_G_condition_22 (Or.inl lk_G_71) mn_S_is ms_S_is mw_S_is mh_S_is ml_S_is rfl rfl) mw_S_is mi_S (Nat.le_of_ble_eq_true rfl) (Nat.le_of_ble_eq_true rfl) (fun b3 x2 => ?_)
    refine jm_V.run (is := bk_G_condition_25_1) (pc' := (if b3 = 0 then 47 else 28)) (ls' := [(0, .ref 2), (2, .int v2), (3, .int v3)]) (st' := []) (x' := x2) hok hT bk_G_condition_25_1_ok rfl ?_
    refine jm_V.ite (fun _ => ?_) (fun _ => ?_)
    · refine jm_V.sub (ls' := [(0, .ref 2), (2, .int v2)]) [0, 1] rfl ?_
      exact jj_G_condition_47 hok hrec v2 x2
    · refine jm_V.run (is := bk_G_condition_28_4) (pc' := 32) (ls' := [(0, .ref 2), (2, .int v2), (3, .int v3)]) (st' := [.int (v2 + 1), .ref 2]) (x' := x2) hok hT bk_G_condition_28_4_ok rfl ?_
      refine jm_V.callI (av := [.ref 2, .int (v2 + 1)]) (rest := []) hok (jm_Con.mono (c_G_opened hok hrec (v2 + 1) x2) (by omega)) (jm_Inv.obj (q := ("FilterReader$Grammar", T_G, 5)) dd_G_condition_32 (Or.inl lk_G_127) mn_G_opened ms_G_opened mw_G_opened mh_G_opened ml_G_opened rfl rfl) mw_G_opened mi_G (Nat.le_of_ble_eq_true rfl) (Nat.le_of_ble_eq_true rfl) (fun b5 x4 => ?_)
      refine jm_V.run (is := bk_G_condition_35_3) (pc' := 38) (ls' := [(2, .int b5), (0, .ref 2), (3, .int v3)]) (st' := [.int b5, .ref 2]) (x' := x4) hok hT bk_G_condition_35_3_ok rfl ?_
      refine jm_V.callV (av := [.ref 2, .int b5]) (rest := []) hok (jm_Con.mono (c_G_branch hok hrec b5 x4) (by omega)) (jm_Inv.obj (q := ("FilterReader$Grammar", T_G, 5)) dd_G_condition_38 (Or.inl lk_G_216) mn_G_branch ms_G_branch mw_G_branch mh_G_branch ml_G_branch rfl rfl) mw_G_branch mi_G (Nat.le_of_ble_eq_true rfl) (Nat.le_of_ble_eq_true rfl) (fun x6 => ?_)
      refine jm_V.run (is := bk_G_condition_41_2) (pc' := 9) (ls' := [(3, .int (v3 + 1)), (2, .int b5), (0, .ref 2)]) (st' := []) (x' := x6) hok hT bk_G_condition_41_2_ok rfl ?_
      refine jm_V.sub (ls' := [(0, .ref 2), (2, .int b5), (3, .int (v3 + 1))]) [2, 1, 0] rfl ?_
      exact hself b5 (v3 + 1) x6
theorem jl_G_condition_9 {l : Launch} {D : va_G} {ad : Nat → Nat} {aC : Nat → ClassId} {b0 : Nat} {K d0 : Nat} {g : jm_Rec} (hok : jm_Ok (jm_PP l D clC ad aC shC b0 1)) (hrec : ∀ (t : Nat) (av : List Value) (x : jm_X), jm_Con (jm_PP l D clC ad aC shC b0 1) (rcC t) d0 av x (g t av x)) : ∀ (k : Nat) (v2 : Int32) (v3 : Int32) (x : jm_X), jm_V (jm_PP l D clC ad aC shC b0 1) mt_G_condition (d0 + 11) 9 [(0, .ref 2), (2, .int v2), (3, .int v3)] [] x (L_G_condition_9 K g k v2 v3 x)
  | 0, _, _, _ => jm_V.stuck
  | k + 1, v2, v3, x => jb_G_condition_9 hok hrec (fun v2 v3 x => jl_G_condition_9 hok hrec k v2 v3 x) v2 v3 x
def f_G_condition (K : Nat) (g : jm_Rec) (a1 : Int32) (x : jm_X) : Option jm_R := jm_bV (f_G_branch K g a1 x) (fun x1 => L_G_condition_9 K g K a1 0 x1)
set_option maxRecDepth 100000 in
set_option maxHeartbeats 4000000 in
theorem c_G_condition {l : Launch} {D : va_G} {ad : Nat → Nat} {aC : Nat → ClassId} {b0 : Nat} {K d0 : Nat} {g : jm_Rec} (hok : jm_Ok (jm_PP l D clC ad aC shC b0 1)) (hrec : ∀ (t : Nat) (av : List Value) (x : jm_X), jm_Con (jm_PP l D clC ad aC shC b0 1) (rcC t) d0 av x (g t av x)) (a1 : Int32) (x : jm_X) : jm_Con (jm_PP l D clC ad aC shC b0 1) mt_G_condition (d0 + 11) [.ref 2, .int a1] x (f_G_condition K g a1 x) := by
  refine jm_Con.of (plainFor_of_name (by decide +kernel)) (Nat.le_of_ble_eq_true rfl) ?_
  have hT := tk_G (l := l) (D := D) (ad := ad) (aC := aC) (b0 := b0)
  unfold f_G_condition
  show jm_V _ _ _ 0 [(0, .ref 2), (1, .int a1)] [] x _
  refine jm_V.run (is := bk_G_condition_0_2) (pc' := 2) (ls' := [(0, .ref 2), (1, .int a1)]) (st' := [.int a1, .ref 2]) (x' := x) hok hT bk_G_condition_0_2_ok rfl ?_
  refine jm_V.callV (av := [.ref 2, .int a1]) (rest := []) hok (jm_Con.mono (c_G_branch hok hrec a1 x) (by omega)) (jm_Inv.obj (q := ("FilterReader$Grammar", T_G, 5)) dd_G_condition_2 (Or.inl lk_G_216) mn_G_branch ms_G_branch mw_G_branch mh_G_branch ml_G_branch rfl rfl) mw_G_branch mi_G (Nat.le_of_ble_eq_true rfl) (Nat.le_of_ble_eq_true rfl) (fun x1 => ?_)
  refine jm_V.run (is := bk_G_condition_5_4) (pc' := 9) (ls' := [(3, .int 0), (2, .int a1), (0, .ref 2), (1, .int a1)]) (st' := []) (x' := x1) hok hT bk_G_condition_5_4_ok rfl ?_
  refine jm_V.sub (ls' := [(0, .ref 2), (2, .int a1), (3, .int 0)]) [2, 1, 0] rfl ?_
  exact jl_G_condition_9 hok hrec K a1 0 x1
abbrev bk_G_fold_0_2 : List (Nat × Instr × Nat) := [(0, .aload_n 0, 1), (1, .getfield 27, 3)]
theorem bk_G_fold_0_2_ok : jm_at mt_G_fold.2.1 bk_G_fold_0_2 = true := by decide +kernel
abbrev bk_G_fold_7_3 : List (Nat × Instr × Nat) := [(7, .istore_n 3, 1), (8, .aload_n 0, 1), (9, .getstatic 203, 3)]
theorem bk_G_fold_7_3_ok : jm_at mt_G_fold.2.1 bk_G_fold_7_3 = true := by decide +kernel
abbrev bk_G_fold_15_3 : List (Nat × Instr × Nat) := [(15, .aload_n 0, 1), (16, .iload_n 1, 1), (17, .iconst 0, 1)]
theorem bk_G_fold_15_3_ok : jm_at mt_G_fold.2.1 bk_G_fold_15_3 = true := by decide +kernel
abbrev bk_G_fold_21_3 : List (Nat × Instr × Nat) := [(21, .pop, 1), (22, .aload_n 0, 1), (23, .getfield 27, 3)]
theorem bk_G_fold_21_3_ok : jm_at mt_G_fold.2.1 bk_G_fold_21_3 = true := by decide +kernel
abbrev bk_G_fold_29_3 : List (Nat × Instr × Nat) := [(29, .istore 4, 2), (31, .aload_n 0, 1), (32, .getstatic 151, 3)]
theorem bk_G_fold_29_3_ok : jm_at mt_G_fold.2.1 bk_G_fold_29_3 = true := by decide +kernel
abbrev bk_G_fold_38_5 : List (Nat × Instr × Nat) := [(38, .aload_n 0, 1), (39, .getfield 27, 3), (42, .iload_n 3, 1), (43, .iload 4, 2), (45, .iconst (-1), 1)]
theorem bk_G_fold_38_5_ok : jm_at mt_G_fold.2.1 bk_G_fold_38_5 = true := by decide +kernel
abbrev bk_G_fold_49_2 : List (Nat × Instr × Nat) := [(49, .aload_n 0, 1), (50, .iload_n 1, 1)]
theorem bk_G_fold_49_2_ok : jm_at mt_G_fold.2.1 bk_G_fold_49_2 = true := by decide +kernel
abbrev bk_G_fold_54_5 : List (Nat × Instr × Nat) := [(54, .aload_n 0, 1), (55, .getfield 27, 3), (58, .iload_n 3, 1), (59, .iload 4, 2), (61, .bipush (-2), 2)]
theorem bk_G_fold_54_5_ok : jm_at mt_G_fold.2.1 bk_G_fold_54_5 = true := by decide +kernel
abbrev bk_G_fold_66_2 : List (Nat × Instr × Nat) := [(66, .aload_n 0, 1), (67, .getstatic 160, 3)]
theorem bk_G_fold_66_2_ok : jm_at mt_G_fold.2.1 bk_G_fold_66_2 = true := by decide +kernel
abbrev bk_G_fold_73_2 : List (Nat × Instr × Nat) := [(73, .aload_n 0, 1), (74, .iload_n 1, 1)]
theorem bk_G_fold_73_2_ok : jm_at mt_G_fold.2.1 bk_G_fold_73_2 = true := by decide +kernel
abbrev bk_G_fold_78_2 : List (Nat × Instr × Nat) := [(78, .iload_n 2, 1), (79, .ifCond .eq 18, 3)]
theorem bk_G_fold_78_2_ok : jm_at mt_G_fold.2.1 bk_G_fold_78_2 = true := by decide +kernel
abbrev bk_G_fold_82_2 : List (Nat × Instr × Nat) := [(82, .aload_n 0, 1), (83, .getstatic 160, 3)]
theorem bk_G_fold_82_2_ok : jm_at mt_G_fold.2.1 bk_G_fold_82_2 = true := by decide +kernel
abbrev bk_G_fold_89_1 : List (Nat × Instr × Nat) := [(89, .ifCond .eq 8, 3)]
theorem bk_G_fold_89_1_ok : jm_at mt_G_fold.2.1 bk_G_fold_89_1 = true := by decide +kernel
abbrev bk_G_fold_92_2 : List (Nat × Instr × Nat) := [(92, .aload_n 0, 1), (93, .iload_n 1, 1)]
theorem bk_G_fold_92_2_ok : jm_at mt_G_fold.2.1 bk_G_fold_92_2 = true := by decide +kernel
abbrev bk_G_fold_97_2 : List (Nat × Instr × Nat) := [(97, .aload_n 0, 1), (98, .getstatic 167, 3)]
theorem bk_G_fold_97_2_ok : jm_at mt_G_fold.2.1 bk_G_fold_97_2 = true := by decide +kernel
abbrev bk_G_fold_104_3 : List (Nat × Instr × Nat) := [(104, .aload_n 0, 1), (105, .getfield 27, 3), (108, .iload_n 3, 1)]
theorem bk_G_fold_104_3_ok : jm_at mt_G_fold.2.1 bk_G_fold_104_3 = true := by decide +kernel
theorem dd_G_fold_4 : decode mt_G_fold.2.1 4 = .ok (.invokevirtual 102, 3) := by decide +kernel
theorem dd_G_fold_12 : decode mt_G_fold.2.1 12 = .ok (.invokevirtual 170, 3) := by decide +kernel
theorem dd_G_fold_18 : decode mt_G_fold.2.1 18 = .ok (.invokevirtual 209, 3) := by decide +kernel
theorem dd_G_fold_26 : decode mt_G_fold.2.1 26 = .ok (.invokevirtual 102, 3) := by decide +kernel
theorem dd_G_fold_35 : decode mt_G_fold.2.1 35 = .ok (.invokevirtual 170, 3) := by decide +kernel
theorem dd_G_fold_46 : decode mt_G_fold.2.1 46 = .ok (.invokevirtual 213, 3) := by decide +kernel
theorem dd_G_fold_51 : decode mt_G_fold.2.1 51 = .ok (.invokevirtual 45, 3) := by decide +kernel
theorem dd_G_fold_63 : decode mt_G_fold.2.1 63 = .ok (.invokevirtual 213, 3) := by decide +kernel
theorem dd_G_fold_70 : decode mt_G_fold.2.1 70 = .ok (.invokevirtual 170, 3) := by decide +kernel
theorem dd_G_fold_75 : decode mt_G_fold.2.1 75 = .ok (.invokevirtual 45, 3) := by decide +kernel
theorem dd_G_fold_86 : decode mt_G_fold.2.1 86 = .ok (.invokevirtual 154, 3) := by decide +kernel
theorem dd_G_fold_94 : decode mt_G_fold.2.1 94 = .ok (.invokevirtual 45, 3) := by decide +kernel
theorem dd_G_fold_101 : decode mt_G_fold.2.1 101 = .ok (.invokevirtual 170, 3) := by decide +kernel
theorem dd_G_fold_109 : decode mt_G_fold.2.1 109 = .ok (.invokevirtual 130, 3) := by decide +kernel
theorem dd_G_fold_112 : decode mt_G_fold.2.1 112 = .ok (.return_, 1) := by decide +kernel
def J_G_fold_97 (K : Nat) (g : jm_Rec) (v3 : Int32) (x : jm_X) : Option jm_R := jm_bV (f_G_take K g 1013 x) (fun x17 => jm_bV (f_N_forgetFrom K g v3 x17) (fun x18 => some (.inl (none, x18))))
set_option maxRecDepth 100000 in
set_option maxHeartbeats 4000000 in
theorem jj_G_fold_97 {l : Launch} {D : va_G} {ad : Nat → Nat} {aC : Nat → ClassId} {b0 : Nat} {K d0 : Nat} {g : jm_Rec} (hok : jm_Ok (jm_PP l D clC ad aC shC b0 1)) (hrec : ∀ (t : Nat) (av : List Value) (x : jm_X), jm_Con (jm_PP l D clC ad aC shC b0 1) (rcC t) d0 av x (g t av x)) (v3 : Int32) (x : jm_X) : jm_V (jm_PP l D clC ad aC shC b0 1) mt_G_fold (d0 + 13) 97 [(0, .ref 2), (3, .int v3)] [] x (J_G_fold_97 K g v3 x) := by
  have hT := tk_G (l := l) (D := D) (ad := ad) (aC := aC) (b0 := b0)
  unfold J_G_fold_97
  refine jm_V.run (is := bk_G_fold_97_2) (pc' := 101) (ls' := [(0, .ref 2), (3, .int v3)]) (st' := [.ref 1013, .ref 2]) (x' := x) hok hT bk_G_fold_97_2_ok rfl ?_
  refine jm_V.callV (av := [.ref 2, .ref 1013]) (rest := []) hok (jm_Con.mono (c_G_take hok hrec 1013 x) (by omega)) (jm_Inv.obj (q := ("FilterReader$Grammar", T_G, 5)) dd_G_fold_101 (Or.inl lk_G_170) mn_G_take ms_G_take mw_G_take mh_G_take ml_G_take rfl rfl) mw_G_take mi_G (Nat.le_of_ble_eq_true rfl) (Nat.le_of_ble_eq_true rfl) (fun x17 => ?_)
  refine jm_V.run (is := bk_G_fold_104_3) (pc' := 109) (ls' := [(0, .ref 2), (3, .int v3)]) (st' := [.int v3, .ref 6]) (x' := x17) hok hT bk_G_fold_104_3_ok rfl ?_
  refine jm_V.callV (av := [.ref 6, .int v3]) (rest := []) hok (jm_Con.mono (c_N_forgetFrom hok hrec v3 x17) (by omega)) (jm_Inv.obj (q := ("FilterReader$Names", T_N, 6)) dd_G_fold_109 (Or.inl lk_G_130) mn_N_forgetFrom ms_N_forgetFrom mw_N_forgetFrom mh_N_forgetFrom ml_N_forgetFrom rfl rfl) mw_N_forgetFrom mi_N (Nat.le_of_ble_eq_true rfl) (Nat.le_of_ble_eq_true rfl) (fun x18 => ?_)
  exact jm_V.vret rfl dd_G_fold_112
def f_G_fold (K : Nat) (g : jm_Rec) (a1 : Int32) (a2 : Int32) (x : jm_X) : Option jm_R := jm_bI (f_N_size K g x) (fun b2 x1 => jm_bV (f_G_take K g 1018 x1) (fun x3 => jm_bI (f_G_pattern K g a1 0 x3) (fun b5 x4 => jm_bI (f_N_size K g x4) (fun b7 x6 => jm_bV (f_G_take K g 1012 x6) (fun x8 => jm_bV (f_N_setSorts K g b2 b7 (-1) x8) (fun x9 => jm_bV (g 0 [.ref 2, .int a1] x9) (fun x10 => jm_bV (f_N_setSorts K g b2 b7 (-2) x10) (fun x11 => jm_bV (f_G_take K g 1011 x11) (fun x12 => jm_bV (g 0 [.ref 2, .int a1] x12) (fun x13 => (if a2 = 0 then J_G_fold_97 K g b2 x13 else jm_bI (f_G_takes K g 1011 x13) (fun b15 x14 => (if b15 = 0 then J_G_fold_97 K g b2 x14 else jm_bV (g 0 [.ref 2, .int a1] x14) (fun x16 => J_G_fold_97 K g b2 x16))))))))))))))
set_option maxRecDepth 100000 in
set_option maxHeartbeats 4000000 in
theorem c_G_fold {l : Launch} {D : va_G} {ad : Nat → Nat} {aC : Nat → ClassId} {b0 : Nat} {K d0 : Nat} {g : jm_Rec} (hok : jm_Ok (jm_PP l D clC ad aC shC b0 1)) (hrec : ∀ (t : Nat) (av : List Value) (x : jm_X), jm_Con (jm_PP l D clC ad aC shC b0 1) (rcC t) d0 av x (g t av x)) (a1 : Int32) (a2 : Int32) (x : jm_X) : jm_Con (jm_PP l D clC ad aC shC b0 1) mt_G_fold (d0 + 13) [.ref 2, .int a1, .int a2] x (f_G_fold K g a1 a2 x) := by
  refine jm_Con.of (plainFor_of_name (by decide +kernel)) (Nat.le_of_ble_eq_true rfl) ?_
  have hT := tk_G (l := l) (D := D) (ad := ad) (aC := aC) (b0 := b0)
  unfold f_G_fold
  show jm_V _ _ _ 0 [(0, .ref 2), (1, .int a1), (2, .int a2)] [] x _
  refine jm_V.run (is := bk_G_fold_0_2) (pc' := 4) (ls' := [(0, .ref 2), (1, .int a1), (2, .int a2)]) (st' := [.ref 6]) (x' := x) hok hT bk_G_fold_0_2_ok rfl ?_
  refine jm_V.callI (av := [.ref 6]) (rest := []) hok (jm_Con.mono (c_N_size hok hrec x) (by omega)) (jm_Inv.obj (q := ("FilterReader$Names", T_N, 6)) dd_G_fold_4 (Or.inl lk_G_102) mn_N_size ms_N_size mw_N_size mh_N_size ml_N_size rfl rfl) mw_N_size mi_N (Nat.le_of_ble_eq_true rfl) (Nat.le_of_ble_eq_true rfl) (fun b2 x1 => ?_)
  refine jm_V.run (is := bk_G_fold_7_3) (pc' := 12) (ls' := [(3, .int b2), (0, .ref 2), (1, .int a1), (2, .int a2)]) (st' := [.ref 1018, .ref 2]) (x' := x1) hok hT bk_G_fold_7_3_ok rfl ?_
  refine jm_V.callV (av := [.ref 2, .ref 1018]) (rest := []) hok (jm_Con.mono (c_G_take hok hrec 1018 x1) (by omega)) (jm_Inv.obj (q := ("FilterReader$Grammar", T_G, 5)) dd_G_fold_12 (Or.inl lk_G_170) mn_G_take ms_G_take mw_G_take mh_G_take ml_G_take rfl rfl) mw_G_take mi_G (Nat.le_of_ble_eq_true rfl) (Nat.le_of_ble_eq_true rfl) (fun x3 => ?_)
  refine jm_V.run (is := bk_G_fold_15_3) (pc' := 18) (ls' := [(3, .int b2), (0, .ref 2), (1, .int a1), (2, .int a2)]) (st' := [.int 0, .int a1, .ref 2]) (x' := x3) hok hT bk_G_fold_15_3_ok rfl ?_
  refine jm_V.callI (av := [.ref 2, .int a1, .int 0]) (rest := []) hok (jm_Con.mono (c_G_pattern hok hrec a1 0 x3) (by omega)) (jm_Inv.obj (q := ("FilterReader$Grammar", T_G, 5)) dd_G_fold_18 (Or.inl lk_G_209) mn_G_pattern ms_G_pattern mw_G_pattern mh_G_pattern ml_G_pattern rfl rfl) mw_G_pattern mi_G (Nat.le_of_ble_eq_true rfl) (Nat.le_of_ble_eq_true rfl) (fun b5 x4 => ?_)
  refine jm_V.run (is := bk_G_fold_21_3) (pc' := 26) (ls' := [(3, .int b2), (0, .ref 2), (1, .int a1), (2, .int a2)]) (st' := [.ref 6]) (x' := x4) hok hT bk_G_fold_21_3_ok rfl ?_
  refine jm_V.callI (av := [.ref 6]) (rest := []) hok (jm_Con.mono (c_N_size hok hrec x4) (by omega)) (jm_Inv.obj (q := ("FilterReader$Names", T_N, 6)) dd_G_fold_26 (Or.inl lk_G_102) mn_N_size ms_N_size mw_N_size mh_N_size ml_N_size rfl rfl) mw_N_size mi_N (Nat.le_of_ble_eq_true rfl) (Nat.le_of_ble_eq_true rfl) (fun b7 x6 => ?_)
  refine jm_V.run (is := bk_G_fold_29_3) (pc' := 35) (ls' := [(4, .int b7), (3, .int b2), (0, .ref 2), (1, .int a1), (2, .int a2)]) (st' := [.ref 1012, .ref 2]) (x' := x6) hok hT bk_G_fold_29_3_ok rfl ?_
  refine jm_V.callV (av := [.ref 2, .ref 1012]) (rest := []) hok (jm_Con.mono (c_G_take hok hrec 1012 x6) (by omega)) (jm_Inv.obj (q := ("FilterReader$Grammar", T_G, 5)) dd_G_fold_35 (Or.inl lk_G_170) mn_G_take ms_G_take mw_G_take mh_G_take ml_G_take rfl rfl) mw_G_take mi_G (Nat.le_of_ble_eq_true rfl) (Nat.le_of_ble_eq_true rfl) (fun x8 => ?_)
  refine jm_V.run (is := bk_G_fold_38_5) (pc' := 46) (ls' := [(4, .int b7), (3, .int b2), (0, .ref 2), (1, .int a1), (2, .int a2)]) (st' := [.int (-1), .int b7, .int b2, .ref 6]) (x' := x8) hok hT bk_G_fold_38_5_ok rfl ?_
  refine jm_V.callV (av := [.ref 6, .int b2, .int b7, .int (-1)]) (rest := []) hok (jm_Con.mono (c_N_setSorts hok hrec b2 b7 (-1) x8) (by omega)) (jm_Inv.obj (q := ("FilterReader$Names", T_N, 6)) dd_G_fold_46 (Or.inl lk_G_213) mn_N_setSorts ms_N_setSorts mw_N_setSorts mh_N_setSorts ml_N_setSorts rfl rfl) mw_N_setSorts mi_N (Nat.le_of_ble_eq_true rfl) (Nat.le_of_ble_eq_true rfl) (fun x9 => ?_)
  refine jm_V.run (is := bk_G_fold_49_2) (pc' := 51) (ls' := [(4, .int b7), (3, .int b2), (0, .ref 2), (1, .int a1), (2, .int a2)]) (st' := [.int a1, .ref 2]) (x' := x9) hok hT bk_G_fold_49_2_ok rfl ?_
  refine jm_V.callV (av := [.ref 2, .int a1]) (rest := []) hok (jm_Con.mono (hrec 0 [.ref 2, .int a1] x9) (by omega)) (jm_Inv.obj (q := ("FilterReader$Grammar", T_G, 5)) dd_G_fold_51 (Or.inl lk_G_45) mn_G_program ms_G_program mw_G_program mh_G_program ml_G_program rfl rfl) mw_G_program mi_G (Nat.le_of_ble_eq_true rfl) (Nat.le_of_ble_eq_true rfl) (fun x10 => ?_)
  refine jm_V.run (is := bk_G_fold_54_5) (pc' := 63) (ls' := [(4, .int b7), (3, .int b2), (0, .ref 2), (1, .int a1), (2, .int a2)]) (st' := [.int (-2), .int b7, .int b2, .ref 6]) (x' := x10) hok hT bk_G_fold_54_5_ok rfl ?_
  refine jm_V.callV (av := [.ref 6, .int b2, .int b7, .int (-2)]) (rest := []) hok (jm_Con.mono (c_N_setSorts hok hrec b2 b7 (-2) x10) (by omega)) (jm_Inv.obj (q := ("FilterReader$Names", T_N, 6)) dd_G_fold_63 (Or.inl lk_G_213) mn_N_setSorts ms_N_setSorts mw_N_setSorts mh_N_setSorts ml_N_setSorts rfl rfl) mw_N_setSorts mi_N (Nat.le_of_ble_eq_true rfl) (Nat.le_of_ble_eq_true rfl) (fun x11 => ?_)
  refine jm_V.run (is := bk_G_fold_66_2) (pc' := 70) (ls' := [(4, .int b7), (3, .int b2), (0, .ref 2), (1, .int a1), (2, .int a2)]) (st' := [.ref 1011, .ref 2]) (x' := x11) hok hT bk_G_fold_66_2_ok rfl ?_
  refine jm_V.callV (av := [.ref 2, .ref 1011]) (rest := []) hok (jm_Con.mono (c_G_take hok hrec 1011 x11) (by omega)) (jm_Inv.obj (q := ("FilterReader$Grammar", T_G, 5)) dd_G_fold_70 (Or.inl lk_G_170) mn_G_take ms_G_take mw_G_take mh_G_take ml_G_take rfl rfl) mw_G_take mi_G (Nat.le_of_ble_eq_true rfl) (Nat.le_of_ble_eq_true rfl) (fun x12 => ?_)
  refine jm_V.run (is := bk_G_fold_73_2) (pc' := 75) (ls' := [(4, .int b7), (3, .int b2), (0, .ref 2), (1, .int a1), (2, .int a2)]) (st' := [.int a1, .ref 2]) (x' := x12) hok hT bk_G_fold_73_2_ok rfl ?_
  refine jm_V.callV (av := [.ref 2, .int a1]) (rest := []) hok (jm_Con.mono (hrec 0 [.ref 2, .int a1] x12) (by omega)) (jm_Inv.obj (q := ("FilterReader$Grammar", T_G, 5)) dd_G_fold_75 (Or.inl lk_G_45) mn_G_program ms_G_program mw_G_program mh_G_program ml_G_program rfl rfl) mw_G_program mi_G (Nat.le_of_ble_eq_true rfl) (Nat.le_of_ble_eq_true rfl) (fun x13 => ?_)
  refine jm_V.run (is := bk_G_fold_78_2) (pc' := (if a2 = 0 then 97 else 82)) (ls' := [(4, .int b7), (3, .int b2), (0, .ref 2), (1, .int a1), (2, .int a2)]) (st' := []) (x' := x13) hok hT bk_G_fold_78_2_ok rfl ?_
  refine jm_V.ite (fun _ => ?_) (fun _ => ?_)
  · refine jm_V.sub (ls' := [(0, .ref 2), (3, .int b2)]) [2, 1] rfl ?_
    exact jj_G_fold_97 hok hrec b2 x13
  · refine jm_V.run (is := bk_G_fold_82_2) (pc' := 86) (ls' := [(4, .int b7), (3, .int b2), (0, .ref 2), (1, .int a1), (2, .int a2)]) (st' := [.ref 1011, .ref 2]) (x' := x13) hok hT bk_G_fold_82_2_ok rfl ?_
    refine jm_V.callI (av := [.ref 2, .ref 1011]) (rest := []) hok (jm_Con.mono (c_G_takes hok hrec 1011 x13) (by omega)) (jm_Inv.obj (q := ("FilterReader$Grammar", T_G, 5)) dd_G_fold_86 (Or.inl lk_G_154) mn_G_takes ms_G_takes mw_G_takes mh_G_takes ml_G_takes rfl rfl) mw_G_takes mi_G (Nat.le_of_ble_eq_true rfl) (Nat.le_of_ble_eq_true rfl) (fun b15 x14 => ?_)
    refine jm_V.run (is := bk_G_fold_89_1) (pc' := (if b15 = 0 then 97 else 92)) (ls' := [(4, .int b7), (3, .int b2), (0, .ref 2), (1, .int a1), (2, .int a2)]) (st' := []) (x' := x14) hok hT bk_G_fold_89_1_ok rfl ?_
    refine jm_V.ite (fun _ => ?_) (fun _ => ?_)
    · refine jm_V.sub (ls' := [(0, .ref 2), (3, .int b2)]) [2, 1] rfl ?_
      exact jj_G_fold_97 hok hrec b2 x14
    · refine jm_V.run (is := bk_G_fold_92_2) (pc' := 94) (ls' := [(4, .int b7), (3, .int b2), (0, .ref 2), (1, .int a1), (2, .int a2)]) (st' := [.int a1, .ref 2]) (x' := x14) hok hT bk_G_fold_92_2_ok rfl ?_
      refine jm_V.callV (av := [.ref 2, .int a1]) (rest := []) hok (jm_Con.mono (hrec 0 [.ref 2, .int a1] x14) (by omega)) (jm_Inv.obj (q := ("FilterReader$Grammar", T_G, 5)) dd_G_fold_94 (Or.inl lk_G_45) mn_G_program ms_G_program mw_G_program mh_G_program ml_G_program rfl rfl) mw_G_program mi_G (Nat.le_of_ble_eq_true rfl) (Nat.le_of_ble_eq_true rfl) (fun x16 => ?_)
      refine jm_V.sub (ls' := [(0, .ref 2), (3, .int b2)]) [2, 1] rfl ?_
      exact jj_G_fold_97 hok hrec b2 x16
abbrev bk_G_array_0_2 : List (Nat × Instr × Nat) := [(0, .aload_n 0, 1), (1, .bipush 9, 2)]
theorem bk_G_array_0_2_ok : jm_at mt_G_array.2.1 bk_G_array_0_2 = true := by decide +kernel
abbrev bk_G_array_6_3 : List (Nat × Instr × Nat) := [(6, .aload_n 0, 1), (7, .getfield 20, 3), (10, .getstatic 273, 3)]
theorem bk_G_array_6_3_ok : jm_at mt_G_array.2.1 bk_G_array_6_3 = true := by decide +kernel
abbrev bk_G_array_16_1 : List (Nat × Instr × Nat) := [(16, .ifCond .ne 8, 3)]
theorem bk_G_array_16_1_ok : jm_at mt_G_array.2.1 bk_G_array_16_1 = true := by decide +kernel
abbrev bk_G_array_19_2 : List (Nat × Instr × Nat) := [(19, .aload_n 0, 1), (20, .iload_n 1, 1)]
theorem bk_G_array_19_2_ok : jm_at mt_G_array.2.1 bk_G_array_19_2 = true := by decide +kernel
abbrev bk_G_array_24_2 : List (Nat × Instr × Nat) := [(24, .aload_n 0, 1), (25, .getstatic 273, 3)]
theorem bk_G_array_24_2_ok : jm_at mt_G_array.2.1 bk_G_array_24_2 = true := by decide +kernel
theorem dd_G_array_3 : decode mt_G_array.2.1 3 = .ok (.invokevirtual 124, 3) := by decide +kernel
theorem dd_G_array_13 : decode mt_G_array.2.1 13 = .ok (.invokevirtual 71, 3) := by decide +kernel
theorem dd_G_array_21 : decode mt_G_array.2.1 21 = .ok (.invokevirtual 45, 3) := by decide +kernel
theorem dd_G_array_28 : decode mt_G_array.2.1 28 = .ok (.invokevirtual 170, 3) := by decide +kernel
theorem dd_G_array_31 : decode mt_G_array.2.1 31 = .ok (.return_, 1) := by decide +kernel
def J_G_array_24 (K : Nat) (g : jm_Rec)  (x : jm_X) : Option jm_R := jm_bV (f_G_take K g 1015 x) (fun x5 => some (.inl (none, x5)))
set_option maxRecDepth 100000 in
set_option maxHeartbeats 4000000 in
theorem jj_G_array_24 {l : Launch} {D : va_G} {ad : Nat → Nat} {aC : Nat → ClassId} {b0 : Nat} {K d0 : Nat} {g : jm_Rec} (hok : jm_Ok (jm_PP l D clC ad aC shC b0 1)) (hrec : ∀ (t : Nat) (av : List Value) (x : jm_X), jm_Con (jm_PP l D clC ad aC shC b0 1) (rcC t) d0 av x (g t av x))  (x : jm_X) : jm_V (jm_PP l D clC ad aC shC b0 1) mt_G_array (d0 + 10) 24 [(0, .ref 2)] [] x (J_G_array_24 K g  x) := by
  have hT := tk_G (l := l) (D := D) (ad := ad) (aC := aC) (b0 := b0)
  unfold J_G_array_24
  refine jm_V.run (is := bk_G_array_24_2) (pc' := 28) (ls' := [(0, .ref 2)]) (st' := [.ref 1015, .ref 2]) (x' := x) hok hT bk_G_array_24_2_ok rfl ?_
  refine jm_V.callV (av := [.ref 2, .ref 1015]) (rest := []) hok (jm_Con.mono (c_G_take hok hrec 1015 x) (by omega)) (jm_Inv.obj (q := ("FilterReader$Grammar", T_G, 5)) dd_G_array_28 (Or.inl lk_G_170) mn_G_take ms_G_take mw_G_take mh_G_take ml_G_take rfl rfl) mw_G_take mi_G (Nat.le_of_ble_eq_true rfl) (Nat.le_of_ble_eq_true rfl) (fun x5 => ?_)
  exact jm_V.vret rfl dd_G_array_31
def f_G_array (K : Nat) (g : jm_Rec) (a1 : Int32) (x : jm_X) : Option jm_R := jm_bV (f_G_takeAs K g 9 x) (fun x1 => jm_bI (f_S_is K g 1015 x1) (fun b3 x2 => (if b3 = 0 then jm_bV (g 0 [.ref 2, .int a1] x2) (fun x4 => J_G_array_24 K g x4) else J_G_array_24 K g x2)))
set_option maxRecDepth 100000 in
set_option maxHeartbeats 4000000 in
theorem c_G_array {l : Launch} {D : va_G} {ad : Nat → Nat} {aC : Nat → ClassId} {b0 : Nat} {K d0 : Nat} {g : jm_Rec} (hok : jm_Ok (jm_PP l D clC ad aC shC b0 1)) (hrec : ∀ (t : Nat) (av : List Value) (x : jm_X), jm_Con (jm_PP l D clC ad aC shC b0 1) (rcC t) d0 av x (g t av x)) (a1 : Int32) (x : jm_X) : jm_Con (jm_PP l D clC ad aC shC b0 1) mt_G_array (d0 + 10) [.ref 2, .int a1] x (f_G_array K g a1 x) := by
  refine jm_Con.of (plainFor_of_name (by decide +kernel)) (Nat.le_of_ble_eq_true rfl) ?_
  have hT := tk_G (l := l) (D := D) (ad := ad) (aC := aC) (b0 := b0)
  unfold f_G_array
  show jm_V _ _ _ 0 [(0, .ref 2), (1, .int a1)] [] x _
  refine jm_V.run (is := bk_G_array_0_2) (pc' := 3) (ls' := [(0, .ref 2), (1, .int a1)]) (st' := [.int 9, .ref 2]) (x' := x) hok hT bk_G_array_0_2_ok rfl ?_
  refine jm_V.callV (av := [.ref 2, .int 9]) (rest := []) hok (jm_Con.mono (c_G_takeAs hok hrec 9 x) (by omega)) (jm_Inv.obj (q := ("FilterReader$Grammar", T_G, 5)) dd_G_array_3 (Or.inl lk_G_124) mn_G_takeAs ms_G_takeAs mw_G_takeAs mh_G_takeAs ml_G_takeAs rfl rfl) mw_G_takeAs mi_G (Nat.le_of_ble_eq_true rfl) (Nat.le_of_ble_eq_true rfl) (fun x1 => ?_)
  refine jm_V.run (is := bk_G_array_6_3) (pc' := 13) (ls' := [(0, .ref 2), (1, .int a1)]) (st' := [.ref 1015, .ref 4]) (x' := x1) hok hT bk_G_array_6_3_ok rfl ?_
  refine jm_V.callI (av := [.ref 4, .ref 1015]) (rest := []) hok (jm_Con.mono (c_S_is hok hrec 1015 x1) (by omega)) (jm_Inv.obj (q := ("FilterReader$Signs", T_S, 5)) dd_G_array_13 (Or.inl lk_G_71) mn_S_is ms_S_is mw_S_is mh_S_is ml_S_is rfl rfl) mw_S_is mi_S (Nat.le_of_ble_eq_true rfl) (Nat.le_of_ble_eq_true rfl) (fun b3 x2 => ?_)
  refine jm_V.run (is := bk_G_array_16_1) (pc' := (if b3 = 0 then 19 else 24)) (ls' := [(0, .ref 2), (1, .int a1)]) (st' := []) (x' := x2) hok hT bk_G_array_16_1_ok rfl ?_
  refine jm_V.ite (fun _ => ?_) (fun _ => ?_)
  · refine jm_V.run (is := bk_G_array_19_2) (pc' := 21) (ls' := [(0, .ref 2), (1, .int a1)]) (st' := [.int a1, .ref 2]) (x' := x2) hok hT bk_G_array_19_2_ok rfl ?_
    refine jm_V.callV (av := [.ref 2, .int a1]) (rest := []) hok (jm_Con.mono (hrec 0 [.ref 2, .int a1] x2) (by omega)) (jm_Inv.obj (q := ("FilterReader$Grammar", T_G, 5)) dd_G_array_21 (Or.inl lk_G_45) mn_G_program ms_G_program mw_G_program mh_G_program ml_G_program rfl rfl) mw_G_program mi_G (Nat.le_of_ble_eq_true rfl) (Nat.le_of_ble_eq_true rfl) (fun x4 => ?_)
    refine jm_V.sub (ls' := [(0, .ref 2)]) [0] rfl ?_
    exact jj_G_array_24 hok hrec x4
  · refine jm_V.sub (ls' := [(0, .ref 2)]) [0] rfl ?_
    exact jj_G_array_24 hok hrec x2
abbrev bk_G_brackets_0_2 : List (Nat × Instr × Nat) := [(0, .aload_n 0, 1), (1, .getstatic 261, 3)]
theorem bk_G_brackets_0_2_ok : jm_at mt_G_brackets.2.1 bk_G_brackets_0_2 = true := by decide +kernel
abbrev bk_G_brackets_7_3 : List (Nat × Instr × Nat) := [(7, .aload_n 0, 1), (8, .getfield 20, 3), (11, .getstatic 273, 3)]
theorem bk_G_brackets_7_3_ok : jm_at mt_G_brackets.2.1 bk_G_brackets_7_3 = true := by decide +kernel
abbrev bk_G_brackets_17_1 : List (Nat × Instr × Nat) := [(17, .ifCond .eq 9, 3)]
theorem bk_G_brackets_17_1_ok : jm_at mt_G_brackets.2.1 bk_G_brackets_17_1 = true := by decide +kernel
abbrev bk_G_brackets_26_3 : List (Nat × Instr × Nat) := [(26, .aload_n 0, 1), (27, .getfield 20, 3), (30, .getstatic 173, 3)]
theorem bk_G_brackets_26_3_ok : jm_at mt_G_brackets.2.1 bk_G_brackets_26_3 = true := by decide +kernel
abbrev bk_G_brackets_36_1 : List (Nat × Instr × Nat) := [(36, .ifCond .ne 7, 3)]
theorem bk_G_brackets_36_1_ok : jm_at mt_G_brackets.2.1 bk_G_brackets_36_1 = true := by decide +kernel
abbrev bk_G_brackets_39_2 : List (Nat × Instr × Nat) := [(39, .iconst 1, 1), (40, .goto 4, 3)]
theorem bk_G_brackets_39_2_ok : jm_at mt_G_brackets.2.1 bk_G_brackets_39_2 = true := by decide +kernel
abbrev bk_G_brackets_43_1 : List (Nat × Instr × Nat) := [(43, .iconst 0, 1)]
theorem bk_G_brackets_43_1_ok : jm_at mt_G_brackets.2.1 bk_G_brackets_43_1 = true := by decide +kernel
abbrev bk_G_brackets_20_2 : List (Nat × Instr × Nat) := [(20, .aload_n 0, 1), (21, .iconst 4, 1)]
theorem bk_G_brackets_20_2_ok : jm_at mt_G_brackets.2.1 bk_G_brackets_20_2 = true := by decide +kernel
abbrev bk_G_brackets_44_3 : List (Nat × Instr × Nat) := [(44, .istore_n 2, 1), (45, .iload_n 2, 1), (46, .ifCond .eq 8, 3)]
theorem bk_G_brackets_44_3_ok : jm_at mt_G_brackets.2.1 bk_G_brackets_44_3 = true := by decide +kernel
abbrev bk_G_brackets_49_2 : List (Nat × Instr × Nat) := [(49, .aload_n 0, 1), (50, .iload_n 1, 1)]
theorem bk_G_brackets_49_2_ok : jm_at mt_G_brackets.2.1 bk_G_brackets_49_2 = true := by decide +kernel
abbrev bk_G_brackets_54_2 : List (Nat × Instr × Nat) := [(54, .aload_n 0, 1), (55, .getstatic 173, 3)]
theorem bk_G_brackets_54_2_ok : jm_at mt_G_brackets.2.1 bk_G_brackets_54_2 = true := by decide +kernel
abbrev bk_G_brackets_61_1 : List (Nat × Instr × Nat) := [(61, .ifCond .eq 33, 3)]
theorem bk_G_brackets_61_1_ok : jm_at mt_G_brackets.2.1 bk_G_brackets_61_1 = true := by decide +kernel
abbrev bk_G_brackets_94_2 : List (Nat × Instr × Nat) := [(94, .aload_n 0, 1), (95, .iconst 2, 1)]
theorem bk_G_brackets_94_2_ok : jm_at mt_G_brackets.2.1 bk_G_brackets_94_2 = true := by decide +kernel
abbrev bk_G_brackets_64_2 : List (Nat × Instr × Nat) := [(64, .aload_n 0, 1), (65, .iconst 3, 1)]
theorem bk_G_brackets_64_2_ok : jm_at mt_G_brackets.2.1 bk_G_brackets_64_2 = true := by decide +kernel
abbrev bk_G_brackets_69_2 : List (Nat × Instr × Nat) := [(69, .iload_n 2, 1), (70, .ifCond .eq 16, 3)]
theorem bk_G_brackets_69_2_ok : jm_at mt_G_brackets.2.1 bk_G_brackets_69_2 = true := by decide +kernel
abbrev bk_G_brackets_73_3 : List (Nat × Instr × Nat) := [(73, .aload_n 0, 1), (74, .getfield 20, 3), (77, .getstatic 273, 3)]
theorem bk_G_brackets_73_3_ok : jm_at mt_G_brackets.2.1 bk_G_brackets_73_3 = true := by decide +kernel
abbrev bk_G_brackets_83_1 : List (Nat × Instr × Nat) := [(83, .ifCond .ne 16, 3)]
theorem bk_G_brackets_83_1_ok : jm_at mt_G_brackets.2.1 bk_G_brackets_83_1 = true := by decide +kernel
abbrev bk_G_brackets_86_2 : List (Nat × Instr × Nat) := [(86, .aload_n 0, 1), (87, .iload_n 1, 1)]
theorem bk_G_brackets_86_2_ok : jm_at mt_G_brackets.2.1 bk_G_brackets_86_2 = true := by decide +kernel
abbrev bk_G_brackets_91_1 : List (Nat × Instr × Nat) := [(91, .goto 8, 3)]
theorem bk_G_brackets_91_1_ok : jm_at mt_G_brackets.2.1 bk_G_brackets_91_1 = true := by decide +kernel
abbrev bk_G_brackets_99_2 : List (Nat × Instr × Nat) := [(99, .aload_n 0, 1), (100, .getstatic 273, 3)]
theorem bk_G_brackets_99_2_ok : jm_at mt_G_brackets.2.1 bk_G_brackets_99_2 = true := by decide +kernel
theorem dd_G_brackets_4 : decode mt_G_brackets.2.1 4 = .ok (.invokevirtual 170, 3) := by decide +kernel
theorem dd_G_brackets_14 : decode mt_G_brackets.2.1 14 = .ok (.invokevirtual 71, 3) := by decide +kernel
theorem dd_G_brackets_33 : decode mt_G_brackets.2.1 33 = .ok (.invokevirtual 71, 3) := by decide +kernel
theorem dd_G_brackets_22 : decode mt_G_brackets.2.1 22 = .ok (.invokevirtual 124, 3) := by decide +kernel
theorem dd_G_brackets_25 : decode mt_G_brackets.2.1 25 = .ok (.return_, 1) := by decide +kernel
theorem dd_G_brackets_51 : decode mt_G_brackets.2.1 51 = .ok (.invokevirtual 45, 3) := by decide +kernel
theorem dd_G_brackets_58 : decode mt_G_brackets.2.1 58 = .ok (.invokevirtual 154, 3) := by decide +kernel
theorem dd_G_brackets_96 : decode mt_G_brackets.2.1 96 = .ok (.invokevirtual 85, 3) := by decide +kernel
theorem dd_G_brackets_66 : decode mt_G_brackets.2.1 66 = .ok (.invokevirtual 85, 3) := by decide +kernel
theorem dd_G_brackets_80 : decode mt_G_brackets.2.1 80 = .ok (.invokevirtual 71, 3) := by decide +kernel
theorem dd_G_brackets_88 : decode mt_G_brackets.2.1 88 = .ok (.invokevirtual 45, 3) := by decide +kernel
theorem dd_G_brackets_103 : decode mt_G_brackets.2.1 103 = .ok (.invokevirtual 170, 3) := by decide +kernel
theorem dd_G_brackets_106 : decode mt_G_brackets.2.1 106 = .ok (.return_, 1) := by decide +kernel
def J_G_brackets_99 (K : Nat) (g : jm_Rec)  (x : jm_X) : Option jm_R := jm_bV (f_G_take K g 1015 x) (fun x15 => some (.inl (none, x15)))
set_option maxRecDepth 100000 in
set_option maxHeartbeats 4000000 in
theorem jj_G_brackets_99 {l : Launch} {D : va_G} {ad : Nat → Nat} {aC : Nat → ClassId} {b0 : Nat} {K d0 : Nat} {g : jm_Rec} (hok : jm_Ok (jm_PP l D clC ad aC shC b0 1)) (hrec : ∀ (t : Nat) (av : List Value) (x : jm_X), jm_Con (jm_PP l D clC ad aC shC b0 1) (rcC t) d0 av x (g t av x))  (x : jm_X) : jm_V (jm_PP l D clC ad aC shC b0 1) mt_G_brackets (d0 + 10) 99 [(0, .ref 2)] [] x (J_G_brackets_99 K g  x) := by
  have hT := tk_G (l := l) (D := D) (ad := ad) (aC := aC) (b0 := b0)
  unfold J_G_brackets_99
  refine jm_V.run (is := bk_G_brackets_99_2) (pc' := 103) (ls' := [(0, .ref 2)]) (st' := [.ref 1015, .ref 2]) (x' := x) hok hT bk_G_brackets_99_2_ok rfl ?_
  refine jm_V.callV (av := [.ref 2, .ref 1015]) (rest := []) hok (jm_Con.mono (c_G_take hok hrec 1015 x) (by omega)) (jm_Inv.obj (q := ("FilterReader$Grammar", T_G, 5)) dd_G_brackets_103 (Or.inl lk_G_170) mn_G_take ms_G_take mw_G_take mh_G_take ml_G_take rfl rfl) mw_G_take mi_G (Nat.le_of_ble_eq_true rfl) (Nat.le_of_ble_eq_true rfl) (fun x15 => ?_)
  exact jm_V.vret rfl dd_G_brackets_106
def J_G_brackets_86 (K : Nat) (g : jm_Rec) (v1 : Int32) (x : jm_X) : Option jm_R := jm_bV (g 0 [.ref 2, .int v1] x) (fun x14 => J_G_brackets_99 K g x14)
set_option maxRecDepth 100000 in
set_option maxHeartbeats 4000000 in
theorem jj_G_brackets_86 {l : Launch} {D : va_G} {ad : Nat → Nat} {aC : Nat → ClassId} {b0 : Nat} {K d0 : Nat} {g : jm_Rec} (hok : jm_Ok (jm_PP l D clC ad aC shC b0 1)) (hrec : ∀ (t : Nat) (av : List Value) (x : jm_X), jm_Con (jm_PP l D clC ad aC shC b0 1) (rcC t) d0 av x (g t av x)) (v1 : Int32) (x : jm_X) : jm_V (jm_PP l D clC ad aC shC b0 1) mt_G_brackets (d0 + 10) 86 [(0, .ref 2), (1, .int v1)] [] x (J_G_brackets_86 K g v1 x) := by
  have hT := tk_G (l := l) (D := D) (ad := ad) (aC := aC) (b0 := b0)
  unfold J_G_brackets_86
  refine jm_V.run (is := bk_G_brackets_86_2) (pc' := 88) (ls' := [(0, .ref 2), (1, .int v1)]) (st' := [.int v1, .ref 2]) (x' := x) hok hT bk_G_brackets_86_2_ok rfl ?_
  refine jm_V.callV (av := [.ref 2, .int v1]) (rest := []) hok (jm_Con.mono (hrec 0 [.ref 2, .int v1] x) (by omega)) (jm_Inv.obj (q := ("FilterReader$Grammar", T_G, 5)) dd_G_brackets_88 (Or.inl lk_G_45) mn_G_program ms_G_program mw_G_program mh_G_program ml_G_program rfl rfl) mw_G_program mi_G (Nat.le_of_ble_eq_true rfl) (Nat.le_of_ble_eq_true rfl) (fun x14 => ?_)
  refine jm_V.run (is := bk_G_brackets_91_1) (pc' := 99) (ls' := [(0, .ref 2), (1, .int v1)]) (st' := []) (x' := x14) hok hT bk_G_brackets_91_1_ok rfl ?_
  refine jm_V.sub (ls' := [(0, .ref 2)]) [0] rfl ?_
  exact jj_G_brackets_99 hok hrec x14
def J_G_brackets_54 (K : Nat) (g : jm_Rec) (v1 : Int32) (v2 : Int32) (x : jm_X) : Option jm_R := jm_bI (f_G_takes K g 1010 x) (fun b9 x8 => (if b9 = 0 then jm_bV (f_G_count K g 2 x8) (fun x10 => J_G_brackets_99 K g x10) else jm_bV (f_G_count K g 3 x8) (fun x11 => (if v2 = 0 then J_G_brackets_86 K g v1 x11 else jm_bI (f_S_is K g 1015 x11) (fun b13 x12 => (if b13 = 0 then J_G_brackets_86 K g v1 x12 else J_G_brackets_99 K g x12))))))
set_option maxRecDepth 100000 in
set_option maxHeartbeats 4000000 in
theorem jj_G_brackets_54 {l : Launch} {D : va_G} {ad : Nat → Nat} {aC : Nat → ClassId} {b0 : Nat} {K d0 : Nat} {g : jm_Rec} (hok : jm_Ok (jm_PP l D clC ad aC shC b0 1)) (hrec : ∀ (t : Nat) (av : List Value) (x : jm_X), jm_Con (jm_PP l D clC ad aC shC b0 1) (rcC t) d0 av x (g t av x)) (v1 : Int32) (v2 : Int32) (x : jm_X) : jm_V (jm_PP l D clC ad aC shC b0 1) mt_G_brackets (d0 + 10) 54 [(0, .ref 2), (1, .int v1), (2, .int v2)] [] x (J_G_brackets_54 K g v1 v2 x) := by
  have hT := tk_G (l := l) (D := D) (ad := ad) (aC := aC) (b0 := b0)
  unfold J_G_brackets_54
  refine jm_V.run (is := bk_G_brackets_54_2) (pc' := 58) (ls' := [(0, .ref 2), (1, .int v1), (2, .int v2)]) (st' := [.ref 1010, .ref 2]) (x' := x) hok hT bk_G_brackets_54_2_ok rfl ?_
  refine jm_V.callI (av := [.ref 2, .ref 1010]) (rest := []) hok (jm_Con.mono (c_G_takes hok hrec 1010 x) (by omega)) (jm_Inv.obj (q := ("FilterReader$Grammar", T_G, 5)) dd_G_brackets_58 (Or.inl lk_G_154) mn_G_takes ms_G_takes mw_G_takes mh_G_takes ml_G_takes rfl rfl) mw_G_takes mi_G (Nat.le_of_ble_eq_true rfl) (Nat.le_of_ble_eq_true rfl) (fun b9 x8 => ?_)
  refine jm_V.run (is := bk_G_brackets_61_1) (pc' := (if b9 = 0 then 94 else 64)) (ls' := [(0, .ref 2), (1, .int v1), (2, .int v2)]) (st' := []) (x' := x8) hok hT bk_G_brackets_61_1_ok rfl ?_
  refine jm_V.ite (fun _ => ?_) (fun _ => ?_)
  · refine jm_V.run (is := bk_G_brackets_94_2) (pc' := 96) (ls' := [(0, .ref 2), (1, .int v1), (2, .int v2)]) (st' := [.int 2, .ref 2]) (x' := x8) hok hT bk_G_brackets_94_2_ok rfl ?_
    refine jm_V.callV (av := [.ref 2, .int 2]) (rest := []) hok (jm_Con.mono (c_G_count hok hrec 2 x8) (by omega)) (jm_Inv.obj (q := ("FilterReader$Grammar", T_G, 5)) dd_G_brackets_96 (Or.inl lk_G_85) mn_G_count ms_G_count mw_G_count mh_G_count ml_G_count rfl rfl) mw_G_count mi_G (Nat.le_of_ble_eq_true rfl) (Nat.le_of_ble_eq_true rfl) (fun x10 => ?_)
    refine jm_V.sub (ls' := [(0, .ref 2)]) [0] rfl ?_
    exact jj_G_brackets_99 hok hrec x10
  · refine jm_V.run (is := bk_G_brackets_64_2) (pc' := 66) (ls' := [(0, .ref 2), (1, .int v1), (2, .int v2)]) (st' := [.int 3, .ref 2]) (x' := x8) hok hT bk_G_brackets_64_2_ok rfl ?_
    refine jm_V.callV (av := [.ref 2, .int 3]) (rest := []) hok (jm_Con.mono (c_G_count hok hrec 3 x8) (by omega)) (jm_Inv.obj (q := ("FilterReader$Grammar", T_G, 5)) dd_G_brackets_66 (Or.inl lk_G_85) mn_G_count ms_G_count mw_G_count mh_G_count ml_G_count rfl rfl) mw_G_count mi_G (Nat.le_of_ble_eq_true rfl) (Nat.le_of_ble_eq_true rfl) (fun x11 => ?_)
    refine jm_V.run (is := bk_G_brackets_69_2) (pc' := (if v2 = 0 then 86 else 73)) (ls' := [(0, .ref 2), (1, .int v1), (2, .int v2)]) (st' := []) (x' := x11) hok hT bk_G_brackets_69_2_ok rfl ?_
    refine jm_V.ite (fun _ => ?_) (fun _ => ?_)
    · refine jm_V.sub (ls' := [(0, .ref 2), (1, .int v1)]) [0, 1] rfl ?_
      exact jj_G_brackets_86 hok hrec v1 x11
    · refine jm_V.run (is := bk_G_brackets_73_3) (pc' := 80) (ls' := [(0, .ref 2), (1, .int v1), (2, .int v2)]) (st' := [.ref 1015, .ref 4]) (x' := x11) hok hT bk_G_brackets_73_3_ok rfl ?_
      refine jm_V.callI (av := [.ref 4, .ref 1015]) (rest := []) hok (jm_Con.mono (c_S_is hok hrec 1015 x11) (by omega)) (jm_Inv.obj (q := ("FilterReader$Signs", T_S, 5)) dd_G_brackets_80 (Or.inl lk_G_71) mn_S_is ms_S_is mw_S_is mh_S_is ml_S_is rfl rfl) mw_S_is mi_S (Nat.le_of_ble_eq_true rfl) (Nat.le_of_ble_eq_true rfl) (fun b13 x12 => ?_)
      refine jm_V.run (is := bk_G_brackets_83_1) (pc' := (if b13 = 0 then 86 else 99)) (ls' := [(0, .ref 2), (1, .int v1), (2, .int v2)]) (st' := []) (x' := x12) hok hT bk_G_brackets_83_1_ok rfl ?_
      refine jm_V.ite (fun _ => ?_) (fun _ => ?_)
      · refine jm_V.sub (ls' := [(0, .ref 2), (1, .int v1)]) [0, 1] rfl ?_
        exact jj_G_brackets_86 hok hrec v1 x12
      · refine jm_V.sub (ls' := [(0, .ref 2)]) [0] rfl ?_
        exact jj_G_brackets_99 hok hrec x12
def J_G_brackets_44 (K : Nat) (g : jm_Rec) (v1 : Int32) (s0 : Int32) (x : jm_X) : Option jm_R := (if s0 = 0 then J_G_brackets_54 K g v1 s0 x else jm_bV (g 0 [.ref 2, .int v1] x) (fun x7 => J_G_brackets_54 K g v1 s0 x7))
set_option maxRecDepth 100000 in
set_option maxHeartbeats 4000000 in
theorem jj_G_brackets_44 {l : Launch} {D : va_G} {ad : Nat → Nat} {aC : Nat → ClassId} {b0 : Nat} {K d0 : Nat} {g : jm_Rec} (hok : jm_Ok (jm_PP l D clC ad aC shC b0 1)) (hrec : ∀ (t : Nat) (av : List Value) (x : jm_X), jm_Con (jm_PP l D clC ad aC shC b0 1) (rcC t) d0 av x (g t av x)) (v1 : Int32) (s0 : Int32) (x : jm_X) : jm_V (jm_PP l D clC ad aC shC b0 1) mt_G_brackets (d0 + 10) 44 [(0, .ref 2), (1, .int v1)] [.int s0] x (J_G_brackets_44 K g v1 s0 x) := by
  have hT := tk_G (l := l) (D := D) (ad := ad) (aC := aC) (b0 := b0)
  unfold J_G_brackets_44
  refine jm_V.run (is := bk_G_brackets_44_3) (pc' := (if s0 = 0 then 54 else 49)) (ls' := [(2, .int s0), (0, .ref 2), (1, .int v1)]) (st' := []) (x' := x) hok hT bk_G_brackets_44_3_ok rfl ?_
  refine jm_V.ite (fun _ => ?_) (fun _ => ?_)
  · refine jm_V.sub (ls' := [(0, .ref 2), (1, .int v1), (2, .int s0)]) [1, 2, 0] rfl ?_
    exact jj_G_brackets_54 hok hrec v1 s0 x
  · refine jm_V.run (is := bk_G_brackets_49_2) (pc' := 51) (ls' := [(2, .int s0), (0, .ref 2), (1, .int v1)]) (st' := [.int v1, .ref 2]) (x' := x) hok hT bk_G_brackets_49_2_ok rfl ?_
    refine jm_V.callV (av := [.ref 2, .int v1]) (rest := []) hok (jm_Con.mono (hrec 0 [.ref 2, .int v1] x) (by omega)) (jm_Inv.obj (q := ("FilterReader$Grammar", T_G, 5)) dd_G_brackets_51 (Or.inl lk_G_45) mn_G_program ms_G_program mw_G_program mh_G_program ml_G_program rfl rfl) mw_G_program mi_G (Nat.le_of_ble_eq_true rfl) (Nat.le_of_ble_eq_true rfl) (fun x7 => ?_)
    refine jm_V.sub (ls' := [(0, .ref 2), (1, .int v1), (2, .int s0)]) [1, 2, 0] rfl ?_
    exact jj_G_brackets_54 hok hrec v1 s0 x7
def f_G_brackets (K : Nat) (g : jm_Rec) (a1 : Int32) (x : jm_X) : Option jm_R := jm_bV (f_G_take K g 1014 x) (fun x1 => jm_bI (f_S_is K g 1015 x1) (fun b3 x2 => (if b3 = 0 then jm_bI (f_S_is K g 1010 x2) (fun b5 x4 => (if b5 = 0 then J_G_brackets_44 K g a1 1 x4 else J_G_brackets_44 K g a1 0 x4)) else jm_bV (f_G_takeAs K g 4 x2) (fun x6 => some (.inl (none, x6))))))
set_option maxRecDepth 100000 in
set_option maxHeartbeats 4000000 in
theorem c_G_brackets {l : Launch} {D : va_G} {ad : Nat → Nat} {aC : Nat → ClassId} {b0 : Nat} {K d0 : Nat} {g : jm_Rec} (hok : jm_Ok (jm_PP l D clC ad aC shC b0 1)) (hrec : ∀ (t : Nat) (av : List Value) (x : jm_X), jm_Con (jm_PP l D clC ad aC shC b0 1) (rcC t) d0 av x (g t av x)) (a1 : Int32) (x : jm_X) : jm_Con (jm_PP l D clC ad aC shC b0 1) mt_G_brackets (d0 + 10) [.ref 2, .int a1] x (f_G_brackets K g a1 x) := by
  refine jm_Con.of (plainFor_of_name (by decide +kernel)) (Nat.le_of_ble_eq_true rfl) ?_
  have hT := tk_G (l := l) (D := D) (ad := ad) (aC := aC) (b0 := b0)
  unfold f_G_brackets
  show jm_V _ _ _ 0 [(0, .ref 2), (1, .int a1)] [] x _
  refine jm_V.run (is := bk_G_brackets_0_2) (pc' := 4) (ls' := [(0, .ref 2), (1, .int a1)]) (st' := [.ref 1014, .ref 2]) (x' := x) hok hT bk_G_brackets_0_2_ok rfl ?_
  refine jm_V.callV (av := [.ref 2, .ref 1014]) (rest := []) hok (jm_Con.mono (c_G_take hok hrec 1014 x) (by omega)) (jm_Inv.obj (q := ("FilterReader$Grammar", T_G, 5)) dd_G_brackets_4 (Or.inl lk_G_170) mn_G_take ms_G_take mw_G_take mh_G_take ml_G_take rfl rfl) mw_G_take mi_G (Nat.le_of_ble_eq_true rfl) (Nat.le_of_ble_eq_true rfl) (fun x1 => ?_)
  refine jm_V.run (is := bk_G_brackets_7_3) (pc' := 14) (ls' := [(0, .ref 2), (1, .int a1)]) (st' := [.ref 1015, .ref 4]) (x' := x1) hok hT bk_G_brackets_7_3_ok rfl ?_
  refine jm_V.callI (av := [.ref 4, .ref 1015]) (rest := []) hok (jm_Con.mono (c_S_is hok hrec 1015 x1) (by omega)) (jm_Inv.obj (q := ("FilterReader$Signs", T_S, 5)) dd_G_brackets_14 (Or.inl lk_G_71) mn_S_is ms_S_is mw_S_is mh_S_is ml_S_is rfl rfl) mw_S_is mi_S (Nat.le_of_ble_eq_true rfl) (Nat.le_of_ble_eq_true rfl) (fun b3 x2 => ?_)
  refine jm_V.run (is := bk_G_brackets_17_1) (pc' := (if b3 = 0 then 26 else 20)) (ls' := [(0, .ref 2), (1, .int a1)]) (st' := []) (x' := x2) hok hT bk_G_brackets_17_1_ok rfl ?_
  refine jm_V.ite (fun _ => ?_) (fun _ => ?_)
  · refine jm_V.run (is := bk_G_brackets_26_3) (pc' := 33) (ls' := [(0, .ref 2), (1, .int a1)]) (st' := [.ref 1010, .ref 4]) (x' := x2) hok hT bk_G_brackets_26_3_ok rfl ?_
    refine jm_V.callI (av := [.ref 4, .ref 1010]) (rest := []) hok (jm_Con.mono (c_S_is hok hrec 1010 x2) (by omega)) (jm_Inv.obj (q := ("FilterReader$Signs", T_S, 5)) dd_G_brackets_33 (Or.inl lk_G_71) mn_S_is ms_S_is mw_S_is mh_S_is ml_S_is rfl rfl) mw_S_is mi_S (Nat.le_of_ble_eq_true rfl) (Nat.le_of_ble_eq_true rfl) (fun b5 x4 => ?_)
    refine jm_V.run (is := bk_G_brackets_36_1) (pc' := (if b5 = 0 then 39 else 43)) (ls' := [(0, .ref 2), (1, .int a1)]) (st' := []) (x' := x4) hok hT bk_G_brackets_36_1_ok rfl ?_
    refine jm_V.ite (fun _ => ?_) (fun _ => ?_)
    · refine jm_V.run (is := bk_G_brackets_39_2) (pc' := 44) (ls' := [(0, .ref 2), (1, .int a1)]) (st' := [.int 1]) (x' := x4) hok hT bk_G_brackets_39_2_ok rfl ?_
      exact jj_G_brackets_44 hok hrec a1 1 x4
    · refine jm_V.run (is := bk_G_brackets_43_1) (pc' := 44) (ls' := [(0, .ref 2), (1, .int a1)]) (st' := [.int 0]) (x' := x4) hok hT bk_G_brackets_43_1_ok rfl ?_
      exact jj_G_brackets_44 hok hrec a1 0 x4
  · refine jm_V.run (is := bk_G_brackets_20_2) (pc' := 22) (ls' := [(0, .ref 2), (1, .int a1)]) (st' := [.int 4, .ref 2]) (x' := x2) hok hT bk_G_brackets_20_2_ok rfl ?_
    refine jm_V.callV (av := [.ref 2, .int 4]) (rest := []) hok (jm_Con.mono (c_G_takeAs hok hrec 4 x2) (by omega)) (jm_Inv.obj (q := ("FilterReader$Grammar", T_G, 5)) dd_G_brackets_22 (Or.inl lk_G_124) mn_G_takeAs ms_G_takeAs mw_G_takeAs mh_G_takeAs ml_G_takeAs rfl rfl) mw_G_takeAs mi_G (Nat.le_of_ble_eq_true rfl) (Nat.le_of_ble_eq_true rfl) (fun x6 => ?_)
    exact jm_V.vret rfl dd_G_brackets_25
abbrev bk_G_call_0_2 : List (Nat × Instr × Nat) := [(0, .aload_n 0, 1), (1, .getfield 20, 3)]
theorem bk_G_call_0_2_ok : jm_at mt_G_call.2.1 bk_G_call_0_2 = true := by decide +kernel
abbrev bk_G_call_7_3 : List (Nat × Instr × Nat) := [(7, .istore_n 2, 1), (8, .aload_n 0, 1), (9, .getfield 20, 3)]
theorem bk_G_call_7_3_ok : jm_at mt_G_call.2.1 bk_G_call_7_3 = true := by decide +kernel
abbrev bk_G_call_15_5 : List (Nat × Instr × Nat) := [(15, .istore_n 3, 1), (16, .iconst 0, 1), (17, .istore 4, 2), (19, .aload_n 0, 1), (20, .getfield 20, 3)]
theorem bk_G_call_15_5_ok : jm_at mt_G_call.2.1 bk_G_call_15_5 = true := by decide +kernel
abbrev bk_G_call_26_2 : List (Nat × Instr × Nat) := [(26, .aload_n 0, 1), (27, .getstatic 151, 3)]
theorem bk_G_call_26_2_ok : jm_at mt_G_call.2.1 bk_G_call_26_2 = true := by decide +kernel
abbrev bk_G_call_33_1 : List (Nat × Instr × Nat) := [(33, .ifCond .eq 36, 3)]
theorem bk_G_call_33_1_ok : jm_at mt_G_call.2.1 bk_G_call_33_1 = true := by decide +kernel
abbrev bk_G_call_36_2 : List (Nat × Instr × Nat) := [(36, .aload_n 0, 1), (37, .iload_n 1, 1)]
theorem bk_G_call_36_2_ok : jm_at mt_G_call.2.1 bk_G_call_36_2 = true := by decide +kernel
abbrev bk_G_call_41_4 : List (Nat × Instr × Nat) := [(41, .iinc 4 1, 3), (44, .iload 4, 2), (46, .sipush 16385, 3), (49, .if_icmp .ge 13, 3)]
theorem bk_G_call_41_4_ok : jm_at mt_G_call.2.1 bk_G_call_41_4 = true := by decide +kernel
abbrev bk_G_call_52_2 : List (Nat × Instr × Nat) := [(52, .aload_n 0, 1), (53, .getstatic 160, 3)]
theorem bk_G_call_52_2_ok : jm_at mt_G_call.2.1 bk_G_call_52_2 = true := by decide +kernel
abbrev bk_G_call_59_1 : List (Nat × Instr × Nat) := [(59, .ifCond .ne (-23), 3)]
theorem bk_G_call_59_1_ok : jm_at mt_G_call.2.1 bk_G_call_59_1 = true := by decide +kernel
abbrev bk_G_call_62_2 : List (Nat × Instr × Nat) := [(62, .aload_n 0, 1), (63, .getstatic 167, 3)]
theorem bk_G_call_62_2_ok : jm_at mt_G_call.2.1 bk_G_call_62_2 = true := by decide +kernel
abbrev bk_G_call_69_5 : List (Nat × Instr × Nat) := [(69, .aload_n 0, 1), (70, .getfield 27, 3), (73, .iload_n 2, 1), (74, .iload_n 3, 1), (75, .iload 4, 2)]
theorem bk_G_call_69_5_ok : jm_at mt_G_call.2.1 bk_G_call_69_5 = true := by decide +kernel
abbrev bk_G_call_80_4 : List (Nat × Instr × Nat) := [(80, .istore 5, 2), (82, .iload 5, 2), (84, .bipush (-4), 2), (86, .if_icmp .ne 8, 3)]
theorem bk_G_call_80_4_ok : jm_at mt_G_call.2.1 bk_G_call_80_4 = true := by decide +kernel
abbrev bk_G_call_89_2 : List (Nat × Instr × Nat) := [(89, .aload_n 0, 1), (90, .iload_n 2, 1)]
theorem bk_G_call_89_2_ok : jm_at mt_G_call.2.1 bk_G_call_89_2 = true := by decide +kernel
abbrev bk_G_call_94_2 : List (Nat × Instr × Nat) := [(94, .aload_n 0, 1), (95, .iload 5, 2)]
theorem bk_G_call_94_2_ok : jm_at mt_G_call.2.1 bk_G_call_94_2 = true := by decide +kernel
theorem dd_G_call_4 : decode mt_G_call.2.1 4 = .ok (.invokevirtual 75, 3) := by decide +kernel
theorem dd_G_call_12 : decode mt_G_call.2.1 12 = .ok (.invokevirtual 91, 3) := by decide +kernel
theorem dd_G_call_23 : decode mt_G_call.2.1 23 = .ok (.invokevirtual 82, 3) := by decide +kernel
theorem dd_G_call_30 : decode mt_G_call.2.1 30 = .ok (.invokevirtual 154, 3) := by decide +kernel
theorem dd_G_call_38 : decode mt_G_call.2.1 38 = .ok (.invokevirtual 45, 3) := by decide +kernel
theorem dd_G_call_56 : decode mt_G_call.2.1 56 = .ok (.invokevirtual 154, 3) := by decide +kernel
theorem dd_G_call_66 : decode mt_G_call.2.1 66 = .ok (.invokevirtual 170, 3) := by decide +kernel
theorem dd_G_call_77 : decode mt_G_call.2.1 77 = .ok (.invokevirtual 286, 3) := by decide +kernel
theorem dd_G_call_91 : decode mt_G_call.2.1 91 = .ok (.invokevirtual 79, 3) := by decide +kernel
theorem dd_G_call_97 : decode mt_G_call.2.1 97 = .ok (.invokevirtual 85, 3) := by decide +kernel
theorem dd_G_call_100 : decode mt_G_call.2.1 100 = .ok (.return_, 1) := by decide +kernel
def J_G_call_94 (K : Nat) (g : jm_Rec) (v5 : Int32) (x : jm_X) : Option jm_R := jm_bV (f_G_count K g v5 x) (fun x15 => some (.inl (none, x15)))
set_option maxRecDepth 100000 in
set_option maxHeartbeats 4000000 in
theorem jj_G_call_94 {l : Launch} {D : va_G} {ad : Nat → Nat} {aC : Nat → ClassId} {b0 : Nat} {K d0 : Nat} {g : jm_Rec} (hok : jm_Ok (jm_PP l D clC ad aC shC b0 1)) (hrec : ∀ (t : Nat) (av : List Value) (x : jm_X), jm_Con (jm_PP l D clC ad aC shC b0 1) (rcC t) d0 av x (g t av x)) (v5 : Int32) (x : jm_X) : jm_V (jm_PP l D clC ad aC shC b0 1) mt_G_call (d0 + 10) 94 [(0, .ref 2), (5, .int v5)] [] x (J_G_call_94 K g v5 x) := by
  have hT := tk_G (l := l) (D := D) (ad := ad) (aC := aC) (b0 := b0)
  unfold J_G_call_94
  refine jm_V.run (is := bk_G_call_94_2) (pc' := 97) (ls' := [(0, .ref 2), (5, .int v5)]) (st' := [.int v5, .ref 2]) (x' := x) hok hT bk_G_call_94_2_ok rfl ?_
  refine jm_V.callV (av := [.ref 2, .int v5]) (rest := []) hok (jm_Con.mono (c_G_count hok hrec v5 x) (by omega)) (jm_Inv.obj (q := ("FilterReader$Grammar", T_G, 5)) dd_G_call_97 (Or.inl lk_G_85) mn_G_count ms_G_count mw_G_count mh_G_count ml_G_count rfl rfl) mw_G_count mi_G (Nat.le_of_ble_eq_true rfl) (Nat.le_of_ble_eq_true rfl) (fun x15 => ?_)
  exact jm_V.vret rfl dd_G_call_100
def J_G_call_69 (K : Nat) (g : jm_Rec) (v2 : Int32) (v3 : Int32) (v4 : Int32) (x : jm_X) : Option jm_R := jm_bI (f_N_callKind K g v2 v3 v4 x) (fun b13 x12 => (if b13 = (-4) then jm_bV (f_G_broken K g v2 x12) (fun x14 => J_G_call_94 K g b13 x14) else J_G_call_94 K g b13 x12))
set_option maxRecDepth 100000 in
set_option maxHeartbeats 4000000 in
theorem jj_G_call_69 {l : Launch} {D : va_G} {ad : Nat → Nat} {aC : Nat → ClassId} {b0 : Nat} {K d0 : Nat} {g : jm_Rec} (hok : jm_Ok (jm_PP l D clC ad aC shC b0 1)) (hrec : ∀ (t : Nat) (av : List Value) (x : jm_X), jm_Con (jm_PP l D clC ad aC shC b0 1) (rcC t) d0 av x (g t av x)) (v2 : Int32) (v3 : Int32) (v4 : Int32) (x : jm_X) : jm_V (jm_PP l D clC ad aC shC b0 1) mt_G_call (d0 + 10) 69 [(0, .ref 2), (2, .int v2), (3, .int v3), (4, .int v4)] [] x (J_G_call_69 K g v2 v3 v4 x) := by
  have hT := tk_G (l := l) (D := D) (ad := ad) (aC := aC) (b0 := b0)
  unfold J_G_call_69
  refine jm_V.run (is := bk_G_call_69_5) (pc' := 77) (ls' := [(0, .ref 2), (2, .int v2), (3, .int v3), (4, .int v4)]) (st' := [.int v4, .int v3, .int v2, .ref 6]) (x' := x) hok hT bk_G_call_69_5_ok rfl ?_
  refine jm_V.callI (av := [.ref 6, .int v2, .int v3, .int v4]) (rest := []) hok (jm_Con.mono (c_N_callKind hok hrec v2 v3 v4 x) (by omega)) (jm_Inv.obj (q := ("FilterReader$Names", T_N, 6)) dd_G_call_77 (Or.inl lk_G_286) mn_N_callKind ms_N_callKind mw_N_callKind mh_N_callKind ml_N_callKind rfl rfl) mw_N_callKind mi_N (Nat.le_of_ble_eq_true rfl) (Nat.le_of_ble_eq_true rfl) (fun b13 x12 => ?_)
  refine jm_V.run (is := bk_G_call_80_4) (pc' := (if b13 = (-4) then 89 else 94)) (ls' := [(5, .int b13), (0, .ref 2), (2, .int v2), (3, .int v3), (4, .int v4)]) (st' := []) (x' := x12) hok hT bk_G_call_80_4_ok rfl ?_
  refine jm_V.ite (fun _ => ?_) (fun _ => ?_)
  · refine jm_V.run (is := bk_G_call_89_2) (pc' := 91) (ls' := [(5, .int b13), (0, .ref 2), (2, .int v2), (3, .int v3), (4, .int v4)]) (st' := [.int v2, .ref 2]) (x' := x12) hok hT bk_G_call_89_2_ok rfl ?_
    refine jm_V.callV (av := [.ref 2, .int v2]) (rest := []) hok (jm_Con.mono (c_G_broken hok hrec v2 x12) (by omega)) (jm_Inv.obj (q := ("FilterReader$Grammar", T_G, 5)) dd_G_call_91 (Or.inl lk_G_79) mn_G_broken ms_G_broken mw_G_broken mh_G_broken ml_G_broken rfl rfl) mw_G_broken mi_G (Nat.le_of_ble_eq_true rfl) (Nat.le_of_ble_eq_true rfl) (fun x14 => ?_)
    refine jm_V.sub (ls' := [(0, .ref 2), (5, .int b13)]) [1, 0] rfl ?_
    exact jj_G_call_94 hok hrec b13 x14
  · refine jm_V.sub (ls' := [(0, .ref 2), (5, .int b13)]) [1, 0] rfl ?_
    exact jj_G_call_94 hok hrec b13 x12
def J_G_call_62 (K : Nat) (g : jm_Rec) (v2 : Int32) (v3 : Int32) (v4 : Int32) (x : jm_X) : Option jm_R := jm_bV (f_G_take K g 1013 x) (fun x11 => J_G_call_69 K g v2 v3 v4 x11)
set_option maxRecDepth 100000 in
set_option maxHeartbeats 4000000 in
theorem jj_G_call_62 {l : Launch} {D : va_G} {ad : Nat → Nat} {aC : Nat → ClassId} {b0 : Nat} {K d0 : Nat} {g : jm_Rec} (hok : jm_Ok (jm_PP l D clC ad aC shC b0 1)) (hrec : ∀ (t : Nat) (av : List Value) (x : jm_X), jm_Con (jm_PP l D clC ad aC shC b0 1) (rcC t) d0 av x (g t av x)) (v2 : Int32) (v3 : Int32) (v4 : Int32) (x : jm_X) : jm_V (jm_PP l D clC ad aC shC b0 1) mt_G_call (d0 + 10) 62 [(0, .ref 2), (2, .int v2), (3, .int v3), (4, .int v4)] [] x (J_G_call_62 K g v2 v3 v4 x) := by
  have hT := tk_G (l := l) (D := D) (ad := ad) (aC := aC) (b0 := b0)
  unfold J_G_call_62
  refine jm_V.run (is := bk_G_call_62_2) (pc' := 66) (ls' := [(0, .ref 2), (2, .int v2), (3, .int v3), (4, .int v4)]) (st' := [.ref 1013, .ref 2]) (x' := x) hok hT bk_G_call_62_2_ok rfl ?_
  refine jm_V.callV (av := [.ref 2, .ref 1013]) (rest := []) hok (jm_Con.mono (c_G_take hok hrec 1013 x) (by omega)) (jm_Inv.obj (q := ("FilterReader$Grammar", T_G, 5)) dd_G_call_66 (Or.inl lk_G_170) mn_G_take ms_G_take mw_G_take mh_G_take ml_G_take rfl rfl) mw_G_take mi_G (Nat.le_of_ble_eq_true rfl) (Nat.le_of_ble_eq_true rfl) (fun x11 => ?_)
  exact jj_G_call_69 hok hrec v2 v3 v4 x11
def B_G_call_36 (K : Nat) (g : jm_Rec) (self : Int32 → Int32 → Int32 → Int32 → jm_X → Option jm_R) (v1 : Int32) (v2 : Int32) (v3 : Int32) (v4 : Int32) (x : jm_X) : Option jm_R := jm_bV (g 0 [.ref 2, .int v1] x) (fun x8 => (if 16385 ≤ (v4 + 1) then J_G_call_62 K g v2 v3 (v4 + 1) x8 else jm_bI (f_G_takes K g 1011 x8) (fun b10 x9 => (if b10 = 0 then J_G_call_62 K g v2 v3 (v4 + 1) x9 else self v1 v2 v3 (v4 + 1) x9))))
def L_G_call_36 (K : Nat) (g : jm_Rec) : Nat → Int32 → Int32 → Int32 → Int32 → jm_X → Option jm_R
  | 0, _, _, _, _, _ => none
  | k + 1, v1, v2, v3, v4, x => B_G_call_36 K g (L_G_call_36 K g k) v1 v2 v3 v4 x
set_option maxRecDepth 100000 in
set_option maxHeartbeats 4000000 in
theorem jb_G_call_36 {l : Launch} {D : va_G} {ad : Nat → Nat} {aC : Nat → ClassId} {b0 : Nat} {K d0 : Nat} {g : jm_Rec} (hok : jm_Ok (jm_PP l D clC ad aC shC b0 1)) (hrec : ∀ (t : Nat) (av : List Value) (x : jm_X), jm_Con (jm_PP l D clC ad aC shC b0 1) (rcC t) d0 av x (g t av x)) {self : Int32 → Int32 → Int32 → Int32 → jm_X → Option jm_R} (hself : ∀ (v1 : Int32) (v2 : Int32) (v3 : Int32) (v4 : Int32) (x : jm_X), jm_V (jm_PP l D clC ad aC shC b0 1) mt_G_call (d0 + 10) 36 [(0, .ref 2), (1, .int v1), (2, .int v2), (3, .int v3), (4, .int v4)] [] x (self v1 v2 v3 v4 x)) (v1 : Int32) (v2 : Int32) (v3 : Int32) (v4 : Int32) (x : jm_X) : jm_V (jm_PP l D clC ad aC shC b0 1) mt_G_call (d0 + 10) 36 [(0, .ref 2), (1, .int v1), (2, .int v2), (3, .int v3), (4, .int v4)] [] x (B_G_call_36 K g self v1 v2 v3 v4 x) := by
  have hT := tk_G (l := l) (D := D) (ad := ad) (aC := aC) (b0 := b0)
  unfold B_G_call_36
  refine jm_V.run (is := bk_G_call_36_2) (pc' := 38) (ls' := [(0, .ref 2), (1, .int v1), (2, .int v2), (3, .int v3), (4, .int v4)]) (st' := [.int v1, .ref 2]) (x' := x) hok hT bk_G_call_36_2_ok rfl ?_
  refine jm_V.callV (av := [.ref 2, .int v1]) (rest := []) hok (jm_Con.mono (hrec 0 [.ref 2, .int v1] x) (by omega)) (jm_Inv.obj (q := ("FilterReader$Grammar", T_G, 5)) dd_G_call_38 (Or.inl lk_G_45) mn_G_program ms_G_program mw_G_program mh_G_program ml_G_program rfl rfl) mw_G_program mi_G (Nat.le_of_ble_eq_true rfl) (Nat.le_of_ble_eq_true rfl) (fun x8 => ?_)
  refine jm_V.run (is := bk_G_call_41_4) (pc' := (if 16385 ≤ (v4 + 1) then 62 else 52)) (ls' := [(4, .int (v4 + 1)), (0, .ref 2), (1, .int v1), (2, .int v2), (3, .int v3)]) (st' := []) (x' := x8) hok hT bk_G_call_41_4_ok rfl ?_
  refine jm_V.ite (fun _ => ?_) (fun _ => ?_)
  · refine jm_V.sub (ls' := [(0, .ref 2), (2, .int v2), (3, .int v3), (4, .int (v4 + 1))]) [1, 3, 4, 0] rfl ?_
    exact jj_G_call_62 hok hrec v2 v3 (v4 + 1) x8
  · refine jm_V.run (is := bk_G_call_52_2) (pc' := 56) (ls' := [(4, .int (v4 + 1)), (0, .ref 2), (1, .int v1), (2, .int v2), (3, .int v3)]) (st' := [.ref 1011, .ref 2]) (x' := x8) hok hT bk_G_call_52_2_ok rfl ?_
    refine jm_V.callI (av := [.ref 2, .ref 1011]) (rest := []) hok (jm_Con.mono (c_G_takes hok hrec 1011 x8) (by omega)) (jm_Inv.obj (q := ("FilterReader$Grammar", T_G, 5)) dd_G_call_56 (Or.inl lk_G_154) mn_G_takes ms_G_takes mw_G_takes mh_G_takes ml_G_takes rfl rfl) mw_G_takes mi_G (Nat.le_of_ble_eq_true rfl) (Nat.le_of_ble_eq_true rfl) (fun b10 x9 => ?_)
    refine jm_V.run (is := bk_G_call_59_1) (pc' := (if b10 = 0 then 62 else 36)) (ls' := [(4, .int (v4 + 1)), (0, .ref 2), (1, .int v1), (2, .int v2), (3, .int v3)]) (st' := []) (x' := x9) hok hT bk_G_call_59_1_ok rfl ?_
    refine jm_V.ite (fun _ => ?_) (fun _ => ?_)
    · refine jm_V.sub (ls' := [(0, .ref 2), (2, .int v2), (3, .int v3), (4, .int (v4 + 1))]) [1, 3, 4, 0] rfl ?_
      exact jj_G_call_62 hok hrec v2 v3 (v4 + 1) x9
    · refine jm_V.sub (ls' := [(0, .ref 2), (1, .int v1), (2, .int v2), (3, .int v3), (4, .int (v4 + 1))]) [1, 2, 3, 4, 0] rfl ?_
      exact hself v1 v2 v3 (v4 + 1) x9
theorem jl_G_call_36 {l : Launch} {D : va_G} {ad : Nat → Nat} {aC : Nat → ClassId} {b0 : Nat} {K d0 : Nat} {g : jm_Rec} (hok : jm_Ok (jm_PP l D clC ad aC shC b0 1)) (hrec : ∀ (t : Nat) (av : List Value) (x : jm_X), jm_Con (jm_PP l D clC ad aC shC b0 1) (rcC t) d0 av x (g t av x)) : ∀ (k : Nat) (v1 : Int32) (v2 : Int32) (v3 : Int32) (v4 : Int32) (x : jm_X), jm_V (jm_PP l D clC ad aC shC b0 1) mt_G_call (d0 + 10) 36 [(0, .ref 2), (1, .int v1), (2, .int v2), (3, .int v3), (4, .int v4)] [] x (L_G_call_36 K g k v1 v2 v3 v4 x)
  | 0, _, _, _, _, _ => jm_V.stuck
  | k + 1, v1, v2, v3, v4, x => jb_G_call_36 hok hrec (fun v1 v2 v3 v4 x => jl_G_call_36 hok hrec k v1 v2 v3 v4 x) v1 v2 v3 v4 x
def f_G_call (K : Nat) (g : jm_Rec) (a1 : Int32) (x : jm_X) : Option jm_R := jm_bI (f_S_start K g x) (fun b2 x1 => jm_bI (f_S_behind K g x1) (fun b4 x3 => jm_bV (f_S_next K g x3) (fun x5 => jm_bI (f_G_takes K g 1012 x5) (fun b7 x6 => (if b7 = 0 then J_G_call_69 K g b2 b4 0 x6 else L_G_call_36 K g K a1 b2 b4 0 x6)))))
set_option maxRecDepth 100000 in
set_option maxHeartbeats 4000000 in
theorem c_G_call {l : Launch} {D : va_G} {ad : Nat → Nat} {aC : Nat → ClassId} {b0 : Nat} {K d0 : Nat} {g : jm_Rec} (hok : jm_Ok (jm_PP l D clC ad aC shC b0 1)) (hrec : ∀ (t : Nat) (av : List Value) (x : jm_X), jm_Con (jm_PP l D clC ad aC shC b0 1) (rcC t) d0 av x (g t av x)) (a1 : Int32) (x : jm_X) : jm_Con (jm_PP l D clC ad aC shC b0 1) mt_G_call (d0 + 10) [.ref 2, .int a1] x (f_G_call K g a1 x) := by
  refine jm_Con.of (plainFor_of_name (by decide +kernel)) (Nat.le_of_ble_eq_true rfl) ?_
  have hT := tk_G (l := l) (D := D) (ad := ad) (aC := aC) (b0 := b0)
  unfold f_G_call
  show jm_V _ _ _ 0 [(0, .ref 2), (1, .int a1)] [] x _
  refine jm_V.run (is := bk_G_call_0_2) (pc' := 4) (ls' := [(0, .ref 2), (1, .int a1)]) (st' := [.ref 4]) (x' := x) hok hT bk_G_call_0_2_ok rfl ?_
  refine jm_V.callI (av := [.ref 4]) (rest := []) hok (jm_Con.mono (c_S_start hok hrec x) (by omega)) (jm_Inv.obj (q := ("FilterReader$Signs", T_S, 5)) dd_G_call_4 (Or.inl lk_G_75) mn_S_start ms_S_start mw_S_start mh_S_start ml_S_start rfl rfl) mw_S_start mi_S (Nat.le_of_ble_eq_true rfl) (Nat.le_of_ble_eq_true rfl) (fun b2 x1 => ?_)
  refine jm_V.run (is := bk_G_call_7_3) (pc' := 12) (ls' := [(2, .int b2), (0, .ref 2), (1, .int a1)]) (st' := [.ref 4]) (x' := x1) hok hT bk_G_call_7_3_ok rfl ?_
  refine jm_V.callI (av := [.ref 4]) (rest := []) hok (jm_Con.mono (c_S_behind hok hrec x1) (by omega)) (jm_Inv.obj (q := ("FilterReader$Signs", T_S, 5)) dd_G_call_12 (Or.inl lk_G_91) mn_S_behind ms_S_behind mw_S_behind mh_S_behind ml_S_behind rfl rfl) mw_S_behind mi_S (Nat.le_of_ble_eq_true rfl) (Nat.le_of_ble_eq_true rfl) (fun b4 x3 => ?_)
  refine jm_V.run (is := bk_G_call_15_5) (pc' := 23) (ls' := [(4, .int 0), (3, .int b4), (2, .int b2), (0, .ref 2), (1, .int a1)]) (st' := [.ref 4]) (x' := x3) hok hT bk_G_call_15_5_ok rfl ?_
  refine jm_V.callV (av := [.ref 4]) (rest := []) hok (jm_Con.mono (c_S_next hok hrec x3) (by omega)) (jm_Inv.obj (q := ("FilterReader$Signs", T_S, 5)) dd_G_call_23 (Or.inl lk_G_82) mn_S_next ms_S_next mw_S_next mh_S_next ml_S_next rfl rfl) mw_S_next mi_S (Nat.le_of_ble_eq_true rfl) (Nat.le_of_ble_eq_true rfl) (fun x5 => ?_)
  refine jm_V.run (is := bk_G_call_26_2) (pc' := 30) (ls' := [(4, .int 0), (3, .int b4), (2, .int b2), (0, .ref 2), (1, .int a1)]) (st' := [.ref 1012, .ref 2]) (x' := x5) hok hT bk_G_call_26_2_ok rfl ?_
  refine jm_V.callI (av := [.ref 2, .ref 1012]) (rest := []) hok (jm_Con.mono (c_G_takes hok hrec 1012 x5) (by omega)) (jm_Inv.obj (q := ("FilterReader$Grammar", T_G, 5)) dd_G_call_30 (Or.inl lk_G_154) mn_G_takes ms_G_takes mw_G_takes mh_G_takes ml_G_takes rfl rfl) mw_G_takes mi_G (Nat.le_of_ble_eq_true rfl) (Nat.le_of_ble_eq_true rfl) (fun b7 x6 => ?_)
  refine jm_V.run (is := bk_G_call_33_1) (pc' := (if b7 = 0 then 69 else 36)) (ls' := [(4, .int 0), (3, .int b4), (2, .int b2), (0, .ref 2), (1, .int a1)]) (st' := []) (x' := x6) hok hT bk_G_call_33_1_ok rfl ?_
  refine jm_V.ite (fun _ => ?_) (fun _ => ?_)
  · refine jm_V.sub (ls' := [(0, .ref 2), (2, .int b2), (3, .int b4), (4, .int 0)]) [3, 2, 1, 0] rfl ?_
    exact jj_G_call_69 hok hrec b2 b4 0 x6
  · refine jm_V.sub (ls' := [(0, .ref 2), (1, .int a1), (2, .int b2), (3, .int b4), (4, .int 0)]) [3, 4, 2, 1, 0] rfl ?_
    exact jl_G_call_36 hok hrec K a1 b2 b4 0 x6
abbrev bk_G_field_0_2 : List (Nat × Instr × Nat) := [(0, .aload_n 0, 1), (1, .iconst 2, 1)]
theorem bk_G_field_0_2_ok : jm_at mt_G_field.2.1 bk_G_field_0_2 = true := by decide +kernel
abbrev bk_G_field_5_2 : List (Nat × Instr × Nat) := [(5, .aload_n 0, 1), (6, .bipush 7, 2)]
theorem bk_G_field_5_2_ok : jm_at mt_G_field.2.1 bk_G_field_5_2 = true := by decide +kernel
theorem dd_G_field_2 : decode mt_G_field.2.1 2 = .ok (.invokevirtual 85, 3) := by decide +kernel
theorem dd_G_field_8 : decode mt_G_field.2.1 8 = .ok (.invokevirtual 124, 3) := by decide +kernel
theorem dd_G_field_11 : decode mt_G_field.2.1 11 = .ok (.return_, 1) := by decide +kernel
def f_G_field (K : Nat) (g : jm_Rec)  (x : jm_X) : Option jm_R := jm_bV (f_G_count K g 2 x) (fun x1 => jm_bV (f_G_takeAs K g 7 x1) (fun x2 => some (.inl (none, x2))))
set_option maxRecDepth 100000 in
set_option maxHeartbeats 4000000 in
theorem c_G_field {l : Launch} {D : va_G} {ad : Nat → Nat} {aC : Nat → ClassId} {b0 : Nat} {K d0 : Nat} {g : jm_Rec} (hok : jm_Ok (jm_PP l D clC ad aC shC b0 1)) (hrec : ∀ (t : Nat) (av : List Value) (x : jm_X), jm_Con (jm_PP l D clC ad aC shC b0 1) (rcC t) d0 av x (g t av x))  (x : jm_X) : jm_Con (jm_PP l D clC ad aC shC b0 1) mt_G_field (d0 + 9) [.ref 2] x (f_G_field K g  x) := by
  refine jm_Con.of (plainFor_of_name (by decide +kernel)) (Nat.le_of_ble_eq_true rfl) ?_
  have hT := tk_G (l := l) (D := D) (ad := ad) (aC := aC) (b0 := b0)
  unfold f_G_field
  show jm_V _ _ _ 0 [(0, .ref 2)] [] x _
  refine jm_V.run (is := bk_G_field_0_2) (pc' := 2) (ls' := [(0, .ref 2)]) (st' := [.int 2, .ref 2]) (x' := x) hok hT bk_G_field_0_2_ok rfl ?_
  refine jm_V.callV (av := [.ref 2, .int 2]) (rest := []) hok (jm_Con.mono (c_G_count hok hrec 2 x) (by omega)) (jm_Inv.obj (q := ("FilterReader$Grammar", T_G, 5)) dd_G_field_2 (Or.inl lk_G_85) mn_G_count ms_G_count mw_G_count mh_G_count ml_G_count rfl rfl) mw_G_count mi_G (Nat.le_of_ble_eq_true rfl) (Nat.le_of_ble_eq_true rfl) (fun x1 => ?_)
  refine jm_V.run (is := bk_G_field_5_2) (pc' := 8) (ls' := [(0, .ref 2)]) (st' := [.int 7, .ref 2]) (x' := x1) hok hT bk_G_field_5_2_ok rfl ?_
  refine jm_V.callV (av := [.ref 2, .int 7]) (rest := []) hok (jm_Con.mono (c_G_takeAs hok hrec 7 x1) (by omega)) (jm_Inv.obj (q := ("FilterReader$Grammar", T_G, 5)) dd_G_field_8 (Or.inl lk_G_124) mn_G_takeAs ms_G_takeAs mw_G_takeAs mh_G_takeAs ml_G_takeAs rfl rfl) mw_G_takeAs mi_G (Nat.le_of_ble_eq_true rfl) (Nat.le_of_ble_eq_true rfl) (fun x2 => ?_)
  exact jm_V.vret rfl dd_G_field_11
abbrev bk_G_needKnown_0_5 : List (Nat × Instr × Nat) := [(0, .aload_n 0, 1), (1, .getfield 27, 3), (4, .iload_n 1, 1), (5, .aload_n 0, 1), (6, .getfield 20, 3)]
theorem bk_G_needKnown_0_5_ok : jm_at mt_G_needKnown.2.1 bk_G_needKnown_0_5 = true := by decide +kernel
abbrev bk_G_needKnown_12_2 : List (Nat × Instr × Nat) := [(12, .aload_n 0, 1), (13, .getfield 20, 3)]
theorem bk_G_needKnown_12_2_ok : jm_at mt_G_needKnown.2.1 bk_G_needKnown_12_2 = true := by decide +kernel
abbrev bk_G_needKnown_22_1 : List (Nat × Instr × Nat) := [(22, .ifCond .ne 14, 3)]
theorem bk_G_needKnown_22_1_ok : jm_at mt_G_needKnown.2.1 bk_G_needKnown_22_1 = true := by decide +kernel
abbrev bk_G_needKnown_25_3 : List (Nat × Instr × Nat) := [(25, .aload_n 0, 1), (26, .aload_n 0, 1), (27, .getfield 20, 3)]
theorem bk_G_needKnown_25_3_ok : jm_at mt_G_needKnown.2.1 bk_G_needKnown_25_3 = true := by decide +kernel
theorem dd_G_needKnown_9 : decode mt_G_needKnown.2.1 9 = .ok (.invokevirtual 88, 3) := by decide +kernel
theorem dd_G_needKnown_16 : decode mt_G_needKnown.2.1 16 = .ok (.invokevirtual 91, 3) := by decide +kernel
theorem dd_G_needKnown_19 : decode mt_G_needKnown.2.1 19 = .ok (.invokevirtual 98, 3) := by decide +kernel
theorem dd_G_needKnown_30 : decode mt_G_needKnown.2.1 30 = .ok (.invokevirtual 75, 3) := by decide +kernel
theorem dd_G_needKnown_33 : decode mt_G_needKnown.2.1 33 = .ok (.invokevirtual 79, 3) := by decide +kernel
theorem dd_G_needKnown_36 : decode mt_G_needKnown.2.1 36 = .ok (.return_, 1) := by decide +kernel
def J_G_needKnown_36 (K : Nat) (g : jm_Rec)  (x : jm_X) : Option jm_R := some (.inl (none, x))
set_option maxRecDepth 100000 in
set_option maxHeartbeats 4000000 in
theorem jj_G_needKnown_36 {l : Launch} {D : va_G} {ad : Nat → Nat} {aC : Nat → ClassId} {b0 : Nat} {K d0 : Nat} {g : jm_Rec} (hok : jm_Ok (jm_PP l D clC ad aC shC b0 1)) (hrec : ∀ (t : Nat) (av : List Value) (x : jm_X), jm_Con (jm_PP l D clC ad aC shC b0 1) (rcC t) d0 av x (g t av x))  (x : jm_X) : jm_V (jm_PP l D clC ad aC shC b0 1) mt_G_needKnown (d0 + 8) 36 [] [] x (J_G_needKnown_36 K g  x) := by
  have hT := tk_G (l := l) (D := D) (ad := ad) (aC := aC) (b0 := b0)
  unfold J_G_needKnown_36
  exact jm_V.vret rfl dd_G_needKnown_36
def f_G_needKnown (K : Nat) (g : jm_Rec) (a1 : Int32) (x : jm_X) : Option jm_R := jm_bI (f_S_nameStart K g x) (fun b2 x1 => jm_bI (f_S_behind K g x1) (fun b4 x3 => jm_bI (f_N_has K g a1 b2 b4 x3) (fun b6 x5 => (if b6 = 0 then jm_bI (f_S_start K g x5) (fun b8 x7 => jm_bV (f_G_broken K g b8 x7) (fun x9 => J_G_needKnown_36 K g x9)) else J_G_needKnown_36 K g x5))))
set_option maxRecDepth 100000 in
set_option maxHeartbeats 4000000 in
theorem c_G_needKnown {l : Launch} {D : va_G} {ad : Nat → Nat} {aC : Nat → ClassId} {b0 : Nat} {K d0 : Nat} {g : jm_Rec} (hok : jm_Ok (jm_PP l D clC ad aC shC b0 1)) (hrec : ∀ (t : Nat) (av : List Value) (x : jm_X), jm_Con (jm_PP l D clC ad aC shC b0 1) (rcC t) d0 av x (g t av x)) (a1 : Int32) (x : jm_X) : jm_Con (jm_PP l D clC ad aC shC b0 1) mt_G_needKnown (d0 + 8) [.ref 2, .int a1] x (f_G_needKnown K g a1 x) := by
  refine jm_Con.of (plainFor_of_name (by decide +kernel)) (Nat.le_of_ble_eq_true rfl) ?_
  have hT := tk_G (l := l) (D := D) (ad := ad) (aC := aC) (b0 := b0)
  unfold f_G_needKnown
  show jm_V _ _ _ 0 [(0, .ref 2), (1, .int a1)] [] x _
  refine jm_V.run (is := bk_G_needKnown_0_5) (pc' := 9) (ls' := [(0, .ref 2), (1, .int a1)]) (st' := [.ref 4, .int a1, .ref 6]) (x' := x) hok hT bk_G_needKnown_0_5_ok rfl ?_
  refine jm_V.callI (av := [.ref 4]) (rest := [.int a1, .ref 6]) hok (jm_Con.mono (c_S_nameStart hok hrec x) (by omega)) (jm_Inv.obj (q := ("FilterReader$Signs", T_S, 5)) dd_G_needKnown_9 (Or.inl lk_G_88) mn_S_nameStart ms_S_nameStart mw_S_nameStart mh_S_nameStart ml_S_nameStart rfl rfl) mw_S_nameStart mi_S (Nat.le_of_ble_eq_true rfl) (Nat.le_of_ble_eq_true rfl) (fun b2 x1 => ?_)
  refine jm_V.run (is := bk_G_needKnown_12_2) (pc' := 16) (ls' := [(0, .ref 2), (1, .int a1)]) (st' := [.ref 4, .int b2, .int a1, .ref 6]) (x' := x1) hok hT bk_G_needKnown_12_2_ok rfl ?_
  refine jm_V.callI (av := [.ref 4]) (rest := [.int b2, .int a1, .ref 6]) hok (jm_Con.mono (c_S_behind hok hrec x1) (by omega)) (jm_Inv.obj (q := ("FilterReader$Signs", T_S, 5)) dd_G_needKnown_16 (Or.inl lk_G_91) mn_S_behind ms_S_behind mw_S_behind mh_S_behind ml_S_behind rfl rfl) mw_S_behind mi_S (Nat.le_of_ble_eq_true rfl) (Nat.le_of_ble_eq_true rfl) (fun b4 x3 => ?_)
  refine jm_V.callI (av := [.ref 6, .int a1, .int b2, .int b4]) (rest := []) hok (jm_Con.mono (c_N_has hok hrec a1 b2 b4 x3) (by omega)) (jm_Inv.obj (q := ("FilterReader$Names", T_N, 6)) dd_G_needKnown_19 (Or.inl lk_G_98) mn_N_has ms_N_has mw_N_has mh_N_has ml_N_has rfl rfl) mw_N_has mi_N (Nat.le_of_ble_eq_true rfl) (Nat.le_of_ble_eq_true rfl) (fun b6 x5 => ?_)
  refine jm_V.run (is := bk_G_needKnown_22_1) (pc' := (if b6 = 0 then 25 else 36)) (ls' := [(0, .ref 2), (1, .int a1)]) (st' := []) (x' := x5) hok hT bk_G_needKnown_22_1_ok rfl ?_
  refine jm_V.ite (fun _ => ?_) (fun _ => ?_)
  · refine jm_V.run (is := bk_G_needKnown_25_3) (pc' := 30) (ls' := [(0, .ref 2), (1, .int a1)]) (st' := [.ref 4, .ref 2]) (x' := x5) hok hT bk_G_needKnown_25_3_ok rfl ?_
    refine jm_V.callI (av := [.ref 4]) (rest := [.ref 2]) hok (jm_Con.mono (c_S_start hok hrec x5) (by omega)) (jm_Inv.obj (q := ("FilterReader$Signs", T_S, 5)) dd_G_needKnown_30 (Or.inl lk_G_75) mn_S_start ms_S_start mw_S_start mh_S_start ml_S_start rfl rfl) mw_S_start mi_S (Nat.le_of_ble_eq_true rfl) (Nat.le_of_ble_eq_true rfl) (fun b8 x7 => ?_)
    refine jm_V.callV (av := [.ref 2, .int b8]) (rest := []) hok (jm_Con.mono (c_G_broken hok hrec b8 x7) (by omega)) (jm_Inv.obj (q := ("FilterReader$Grammar", T_G, 5)) dd_G_needKnown_33 (Or.inl lk_G_79) mn_G_broken ms_G_broken mw_G_broken mh_G_broken ml_G_broken rfl rfl) mw_G_broken mi_G (Nat.le_of_ble_eq_true rfl) (Nat.le_of_ble_eq_true rfl) (fun x9 => ?_)
    refine jm_V.sub (ls' := []) [] rfl ?_
    exact jj_G_needKnown_36 hok hrec x9
  · refine jm_V.sub (ls' := []) [] rfl ?_
    exact jj_G_needKnown_36 hok hrec x5
abbrev bk_G_leave_0_2 : List (Nat × Instr × Nat) := [(0, .aload_n 0, 1), (1, .bipush 15, 2)]
theorem bk_G_leave_0_2_ok : jm_at mt_G_leave.2.1 bk_G_leave_0_2 = true := by decide +kernel
abbrev bk_G_leave_6_2 : List (Nat × Instr × Nat) := [(6, .aload_n 0, 1), (7, .getstatic 176, 3)]
theorem bk_G_leave_6_2_ok : jm_at mt_G_leave.2.1 bk_G_leave_6_2 = true := by decide +kernel
abbrev bk_G_leave_13_2 : List (Nat × Instr × Nat) := [(13, .aload_n 0, 1), (14, .bipush (-3), 2)]
theorem bk_G_leave_13_2_ok : jm_at mt_G_leave.2.1 bk_G_leave_13_2 = true := by decide +kernel
abbrev bk_G_leave_19_2 : List (Nat × Instr × Nat) := [(19, .aload_n 0, 1), (20, .getfield 20, 3)]
theorem bk_G_leave_19_2_ok : jm_at mt_G_leave.2.1 bk_G_leave_19_2 = true := by decide +kernel
theorem dd_G_leave_3 : decode mt_G_leave.2.1 3 = .ok (.invokevirtual 124, 3) := by decide +kernel
theorem dd_G_leave_10 : decode mt_G_leave.2.1 10 = .ok (.invokevirtual 55, 3) := by decide +kernel
theorem dd_G_leave_16 : decode mt_G_leave.2.1 16 = .ok (.invokevirtual 255, 3) := by decide +kernel
theorem dd_G_leave_23 : decode mt_G_leave.2.1 23 = .ok (.invokevirtual 82, 3) := by decide +kernel
theorem dd_G_leave_26 : decode mt_G_leave.2.1 26 = .ok (.return_, 1) := by decide +kernel
def f_G_leave (K : Nat) (g : jm_Rec)  (x : jm_X) : Option jm_R := jm_bV (f_G_takeAs K g 15 x) (fun x1 => jm_bV (f_G_need K g 1004 x1) (fun x2 => jm_bV (f_G_needKnown K g (-3) x2) (fun x3 => jm_bV (f_S_next K g x3) (fun x4 => some (.inl (none, x4))))))
set_option maxRecDepth 100000 in
set_option maxHeartbeats 4000000 in
theorem c_G_leave {l : Launch} {D : va_G} {ad : Nat → Nat} {aC : Nat → ClassId} {b0 : Nat} {K d0 : Nat} {g : jm_Rec} (hok : jm_Ok (jm_PP l D clC ad aC shC b0 1)) (hrec : ∀ (t : Nat) (av : List Value) (x : jm_X), jm_Con (jm_PP l D clC ad aC shC b0 1) (rcC t) d0 av x (g t av x))  (x : jm_X) : jm_Con (jm_PP l D clC ad aC shC b0 1) mt_G_leave (d0 + 9) [.ref 2] x (f_G_leave K g  x) := by
  refine jm_Con.of (plainFor_of_name (by decide +kernel)) (Nat.le_of_ble_eq_true rfl) ?_
  have hT := tk_G (l := l) (D := D) (ad := ad) (aC := aC) (b0 := b0)
  unfold f_G_leave
  show jm_V _ _ _ 0 [(0, .ref 2)] [] x _
  refine jm_V.run (is := bk_G_leave_0_2) (pc' := 3) (ls' := [(0, .ref 2)]) (st' := [.int 15, .ref 2]) (x' := x) hok hT bk_G_leave_0_2_ok rfl ?_
  refine jm_V.callV (av := [.ref 2, .int 15]) (rest := []) hok (jm_Con.mono (c_G_takeAs hok hrec 15 x) (by omega)) (jm_Inv.obj (q := ("FilterReader$Grammar", T_G, 5)) dd_G_leave_3 (Or.inl lk_G_124) mn_G_takeAs ms_G_takeAs mw_G_takeAs mh_G_takeAs ml_G_takeAs rfl rfl) mw_G_takeAs mi_G (Nat.le_of_ble_eq_true rfl) (Nat.le_of_ble_eq_true rfl) (fun x1 => ?_)
  refine jm_V.run (is := bk_G_leave_6_2) (pc' := 10) (ls' := [(0, .ref 2)]) (st' := [.ref 1004, .ref 2]) (x' := x1) hok hT bk_G_leave_6_2_ok rfl ?_
  refine jm_V.callV (av := [.ref 2, .ref 1004]) (rest := []) hok (jm_Con.mono (c_G_need hok hrec 1004 x1) (by omega)) (jm_Inv.obj (q := ("FilterReader$Grammar", T_G, 5)) dd_G_leave_10 (Or.inl lk_G_55) mn_G_need ms_G_need mw_G_need mh_G_need ml_G_need rfl rfl) mw_G_need mi_G (Nat.le_of_ble_eq_true rfl) (Nat.le_of_ble_eq_true rfl) (fun x2 => ?_)
  refine jm_V.run (is := bk_G_leave_13_2) (pc' := 16) (ls' := [(0, .ref 2)]) (st' := [.int (-3), .ref 2]) (x' := x2) hok hT bk_G_leave_13_2_ok rfl ?_
  refine jm_V.callV (av := [.ref 2, .int (-3)]) (rest := []) hok (jm_Con.mono (c_G_needKnown hok hrec (-3) x2) (by omega)) (jm_Inv.obj (q := ("FilterReader$Grammar", T_G, 5)) dd_G_leave_16 (Or.inl lk_G_255) mn_G_needKnown ms_G_needKnown mw_G_needKnown mh_G_needKnown ml_G_needKnown rfl rfl) mw_G_needKnown mi_G (Nat.le_of_ble_eq_true rfl) (Nat.le_of_ble_eq_true rfl) (fun x3 => ?_)
  refine jm_V.run (is := bk_G_leave_19_2) (pc' := 23) (ls' := [(0, .ref 2)]) (st' := [.ref 4]) (x' := x3) hok hT bk_G_leave_19_2_ok rfl ?_
  refine jm_V.callV (av := [.ref 4]) (rest := []) hok (jm_Con.mono (c_S_next hok hrec x3) (by omega)) (jm_Inv.obj (q := ("FilterReader$Signs", T_S, 5)) dd_G_leave_23 (Or.inl lk_G_82) mn_S_next ms_S_next mw_S_next mh_S_next ml_S_next rfl rfl) mw_S_next mi_S (Nat.le_of_ble_eq_true rfl) (Nat.le_of_ble_eq_true rfl) (fun x4 => ?_)
  exact jm_V.vret rfl dd_G_leave_26

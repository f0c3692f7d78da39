/-! THE CLASS: methods. Printed by wip/whole/printC.py. -/
abbrev bk_G_string_0_2 : List (Nat × Instr × Nat) := [(0, .aload_n 0, 1), (1, .getfield 20, 3)]
theorem bk_G_string_0_2_ok : jm_at mt_G_string.2.1 bk_G_string_0_2 = true := by decide +kernel
abbrev bk_G_string_7_7 : List (Nat × Instr × Nat) := [(7, .istore_n 2, 1), (8, .iload_n 2, 1), (9, .iconst 1, 1), (10, .iadd, 1), (11, .istore_n 3, 1), (12, .iconst 0, 1), (13, .istore 4, 2)]
theorem bk_G_string_7_7_ok : jm_at mt_G_string.2.1 bk_G_string_7_7 = true := by decide +kernel
abbrev bk_G_string_15_3 : List (Nat × Instr × Nat) := [(15, .iload 4, 2), (17, .sipush 16385, 3), (20, .if_icmp .ge 101, 3)]
theorem bk_G_string_15_3_ok : jm_at mt_G_string.2.1 bk_G_string_15_3 = true := by decide +kernel
abbrev bk_G_string_23_3 : List (Nat × Instr × Nat) := [(23, .aload_n 0, 1), (24, .getfield 20, 3), (27, .iload_n 3, 1)]
theorem bk_G_string_23_3_ok : jm_at mt_G_string.2.1 bk_G_string_23_3 = true := by decide +kernel
abbrev bk_G_string_31_3 : List (Nat × Instr × Nat) := [(31, .istore 5, 2), (33, .iload 5, 2), (35, .ifCond .ge 8, 3)]
theorem bk_G_string_31_3_ok : jm_at mt_G_string.2.1 bk_G_string_31_3 = true := by decide +kernel
abbrev bk_G_string_38_2 : List (Nat × Instr × Nat) := [(38, .aload_n 0, 1), (39, .iload_n 2, 1)]
theorem bk_G_string_38_2_ok : jm_at mt_G_string.2.1 bk_G_string_38_2 = true := by decide +kernel
abbrev bk_G_string_43_2 : List (Nat × Instr × Nat) := [(43, .aload_n 0, 1), (44, .bipush 7, 2)]
theorem bk_G_string_43_2_ok : jm_at mt_G_string.2.1 bk_G_string_43_2 = true := by decide +kernel
abbrev bk_G_string_49_3 : List (Nat × Instr × Nat) := [(49, .aload_n 0, 1), (50, .getfield 20, 3), (53, .iload 5, 2)]
theorem bk_G_string_49_3_ok : jm_at mt_G_string.2.1 bk_G_string_49_3 = true := by decide +kernel
abbrev bk_G_string_58_1 : List (Nat × Instr × Nat) := [(58, .ifCond .ne 15, 3)]
theorem bk_G_string_58_1_ok : jm_at mt_G_string.2.1 bk_G_string_58_1 = true := by decide +kernel
abbrev bk_G_string_61_5 : List (Nat × Instr × Nat) := [(61, .aload_n 0, 1), (62, .getfield 20, 3), (65, .iload 5, 2), (67, .iconst 1, 1), (68, .iadd, 1)]
theorem bk_G_string_61_5_ok : jm_at mt_G_string.2.1 bk_G_string_61_5 = true := by decide +kernel
abbrev bk_G_string_73_2 : List (Nat × Instr × Nat) := [(73, .iload 4, 2), (75, .ifCond .ne 9, 3)]
theorem bk_G_string_73_2_ok : jm_at mt_G_string.2.1 bk_G_string_73_2 = true := by decide +kernel
abbrev bk_G_string_78_2 : List (Nat × Instr × Nat) := [(78, .aload_n 0, 1), (79, .bipush 8, 2)]
theorem bk_G_string_78_2_ok : jm_at mt_G_string.2.1 bk_G_string_78_2 = true := by decide +kernel
abbrev bk_G_string_84_5 : List (Nat × Instr × Nat) := [(84, .aload_n 0, 1), (85, .getfield 20, 3), (88, .iload 5, 2), (90, .iconst 2, 1), (91, .iadd, 1)]
theorem bk_G_string_84_5_ok : jm_at mt_G_string.2.1 bk_G_string_84_5 = true := by decide +kernel
abbrev bk_G_string_95_2 : List (Nat × Instr × Nat) := [(95, .aload_n 0, 1), (96, .iload_n 1, 1)]
theorem bk_G_string_95_2_ok : jm_at mt_G_string.2.1 bk_G_string_95_2 = true := by decide +kernel
abbrev bk_G_string_100_2 : List (Nat × Instr × Nat) := [(100, .aload_n 0, 1), (101, .getstatic 167, 3)]
theorem bk_G_string_100_2_ok : jm_at mt_G_string.2.1 bk_G_string_100_2 = true := by decide +kernel
abbrev bk_G_string_107_2 : List (Nat × Instr × Nat) := [(107, .aload_n 0, 1), (108, .getfield 20, 3)]
theorem bk_G_string_107_2_ok : jm_at mt_G_string.2.1 bk_G_string_107_2 = true := by decide +kernel
abbrev bk_G_string_114_3 : List (Nat × Instr × Nat) := [(114, .istore_n 3, 1), (115, .iinc 4 1, 3), (118, .goto (-103), 3)]
theorem bk_G_string_114_3_ok : jm_at mt_G_string.2.1 bk_G_string_114_3 = true := by decide +kernel
theorem dd_G_string_4 : decode mt_G_string.2.1 4 = .ok (.invokevirtual 75, 3) := by decide +kernel
theorem dd_G_string_121 : decode mt_G_string.2.1 121 = .ok (.return_, 1) := by decide +kernel
theorem dd_G_string_28 : decode mt_G_string.2.1 28 = .ok (.invokevirtual 276, 3) := by decide +kernel
theorem dd_G_string_40 : decode mt_G_string.2.1 40 = .ok (.invokevirtual 79, 3) := by decide +kernel
theorem dd_G_string_46 : decode mt_G_string.2.1 46 = .ok (.invokevirtual 85, 3) := by decide +kernel
theorem dd_G_string_55 : decode mt_G_string.2.1 55 = .ok (.invokevirtual 279, 3) := by decide +kernel
theorem dd_G_string_69 : decode mt_G_string.2.1 69 = .ok (.invokevirtual 283, 3) := by decide +kernel
theorem dd_G_string_72 : decode mt_G_string.2.1 72 = .ok (.return_, 1) := by decide +kernel
theorem dd_G_string_81 : decode mt_G_string.2.1 81 = .ok (.invokevirtual 85, 3) := by decide +kernel
theorem dd_G_string_92 : decode mt_G_string.2.1 92 = .ok (.invokevirtual 283, 3) := by decide +kernel
theorem dd_G_string_97 : decode mt_G_string.2.1 97 = .ok (.invokevirtual 45, 3) := by decide +kernel
theorem dd_G_string_104 : decode mt_G_string.2.1 104 = .ok (.invokevirtual 55, 3) := by decide +kernel
theorem dd_G_string_111 : decode mt_G_string.2.1 111 = .ok (.invokevirtual 91, 3) := by decide +kernel
def J_G_string_84 (K : Nat) (g : jm_Rec) (k15 : Int32 → Int32 → Int32 → Int32 → jm_X → Option jm_R) (v1 : Int32) (v2 : Int32) (v4 : Int32) (v5 : Int32) (x : jm_X) : Option jm_R := jm_bV (f_S_goTo K g (v5 + 2) x) (fun x11 => jm_bV (g 0 [.ref 2, .int v1] x11) (fun x12 => jm_bV (f_G_need K g 1013 x12) (fun x13 => jm_bI (f_S_behind K g x13) (fun b15 x14 => k15 v1 v2 b15 (v4 + 1) x14))))
set_option maxRecDepth 100000 in
set_option maxHeartbeats 4000000 in
theorem jj_G_string_84 {l : Launch} {D : va_G} {ad : Nat → Nat} {aC : Nat → ClassId} {b0 : Nat} {K d0 : Nat} {g : jm_Rec} (hok : jm_Ok (jm_PP l D clC ad aC shC b0 1)) (hrec : ∀ (t : Nat) (av : List Value) (x : jm_X), jm_Con (jm_PP l D clC ad aC shC b0 1) (rcC t) d0 av x (g t av x)) {k15 : Int32 → Int32 → Int32 → Int32 → jm_X → Option jm_R} (hk15 : ∀ (v1 : Int32) (v2 : Int32) (v3 : Int32) (v4 : Int32) (x : jm_X), jm_V (jm_PP l D clC ad aC shC b0 1) mt_G_string (d0 + 9) 15 [(0, .ref 2), (1, .int v1), (2, .int v2), (3, .int v3), (4, .int v4)] [] x (k15 v1 v2 v3 v4 x)) (v1 : Int32) (v2 : Int32) (v4 : Int32) (v5 : Int32) (x : jm_X) : jm_V (jm_PP l D clC ad aC shC b0 1) mt_G_string (d0 + 9) 84 [(0, .ref 2), (1, .int v1), (2, .int v2), (4, .int v4), (5, .int v5)] [] x (J_G_string_84 K g k15 v1 v2 v4 v5 x) := by
  have hT := tk_G (l := l) (D := D) (ad := ad) (aC := aC) (b0 := b0)
  unfold J_G_string_84
  refine jm_V.run (is := bk_G_string_84_5) (pc' := 92) (ls' := [(0, .ref 2), (1, .int v1), (2, .int v2), (4, .int v4), (5, .int v5)]) (st' := [.int (v5 + 2), .ref 4]) (x' := x) hok hT bk_G_string_84_5_ok rfl ?_
  refine jm_V.callV (av := [.ref 4, .int (v5 + 2)]) (rest := []) hok (jm_Con.mono (c_S_goTo hok hrec (v5 + 2) x) (by omega)) (jm_Inv.obj (q := ("FilterReader$Signs", T_S, 5)) dd_G_string_92 (Or.inl lk_G_283) mn_S_goTo ms_S_goTo mw_S_goTo mh_S_goTo ml_S_goTo rfl rfl) mw_S_goTo mi_S (Nat.le_of_ble_eq_true rfl) (Nat.le_of_ble_eq_true rfl) (fun x11 => ?_)
  refine jm_V.run (is := bk_G_string_95_2) (pc' := 97) (ls' := [(0, .ref 2), (1, .int v1), (2, .int v2), (4, .int v4), (5, .int v5)]) (st' := [.int v1, .ref 2]) (x' := x11) hok hT bk_G_string_95_2_ok rfl ?_
  refine jm_V.callV (av := [.ref 2, .int v1]) (rest := []) hok (jm_Con.mono (hrec 0 [.ref 2, .int v1] x11) (by omega)) (jm_Inv.obj (q := ("FilterReader$Grammar", T_G, 5)) dd_G_string_97 (Or.inl lk_G_45) mn_G_program ms_G_program mw_G_program mh_G_program ml_G_program rfl rfl) mw_G_program mi_G (Nat.le_of_ble_eq_true rfl) (Nat.le_of_ble_eq_true rfl) (fun x12 => ?_)
  refine jm_V.run (is := bk_G_string_100_2) (pc' := 104) (ls' := [(0, .ref 2), (1, .int v1), (2, .int v2), (4, .int v4), (5, .int v5)]) (st' := [.ref 1013, .ref 2]) (x' := x12) hok hT bk_G_string_100_2_ok rfl ?_
  refine jm_V.callV (av := [.ref 2, .ref 1013]) (rest := []) hok (jm_Con.mono (c_G_need hok hrec 1013 x12) (by omega)) (jm_Inv.obj (q := ("FilterReader$Grammar", T_G, 5)) dd_G_string_104 (Or.inl lk_G_55) mn_G_need ms_G_need mw_G_need mh_G_need ml_G_need rfl rfl) mw_G_need mi_G (Nat.le_of_ble_eq_true rfl) (Nat.le_of_ble_eq_true rfl) (fun x13 => ?_)
  refine jm_V.run (is := bk_G_string_107_2) (pc' := 111) (ls' := [(0, .ref 2), (1, .int v1), (2, .int v2), (4, .int v4), (5, .int v5)]) (st' := [.ref 4]) (x' := x13) hok hT bk_G_string_107_2_ok rfl ?_
  refine jm_V.callI (av := [.ref 4]) (rest := []) hok (jm_Con.mono (c_S_behind hok hrec x13) (by omega)) (jm_Inv.obj (q := ("FilterReader$Signs", T_S, 5)) dd_G_string_111 (Or.inl lk_G_91) mn_S_behind ms_S_behind mw_S_behind mh_S_behind ml_S_behind rfl rfl) mw_S_behind mi_S (Nat.le_of_ble_eq_true rfl) (Nat.le_of_ble_eq_true rfl) (fun b15 x14 => ?_)
  refine jm_V.run (is := bk_G_string_114_3) (pc' := 15) (ls' := [(4, .int (v4 + 1)), (3, .int b15), (0, .ref 2), (1, .int v1), (2, .int v2), (5, .int v5)]) (st' := []) (x' := x14) hok hT bk_G_string_114_3_ok rfl ?_
  refine jm_V.sub (ls' := [(0, .ref 2), (1, .int v1), (2, .int v2), (3, .int b15), (4, .int (v4 + 1))]) [2, 3, 4, 1, 0] rfl ?_
  exact hk15 v1 v2 b15 (v4 + 1) x14
def J_G_string_43 (K : Nat) (g : jm_Rec) (k15 : Int32 → Int32 → Int32 → Int32 → jm_X → Option jm_R) (v1 : Int32) (v2 : Int32) (v4 : Int32) (v5 : Int32) (x : jm_X) : Option jm_R := jm_bV (f_G_count K g 7 x) (fun x6 => jm_bI (f_S_opensProgram K g v5 x6) (fun b8 x7 => (if b8 = 0 then jm_bV (f_S_goTo K g (v5 + 1) x7) (fun x9 => some (.inl (none, x9))) else (if v4 = 0 then jm_bV (f_G_count K g 8 x7) (fun x10 => J_G_string_84 K g k15 v1 v2 v4 v5 x10) else J_G_string_84 K g k15 v1 v2 v4 v5 x7))))
set_option maxRecDepth 100000 in
set_option maxHeartbeats 4000000 in
theorem jj_G_string_43 {l : Launch} {D : va_G} {ad : Nat → Nat} {aC : Nat → ClassId} {b0 : Nat} {K d0 : Nat} {g : jm_Rec} (hok : jm_Ok (jm_PP l D clC ad aC shC b0 1)) (hrec : ∀ (t : Nat) (av : List Value) (x : jm_X), jm_Con (jm_PP l D clC ad aC shC b0 1) (rcC t) d0 av x (g t av x)) {k15 : Int32 → Int32 → Int32 → Int32 → jm_X → Option jm_R} (hk15 : ∀ (v1 : Int32) (v2 : Int32) (v3 : Int32) (v4 : Int32) (x : jm_X), jm_V (jm_PP l D clC ad aC shC b0 1) mt_G_string (d0 + 9) 15 [(0, .ref 2), (1, .int v1), (2, .int v2), (3, .int v3), (4, .int v4)] [] x (k15 v1 v2 v3 v4 x)) (v1 : Int32) (v2 : Int32) (v4 : Int32) (v5 : Int32) (x : jm_X) : jm_V (jm_PP l D clC ad aC shC b0 1) mt_G_string (d0 + 9) 43 [(0, .ref 2), (1, .int v1), (2, .int v2), (4, .int v4), (5, .int v5)] [] x (J_G_string_43 K g k15 v1 v2 v4 v5 x) := by
  have hT := tk_G (l := l) (D := D) (ad := ad) (aC := aC) (b0 := b0)
  unfold J_G_string_43
  refine jm_V.run (is := bk_G_string_43_2) (pc' := 46) (ls' := [(0, .ref 2), (1, .int v1), (2, .int v2), (4, .int v4), (5, .int v5)]) (st' := [.int 7, .ref 2]) (x' := x) hok hT bk_G_string_43_2_ok rfl ?_
  refine jm_V.callV (av := [.ref 2, .int 7]) (rest := []) hok (jm_Con.mono (c_G_count hok hrec 7 x) (by omega)) (jm_Inv.obj (q := ("FilterReader$Grammar", T_G, 5)) dd_G_string_46 (Or.inl lk_G_85) mn_G_count ms_G_count mw_G_count mh_G_count ml_G_count rfl rfl) mw_G_count mi_G (Nat.le_of_ble_eq_true rfl) (Nat.le_of_ble_eq_true rfl) (fun x6 => ?_)
  refine jm_V.run (is := bk_G_string_49_3) (pc' := 55) (ls' := [(0, .ref 2), (1, .int v1), (2, .int v2), (4, .int v4), (5, .int v5)]) (st' := [.int v5, .ref 4]) (x' := x6) hok hT bk_G_string_49_3_ok rfl ?_
  refine jm_V.callI (av := [.ref 4, .int v5]) (rest := []) hok (jm_Con.mono (c_S_opensProgram hok hrec v5 x6) (by omega)) (jm_Inv.obj (q := ("FilterReader$Signs", T_S, 5)) dd_G_string_55 (Or.inl lk_G_279) mn_S_opensProgram ms_S_opensProgram mw_S_opensProgram mh_S_opensProgram ml_S_opensProgram rfl rfl) mw_S_opensProgram mi_S (Nat.le_of_ble_eq_true rfl) (Nat.le_of_ble_eq_true rfl) (fun b8 x7 => ?_)
  refine jm_V.run (is := bk_G_string_58_1) (pc' := (if b8 = 0 then 61 else 73)) (ls' := [(0, .ref 2), (1, .int v1), (2, .int v2), (4, .int v4), (5, .int v5)]) (st' := []) (x' := x7) hok hT bk_G_string_58_1_ok rfl ?_
  refine jm_V.ite (fun _ => ?_) (fun _ => ?_)
  · refine jm_V.run (is := bk_G_string_61_5) (pc' := 69) (ls' := [(0, .ref 2), (1, .int v1), (2, .int v2), (4, .int v4), (5, .int v5)]) (st' := [.int (v5 + 1), .ref 4]) (x' := x7) hok hT bk_G_string_61_5_ok rfl ?_
    refine jm_V.callV (av := [.ref 4, .int (v5 + 1)]) (rest := []) hok (jm_Con.mono (c_S_goTo hok hrec (v5 + 1) x7) (by omega)) (jm_Inv.obj (q := ("FilterReader$Signs", T_S, 5)) dd_G_string_69 (Or.inl lk_G_283) mn_S_goTo ms_S_goTo mw_S_goTo mh_S_goTo ml_S_goTo rfl rfl) mw_S_goTo mi_S (Nat.le_of_ble_eq_true rfl) (Nat.le_of_ble_eq_true rfl) (fun x9 => ?_)
    exact jm_V.vret rfl dd_G_string_72
  · refine jm_V.run (is := bk_G_string_73_2) (pc' := (if v4 = 0 then 78 else 84)) (ls' := [(0, .ref 2), (1, .int v1), (2, .int v2), (4, .int v4), (5, .int v5)]) (st' := []) (x' := x7) hok hT bk_G_string_73_2_ok rfl ?_
    refine jm_V.ite (fun _ => ?_) (fun _ => ?_)
    · refine jm_V.run (is := bk_G_string_78_2) (pc' := 81) (ls' := [(0, .ref 2), (1, .int v1), (2, .int v2), (4, .int v4), (5, .int v5)]) (st' := [.int 8, .ref 2]) (x' := x7) hok hT bk_G_string_78_2_ok rfl ?_
      refine jm_V.callV (av := [.ref 2, .int 8]) (rest := []) hok (jm_Con.mono (c_G_count hok hrec 8 x7) (by omega)) (jm_Inv.obj (q := ("FilterReader$Grammar", T_G, 5)) dd_G_string_81 (Or.inl lk_G_85) mn_G_count ms_G_count mw_G_count mh_G_count ml_G_count rfl rfl) mw_G_count mi_G (Nat.le_of_ble_eq_true rfl) (Nat.le_of_ble_eq_true rfl) (fun x10 => ?_)
      exact jj_G_string_84 hok hrec hk15 v1 v2 v4 v5 x10
    · exact jj_G_string_84 hok hrec hk15 v1 v2 v4 v5 x7
def B_G_string_15 (K : Nat) (g : jm_Rec) (self : Int32 → Int32 → Int32 → Int32 → jm_X → Option jm_R) (v1 : Int32) (v2 : Int32) (v3 : Int32) (v4 : Int32) (x : jm_X) : Option jm_R := (if 16385 ≤ v4 then some (.inl (none, x)) else jm_bI (f_S_pieceEnd K g v3 x) (fun b4 x3 => (if 0 ≤ b4 then J_G_string_43 K g self v1 v2 v4 b4 x3 else jm_bV (f_G_broken K g v2 x3) (fun x5 => J_G_string_43 K g self v1 v2 v4 b4 x5))))
def L_G_string_15 (K : Nat) (g : jm_Rec) : Nat → Int32 → Int32 → Int32 → Int32 → jm_X → Option jm_R
  | 0, _, _, _, _, _ => none
  | k + 1, v1, v2, v3, v4, x => B_G_string_15 K g (L_G_string_15 K g k) v1 v2 v3 v4 x
set_option maxRecDepth 100000 in
set_option maxHeartbeats 4000000 in
theorem jb_G_string_15 {l : Launch} {D : va_G} {ad : Nat → Nat} {aC : Nat → ClassId} {b0 : Nat} {K d0 : Nat} {g : jm_Rec} (hok : jm_Ok (jm_PP l D clC ad aC shC b0 1)) (hrec : ∀ (t : Nat) (av : List Value) (x : jm_X), jm_Con (jm_PP l D clC ad aC shC b0 1) (rcC t) d0 av x (g t av x)) {self : Int32 → Int32 → Int32 → Int32 → jm_X → Option jm_R} (hself : ∀ (v1 : Int32) (v2 : Int32) (v3 : Int32) (v4 : Int32) (x : jm_X), jm_V (jm_PP l D clC ad aC shC b0 1) mt_G_string (d0 + 9) 15 [(0, .ref 2), (1, .int v1), (2, .int v2), (3, .int v3), (4, .int v4)] [] x (self v1 v2 v3 v4 x)) (v1 : Int32) (v2 : Int32) (v3 : Int32) (v4 : Int32) (x : jm_X) : jm_V (jm_PP l D clC ad aC shC b0 1) mt_G_string (d0 + 9) 15 [(0, .ref 2), (1, .int v1), (2, .int v2), (3, .int v3), (4, .int v4)] [] x (B_G_string_15 K g self v1 v2 v3 v4 x) := by
  have hT := tk_G (l := l) (D := D) (ad := ad) (aC := aC) (b0 := b0)
  unfold B_G_string_15
  refine jm_V.run (is := bk_G_string_15_3) (pc' := (if 16385 ≤ v4 then 121 else 23)) (ls' := [(0, .ref 2), (1, .int v1), (2, .int v2), (3, .int v3), (4, .int v4)]) (st' := []) (x' := x) hok hT bk_G_string_15_3_ok rfl ?_
  refine jm_V.ite (fun _ => ?_) (fun _ => ?_)
  · exact jm_V.vret rfl dd_G_string_121
  · refine jm_V.run (is := bk_G_string_23_3) (pc' := 28) (ls' := [(0, .ref 2), (1, .int v1), (2, .int v2), (3, .int v3), (4, .int v4)]) (st' := [.int v3, .ref 4]) (x' := x) hok hT bk_G_string_23_3_ok rfl ?_
    refine jm_V.callI (av := [.ref 4, .int v3]) (rest := []) hok (jm_Con.mono (c_S_pieceEnd hok hrec v3 x) (by omega)) (jm_Inv.obj (q := ("FilterReader$Signs", T_S, 5)) dd_G_string_28 (Or.inl lk_G_276) mn_S_pieceEnd ms_S_pieceEnd mw_S_pieceEnd mh_S_pieceEnd ml_S_pieceEnd rfl rfl) mw_S_pieceEnd mi_S (Nat.le_of_ble_eq_true rfl) (Nat.le_of_ble_eq_true rfl) (fun b4 x3 => ?_)
    refine jm_V.run (is := bk_G_string_31_3) (pc' := (if 0 ≤ b4 then 43 else 38)) (ls' := [(5, .int b4), (0, .ref 2), (1, .int v1), (2, .int v2), (3, .int v3), (4, .int v4)]) (st' := []) (x' := x3) hok hT bk_G_string_31_3_ok rfl ?_
    refine jm_V.ite (fun _ => ?_) (fun _ => ?_)
    · refine jm_V.sub (ls' := [(0, .ref 2), (1, .int v1), (2, .int v2), (4, .int v4), (5, .int b4)]) [1, 2, 3, 5, 0] rfl ?_
      exact jj_G_string_43 hok hrec hself v1 v2 v4 b4 x3
    · refine jm_V.run (is := bk_G_string_38_2) (pc' := 40) (ls' := [(5, .int b4), (0, .ref 2), (1, .int v1), (2, .int v2), (3, .int v3), (4, .int v4)]) (st' := [.int v2, .ref 2]) (x' := x3) hok hT bk_G_string_38_2_ok rfl ?_
      refine jm_V.callV (av := [.ref 2, .int v2]) (rest := []) hok (jm_Con.mono (c_G_broken hok hrec v2 x3) (by omega)) (jm_Inv.obj (q := ("FilterReader$Grammar", T_G, 5)) dd_G_string_40 (Or.inl lk_G_79) mn_G_broken ms_G_broken mw_G_broken mh_G_broken ml_G_broken rfl rfl) mw_G_broken mi_G (Nat.le_of_ble_eq_true rfl) (Nat.le_of_ble_eq_true rfl) (fun x5 => ?_)
      refine jm_V.sub (ls' := [(0, .ref 2), (1, .int v1), (2, .int v2), (4, .int v4), (5, .int b4)]) [1, 2, 3, 5, 0] rfl ?_
      exact jj_G_string_43 hok hrec hself v1 v2 v4 b4 x5
theorem jl_G_string_15 {l : Launch} {D : va_G} {ad : Nat → Nat} {aC : Nat → ClassId} {b0 : Nat} {K d0 : Nat} {g : jm_Rec} (hok : jm_Ok (jm_PP l D clC ad aC shC b0 1)) (hrec : ∀ (t : Nat) (av : List Value) (x : jm_X), jm_Con (jm_PP l D clC ad aC shC b0 1) (rcC t) d0 av x (g t av x)) : ∀ (k : Nat) (v1 : Int32) (v2 : Int32) (v3 : Int32) (v4 : Int32) (x : jm_X), jm_V (jm_PP l D clC ad aC shC b0 1) mt_G_string (d0 + 9) 15 [(0, .ref 2), (1, .int v1), (2, .int v2), (3, .int v3), (4, .int v4)] [] x (L_G_string_15 K g k v1 v2 v3 v4 x)
  | 0, _, _, _, _, _ => jm_V.stuck
  | k + 1, v1, v2, v3, v4, x => jb_G_string_15 hok hrec (fun v1 v2 v3 v4 x => jl_G_string_15 hok hrec k v1 v2 v3 v4 x) v1 v2 v3 v4 x
def f_G_string (K : Nat) (g : jm_Rec) (a1 : Int32) (x : jm_X) : Option jm_R := jm_bI (f_S_start K g x) (fun b2 x1 => L_G_string_15 K g K a1 b2 (b2 + 1) 0 x1)
set_option maxRecDepth 100000 in
set_option maxHeartbeats 4000000 in
theorem c_G_string {l : Launch} {D : va_G} {ad : Nat → Nat} {aC : Nat → ClassId} {b0 : Nat} {K d0 : Nat} {g : jm_Rec} (hok : jm_Ok (jm_PP l D clC ad aC shC b0 1)) (hrec : ∀ (t : Nat) (av : List Value) (x : jm_X), jm_Con (jm_PP l D clC ad aC shC b0 1) (rcC t) d0 av x (g t av x)) (a1 : Int32) (x : jm_X) : jm_Con (jm_PP l D clC ad aC shC b0 1) mt_G_string (d0 + 9) [.ref 2, .int a1] x (f_G_string K g a1 x) := by
  refine jm_Con.of (plainFor_of_name (by decide +kernel)) (Nat.le_of_ble_eq_true rfl) ?_
  have hT := tk_G (l := l) (D := D) (ad := ad) (aC := aC) (b0 := b0)
  unfold f_G_string
  show jm_V _ _ _ 0 [(0, .ref 2), (1, .int a1)] [] x _
  refine jm_V.run (is := bk_G_string_0_2) (pc' := 4) (ls' := [(0, .ref 2), (1, .int a1)]) (st' := [.ref 4]) (x' := x) hok hT bk_G_string_0_2_ok rfl ?_
  refine jm_V.callI (av := [.ref 4]) (rest := []) hok (jm_Con.mono (c_S_start hok hrec x) (by omega)) (jm_Inv.obj (q := ("FilterReader$Signs", T_S, 5)) dd_G_string_4 (Or.inl lk_G_75) mn_S_start ms_S_start mw_S_start mh_S_start ml_S_start rfl rfl) mw_S_start mi_S (Nat.le_of_ble_eq_true rfl) (Nat.le_of_ble_eq_true rfl) (fun b2 x1 => ?_)
  refine jm_V.run (is := bk_G_string_7_7) (pc' := 15) (ls' := [(4, .int 0), (3, .int (b2 + 1)), (2, .int b2), (0, .ref 2), (1, .int a1)]) (st' := []) (x' := x1) hok hT bk_G_string_7_7_ok rfl ?_
  refine jm_V.sub (ls' := [(0, .ref 2), (1, .int a1), (2, .int b2), (3, .int (b2 + 1)), (4, .int 0)]) [3, 4, 2, 1, 0] rfl ?_
  exact jl_G_string_15 hok hrec K a1 b2 (b2 + 1) 0 x1
abbrev bk_G_value_0_2 : List (Nat × Instr × Nat) := [(0, .aload_n 0, 1), (1, .iload_n 1, 1)]
theorem bk_G_value_0_2_ok : jm_at mt_G_value.2.1 bk_G_value_0_2 = true := by decide +kernel
abbrev bk_G_value_5_2 : List (Nat × Instr × Nat) := [(5, .iconst 0, 1), (6, .istore_n 2, 1)]
theorem bk_G_value_5_2_ok : jm_at mt_G_value.2.1 bk_G_value_5_2 = true := by decide +kernel
abbrev bk_G_value_7_3 : List (Nat × Instr × Nat) := [(7, .iload_n 2, 1), (8, .sipush 16385, 3), (11, .if_icmp .ge 33, 3)]
theorem bk_G_value_7_3_ok : jm_at mt_G_value.2.1 bk_G_value_7_3 = true := by decide +kernel
abbrev bk_G_value_14_3 : List (Nat × Instr × Nat) := [(14, .aload_n 0, 1), (15, .getfield 20, 3), (18, .getstatic 179, 3)]
theorem bk_G_value_14_3_ok : jm_at mt_G_value.2.1 bk_G_value_14_3 = true := by decide +kernel
abbrev bk_G_value_24_1 : List (Nat × Instr × Nat) := [(24, .ifCond .eq 20, 3)]
theorem bk_G_value_24_1_ok : jm_at mt_G_value.2.1 bk_G_value_24_1 = true := by decide +kernel
abbrev bk_G_value_27_2 : List (Nat × Instr × Nat) := [(27, .aload_n 0, 1), (28, .bipush 16, 2)]
theorem bk_G_value_27_2_ok : jm_at mt_G_value.2.1 bk_G_value_27_2 = true := by decide +kernel
abbrev bk_G_value_33_2 : List (Nat × Instr × Nat) := [(33, .aload_n 0, 1), (34, .iload_n 1, 1)]
theorem bk_G_value_33_2_ok : jm_at mt_G_value.2.1 bk_G_value_33_2 = true := by decide +kernel
abbrev bk_G_value_38_2 : List (Nat × Instr × Nat) := [(38, .iinc 2 1, 3), (41, .goto (-34), 3)]
theorem bk_G_value_38_2_ok : jm_at mt_G_value.2.1 bk_G_value_38_2 = true := by decide +kernel
theorem dd_G_value_2 : decode mt_G_value.2.1 2 = .ok (.invokevirtual 190, 3) := by decide +kernel
theorem dd_G_value_21 : decode mt_G_value.2.1 21 = .ok (.invokevirtual 71, 3) := by decide +kernel
theorem dd_G_value_30 : decode mt_G_value.2.1 30 = .ok (.invokevirtual 124, 3) := by decide +kernel
theorem dd_G_value_35 : decode mt_G_value.2.1 35 = .ok (.invokevirtual 190, 3) := by decide +kernel
theorem dd_G_value_44 : decode mt_G_value.2.1 44 = .ok (.return_, 1) := by decide +kernel
def J_G_value_44 (K : Nat) (g : jm_Rec)  (x : jm_X) : Option jm_R := some (.inl (none, x))
set_option maxRecDepth 100000 in
set_option maxHeartbeats 4000000 in
theorem jj_G_value_44 {l : Launch} {D : va_G} {ad : Nat → Nat} {aC : Nat → ClassId} {b0 : Nat} {K d0 : Nat} {g : jm_Rec} (hok : jm_Ok (jm_PP l D clC ad aC shC b0 1)) (hrec : ∀ (t : Nat) (av : List Value) (x : jm_X), jm_Con (jm_PP l D clC ad aC shC b0 1) (rcC t) d0 av x (g t av x))  (x : jm_X) : jm_V (jm_PP l D clC ad aC shC b0 1) mt_G_value (d0 + 9) 44 [] [] x (J_G_value_44 K g  x) := by
  have hT := tk_G (l := l) (D := D) (ad := ad) (aC := aC) (b0 := b0)
  unfold J_G_value_44
  exact jm_V.vret rfl dd_G_value_44
def B_G_value_7 (K : Nat) (g : jm_Rec) (self : Int32 → Int32 → jm_X → Option jm_R) (v1 : Int32) (v2 : Int32) (x : jm_X) : Option jm_R := (if 16385 ≤ v2 then J_G_value_44 K g x else jm_bI (f_S_is K g 1031 x) (fun b3 x2 => (if b3 = 0 then J_G_value_44 K g x2 else jm_bV (f_G_takeAs K g 16 x2) (fun x4 => jm_bV (g 1 [.ref 2, .int v1] x4) (fun x5 => self v1 (v2 + 1) x5)))))
def L_G_value_7 (K : Nat) (g : jm_Rec) : Nat → Int32 → Int32 → jm_X → Option jm_R
  | 0, _, _, _ => none
  | k + 1, v1, v2, x => B_G_value_7 K g (L_G_value_7 K g k) v1 v2 x
set_option maxRecDepth 100000 in
set_option maxHeartbeats 4000000 in
theorem jb_G_value_7 {l : Launch} {D : va_G} {ad : Nat → Nat} {aC : Nat → ClassId} {b0 : Nat} {K d0 : Nat} {g : jm_Rec} (hok : jm_Ok (jm_PP l D clC ad aC shC b0 1)) (hrec : ∀ (t : Nat) (av : List Value) (x : jm_X), jm_Con (jm_PP l D clC ad aC shC b0 1) (rcC t) d0 av x (g t av x)) {self : Int32 → Int32 → jm_X → Option jm_R} (hself : ∀ (v1 : Int32) (v2 : Int32) (x : jm_X), jm_V (jm_PP l D clC ad aC shC b0 1) mt_G_value (d0 + 9) 7 [(0, .ref 2), (1, .int v1), (2, .int v2)] [] x (self v1 v2 x)) (v1 : Int32) (v2 : Int32) (x : jm_X) : jm_V (jm_PP l D clC ad aC shC b0 1) mt_G_value (d0 + 9) 7 [(0, .ref 2), (1, .int v1), (2, .int v2)] [] x (B_G_value_7 K g self v1 v2 x) := by
  have hT := tk_G (l := l) (D := D) (ad := ad) (aC := aC) (b0 := b0)
  unfold B_G_value_7
  refine jm_V.run (is := bk_G_value_7_3) (pc' := (if 16385 ≤ v2 then 44 else 14)) (ls' := [(0, .ref 2), (1, .int v1), (2, .int v2)]) (st' := []) (x' := x) hok hT bk_G_value_7_3_ok rfl ?_
  refine jm_V.ite (fun _ => ?_) (fun _ => ?_)
  · refine jm_V.sub (ls' := []) [] rfl ?_
    exact jj_G_value_44 hok hrec x
  · refine jm_V.run (is := bk_G_value_14_3) (pc' := 21) (ls' := [(0, .ref 2), (1, .int v1), (2, .int v2)]) (st' := [.ref 1031, .ref 4]) (x' := x) hok hT bk_G_value_14_3_ok rfl ?_
    refine jm_V.callI (av := [.ref 4, .ref 1031]) (rest := []) hok (jm_Con.mono (c_S_is hok hrec 1031 x) (by omega)) (jm_Inv.obj (q := ("FilterReader$Signs", T_S, 5)) dd_G_value_21 (Or.inl lk_G_71) mn_S_is ms_S_is mw_S_is mh_S_is ml_S_is rfl rfl) mw_S_is mi_S (Nat.le_of_ble_eq_true rfl) (Nat.le_of_ble_eq_true rfl) (fun b3 x2 => ?_)
    refine jm_V.run (is := bk_G_value_24_1) (pc' := (if b3 = 0 then 44 else 27)) (ls' := [(0, .ref 2), (1, .int v1), (2, .int v2)]) (st' := []) (x' := x2) hok hT bk_G_value_24_1_ok rfl ?_
    refine jm_V.ite (fun _ => ?_) (fun _ => ?_)
    · refine jm_V.sub (ls' := []) [] rfl ?_
      exact jj_G_value_44 hok hrec x2
    · refine jm_V.run (is := bk_G_value_27_2) (pc' := 30) (ls' := [(0, .ref 2), (1, .int v1), (2, .int v2)]) (st' := [.int 16, .ref 2]) (x' := x2) hok hT bk_G_value_27_2_ok rfl ?_
      refine jm_V.callV (av := [.ref 2, .int 16]) (rest := []) hok (jm_Con.mono (c_G_takeAs hok hrec 16 x2) (by omega)) (jm_Inv.obj (q := ("FilterReader$Grammar", T_G, 5)) dd_G_value_30 (Or.inl lk_G_124) mn_G_takeAs ms_G_takeAs mw_G_takeAs mh_G_takeAs ml_G_takeAs rfl rfl) mw_G_takeAs mi_G (Nat.le_of_ble_eq_true rfl) (Nat.le_of_ble_eq_true rfl) (fun x4 => ?_)
      refine jm_V.run (is := bk_G_value_33_2) (pc' := 35) (ls' := [(0, .ref 2), (1, .int v1), (2, .int v2)]) (st' := [.int v1, .ref 2]) (x' := x4) hok hT bk_G_value_33_2_ok rfl ?_
      refine jm_V.callV (av := [.ref 2, .int v1]) (rest := []) hok (jm_Con.mono (hrec 1 [.ref 2, .int v1] x4) (by omega)) (jm_Inv.obj (q := ("FilterReader$Grammar", T_G, 5)) dd_G_value_35 (Or.inl lk_G_190) mn_G_term ms_G_term mw_G_term mh_G_term ml_G_term rfl rfl) mw_G_term mi_G (Nat.le_of_ble_eq_true rfl) (Nat.le_of_ble_eq_true rfl) (fun x5 => ?_)
      refine jm_V.run (is := bk_G_value_38_2) (pc' := 7) (ls' := [(2, .int (v2 + 1)), (0, .ref 2), (1, .int v1)]) (st' := []) (x' := x5) hok hT bk_G_value_38_2_ok rfl ?_
      refine jm_V.sub (ls' := [(0, .ref 2), (1, .int v1), (2, .int (v2 + 1))]) [1, 2, 0] rfl ?_
      exact hself v1 (v2 + 1) x5
theorem jl_G_value_7 {l : Launch} {D : va_G} {ad : Nat → Nat} {aC : Nat → ClassId} {b0 : Nat} {K d0 : Nat} {g : jm_Rec} (hok : jm_Ok (jm_PP l D clC ad aC shC b0 1)) (hrec : ∀ (t : Nat) (av : List Value) (x : jm_X), jm_Con (jm_PP l D clC ad aC shC b0 1) (rcC t) d0 av x (g t av x)) : ∀ (k : Nat) (v1 : Int32) (v2 : Int32) (x : jm_X), jm_V (jm_PP l D clC ad aC shC b0 1) mt_G_value (d0 + 9) 7 [(0, .ref 2), (1, .int v1), (2, .int v2)] [] x (L_G_value_7 K g k v1 v2 x)
  | 0, _, _, _ => jm_V.stuck
  | k + 1, v1, v2, x => jb_G_value_7 hok hrec (fun v1 v2 x => jl_G_value_7 hok hrec k v1 v2 x) v1 v2 x
def f_G_value (K : Nat) (g : jm_Rec) (a1 : Int32) (x : jm_X) : Option jm_R := jm_bV (g 1 [.ref 2, .int a1] x) (fun x1 => L_G_value_7 K g K a1 0 x1)
set_option maxRecDepth 100000 in
set_option maxHeartbeats 4000000 in
theorem c_G_value {l : Launch} {D : va_G} {ad : Nat → Nat} {aC : Nat → ClassId} {b0 : Nat} {K d0 : Nat} {g : jm_Rec} (hok : jm_Ok (jm_PP l D clC ad aC shC b0 1)) (hrec : ∀ (t : Nat) (av : List Value) (x : jm_X), jm_Con (jm_PP l D clC ad aC shC b0 1) (rcC t) d0 av x (g t av x)) (a1 : Int32) (x : jm_X) : jm_Con (jm_PP l D clC ad aC shC b0 1) mt_G_value (d0 + 9) [.ref 2, .int a1] x (f_G_value K g a1 x) := by
  refine jm_Con.of (plainFor_of_name (by decide +kernel)) (Nat.le_of_ble_eq_true rfl) ?_
  have hT := tk_G (l := l) (D := D) (ad := ad) (aC := aC) (b0 := b0)
  unfold f_G_value
  show jm_V _ _ _ 0 [(0, .ref 2), (1, .int a1)] [] x _
  refine jm_V.run (is := bk_G_value_0_2) (pc' := 2) (ls' := [(0, .ref 2), (1, .int a1)]) (st' := [.int a1, .ref 2]) (x' := x) hok hT bk_G_value_0_2_ok rfl ?_
  refine jm_V.callV (av := [.ref 2, .int a1]) (rest := []) hok (jm_Con.mono (hrec 1 [.ref 2, .int a1] x) (by omega)) (jm_Inv.obj (q := ("FilterReader$Grammar", T_G, 5)) dd_G_value_2 (Or.inl lk_G_190) mn_G_term ms_G_term mw_G_term mh_G_term ml_G_term rfl rfl) mw_G_term mi_G (Nat.le_of_ble_eq_true rfl) (Nat.le_of_ble_eq_true rfl) (fun x1 => ?_)
  refine jm_V.run (is := bk_G_value_5_2) (pc' := 7) (ls' := [(2, .int 0), (0, .ref 2), (1, .int a1)]) (st' := []) (x' := x1) hok hT bk_G_value_5_2_ok rfl ?_
  refine jm_V.sub (ls' := [(0, .ref 2), (1, .int a1), (2, .int 0)]) [1, 2, 0] rfl ?_
  exact jl_G_value_7 hok hrec K a1 0 x1
abbrev bk_G_entry_0_2 : List (Nat × Instr × Nat) := [(0, .aload_n 0, 1), (1, .bipush 33, 2)]
theorem bk_G_entry_0_2_ok : jm_at mt_G_entry.2.1 bk_G_entry_0_2 = true := by decide +kernel
abbrev bk_G_entry_6_3 : List (Nat × Instr × Nat) := [(6, .aload_n 0, 1), (7, .getfield 20, 3), (10, .getstatic 151, 3)]
theorem bk_G_entry_6_3_ok : jm_at mt_G_entry.2.1 bk_G_entry_6_3 = true := by decide +kernel
abbrev bk_G_entry_16_4 : List (Nat × Instr × Nat) := [(16, .istore_n 2, 1), (17, .aload_n 0, 1), (18, .getfield 20, 3), (21, .getstatic 176, 3)]
theorem bk_G_entry_16_4_ok : jm_at mt_G_entry.2.1 bk_G_entry_16_4 = true := by decide +kernel
abbrev bk_G_entry_27_3 : List (Nat × Instr × Nat) := [(27, .istore_n 3, 1), (28, .iload_n 2, 1), (29, .ifCond .eq 11, 3)]
theorem bk_G_entry_27_3_ok : jm_at mt_G_entry.2.1 bk_G_entry_27_3 = true := by decide +kernel
abbrev bk_G_entry_40_3 : List (Nat × Instr × Nat) := [(40, .aload_n 0, 1), (41, .getfield 20, 3), (44, .getstatic 231, 3)]
theorem bk_G_entry_40_3_ok : jm_at mt_G_entry.2.1 bk_G_entry_40_3 = true := by decide +kernel
abbrev bk_G_entry_50_1 : List (Nat × Instr × Nat) := [(50, .ifCond .eq 11, 3)]
theorem bk_G_entry_50_1_ok : jm_at mt_G_entry.2.1 bk_G_entry_50_1 = true := by decide +kernel
abbrev bk_G_entry_61_2 : List (Nat × Instr × Nat) := [(61, .iload_n 3, 1), (62, .ifCond .eq 18, 3)]
theorem bk_G_entry_61_2_ok : jm_at mt_G_entry.2.1 bk_G_entry_61_2 = true := by decide +kernel
abbrev bk_G_entry_80_1 : List (Nat × Instr × Nat) := [(80, .aload_n 0, 1)]
theorem bk_G_entry_80_1_ok : jm_at mt_G_entry.2.1 bk_G_entry_80_1 = true := by decide +kernel
abbrev bk_G_entry_65_2 : List (Nat × Instr × Nat) := [(65, .aload_n 0, 1), (66, .bipush (-2), 2)]
theorem bk_G_entry_65_2_ok : jm_at mt_G_entry.2.1 bk_G_entry_65_2 = true := by decide +kernel
abbrev bk_G_entry_71_2 : List (Nat × Instr × Nat) := [(71, .aload_n 0, 1), (72, .bipush 7, 2)]
theorem bk_G_entry_71_2_ok : jm_at mt_G_entry.2.1 bk_G_entry_71_2 = true := by decide +kernel
abbrev bk_G_entry_77_1 : List (Nat × Instr × Nat) := [(77, .goto 7, 3)]
theorem bk_G_entry_77_1_ok : jm_at mt_G_entry.2.1 bk_G_entry_77_1 = true := by decide +kernel
abbrev bk_G_entry_53_2 : List (Nat × Instr × Nat) := [(53, .aload_n 0, 1), (54, .iload_n 1, 1)]
theorem bk_G_entry_53_2_ok : jm_at mt_G_entry.2.1 bk_G_entry_53_2 = true := by decide +kernel
abbrev bk_G_entry_58_1 : List (Nat × Instr × Nat) := [(58, .goto 26, 3)]
theorem bk_G_entry_58_1_ok : jm_at mt_G_entry.2.1 bk_G_entry_58_1 = true := by decide +kernel
abbrev bk_G_entry_32_2 : List (Nat × Instr × Nat) := [(32, .aload_n 0, 1), (33, .iload_n 1, 1)]
theorem bk_G_entry_32_2_ok : jm_at mt_G_entry.2.1 bk_G_entry_32_2 = true := by decide +kernel
abbrev bk_G_entry_37_1 : List (Nat × Instr × Nat) := [(37, .goto 47, 3)]
theorem bk_G_entry_37_1_ok : jm_at mt_G_entry.2.1 bk_G_entry_37_1 = true := by decide +kernel
abbrev bk_G_entry_84_2 : List (Nat × Instr × Nat) := [(84, .iload_n 2, 1), (85, .ifCond .eq 10, 3)]
theorem bk_G_entry_84_2_ok : jm_at mt_G_entry.2.1 bk_G_entry_84_2 = true := by decide +kernel
abbrev bk_G_entry_88_2 : List (Nat × Instr × Nat) := [(88, .aload_n 0, 1), (89, .getstatic 173, 3)]
theorem bk_G_entry_88_2_ok : jm_at mt_G_entry.2.1 bk_G_entry_88_2 = true := by decide +kernel
abbrev bk_G_entry_95_2 : List (Nat × Instr × Nat) := [(95, .aload_n 0, 1), (96, .getstatic 173, 3)]
theorem bk_G_entry_95_2_ok : jm_at mt_G_entry.2.1 bk_G_entry_95_2 = true := by decide +kernel
abbrev bk_G_entry_102_1 : List (Nat × Instr × Nat) := [(102, .ifCond .eq 11, 3)]
theorem bk_G_entry_102_1_ok : jm_at mt_G_entry.2.1 bk_G_entry_102_1 = true := by decide +kernel
abbrev bk_G_entry_113_2 : List (Nat × Instr × Nat) := [(113, .iload_n 3, 1), (114, .ifCond .eq 9, 3)]
theorem bk_G_entry_113_2_ok : jm_at mt_G_entry.2.1 bk_G_entry_113_2 = true := by decide +kernel
abbrev bk_G_entry_117_2 : List (Nat × Instr × Nat) := [(117, .aload_n 0, 1), (118, .bipush 11, 2)]
theorem bk_G_entry_117_2_ok : jm_at mt_G_entry.2.1 bk_G_entry_117_2 = true := by decide +kernel
abbrev bk_G_entry_105_2 : List (Nat × Instr × Nat) := [(105, .aload_n 0, 1), (106, .iload_n 1, 1)]
theorem bk_G_entry_105_2_ok : jm_at mt_G_entry.2.1 bk_G_entry_105_2 = true := by decide +kernel
abbrev bk_G_entry_110_1 : List (Nat × Instr × Nat) := [(110, .goto 13, 3)]
theorem bk_G_entry_110_1_ok : jm_at mt_G_entry.2.1 bk_G_entry_110_1 = true := by decide +kernel
theorem dd_G_entry_3 : decode mt_G_entry.2.1 3 = .ok (.invokevirtual 85, 3) := by decide +kernel
theorem dd_G_entry_13 : decode mt_G_entry.2.1 13 = .ok (.invokevirtual 71, 3) := by decide +kernel
theorem dd_G_entry_24 : decode mt_G_entry.2.1 24 = .ok (.invokevirtual 71, 3) := by decide +kernel
theorem dd_G_entry_47 : decode mt_G_entry.2.1 47 = .ok (.invokevirtual 71, 3) := by decide +kernel
theorem dd_G_entry_81 : decode mt_G_entry.2.1 81 = .ok (.invokevirtual 299, 3) := by decide +kernel
theorem dd_G_entry_68 : decode mt_G_entry.2.1 68 = .ok (.invokevirtual 255, 3) := by decide +kernel
theorem dd_G_entry_74 : decode mt_G_entry.2.1 74 = .ok (.invokevirtual 124, 3) := by decide +kernel
theorem dd_G_entry_55 : decode mt_G_entry.2.1 55 = .ok (.invokevirtual 234, 3) := by decide +kernel
theorem dd_G_entry_34 : decode mt_G_entry.2.1 34 = .ok (.invokevirtual 240, 3) := by decide +kernel
theorem dd_G_entry_92 : decode mt_G_entry.2.1 92 = .ok (.invokevirtual 55, 3) := by decide +kernel
theorem dd_G_entry_99 : decode mt_G_entry.2.1 99 = .ok (.invokevirtual 154, 3) := by decide +kernel
theorem dd_G_entry_120 : decode mt_G_entry.2.1 120 = .ok (.invokevirtual 85, 3) := by decide +kernel
theorem dd_G_entry_107 : decode mt_G_entry.2.1 107 = .ok (.invokevirtual 302, 3) := by decide +kernel
theorem dd_G_entry_123 : decode mt_G_entry.2.1 123 = .ok (.return_, 1) := by decide +kernel
def J_G_entry_123 (K : Nat) (g : jm_Rec)  (x : jm_X) : Option jm_R := some (.inl (none, x))
set_option maxRecDepth 100000 in
set_option maxHeartbeats 4000000 in
theorem jj_G_entry_123 {l : Launch} {D : va_G} {ad : Nat → Nat} {aC : Nat → ClassId} {b0 : Nat} {K d0 : Nat} {g : jm_Rec} (hok : jm_Ok (jm_PP l D clC ad aC shC b0 1)) (hrec : ∀ (t : Nat) (av : List Value) (x : jm_X), jm_Con (jm_PP l D clC ad aC shC b0 1) (rcC t) d0 av x (g t av x))  (x : jm_X) : jm_V (jm_PP l D clC ad aC shC b0 1) mt_G_entry (d0 + 11) 123 [] [] x (J_G_entry_123 K g  x) := by
  have hT := tk_G (l := l) (D := D) (ad := ad) (aC := aC) (b0 := b0)
  unfold J_G_entry_123
  exact jm_V.vret rfl dd_G_entry_123
def J_G_entry_95 (K : Nat) (g : jm_Rec) (v1 : Int32) (v3 : Int32) (x : jm_X) : Option jm_R := jm_bI (f_G_takes K g 1010 x) (fun b15 x14 => (if b15 = 0 then (if v3 = 0 then J_G_entry_123 K g x14 else jm_bV (f_G_count K g 11 x14) (fun x16 => J_G_entry_123 K g x16)) else jm_bV (f_G_value K g v1 x14) (fun x17 => J_G_entry_123 K g x17)))
set_option maxRecDepth 100000 in
set_option maxHeartbeats 4000000 in
theorem jj_G_entry_95 {l : Launch} {D : va_G} {ad : Nat → Nat} {aC : Nat → ClassId} {b0 : Nat} {K d0 : Nat} {g : jm_Rec} (hok : jm_Ok (jm_PP l D clC ad aC shC b0 1)) (hrec : ∀ (t : Nat) (av : List Value) (x : jm_X), jm_Con (jm_PP l D clC ad aC shC b0 1) (rcC t) d0 av x (g t av x)) (v1 : Int32) (v3 : Int32) (x : jm_X) : jm_V (jm_PP l D clC ad aC shC b0 1) mt_G_entry (d0 + 11) 95 [(0, .ref 2), (1, .int v1), (3, .int v3)] [] x (J_G_entry_95 K g v1 v3 x) := by
  have hT := tk_G (l := l) (D := D) (ad := ad) (aC := aC) (b0 := b0)
  unfold J_G_entry_95
  refine jm_V.run (is := bk_G_entry_95_2) (pc' := 99) (ls' := [(0, .ref 2), (1, .int v1), (3, .int v3)]) (st' := [.ref 1010, .ref 2]) (x' := x) hok hT bk_G_entry_95_2_ok rfl ?_
  refine jm_V.callI (av := [.ref 2, .ref 1010]) (rest := []) hok (jm_Con.mono (c_G_takes hok hrec 1010 x) (by omega)) (jm_Inv.obj (q := ("FilterReader$Grammar", T_G, 5)) dd_G_entry_99 (Or.inl lk_G_154) mn_G_takes ms_G_takes mw_G_takes mh_G_takes ml_G_takes rfl rfl) mw_G_takes mi_G (Nat.le_of_ble_eq_true rfl) (Nat.le_of_ble_eq_true rfl) (fun b15 x14 => ?_)
  refine jm_V.run (is := bk_G_entry_102_1) (pc' := (if b15 = 0 then 113 else 105)) (ls' := [(0, .ref 2), (1, .int v1), (3, .int v3)]) (st' := []) (x' := x14) hok hT bk_G_entry_102_1_ok rfl ?_
  refine jm_V.ite (fun _ => ?_) (fun _ => ?_)
  · refine jm_V.run (is := bk_G_entry_113_2) (pc' := (if v3 = 0 then 123 else 117)) (ls' := [(0, .ref 2), (1, .int v1), (3, .int v3)]) (st' := []) (x' := x14) hok hT bk_G_entry_113_2_ok rfl ?_
    refine jm_V.ite (fun _ => ?_) (fun _ => ?_)
    · refine jm_V.sub (ls' := []) [] rfl ?_
      exact jj_G_entry_123 hok hrec x14
    · refine jm_V.run (is := bk_G_entry_117_2) (pc' := 120) (ls' := [(0, .ref 2), (1, .int v1), (3, .int v3)]) (st' := [.int 11, .ref 2]) (x' := x14) hok hT bk_G_entry_117_2_ok rfl ?_
      refine jm_V.callV (av := [.ref 2, .int 11]) (rest := []) hok (jm_Con.mono (c_G_count hok hrec 11 x14) (by omega)) (jm_Inv.obj (q := ("FilterReader$Grammar", T_G, 5)) dd_G_entry_120 (Or.inl lk_G_85) mn_G_count ms_G_count mw_G_count mh_G_count ml_G_count rfl rfl) mw_G_count mi_G (Nat.le_of_ble_eq_true rfl) (Nat.le_of_ble_eq_true rfl) (fun x16 => ?_)
      refine jm_V.sub (ls' := []) [] rfl ?_
      exact jj_G_entry_123 hok hrec x16
  · refine jm_V.run (is := bk_G_entry_105_2) (pc' := 107) (ls' := [(0, .ref 2), (1, .int v1), (3, .int v3)]) (st' := [.int v1, .ref 2]) (x' := x14) hok hT bk_G_entry_105_2_ok rfl ?_
    refine jm_V.callV (av := [.ref 2, .int v1]) (rest := []) hok (jm_Con.mono (c_G_value hok hrec v1 x14) (by omega)) (jm_Inv.obj (q := ("FilterReader$Grammar", T_G, 5)) dd_G_entry_107 (Or.inl lk_G_302) mn_G_value ms_G_value mw_G_value mh_G_value ml_G_value rfl rfl) mw_G_value mi_G (Nat.le_of_ble_eq_true rfl) (Nat.le_of_ble_eq_true rfl) (fun x17 => ?_)
    refine jm_V.run (is := bk_G_entry_110_1) (pc' := 123) (ls' := [(0, .ref 2), (1, .int v1), (3, .int v3)]) (st' := []) (x' := x17) hok hT bk_G_entry_110_1_ok rfl ?_
    refine jm_V.sub (ls' := []) [] rfl ?_
    exact jj_G_entry_123 hok hrec x17
def J_G_entry_84 (K : Nat) (g : jm_Rec) (v1 : Int32) (v2 : Int32) (v3 : Int32) (x : jm_X) : Option jm_R := (if v2 = 0 then J_G_entry_95 K g v1 v3 x else jm_bV (f_G_need K g 1010 x) (fun x13 => J_G_entry_95 K g v1 v3 x13))
set_option maxRecDepth 100000 in
set_option maxHeartbeats 4000000 in
theorem jj_G_entry_84 {l : Launch} {D : va_G} {ad : Nat → Nat} {aC : Nat → ClassId} {b0 : Nat} {K d0 : Nat} {g : jm_Rec} (hok : jm_Ok (jm_PP l D clC ad aC shC b0 1)) (hrec : ∀ (t : Nat) (av : List Value) (x : jm_X), jm_Con (jm_PP l D clC ad aC shC b0 1) (rcC t) d0 av x (g t av x)) (v1 : Int32) (v2 : Int32) (v3 : Int32) (x : jm_X) : jm_V (jm_PP l D clC ad aC shC b0 1) mt_G_entry (d0 + 11) 84 [(0, .ref 2), (1, .int v1), (2, .int v2), (3, .int v3)] [] x (J_G_entry_84 K g v1 v2 v3 x) := by
  have hT := tk_G (l := l) (D := D) (ad := ad) (aC := aC) (b0 := b0)
  unfold J_G_entry_84
  refine jm_V.run (is := bk_G_entry_84_2) (pc' := (if v2 = 0 then 95 else 88)) (ls' := [(0, .ref 2), (1, .int v1), (2, .int v2), (3, .int v3)]) (st' := []) (x' := x) hok hT bk_G_entry_84_2_ok rfl ?_
  refine jm_V.ite (fun _ => ?_) (fun _ => ?_)
  · refine jm_V.sub (ls' := [(0, .ref 2), (1, .int v1), (3, .int v3)]) [0, 1, 3] rfl ?_
    exact jj_G_entry_95 hok hrec v1 v3 x
  · refine jm_V.run (is := bk_G_entry_88_2) (pc' := 92) (ls' := [(0, .ref 2), (1, .int v1), (2, .int v2), (3, .int v3)]) (st' := [.ref 1010, .ref 2]) (x' := x) hok hT bk_G_entry_88_2_ok rfl ?_
    refine jm_V.callV (av := [.ref 2, .ref 1010]) (rest := []) hok (jm_Con.mono (c_G_need hok hrec 1010 x) (by omega)) (jm_Inv.obj (q := ("FilterReader$Grammar", T_G, 5)) dd_G_entry_92 (Or.inl lk_G_55) mn_G_need ms_G_need mw_G_need mh_G_need ml_G_need rfl rfl) mw_G_need mi_G (Nat.le_of_ble_eq_true rfl) (Nat.le_of_ble_eq_true rfl) (fun x13 => ?_)
    refine jm_V.sub (ls' := [(0, .ref 2), (1, .int v1), (3, .int v3)]) [0, 1, 3] rfl ?_
    exact jj_G_entry_95 hok hrec v1 v3 x13
def f_G_entry (K : Nat) (g : jm_Rec) (a1 : Int32) (x : jm_X) : Option jm_R := jm_bV (f_G_count K g 33 x) (fun x1 => jm_bI (f_S_is K g 1012 x1) (fun b3 x2 => jm_bI (f_S_is K g 1004 x2) (fun b5 x4 => (if b3 = 0 then jm_bI (f_S_is K g 1006 x4) (fun b7 x6 => (if b7 = 0 then (if b5 = 0 then jm_bV (f_G_entryName K g x6) (fun x8 => J_G_entry_84 K g a1 b3 b5 x8) else jm_bV (f_G_needKnown K g (-2) x6) (fun x9 => jm_bV (f_G_takeAs K g 7 x9) (fun x10 => J_G_entry_84 K g a1 b3 b5 x10))) else jm_bV (f_G_string K g a1 x6) (fun x11 => J_G_entry_84 K g a1 b3 b5 x11))) else jm_bV (f_G_group K g a1 x4) (fun x12 => J_G_entry_84 K g a1 b3 b5 x12)))))
set_option maxRecDepth 100000 in
set_option maxHeartbeats 4000000 in
theorem c_G_entry {l : Launch} {D : va_G} {ad : Nat → Nat} {aC : Nat → ClassId} {b0 : Nat} {K d0 : Nat} {g : jm_Rec} (hok : jm_Ok (jm_PP l D clC ad aC shC b0 1)) (hrec : ∀ (t : Nat) (av : List Value) (x : jm_X), jm_Con (jm_PP l D clC ad aC shC b0 1) (rcC t) d0 av x (g t av x)) (a1 : Int32) (x : jm_X) : jm_Con (jm_PP l D clC ad aC shC b0 1) mt_G_entry (d0 + 11) [.ref 2, .int a1] x (f_G_entry K g a1 x) := by
  refine jm_Con.of (plainFor_of_name (by decide +kernel)) (Nat.le_of_ble_eq_true rfl) ?_
  have hT := tk_G (l := l) (D := D) (ad := ad) (aC := aC) (b0 := b0)
  unfold f_G_entry
  show jm_V _ _ _ 0 [(0, .ref 2), (1, .int a1)] [] x _
  refine jm_V.run (is := bk_G_entry_0_2) (pc' := 3) (ls' := [(0, .ref 2), (1, .int a1)]) (st' := [.int 33, .ref 2]) (x' := x) hok hT bk_G_entry_0_2_ok rfl ?_
  refine jm_V.callV (av := [.ref 2, .int 33]) (rest := []) hok (jm_Con.mono (c_G_count hok hrec 33 x) (by omega)) (jm_Inv.obj (q := ("FilterReader$Grammar", T_G, 5)) dd_G_entry_3 (Or.inl lk_G_85) mn_G_count ms_G_count mw_G_count mh_G_count ml_G_count rfl rfl) mw_G_count mi_G (Nat.le_of_ble_eq_true rfl) (Nat.le_of_ble_eq_true rfl) (fun x1 => ?_)
  refine jm_V.run (is := bk_G_entry_6_3) (pc' := 13) (ls' := [(0, .ref 2), (1, .int a1)]) (st' := [.ref 1012, .ref 4]) (x' := x1) hok hT bk_G_entry_6_3_ok rfl ?_
  refine jm_V.callI (av := [.ref 4, .ref 1012]) (rest := []) hok (jm_Con.mono (c_S_is hok hrec 1012 x1) (by omega)) (jm_Inv.obj (q := ("FilterReader$Signs", T_S, 5)) dd_G_entry_13 (Or.inl lk_G_71) mn_S_is ms_S_is mw_S_is mh_S_is ml_S_is rfl rfl) mw_S_is mi_S (Nat.le_of_ble_eq_true rfl) (Nat.le_of_ble_eq_true rfl) (fun b3 x2 => ?_)
  refine jm_V.run (is := bk_G_entry_16_4) (pc' := 24) (ls' := [(2, .int b3), (0, .ref 2), (1, .int a1)]) (st' := [.ref 1004, .ref 4]) (x' := x2) hok hT bk_G_entry_16_4_ok rfl ?_
  refine jm_V.callI (av := [.ref 4, .ref 1004]) (rest := []) hok (jm_Con.mono (c_S_is hok hrec 1004 x2) (by omega)) (jm_Inv.obj (q := ("FilterReader$Signs", T_S, 5)) dd_G_entry_24 (Or.inl lk_G_71) mn_S_is ms_S_is mw_S_is mh_S_is ml_S_is rfl rfl) mw_S_is mi_S (Nat.le_of_ble_eq_true rfl) (Nat.le_of_ble_eq_true rfl) (fun b5 x4 => ?_)
  refine jm_V.run (is := bk_G_entry_27_3) (pc' := (if b3 = 0 then 40 else 32)) (ls' := [(3, .int b5), (2, .int b3), (0, .ref 2), (1, .int a1)]) (st' := []) (x' := x4) hok hT bk_G_entry_27_3_ok rfl ?_
  refine jm_V.ite (fun _ => ?_) (fun _ => ?_)
  · refine jm_V.run (is := bk_G_entry_40_3) (pc' := 47) (ls' := [(3, .int b5), (2, .int b3), (0, .ref 2), (1, .int a1)]) (st' := [.ref 1006, .ref 4]) (x' := x4) hok hT bk_G_entry_40_3_ok rfl ?_
    refine jm_V.callI (av := [.ref 4, .ref 1006]) (rest := []) hok (jm_Con.mono (c_S_is hok hrec 1006 x4) (by omega)) (jm_Inv.obj (q := ("FilterReader$Signs", T_S, 5)) dd_G_entry_47 (Or.inl lk_G_71) mn_S_is ms_S_is mw_S_is mh_S_is ml_S_is rfl rfl) mw_S_is mi_S (Nat.le_of_ble_eq_true rfl) (Nat.le_of_ble_eq_true rfl) (fun b7 x6 => ?_)
    refine jm_V.run (is := bk_G_entry_50_1) (pc' := (if b7 = 0 then 61 else 53)) (ls' := [(3, .int b5), (2, .int b3), (0, .ref 2), (1, .int a1)]) (st' := []) (x' := x6) hok hT bk_G_entry_50_1_ok rfl ?_
    refine jm_V.ite (fun _ => ?_) (fun _ => ?_)
    · refine jm_V.run (is := bk_G_entry_61_2) (pc' := (if b5 = 0 then 80 else 65)) (ls' := [(3, .int b5), (2, .int b3), (0, .ref 2), (1, .int a1)]) (st' := []) (x' := x6) hok hT bk_G_entry_61_2_ok rfl ?_
      refine jm_V.ite (fun _ => ?_) (fun _ => ?_)
      · refine jm_V.run (is := bk_G_entry_80_1) (pc' := 81) (ls' := [(3, .int b5), (2, .int b3), (0, .ref 2), (1, .int a1)]) (st' := [.ref 2]) (x' := x6) hok hT bk_G_entry_80_1_ok rfl ?_
        refine jm_V.callV (av := [.ref 2]) (rest := []) hok (jm_Con.mono (c_G_entryName hok hrec x6) (by omega)) (jm_Inv.obj (q := ("FilterReader$Grammar", T_G, 5)) dd_G_entry_81 (Or.inl lk_G_299) mn_G_entryName ms_G_entryName mw_G_entryName mh_G_entryName ml_G_entryName rfl rfl) mw_G_entryName mi_G (Nat.le_of_ble_eq_true rfl) (Nat.le_of_ble_eq_true rfl) (fun x8 => ?_)
        refine jm_V.sub (ls' := [(0, .ref 2), (1, .int a1), (2, .int b3), (3, .int b5)]) [2, 3, 1, 0] rfl ?_
        exact jj_G_entry_84 hok hrec a1 b3 b5 x8
      · refine jm_V.run (is := bk_G_entry_65_2) (pc' := 68) (ls' := [(3, .int b5), (2, .int b3), (0, .ref 2), (1, .int a1)]) (st' := [.int (-2), .ref 2]) (x' := x6) hok hT bk_G_entry_65_2_ok rfl ?_
        refine jm_V.callV (av := [.ref 2, .int (-2)]) (rest := []) hok (jm_Con.mono (c_G_needKnown hok hrec (-2) x6) (by omega)) (jm_Inv.obj (q := ("FilterReader$Grammar", T_G, 5)) dd_G_entry_68 (Or.inl lk_G_255) mn_G_needKnown ms_G_needKnown mw_G_needKnown mh_G_needKnown ml_G_needKnown rfl rfl) mw_G_needKnown mi_G (Nat.le_of_ble_eq_true rfl) (Nat.le_of_ble_eq_true rfl) (fun x9 => ?_)
        refine jm_V.run (is := bk_G_entry_71_2) (pc' := 74) (ls' := [(3, .int b5), (2, .int b3), (0, .ref 2), (1, .int a1)]) (st' := [.int 7, .ref 2]) (x' := x9) hok hT bk_G_entry_71_2_ok rfl ?_
        refine jm_V.callV (av := [.ref 2, .int 7]) (rest := []) hok (jm_Con.mono (c_G_takeAs hok hrec 7 x9) (by omega)) (jm_Inv.obj (q := ("FilterReader$Grammar", T_G, 5)) dd_G_entry_74 (Or.inl lk_G_124) mn_G_takeAs ms_G_takeAs mw_G_takeAs mh_G_takeAs ml_G_takeAs rfl rfl) mw_G_takeAs mi_G (Nat.le_of_ble_eq_true rfl) (Nat.le_of_ble_eq_true rfl) (fun x10 => ?_)
        refine jm_V.run (is := bk_G_entry_77_1) (pc' := 84) (ls' := [(3, .int b5), (2, .int b3), (0, .ref 2), (1, .int a1)]) (st' := []) (x' := x10) hok hT bk_G_entry_77_1_ok rfl ?_
        refine jm_V.sub (ls' := [(0, .ref 2), (1, .int a1), (2, .int b3), (3, .int b5)]) [2, 3, 1, 0] rfl ?_
        exact jj_G_entry_84 hok hrec a1 b3 b5 x10
    · refine jm_V.run (is := bk_G_entry_53_2) (pc' := 55) (ls' := [(3, .int b5), (2, .int b3), (0, .ref 2), (1, .int a1)]) (st' := [.int a1, .ref 2]) (x' := x6) hok hT bk_G_entry_53_2_ok rfl ?_
      refine jm_V.callV (av := [.ref 2, .int a1]) (rest := []) hok (jm_Con.mono (c_G_string hok hrec a1 x6) (by omega)) (jm_Inv.obj (q := ("FilterReader$Grammar", T_G, 5)) dd_G_entry_55 (Or.inl lk_G_234) mn_G_string ms_G_string mw_G_string mh_G_string ml_G_string rfl rfl) mw_G_string mi_G (Nat.le_of_ble_eq_true rfl) (Nat.le_of_ble_eq_true rfl) (fun x11 => ?_)
      refine jm_V.run (is := bk_G_entry_58_1) (pc' := 84) (ls' := [(3, .int b5), (2, .int b3), (0, .ref 2), (1, .int a1)]) (st' := []) (x' := x11) hok hT bk_G_entry_58_1_ok rfl ?_
      refine jm_V.sub (ls' := [(0, .ref 2), (1, .int a1), (2, .int b3), (3, .int b5)]) [2, 3, 1, 0] rfl ?_
      exact jj_G_entry_84 hok hrec a1 b3 b5 x11
  · refine jm_V.run (is := bk_G_entry_32_2) (pc' := 34) (ls' := [(3, .int b5), (2, .int b3), (0, .ref 2), (1, .int a1)]) (st' := [.int a1, .ref 2]) (x' := x4) hok hT bk_G_entry_32_2_ok rfl ?_
    refine jm_V.callV (av := [.ref 2, .int a1]) (rest := []) hok (jm_Con.mono (c_G_group hok hrec a1 x4) (by omega)) (jm_Inv.obj (q := ("FilterReader$Grammar", T_G, 5)) dd_G_entry_34 (Or.inl lk_G_240) mn_G_group ms_G_group mw_G_group mh_G_group ml_G_group rfl rfl) mw_G_group mi_G (Nat.le_of_ble_eq_true rfl) (Nat.le_of_ble_eq_true rfl) (fun x12 => ?_)
    refine jm_V.run (is := bk_G_entry_37_1) (pc' := 84) (ls' := [(3, .int b5), (2, .int b3), (0, .ref 2), (1, .int a1)]) (st' := []) (x' := x12) hok hT bk_G_entry_37_1_ok rfl ?_
    refine jm_V.sub (ls' := [(0, .ref 2), (1, .int a1), (2, .int b3), (3, .int b5)]) [2, 3, 1, 0] rfl ?_
    exact jj_G_entry_84 hok hrec a1 b3 b5 x12
abbrev bk_G_object_0_4 : List (Nat × Instr × Nat) := [(0, .aload_n 0, 1), (1, .iload_n 1, 1), (2, .iconst 1, 1), (3, .iadd, 1)]
theorem bk_G_object_0_4_ok : jm_at mt_G_object.2.1 bk_G_object_0_4 = true := by decide +kernel
abbrev bk_G_object_7_3 : List (Nat × Instr × Nat) := [(7, .istore_n 2, 1), (8, .aload_n 0, 1), (9, .bipush 10, 2)]
theorem bk_G_object_7_3_ok : jm_at mt_G_object.2.1 bk_G_object_7_3 = true := by decide +kernel
abbrev bk_G_object_14_2 : List (Nat × Instr × Nat) := [(14, .aload_n 0, 1), (15, .getstatic 290, 3)]
theorem bk_G_object_14_2_ok : jm_at mt_G_object.2.1 bk_G_object_14_2 = true := by decide +kernel
abbrev bk_G_object_21_1 : List (Nat × Instr × Nat) := [(21, .ifCond .eq 4, 3)]
theorem bk_G_object_21_1_ok : jm_at mt_G_object.2.1 bk_G_object_21_1 = true := by decide +kernel
abbrev bk_G_object_25_2 : List (Nat × Instr × Nat) := [(25, .iconst 0, 1), (26, .istore_n 3, 1)]
theorem bk_G_object_25_2_ok : jm_at mt_G_object.2.1 bk_G_object_25_2 = true := by decide +kernel
abbrev bk_G_object_27_2 : List (Nat × Instr × Nat) := [(27, .aload_n 0, 1), (28, .iload_n 2, 1)]
theorem bk_G_object_27_2_ok : jm_at mt_G_object.2.1 bk_G_object_27_2 = true := by decide +kernel
abbrev bk_G_object_32_4 : List (Nat × Instr × Nat) := [(32, .iinc 3 1, 3), (35, .iload_n 3, 1), (36, .sipush 16385, 3), (39, .if_icmp .ge 13, 3)]
theorem bk_G_object_32_4_ok : jm_at mt_G_object.2.1 bk_G_object_32_4 = true := by decide +kernel
abbrev bk_G_object_42_2 : List (Nat × Instr × Nat) := [(42, .aload_n 0, 1), (43, .getstatic 296, 3)]
theorem bk_G_object_42_2_ok : jm_at mt_G_object.2.1 bk_G_object_42_2 = true := by decide +kernel
abbrev bk_G_object_49_1 : List (Nat × Instr × Nat) := [(49, .ifCond .ne (-22), 3)]
theorem bk_G_object_49_1_ok : jm_at mt_G_object.2.1 bk_G_object_49_1 = true := by decide +kernel
abbrev bk_G_object_52_2 : List (Nat × Instr × Nat) := [(52, .aload_n 0, 1), (53, .getstatic 290, 3)]
theorem bk_G_object_52_2_ok : jm_at mt_G_object.2.1 bk_G_object_52_2 = true := by decide +kernel
theorem dd_G_object_4 : decode mt_G_object.2.1 4 = .ok (.invokevirtual 127, 3) := by decide +kernel
theorem dd_G_object_11 : decode mt_G_object.2.1 11 = .ok (.invokevirtual 124, 3) := by decide +kernel
theorem dd_G_object_18 : decode mt_G_object.2.1 18 = .ok (.invokevirtual 154, 3) := by decide +kernel
theorem dd_G_object_24 : decode mt_G_object.2.1 24 = .ok (.return_, 1) := by decide +kernel
theorem dd_G_object_29 : decode mt_G_object.2.1 29 = .ok (.invokevirtual 293, 3) := by decide +kernel
theorem dd_G_object_46 : decode mt_G_object.2.1 46 = .ok (.invokevirtual 154, 3) := by decide +kernel
theorem dd_G_object_56 : decode mt_G_object.2.1 56 = .ok (.invokevirtual 170, 3) := by decide +kernel
theorem dd_G_object_59 : decode mt_G_object.2.1 59 = .ok (.return_, 1) := by decide +kernel
def J_G_object_52 (K : Nat) (g : jm_Rec)  (x : jm_X) : Option jm_R := jm_bV (f_G_take K g 1017 x) (fun x9 => some (.inl (none, x9)))
set_option maxRecDepth 100000 in
set_option maxHeartbeats 4000000 in
theorem jj_G_object_52 {l : Launch} {D : va_G} {ad : Nat → Nat} {aC : Nat → ClassId} {b0 : Nat} {K d0 : Nat} {g : jm_Rec} (hok : jm_Ok (jm_PP l D clC ad aC shC b0 1)) (hrec : ∀ (t : Nat) (av : List Value) (x : jm_X), jm_Con (jm_PP l D clC ad aC shC b0 1) (rcC t) d0 av x (g t av x))  (x : jm_X) : jm_V (jm_PP l D clC ad aC shC b0 1) mt_G_object (d0 + 12) 52 [(0, .ref 2)] [] x (J_G_object_52 K g  x) := by
  have hT := tk_G (l := l) (D := D) (ad := ad) (aC := aC) (b0 := b0)
  unfold J_G_object_52
  refine jm_V.run (is := bk_G_object_52_2) (pc' := 56) (ls' := [(0, .ref 2)]) (st' := [.ref 1017, .ref 2]) (x' := x) hok hT bk_G_object_52_2_ok rfl ?_
  refine jm_V.callV (av := [.ref 2, .ref 1017]) (rest := []) hok (jm_Con.mono (c_G_take hok hrec 1017 x) (by omega)) (jm_Inv.obj (q := ("FilterReader$Grammar", T_G, 5)) dd_G_object_56 (Or.inl lk_G_170) mn_G_take ms_G_take mw_G_take mh_G_take ml_G_take rfl rfl) mw_G_take mi_G (Nat.le_of_ble_eq_true rfl) (Nat.le_of_ble_eq_true rfl) (fun x9 => ?_)
  exact jm_V.vret rfl dd_G_object_59
def B_G_object_27 (K : Nat) (g : jm_Rec) (self : Int32 → Int32 → jm_X → Option jm_R) (v2 : Int32) (v3 : Int32) (x : jm_X) : Option jm_R := jm_bV (f_G_entry K g v2 x) (fun x6 => (if 16385 ≤ (v3 + 1) then J_G_object_52 K g x6 else jm_bI (f_G_takes K g 1032 x6) (fun b8 x7 => (if b8 = 0 then J_G_object_52 K g x7 else self v2 (v3 + 1) x7))))
def L_G_object_27 (K : Nat) (g : jm_Rec) : Nat → Int32 → Int32 → jm_X → Option jm_R
  | 0, _, _, _ => none
  | k + 1, v2, v3, x => B_G_object_27 K g (L_G_object_27 K g k) v2 v3 x
set_option maxRecDepth 100000 in
set_option maxHeartbeats 4000000 in
theorem jb_G_object_27 {l : Launch} {D : va_G} {ad : Nat → Nat} {aC : Nat → ClassId} {b0 : Nat} {K d0 : Nat} {g : jm_Rec} (hok : jm_Ok (jm_PP l D clC ad aC shC b0 1)) (hrec : ∀ (t : Nat) (av : List Value) (x : jm_X), jm_Con (jm_PP l D clC ad aC shC b0 1) (rcC t) d0 av x (g t av x)) {self : Int32 → Int32 → jm_X → Option jm_R} (hself : ∀ (v2 : Int32) (v3 : Int32) (x : jm_X), jm_V (jm_PP l D clC ad aC shC b0 1) mt_G_object (d0 + 12) 27 [(0, .ref 2), (2, .int v2), (3, .int v3)] [] x (self v2 v3 x)) (v2 : Int32) (v3 : Int32) (x : jm_X) : jm_V (jm_PP l D clC ad aC shC b0 1) mt_G_object (d0 + 12) 27 [(0, .ref 2), (2, .int v2), (3, .int v3)] [] x (B_G_object_27 K g self v2 v3 x) := by
  have hT := tk_G (l := l) (D := D) (ad := ad) (aC := aC) (b0 := b0)
  unfold B_G_object_27
  refine jm_V.run (is := bk_G_object_27_2) (pc' := 29) (ls' := [(0, .ref 2), (2, .int v2), (3, .int v3)]) (st' := [.int v2, .ref 2]) (x' := x) hok hT bk_G_object_27_2_ok rfl ?_
  refine jm_V.callV (av := [.ref 2, .int v2]) (rest := []) hok (jm_Con.mono (c_G_entry hok hrec v2 x) (by omega)) (jm_Inv.obj (q := ("FilterReader$Grammar", T_G, 5)) dd_G_object_29 (Or.inl lk_G_293) mn_G_entry ms_G_entry mw_G_entry mh_G_entry ml_G_entry rfl rfl) mw_G_entry mi_G (Nat.le_of_ble_eq_true rfl) (Nat.le_of_ble_eq_true rfl) (fun x6 => ?_)
  refine jm_V.run (is := bk_G_object_32_4) (pc' := (if 16385 ≤ (v3 + 1) then 52 else 42)) (ls' := [(3, .int (v3 + 1)), (0, .ref 2), (2, .int v2)]) (st' := []) (x' := x6) hok hT bk_G_object_32_4_ok rfl ?_
  refine jm_V.ite (fun _ => ?_) (fun _ => ?_)
  · refine jm_V.sub (ls' := [(0, .ref 2)]) [1] rfl ?_
    exact jj_G_object_52 hok hrec x6
  · refine jm_V.run (is := bk_G_object_42_2) (pc' := 46) (ls' := [(3, .int (v3 + 1)), (0, .ref 2), (2, .int v2)]) (st' := [.ref 1032, .ref 2]) (x' := x6) hok hT bk_G_object_42_2_ok rfl ?_
    refine jm_V.callI (av := [.ref 2, .ref 1032]) (rest := []) hok (jm_Con.mono (c_G_takes hok hrec 1032 x6) (by omega)) (jm_Inv.obj (q := ("FilterReader$Grammar", T_G, 5)) dd_G_object_46 (Or.inl lk_G_154) mn_G_takes ms_G_takes mw_G_takes mh_G_takes ml_G_takes rfl rfl) mw_G_takes mi_G (Nat.le_of_ble_eq_true rfl) (Nat.le_of_ble_eq_true rfl) (fun b8 x7 => ?_)
    refine jm_V.run (is := bk_G_object_49_1) (pc' := (if b8 = 0 then 52 else 27)) (ls' := [(3, .int (v3 + 1)), (0, .ref 2), (2, .int v2)]) (st' := []) (x' := x7) hok hT bk_G_object_49_1_ok rfl ?_
    refine jm_V.ite (fun _ => ?_) (fun _ => ?_)
    · refine jm_V.sub (ls' := [(0, .ref 2)]) [1] rfl ?_
      exact jj_G_object_52 hok hrec x7
    · refine jm_V.sub (ls' := [(0, .ref 2), (2, .int v2), (3, .int (v3 + 1))]) [1, 2, 0] rfl ?_
      exact hself v2 (v3 + 1) x7
theorem jl_G_object_27 {l : Launch} {D : va_G} {ad : Nat → Nat} {aC : Nat → ClassId} {b0 : Nat} {K d0 : Nat} {g : jm_Rec} (hok : jm_Ok (jm_PP l D clC ad aC shC b0 1)) (hrec : ∀ (t : Nat) (av : List Value) (x : jm_X), jm_Con (jm_PP l D clC ad aC shC b0 1) (rcC t) d0 av x (g t av x)) : ∀ (k : Nat) (v2 : Int32) (v3 : Int32) (x : jm_X), jm_V (jm_PP l D clC ad aC shC b0 1) mt_G_object (d0 + 12) 27 [(0, .ref 2), (2, .int v2), (3, .int v3)] [] x (L_G_object_27 K g k v2 v3 x)
  | 0, _, _, _ => jm_V.stuck
  | k + 1, v2, v3, x => jb_G_object_27 hok hrec (fun v2 v3 x => jl_G_object_27 hok hrec k v2 v3 x) v2 v3 x
def f_G_object (K : Nat) (g : jm_Rec) (a1 : Int32) (x : jm_X) : Option jm_R := jm_bI (f_G_opened K g (a1 + 1) x) (fun b2 x1 => jm_bV (f_G_takeAs K g 10 x1) (fun x3 => jm_bI (f_G_takes K g 1017 x3) (fun b5 x4 => (if b5 = 0 then L_G_object_27 K g K b2 0 x4 else some (.inl (none, x4))))))
set_option maxRecDepth 100000 in
set_option maxHeartbeats 4000000 in
theorem c_G_object {l : Launch} {D : va_G} {ad : Nat → Nat} {aC : Nat → ClassId} {b0 : Nat} {K d0 : Nat} {g : jm_Rec} (hok : jm_Ok (jm_PP l D clC ad aC shC b0 1)) (hrec : ∀ (t : Nat) (av : List Value) (x : jm_X), jm_Con (jm_PP l D clC ad aC shC b0 1) (rcC t) d0 av x (g t av x)) (a1 : Int32) (x : jm_X) : jm_Con (jm_PP l D clC ad aC shC b0 1) mt_G_object (d0 + 12) [.ref 2, .int a1] x (f_G_object K g a1 x) := by
  refine jm_Con.of (plainFor_of_name (by decide +kernel)) (Nat.le_of_ble_eq_true rfl) ?_
  have hT := tk_G (l := l) (D := D) (ad := ad) (aC := aC) (b0 := b0)
  unfold f_G_object
  show jm_V _ _ _ 0 [(0, .ref 2), (1, .int a1)] [] x _
  refine jm_V.run (is := bk_G_object_0_4) (pc' := 4) (ls' := [(0, .ref 2), (1, .int a1)]) (st' := [.int (a1 + 1), .ref 2]) (x' := x) hok hT bk_G_object_0_4_ok rfl ?_
  refine jm_V.callI (av := [.ref 2, .int (a1 + 1)]) (rest := []) hok (jm_Con.mono (c_G_opened hok hrec (a1 + 1) x) (by omega)) (jm_Inv.obj (q := ("FilterReader$Grammar", T_G, 5)) dd_G_object_4 (Or.inl lk_G_127) mn_G_opened ms_G_opened mw_G_opened mh_G_opened ml_G_opened rfl rfl) mw_G_opened mi_G (Nat.le_of_ble_eq_true rfl) (Nat.le_of_ble_eq_true rfl) (fun b2 x1 => ?_)
  refine jm_V.run (is := bk_G_object_7_3) (pc' := 11) (ls' := [(2, .int b2), (0, .ref 2), (1, .int a1)]) (st' := [.int 10, .ref 2]) (x' := x1) hok hT bk_G_object_7_3_ok rfl ?_
  refine jm_V.callV (av := [.ref 2, .int 10]) (rest := []) hok (jm_Con.mono (c_G_takeAs hok hrec 10 x1) (by omega)) (jm_Inv.obj (q := ("FilterReader$Grammar", T_G, 5)) dd_G_object_11 (Or.inl lk_G_124) mn_G_takeAs ms_G_takeAs mw_G_takeAs mh_G_takeAs ml_G_takeAs rfl rfl) mw_G_takeAs mi_G (Nat.le_of_ble_eq_true rfl) (Nat.le_of_ble_eq_true rfl) (fun x3 => ?_)
  refine jm_V.run (is := bk_G_object_14_2) (pc' := 18) (ls' := [(2, .int b2), (0, .ref 2), (1, .int a1)]) (st' := [.ref 1017, .ref 2]) (x' := x3) hok hT bk_G_object_14_2_ok rfl ?_
  refine jm_V.callI (av := [.ref 2, .ref 1017]) (rest := []) hok (jm_Con.mono (c_G_takes hok hrec 1017 x3) (by omega)) (jm_Inv.obj (q := ("FilterReader$Grammar", T_G, 5)) dd_G_object_18 (Or.inl lk_G_154) mn_G_takes ms_G_takes mw_G_takes mh_G_takes ml_G_takes rfl rfl) mw_G_takes mi_G (Nat.le_of_ble_eq_true rfl) (Nat.le_of_ble_eq_true rfl) (fun b5 x4 => ?_)
  refine jm_V.run (is := bk_G_object_21_1) (pc' := (if b5 = 0 then 25 else 24)) (ls' := [(2, .int b2), (0, .ref 2), (1, .int a1)]) (st' := []) (x' := x4) hok hT bk_G_object_21_1_ok rfl ?_
  refine jm_V.ite (fun _ => ?_) (fun _ => ?_)
  · refine jm_V.run (is := bk_G_object_25_2) (pc' := 27) (ls' := [(3, .int 0), (2, .int b2), (0, .ref 2), (1, .int a1)]) (st' := []) (x' := x4) hok hT bk_G_object_25_2_ok rfl ?_
    refine jm_V.sub (ls' := [(0, .ref 2), (2, .int b2), (3, .int 0)]) [2, 1, 0] rfl ?_
    exact jl_G_object_27 hok hrec K b2 0 x4
  · exact jm_V.vret rfl dd_G_object_24
abbrev bk_G_term_0_3 : List (Nat × Instr × Nat) := [(0, .getstatic 182, 3), (3, .aload_n 0, 1), (4, .getfield 20, 3)]
theorem bk_G_term_0_3_ok : jm_at mt_G_term.2.1 bk_G_term_0_3 = true := by decide +kernel
abbrev bk_G_term_72_2 : List (Nat × Instr × Nat) := [(72, .aload_n 0, 1), (73, .iconst 0, 1)]
theorem bk_G_term_72_2_ok : jm_at mt_G_term.2.1 bk_G_term_72_2 = true := by decide +kernel
abbrev bk_G_term_77_3 : List (Nat × Instr × Nat) := [(77, .aload_n 0, 1), (78, .getfield 20, 3), (81, .getstatic 231, 3)]
theorem bk_G_term_77_3_ok : jm_at mt_G_term.2.1 bk_G_term_77_3 = true := by decide +kernel
abbrev bk_G_term_87_1 : List (Nat × Instr × Nat) := [(87, .ifCond .eq 118, 3)]
theorem bk_G_term_87_1_ok : jm_at mt_G_term.2.1 bk_G_term_87_1 = true := by decide +kernel
abbrev bk_G_term_90_2 : List (Nat × Instr × Nat) := [(90, .aload_n 0, 1), (91, .iconst 2, 1)]
theorem bk_G_term_90_2_ok : jm_at mt_G_term.2.1 bk_G_term_90_2 = true := by decide +kernel
abbrev bk_G_term_95_2 : List (Nat × Instr × Nat) := [(95, .aload_n 0, 1), (96, .iload_n 1, 1)]
theorem bk_G_term_95_2_ok : jm_at mt_G_term.2.1 bk_G_term_95_2 = true := by decide +kernel
abbrev bk_G_term_100_1 : List (Nat × Instr × Nat) := [(100, .goto 105, 3)]
theorem bk_G_term_100_1_ok : jm_at mt_G_term.2.1 bk_G_term_100_1 = true := by decide +kernel
abbrev bk_G_term_103_2 : List (Nat × Instr × Nat) := [(103, .aload_n 0, 1), (104, .iconst 0, 1)]
theorem bk_G_term_103_2_ok : jm_at mt_G_term.2.1 bk_G_term_103_2 = true := by decide +kernel
abbrev bk_G_term_108_1 : List (Nat × Instr × Nat) := [(108, .aload_n 0, 1)]
theorem bk_G_term_108_1_ok : jm_at mt_G_term.2.1 bk_G_term_108_1 = true := by decide +kernel
abbrev bk_G_term_112_1 : List (Nat × Instr × Nat) := [(112, .goto 93, 3)]
theorem bk_G_term_112_1_ok : jm_at mt_G_term.2.1 bk_G_term_112_1 = true := by decide +kernel
abbrev bk_G_term_115_2 : List (Nat × Instr × Nat) := [(115, .aload_n 0, 1), (116, .iconst 1, 1)]
theorem bk_G_term_115_2_ok : jm_at mt_G_term.2.1 bk_G_term_115_2 = true := by decide +kernel
abbrev bk_G_term_120_1 : List (Nat × Instr × Nat) := [(120, .goto 85, 3)]
theorem bk_G_term_120_1_ok : jm_at mt_G_term.2.1 bk_G_term_120_1 = true := by decide +kernel
abbrev bk_G_term_123_2 : List (Nat × Instr × Nat) := [(123, .aload_n 0, 1), (124, .bipush 6, 2)]
theorem bk_G_term_123_2_ok : jm_at mt_G_term.2.1 bk_G_term_123_2 = true := by decide +kernel
abbrev bk_G_term_129_1 : List (Nat × Instr × Nat) := [(129, .goto 76, 3)]
theorem bk_G_term_129_1_ok : jm_at mt_G_term.2.1 bk_G_term_129_1 = true := by decide +kernel
abbrev bk_G_term_132_2 : List (Nat × Instr × Nat) := [(132, .aload_n 0, 1), (133, .iload_n 1, 1)]
theorem bk_G_term_132_2_ok : jm_at mt_G_term.2.1 bk_G_term_132_2 = true := by decide +kernel
abbrev bk_G_term_137_1 : List (Nat × Instr × Nat) := [(137, .goto 68, 3)]
theorem bk_G_term_137_1_ok : jm_at mt_G_term.2.1 bk_G_term_137_1 = true := by decide +kernel
abbrev bk_G_term_140_2 : List (Nat × Instr × Nat) := [(140, .aload_n 0, 1), (141, .iload_n 1, 1)]
theorem bk_G_term_140_2_ok : jm_at mt_G_term.2.1 bk_G_term_140_2 = true := by decide +kernel
abbrev bk_G_term_145_1 : List (Nat × Instr × Nat) := [(145, .goto 60, 3)]
theorem bk_G_term_145_1_ok : jm_at mt_G_term.2.1 bk_G_term_145_1 = true := by decide +kernel
abbrev bk_G_term_148_2 : List (Nat × Instr × Nat) := [(148, .aload_n 0, 1), (149, .iload_n 1, 1)]
theorem bk_G_term_148_2_ok : jm_at mt_G_term.2.1 bk_G_term_148_2 = true := by decide +kernel
abbrev bk_G_term_153_1 : List (Nat × Instr × Nat) := [(153, .goto 52, 3)]
theorem bk_G_term_153_1_ok : jm_at mt_G_term.2.1 bk_G_term_153_1 = true := by decide +kernel
abbrev bk_G_term_156_2 : List (Nat × Instr × Nat) := [(156, .aload_n 0, 1), (157, .iload_n 1, 1)]
theorem bk_G_term_156_2_ok : jm_at mt_G_term.2.1 bk_G_term_156_2 = true := by decide +kernel
abbrev bk_G_term_161_1 : List (Nat × Instr × Nat) := [(161, .goto 44, 3)]
theorem bk_G_term_161_1_ok : jm_at mt_G_term.2.1 bk_G_term_161_1 = true := by decide +kernel
abbrev bk_G_term_164_2 : List (Nat × Instr × Nat) := [(164, .aload_n 0, 1), (165, .iload_n 1, 1)]
theorem bk_G_term_164_2_ok : jm_at mt_G_term.2.1 bk_G_term_164_2 = true := by decide +kernel
abbrev bk_G_term_169_1 : List (Nat × Instr × Nat) := [(169, .goto 36, 3)]
theorem bk_G_term_169_1_ok : jm_at mt_G_term.2.1 bk_G_term_169_1 = true := by decide +kernel
abbrev bk_G_term_172_1 : List (Nat × Instr × Nat) := [(172, .aload_n 0, 1)]
theorem bk_G_term_172_1_ok : jm_at mt_G_term.2.1 bk_G_term_172_1 = true := by decide +kernel
abbrev bk_G_term_176_1 : List (Nat × Instr × Nat) := [(176, .goto 29, 3)]
theorem bk_G_term_176_1_ok : jm_at mt_G_term.2.1 bk_G_term_176_1 = true := by decide +kernel
abbrev bk_G_term_179_2 : List (Nat × Instr × Nat) := [(179, .aload_n 0, 1), (180, .bipush (-2), 2)]
theorem bk_G_term_179_2_ok : jm_at mt_G_term.2.1 bk_G_term_179_2 = true := by decide +kernel
abbrev bk_G_term_185_2 : List (Nat × Instr × Nat) := [(185, .aload_n 0, 1), (186, .bipush 11, 2)]
theorem bk_G_term_185_2_ok : jm_at mt_G_term.2.1 bk_G_term_185_2 = true := by decide +kernel
abbrev bk_G_term_191_1 : List (Nat × Instr × Nat) := [(191, .goto 14, 3)]
theorem bk_G_term_191_1_ok : jm_at mt_G_term.2.1 bk_G_term_191_1 = true := by decide +kernel
abbrev bk_G_term_194_3 : List (Nat × Instr × Nat) := [(194, .aload_n 0, 1), (195, .aload_n 0, 1), (196, .getfield 20, 3)]
theorem bk_G_term_194_3_ok : jm_at mt_G_term.2.1 bk_G_term_194_3 = true := by decide +kernel
abbrev bk_G_term_205_2 : List (Nat × Instr × Nat) := [(205, .iconst 0, 1), (206, .istore_n 2, 1)]
theorem bk_G_term_205_2_ok : jm_at mt_G_term.2.1 bk_G_term_205_2 = true := by decide +kernel
abbrev bk_G_term_207_3 : List (Nat × Instr × Nat) := [(207, .iload_n 2, 1), (208, .sipush 16385, 3), (211, .if_icmp .ge 110, 3)]
theorem bk_G_term_207_3_ok : jm_at mt_G_term.2.1 bk_G_term_207_3 = true := by decide +kernel
abbrev bk_G_term_214_2 : List (Nat × Instr × Nat) := [(214, .aload_n 0, 1), (215, .getstatic 258, 3)]
theorem bk_G_term_214_2_ok : jm_at mt_G_term.2.1 bk_G_term_214_2 = true := by decide +kernel
abbrev bk_G_term_221_3 : List (Nat × Instr × Nat) := [(221, .istore_n 3, 1), (222, .iload_n 3, 1), (223, .ifCond .eq 29, 3)]
theorem bk_G_term_221_3_ok : jm_at mt_G_term.2.1 bk_G_term_221_3 = true := by decide +kernel
abbrev bk_G_term_226_3 : List (Nat × Instr × Nat) := [(226, .aload_n 0, 1), (227, .getfield 20, 3), (230, .getstatic 231, 3)]
theorem bk_G_term_226_3_ok : jm_at mt_G_term.2.1 bk_G_term_226_3 = true := by decide +kernel
abbrev bk_G_term_236_1 : List (Nat × Instr × Nat) := [(236, .ifCond .eq 16, 3)]
theorem bk_G_term_236_1_ok : jm_at mt_G_term.2.1 bk_G_term_236_1 = true := by decide +kernel
abbrev bk_G_term_239_2 : List (Nat × Instr × Nat) := [(239, .aload_n 0, 1), (240, .iconst 2, 1)]
theorem bk_G_term_239_2_ok : jm_at mt_G_term.2.1 bk_G_term_239_2 = true := by decide +kernel
abbrev bk_G_term_244_2 : List (Nat × Instr × Nat) := [(244, .aload_n 0, 1), (245, .iload_n 1, 1)]
theorem bk_G_term_244_2_ok : jm_at mt_G_term.2.1 bk_G_term_244_2 = true := by decide +kernel
abbrev bk_G_term_249_1 : List (Nat × Instr × Nat) := [(249, .goto 66, 3)]
theorem bk_G_term_249_1_ok : jm_at mt_G_term.2.1 bk_G_term_249_1 = true := by decide +kernel
abbrev bk_G_term_252_2 : List (Nat × Instr × Nat) := [(252, .iload_n 3, 1), (253, .ifCond .ne 16, 3)]
theorem bk_G_term_252_2_ok : jm_at mt_G_term.2.1 bk_G_term_252_2 = true := by decide +kernel
abbrev bk_G_term_256_3 : List (Nat × Instr × Nat) := [(256, .aload_n 0, 1), (257, .getfield 20, 3), (260, .getstatic 261, 3)]
theorem bk_G_term_256_3_ok : jm_at mt_G_term.2.1 bk_G_term_256_3 = true := by decide +kernel
abbrev bk_G_term_266_1 : List (Nat × Instr × Nat) := [(266, .ifCond .eq 11, 3)]
theorem bk_G_term_266_1_ok : jm_at mt_G_term.2.1 bk_G_term_266_1 = true := by decide +kernel
abbrev bk_G_term_277_3 : List (Nat × Instr × Nat) := [(277, .aload_n 0, 1), (278, .getfield 20, 3), (281, .getstatic 267, 3)]
theorem bk_G_term_277_3_ok : jm_at mt_G_term.2.1 bk_G_term_277_3 = true := by decide +kernel
abbrev bk_G_term_287_1 : List (Nat × Instr × Nat) := [(287, .ifCond .eq 10, 3)]
theorem bk_G_term_287_1_ok : jm_at mt_G_term.2.1 bk_G_term_287_1 = true := by decide +kernel
abbrev bk_G_term_297_3 : List (Nat × Instr × Nat) := [(297, .aload_n 0, 1), (298, .getfield 20, 3), (301, .getstatic 270, 3)]
theorem bk_G_term_297_3_ok : jm_at mt_G_term.2.1 bk_G_term_297_3 = true := by decide +kernel
abbrev bk_G_term_307_1 : List (Nat × Instr × Nat) := [(307, .ifCond .eq 14, 3)]
theorem bk_G_term_307_1_ok : jm_at mt_G_term.2.1 bk_G_term_307_1 = true := by decide +kernel
abbrev bk_G_term_310_2 : List (Nat × Instr × Nat) := [(310, .aload_n 0, 1), (311, .iconst 5, 1)]
theorem bk_G_term_310_2_ok : jm_at mt_G_term.2.1 bk_G_term_310_2 = true := by decide +kernel
abbrev bk_G_term_290_1 : List (Nat × Instr × Nat) := [(290, .aload_n 0, 1)]
theorem bk_G_term_290_1_ok : jm_at mt_G_term.2.1 bk_G_term_290_1 = true := by decide +kernel
abbrev bk_G_term_294_1 : List (Nat × Instr × Nat) := [(294, .goto 21, 3)]
theorem bk_G_term_294_1_ok : jm_at mt_G_term.2.1 bk_G_term_294_1 = true := by decide +kernel
abbrev bk_G_term_269_2 : List (Nat × Instr × Nat) := [(269, .aload_n 0, 1), (270, .iload_n 1, 1)]
theorem bk_G_term_269_2_ok : jm_at mt_G_term.2.1 bk_G_term_269_2 = true := by decide +kernel
abbrev bk_G_term_274_1 : List (Nat × Instr × Nat) := [(274, .goto 41, 3)]
theorem bk_G_term_274_1_ok : jm_at mt_G_term.2.1 bk_G_term_274_1 = true := by decide +kernel
abbrev bk_G_term_315_2 : List (Nat × Instr × Nat) := [(315, .iinc 2 1, 3), (318, .goto (-111), 3)]
theorem bk_G_term_315_2_ok : jm_at mt_G_term.2.1 bk_G_term_315_2 = true := by decide +kernel
theorem dd_G_term_7 : decode mt_G_term.2.1 7 = .ok (.invokevirtual 112, 3) := by decide +kernel
theorem dd_G_term_10 : decode mt_G_term.2.1 10 = .ok (.invokevirtual 187, 3) := by decide +kernel
theorem dd_G_term_74 : decode mt_G_term.2.1 74 = .ok (.invokevirtual 124, 3) := by decide +kernel
theorem dd_G_term_84 : decode mt_G_term.2.1 84 = .ok (.invokevirtual 71, 3) := by decide +kernel
theorem dd_G_term_92 : decode mt_G_term.2.1 92 = .ok (.invokevirtual 85, 3) := by decide +kernel
theorem dd_G_term_97 : decode mt_G_term.2.1 97 = .ok (.invokevirtual 234, 3) := by decide +kernel
theorem dd_G_term_105 : decode mt_G_term.2.1 105 = .ok (.invokevirtual 85, 3) := by decide +kernel
theorem dd_G_term_109 : decode mt_G_term.2.1 109 = .ok (.invokevirtual 237, 3) := by decide +kernel
theorem dd_G_term_117 : decode mt_G_term.2.1 117 = .ok (.invokevirtual 124, 3) := by decide +kernel
theorem dd_G_term_126 : decode mt_G_term.2.1 126 = .ok (.invokevirtual 124, 3) := by decide +kernel
theorem dd_G_term_134 : decode mt_G_term.2.1 134 = .ok (.invokevirtual 234, 3) := by decide +kernel
theorem dd_G_term_142 : decode mt_G_term.2.1 142 = .ok (.invokevirtual 240, 3) := by decide +kernel
theorem dd_G_term_150 : decode mt_G_term.2.1 150 = .ok (.invokevirtual 243, 3) := by decide +kernel
theorem dd_G_term_158 : decode mt_G_term.2.1 158 = .ok (.invokevirtual 246, 3) := by decide +kernel
theorem dd_G_term_166 : decode mt_G_term.2.1 166 = .ok (.invokevirtual 249, 3) := by decide +kernel
theorem dd_G_term_173 : decode mt_G_term.2.1 173 = .ok (.invokevirtual 252, 3) := by decide +kernel
theorem dd_G_term_182 : decode mt_G_term.2.1 182 = .ok (.invokevirtual 255, 3) := by decide +kernel
theorem dd_G_term_188 : decode mt_G_term.2.1 188 = .ok (.invokevirtual 124, 3) := by decide +kernel
theorem dd_G_term_199 : decode mt_G_term.2.1 199 = .ok (.invokevirtual 75, 3) := by decide +kernel
theorem dd_G_term_202 : decode mt_G_term.2.1 202 = .ok (.invokevirtual 79, 3) := by decide +kernel
theorem dd_G_term_14 : decode mt_G_term.2.1 14 = .ok (.tableswitch 180 6 16 #[58, 89, 101, 109, 118, 126, 134, 142, 150, 158, 165], 58) := by decide +kernel
theorem dd_G_term_13 : decode mt_G_term.2.1 13 = .ok (.iaload, 1) := by decide +kernel
theorem dd_G_term_218 : decode mt_G_term.2.1 218 = .ok (.invokevirtual 154, 3) := by decide +kernel
theorem dd_G_term_233 : decode mt_G_term.2.1 233 = .ok (.invokevirtual 71, 3) := by decide +kernel
theorem dd_G_term_241 : decode mt_G_term.2.1 241 = .ok (.invokevirtual 85, 3) := by decide +kernel
theorem dd_G_term_246 : decode mt_G_term.2.1 246 = .ok (.invokevirtual 234, 3) := by decide +kernel
theorem dd_G_term_263 : decode mt_G_term.2.1 263 = .ok (.invokevirtual 71, 3) := by decide +kernel
theorem dd_G_term_284 : decode mt_G_term.2.1 284 = .ok (.invokevirtual 71, 3) := by decide +kernel
theorem dd_G_term_304 : decode mt_G_term.2.1 304 = .ok (.invokevirtual 71, 3) := by decide +kernel
theorem dd_G_term_312 : decode mt_G_term.2.1 312 = .ok (.invokevirtual 124, 3) := by decide +kernel
theorem dd_G_term_291 : decode mt_G_term.2.1 291 = .ok (.invokevirtual 237, 3) := by decide +kernel
theorem dd_G_term_271 : decode mt_G_term.2.1 271 = .ok (.invokevirtual 264, 3) := by decide +kernel
theorem dd_G_term_321 : decode mt_G_term.2.1 321 = .ok (.return_, 1) := by decide +kernel
def J_G_term_321 (K : Nat) (g : jm_Rec)  (x : jm_X) : Option jm_R := some (.inl (none, x))
set_option maxRecDepth 100000 in
set_option maxHeartbeats 4000000 in
theorem jj_G_term_321 {l : Launch} {D : va_G} {ad : Nat → Nat} {aC : Nat → ClassId} {b0 : Nat} {K d0 : Nat} {g : jm_Rec} (hok : jm_Ok (jm_PP l D clC ad aC shC b0 1)) (hrec : ∀ (t : Nat) (av : List Value) (x : jm_X), jm_Con (jm_PP l D clC ad aC shC b0 1) (rcC t) d0 av x (g t av x))  (x : jm_X) : jm_V (jm_PP l D clC ad aC shC b0 1) mt_G_term (d0 + 13) 321 [] [] x (J_G_term_321 K g  x) := by
  have hT := tk_G (l := l) (D := D) (ad := ad) (aC := aC) (b0 := b0)
  unfold J_G_term_321
  exact jm_V.vret rfl dd_G_term_321
def J_G_term_315 (K : Nat) (g : jm_Rec) (k207 : Int32 → Int32 → jm_X → Option jm_R) (v1 : Int32) (v2 : Int32) (x : jm_X) : Option jm_R := k207 v1 (v2 + 1) x
set_option maxRecDepth 100000 in
set_option maxHeartbeats 4000000 in
theorem jj_G_term_315 {l : Launch} {D : va_G} {ad : Nat → Nat} {aC : Nat → ClassId} {b0 : Nat} {K d0 : Nat} {g : jm_Rec} (hok : jm_Ok (jm_PP l D clC ad aC shC b0 1)) (hrec : ∀ (t : Nat) (av : List Value) (x : jm_X), jm_Con (jm_PP l D clC ad aC shC b0 1) (rcC t) d0 av x (g t av x)) {k207 : Int32 → Int32 → jm_X → Option jm_R} (hk207 : ∀ (v1 : Int32) (v2 : Int32) (x : jm_X), jm_V (jm_PP l D clC ad aC shC b0 1) mt_G_term (d0 + 13) 207 [(0, .ref 2), (1, .int v1), (2, .int v2)] [] x (k207 v1 v2 x)) (v1 : Int32) (v2 : Int32) (x : jm_X) : jm_V (jm_PP l D clC ad aC shC b0 1) mt_G_term (d0 + 13) 315 [(0, .ref 2), (1, .int v1), (2, .int v2)] [] x (J_G_term_315 K g k207 v1 v2 x) := by
  have hT := tk_G (l := l) (D := D) (ad := ad) (aC := aC) (b0 := b0)
  unfold J_G_term_315
  refine jm_V.run (is := bk_G_term_315_2) (pc' := 207) (ls' := [(2, .int (v2 + 1)), (0, .ref 2), (1, .int v1)]) (st' := []) (x' := x) hok hT bk_G_term_315_2_ok rfl ?_
  refine jm_V.sub (ls' := [(0, .ref 2), (1, .int v1), (2, .int (v2 + 1))]) [1, 2, 0] rfl ?_
  exact hk207 v1 (v2 + 1) x
def J_G_term_269 (K : Nat) (g : jm_Rec) (k207 : Int32 → Int32 → jm_X → Option jm_R) (v1 : Int32) (v2 : Int32) (x : jm_X) : Option jm_R := jm_bV (f_G_brackets K g v1 x) (fun x39 => J_G_term_315 K g k207 v1 v2 x39)
set_option maxRecDepth 100000 in
set_option maxHeartbeats 4000000 in
theorem jj_G_term_269 {l : Launch} {D : va_G} {ad : Nat → Nat} {aC : Nat → ClassId} {b0 : Nat} {K d0 : Nat} {g : jm_Rec} (hok : jm_Ok (jm_PP l D clC ad aC shC b0 1)) (hrec : ∀ (t : Nat) (av : List Value) (x : jm_X), jm_Con (jm_PP l D clC ad aC shC b0 1) (rcC t) d0 av x (g t av x)) {k207 : Int32 → Int32 → jm_X → Option jm_R} (hk207 : ∀ (v1 : Int32) (v2 : Int32) (x : jm_X), jm_V (jm_PP l D clC ad aC shC b0 1) mt_G_term (d0 + 13) 207 [(0, .ref 2), (1, .int v1), (2, .int v2)] [] x (k207 v1 v2 x)) (v1 : Int32) (v2 : Int32) (x : jm_X) : jm_V (jm_PP l D clC ad aC shC b0 1) mt_G_term (d0 + 13) 269 [(0, .ref 2), (1, .int v1), (2, .int v2)] [] x (J_G_term_269 K g k207 v1 v2 x) := by
  have hT := tk_G (l := l) (D := D) (ad := ad) (aC := aC) (b0 := b0)
  unfold J_G_term_269
  refine jm_V.run (is := bk_G_term_269_2) (pc' := 271) (ls' := [(0, .ref 2), (1, .int v1), (2, .int v2)]) (st' := [.int v1, .ref 2]) (x' := x) hok hT bk_G_term_269_2_ok rfl ?_
  refine jm_V.callV (av := [.ref 2, .int v1]) (rest := []) hok (jm_Con.mono (c_G_brackets hok hrec v1 x) (by omega)) (jm_Inv.obj (q := ("FilterReader$Grammar", T_G, 5)) dd_G_term_271 (Or.inl lk_G_264) mn_G_brackets ms_G_brackets mw_G_brackets mh_G_brackets ml_G_brackets rfl rfl) mw_G_brackets mi_G (Nat.le_of_ble_eq_true rfl) (Nat.le_of_ble_eq_true rfl) (fun x39 => ?_)
  refine jm_V.run (is := bk_G_term_274_1) (pc' := 315) (ls' := [(0, .ref 2), (1, .int v1), (2, .int v2)]) (st' := []) (x' := x39) hok hT bk_G_term_274_1_ok rfl ?_
  exact jj_G_term_315 hok hrec hk207 v1 v2 x39
def J_G_term_252 (K : Nat) (g : jm_Rec) (k207 : Int32 → Int32 → jm_X → Option jm_R) (v1 : Int32) (v2 : Int32) (v3 : Int32) (x : jm_X) : Option jm_R := (if v3 = 0 then jm_bI (f_S_is K g 1014 x) (fun b32 x31 => (if b32 = 0 then jm_bI (f_S_is K g 1003 x31) (fun b34 x33 => (if b34 = 0 then jm_bI (f_S_is K g 1009 x33) (fun b36 x35 => (if b36 = 0 then J_G_term_321 K g x35 else jm_bV (f_G_takeAs K g 5 x35) (fun x37 => J_G_term_315 K g k207 v1 v2 x37))) else jm_bV (f_G_field K g x33) (fun x38 => J_G_term_315 K g k207 v1 v2 x38))) else J_G_term_269 K g k207 v1 v2 x31)) else J_G_term_269 K g k207 v1 v2 x)
set_option maxRecDepth 100000 in
set_option maxHeartbeats 4000000 in
theorem jj_G_term_252 {l : Launch} {D : va_G} {ad : Nat → Nat} {aC : Nat → ClassId} {b0 : Nat} {K d0 : Nat} {g : jm_Rec} (hok : jm_Ok (jm_PP l D clC ad aC shC b0 1)) (hrec : ∀ (t : Nat) (av : List Value) (x : jm_X), jm_Con (jm_PP l D clC ad aC shC b0 1) (rcC t) d0 av x (g t av x)) {k207 : Int32 → Int32 → jm_X → Option jm_R} (hk207 : ∀ (v1 : Int32) (v2 : Int32) (x : jm_X), jm_V (jm_PP l D clC ad aC shC b0 1) mt_G_term (d0 + 13) 207 [(0, .ref 2), (1, .int v1), (2, .int v2)] [] x (k207 v1 v2 x)) (v1 : Int32) (v2 : Int32) (v3 : Int32) (x : jm_X) : jm_V (jm_PP l D clC ad aC shC b0 1) mt_G_term (d0 + 13) 252 [(0, .ref 2), (1, .int v1), (2, .int v2), (3, .int v3)] [] x (J_G_term_252 K g k207 v1 v2 v3 x) := by
  have hT := tk_G (l := l) (D := D) (ad := ad) (aC := aC) (b0 := b0)
  unfold J_G_term_252
  refine jm_V.run (is := bk_G_term_252_2) (pc' := (if v3 = 0 then 256 else 269)) (ls' := [(0, .ref 2), (1, .int v1), (2, .int v2), (3, .int v3)]) (st' := []) (x' := x) hok hT bk_G_term_252_2_ok rfl ?_
  refine jm_V.ite (fun _ => ?_) (fun _ => ?_)
  · refine jm_V.run (is := bk_G_term_256_3) (pc' := 263) (ls' := [(0, .ref 2), (1, .int v1), (2, .int v2), (3, .int v3)]) (st' := [.ref 1014, .ref 4]) (x' := x) hok hT bk_G_term_256_3_ok rfl ?_
    refine jm_V.callI (av := [.ref 4, .ref 1014]) (rest := []) hok (jm_Con.mono (c_S_is hok hrec 1014 x) (by omega)) (jm_Inv.obj (q := ("FilterReader$Signs", T_S, 5)) dd_G_term_263 (Or.inl lk_G_71) mn_S_is ms_S_is mw_S_is mh_S_is ml_S_is rfl rfl) mw_S_is mi_S (Nat.le_of_ble_eq_true rfl) (Nat.le_of_ble_eq_true rfl) (fun b32 x31 => ?_)
    refine jm_V.run (is := bk_G_term_266_1) (pc' := (if b32 = 0 then 277 else 269)) (ls' := [(0, .ref 2), (1, .int v1), (2, .int v2), (3, .int v3)]) (st' := []) (x' := x31) hok hT bk_G_term_266_1_ok rfl ?_
    refine jm_V.ite (fun _ => ?_) (fun _ => ?_)
    · refine jm_V.run (is := bk_G_term_277_3) (pc' := 284) (ls' := [(0, .ref 2), (1, .int v1), (2, .int v2), (3, .int v3)]) (st' := [.ref 1003, .ref 4]) (x' := x31) hok hT bk_G_term_277_3_ok rfl ?_
      refine jm_V.callI (av := [.ref 4, .ref 1003]) (rest := []) hok (jm_Con.mono (c_S_is hok hrec 1003 x31) (by omega)) (jm_Inv.obj (q := ("FilterReader$Signs", T_S, 5)) dd_G_term_284 (Or.inl lk_G_71) mn_S_is ms_S_is mw_S_is mh_S_is ml_S_is rfl rfl) mw_S_is mi_S (Nat.le_of_ble_eq_true rfl) (Nat.le_of_ble_eq_true rfl) (fun b34 x33 => ?_)
      refine jm_V.run (is := bk_G_term_287_1) (pc' := (if b34 = 0 then 297 else 290)) (ls' := [(0, .ref 2), (1, .int v1), (2, .int v2), (3, .int v3)]) (st' := []) (x' := x33) hok hT bk_G_term_287_1_ok rfl ?_
      refine jm_V.ite (fun _ => ?_) (fun _ => ?_)
      · refine jm_V.run (is := bk_G_term_297_3) (pc' := 304) (ls' := [(0, .ref 2), (1, .int v1), (2, .int v2), (3, .int v3)]) (st' := [.ref 1009, .ref 4]) (x' := x33) hok hT bk_G_term_297_3_ok rfl ?_
        refine jm_V.callI (av := [.ref 4, .ref 1009]) (rest := []) hok (jm_Con.mono (c_S_is hok hrec 1009 x33) (by omega)) (jm_Inv.obj (q := ("FilterReader$Signs", T_S, 5)) dd_G_term_304 (Or.inl lk_G_71) mn_S_is ms_S_is mw_S_is mh_S_is ml_S_is rfl rfl) mw_S_is mi_S (Nat.le_of_ble_eq_true rfl) (Nat.le_of_ble_eq_true rfl) (fun b36 x35 => ?_)
        refine jm_V.run (is := bk_G_term_307_1) (pc' := (if b36 = 0 then 321 else 310)) (ls' := [(0, .ref 2), (1, .int v1), (2, .int v2), (3, .int v3)]) (st' := []) (x' := x35) hok hT bk_G_term_307_1_ok rfl ?_
        refine jm_V.ite (fun _ => ?_) (fun _ => ?_)
        · refine jm_V.sub (ls' := []) [] rfl ?_
          exact jj_G_term_321 hok hrec x35
        · refine jm_V.run (is := bk_G_term_310_2) (pc' := 312) (ls' := [(0, .ref 2), (1, .int v1), (2, .int v2), (3, .int v3)]) (st' := [.int 5, .ref 2]) (x' := x35) hok hT bk_G_term_310_2_ok rfl ?_
          refine jm_V.callV (av := [.ref 2, .int 5]) (rest := []) hok (jm_Con.mono (c_G_takeAs hok hrec 5 x35) (by omega)) (jm_Inv.obj (q := ("FilterReader$Grammar", T_G, 5)) dd_G_term_312 (Or.inl lk_G_124) mn_G_takeAs ms_G_takeAs mw_G_takeAs mh_G_takeAs ml_G_takeAs rfl rfl) mw_G_takeAs mi_G (Nat.le_of_ble_eq_true rfl) (Nat.le_of_ble_eq_true rfl) (fun x37 => ?_)
          refine jm_V.sub (ls' := [(0, .ref 2), (1, .int v1), (2, .int v2)]) [0, 1, 2] rfl ?_
          exact jj_G_term_315 hok hrec hk207 v1 v2 x37
      · refine jm_V.run (is := bk_G_term_290_1) (pc' := 291) (ls' := [(0, .ref 2), (1, .int v1), (2, .int v2), (3, .int v3)]) (st' := [.ref 2]) (x' := x33) hok hT bk_G_term_290_1_ok rfl ?_
        refine jm_V.callV (av := [.ref 2]) (rest := []) hok (jm_Con.mono (c_G_field hok hrec x33) (by omega)) (jm_Inv.obj (q := ("FilterReader$Grammar", T_G, 5)) dd_G_term_291 (Or.inl lk_G_237) mn_G_field ms_G_field mw_G_field mh_G_field ml_G_field rfl rfl) mw_G_field mi_G (Nat.le_of_ble_eq_true rfl) (Nat.le_of_ble_eq_true rfl) (fun x38 => ?_)
        refine jm_V.run (is := bk_G_term_294_1) (pc' := 315) (ls' := [(0, .ref 2), (1, .int v1), (2, .int v2), (3, .int v3)]) (st' := []) (x' := x38) hok hT bk_G_term_294_1_ok rfl ?_
        refine jm_V.sub (ls' := [(0, .ref 2), (1, .int v1), (2, .int v2)]) [0, 1, 2] rfl ?_
        exact jj_G_term_315 hok hrec hk207 v1 v2 x38
    · refine jm_V.sub (ls' := [(0, .ref 2), (1, .int v1), (2, .int v2)]) [0, 1, 2] rfl ?_
      exact jj_G_term_269 hok hrec hk207 v1 v2 x31
  · refine jm_V.sub (ls' := [(0, .ref 2), (1, .int v1), (2, .int v2)]) [0, 1, 2] rfl ?_
    exact jj_G_term_269 hok hrec hk207 v1 v2 x
def B_G_term_207 (K : Nat) (g : jm_Rec) (self : Int32 → Int32 → jm_X → Option jm_R) (v1 : Int32) (v2 : Int32) (x : jm_X) : Option jm_R := (if 16385 ≤ v2 then J_G_term_321 K g x else jm_bI (f_G_takes K g 1007 x) (fun b26 x25 => (if b26 = 0 then J_G_term_252 K g self v1 v2 b26 x25 else jm_bI (f_S_is K g 1006 x25) (fun b28 x27 => (if b28 = 0 then J_G_term_252 K g self v1 v2 b26 x27 else jm_bV (f_G_count K g 2 x27) (fun x29 => jm_bV (f_G_string K g v1 x29) (fun x30 => J_G_term_315 K g self v1 v2 x30)))))))
def L_G_term_207 (K : Nat) (g : jm_Rec) : Nat → Int32 → Int32 → jm_X → Option jm_R
  | 0, _, _, _ => none
  | k + 1, v1, v2, x => B_G_term_207 K g (L_G_term_207 K g k) v1 v2 x
set_option maxRecDepth 100000 in
set_option maxHeartbeats 4000000 in
theorem jb_G_term_207 {l : Launch} {D : va_G} {ad : Nat → Nat} {aC : Nat → ClassId} {b0 : Nat} {K d0 : Nat} {g : jm_Rec} (hok : jm_Ok (jm_PP l D clC ad aC shC b0 1)) (hrec : ∀ (t : Nat) (av : List Value) (x : jm_X), jm_Con (jm_PP l D clC ad aC shC b0 1) (rcC t) d0 av x (g t av x)) {self : Int32 → Int32 → jm_X → Option jm_R} (hself : ∀ (v1 : Int32) (v2 : Int32) (x : jm_X), jm_V (jm_PP l D clC ad aC shC b0 1) mt_G_term (d0 + 13) 207 [(0, .ref 2), (1, .int v1), (2, .int v2)] [] x (self v1 v2 x)) (v1 : Int32) (v2 : Int32) (x : jm_X) : jm_V (jm_PP l D clC ad aC shC b0 1) mt_G_term (d0 + 13) 207 [(0, .ref 2), (1, .int v1), (2, .int v2)] [] x (B_G_term_207 K g self v1 v2 x) := by
  have hT := tk_G (l := l) (D := D) (ad := ad) (aC := aC) (b0 := b0)
  unfold B_G_term_207
  refine jm_V.run (is := bk_G_term_207_3) (pc' := (if 16385 ≤ v2 then 321 else 214)) (ls' := [(0, .ref 2), (1, .int v1), (2, .int v2)]) (st' := []) (x' := x) hok hT bk_G_term_207_3_ok rfl ?_
  refine jm_V.ite (fun _ => ?_) (fun _ => ?_)
  · refine jm_V.sub (ls' := []) [] rfl ?_
    exact jj_G_term_321 hok hrec x
  · refine jm_V.run (is := bk_G_term_214_2) (pc' := 218) (ls' := [(0, .ref 2), (1, .int v1), (2, .int v2)]) (st' := [.ref 1007, .ref 2]) (x' := x) hok hT bk_G_term_214_2_ok rfl ?_
    refine jm_V.callI (av := [.ref 2, .ref 1007]) (rest := []) hok (jm_Con.mono (c_G_takes hok hrec 1007 x) (by omega)) (jm_Inv.obj (q := ("FilterReader$Grammar", T_G, 5)) dd_G_term_218 (Or.inl lk_G_154) mn_G_takes ms_G_takes mw_G_takes mh_G_takes ml_G_takes rfl rfl) mw_G_takes mi_G (Nat.le_of_ble_eq_true rfl) (Nat.le_of_ble_eq_true rfl) (fun b26 x25 => ?_)
    refine jm_V.run (is := bk_G_term_221_3) (pc' := (if b26 = 0 then 252 else 226)) (ls' := [(3, .int b26), (0, .ref 2), (1, .int v1), (2, .int v2)]) (st' := []) (x' := x25) hok hT bk_G_term_221_3_ok rfl ?_
    refine jm_V.ite (fun _ => ?_) (fun _ => ?_)
    · refine jm_V.sub (ls' := [(0, .ref 2), (1, .int v1), (2, .int v2), (3, .int b26)]) [1, 2, 3, 0] rfl ?_
      exact jj_G_term_252 hok hrec hself v1 v2 b26 x25
    · refine jm_V.run (is := bk_G_term_226_3) (pc' := 233) (ls' := [(3, .int b26), (0, .ref 2), (1, .int v1), (2, .int v2)]) (st' := [.ref 1006, .ref 4]) (x' := x25) hok hT bk_G_term_226_3_ok rfl ?_
      refine jm_V.callI (av := [.ref 4, .ref 1006]) (rest := []) hok (jm_Con.mono (c_S_is hok hrec 1006 x25) (by omega)) (jm_Inv.obj (q := ("FilterReader$Signs", T_S, 5)) dd_G_term_233 (Or.inl lk_G_71) mn_S_is ms_S_is mw_S_is mh_S_is ml_S_is rfl rfl) mw_S_is mi_S (Nat.le_of_ble_eq_true rfl) (Nat.le_of_ble_eq_true rfl) (fun b28 x27 => ?_)
      refine jm_V.run (is := bk_G_term_236_1) (pc' := (if b28 = 0 then 252 else 239)) (ls' := [(3, .int b26), (0, .ref 2), (1, .int v1), (2, .int v2)]) (st' := []) (x' := x27) hok hT bk_G_term_236_1_ok rfl ?_
      refine jm_V.ite (fun _ => ?_) (fun _ => ?_)
      · refine jm_V.sub (ls' := [(0, .ref 2), (1, .int v1), (2, .int v2), (3, .int b26)]) [1, 2, 3, 0] rfl ?_
        exact jj_G_term_252 hok hrec hself v1 v2 b26 x27
      · refine jm_V.run (is := bk_G_term_239_2) (pc' := 241) (ls' := [(3, .int b26), (0, .ref 2), (1, .int v1), (2, .int v2)]) (st' := [.int 2, .ref 2]) (x' := x27) hok hT bk_G_term_239_2_ok rfl ?_
        refine jm_V.callV (av := [.ref 2, .int 2]) (rest := []) hok (jm_Con.mono (c_G_count hok hrec 2 x27) (by omega)) (jm_Inv.obj (q := ("FilterReader$Grammar", T_G, 5)) dd_G_term_241 (Or.inl lk_G_85) mn_G_count ms_G_count mw_G_count mh_G_count ml_G_count rfl rfl) mw_G_count mi_G (Nat.le_of_ble_eq_true rfl) (Nat.le_of_ble_eq_true rfl) (fun x29 => ?_)
        refine jm_V.run (is := bk_G_term_244_2) (pc' := 246) (ls' := [(3, .int b26), (0, .ref 2), (1, .int v1), (2, .int v2)]) (st' := [.int v1, .ref 2]) (x' := x29) hok hT bk_G_term_244_2_ok rfl ?_
        refine jm_V.callV (av := [.ref 2, .int v1]) (rest := []) hok (jm_Con.mono (c_G_string hok hrec v1 x29) (by omega)) (jm_Inv.obj (q := ("FilterReader$Grammar", T_G, 5)) dd_G_term_246 (Or.inl lk_G_234) mn_G_string ms_G_string mw_G_string mh_G_string ml_G_string rfl rfl) mw_G_string mi_G (Nat.le_of_ble_eq_true rfl) (Nat.le_of_ble_eq_true rfl) (fun x30 => ?_)
        refine jm_V.run (is := bk_G_term_249_1) (pc' := 315) (ls' := [(3, .int b26), (0, .ref 2), (1, .int v1), (2, .int v2)]) (st' := []) (x' := x30) hok hT bk_G_term_249_1_ok rfl ?_
        refine jm_V.sub (ls' := [(0, .ref 2), (1, .int v1), (2, .int v2)]) [1, 2, 3] rfl ?_
        exact jj_G_term_315 hok hrec hself v1 v2 x30
theorem jl_G_term_207 {l : Launch} {D : va_G} {ad : Nat → Nat} {aC : Nat → ClassId} {b0 : Nat} {K d0 : Nat} {g : jm_Rec} (hok : jm_Ok (jm_PP l D clC ad aC shC b0 1)) (hrec : ∀ (t : Nat) (av : List Value) (x : jm_X), jm_Con (jm_PP l D clC ad aC shC b0 1) (rcC t) d0 av x (g t av x)) : ∀ (k : Nat) (v1 : Int32) (v2 : Int32) (x : jm_X), jm_V (jm_PP l D clC ad aC shC b0 1) mt_G_term (d0 + 13) 207 [(0, .ref 2), (1, .int v1), (2, .int v2)] [] x (L_G_term_207 K g k v1 v2 x)
  | 0, _, _, _ => jm_V.stuck
  | k + 1, v1, v2, x => jb_G_term_207 hok hrec (fun v1 v2 x => jl_G_term_207 hok hrec k v1 v2 x) v1 v2 x
def J_G_term_205 (K : Nat) (g : jm_Rec) (v1 : Int32) (x : jm_X) : Option jm_R := L_G_term_207 K g K v1 0 x
set_option maxRecDepth 100000 in
set_option maxHeartbeats 4000000 in
theorem jj_G_term_205 {l : Launch} {D : va_G} {ad : Nat → Nat} {aC : Nat → ClassId} {b0 : Nat} {K d0 : Nat} {g : jm_Rec} (hok : jm_Ok (jm_PP l D clC ad aC shC b0 1)) (hrec : ∀ (t : Nat) (av : List Value) (x : jm_X), jm_Con (jm_PP l D clC ad aC shC b0 1) (rcC t) d0 av x (g t av x)) (v1 : Int32) (x : jm_X) : jm_V (jm_PP l D clC ad aC shC b0 1) mt_G_term (d0 + 13) 205 [(0, .ref 2), (1, .int v1)] [] x (J_G_term_205 K g v1 x) := by
  have hT := tk_G (l := l) (D := D) (ad := ad) (aC := aC) (b0 := b0)
  unfold J_G_term_205
  refine jm_V.run (is := bk_G_term_205_2) (pc' := 207) (ls' := [(2, .int 0), (0, .ref 2), (1, .int v1)]) (st' := []) (x' := x) hok hT bk_G_term_205_2_ok rfl ?_
  refine jm_V.sub (ls' := [(0, .ref 2), (1, .int v1), (2, .int 0)]) [1, 2, 0] rfl ?_
  exact jl_G_term_207 hok hrec K v1 0 x
def f_G_term (K : Nat) (g : jm_Rec) (a1 : Int32) (x : jm_X) : Option jm_R := jm_bA (f_S_sign K g x) (fun b2 x1 => (if jm_cn 1000 55 b2 then jm_bI (f_JE_ordinal K g b2 x1) (fun b4 x3 => (if jm_cn 901 1 901 then (if jm_ix 55 b4 then (if (sg_swm.getD (Int32.toNatClampNeg b4) 0) = 6 then jm_bV (f_G_takeAs K g 0 x3) (fun x5 => jm_bI (f_S_is K g 1006 x5) (fun b7 x6 => (if b7 = 0 then J_G_term_205 K g a1 x6 else jm_bV (f_G_count K g 2 x6) (fun x8 => jm_bV (f_G_string K g a1 x8) (fun x9 => J_G_term_205 K g a1 x9))))) else (if (sg_swm.getD (Int32.toNatClampNeg b4) 0) = 7 then jm_bV (f_G_count K g 0 x3) (fun x10 => jm_bV (f_G_field K g x10) (fun x11 => J_G_term_205 K g a1 x11)) else (if (sg_swm.getD (Int32.toNatClampNeg b4) 0) = 8 then jm_bV (f_G_takeAs K g 1 x3) (fun x12 => J_G_term_205 K g a1 x12) else (if (sg_swm.getD (Int32.toNatClampNeg b4) 0) = 9 then jm_bV (f_G_takeAs K g 6 x3) (fun x13 => J_G_term_205 K g a1 x13) else (if (sg_swm.getD (Int32.toNatClampNeg b4) 0) = 10 then jm_bV (f_G_string K g a1 x3) (fun x14 => J_G_term_205 K g a1 x14) else (if (sg_swm.getD (Int32.toNatClampNeg b4) 0) = 11 then jm_bV (f_G_group K g a1 x3) (fun x15 => J_G_term_205 K g a1 x15) else (if (sg_swm.getD (Int32.toNatClampNeg b4) 0) = 12 then jm_bV (f_G_array K g a1 x3) (fun x16 => J_G_term_205 K g a1 x16) else (if (sg_swm.getD (Int32.toNatClampNeg b4) 0) = 13 then jm_bV (f_G_object K g a1 x3) (fun x17 => J_G_term_205 K g a1 x17) else (if (sg_swm.getD (Int32.toNatClampNeg b4) 0) = 14 then jm_bV (f_G_call K g a1 x3) (fun x18 => J_G_term_205 K g a1 x18) else (if (sg_swm.getD (Int32.toNatClampNeg b4) 0) = 15 then jm_bV (f_G_leave K g x3) (fun x19 => J_G_term_205 K g a1 x19) else (if (sg_swm.getD (Int32.toNatClampNeg b4) 0) = 16 then jm_bV (f_G_needKnown K g (-2) x3) (fun x20 => jm_bV (f_G_takeAs K g 11 x20) (fun x21 => J_G_term_205 K g a1 x21)) else jm_bI (f_S_start K g x3) (fun b23 x22 => jm_bV (f_G_broken K g b23 x22) (fun x24 => J_G_term_205 K g a1 x24))))))))))))) else none) else none)) else none))
set_option maxRecDepth 100000 in
set_option maxHeartbeats 4000000 in
theorem c_G_term {l : Launch} {D : va_G} {ad : Nat → Nat} {aC : Nat → ClassId} {b0 : Nat} {K d0 : Nat} {g : jm_Rec} (hok : jm_Ok (jm_PP l D clC ad aC shC b0 1)) (hrec : ∀ (t : Nat) (av : List Value) (x : jm_X), jm_Con (jm_PP l D clC ad aC shC b0 1) (rcC t) d0 av x (g t av x)) (a1 : Int32) (x : jm_X) : jm_Con (jm_PP l D clC ad aC shC b0 1) mt_G_term (d0 + 13) [.ref 2, .int a1] x (f_G_term K g a1 x) := by
  refine jm_Con.of (plainFor_of_name (by decide +kernel)) (Nat.le_of_ble_eq_true rfl) ?_
  have hT := tk_G (l := l) (D := D) (ad := ad) (aC := aC) (b0 := b0)
  unfold f_G_term
  show jm_V _ _ _ 0 [(0, .ref 2), (1, .int a1)] [] x _
  refine jm_V.run (is := bk_G_term_0_3) (pc' := 7) (ls' := [(0, .ref 2), (1, .int a1)]) (st' := [.ref 4, .ref 901]) (x' := x) hok hT bk_G_term_0_3_ok rfl ?_
  refine jm_V.callA (av := [.ref 4]) (rest := [.ref 901]) hok (jm_Con.mono (c_S_sign hok hrec x) (by omega)) (jm_Inv.obj (q := ("FilterReader$Signs", T_S, 5)) dd_G_term_7 (Or.inl lk_G_112) mn_S_sign ms_S_sign mw_S_sign mh_S_sign ml_S_sign rfl rfl) mw_S_sign mi_S (Nat.le_of_ble_eq_true rfl) (Nat.le_of_ble_eq_true rfl) (fun b2 x1 => ?_)
  refine jm_V.guard (fun hg => ?_)
  refine jm_V.callI (av := [.ref b2]) (rest := [.ref 901]) hok (jm_Con.mono (c_JE_ordinal (d0 := d0) hok hrec b2 x1) (by omega)) (iv_ord hok hg dd_G_term_10 lk_G_187 mo_ord rfl mn_JE_ordinal mp_ord mw_JE_ordinal ml_JE_ordinal) mw_JE_ordinal mi_JE (Nat.le_of_ble_eq_true rfl) (Nat.le_of_ble_eq_true rfl) (fun b4 x3 => ?_)
  refine jm_V.tiald (lo := 901) (N := 1) (len := fun _ => 55) (f := fun _ j => sg_swm.getD j 0) hok cs_swm dd_G_term_13 ?_
  refine jm_V.tsw dd_G_term_14 (by decide +kernel) (by decide +kernel) ?_
  refine jm_V.pc_ (pc' := (if (sg_swm.getD (Int32.toNatClampNeg b4) 0) = 6 then 72 else (if (sg_swm.getD (Int32.toNatClampNeg b4) 0) = 7 then 103 else (if (sg_swm.getD (Int32.toNatClampNeg b4) 0) = 8 then 115 else (if (sg_swm.getD (Int32.toNatClampNeg b4) 0) = 9 then 123 else (if (sg_swm.getD (Int32.toNatClampNeg b4) 0) = 10 then 132 else (if (sg_swm.getD (Int32.toNatClampNeg b4) 0) = 11 then 140 else (if (sg_swm.getD (Int32.toNatClampNeg b4) 0) = 12 then 148 else (if (sg_swm.getD (Int32.toNatClampNeg b4) 0) = 13 then 156 else (if (sg_swm.getD (Int32.toNatClampNeg b4) 0) = 14 then 164 else (if (sg_swm.getD (Int32.toNatClampNeg b4) 0) = 15 then 172 else (if (sg_swm.getD (Int32.toNatClampNeg b4) 0) = 16 then 179 else 194)))))))))))) rfl ?_
  refine jm_V.ite (fun _ => ?_) (fun _ => ?_)
  · refine jm_V.run (is := bk_G_term_72_2) (pc' := 74) (ls' := [(0, .ref 2), (1, .int a1)]) (st' := [.int 0, .ref 2]) (x' := x3) hok hT bk_G_term_72_2_ok rfl ?_
    refine jm_V.callV (av := [.ref 2, .int 0]) (rest := []) hok (jm_Con.mono (c_G_takeAs hok hrec 0 x3) (by omega)) (jm_Inv.obj (q := ("FilterReader$Grammar", T_G, 5)) dd_G_term_74 (Or.inl lk_G_124) mn_G_takeAs ms_G_takeAs mw_G_takeAs mh_G_takeAs ml_G_takeAs rfl rfl) mw_G_takeAs mi_G (Nat.le_of_ble_eq_true rfl) (Nat.le_of_ble_eq_true rfl) (fun x5 => ?_)
    refine jm_V.run (is := bk_G_term_77_3) (pc' := 84) (ls' := [(0, .ref 2), (1, .int a1)]) (st' := [.ref 1006, .ref 4]) (x' := x5) hok hT bk_G_term_77_3_ok rfl ?_
    refine jm_V.callI (av := [.ref 4, .ref 1006]) (rest := []) hok (jm_Con.mono (c_S_is hok hrec 1006 x5) (by omega)) (jm_Inv.obj (q := ("FilterReader$Signs", T_S, 5)) dd_G_term_84 (Or.inl lk_G_71) mn_S_is ms_S_is mw_S_is mh_S_is ml_S_is rfl rfl) mw_S_is mi_S (Nat.le_of_ble_eq_true rfl) (Nat.le_of_ble_eq_true rfl) (fun b7 x6 => ?_)
    refine jm_V.run (is := bk_G_term_87_1) (pc' := (if b7 = 0 then 205 else 90)) (ls' := [(0, .ref 2), (1, .int a1)]) (st' := []) (x' := x6) hok hT bk_G_term_87_1_ok rfl ?_
    refine jm_V.ite (fun _ => ?_) (fun _ => ?_)
    · exact jj_G_term_205 hok hrec a1 x6
    · refine jm_V.run (is := bk_G_term_90_2) (pc' := 92) (ls' := [(0, .ref 2), (1, .int a1)]) (st' := [.int 2, .ref 2]) (x' := x6) hok hT bk_G_term_90_2_ok rfl ?_
      refine jm_V.callV (av := [.ref 2, .int 2]) (rest := []) hok (jm_Con.mono (c_G_count hok hrec 2 x6) (by omega)) (jm_Inv.obj (q := ("FilterReader$Grammar", T_G, 5)) dd_G_term_92 (Or.inl lk_G_85) mn_G_count ms_G_count mw_G_count mh_G_count ml_G_count rfl rfl) mw_G_count mi_G (Nat.le_of_ble_eq_true rfl) (Nat.le_of_ble_eq_true rfl) (fun x8 => ?_)
      refine jm_V.run (is := bk_G_term_95_2) (pc' := 97) (ls' := [(0, .ref 2), (1, .int a1)]) (st' := [.int a1, .ref 2]) (x' := x8) hok hT bk_G_term_95_2_ok rfl ?_
      refine jm_V.callV (av := [.ref 2, .int a1]) (rest := []) hok (jm_Con.mono (c_G_string hok hrec a1 x8) (by omega)) (jm_Inv.obj (q := ("FilterReader$Grammar", T_G, 5)) dd_G_term_97 (Or.inl lk_G_234) mn_G_string ms_G_string mw_G_string mh_G_string ml_G_string rfl rfl) mw_G_string mi_G (Nat.le_of_ble_eq_true rfl) (Nat.le_of_ble_eq_true rfl) (fun x9 => ?_)
      refine jm_V.run (is := bk_G_term_100_1) (pc' := 205) (ls' := [(0, .ref 2), (1, .int a1)]) (st' := []) (x' := x9) hok hT bk_G_term_100_1_ok rfl ?_
      exact jj_G_term_205 hok hrec a1 x9
  refine jm_V.ite (fun _ => ?_) (fun _ => ?_)
  · refine jm_V.run (is := bk_G_term_103_2) (pc' := 105) (ls' := [(0, .ref 2), (1, .int a1)]) (st' := [.int 0, .ref 2]) (x' := x3) hok hT bk_G_term_103_2_ok rfl ?_
    refine jm_V.callV (av := [.ref 2, .int 0]) (rest := []) hok (jm_Con.mono (c_G_count hok hrec 0 x3) (by omega)) (jm_Inv.obj (q := ("FilterReader$Grammar", T_G, 5)) dd_G_term_105 (Or.inl lk_G_85) mn_G_count ms_G_count mw_G_count mh_G_count ml_G_count rfl rfl) mw_G_count mi_G (Nat.le_of_ble_eq_true rfl) (Nat.le_of_ble_eq_true rfl) (fun x10 => ?_)
    refine jm_V.run (is := bk_G_term_108_1) (pc' := 109) (ls' := [(0, .ref 2), (1, .int a1)]) (st' := [.ref 2]) (x' := x10) hok hT bk_G_term_108_1_ok rfl ?_
    refine jm_V.callV (av := [.ref 2]) (rest := []) hok (jm_Con.mono (c_G_field hok hrec x10) (by omega)) (jm_Inv.obj (q := ("FilterReader$Grammar", T_G, 5)) dd_G_term_109 (Or.inl lk_G_237) mn_G_field ms_G_field mw_G_field mh_G_field ml_G_field rfl rfl) mw_G_field mi_G (Nat.le_of_ble_eq_true rfl) (Nat.le_of_ble_eq_true rfl) (fun x11 => ?_)
    refine jm_V.run (is := bk_G_term_112_1) (pc' := 205) (ls' := [(0, .ref 2), (1, .int a1)]) (st' := []) (x' := x11) hok hT bk_G_term_112_1_ok rfl ?_
    exact jj_G_term_205 hok hrec a1 x11
  refine jm_V.ite (fun _ => ?_) (fun _ => ?_)
  · refine jm_V.run (is := bk_G_term_115_2) (pc' := 117) (ls' := [(0, .ref 2), (1, .int a1)]) (st' := [.int 1, .ref 2]) (x' := x3) hok hT bk_G_term_115_2_ok rfl ?_
    refine jm_V.callV (av := [.ref 2, .int 1]) (rest := []) hok (jm_Con.mono (c_G_takeAs hok hrec 1 x3) (by omega)) (jm_Inv.obj (q := ("FilterReader$Grammar", T_G, 5)) dd_G_term_117 (Or.inl lk_G_124) mn_G_takeAs ms_G_takeAs mw_G_takeAs mh_G_takeAs ml_G_takeAs rfl rfl) mw_G_takeAs mi_G (Nat.le_of_ble_eq_true rfl) (Nat.le_of_ble_eq_true rfl) (fun x12 => ?_)
    refine jm_V.run (is := bk_G_term_120_1) (pc' := 205) (ls' := [(0, .ref 2), (1, .int a1)]) (st' := []) (x' := x12) hok hT bk_G_term_120_1_ok rfl ?_
    exact jj_G_term_205 hok hrec a1 x12
  refine jm_V.ite (fun _ => ?_) (fun _ => ?_)
  · refine jm_V.run (is := bk_G_term_123_2) (pc' := 126) (ls' := [(0, .ref 2), (1, .int a1)]) (st' := [.int 6, .ref 2]) (x' := x3) hok hT bk_G_term_123_2_ok rfl ?_
    refine jm_V.callV (av := [.ref 2, .int 6]) (rest := []) hok (jm_Con.mono (c_G_takeAs hok hrec 6 x3) (by omega)) (jm_Inv.obj (q := ("FilterReader$Grammar", T_G, 5)) dd_G_term_126 (Or.inl lk_G_124) mn_G_takeAs ms_G_takeAs mw_G_takeAs mh_G_takeAs ml_G_takeAs rfl rfl) mw_G_takeAs mi_G (Nat.le_of_ble_eq_true rfl) (Nat.le_of_ble_eq_true rfl) (fun x13 => ?_)
    refine jm_V.run (is := bk_G_term_129_1) (pc' := 205) (ls' := [(0, .ref 2), (1, .int a1)]) (st' := []) (x' := x13) hok hT bk_G_term_129_1_ok rfl ?_
    exact jj_G_term_205 hok hrec a1 x13
  refine jm_V.ite (fun _ => ?_) (fun _ => ?_)
  · refine jm_V.run (is := bk_G_term_132_2) (pc' := 134) (ls' := [(0, .ref 2), (1, .int a1)]) (st' := [.int a1, .ref 2]) (x' := x3) hok hT bk_G_term_132_2_ok rfl ?_
    refine jm_V.callV (av := [.ref 2, .int a1]) (rest := []) hok (jm_Con.mono (c_G_string hok hrec a1 x3) (by omega)) (jm_Inv.obj (q := ("FilterReader$Grammar", T_G, 5)) dd_G_term_134 (Or.inl lk_G_234) mn_G_string ms_G_string mw_G_string mh_G_string ml_G_string rfl rfl) mw_G_string mi_G (Nat.le_of_ble_eq_true rfl) (Nat.le_of_ble_eq_true rfl) (fun x14 => ?_)
    refine jm_V.run (is := bk_G_term_137_1) (pc' := 205) (ls' := [(0, .ref 2), (1, .int a1)]) (st' := []) (x' := x14) hok hT bk_G_term_137_1_ok rfl ?_
    exact jj_G_term_205 hok hrec a1 x14
  refine jm_V.ite (fun _ => ?_) (fun _ => ?_)
  · refine jm_V.run (is := bk_G_term_140_2) (pc' := 142) (ls' := [(0, .ref 2), (1, .int a1)]) (st' := [.int a1, .ref 2]) (x' := x3) hok hT bk_G_term_140_2_ok rfl ?_
    refine jm_V.callV (av := [.ref 2, .int a1]) (rest := []) hok (jm_Con.mono (c_G_group hok hrec a1 x3) (by omega)) (jm_Inv.obj (q := ("FilterReader$Grammar", T_G, 5)) dd_G_term_142 (Or.inl lk_G_240) mn_G_group ms_G_group mw_G_group mh_G_group ml_G_group rfl rfl) mw_G_group mi_G (Nat.le_of_ble_eq_true rfl) (Nat.le_of_ble_eq_true rfl) (fun x15 => ?_)
    refine jm_V.run (is := bk_G_term_145_1) (pc' := 205) (ls' := [(0, .ref 2), (1, .int a1)]) (st' := []) (x' := x15) hok hT bk_G_term_145_1_ok rfl ?_
    exact jj_G_term_205 hok hrec a1 x15
  refine jm_V.ite (fun _ => ?_) (fun _ => ?_)
  · refine jm_V.run (is := bk_G_term_148_2) (pc' := 150) (ls' := [(0, .ref 2), (1, .int a1)]) (st' := [.int a1, .ref 2]) (x' := x3) hok hT bk_G_term_148_2_ok rfl ?_
    refine jm_V.callV (av := [.ref 2, .int a1]) (rest := []) hok (jm_Con.mono (c_G_array hok hrec a1 x3) (by omega)) (jm_Inv.obj (q := ("FilterReader$Grammar", T_G, 5)) dd_G_term_150 (Or.inl lk_G_243) mn_G_array ms_G_array mw_G_array mh_G_array ml_G_array rfl rfl) mw_G_array mi_G (Nat.le_of_ble_eq_true rfl) (Nat.le_of_ble_eq_true rfl) (fun x16 => ?_)
    refine jm_V.run (is := bk_G_term_153_1) (pc' := 205) (ls' := [(0, .ref 2), (1, .int a1)]) (st' := []) (x' := x16) hok hT bk_G_term_153_1_ok rfl ?_
    exact jj_G_term_205 hok hrec a1 x16
  refine jm_V.ite (fun _ => ?_) (fun _ => ?_)
  · refine jm_V.run (is := bk_G_term_156_2) (pc' := 158) (ls' := [(0, .ref 2), (1, .int a1)]) (st' := [.int a1, .ref 2]) (x' := x3) hok hT bk_G_term_156_2_ok rfl ?_
    refine jm_V.callV (av := [.ref 2, .int a1]) (rest := []) hok (jm_Con.mono (c_G_object hok hrec a1 x3) (by omega)) (jm_Inv.obj (q := ("FilterReader$Grammar", T_G, 5)) dd_G_term_158 (Or.inl lk_G_246) mn_G_object ms_G_object mw_G_object mh_G_object ml_G_object rfl rfl) mw_G_object mi_G (Nat.le_of_ble_eq_true rfl) (Nat.le_of_ble_eq_true rfl) (fun x17 => ?_)
    refine jm_V.run (is := bk_G_term_161_1) (pc' := 205) (ls' := [(0, .ref 2), (1, .int a1)]) (st' := []) (x' := x17) hok hT bk_G_term_161_1_ok rfl ?_
    exact jj_G_term_205 hok hrec a1 x17
  refine jm_V.ite (fun _ => ?_) (fun _ => ?_)
  · refine jm_V.run (is := bk_G_term_164_2) (pc' := 166) (ls' := [(0, .ref 2), (1, .int a1)]) (st' := [.int a1, .ref 2]) (x' := x3) hok hT bk_G_term_164_2_ok rfl ?_
    refine jm_V.callV (av := [.ref 2, .int a1]) (rest := []) hok (jm_Con.mono (c_G_call hok hrec a1 x3) (by omega)) (jm_Inv.obj (q := ("FilterReader$Grammar", T_G, 5)) dd_G_term_166 (Or.inl lk_G_249) mn_G_call ms_G_call mw_G_call mh_G_call ml_G_call rfl rfl) mw_G_call mi_G (Nat.le_of_ble_eq_true rfl) (Nat.le_of_ble_eq_true rfl) (fun x18 => ?_)
    refine jm_V.run (is := bk_G_term_169_1) (pc' := 205) (ls' := [(0, .ref 2), (1, .int a1)]) (st' := []) (x' := x18) hok hT bk_G_term_169_1_ok rfl ?_
    exact jj_G_term_205 hok hrec a1 x18
  refine jm_V.ite (fun _ => ?_) (fun _ => ?_)
  · refine jm_V.run (is := bk_G_term_172_1) (pc' := 173) (ls' := [(0, .ref 2), (1, .int a1)]) (st' := [.ref 2]) (x' := x3) hok hT bk_G_term_172_1_ok rfl ?_
    refine jm_V.callV (av := [.ref 2]) (rest := []) hok (jm_Con.mono (c_G_leave hok hrec x3) (by omega)) (jm_Inv.obj (q := ("FilterReader$Grammar", T_G, 5)) dd_G_term_173 (Or.inl lk_G_252) mn_G_leave ms_G_leave mw_G_leave mh_G_leave ml_G_leave rfl rfl) mw_G_leave mi_G (Nat.le_of_ble_eq_true rfl) (Nat.le_of_ble_eq_true rfl) (fun x19 => ?_)
    refine jm_V.run (is := bk_G_term_176_1) (pc' := 205) (ls' := [(0, .ref 2), (1, .int a1)]) (st' := []) (x' := x19) hok hT bk_G_term_176_1_ok rfl ?_
    exact jj_G_term_205 hok hrec a1 x19
  refine jm_V.ite (fun _ => ?_) (fun _ => ?_)
  · refine jm_V.run (is := bk_G_term_179_2) (pc' := 182) (ls' := [(0, .ref 2), (1, .int a1)]) (st' := [.int (-2), .ref 2]) (x' := x3) hok hT bk_G_term_179_2_ok rfl ?_
    refine jm_V.callV (av := [.ref 2, .int (-2)]) (rest := []) hok (jm_Con.mono (c_G_needKnown hok hrec (-2) x3) (by omega)) (jm_Inv.obj (q := ("FilterReader$Grammar", T_G, 5)) dd_G_term_182 (Or.inl lk_G_255) mn_G_needKnown ms_G_needKnown mw_G_needKnown mh_G_needKnown ml_G_needKnown rfl rfl) mw_G_needKnown mi_G (Nat.le_of_ble_eq_true rfl) (Nat.le_of_ble_eq_true rfl) (fun x20 => ?_)
    refine jm_V.run (is := bk_G_term_185_2) (pc' := 188) (ls' := [(0, .ref 2), (1, .int a1)]) (st' := [.int 11, .ref 2]) (x' := x20) hok hT bk_G_term_185_2_ok rfl ?_
    refine jm_V.callV (av := [.ref 2, .int 11]) (rest := []) hok (jm_Con.mono (c_G_takeAs hok hrec 11 x20) (by omega)) (jm_Inv.obj (q := ("FilterReader$Grammar", T_G, 5)) dd_G_term_188 (Or.inl lk_G_124) mn_G_takeAs ms_G_takeAs mw_G_takeAs mh_G_takeAs ml_G_takeAs rfl rfl) mw_G_takeAs mi_G (Nat.le_of_ble_eq_true rfl) (Nat.le_of_ble_eq_true rfl) (fun x21 => ?_)
    refine jm_V.run (is := bk_G_term_191_1) (pc' := 205) (ls' := [(0, .ref 2), (1, .int a1)]) (st' := []) (x' := x21) hok hT bk_G_term_191_1_ok rfl ?_
    exact jj_G_term_205 hok hrec a1 x21
  refine jm_V.run (is := bk_G_term_194_3) (pc' := 199) (ls' := [(0, .ref 2), (1, .int a1)]) (st' := [.ref 4, .ref 2]) (x' := x3) hok hT bk_G_term_194_3_ok rfl ?_
  refine jm_V.callI (av := [.ref 4]) (rest := [.ref 2]) hok (jm_Con.mono (c_S_start hok hrec x3) (by omega)) (jm_Inv.obj (q := ("FilterReader$Signs", T_S, 5)) dd_G_term_199 (Or.inl lk_G_75) mn_S_start ms_S_start mw_S_start mh_S_start ml_S_start rfl rfl) mw_S_start mi_S (Nat.le_of_ble_eq_true rfl) (Nat.le_of_ble_eq_true rfl) (fun b23 x22 => ?_)
  refine jm_V.callV (av := [.ref 2, .int b23]) (rest := []) hok (jm_Con.mono (c_G_broken hok hrec b23 x22) (by omega)) (jm_Inv.obj (q := ("FilterReader$Grammar", T_G, 5)) dd_G_term_202 (Or.inl lk_G_79) mn_G_broken ms_G_broken mw_G_broken mh_G_broken ml_G_broken rfl rfl) mw_G_broken mi_G (Nat.le_of_ble_eq_true rfl) (Nat.le_of_ble_eq_true rfl) (fun x24 => ?_)
  exact jj_G_term_205 hok hrec a1 x24

/-! THE CLASS: methods. Printed by wip/whole/printC.py. -/
abbrev bk_S_pieceEnd_0_4 : List (Nat × Instr × Nat) := [(0, .iload_n 1, 1), (1, .istore_n 2, 1), (2, .iconst 0, 1), (3, .istore_n 3, 1)]
theorem bk_S_pieceEnd_0_4_ok : jm_at mt_S_pieceEnd.2.1 bk_S_pieceEnd_0_4 = true := by decide +kernel
abbrev bk_S_pieceEnd_4_4 : List (Nat × Instr × Nat) := [(4, .iload_n 3, 1), (5, .aload_n 0, 1), (6, .getfield 22, 3), (9, .if_icmp .ge 56, 3)]
theorem bk_S_pieceEnd_4_4_ok : jm_at mt_S_pieceEnd.2.1 bk_S_pieceEnd_4_4 = true := by decide +kernel
abbrev bk_S_pieceEnd_12_4 : List (Nat × Instr × Nat) := [(12, .iload_n 2, 1), (13, .aload_n 0, 1), (14, .getfield 22, 3), (17, .if_icmp .ge 48, 3)]
theorem bk_S_pieceEnd_12_4_ok : jm_at mt_S_pieceEnd.2.1 bk_S_pieceEnd_12_4 = true := by decide +kernel
abbrev bk_S_pieceEnd_20_2 : List (Nat × Instr × Nat) := [(20, .aload_n 0, 1), (21, .iload_n 2, 1)]
theorem bk_S_pieceEnd_20_2_ok : jm_at mt_S_pieceEnd.2.1 bk_S_pieceEnd_20_2 = true := by decide +kernel
abbrev bk_S_pieceEnd_25_2 : List (Nat × Instr × Nat) := [(25, .bipush 34, 2), (27, .if_icmp .eq 11, 3)]
theorem bk_S_pieceEnd_25_2_ok : jm_at mt_S_pieceEnd.2.1 bk_S_pieceEnd_25_2 = true := by decide +kernel
abbrev bk_S_pieceEnd_30_2 : List (Nat × Instr × Nat) := [(30, .aload_n 0, 1), (31, .iload_n 2, 1)]
theorem bk_S_pieceEnd_30_2_ok : jm_at mt_S_pieceEnd.2.1 bk_S_pieceEnd_30_2 = true := by decide +kernel
abbrev bk_S_pieceEnd_35_1 : List (Nat × Instr × Nat) := [(35, .ifCond .eq 5, 3)]
theorem bk_S_pieceEnd_35_1_ok : jm_at mt_S_pieceEnd.2.1 bk_S_pieceEnd_35_1 = true := by decide +kernel
abbrev bk_S_pieceEnd_40_2 : List (Nat × Instr × Nat) := [(40, .aload_n 0, 1), (41, .iload_n 2, 1)]
theorem bk_S_pieceEnd_40_2_ok : jm_at mt_S_pieceEnd.2.1 bk_S_pieceEnd_40_2 = true := by decide +kernel
abbrev bk_S_pieceEnd_45_3 : List (Nat × Instr × Nat) := [(45, .istore 4, 2), (47, .iload 4, 2), (49, .ifCond .ne 5, 3)]
theorem bk_S_pieceEnd_45_3_ok : jm_at mt_S_pieceEnd.2.1 bk_S_pieceEnd_45_3 = true := by decide +kernel
abbrev bk_S_pieceEnd_52_1 : List (Nat × Instr × Nat) := [(52, .iconst (-1), 1)]
theorem bk_S_pieceEnd_52_1_ok : jm_at mt_S_pieceEnd.2.1 bk_S_pieceEnd_52_1 = true := by decide +kernel
abbrev bk_S_pieceEnd_54_6 : List (Nat × Instr × Nat) := [(54, .iload_n 2, 1), (55, .iload 4, 2), (57, .iadd, 1), (58, .istore_n 2, 1), (59, .iinc 3 1, 3), (62, .goto (-58), 3)]
theorem bk_S_pieceEnd_54_6_ok : jm_at mt_S_pieceEnd.2.1 bk_S_pieceEnd_54_6 = true := by decide +kernel
abbrev bk_S_pieceEnd_38_1 : List (Nat × Instr × Nat) := [(38, .iload_n 2, 1)]
theorem bk_S_pieceEnd_38_1_ok : jm_at mt_S_pieceEnd.2.1 bk_S_pieceEnd_38_1 = true := by decide +kernel
abbrev bk_S_pieceEnd_65_1 : List (Nat × Instr × Nat) := [(65, .iconst (-1), 1)]
theorem bk_S_pieceEnd_65_1_ok : jm_at mt_S_pieceEnd.2.1 bk_S_pieceEnd_65_1 = true := by decide +kernel
theorem dd_S_pieceEnd_22 : decode mt_S_pieceEnd.2.1 22 = .ok (.invokevirtual 56, 3) := by decide +kernel
theorem dd_S_pieceEnd_32 : decode mt_S_pieceEnd.2.1 32 = .ok (.invokevirtual 90, 3) := by decide +kernel
theorem dd_S_pieceEnd_42 : decode mt_S_pieceEnd.2.1 42 = .ok (.invokevirtual 93, 3) := by decide +kernel
theorem dd_S_pieceEnd_53 : decode mt_S_pieceEnd.2.1 53 = .ok (.ireturn, 1) := by decide +kernel
theorem dd_S_pieceEnd_39 : decode mt_S_pieceEnd.2.1 39 = .ok (.ireturn, 1) := by decide +kernel
theorem dd_S_pieceEnd_66 : decode mt_S_pieceEnd.2.1 66 = .ok (.ireturn, 1) := by decide +kernel
def J_S_pieceEnd_65 (K : Nat) (g : jm_Rec)  (x : jm_X) : Option jm_R := some (.inl (some (.int (-1)), x))
set_option maxRecDepth 100000 in
set_option maxHeartbeats 4000000 in
theorem jj_S_pieceEnd_65 {l : Launch} {D : va_G} {ad : Nat → Nat} {aC : Nat → ClassId} {b0 : Nat} {K d0 : Nat} {g : jm_Rec} (hok : jm_Ok (jm_PP l D clC ad aC shC b0 1)) (hrec : ∀ (t : Nat) (av : List Value) (x : jm_X), jm_Con (jm_PP l D clC ad aC shC b0 1) (rcC t) d0 av x (g t av x))  (x : jm_X) : jm_V (jm_PP l D clC ad aC shC b0 1) mt_S_pieceEnd (d0 + 5) 65 [] [] x (J_S_pieceEnd_65 K g  x) := by
  have hT := tk_S (l := l) (D := D) (ad := ad) (aC := aC) (b0 := b0)
  unfold J_S_pieceEnd_65
  refine jm_V.run (is := bk_S_pieceEnd_65_1) (pc' := 66) (ls' := []) (st' := [.int (-1)]) (x' := x) hok hT bk_S_pieceEnd_65_1_ok rfl ?_
  exact jm_V.iret rfl dd_S_pieceEnd_66
def J_S_pieceEnd_38 (K : Nat) (g : jm_Rec) (v2 : Int32) (x : jm_X) : Option jm_R := some (.inl (some (.int v2), x))
set_option maxRecDepth 100000 in
set_option maxHeartbeats 4000000 in
theorem jj_S_pieceEnd_38 {l : Launch} {D : va_G} {ad : Nat → Nat} {aC : Nat → ClassId} {b0 : Nat} {K d0 : Nat} {g : jm_Rec} (hok : jm_Ok (jm_PP l D clC ad aC shC b0 1)) (hrec : ∀ (t : Nat) (av : List Value) (x : jm_X), jm_Con (jm_PP l D clC ad aC shC b0 1) (rcC t) d0 av x (g t av x)) (v2 : Int32) (x : jm_X) : jm_V (jm_PP l D clC ad aC shC b0 1) mt_S_pieceEnd (d0 + 5) 38 [(2, .int v2)] [] x (J_S_pieceEnd_38 K g v2 x) := by
  have hT := tk_S (l := l) (D := D) (ad := ad) (aC := aC) (b0 := b0)
  unfold J_S_pieceEnd_38
  refine jm_V.run (is := bk_S_pieceEnd_38_1) (pc' := 39) (ls' := [(2, .int v2)]) (st' := [.int v2]) (x' := x) hok hT bk_S_pieceEnd_38_1_ok rfl ?_
  exact jm_V.iret rfl dd_S_pieceEnd_39
def B_S_pieceEnd_4 (K : Nat) (g : jm_Rec) (self : Int32 → Int32 → jm_X → Option jm_R) (v2 : Int32) (v3 : Int32) (x : jm_X) : Option jm_R := (if (x.1 401) ≤ v3 then J_S_pieceEnd_65 K g x else (if (x.1 401) ≤ v2 then J_S_pieceEnd_65 K g x else jm_bI (f_S_byteAt K g v2 x) (fun b2 x1 => (if b2 = 34 then J_S_pieceEnd_38 K g v2 x1 else jm_bI (f_S_opensProgram K g v2 x1) (fun b4 x3 => (if b4 = 0 then jm_bI (f_S_characterSize K g v2 x3) (fun b6 x5 => (if b6 = 0 then some (.inl (some (.int (-1)), x5)) else self (v2 + b6) (v3 + 1) x5)) else J_S_pieceEnd_38 K g v2 x3))))))
def L_S_pieceEnd_4 (K : Nat) (g : jm_Rec) : Nat → Int32 → Int32 → jm_X → Option jm_R
  | 0, _, _, _ => none
  | k + 1, v2, v3, x => B_S_pieceEnd_4 K g (L_S_pieceEnd_4 K g k) v2 v3 x
set_option maxRecDepth 100000 in
set_option maxHeartbeats 4000000 in
theorem jb_S_pieceEnd_4 {l : Launch} {D : va_G} {ad : Nat → Nat} {aC : Nat → ClassId} {b0 : Nat} {K d0 : Nat} {g : jm_Rec} (hok : jm_Ok (jm_PP l D clC ad aC shC b0 1)) (hrec : ∀ (t : Nat) (av : List Value) (x : jm_X), jm_Con (jm_PP l D clC ad aC shC b0 1) (rcC t) d0 av x (g t av x)) {self : Int32 → Int32 → jm_X → Option jm_R} (hself : ∀ (v2 : Int32) (v3 : Int32) (x : jm_X), jm_V (jm_PP l D clC ad aC shC b0 1) mt_S_pieceEnd (d0 + 5) 4 [(0, .ref 4), (2, .int v2), (3, .int v3)] [] x (self v2 v3 x)) (v2 : Int32) (v3 : Int32) (x : jm_X) : jm_V (jm_PP l D clC ad aC shC b0 1) mt_S_pieceEnd (d0 + 5) 4 [(0, .ref 4), (2, .int v2), (3, .int v3)] [] x (B_S_pieceEnd_4 K g self v2 v3 x) := by
  have hT := tk_S (l := l) (D := D) (ad := ad) (aC := aC) (b0 := b0)
  unfold B_S_pieceEnd_4
  refine jm_V.run (is := bk_S_pieceEnd_4_4) (pc' := (if (x.1 401) ≤ v3 then 65 else 12)) (ls' := [(0, .ref 4), (2, .int v2), (3, .int v3)]) (st' := []) (x' := x) hok hT bk_S_pieceEnd_4_4_ok rfl ?_
  refine jm_V.ite (fun _ => ?_) (fun _ => ?_)
  · refine jm_V.sub (ls' := []) [] rfl ?_
    exact jj_S_pieceEnd_65 hok hrec x
  · refine jm_V.run (is := bk_S_pieceEnd_12_4) (pc' := (if (x.1 401) ≤ v2 then 65 else 20)) (ls' := [(0, .ref 4), (2, .int v2), (3, .int v3)]) (st' := []) (x' := x) hok hT bk_S_pieceEnd_12_4_ok rfl ?_
    refine jm_V.ite (fun _ => ?_) (fun _ => ?_)
    · refine jm_V.sub (ls' := []) [] rfl ?_
      exact jj_S_pieceEnd_65 hok hrec x
    · refine jm_V.run (is := bk_S_pieceEnd_20_2) (pc' := 22) (ls' := [(0, .ref 4), (2, .int v2), (3, .int v3)]) (st' := [.int v2, .ref 4]) (x' := x) hok hT bk_S_pieceEnd_20_2_ok rfl ?_
      refine jm_V.callI (av := [.ref 4, .int v2]) (rest := []) hok (jm_Con.mono (c_S_byteAt hok hrec v2 x) (by omega)) (jm_Inv.obj (q := ("FilterReader$Signs", T_S, 5)) dd_S_pieceEnd_22 (Or.inl lk_S_56) mn_S_byteAt ms_S_byteAt mw_S_byteAt mh_S_byteAt ml_S_byteAt rfl rfl) mw_S_byteAt mi_S (Nat.le_of_ble_eq_true rfl) (Nat.le_of_ble_eq_true rfl) (fun b2 x1 => ?_)
      refine jm_V.run (is := bk_S_pieceEnd_25_2) (pc' := (if b2 = 34 then 38 else 30)) (ls' := [(0, .ref 4), (2, .int v2), (3, .int v3)]) (st' := []) (x' := x1) hok hT bk_S_pieceEnd_25_2_ok rfl ?_
      refine jm_V.ite (fun _ => ?_) (fun _ => ?_)
      · refine jm_V.sub (ls' := [(2, .int v2)]) [1] rfl ?_
        exact jj_S_pieceEnd_38 hok hrec v2 x1
      · refine jm_V.run (is := bk_S_pieceEnd_30_2) (pc' := 32) (ls' := [(0, .ref 4), (2, .int v2), (3, .int v3)]) (st' := [.int v2, .ref 4]) (x' := x1) hok hT bk_S_pieceEnd_30_2_ok rfl ?_
        refine jm_V.callI (av := [.ref 4, .int v2]) (rest := []) hok (jm_Con.mono (c_S_opensProgram hok hrec v2 x1) (by omega)) (jm_Inv.obj (q := ("FilterReader$Signs", T_S, 5)) dd_S_pieceEnd_32 (Or.inl lk_S_90) mn_S_opensProgram ms_S_opensProgram mw_S_opensProgram mh_S_opensProgram ml_S_opensProgram rfl rfl) mw_S_opensProgram mi_S (Nat.le_of_ble_eq_true rfl) (Nat.le_of_ble_eq_true rfl) (fun b4 x3 => ?_)
        refine jm_V.run (is := bk_S_pieceEnd_35_1) (pc' := (if b4 = 0 then 40 else 38)) (ls' := [(0, .ref 4), (2, .int v2), (3, .int v3)]) (st' := []) (x' := x3) hok hT bk_S_pieceEnd_35_1_ok rfl ?_
        refine jm_V.ite (fun _ => ?_) (fun _ => ?_)
        · refine jm_V.run (is := bk_S_pieceEnd_40_2) (pc' := 42) (ls' := [(0, .ref 4), (2, .int v2), (3, .int v3)]) (st' := [.int v2, .ref 4]) (x' := x3) hok hT bk_S_pieceEnd_40_2_ok rfl ?_
          refine jm_V.callI (av := [.ref 4, .int v2]) (rest := []) hok (jm_Con.mono (c_S_characterSize hok hrec v2 x3) (by omega)) (jm_Inv.obj (q := ("FilterReader$Signs", T_S, 5)) dd_S_pieceEnd_42 (Or.inl lk_S_93) mn_S_characterSize ms_S_characterSize mw_S_characterSize mh_S_characterSize ml_S_characterSize rfl rfl) mw_S_characterSize mi_S (Nat.le_of_ble_eq_true rfl) (Nat.le_of_ble_eq_true rfl) (fun b6 x5 => ?_)
          refine jm_V.run (is := bk_S_pieceEnd_45_3) (pc' := (if b6 = 0 then 52 else 54)) (ls' := [(4, .int b6), (0, .ref 4), (2, .int v2), (3, .int v3)]) (st' := []) (x' := x5) hok hT bk_S_pieceEnd_45_3_ok rfl ?_
          refine jm_V.ite (fun _ => ?_) (fun _ => ?_)
          · refine jm_V.run (is := bk_S_pieceEnd_52_1) (pc' := 53) (ls' := [(4, .int b6), (0, .ref 4), (2, .int v2), (3, .int v3)]) (st' := [.int (-1)]) (x' := x5) hok hT bk_S_pieceEnd_52_1_ok rfl ?_
            exact jm_V.iret rfl dd_S_pieceEnd_53
          · refine jm_V.run (is := bk_S_pieceEnd_54_6) (pc' := 4) (ls' := [(3, .int (v3 + 1)), (2, .int (v2 + b6)), (4, .int b6), (0, .ref 4)]) (st' := []) (x' := x5) hok hT bk_S_pieceEnd_54_6_ok rfl ?_
            refine jm_V.sub (ls' := [(0, .ref 4), (2, .int (v2 + b6)), (3, .int (v3 + 1))]) [3, 1, 0] rfl ?_
            exact hself (v2 + b6) (v3 + 1) x5
        · refine jm_V.sub (ls' := [(2, .int v2)]) [1] rfl ?_
          exact jj_S_pieceEnd_38 hok hrec v2 x3
theorem jl_S_pieceEnd_4 {l : Launch} {D : va_G} {ad : Nat → Nat} {aC : Nat → ClassId} {b0 : Nat} {K d0 : Nat} {g : jm_Rec} (hok : jm_Ok (jm_PP l D clC ad aC shC b0 1)) (hrec : ∀ (t : Nat) (av : List Value) (x : jm_X), jm_Con (jm_PP l D clC ad aC shC b0 1) (rcC t) d0 av x (g t av x)) : ∀ (k : Nat) (v2 : Int32) (v3 : Int32) (x : jm_X), jm_V (jm_PP l D clC ad aC shC b0 1) mt_S_pieceEnd (d0 + 5) 4 [(0, .ref 4), (2, .int v2), (3, .int v3)] [] x (L_S_pieceEnd_4 K g k v2 v3 x)
  | 0, _, _, _ => jm_V.stuck
  | k + 1, v2, v3, x => jb_S_pieceEnd_4 hok hrec (fun v2 v3 x => jl_S_pieceEnd_4 hok hrec k v2 v3 x) v2 v3 x
def f_S_pieceEnd (K : Nat) (g : jm_Rec) (a1 : Int32) (x : jm_X) : Option jm_R := L_S_pieceEnd_4 K g K a1 0 x
set_option maxRecDepth 100000 in
set_option maxHeartbeats 4000000 in
theorem c_S_pieceEnd {l : Launch} {D : va_G} {ad : Nat → Nat} {aC : Nat → ClassId} {b0 : Nat} {K d0 : Nat} {g : jm_Rec} (hok : jm_Ok (jm_PP l D clC ad aC shC b0 1)) (hrec : ∀ (t : Nat) (av : List Value) (x : jm_X), jm_Con (jm_PP l D clC ad aC shC b0 1) (rcC t) d0 av x (g t av x)) (a1 : Int32) (x : jm_X) : jm_Con (jm_PP l D clC ad aC shC b0 1) mt_S_pieceEnd (d0 + 5) [.ref 4, .int a1] x (f_S_pieceEnd K g a1 x) := by
  refine jm_Con.of (plainFor_of_name (by decide +kernel)) (Nat.le_of_ble_eq_true rfl) ?_
  have hT := tk_S (l := l) (D := D) (ad := ad) (aC := aC) (b0 := b0)
  unfold f_S_pieceEnd
  show jm_V _ _ _ 0 [(0, .ref 4), (1, .int a1)] [] x _
  refine jm_V.run (is := bk_S_pieceEnd_0_4) (pc' := 4) (ls' := [(3, .int 0), (2, .int a1), (0, .ref 4), (1, .int a1)]) (st' := []) (x' := x) hok hT bk_S_pieceEnd_0_4_ok rfl ?_
  refine jm_V.sub (ls' := [(0, .ref 4), (2, .int a1), (3, .int 0)]) [2, 1, 0] rfl ?_
  exact jl_S_pieceEnd_4 hok hrec K a1 0 x
abbrev bk_N_begin_0_3 : List (Nat × Instr × Nat) := [(0, .aload_n 0, 1), (1, .aload_n 1, 1), (2, .putfield 22, 3)]
theorem bk_N_begin_0_3_ok : jm_at mt_N_begin.2.1 bk_N_begin_0_3 = true := by decide +kernel
abbrev bk_N_begin_5_3 : List (Nat × Instr × Nat) := [(5, .aload_n 0, 1), (6, .iconst 0, 1), (7, .putfield 26, 3)]
theorem bk_N_begin_5_3_ok : jm_at mt_N_begin.2.1 bk_N_begin_5_3 = true := by decide +kernel
theorem dd_N_begin_10 : decode mt_N_begin.2.1 10 = .ok (.return_, 1) := by decide +kernel
def f_N_begin (K : Nat) (g : jm_Rec) (a1 : Nat) (x : jm_X) : Option jm_R := jm_then (x.1, va_up x.2.1 604 a1, x.2.2) (fun x1 => jm_then (va_up x1.1 605 0, x1.2) (fun x2 => some (.inl (none, x2))))
set_option maxRecDepth 100000 in
set_option maxHeartbeats 4000000 in
theorem c_N_begin {l : Launch} {D : va_G} {ad : Nat → Nat} {aC : Nat → ClassId} {b0 : Nat} {K d0 : Nat} {g : jm_Rec} (hok : jm_Ok (jm_PP l D clC ad aC shC b0 1)) (hrec : ∀ (t : Nat) (av : List Value) (x : jm_X), jm_Con (jm_PP l D clC ad aC shC b0 1) (rcC t) d0 av x (g t av x)) (a1 : Nat) (x : jm_X) : jm_Con (jm_PP l D clC ad aC shC b0 1) mt_N_begin (d0 + 1) [.ref 6, .ref a1] x (f_N_begin K g a1 x) := by
  refine jm_Con.of (plainFor_of_name (by decide +kernel)) (Nat.le_of_ble_eq_true rfl) ?_
  have hT := tk_N (l := l) (D := D) (ad := ad) (aC := aC) (b0 := b0)
  unfold f_N_begin
  show jm_V _ _ _ 0 [(0, .ref 6), (1, .ref a1)] [] x _
  refine jm_V.run (is := bk_N_begin_0_3) (pc' := 5) (ls' := [(0, .ref 6), (1, .ref a1)]) (st' := []) (x' := (x.1, va_up x.2.1 604 a1, x.2.2)) hok hT bk_N_begin_0_3_ok rfl ?_
  refine jm_V.then_ (fun x1 => ?_)
  refine jm_V.run (is := bk_N_begin_5_3) (pc' := 10) (ls' := [(0, .ref 6), (1, .ref a1)]) (st' := []) (x' := (va_up x1.1 605 0, x1.2)) hok hT bk_N_begin_5_3_ok rfl ?_
  refine jm_V.then_ (fun x2 => ?_)
  exact jm_V.vret rfl dd_N_begin_10
abbrev bk_N_size_0_2 : List (Nat × Instr × Nat) := [(0, .aload_n 0, 1), (1, .getfield 26, 3)]
theorem bk_N_size_0_2_ok : jm_at mt_N_size.2.1 bk_N_size_0_2 = true := by decide +kernel
theorem dd_N_size_4 : decode mt_N_size.2.1 4 = .ok (.ireturn, 1) := by decide +kernel
def f_N_size (K : Nat) (g : jm_Rec)  (x : jm_X) : Option jm_R := some (.inl (some (.int (x.1 605)), x))
set_option maxRecDepth 100000 in
set_option maxHeartbeats 4000000 in
theorem c_N_size {l : Launch} {D : va_G} {ad : Nat → Nat} {aC : Nat → ClassId} {b0 : Nat} {K d0 : Nat} {g : jm_Rec} (hok : jm_Ok (jm_PP l D clC ad aC shC b0 1)) (hrec : ∀ (t : Nat) (av : List Value) (x : jm_X), jm_Con (jm_PP l D clC ad aC shC b0 1) (rcC t) d0 av x (g t av x))  (x : jm_X) : jm_Con (jm_PP l D clC ad aC shC b0 1) mt_N_size (d0 + 1) [.ref 6] x (f_N_size K g  x) := by
  refine jm_Con.of (plainFor_of_name (by decide +kernel)) (Nat.le_of_ble_eq_true rfl) ?_
  have hT := tk_N (l := l) (D := D) (ad := ad) (aC := aC) (b0 := b0)
  unfold f_N_size
  show jm_V _ _ _ 0 [(0, .ref 6)] [] x _
  refine jm_V.run (is := bk_N_size_0_2) (pc' := 4) (ls' := [(0, .ref 6)]) (st' := [.int (x.1 605)]) (x' := x) hok hT bk_N_size_0_2_ok rfl ?_
  exact jm_V.iret rfl dd_N_size_4
abbrev bk_N_add_0_4 : List (Nat × Instr × Nat) := [(0, .aload_n 0, 1), (1, .getfield 26, 3), (4, .sipush 1400, 3), (7, .if_icmp .ge 55, 3)]
theorem bk_N_add_0_4_ok : jm_at mt_N_add.2.1 bk_N_add_0_4 = true := by decide +kernel
abbrev bk_N_add_10_5 : List (Nat × Instr × Nat) := [(10, .aload_n 0, 1), (11, .getfield 9, 3), (14, .aload_n 0, 1), (15, .getfield 26, 3), (18, .iload_n 1, 1)]
theorem bk_N_add_10_5_ok : jm_at mt_N_add.2.1 bk_N_add_10_5 = true := by decide +kernel
abbrev bk_N_add_20_5 : List (Nat × Instr × Nat) := [(20, .aload_n 0, 1), (21, .getfield 13, 3), (24, .aload_n 0, 1), (25, .getfield 26, 3), (28, .iload_n 2, 1)]
theorem bk_N_add_20_5_ok : jm_at mt_N_add.2.1 bk_N_add_20_5 = true := by decide +kernel
abbrev bk_N_add_30_7 : List (Nat × Instr × Nat) := [(30, .aload_n 0, 1), (31, .getfield 16, 3), (34, .aload_n 0, 1), (35, .getfield 26, 3), (38, .iload_n 3, 1), (39, .iload_n 2, 1), (40, .isub, 1)]
theorem bk_N_add_30_7_ok : jm_at mt_N_add.2.1 bk_N_add_30_7 = true := by decide +kernel
abbrev bk_N_add_42_5 : List (Nat × Instr × Nat) := [(42, .aload_n 0, 1), (43, .getfield 19, 3), (46, .aload_n 0, 1), (47, .getfield 26, 3), (50, .iconst 0, 1)]
theorem bk_N_add_42_5_ok : jm_at mt_N_add.2.1 bk_N_add_42_5 = true := by decide +kernel
abbrev bk_N_add_52_6 : List (Nat × Instr × Nat) := [(52, .aload_n 0, 1), (53, .dup, 1), (54, .getfield 26, 3), (57, .iconst 1, 1), (58, .iadd, 1), (59, .putfield 26, 3)]
theorem bk_N_add_52_6_ok : jm_at mt_N_add.2.1 bk_N_add_52_6 = true := by decide +kernel
theorem dd_N_add_51 : decode mt_N_add.2.1 51 = .ok (.iastore, 1) := by decide +kernel
theorem dd_N_add_41 : decode mt_N_add.2.1 41 = .ok (.iastore, 1) := by decide +kernel
theorem dd_N_add_29 : decode mt_N_add.2.1 29 = .ok (.iastore, 1) := by decide +kernel
theorem dd_N_add_19 : decode mt_N_add.2.1 19 = .ok (.iastore, 1) := by decide +kernel
theorem dd_N_add_62 : decode mt_N_add.2.1 62 = .ok (.return_, 1) := by decide +kernel
def J_N_add_62 (K : Nat) (g : jm_Rec)  (x : jm_X) : Option jm_R := some (.inl (none, x))
set_option maxRecDepth 100000 in
set_option maxHeartbeats 4000000 in
theorem jj_N_add_62 {l : Launch} {D : va_G} {ad : Nat → Nat} {aC : Nat → ClassId} {b0 : Nat} {K d0 : Nat} {g : jm_Rec} (hok : jm_Ok (jm_PP l D clC ad aC shC b0 1)) (hrec : ∀ (t : Nat) (av : List Value) (x : jm_X), jm_Con (jm_PP l D clC ad aC shC b0 1) (rcC t) d0 av x (g t av x))  (x : jm_X) : jm_V (jm_PP l D clC ad aC shC b0 1) mt_N_add (d0 + 1) 62 [] [] x (J_N_add_62 K g  x) := by
  have hT := tk_N (l := l) (D := D) (ad := ad) (aC := aC) (b0 := b0)
  unfold J_N_add_62
  exact jm_V.vret rfl dd_N_add_62
def f_N_add (K : Nat) (g : jm_Rec) (a1 : Int32) (a2 : Int32) (a3 : Int32) (x : jm_X) : Option jm_R := (if 1400 ≤ (x.1 605) then J_N_add_62 K g x else (if jm_in shC 7 .int (x.1 605) then jm_then (jm_ua x 7 (x.1 605) a1) (fun x1 => (if jm_in shC 8 .int (x1.1 605) then jm_then (jm_ua x1 8 (x1.1 605) a2) (fun x2 => (if jm_in shC 9 .int (x2.1 605) then jm_then (jm_ua x2 9 (x2.1 605) (a3 - a2)) (fun x3 => (if jm_in shC 10 .int (x3.1 605) then jm_then (jm_ua x3 10 (x3.1 605) 0) (fun x4 => jm_then (va_up x4.1 605 ((x4.1 605) + 1), x4.2) (fun x5 => J_N_add_62 K g x5)) else none)) else none)) else none)) else none))
set_option maxRecDepth 100000 in
set_option maxHeartbeats 4000000 in
theorem c_N_add {l : Launch} {D : va_G} {ad : Nat → Nat} {aC : Nat → ClassId} {b0 : Nat} {K d0 : Nat} {g : jm_Rec} (hok : jm_Ok (jm_PP l D clC ad aC shC b0 1)) (hrec : ∀ (t : Nat) (av : List Value) (x : jm_X), jm_Con (jm_PP l D clC ad aC shC b0 1) (rcC t) d0 av x (g t av x)) (a1 : Int32) (a2 : Int32) (a3 : Int32) (x : jm_X) : jm_Con (jm_PP l D clC ad aC shC b0 1) mt_N_add (d0 + 1) [.ref 6, .int a1, .int a2, .int a3] x (f_N_add K g a1 a2 a3 x) := by
  refine jm_Con.of (plainFor_of_name (by decide +kernel)) (Nat.le_of_ble_eq_true rfl) ?_
  have hT := tk_N (l := l) (D := D) (ad := ad) (aC := aC) (b0 := b0)
  unfold f_N_add
  show jm_V _ _ _ 0 [(0, .ref 6), (1, .int a1), (2, .int a2), (3, .int a3)] [] x _
  refine jm_V.run (is := bk_N_add_0_4) (pc' := (if 1400 ≤ (x.1 605) then 62 else 10)) (ls' := [(0, .ref 6), (1, .int a1), (2, .int a2), (3, .int a3)]) (st' := []) (x' := x) hok hT bk_N_add_0_4_ok rfl ?_
  refine jm_V.ite (fun _ => ?_) (fun _ => ?_)
  · refine jm_V.sub (ls' := []) [] rfl ?_
    exact jj_N_add_62 hok hrec x
  · refine jm_V.run (is := bk_N_add_10_5) (pc' := 19) (ls' := [(0, .ref 6), (1, .int a1), (2, .int a2), (3, .int a3)]) (st' := [.int a1, .int (x.1 605), .ref 7]) (x' := x) hok hT bk_N_add_10_5_ok rfl ?_
    refine jm_V.iast hok dd_N_add_19 ?_
    refine jm_V.then_ (fun x1 => ?_)
    refine jm_V.run (is := bk_N_add_20_5) (pc' := 29) (ls' := [(0, .ref 6), (1, .int a1), (2, .int a2), (3, .int a3)]) (st' := [.int a2, .int (x1.1 605), .ref 8]) (x' := x1) hok hT bk_N_add_20_5_ok rfl ?_
    refine jm_V.iast hok dd_N_add_29 ?_
    refine jm_V.then_ (fun x2 => ?_)
    refine jm_V.run (is := bk_N_add_30_7) (pc' := 41) (ls' := [(0, .ref 6), (1, .int a1), (2, .int a2), (3, .int a3)]) (st' := [.int (a3 - a2), .int (x2.1 605), .ref 9]) (x' := x2) hok hT bk_N_add_30_7_ok rfl ?_
    refine jm_V.iast hok dd_N_add_41 ?_
    refine jm_V.then_ (fun x3 => ?_)
    refine jm_V.run (is := bk_N_add_42_5) (pc' := 51) (ls' := [(0, .ref 6), (1, .int a1), (2, .int a2), (3, .int a3)]) (st' := [.int 0, .int (x3.1 605), .ref 10]) (x' := x3) hok hT bk_N_add_42_5_ok rfl ?_
    refine jm_V.iast hok dd_N_add_51 ?_
    refine jm_V.then_ (fun x4 => ?_)
    refine jm_V.run (is := bk_N_add_52_6) (pc' := 62) (ls' := [(0, .ref 6), (1, .int a1), (2, .int a2), (3, .int a3)]) (st' := []) (x' := (va_up x4.1 605 ((x4.1 605) + 1), x4.2)) hok hT bk_N_add_52_6_ok rfl ?_
    refine jm_V.then_ (fun x5 => ?_)
    refine jm_V.sub (ls' := []) [] rfl ?_
    exact jj_N_add_62 hok hrec x5
abbrev bk_N_setParameters_0_2 : List (Nat × Instr × Nat) := [(0, .iload_n 1, 1), (1, .ifCond .lt 18, 3)]
theorem bk_N_setParameters_0_2_ok : jm_at mt_N_setParameters.2.1 bk_N_setParameters_0_2 = true := by decide +kernel
abbrev bk_N_setParameters_4_4 : List (Nat × Instr × Nat) := [(4, .iload_n 1, 1), (5, .aload_n 0, 1), (6, .getfield 26, 3), (9, .if_icmp .ge 10, 3)]
theorem bk_N_setParameters_4_4_ok : jm_at mt_N_setParameters.2.1 bk_N_setParameters_4_4 = true := by decide +kernel
abbrev bk_N_setParameters_12_4 : List (Nat × Instr × Nat) := [(12, .aload_n 0, 1), (13, .getfield 19, 3), (16, .iload_n 1, 1), (17, .iload_n 2, 1)]
theorem bk_N_setParameters_12_4_ok : jm_at mt_N_setParameters.2.1 bk_N_setParameters_12_4 = true := by decide +kernel
theorem dd_N_setParameters_18 : decode mt_N_setParameters.2.1 18 = .ok (.iastore, 1) := by decide +kernel
theorem dd_N_setParameters_19 : decode mt_N_setParameters.2.1 19 = .ok (.return_, 1) := by decide +kernel
def J_N_setParameters_19 (K : Nat) (g : jm_Rec)  (x : jm_X) : Option jm_R := some (.inl (none, x))
set_option maxRecDepth 100000 in
set_option maxHeartbeats 4000000 in
theorem jj_N_setParameters_19 {l : Launch} {D : va_G} {ad : Nat → Nat} {aC : Nat → ClassId} {b0 : Nat} {K d0 : Nat} {g : jm_Rec} (hok : jm_Ok (jm_PP l D clC ad aC shC b0 1)) (hrec : ∀ (t : Nat) (av : List Value) (x : jm_X), jm_Con (jm_PP l D clC ad aC shC b0 1) (rcC t) d0 av x (g t av x))  (x : jm_X) : jm_V (jm_PP l D clC ad aC shC b0 1) mt_N_setParameters (d0 + 1) 19 [] [] x (J_N_setParameters_19 K g  x) := by
  have hT := tk_N (l := l) (D := D) (ad := ad) (aC := aC) (b0 := b0)
  unfold J_N_setParameters_19
  exact jm_V.vret rfl dd_N_setParameters_19
def f_N_setParameters (K : Nat) (g : jm_Rec) (a1 : Int32) (a2 : Int32) (x : jm_X) : Option jm_R := (if a1 < 0 then J_N_setParameters_19 K g x else (if (x.1 605) ≤ a1 then J_N_setParameters_19 K g x else (if jm_in shC 10 .int a1 then jm_then (jm_ua x 10 a1 a2) (fun x1 => J_N_setParameters_19 K g x1) else none)))
set_option maxRecDepth 100000 in
set_option maxHeartbeats 4000000 in
theorem c_N_setParameters {l : Launch} {D : va_G} {ad : Nat → Nat} {aC : Nat → ClassId} {b0 : Nat} {K d0 : Nat} {g : jm_Rec} (hok : jm_Ok (jm_PP l D clC ad aC shC b0 1)) (hrec : ∀ (t : Nat) (av : List Value) (x : jm_X), jm_Con (jm_PP l D clC ad aC shC b0 1) (rcC t) d0 av x (g t av x)) (a1 : Int32) (a2 : Int32) (x : jm_X) : jm_Con (jm_PP l D clC ad aC shC b0 1) mt_N_setParameters (d0 + 1) [.ref 6, .int a1, .int a2] x (f_N_setParameters K g a1 a2 x) := by
  refine jm_Con.of (plainFor_of_name (by decide +kernel)) (Nat.le_of_ble_eq_true rfl) ?_
  have hT := tk_N (l := l) (D := D) (ad := ad) (aC := aC) (b0 := b0)
  unfold f_N_setParameters
  show jm_V _ _ _ 0 [(0, .ref 6), (1, .int a1), (2, .int a2)] [] x _
  refine jm_V.run (is := bk_N_setParameters_0_2) (pc' := (if a1 < 0 then 19 else 4)) (ls' := [(0, .ref 6), (1, .int a1), (2, .int a2)]) (st' := []) (x' := x) hok hT bk_N_setParameters_0_2_ok rfl ?_
  refine jm_V.ite (fun _ => ?_) (fun _ => ?_)
  · refine jm_V.sub (ls' := []) [] rfl ?_
    exact jj_N_setParameters_19 hok hrec x
  · refine jm_V.run (is := bk_N_setParameters_4_4) (pc' := (if (x.1 605) ≤ a1 then 19 else 12)) (ls' := [(0, .ref 6), (1, .int a1), (2, .int a2)]) (st' := []) (x' := x) hok hT bk_N_setParameters_4_4_ok rfl ?_
    refine jm_V.ite (fun _ => ?_) (fun _ => ?_)
    · refine jm_V.sub (ls' := []) [] rfl ?_
      exact jj_N_setParameters_19 hok hrec x
    · refine jm_V.run (is := bk_N_setParameters_12_4) (pc' := 18) (ls' := [(0, .ref 6), (1, .int a1), (2, .int a2)]) (st' := [.int a2, .int a1, .ref 10]) (x' := x) hok hT bk_N_setParameters_12_4_ok rfl ?_
      refine jm_V.iast hok dd_N_setParameters_18 ?_
      refine jm_V.then_ (fun x1 => ?_)
      refine jm_V.sub (ls' := []) [] rfl ?_
      exact jj_N_setParameters_19 hok hrec x1
abbrev bk_N_forgetFrom_0_4 : List (Nat × Instr × Nat) := [(0, .aload_n 0, 1), (1, .aload_n 0, 1), (2, .getfield 26, 3), (5, .iload_n 1, 1)]
theorem bk_N_forgetFrom_0_4_ok : jm_at mt_N_forgetFrom.2.1 bk_N_forgetFrom_0_4 = true := by decide +kernel
abbrev bk_N_forgetFrom_9_1 : List (Nat × Instr × Nat) := [(9, .putfield 26, 3)]
theorem bk_N_forgetFrom_9_1_ok : jm_at mt_N_forgetFrom.2.1 bk_N_forgetFrom_9_1 = true := by decide +kernel
theorem dd_N_forgetFrom_6 : decode mt_N_forgetFrom.2.1 6 = .ok (.invokestatic 30, 3) := by decide +kernel
theorem dd_N_forgetFrom_12 : decode mt_N_forgetFrom.2.1 12 = .ok (.return_, 1) := by decide +kernel
def f_N_forgetFrom (K : Nat) (g : jm_Rec) (a1 : Int32) (x : jm_X) : Option jm_R := jm_bI (f_JM_min_ii K g (x.1 605) a1 x) (fun b2 x1 => jm_then (va_up x1.1 605 b2, x1.2) (fun x3 => some (.inl (none, x3))))
set_option maxRecDepth 100000 in
set_option maxHeartbeats 4000000 in
theorem c_N_forgetFrom {l : Launch} {D : va_G} {ad : Nat → Nat} {aC : Nat → ClassId} {b0 : Nat} {K d0 : Nat} {g : jm_Rec} (hok : jm_Ok (jm_PP l D clC ad aC shC b0 1)) (hrec : ∀ (t : Nat) (av : List Value) (x : jm_X), jm_Con (jm_PP l D clC ad aC shC b0 1) (rcC t) d0 av x (g t av x)) (a1 : Int32) (x : jm_X) : jm_Con (jm_PP l D clC ad aC shC b0 1) mt_N_forgetFrom (d0 + 2) [.ref 6, .int a1] x (f_N_forgetFrom K g a1 x) := by
  refine jm_Con.of (plainFor_of_name (by decide +kernel)) (Nat.le_of_ble_eq_true rfl) ?_
  have hT := tk_N (l := l) (D := D) (ad := ad) (aC := aC) (b0 := b0)
  unfold f_N_forgetFrom
  show jm_V _ _ _ 0 [(0, .ref 6), (1, .int a1)] [] x _
  refine jm_V.run (is := bk_N_forgetFrom_0_4) (pc' := 6) (ls' := [(0, .ref 6), (1, .int a1)]) (st' := [.int a1, .int (x.1 605), .ref 6]) (x' := x) hok hT bk_N_forgetFrom_0_4_ok rfl ?_
  refine jm_V.callI (av := [.int (x.1 605), .int a1]) (rest := [.ref 6]) hok (jm_Con.mono (c_JM_min_ii (d0 := d0) hok hrec (x.1 605) a1 x) (by omega)) (jm_Inv.stat dd_N_forgetFrom_6 (Or.inl lk_N_30) mq_JM_min_ii mi_JM mw_JM_min_ii mh_JM_min_ii ml_JM_min_ii) mw_JM_min_ii mi_JM (Nat.le_of_ble_eq_true rfl) (Nat.le_of_ble_eq_true rfl) (fun b2 x1 => ?_)
  refine jm_V.run (is := bk_N_forgetFrom_9_1) (pc' := 12) (ls' := [(0, .ref 6), (1, .int a1)]) (st' := []) (x' := (va_up x1.1 605 b2, x1.2)) hok hT bk_N_forgetFrom_9_1_ok rfl ?_
  refine jm_V.then_ (fun x3 => ?_)
  exact jm_V.vret rfl dd_N_forgetFrom_12
abbrev bk_N_setSorts_0_2 : List (Nat × Instr × Nat) := [(0, .iload_n 1, 1), (1, .iconst 0, 1)]
theorem bk_N_setSorts_0_2_ok : jm_at mt_N_setSorts.2.1 bk_N_setSorts_0_2 = true := by decide +kernel
abbrev bk_N_setSorts_5_1 : List (Nat × Instr × Nat) := [(5, .istore 4, 2)]
theorem bk_N_setSorts_5_1_ok : jm_at mt_N_setSorts.2.1 bk_N_setSorts_5_1 = true := by decide +kernel
abbrev bk_N_setSorts_7_3 : List (Nat × Instr × Nat) := [(7, .iload 4, 2), (9, .iload_n 2, 1), (10, .if_icmp .ge 26, 3)]
theorem bk_N_setSorts_7_3_ok : jm_at mt_N_setSorts.2.1 bk_N_setSorts_7_3 = true := by decide +kernel
abbrev bk_N_setSorts_13_4 : List (Nat × Instr × Nat) := [(13, .iload 4, 2), (15, .aload_n 0, 1), (16, .getfield 26, 3), (19, .if_icmp .ge 17, 3)]
theorem bk_N_setSorts_13_4_ok : jm_at mt_N_setSorts.2.1 bk_N_setSorts_13_4 = true := by decide +kernel
abbrev bk_N_setSorts_22_4 : List (Nat × Instr × Nat) := [(22, .aload_n 0, 1), (23, .getfield 9, 3), (26, .iload 4, 2), (28, .iload_n 3, 1)]
theorem bk_N_setSorts_22_4_ok : jm_at mt_N_setSorts.2.1 bk_N_setSorts_22_4 = true := by decide +kernel
abbrev bk_N_setSorts_30_2 : List (Nat × Instr × Nat) := [(30, .iinc 4 1, 3), (33, .goto (-26), 3)]
theorem bk_N_setSorts_30_2_ok : jm_at mt_N_setSorts.2.1 bk_N_setSorts_30_2 = true := by decide +kernel
theorem dd_N_setSorts_2 : decode mt_N_setSorts.2.1 2 = .ok (.invokestatic 36, 3) := by decide +kernel
theorem dd_N_setSorts_29 : decode mt_N_setSorts.2.1 29 = .ok (.iastore, 1) := by decide +kernel
theorem dd_N_setSorts_36 : decode mt_N_setSorts.2.1 36 = .ok (.return_, 1) := by decide +kernel
def J_N_setSorts_36 (K : Nat) (g : jm_Rec)  (x : jm_X) : Option jm_R := some (.inl (none, x))
set_option maxRecDepth 100000 in
set_option maxHeartbeats 4000000 in
theorem jj_N_setSorts_36 {l : Launch} {D : va_G} {ad : Nat → Nat} {aC : Nat → ClassId} {b0 : Nat} {K d0 : Nat} {g : jm_Rec} (hok : jm_Ok (jm_PP l D clC ad aC shC b0 1)) (hrec : ∀ (t : Nat) (av : List Value) (x : jm_X), jm_Con (jm_PP l D clC ad aC shC b0 1) (rcC t) d0 av x (g t av x))  (x : jm_X) : jm_V (jm_PP l D clC ad aC shC b0 1) mt_N_setSorts (d0 + 2) 36 [] [] x (J_N_setSorts_36 K g  x) := by
  have hT := tk_N (l := l) (D := D) (ad := ad) (aC := aC) (b0 := b0)
  unfold J_N_setSorts_36
  exact jm_V.vret rfl dd_N_setSorts_36
def B_N_setSorts_7 (K : Nat) (g : jm_Rec) (self : Int32 → Int32 → Int32 → jm_X → Option jm_R) (v2 : Int32) (v3 : Int32) (v4 : Int32) (x : jm_X) : Option jm_R := (if v2 ≤ v4 then J_N_setSorts_36 K g x else (if (x.1 605) ≤ v4 then J_N_setSorts_36 K g x else (if jm_in shC 7 .int v4 then jm_then (jm_ua x 7 v4 v3) (fun x3 => self v2 v3 (v4 + 1) x3) else none)))
def L_N_setSorts_7 (K : Nat) (g : jm_Rec) : Nat → Int32 → Int32 → Int32 → jm_X → Option jm_R
  | 0, _, _, _, _ => none
  | k + 1, v2, v3, v4, x => B_N_setSorts_7 K g (L_N_setSorts_7 K g k) v2 v3 v4 x
set_option maxRecDepth 100000 in
set_option maxHeartbeats 4000000 in
theorem jb_N_setSorts_7 {l : Launch} {D : va_G} {ad : Nat → Nat} {aC : Nat → ClassId} {b0 : Nat} {K d0 : Nat} {g : jm_Rec} (hok : jm_Ok (jm_PP l D clC ad aC shC b0 1)) (hrec : ∀ (t : Nat) (av : List Value) (x : jm_X), jm_Con (jm_PP l D clC ad aC shC b0 1) (rcC t) d0 av x (g t av x)) {self : Int32 → Int32 → Int32 → jm_X → Option jm_R} (hself : ∀ (v2 : Int32) (v3 : Int32) (v4 : Int32) (x : jm_X), jm_V (jm_PP l D clC ad aC shC b0 1) mt_N_setSorts (d0 + 2) 7 [(0, .ref 6), (2, .int v2), (3, .int v3), (4, .int v4)] [] x (self v2 v3 v4 x)) (v2 : Int32) (v3 : Int32) (v4 : Int32) (x : jm_X) : jm_V (jm_PP l D clC ad aC shC b0 1) mt_N_setSorts (d0 + 2) 7 [(0, .ref 6), (2, .int v2), (3, .int v3), (4, .int v4)] [] x (B_N_setSorts_7 K g self v2 v3 v4 x) := by
  have hT := tk_N (l := l) (D := D) (ad := ad) (aC := aC) (b0 := b0)
  unfold B_N_setSorts_7
  refine jm_V.run (is := bk_N_setSorts_7_3) (pc' := (if v2 ≤ v4 then 36 else 13)) (ls' := [(0, .ref 6), (2, .int v2), (3, .int v3), (4, .int v4)]) (st' := []) (x' := x) hok hT bk_N_setSorts_7_3_ok rfl ?_
  refine jm_V.ite (fun _ => ?_) (fun _ => ?_)
  · refine jm_V.sub (ls' := []) [] rfl ?_
    exact jj_N_setSorts_36 hok hrec x
  · refine jm_V.run (is := bk_N_setSorts_13_4) (pc' := (if (x.1 605) ≤ v4 then 36 else 22)) (ls' := [(0, .ref 6), (2, .int v2), (3, .int v3), (4, .int v4)]) (st' := []) (x' := x) hok hT bk_N_setSorts_13_4_ok rfl ?_
    refine jm_V.ite (fun _ => ?_) (fun _ => ?_)
    · refine jm_V.sub (ls' := []) [] rfl ?_
      exact jj_N_setSorts_36 hok hrec x
    · refine jm_V.run (is := bk_N_setSorts_22_4) (pc' := 29) (ls' := [(0, .ref 6), (2, .int v2), (3, .int v3), (4, .int v4)]) (st' := [.int v3, .int v4, .ref 7]) (x' := x) hok hT bk_N_setSorts_22_4_ok rfl ?_
      refine jm_V.iast hok dd_N_setSorts_29 ?_
      refine jm_V.then_ (fun x3 => ?_)
      refine jm_V.run (is := bk_N_setSorts_30_2) (pc' := 7) (ls' := [(4, .int (v4 + 1)), (0, .ref 6), (2, .int v2), (3, .int v3)]) (st' := []) (x' := x3) hok hT bk_N_setSorts_30_2_ok rfl ?_
      refine jm_V.sub (ls' := [(0, .ref 6), (2, .int v2), (3, .int v3), (4, .int (v4 + 1))]) [1, 2, 3, 0] rfl ?_
      exact hself v2 v3 (v4 + 1) x3
theorem jl_N_setSorts_7 {l : Launch} {D : va_G} {ad : Nat → Nat} {aC : Nat → ClassId} {b0 : Nat} {K d0 : Nat} {g : jm_Rec} (hok : jm_Ok (jm_PP l D clC ad aC shC b0 1)) (hrec : ∀ (t : Nat) (av : List Value) (x : jm_X), jm_Con (jm_PP l D clC ad aC shC b0 1) (rcC t) d0 av x (g t av x)) : ∀ (k : Nat) (v2 : Int32) (v3 : Int32) (v4 : Int32) (x : jm_X), jm_V (jm_PP l D clC ad aC shC b0 1) mt_N_setSorts (d0 + 2) 7 [(0, .ref 6), (2, .int v2), (3, .int v3), (4, .int v4)] [] x (L_N_setSorts_7 K g k v2 v3 v4 x)
  | 0, _, _, _, _ => jm_V.stuck
  | k + 1, v2, v3, v4, x => jb_N_setSorts_7 hok hrec (fun v2 v3 v4 x => jl_N_setSorts_7 hok hrec k v2 v3 v4 x) v2 v3 v4 x
def f_N_setSorts (K : Nat) (g : jm_Rec) (a1 : Int32) (a2 : Int32) (a3 : Int32) (x : jm_X) : Option jm_R := jm_bI (f_JM_max K g a1 0 x) (fun b2 x1 => L_N_setSorts_7 K g K a2 a3 b2 x1)
set_option maxRecDepth 100000 in
set_option maxHeartbeats 4000000 in
theorem c_N_setSorts {l : Launch} {D : va_G} {ad : Nat → Nat} {aC : Nat → ClassId} {b0 : Nat} {K d0 : Nat} {g : jm_Rec} (hok : jm_Ok (jm_PP l D clC ad aC shC b0 1)) (hrec : ∀ (t : Nat) (av : List Value) (x : jm_X), jm_Con (jm_PP l D clC ad aC shC b0 1) (rcC t) d0 av x (g t av x)) (a1 : Int32) (a2 : Int32) (a3 : Int32) (x : jm_X) : jm_Con (jm_PP l D clC ad aC shC b0 1) mt_N_setSorts (d0 + 2) [.ref 6, .int a1, .int a2, .int a3] x (f_N_setSorts K g a1 a2 a3 x) := by
  refine jm_Con.of (plainFor_of_name (by decide +kernel)) (Nat.le_of_ble_eq_true rfl) ?_
  have hT := tk_N (l := l) (D := D) (ad := ad) (aC := aC) (b0 := b0)
  unfold f_N_setSorts
  show jm_V _ _ _ 0 [(0, .ref 6), (1, .int a1), (2, .int a2), (3, .int a3)] [] x _
  refine jm_V.run (is := bk_N_setSorts_0_2) (pc' := 2) (ls' := [(0, .ref 6), (1, .int a1), (2, .int a2), (3, .int a3)]) (st' := [.int 0, .int a1]) (x' := x) hok hT bk_N_setSorts_0_2_ok rfl ?_
  refine jm_V.callI (av := [.int a1, .int 0]) (rest := []) hok (jm_Con.mono (c_JM_max (d0 := d0) hok hrec a1 0 x) (by omega)) (jm_Inv.stat dd_N_setSorts_2 (Or.inl lk_N_36) mq_JM_max mi_JM mw_JM_max mh_JM_max ml_JM_max) mw_JM_max mi_JM (Nat.le_of_ble_eq_true rfl) (Nat.le_of_ble_eq_true rfl) (fun b2 x1 => ?_)
  refine jm_V.run (is := bk_N_setSorts_5_1) (pc' := 7) (ls' := [(4, .int b2), (0, .ref 6), (1, .int a1), (2, .int a2), (3, .int a3)]) (st' := []) (x' := x1) hok hT bk_N_setSorts_5_1_ok rfl ?_
  refine jm_V.sub (ls' := [(0, .ref 6), (2, .int a2), (3, .int a3), (4, .int b2)]) [1, 3, 4, 0] rfl ?_
  exact jl_N_setSorts_7 hok hrec K a2 a3 b2 x1
abbrev bk_N_isNamed_0_3 : List (Nat × Instr × Nat) := [(0, .aload_n 0, 1), (1, .getfield 16, 3), (4, .iload_n 1, 1)]
theorem bk_N_isNamed_0_3_ok : jm_at mt_N_isNamed.2.1 bk_N_isNamed_0_3 = true := by decide +kernel
abbrev bk_N_isNamed_6_4 : List (Nat × Instr × Nat) := [(6, .iload_n 3, 1), (7, .iload_n 2, 1), (8, .isub, 1), (9, .if_icmp .ne 30, 3)]
theorem bk_N_isNamed_6_4_ok : jm_at mt_N_isNamed.2.1 bk_N_isNamed_6_4 = true := by decide +kernel
abbrev bk_N_isNamed_12_5 : List (Nat × Instr × Nat) := [(12, .aload_n 0, 1), (13, .getfield 22, 3), (16, .aload_n 0, 1), (17, .getfield 13, 3), (20, .iload_n 1, 1)]
theorem bk_N_isNamed_12_5_ok : jm_at mt_N_isNamed.2.1 bk_N_isNamed_12_5 = true := by decide +kernel
abbrev bk_N_isNamed_22_4 : List (Nat × Instr × Nat) := [(22, .iload_n 2, 1), (23, .aload_n 0, 1), (24, .getfield 16, 3), (27, .iload_n 1, 1)]
theorem bk_N_isNamed_22_4_ok : jm_at mt_N_isNamed.2.1 bk_N_isNamed_22_4 = true := by decide +kernel
abbrev bk_N_isNamed_32_1 : List (Nat × Instr × Nat) := [(32, .ifCond .eq 7, 3)]
theorem bk_N_isNamed_32_1_ok : jm_at mt_N_isNamed.2.1 bk_N_isNamed_32_1 = true := by decide +kernel
abbrev bk_N_isNamed_35_2 : List (Nat × Instr × Nat) := [(35, .iconst 1, 1), (36, .goto 4, 3)]
theorem bk_N_isNamed_35_2_ok : jm_at mt_N_isNamed.2.1 bk_N_isNamed_35_2 = true := by decide +kernel
abbrev bk_N_isNamed_39_1 : List (Nat × Instr × Nat) := [(39, .iconst 0, 1)]
theorem bk_N_isNamed_39_1_ok : jm_at mt_N_isNamed.2.1 bk_N_isNamed_39_1 = true := by decide +kernel
theorem dd_N_isNamed_29 : decode mt_N_isNamed.2.1 29 = .ok (.invokestatic 48, 3) := by decide +kernel
theorem dd_N_isNamed_28 : decode mt_N_isNamed.2.1 28 = .ok (.iaload, 1) := by decide +kernel
theorem dd_N_isNamed_21 : decode mt_N_isNamed.2.1 21 = .ok (.iaload, 1) := by decide +kernel
theorem dd_N_isNamed_5 : decode mt_N_isNamed.2.1 5 = .ok (.iaload, 1) := by decide +kernel
theorem dd_N_isNamed_40 : decode mt_N_isNamed.2.1 40 = .ok (.ireturn, 1) := by decide +kernel
def J_N_isNamed_40 (K : Nat) (g : jm_Rec) (s0 : Int32) (x : jm_X) : Option jm_R := some (.inl (some (.int (vp_nar .boolean s0)), x))
set_option maxRecDepth 100000 in
set_option maxHeartbeats 4000000 in
theorem jj_N_isNamed_40 {l : Launch} {D : va_G} {ad : Nat → Nat} {aC : Nat → ClassId} {b0 : Nat} {K d0 : Nat} {g : jm_Rec} (hok : jm_Ok (jm_PP l D clC ad aC shC b0 1)) (hrec : ∀ (t : Nat) (av : List Value) (x : jm_X), jm_Con (jm_PP l D clC ad aC shC b0 1) (rcC t) d0 av x (g t av x)) (s0 : Int32) (x : jm_X) : jm_V (jm_PP l D clC ad aC shC b0 1) mt_N_isNamed (d0 + 2) 40 [] [.int s0] x (J_N_isNamed_40 K g s0 x) := by
  have hT := tk_N (l := l) (D := D) (ad := ad) (aC := aC) (b0 := b0)
  unfold J_N_isNamed_40
  exact jm_V.nret (t := .boolean) rfl rfl dd_N_isNamed_40
def J_N_isNamed_39 (K : Nat) (g : jm_Rec)  (x : jm_X) : Option jm_R := J_N_isNamed_40 K g 0 x
set_option maxRecDepth 100000 in
set_option maxHeartbeats 4000000 in
theorem jj_N_isNamed_39 {l : Launch} {D : va_G} {ad : Nat → Nat} {aC : Nat → ClassId} {b0 : Nat} {K d0 : Nat} {g : jm_Rec} (hok : jm_Ok (jm_PP l D clC ad aC shC b0 1)) (hrec : ∀ (t : Nat) (av : List Value) (x : jm_X), jm_Con (jm_PP l D clC ad aC shC b0 1) (rcC t) d0 av x (g t av x))  (x : jm_X) : jm_V (jm_PP l D clC ad aC shC b0 1) mt_N_isNamed (d0 + 2) 39 [] [] x (J_N_isNamed_39 K g  x) := by
  have hT := tk_N (l := l) (D := D) (ad := ad) (aC := aC) (b0 := b0)
  unfold J_N_isNamed_39
  refine jm_V.run (is := bk_N_isNamed_39_1) (pc' := 40) (ls' := []) (st' := [.int 0]) (x' := x) hok hT bk_N_isNamed_39_1_ok rfl ?_
  exact jj_N_isNamed_40 hok hrec 0 x
def f_N_isNamed (K : Nat) (g : jm_Rec) (a1 : Int32) (a2 : Int32) (a3 : Int32) (x : jm_X) : Option jm_R := (if jm_in shC 9 .int a1 then (if (x.2.2 9 (Int32.toNatClampNeg a1)) = (a3 - a2) then (if jm_in shC 8 .int a1 then (if jm_in shC 9 .int a1 then jm_bI (f_B_same K g (x.2.1 604) (x.2.2 8 (Int32.toNatClampNeg a1)) a2 (x.2.2 9 (Int32.toNatClampNeg a1)) x) (fun b2 x1 => (if b2 = 0 then J_N_isNamed_39 K g x1 else J_N_isNamed_40 K g 1 x1)) else none) else none) else J_N_isNamed_39 K g x) else none)
set_option maxRecDepth 100000 in
set_option maxHeartbeats 4000000 in
theorem c_N_isNamed {l : Launch} {D : va_G} {ad : Nat → Nat} {aC : Nat → ClassId} {b0 : Nat} {K d0 : Nat} {g : jm_Rec} (hok : jm_Ok (jm_PP l D clC ad aC shC b0 1)) (hrec : ∀ (t : Nat) (av : List Value) (x : jm_X), jm_Con (jm_PP l D clC ad aC shC b0 1) (rcC t) d0 av x (g t av x)) (a1 : Int32) (a2 : Int32) (a3 : Int32) (x : jm_X) : jm_Con (jm_PP l D clC ad aC shC b0 1) mt_N_isNamed (d0 + 2) [.ref 6, .int a1, .int a2, .int a3] x (f_N_isNamed K g a1 a2 a3 x) := by
  refine jm_Con.of (plainFor_of_name (by decide +kernel)) (Nat.le_of_ble_eq_true rfl) ?_
  have hT := tk_N (l := l) (D := D) (ad := ad) (aC := aC) (b0 := b0)
  unfold f_N_isNamed
  show jm_V _ _ _ 0 [(0, .ref 6), (1, .int a1), (2, .int a2), (3, .int a3)] [] x _
  refine jm_V.run (is := bk_N_isNamed_0_3) (pc' := 5) (ls' := [(0, .ref 6), (1, .int a1), (2, .int a2), (3, .int a3)]) (st' := [.int a1, .ref 9]) (x' := x) hok hT bk_N_isNamed_0_3_ok rfl ?_
  refine jm_V.iald dd_N_isNamed_5 ?_
  refine jm_V.run (is := bk_N_isNamed_6_4) (pc' := (if (x.2.2 9 (Int32.toNatClampNeg a1)) = (a3 - a2) then 12 else 39)) (ls' := [(0, .ref 6), (1, .int a1), (2, .int a2), (3, .int a3)]) (st' := []) (x' := x) hok hT bk_N_isNamed_6_4_ok rfl ?_
  refine jm_V.ite (fun _ => ?_) (fun _ => ?_)
  · refine jm_V.run (is := bk_N_isNamed_12_5) (pc' := 21) (ls' := [(0, .ref 6), (1, .int a1), (2, .int a2), (3, .int a3)]) (st' := [.int a1, .ref 8, .ref (x.2.1 604)]) (x' := x) hok hT bk_N_isNamed_12_5_ok rfl ?_
    refine jm_V.iald dd_N_isNamed_21 ?_
    refine jm_V.run (is := bk_N_isNamed_22_4) (pc' := 28) (ls' := [(0, .ref 6), (1, .int a1), (2, .int a2), (3, .int a3)]) (st' := [.int a1, .ref 9, .int a2, .int (x.2.2 8 (Int32.toNatClampNeg a1)), .ref (x.2.1 604)]) (x' := x) hok hT bk_N_isNamed_22_4_ok rfl ?_
    refine jm_V.iald dd_N_isNamed_28 ?_
    refine jm_V.callI (av := [.ref (x.2.1 604), .int (x.2.2 8 (Int32.toNatClampNeg a1)), .int a2, .int (x.2.2 9 (Int32.toNatClampNeg a1))]) (rest := []) hok (jm_Con.mono (c_B_same hok hrec (x.2.1 604) (x.2.2 8 (Int32.toNatClampNeg a1)) a2 (x.2.2 9 (Int32.toNatClampNeg a1)) x) (by omega)) (jm_Inv.stat dd_N_isNamed_29 (Or.inl lk_N_48) mq_B_same mi_B mw_B_same mh_B_same ml_B_same) mw_B_same mi_B (Nat.le_of_ble_eq_true rfl) (Nat.le_of_ble_eq_true rfl) (fun b2 x1 => ?_)
    refine jm_V.run (is := bk_N_isNamed_32_1) (pc' := (if b2 = 0 then 39 else 35)) (ls' := [(0, .ref 6), (1, .int a1), (2, .int a2), (3, .int a3)]) (st' := []) (x' := x1) hok hT bk_N_isNamed_32_1_ok rfl ?_
    refine jm_V.ite (fun _ => ?_) (fun _ => ?_)
    · refine jm_V.sub (ls' := []) [] rfl ?_
      exact jj_N_isNamed_39 hok hrec x1
    · refine jm_V.run (is := bk_N_isNamed_35_2) (pc' := 40) (ls' := [(0, .ref 6), (1, .int a1), (2, .int a2), (3, .int a3)]) (st' := [.int 1]) (x' := x1) hok hT bk_N_isNamed_35_2_ok rfl ?_
      refine jm_V.sub (ls' := []) [] rfl ?_
      exact jj_N_isNamed_40 hok hrec 1 x1
  · refine jm_V.sub (ls' := []) [] rfl ?_
    exact jj_N_isNamed_39 hok hrec x
abbrev bk_N_has_0_5 : List (Nat × Instr × Nat) := [(0, .aload_n 0, 1), (1, .getfield 26, 3), (4, .iconst 1, 1), (5, .isub, 1), (6, .istore 4, 2)]
theorem bk_N_has_0_5_ok : jm_at mt_N_has.2.1 bk_N_has_0_5 = true := by decide +kernel
abbrev bk_N_has_8_2 : List (Nat × Instr × Nat) := [(8, .iload 4, 2), (10, .ifCond .lt 33, 3)]
theorem bk_N_has_8_2_ok : jm_at mt_N_has.2.1 bk_N_has_8_2 = true := by decide +kernel
abbrev bk_N_has_43_1 : List (Nat × Instr × Nat) := [(43, .iconst 0, 1)]
theorem bk_N_has_43_1_ok : jm_at mt_N_has.2.1 bk_N_has_43_1 = true := by decide +kernel
abbrev bk_N_has_13_3 : List (Nat × Instr × Nat) := [(13, .aload_n 0, 1), (14, .getfield 9, 3), (17, .iload 4, 2)]
theorem bk_N_has_13_3_ok : jm_at mt_N_has.2.1 bk_N_has_13_3 = true := by decide +kernel
abbrev bk_N_has_20_2 : List (Nat × Instr × Nat) := [(20, .iload_n 1, 1), (21, .if_icmp .ne 16, 3)]
theorem bk_N_has_20_2_ok : jm_at mt_N_has.2.1 bk_N_has_20_2 = true := by decide +kernel
abbrev bk_N_has_24_4 : List (Nat × Instr × Nat) := [(24, .aload_n 0, 1), (25, .iload 4, 2), (27, .iload_n 2, 1), (28, .iload_n 3, 1)]
theorem bk_N_has_24_4_ok : jm_at mt_N_has.2.1 bk_N_has_24_4 = true := by decide +kernel
abbrev bk_N_has_32_1 : List (Nat × Instr × Nat) := [(32, .ifCond .eq 5, 3)]
theorem bk_N_has_32_1_ok : jm_at mt_N_has.2.1 bk_N_has_32_1 = true := by decide +kernel
abbrev bk_N_has_35_1 : List (Nat × Instr × Nat) := [(35, .iconst 1, 1)]
theorem bk_N_has_35_1_ok : jm_at mt_N_has.2.1 bk_N_has_35_1 = true := by decide +kernel
abbrev bk_N_has_37_2 : List (Nat × Instr × Nat) := [(37, .iinc 4 (-1), 3), (40, .goto (-32), 3)]
theorem bk_N_has_37_2_ok : jm_at mt_N_has.2.1 bk_N_has_37_2 = true := by decide +kernel
theorem dd_N_has_44 : decode mt_N_has.2.1 44 = .ok (.ireturn, 1) := by decide +kernel
theorem dd_N_has_29 : decode mt_N_has.2.1 29 = .ok (.invokevirtual 39, 3) := by decide +kernel
theorem dd_N_has_36 : decode mt_N_has.2.1 36 = .ok (.ireturn, 1) := by decide +kernel
theorem dd_N_has_19 : decode mt_N_has.2.1 19 = .ok (.iaload, 1) := by decide +kernel
def J_N_has_37 (K : Nat) (g : jm_Rec) (k8 : Int32 → Int32 → Int32 → Int32 → jm_X → Option jm_R) (v1 : Int32) (v2 : Int32) (v3 : Int32) (v4 : Int32) (x : jm_X) : Option jm_R := k8 v1 v2 v3 (v4 + (-1)) x
set_option maxRecDepth 100000 in
set_option maxHeartbeats 4000000 in
theorem jj_N_has_37 {l : Launch} {D : va_G} {ad : Nat → Nat} {aC : Nat → ClassId} {b0 : Nat} {K d0 : Nat} {g : jm_Rec} (hok : jm_Ok (jm_PP l D clC ad aC shC b0 1)) (hrec : ∀ (t : Nat) (av : List Value) (x : jm_X), jm_Con (jm_PP l D clC ad aC shC b0 1) (rcC t) d0 av x (g t av x)) {k8 : Int32 → Int32 → Int32 → Int32 → jm_X → Option jm_R} (hk8 : ∀ (v1 : Int32) (v2 : Int32) (v3 : Int32) (v4 : Int32) (x : jm_X), jm_V (jm_PP l D clC ad aC shC b0 1) mt_N_has (d0 + 3) 8 [(0, .ref 6), (1, .int v1), (2, .int v2), (3, .int v3), (4, .int v4)] [] x (k8 v1 v2 v3 v4 x)) (v1 : Int32) (v2 : Int32) (v3 : Int32) (v4 : Int32) (x : jm_X) : jm_V (jm_PP l D clC ad aC shC b0 1) mt_N_has (d0 + 3) 37 [(0, .ref 6), (1, .int v1), (2, .int v2), (3, .int v3), (4, .int v4)] [] x (J_N_has_37 K g k8 v1 v2 v3 v4 x) := by
  have hT := tk_N (l := l) (D := D) (ad := ad) (aC := aC) (b0 := b0)
  unfold J_N_has_37
  refine jm_V.run (is := bk_N_has_37_2) (pc' := 8) (ls' := [(4, .int (v4 + (-1))), (0, .ref 6), (1, .int v1), (2, .int v2), (3, .int v3)]) (st' := []) (x' := x) hok hT bk_N_has_37_2_ok rfl ?_
  refine jm_V.sub (ls' := [(0, .ref 6), (1, .int v1), (2, .int v2), (3, .int v3), (4, .int (v4 + (-1)))]) [1, 2, 3, 4, 0] rfl ?_
  exact hk8 v1 v2 v3 (v4 + (-1)) x
def B_N_has_8 (K : Nat) (g : jm_Rec) (self : Int32 → Int32 → Int32 → Int32 → jm_X → Option jm_R) (v1 : Int32) (v2 : Int32) (v3 : Int32) (v4 : Int32) (x : jm_X) : Option jm_R := (if v4 < 0 then some (.inl (some (.int 0), x)) else (if jm_in shC 7 .int v4 then (if (x.2.2 7 (Int32.toNatClampNeg v4)) = v1 then jm_bI (f_N_isNamed K g v4 v2 v3 x) (fun b2 x1 => (if b2 = 0 then J_N_has_37 K g self v1 v2 v3 v4 x1 else some (.inl (some (.int 1), x1)))) else J_N_has_37 K g self v1 v2 v3 v4 x) else none))
def L_N_has_8 (K : Nat) (g : jm_Rec) : Nat → Int32 → Int32 → Int32 → Int32 → jm_X → Option jm_R
  | 0, _, _, _, _, _ => none
  | k + 1, v1, v2, v3, v4, x => B_N_has_8 K g (L_N_has_8 K g k) v1 v2 v3 v4 x
set_option maxRecDepth 100000 in
set_option maxHeartbeats 4000000 in
theorem jb_N_has_8 {l : Launch} {D : va_G} {ad : Nat → Nat} {aC : Nat → ClassId} {b0 : Nat} {K d0 : Nat} {g : jm_Rec} (hok : jm_Ok (jm_PP l D clC ad aC shC b0 1)) (hrec : ∀ (t : Nat) (av : List Value) (x : jm_X), jm_Con (jm_PP l D clC ad aC shC b0 1) (rcC t) d0 av x (g t av x)) {self : Int32 → Int32 → Int32 → Int32 → jm_X → Option jm_R} (hself : ∀ (v1 : Int32) (v2 : Int32) (v3 : Int32) (v4 : Int32) (x : jm_X), jm_V (jm_PP l D clC ad aC shC b0 1) mt_N_has (d0 + 3) 8 [(0, .ref 6), (1, .int v1), (2, .int v2), (3, .int v3), (4, .int v4)] [] x (self v1 v2 v3 v4 x)) (v1 : Int32) (v2 : Int32) (v3 : Int32) (v4 : Int32) (x : jm_X) : jm_V (jm_PP l D clC ad aC shC b0 1) mt_N_has (d0 + 3) 8 [(0, .ref 6), (1, .int v1), (2, .int v2), (3, .int v3), (4, .int v4)] [] x (B_N_has_8 K g self v1 v2 v3 v4 x) := by
  have hT := tk_N (l := l) (D := D) (ad := ad) (aC := aC) (b0 := b0)
  unfold B_N_has_8
  refine jm_V.run (is := bk_N_has_8_2) (pc' := (if v4 < 0 then 43 else 13)) (ls' := [(0, .ref 6), (1, .int v1), (2, .int v2), (3, .int v3), (4, .int v4)]) (st' := []) (x' := x) hok hT bk_N_has_8_2_ok rfl ?_
  refine jm_V.ite (fun _ => ?_) (fun _ => ?_)
  · refine jm_V.run (is := bk_N_has_43_1) (pc' := 44) (ls' := [(0, .ref 6), (1, .int v1), (2, .int v2), (3, .int v3), (4, .int v4)]) (st' := [.int 0]) (x' := x) hok hT bk_N_has_43_1_ok rfl ?_
    exact jm_V.nret (t := .boolean) rfl rfl dd_N_has_44
  · refine jm_V.run (is := bk_N_has_13_3) (pc' := 19) (ls' := [(0, .ref 6), (1, .int v1), (2, .int v2), (3, .int v3), (4, .int v4)]) (st' := [.int v4, .ref 7]) (x' := x) hok hT bk_N_has_13_3_ok rfl ?_
    refine jm_V.iald dd_N_has_19 ?_
    refine jm_V.run (is := bk_N_has_20_2) (pc' := (if (x.2.2 7 (Int32.toNatClampNeg v4)) = v1 then 24 else 37)) (ls' := [(0, .ref 6), (1, .int v1), (2, .int v2), (3, .int v3), (4, .int v4)]) (st' := []) (x' := x) hok hT bk_N_has_20_2_ok rfl ?_
    refine jm_V.ite (fun _ => ?_) (fun _ => ?_)
    · refine jm_V.run (is := bk_N_has_24_4) (pc' := 29) (ls' := [(0, .ref 6), (1, .int v1), (2, .int v2), (3, .int v3), (4, .int v4)]) (st' := [.int v3, .int v2, .int v4, .ref 6]) (x' := x) hok hT bk_N_has_24_4_ok rfl ?_
      refine jm_V.callI (av := [.ref 6, .int v4, .int v2, .int v3]) (rest := []) hok (jm_Con.mono (c_N_isNamed hok hrec v4 v2 v3 x) (by omega)) (jm_Inv.obj (q := ("FilterReader$Names", T_N, 6)) dd_N_has_29 (Or.inl lk_N_39) mn_N_isNamed ms_N_isNamed mw_N_isNamed mh_N_isNamed ml_N_isNamed rfl rfl) mw_N_isNamed mi_N (Nat.le_of_ble_eq_true rfl) (Nat.le_of_ble_eq_true rfl) (fun b2 x1 => ?_)
      refine jm_V.run (is := bk_N_has_32_1) (pc' := (if b2 = 0 then 37 else 35)) (ls' := [(0, .ref 6), (1, .int v1), (2, .int v2), (3, .int v3), (4, .int v4)]) (st' := []) (x' := x1) hok hT bk_N_has_32_1_ok rfl ?_
      refine jm_V.ite (fun _ => ?_) (fun _ => ?_)
      · exact jj_N_has_37 hok hrec hself v1 v2 v3 v4 x1
      · refine jm_V.run (is := bk_N_has_35_1) (pc' := 36) (ls' := [(0, .ref 6), (1, .int v1), (2, .int v2), (3, .int v3), (4, .int v4)]) (st' := [.int 1]) (x' := x1) hok hT bk_N_has_35_1_ok rfl ?_
        exact jm_V.nret (t := .boolean) rfl rfl dd_N_has_36
    · exact jj_N_has_37 hok hrec hself v1 v2 v3 v4 x
theorem jl_N_has_8 {l : Launch} {D : va_G} {ad : Nat → Nat} {aC : Nat → ClassId} {b0 : Nat} {K d0 : Nat} {g : jm_Rec} (hok : jm_Ok (jm_PP l D clC ad aC shC b0 1)) (hrec : ∀ (t : Nat) (av : List Value) (x : jm_X), jm_Con (jm_PP l D clC ad aC shC b0 1) (rcC t) d0 av x (g t av x)) : ∀ (k : Nat) (v1 : Int32) (v2 : Int32) (v3 : Int32) (v4 : Int32) (x : jm_X), jm_V (jm_PP l D clC ad aC shC b0 1) mt_N_has (d0 + 3) 8 [(0, .ref 6), (1, .int v1), (2, .int v2), (3, .int v3), (4, .int v4)] [] x (L_N_has_8 K g k v1 v2 v3 v4 x)
  | 0, _, _, _, _, _ => jm_V.stuck
  | k + 1, v1, v2, v3, v4, x => jb_N_has_8 hok hrec (fun v1 v2 v3 v4 x => jl_N_has_8 hok hrec k v1 v2 v3 v4 x) v1 v2 v3 v4 x
def f_N_has (K : Nat) (g : jm_Rec) (a1 : Int32) (a2 : Int32) (a3 : Int32) (x : jm_X) : Option jm_R := L_N_has_8 K g K a1 a2 a3 ((x.1 605) - 1) x
set_option maxRecDepth 100000 in
set_option maxHeartbeats 4000000 in
theorem c_N_has {l : Launch} {D : va_G} {ad : Nat → Nat} {aC : Nat → ClassId} {b0 : Nat} {K d0 : Nat} {g : jm_Rec} (hok : jm_Ok (jm_PP l D clC ad aC shC b0 1)) (hrec : ∀ (t : Nat) (av : List Value) (x : jm_X), jm_Con (jm_PP l D clC ad aC shC b0 1) (rcC t) d0 av x (g t av x)) (a1 : Int32) (a2 : Int32) (a3 : Int32) (x : jm_X) : jm_Con (jm_PP l D clC ad aC shC b0 1) mt_N_has (d0 + 3) [.ref 6, .int a1, .int a2, .int a3] x (f_N_has K g a1 a2 a3 x) := by
  refine jm_Con.of (plainFor_of_name (by decide +kernel)) (Nat.le_of_ble_eq_true rfl) ?_
  have hT := tk_N (l := l) (D := D) (ad := ad) (aC := aC) (b0 := b0)
  unfold f_N_has
  show jm_V _ _ _ 0 [(0, .ref 6), (1, .int a1), (2, .int a2), (3, .int a3)] [] x _
  refine jm_V.run (is := bk_N_has_0_5) (pc' := 8) (ls' := [(4, .int ((x.1 605) - 1)), (0, .ref 6), (1, .int a1), (2, .int a2), (3, .int a3)]) (st' := []) (x' := x) hok hT bk_N_has_0_5_ok rfl ?_
  refine jm_V.sub (ls' := [(0, .ref 6), (1, .int a1), (2, .int a2), (3, .int a3), (4, .int ((x.1 605) - 1))]) [1, 2, 3, 4, 0] rfl ?_
  exact jl_N_has_8 hok hrec K a1 a2 a3 ((x.1 605) - 1) x
abbrev bk_N_isListed_0_4 : List (Nat × Instr × Nat) := [(0, .iconst 0, 1), (1, .istore 4, 2), (3, .iconst 0, 1), (4, .istore 5, 2)]
theorem bk_N_isListed_0_4_ok : jm_at mt_N_isListed.2.1 bk_N_isListed_0_4 = true := by decide +kernel
abbrev bk_N_isListed_6_2 : List (Nat × Instr × Nat) := [(6, .iload 5, 2), (8, .aload_n 1, 1)]
theorem bk_N_isListed_6_2_ok : jm_at mt_N_isListed.2.1 bk_N_isListed_6_2 = true := by decide +kernel
abbrev bk_N_isListed_12_1 : List (Nat × Instr × Nat) := [(12, .if_icmp .ge 54, 3)]
theorem bk_N_isListed_12_1_ok : jm_at mt_N_isListed.2.1 bk_N_isListed_12_1 = true := by decide +kernel
abbrev bk_N_isListed_66_1 : List (Nat × Instr × Nat) := [(66, .iconst 0, 1)]
theorem bk_N_isListed_66_1_ok : jm_at mt_N_isListed.2.1 bk_N_isListed_66_1 = true := by decide +kernel
abbrev bk_N_isListed_15_2 : List (Nat × Instr × Nat) := [(15, .aload_n 1, 1), (16, .iload 5, 2)]
theorem bk_N_isListed_15_2_ok : jm_at mt_N_isListed.2.1 bk_N_isListed_15_2 = true := by decide +kernel
abbrev bk_N_isListed_21_2 : List (Nat × Instr × Nat) := [(21, .bipush 32, 2), (23, .if_icmp .ne 37, 3)]
theorem bk_N_isListed_21_2_ok : jm_at mt_N_isListed.2.1 bk_N_isListed_21_2 = true := by decide +kernel
abbrev bk_N_isListed_26_7 : List (Nat × Instr × Nat) := [(26, .iload 5, 2), (28, .iload 4, 2), (30, .isub, 1), (31, .iload_n 3, 1), (32, .iload_n 2, 1), (33, .isub, 1), (34, .if_icmp .ne 20, 3)]
theorem bk_N_isListed_26_7_ok : jm_at mt_N_isListed.2.1 bk_N_isListed_26_7 = true := by decide +kernel
abbrev bk_N_isListed_37_6 : List (Nat × Instr × Nat) := [(37, .aload_n 0, 1), (38, .getfield 22, 3), (41, .iload_n 2, 1), (42, .iload_n 3, 1), (43, .aload_n 1, 1), (44, .iload 4, 2)]
theorem bk_N_isListed_37_6_ok : jm_at mt_N_isListed.2.1 bk_N_isListed_37_6 = true := by decide +kernel
abbrev bk_N_isListed_49_1 : List (Nat × Instr × Nat) := [(49, .ifCond .eq 5, 3)]
theorem bk_N_isListed_49_1_ok : jm_at mt_N_isListed.2.1 bk_N_isListed_49_1 = true := by decide +kernel
abbrev bk_N_isListed_52_1 : List (Nat × Instr × Nat) := [(52, .iconst 1, 1)]
theorem bk_N_isListed_52_1_ok : jm_at mt_N_isListed.2.1 bk_N_isListed_52_1 = true := by decide +kernel
abbrev bk_N_isListed_54_4 : List (Nat × Instr × Nat) := [(54, .iload 5, 2), (56, .iconst 1, 1), (57, .iadd, 1), (58, .istore 4, 2)]
theorem bk_N_isListed_54_4_ok : jm_at mt_N_isListed.2.1 bk_N_isListed_54_4 = true := by decide +kernel
abbrev bk_N_isListed_60_2 : List (Nat × Instr × Nat) := [(60, .iinc 5 1, 3), (63, .goto (-57), 3)]
theorem bk_N_isListed_60_2_ok : jm_at mt_N_isListed.2.1 bk_N_isListed_60_2 = true := by decide +kernel
theorem dd_N_isListed_9 : decode mt_N_isListed.2.1 9 = .ok (.invokevirtual 64, 3) := by decide +kernel
theorem dd_N_isListed_67 : decode mt_N_isListed.2.1 67 = .ok (.ireturn, 1) := by decide +kernel
theorem dd_N_isListed_18 : decode mt_N_isListed.2.1 18 = .ok (.invokevirtual 70, 3) := by decide +kernel
theorem dd_N_isListed_46 : decode mt_N_isListed.2.1 46 = .ok (.invokestatic 74, 3) := by decide +kernel
theorem dd_N_isListed_53 : decode mt_N_isListed.2.1 53 = .ok (.ireturn, 1) := by decide +kernel
def J_N_isListed_60 (K : Nat) (g : jm_Rec) (k6 : Nat → Int32 → Int32 → Int32 → Int32 → jm_X → Option jm_R) (v1 : Nat) (v2 : Int32) (v3 : Int32) (v4 : Int32) (v5 : Int32) (x : jm_X) : Option jm_R := k6 v1 v2 v3 v4 (v5 + 1) x
set_option maxRecDepth 100000 in
set_option maxHeartbeats 4000000 in
theorem jj_N_isListed_60 {l : Launch} {D : va_G} {ad : Nat → Nat} {aC : Nat → ClassId} {b0 : Nat} {K d0 : Nat} {g : jm_Rec} (hok : jm_Ok (jm_PP l D clC ad aC shC b0 1)) (hrec : ∀ (t : Nat) (av : List Value) (x : jm_X), jm_Con (jm_PP l D clC ad aC shC b0 1) (rcC t) d0 av x (g t av x)) {k6 : Nat → Int32 → Int32 → Int32 → Int32 → jm_X → Option jm_R} (hk6 : ∀ (v1 : Nat) (v2 : Int32) (v3 : Int32) (v4 : Int32) (v5 : Int32) (x : jm_X), jm_V (jm_PP l D clC ad aC shC b0 1) mt_N_isListed (d0 + 6) 6 [(0, .ref 6), (1, .ref v1), (2, .int v2), (3, .int v3), (4, .int v4), (5, .int v5)] [] x (k6 v1 v2 v3 v4 v5 x)) (v1 : Nat) (v2 : Int32) (v3 : Int32) (v4 : Int32) (v5 : Int32) (x : jm_X) : jm_V (jm_PP l D clC ad aC shC b0 1) mt_N_isListed (d0 + 6) 60 [(0, .ref 6), (1, .ref v1), (2, .int v2), (3, .int v3), (4, .int v4), (5, .int v5)] [] x (J_N_isListed_60 K g k6 v1 v2 v3 v4 v5 x) := by
  have hT := tk_N (l := l) (D := D) (ad := ad) (aC := aC) (b0 := b0)
  unfold J_N_isListed_60
  refine jm_V.run (is := bk_N_isListed_60_2) (pc' := 6) (ls' := [(5, .int (v5 + 1)), (0, .ref 6), (1, .ref v1), (2, .int v2), (3, .int v3), (4, .int v4)]) (st' := []) (x' := x) hok hT bk_N_isListed_60_2_ok rfl ?_
  refine jm_V.sub (ls' := [(0, .ref 6), (1, .ref v1), (2, .int v2), (3, .int v3), (4, .int v4), (5, .int (v5 + 1))]) [1, 2, 3, 4, 5, 0] rfl ?_
  exact hk6 v1 v2 v3 v4 (v5 + 1) x
def J_N_isListed_54 (K : Nat) (g : jm_Rec) (k6 : Nat → Int32 → Int32 → Int32 → Int32 → jm_X → Option jm_R) (v1 : Nat) (v2 : Int32) (v3 : Int32) (v5 : Int32) (x : jm_X) : Option jm_R := J_N_isListed_60 K g k6 v1 v2 v3 (v5 + 1) v5 x
set_option maxRecDepth 100000 in
set_option maxHeartbeats 4000000 in
theorem jj_N_isListed_54 {l : Launch} {D : va_G} {ad : Nat → Nat} {aC : Nat → ClassId} {b0 : Nat} {K d0 : Nat} {g : jm_Rec} (hok : jm_Ok (jm_PP l D clC ad aC shC b0 1)) (hrec : ∀ (t : Nat) (av : List Value) (x : jm_X), jm_Con (jm_PP l D clC ad aC shC b0 1) (rcC t) d0 av x (g t av x)) {k6 : Nat → Int32 → Int32 → Int32 → Int32 → jm_X → Option jm_R} (hk6 : ∀ (v1 : Nat) (v2 : Int32) (v3 : Int32) (v4 : Int32) (v5 : Int32) (x : jm_X), jm_V (jm_PP l D clC ad aC shC b0 1) mt_N_isListed (d0 + 6) 6 [(0, .ref 6), (1, .ref v1), (2, .int v2), (3, .int v3), (4, .int v4), (5, .int v5)] [] x (k6 v1 v2 v3 v4 v5 x)) (v1 : Nat) (v2 : Int32) (v3 : Int32) (v5 : Int32) (x : jm_X) : jm_V (jm_PP l D clC ad aC shC b0 1) mt_N_isListed (d0 + 6) 54 [(0, .ref 6), (1, .ref v1), (2, .int v2), (3, .int v3), (5, .int v5)] [] x (J_N_isListed_54 K g k6 v1 v2 v3 v5 x) := by
  have hT := tk_N (l := l) (D := D) (ad := ad) (aC := aC) (b0 := b0)
  unfold J_N_isListed_54
  refine jm_V.run (is := bk_N_isListed_54_4) (pc' := 60) (ls' := [(4, .int (v5 + 1)), (0, .ref 6), (1, .ref v1), (2, .int v2), (3, .int v3), (5, .int v5)]) (st' := []) (x' := x) hok hT bk_N_isListed_54_4_ok rfl ?_
  refine jm_V.sub (ls' := [(0, .ref 6), (1, .ref v1), (2, .int v2), (3, .int v3), (4, .int (v5 + 1)), (5, .int v5)]) [1, 2, 3, 4, 0, 5] rfl ?_
  exact jj_N_isListed_60 hok hrec hk6 v1 v2 v3 (v5 + 1) v5 x
def B_N_isListed_6 (K : Nat) (g : jm_Rec) (self : Nat → Int32 → Int32 → Int32 → Int32 → jm_X → Option jm_R) (v1 : Nat) (v2 : Int32) (v3 : Int32) (v4 : Int32) (v5 : Int32) (x : jm_X) : Option jm_R := (if jm_cn 2000 73 v1 then jm_bI (f_JS_length K g v1 x) (fun b2 x1 => (if b2 ≤ v5 then some (.inl (some (.int 0), x1)) else (if jm_cn 2000 73 v1 then jm_bI (f_JS_charAt K g v1 v5 x1) (fun b4 x3 => (if b4 = 32 then (if (v5 - v4) = (v3 - v2) then jm_bI (f_B_isText K g (x3.2.1 604) v2 v3 v1 v4 x3) (fun b6 x5 => (if b6 = 0 then J_N_isListed_54 K g self v1 v2 v3 v5 x5 else some (.inl (some (.int 1), x5)))) else J_N_isListed_54 K g self v1 v2 v3 v5 x3) else J_N_isListed_60 K g self v1 v2 v3 v4 v5 x3)) else none))) else none)
def L_N_isListed_6 (K : Nat) (g : jm_Rec) : Nat → Nat → Int32 → Int32 → Int32 → Int32 → jm_X → Option jm_R
  | 0, _, _, _, _, _, _ => none
  | k + 1, v1, v2, v3, v4, v5, x => B_N_isListed_6 K g (L_N_isListed_6 K g k) v1 v2 v3 v4 v5 x
set_option maxRecDepth 100000 in
set_option maxHeartbeats 4000000 in
theorem jb_N_isListed_6 {l : Launch} {D : va_G} {ad : Nat → Nat} {aC : Nat → ClassId} {b0 : Nat} {K d0 : Nat} {g : jm_Rec} (hok : jm_Ok (jm_PP l D clC ad aC shC b0 1)) (hrec : ∀ (t : Nat) (av : List Value) (x : jm_X), jm_Con (jm_PP l D clC ad aC shC b0 1) (rcC t) d0 av x (g t av x)) {self : Nat → Int32 → Int32 → Int32 → Int32 → jm_X → Option jm_R} (hself : ∀ (v1 : Nat) (v2 : Int32) (v3 : Int32) (v4 : Int32) (v5 : Int32) (x : jm_X), jm_V (jm_PP l D clC ad aC shC b0 1) mt_N_isListed (d0 + 6) 6 [(0, .ref 6), (1, .ref v1), (2, .int v2), (3, .int v3), (4, .int v4), (5, .int v5)] [] x (self v1 v2 v3 v4 v5 x)) (v1 : Nat) (v2 : Int32) (v3 : Int32) (v4 : Int32) (v5 : Int32) (x : jm_X) : jm_V (jm_PP l D clC ad aC shC b0 1) mt_N_isListed (d0 + 6) 6 [(0, .ref 6), (1, .ref v1), (2, .int v2), (3, .int v3), (4, .int v4), (5, .int v5)] [] x (B_N_isListed_6 K g self v1 v2 v3 v4 v5 x) := by
  have hT := tk_N (l := l) (D := D) (ad := ad) (aC := aC) (b0 := b0)
  unfold B_N_isListed_6
  refine jm_V.run (is := bk_N_isListed_6_2) (pc' := 9) (ls' := [(0, .ref 6), (1, .ref v1), (2, .int v2), (3, .int v3), (4, .int v4), (5, .int v5)]) (st' := [.ref v1, .int v5]) (x' := x) hok hT bk_N_isListed_6_2_ok rfl ?_
  refine jm_V.guard (fun hg => ?_)
  refine jm_V.callI (av := [.ref v1]) (rest := [.int v5]) hok (jm_Con.mono (c_JS_length (d0 := d0) hok hrec v1 x) (by omega)) (iv_str hok hg dd_N_isListed_9 lk_N_64 mn_JS_length ms_JS_length mw_JS_length mh_JS_length ml_JS_length) mw_JS_length mi_JS (Nat.le_of_ble_eq_true rfl) (Nat.le_of_ble_eq_true rfl) (fun b2 x1 => ?_)
  refine jm_V.run (is := bk_N_isListed_12_1) (pc' := (if b2 ≤ v5 then 66 else 15)) (ls' := [(0, .ref 6), (1, .ref v1), (2, .int v2), (3, .int v3), (4, .int v4), (5, .int v5)]) (st' := []) (x' := x1) hok hT bk_N_isListed_12_1_ok rfl ?_
  refine jm_V.ite (fun _ => ?_) (fun _ => ?_)
  · refine jm_V.run (is := bk_N_isListed_66_1) (pc' := 67) (ls' := [(0, .ref 6), (1, .ref v1), (2, .int v2), (3, .int v3), (4, .int v4), (5, .int v5)]) (st' := [.int 0]) (x' := x1) hok hT bk_N_isListed_66_1_ok rfl ?_
    exact jm_V.nret (t := .boolean) rfl rfl dd_N_isListed_67
  · refine jm_V.run (is := bk_N_isListed_15_2) (pc' := 18) (ls' := [(0, .ref 6), (1, .ref v1), (2, .int v2), (3, .int v3), (4, .int v4), (5, .int v5)]) (st' := [.int v5, .ref v1]) (x' := x1) hok hT bk_N_isListed_15_2_ok rfl ?_
    refine jm_V.guard (fun hg => ?_)
    refine jm_V.callI (av := [.ref v1, .int v5]) (rest := []) hok (jm_Con.mono (c_JS_charAt (d0 := d0) hok hrec v1 v5 x1) (by omega)) (iv_str hok hg dd_N_isListed_18 lk_N_70 mn_JS_charAt ms_JS_charAt mw_JS_charAt mh_JS_charAt ml_JS_charAt) mw_JS_charAt mi_JS (Nat.le_of_ble_eq_true rfl) (Nat.le_of_ble_eq_true rfl) (fun b4 x3 => ?_)
    refine jm_V.run (is := bk_N_isListed_21_2) (pc' := (if b4 = 32 then 26 else 60)) (ls' := [(0, .ref 6), (1, .ref v1), (2, .int v2), (3, .int v3), (4, .int v4), (5, .int v5)]) (st' := []) (x' := x3) hok hT bk_N_isListed_21_2_ok rfl ?_
    refine jm_V.ite (fun _ => ?_) (fun _ => ?_)
    · refine jm_V.run (is := bk_N_isListed_26_7) (pc' := (if (v5 - v4) = (v3 - v2) then 37 else 54)) (ls' := [(0, .ref 6), (1, .ref v1), (2, .int v2), (3, .int v3), (4, .int v4), (5, .int v5)]) (st' := []) (x' := x3) hok hT bk_N_isListed_26_7_ok rfl ?_
      refine jm_V.ite (fun _ => ?_) (fun _ => ?_)
      · refine jm_V.run (is := bk_N_isListed_37_6) (pc' := 46) (ls' := [(0, .ref 6), (1, .ref v1), (2, .int v2), (3, .int v3), (4, .int v4), (5, .int v5)]) (st' := [.int v4, .ref v1, .int v3, .int v2, .ref (x3.2.1 604)]) (x' := x3) hok hT bk_N_isListed_37_6_ok rfl ?_
        refine jm_V.callI (av := [.ref (x3.2.1 604), .int v2, .int v3, .ref v1, .int v4]) (rest := []) hok (jm_Con.mono (c_B_isText hok hrec (x3.2.1 604) v2 v3 v1 v4 x3) (by omega)) (jm_Inv.stat dd_N_isListed_46 (Or.inl lk_N_74) mq_B_isText mi_B mw_B_isText mh_B_isText ml_B_isText) mw_B_isText mi_B (Nat.le_of_ble_eq_true rfl) (Nat.le_of_ble_eq_true rfl) (fun b6 x5 => ?_)
        refine jm_V.run (is := bk_N_isListed_49_1) (pc' := (if b6 = 0 then 54 else 52)) (ls' := [(0, .ref 6), (1, .ref v1), (2, .int v2), (3, .int v3), (4, .int v4), (5, .int v5)]) (st' := []) (x' := x5) hok hT bk_N_isListed_49_1_ok rfl ?_
        refine jm_V.ite (fun _ => ?_) (fun _ => ?_)
        · refine jm_V.sub (ls' := [(0, .ref 6), (1, .ref v1), (2, .int v2), (3, .int v3), (5, .int v5)]) [0, 1, 2, 3, 5] rfl ?_
          exact jj_N_isListed_54 hok hrec hself v1 v2 v3 v5 x5
        · refine jm_V.run (is := bk_N_isListed_52_1) (pc' := 53) (ls' := [(0, .ref 6), (1, .ref v1), (2, .int v2), (3, .int v3), (4, .int v4), (5, .int v5)]) (st' := [.int 1]) (x' := x5) hok hT bk_N_isListed_52_1_ok rfl ?_
          exact jm_V.nret (t := .boolean) rfl rfl dd_N_isListed_53
      · refine jm_V.sub (ls' := [(0, .ref 6), (1, .ref v1), (2, .int v2), (3, .int v3), (5, .int v5)]) [0, 1, 2, 3, 5] rfl ?_
        exact jj_N_isListed_54 hok hrec hself v1 v2 v3 v5 x3
    · exact jj_N_isListed_60 hok hrec hself v1 v2 v3 v4 v5 x3
theorem jl_N_isListed_6 {l : Launch} {D : va_G} {ad : Nat → Nat} {aC : Nat → ClassId} {b0 : Nat} {K d0 : Nat} {g : jm_Rec} (hok : jm_Ok (jm_PP l D clC ad aC shC b0 1)) (hrec : ∀ (t : Nat) (av : List Value) (x : jm_X), jm_Con (jm_PP l D clC ad aC shC b0 1) (rcC t) d0 av x (g t av x)) : ∀ (k : Nat) (v1 : Nat) (v2 : Int32) (v3 : Int32) (v4 : Int32) (v5 : Int32) (x : jm_X), jm_V (jm_PP l D clC ad aC shC b0 1) mt_N_isListed (d0 + 6) 6 [(0, .ref 6), (1, .ref v1), (2, .int v2), (3, .int v3), (4, .int v4), (5, .int v5)] [] x (L_N_isListed_6 K g k v1 v2 v3 v4 v5 x)
  | 0, _, _, _, _, _, _ => jm_V.stuck
  | k + 1, v1, v2, v3, v4, v5, x => jb_N_isListed_6 hok hrec (fun v1 v2 v3 v4 v5 x => jl_N_isListed_6 hok hrec k v1 v2 v3 v4 v5 x) v1 v2 v3 v4 v5 x
def f_N_isListed (K : Nat) (g : jm_Rec) (a1 : Nat) (a2 : Int32) (a3 : Int32) (x : jm_X) : Option jm_R := L_N_isListed_6 K g K a1 a2 a3 0 0 x
set_option maxRecDepth 100000 in
set_option maxHeartbeats 4000000 in
theorem c_N_isListed {l : Launch} {D : va_G} {ad : Nat → Nat} {aC : Nat → ClassId} {b0 : Nat} {K d0 : Nat} {g : jm_Rec} (hok : jm_Ok (jm_PP l D clC ad aC shC b0 1)) (hrec : ∀ (t : Nat) (av : List Value) (x : jm_X), jm_Con (jm_PP l D clC ad aC shC b0 1) (rcC t) d0 av x (g t av x)) (a1 : Nat) (a2 : Int32) (a3 : Int32) (x : jm_X) : jm_Con (jm_PP l D clC ad aC shC b0 1) mt_N_isListed (d0 + 6) [.ref 6, .ref a1, .int a2, .int a3] x (f_N_isListed K g a1 a2 a3 x) := by
  refine jm_Con.of (plainFor_of_name (by decide +kernel)) (Nat.le_of_ble_eq_true rfl) ?_
  have hT := tk_N (l := l) (D := D) (ad := ad) (aC := aC) (b0 := b0)
  unfold f_N_isListed
  show jm_V _ _ _ 0 [(0, .ref 6), (1, .ref a1), (2, .int a2), (3, .int a3)] [] x _
  refine jm_V.run (is := bk_N_isListed_0_4) (pc' := 6) (ls' := [(5, .int 0), (4, .int 0), (0, .ref 6), (1, .ref a1), (2, .int a2), (3, .int a3)]) (st' := []) (x' := x) hok hT bk_N_isListed_0_4_ok rfl ?_
  refine jm_V.sub (ls' := [(0, .ref 6), (1, .ref a1), (2, .int a2), (3, .int a3), (4, .int 0), (5, .int 0)]) [2, 3, 4, 5, 1, 0] rfl ?_
  exact jl_N_isListed_6 hok hrec K a1 a2 a3 0 0 x
abbrev bk_N_isKnownAnywhere_0_1 : List (Nat × Instr × Nat) := [(0, .iload_n 3, 1)]
theorem bk_N_isKnownAnywhere_0_1_ok : jm_at mt_N_isKnownAnywhere.2.1 bk_N_isKnownAnywhere_0_1 = true := by decide +kernel
abbrev bk_N_isKnownAnywhere_28_1 : List (Nat × Instr × Nat) := [(28, .aload_n 0, 1)]
theorem bk_N_isKnownAnywhere_28_1_ok : jm_at mt_N_isKnownAnywhere.2.1 bk_N_isKnownAnywhere_28_1 = true := by decide +kernel
abbrev bk_N_isKnownAnywhere_31_2 : List (Nat × Instr × Nat) := [(31, .iload_n 1, 1), (32, .iload_n 2, 1)]
theorem bk_N_isKnownAnywhere_31_2_ok : jm_at mt_N_isKnownAnywhere.2.1 bk_N_isKnownAnywhere_31_2 = true := by decide +kernel
abbrev bk_N_isKnownAnywhere_37_1 : List (Nat × Instr × Nat) := [(37, .aload_n 0, 1)]
theorem bk_N_isKnownAnywhere_37_1_ok : jm_at mt_N_isKnownAnywhere.2.1 bk_N_isKnownAnywhere_37_1 = true := by decide +kernel
abbrev bk_N_isKnownAnywhere_40_2 : List (Nat × Instr × Nat) := [(40, .iload_n 1, 1), (41, .iload_n 2, 1)]
theorem bk_N_isKnownAnywhere_40_2_ok : jm_at mt_N_isKnownAnywhere.2.1 bk_N_isKnownAnywhere_40_2 = true := by decide +kernel
abbrev bk_N_isKnownAnywhere_46_1 : List (Nat × Instr × Nat) := [(46, .aload_n 0, 1)]
theorem bk_N_isKnownAnywhere_46_1_ok : jm_at mt_N_isKnownAnywhere.2.1 bk_N_isKnownAnywhere_46_1 = true := by decide +kernel
abbrev bk_N_isKnownAnywhere_49_2 : List (Nat × Instr × Nat) := [(49, .iload_n 1, 1), (50, .iload_n 2, 1)]
theorem bk_N_isKnownAnywhere_49_2_ok : jm_at mt_N_isKnownAnywhere.2.1 bk_N_isKnownAnywhere_49_2 = true := by decide +kernel
abbrev bk_N_isKnownAnywhere_55_1 : List (Nat × Instr × Nat) := [(55, .iconst 0, 1)]
theorem bk_N_isKnownAnywhere_55_1_ok : jm_at mt_N_isKnownAnywhere.2.1 bk_N_isKnownAnywhere_55_1 = true := by decide +kernel
theorem dd_N_isKnownAnywhere_33 : decode mt_N_isKnownAnywhere.2.1 33 = .ok (.invokevirtual 56, 3) := by decide +kernel
theorem dd_N_isKnownAnywhere_36 : decode mt_N_isKnownAnywhere.2.1 36 = .ok (.ireturn, 1) := by decide +kernel
theorem dd_N_isKnownAnywhere_29 : decode mt_N_isKnownAnywhere.2.1 29 = .ok (.ldc 54, 2) := by decide +kernel
theorem dd_N_isKnownAnywhere_42 : decode mt_N_isKnownAnywhere.2.1 42 = .ok (.invokevirtual 56, 3) := by decide +kernel
theorem dd_N_isKnownAnywhere_45 : decode mt_N_isKnownAnywhere.2.1 45 = .ok (.ireturn, 1) := by decide +kernel
theorem dd_N_isKnownAnywhere_38 : decode mt_N_isKnownAnywhere.2.1 38 = .ok (.ldc 60, 2) := by decide +kernel
theorem dd_N_isKnownAnywhere_51 : decode mt_N_isKnownAnywhere.2.1 51 = .ok (.invokevirtual 56, 3) := by decide +kernel
theorem dd_N_isKnownAnywhere_54 : decode mt_N_isKnownAnywhere.2.1 54 = .ok (.ireturn, 1) := by decide +kernel
theorem dd_N_isKnownAnywhere_47 : decode mt_N_isKnownAnywhere.2.1 47 = .ok (.ldc 62, 2) := by decide +kernel
theorem dd_N_isKnownAnywhere_56 : decode mt_N_isKnownAnywhere.2.1 56 = .ok (.ireturn, 1) := by decide +kernel
theorem dd_N_isKnownAnywhere_1 : decode mt_N_isKnownAnywhere.2.1 1 = .ok (.tableswitch 54 0 2 #[27, 36, 45], 27) := by decide +kernel
def f_N_isKnownAnywhere (K : Nat) (g : jm_Rec) (a1 : Int32) (a2 : Int32) (a3 : Int32) (x : jm_X) : Option jm_R := (if a3 = 0 then jm_bI (f_N_isListed K g 2000 a1 a2 x) (fun b2 x1 => some (.inl (some (.int (vp_nar .boolean b2)), x1))) else (if a3 = 1 then jm_bI (f_N_isListed K g 2001 a1 a2 x) (fun b4 x3 => some (.inl (some (.int (vp_nar .boolean b4)), x3))) else (if a3 = 2 then jm_bI (f_N_isListed K g 2002 a1 a2 x) (fun b6 x5 => some (.inl (some (.int (vp_nar .boolean b6)), x5))) else some (.inl (some (.int 0), x)))))
set_option maxRecDepth 100000 in
set_option maxHeartbeats 4000000 in
theorem c_N_isKnownAnywhere {l : Launch} {D : va_G} {ad : Nat → Nat} {aC : Nat → ClassId} {b0 : Nat} {K d0 : Nat} {g : jm_Rec} (hok : jm_Ok (jm_PP l D clC ad aC shC b0 1)) (hrec : ∀ (t : Nat) (av : List Value) (x : jm_X), jm_Con (jm_PP l D clC ad aC shC b0 1) (rcC t) d0 av x (g t av x)) (a1 : Int32) (a2 : Int32) (a3 : Int32) (x : jm_X) : jm_Con (jm_PP l D clC ad aC shC b0 1) mt_N_isKnownAnywhere (d0 + 7) [.ref 6, .int a1, .int a2, .int a3] x (f_N_isKnownAnywhere K g a1 a2 a3 x) := by
  refine jm_Con.of (plainFor_of_name (by decide +kernel)) (Nat.le_of_ble_eq_true rfl) ?_
  have hT := tk_N (l := l) (D := D) (ad := ad) (aC := aC) (b0 := b0)
  unfold f_N_isKnownAnywhere
  show jm_V _ _ _ 0 [(0, .ref 6), (1, .int a1), (2, .int a2), (3, .int a3)] [] x _
  refine jm_V.run (is := bk_N_isKnownAnywhere_0_1) (pc' := 1) (ls' := [(0, .ref 6), (1, .int a1), (2, .int a2), (3, .int a3)]) (st' := [.int a3]) (x' := x) hok hT bk_N_isKnownAnywhere_0_1_ok rfl ?_
  refine jm_V.tsw dd_N_isKnownAnywhere_1 (by decide +kernel) (by decide +kernel) ?_
  refine jm_V.pc_ (pc' := (if a3 = 0 then 28 else (if a3 = 1 then 37 else (if a3 = 2 then 46 else 55)))) rfl ?_
  refine jm_V.ite (fun _ => ?_) (fun _ => ?_)
  · refine jm_V.run (is := bk_N_isKnownAnywhere_28_1) (pc' := 29) (ls' := [(0, .ref 6), (1, .int a1), (2, .int a2), (3, .int a3)]) (st' := [.ref 6]) (x' := x) hok hT bk_N_isKnownAnywhere_28_1_ok rfl ?_
    refine jm_V.lds (o := 2000) (tx := "null false true empty error not length keys type tostring tonumber sort reverse explode implode floor abs ") (cs_str (i := 0) rfl) dd_N_isKnownAnywhere_29 ?_
    refine jm_V.run (is := bk_N_isKnownAnywhere_31_2) (pc' := 33) (ls' := [(0, .ref 6), (1, .int a1), (2, .int a2), (3, .int a3)]) (st' := [.int a2, .int a1, .ref 2000, .ref 6]) (x' := x) hok hT bk_N_isKnownAnywhere_31_2_ok rfl ?_
    refine jm_V.callI (av := [.ref 6, .ref 2000, .int a1, .int a2]) (rest := []) hok (jm_Con.mono (c_N_isListed hok hrec 2000 a1 a2 x) (by omega)) (jm_Inv.obj (q := ("FilterReader$Names", T_N, 6)) dd_N_isKnownAnywhere_33 (Or.inl lk_N_56) mn_N_isListed ms_N_isListed mw_N_isListed mh_N_isListed ml_N_isListed rfl rfl) mw_N_isListed mi_N (Nat.le_of_ble_eq_true rfl) (Nat.le_of_ble_eq_true rfl) (fun b2 x1 => ?_)
    exact jm_V.nret (t := .boolean) rfl rfl dd_N_isKnownAnywhere_36
  refine jm_V.ite (fun _ => ?_) (fun _ => ?_)
  · refine jm_V.run (is := bk_N_isKnownAnywhere_37_1) (pc' := 38) (ls' := [(0, .ref 6), (1, .int a1), (2, .int a2), (3, .int a3)]) (st' := [.ref 6]) (x' := x) hok hT bk_N_isKnownAnywhere_37_1_ok rfl ?_
    refine jm_V.lds (o := 2001) (tx := "error has contains split join getpath sort_by group_by path ") (cs_str (i := 1) rfl) dd_N_isKnownAnywhere_38 ?_
    refine jm_V.run (is := bk_N_isKnownAnywhere_40_2) (pc' := 42) (ls' := [(0, .ref 6), (1, .int a1), (2, .int a2), (3, .int a3)]) (st' := [.int a2, .int a1, .ref 2001, .ref 6]) (x' := x) hok hT bk_N_isKnownAnywhere_40_2_ok rfl ?_
    refine jm_V.callI (av := [.ref 6, .ref 2001, .int a1, .int a2]) (rest := []) hok (jm_Con.mono (c_N_isListed hok hrec 2001 a1 a2 x) (by omega)) (jm_Inv.obj (q := ("FilterReader$Names", T_N, 6)) dd_N_isKnownAnywhere_42 (Or.inl lk_N_56) mn_N_isListed ms_N_isListed mw_N_isListed mh_N_isListed ml_N_isListed rfl rfl) mw_N_isListed mi_N (Nat.le_of_ble_eq_true rfl) (Nat.le_of_ble_eq_true rfl) (fun b4 x3 => ?_)
    exact jm_V.nret (t := .boolean) rfl rfl dd_N_isKnownAnywhere_45
  refine jm_V.ite (fun _ => ?_) (fun _ => ?_)
  · refine jm_V.run (is := bk_N_isKnownAnywhere_46_1) (pc' := 47) (ls' := [(0, .ref 6), (1, .int a1), (2, .int a2), (3, .int a3)]) (st' := [.ref 6]) (x' := x) hok hT bk_N_isKnownAnywhere_46_1_ok rfl ?_
    refine jm_V.lds (o := 2002) (tx := "range setpath ") (cs_str (i := 2) rfl) dd_N_isKnownAnywhere_47 ?_
    refine jm_V.run (is := bk_N_isKnownAnywhere_49_2) (pc' := 51) (ls' := [(0, .ref 6), (1, .int a1), (2, .int a2), (3, .int a3)]) (st' := [.int a2, .int a1, .ref 2002, .ref 6]) (x' := x) hok hT bk_N_isKnownAnywhere_49_2_ok rfl ?_
    refine jm_V.callI (av := [.ref 6, .ref 2002, .int a1, .int a2]) (rest := []) hok (jm_Con.mono (c_N_isListed hok hrec 2002 a1 a2 x) (by omega)) (jm_Inv.obj (q := ("FilterReader$Names", T_N, 6)) dd_N_isKnownAnywhere_51 (Or.inl lk_N_56) mn_N_isListed ms_N_isListed mw_N_isListed mh_N_isListed ml_N_isListed rfl rfl) mw_N_isListed mi_N (Nat.le_of_ble_eq_true rfl) (Nat.le_of_ble_eq_true rfl) (fun b6 x5 => ?_)
    exact jm_V.nret (t := .boolean) rfl rfl dd_N_isKnownAnywhere_54
  refine jm_V.run (is := bk_N_isKnownAnywhere_55_1) (pc' := 56) (ls' := [(0, .ref 6), (1, .int a1), (2, .int a2), (3, .int a3)]) (st' := [.int 0]) (x' := x) hok hT bk_N_isKnownAnywhere_55_1_ok rfl ?_
  exact jm_V.nret (t := .boolean) rfl rfl dd_N_isKnownAnywhere_56
abbrev bk_N_callKind_0_5 : List (Nat × Instr × Nat) := [(0, .aload_n 0, 1), (1, .getfield 26, 3), (4, .iconst 1, 1), (5, .isub, 1), (6, .istore 4, 2)]
theorem bk_N_callKind_0_5_ok : jm_at mt_N_callKind.2.1 bk_N_callKind_0_5 = true := by decide +kernel
abbrev bk_N_callKind_8_2 : List (Nat × Instr × Nat) := [(8, .iload 4, 2), (10, .ifCond .lt 49, 3)]
theorem bk_N_callKind_8_2_ok : jm_at mt_N_callKind.2.1 bk_N_callKind_8_2 = true := by decide +kernel
abbrev bk_N_callKind_59_4 : List (Nat × Instr × Nat) := [(59, .aload_n 0, 1), (60, .iload_n 1, 1), (61, .iload_n 2, 1), (62, .iload_n 3, 1)]
theorem bk_N_callKind_59_4_ok : jm_at mt_N_callKind.2.1 bk_N_callKind_59_4 = true := by decide +kernel
abbrev bk_N_callKind_66_1 : List (Nat × Instr × Nat) := [(66, .ifCond .eq 8, 3)]
theorem bk_N_callKind_66_1_ok : jm_at mt_N_callKind.2.1 bk_N_callKind_66_1 = true := by decide +kernel
abbrev bk_N_callKind_74_1 : List (Nat × Instr × Nat) := [(74, .bipush (-4), 2)]
theorem bk_N_callKind_74_1_ok : jm_at mt_N_callKind.2.1 bk_N_callKind_74_1 = true := by decide +kernel
abbrev bk_N_callKind_69_2 : List (Nat × Instr × Nat) := [(69, .bipush 14, 2), (71, .goto 5, 3)]
theorem bk_N_callKind_69_2_ok : jm_at mt_N_callKind.2.1 bk_N_callKind_69_2 = true := by decide +kernel
abbrev bk_N_callKind_13_3 : List (Nat × Instr × Nat) := [(13, .aload_n 0, 1), (14, .getfield 9, 3), (17, .iload 4, 2)]
theorem bk_N_callKind_13_3_ok : jm_at mt_N_callKind.2.1 bk_N_callKind_13_3 = true := by decide +kernel
abbrev bk_N_callKind_20_1 : List (Nat × Instr × Nat) := [(20, .ifCond .lt 33, 3)]
theorem bk_N_callKind_20_1_ok : jm_at mt_N_callKind.2.1 bk_N_callKind_20_1 = true := by decide +kernel
abbrev bk_N_callKind_23_3 : List (Nat × Instr × Nat) := [(23, .aload_n 0, 1), (24, .getfield 19, 3), (27, .iload 4, 2)]
theorem bk_N_callKind_23_3_ok : jm_at mt_N_callKind.2.1 bk_N_callKind_23_3 = true := by decide +kernel
abbrev bk_N_callKind_30_2 : List (Nat × Instr × Nat) := [(30, .iload_n 3, 1), (31, .if_icmp .ne 22, 3)]
theorem bk_N_callKind_30_2_ok : jm_at mt_N_callKind.2.1 bk_N_callKind_30_2 = true := by decide +kernel
abbrev bk_N_callKind_34_4 : List (Nat × Instr × Nat) := [(34, .aload_n 0, 1), (35, .iload 4, 2), (37, .iload_n 1, 1), (38, .iload_n 2, 1)]
theorem bk_N_callKind_34_4_ok : jm_at mt_N_callKind.2.1 bk_N_callKind_34_4 = true := by decide +kernel
abbrev bk_N_callKind_42_1 : List (Nat × Instr × Nat) := [(42, .ifCond .eq 11, 3)]
theorem bk_N_callKind_42_1_ok : jm_at mt_N_callKind.2.1 bk_N_callKind_42_1 = true := by decide +kernel
abbrev bk_N_callKind_45_3 : List (Nat × Instr × Nat) := [(45, .aload_n 0, 1), (46, .getfield 9, 3), (49, .iload 4, 2)]
theorem bk_N_callKind_45_3_ok : jm_at mt_N_callKind.2.1 bk_N_callKind_45_3 = true := by decide +kernel
abbrev bk_N_callKind_53_2 : List (Nat × Instr × Nat) := [(53, .iinc 4 (-1), 3), (56, .goto (-48), 3)]
theorem bk_N_callKind_53_2_ok : jm_at mt_N_callKind.2.1 bk_N_callKind_53_2 = true := by decide +kernel
theorem dd_N_callKind_63 : decode mt_N_callKind.2.1 63 = .ok (.invokevirtual 43, 3) := by decide +kernel
theorem dd_N_callKind_39 : decode mt_N_callKind.2.1 39 = .ok (.invokevirtual 39, 3) := by decide +kernel
theorem dd_N_callKind_52 : decode mt_N_callKind.2.1 52 = .ok (.ireturn, 1) := by decide +kernel
theorem dd_N_callKind_51 : decode mt_N_callKind.2.1 51 = .ok (.iaload, 1) := by decide +kernel
theorem dd_N_callKind_29 : decode mt_N_callKind.2.1 29 = .ok (.iaload, 1) := by decide +kernel
theorem dd_N_callKind_19 : decode mt_N_callKind.2.1 19 = .ok (.iaload, 1) := by decide +kernel
theorem dd_N_callKind_76 : decode mt_N_callKind.2.1 76 = .ok (.ireturn, 1) := by decide +kernel
def J_N_callKind_76 (K : Nat) (g : jm_Rec) (s0 : Int32) (x : jm_X) : Option jm_R := some (.inl (some (.int s0), x))
set_option maxRecDepth 100000 in
set_option maxHeartbeats 4000000 in
theorem jj_N_callKind_76 {l : Launch} {D : va_G} {ad : Nat → Nat} {aC : Nat → ClassId} {b0 : Nat} {K d0 : Nat} {g : jm_Rec} (hok : jm_Ok (jm_PP l D clC ad aC shC b0 1)) (hrec : ∀ (t : Nat) (av : List Value) (x : jm_X), jm_Con (jm_PP l D clC ad aC shC b0 1) (rcC t) d0 av x (g t av x)) (s0 : Int32) (x : jm_X) : jm_V (jm_PP l D clC ad aC shC b0 1) mt_N_callKind (d0 + 8) 76 [] [.int s0] x (J_N_callKind_76 K g s0 x) := by
  have hT := tk_N (l := l) (D := D) (ad := ad) (aC := aC) (b0 := b0)
  unfold J_N_callKind_76
  exact jm_V.iret rfl dd_N_callKind_76
def J_N_callKind_53 (K : Nat) (g : jm_Rec) (k8 : Int32 → Int32 → Int32 → Int32 → jm_X → Option jm_R) (v1 : Int32) (v2 : Int32) (v3 : Int32) (v4 : Int32) (x : jm_X) : Option jm_R := k8 v1 v2 v3 (v4 + (-1)) x
set_option maxRecDepth 100000 in
set_option maxHeartbeats 4000000 in
theorem jj_N_callKind_53 {l : Launch} {D : va_G} {ad : Nat → Nat} {aC : Nat → ClassId} {b0 : Nat} {K d0 : Nat} {g : jm_Rec} (hok : jm_Ok (jm_PP l D clC ad aC shC b0 1)) (hrec : ∀ (t : Nat) (av : List Value) (x : jm_X), jm_Con (jm_PP l D clC ad aC shC b0 1) (rcC t) d0 av x (g t av x)) {k8 : Int32 → Int32 → Int32 → Int32 → jm_X → Option jm_R} (hk8 : ∀ (v1 : Int32) (v2 : Int32) (v3 : Int32) (v4 : Int32) (x : jm_X), jm_V (jm_PP l D clC ad aC shC b0 1) mt_N_callKind (d0 + 8) 8 [(0, .ref 6), (1, .int v1), (2, .int v2), (3, .int v3), (4, .int v4)] [] x (k8 v1 v2 v3 v4 x)) (v1 : Int32) (v2 : Int32) (v3 : Int32) (v4 : Int32) (x : jm_X) : jm_V (jm_PP l D clC ad aC shC b0 1) mt_N_callKind (d0 + 8) 53 [(0, .ref 6), (1, .int v1), (2, .int v2), (3, .int v3), (4, .int v4)] [] x (J_N_callKind_53 K g k8 v1 v2 v3 v4 x) := by
  have hT := tk_N (l := l) (D := D) (ad := ad) (aC := aC) (b0 := b0)
  unfold J_N_callKind_53
  refine jm_V.run (is := bk_N_callKind_53_2) (pc' := 8) (ls' := [(4, .int (v4 + (-1))), (0, .ref 6), (1, .int v1), (2, .int v2), (3, .int v3)]) (st' := []) (x' := x) hok hT bk_N_callKind_53_2_ok rfl ?_
  refine jm_V.sub (ls' := [(0, .ref 6), (1, .int v1), (2, .int v2), (3, .int v3), (4, .int (v4 + (-1)))]) [1, 2, 3, 4, 0] rfl ?_
  exact hk8 v1 v2 v3 (v4 + (-1)) x
def B_N_callKind_8 (K : Nat) (g : jm_Rec) (self : Int32 → Int32 → Int32 → Int32 → jm_X → Option jm_R) (v1 : Int32) (v2 : Int32) (v3 : Int32) (v4 : Int32) (x : jm_X) : Option jm_R := (if v4 < 0 then jm_bI (f_N_isKnownAnywhere K g v1 v2 v3 x) (fun b2 x1 => (if b2 = 0 then J_N_callKind_76 K g (-4) x1 else J_N_callKind_76 K g 14 x1)) else (if jm_in shC 7 .int v4 then (if (x.2.2 7 (Int32.toNatClampNeg v4)) < 0 then J_N_callKind_53 K g self v1 v2 v3 v4 x else (if jm_in shC 10 .int v4 then (if (x.2.2 10 (Int32.toNatClampNeg v4)) = v3 then jm_bI (f_N_isNamed K g v4 v1 v2 x) (fun b4 x3 => (if b4 = 0 then J_N_callKind_53 K g self v1 v2 v3 v4 x3 else (if jm_in shC 7 .int v4 then some (.inl (some (.int (x3.2.2 7 (Int32.toNatClampNeg v4))), x3)) else none))) else J_N_callKind_53 K g self v1 v2 v3 v4 x) else none)) else none))
def L_N_callKind_8 (K : Nat) (g : jm_Rec) : Nat → Int32 → Int32 → Int32 → Int32 → jm_X → Option jm_R
  | 0, _, _, _, _, _ => none
  | k + 1, v1, v2, v3, v4, x => B_N_callKind_8 K g (L_N_callKind_8 K g k) v1 v2 v3 v4 x
set_option maxRecDepth 100000 in
set_option maxHeartbeats 4000000 in
theorem jb_N_callKind_8 {l : Launch} {D : va_G} {ad : Nat → Nat} {aC : Nat → ClassId} {b0 : Nat} {K d0 : Nat} {g : jm_Rec} (hok : jm_Ok (jm_PP l D clC ad aC shC b0 1)) (hrec : ∀ (t : Nat) (av : List Value) (x : jm_X), jm_Con (jm_PP l D clC ad aC shC b0 1) (rcC t) d0 av x (g t av x)) {self : Int32 → Int32 → Int32 → Int32 → jm_X → Option jm_R} (hself : ∀ (v1 : Int32) (v2 : Int32) (v3 : Int32) (v4 : Int32) (x : jm_X), jm_V (jm_PP l D clC ad aC shC b0 1) mt_N_callKind (d0 + 8) 8 [(0, .ref 6), (1, .int v1), (2, .int v2), (3, .int v3), (4, .int v4)] [] x (self v1 v2 v3 v4 x)) (v1 : Int32) (v2 : Int32) (v3 : Int32) (v4 : Int32) (x : jm_X) : jm_V (jm_PP l D clC ad aC shC b0 1) mt_N_callKind (d0 + 8) 8 [(0, .ref 6), (1, .int v1), (2, .int v2), (3, .int v3), (4, .int v4)] [] x (B_N_callKind_8 K g self v1 v2 v3 v4 x) := by
  have hT := tk_N (l := l) (D := D) (ad := ad) (aC := aC) (b0 := b0)
  unfold B_N_callKind_8
  refine jm_V.run (is := bk_N_callKind_8_2) (pc' := (if v4 < 0 then 59 else 13)) (ls' := [(0, .ref 6), (1, .int v1), (2, .int v2), (3, .int v3), (4, .int v4)]) (st' := []) (x' := x) hok hT bk_N_callKind_8_2_ok rfl ?_
  refine jm_V.ite (fun _ => ?_) (fun _ => ?_)
  · refine jm_V.run (is := bk_N_callKind_59_4) (pc' := 63) (ls' := [(0, .ref 6), (1, .int v1), (2, .int v2), (3, .int v3), (4, .int v4)]) (st' := [.int v3, .int v2, .int v1, .ref 6]) (x' := x) hok hT bk_N_callKind_59_4_ok rfl ?_
    refine jm_V.callI (av := [.ref 6, .int v1, .int v2, .int v3]) (rest := []) hok (jm_Con.mono (c_N_isKnownAnywhere hok hrec v1 v2 v3 x) (by omega)) (jm_Inv.obj (q := ("FilterReader$Names", T_N, 6)) dd_N_callKind_63 (Or.inl lk_N_43) mn_N_isKnownAnywhere ms_N_isKnownAnywhere mw_N_isKnownAnywhere mh_N_isKnownAnywhere ml_N_isKnownAnywhere rfl rfl) mw_N_isKnownAnywhere mi_N (Nat.le_of_ble_eq_true rfl) (Nat.le_of_ble_eq_true rfl) (fun b2 x1 => ?_)
    refine jm_V.run (is := bk_N_callKind_66_1) (pc' := (if b2 = 0 then 74 else 69)) (ls' := [(0, .ref 6), (1, .int v1), (2, .int v2), (3, .int v3), (4, .int v4)]) (st' := []) (x' := x1) hok hT bk_N_callKind_66_1_ok rfl ?_
    refine jm_V.ite (fun _ => ?_) (fun _ => ?_)
    · refine jm_V.run (is := bk_N_callKind_74_1) (pc' := 76) (ls' := [(0, .ref 6), (1, .int v1), (2, .int v2), (3, .int v3), (4, .int v4)]) (st' := [.int (-4)]) (x' := x1) hok hT bk_N_callKind_74_1_ok rfl ?_
      refine jm_V.sub (ls' := []) [] rfl ?_
      exact jj_N_callKind_76 hok hrec (-4) x1
    · refine jm_V.run (is := bk_N_callKind_69_2) (pc' := 76) (ls' := [(0, .ref 6), (1, .int v1), (2, .int v2), (3, .int v3), (4, .int v4)]) (st' := [.int 14]) (x' := x1) hok hT bk_N_callKind_69_2_ok rfl ?_
      refine jm_V.sub (ls' := []) [] rfl ?_
      exact jj_N_callKind_76 hok hrec 14 x1
  · refine jm_V.run (is := bk_N_callKind_13_3) (pc' := 19) (ls' := [(0, .ref 6), (1, .int v1), (2, .int v2), (3, .int v3), (4, .int v4)]) (st' := [.int v4, .ref 7]) (x' := x) hok hT bk_N_callKind_13_3_ok rfl ?_
    refine jm_V.iald dd_N_callKind_19 ?_
    refine jm_V.run (is := bk_N_callKind_20_1) (pc' := (if (x.2.2 7 (Int32.toNatClampNeg v4)) < 0 then 53 else 23)) (ls' := [(0, .ref 6), (1, .int v1), (2, .int v2), (3, .int v3), (4, .int v4)]) (st' := []) (x' := x) hok hT bk_N_callKind_20_1_ok rfl ?_
    refine jm_V.ite (fun _ => ?_) (fun _ => ?_)
    · exact jj_N_callKind_53 hok hrec hself v1 v2 v3 v4 x
    · refine jm_V.run (is := bk_N_callKind_23_3) (pc' := 29) (ls' := [(0, .ref 6), (1, .int v1), (2, .int v2), (3, .int v3), (4, .int v4)]) (st' := [.int v4, .ref 10]) (x' := x) hok hT bk_N_callKind_23_3_ok rfl ?_
      refine jm_V.iald dd_N_callKind_29 ?_
      refine jm_V.run (is := bk_N_callKind_30_2) (pc' := (if (x.2.2 10 (Int32.toNatClampNeg v4)) = v3 then 34 else 53)) (ls' := [(0, .ref 6), (1, .int v1), (2, .int v2), (3, .int v3), (4, .int v4)]) (st' := []) (x' := x) hok hT bk_N_callKind_30_2_ok rfl ?_
      refine jm_V.ite (fun _ => ?_) (fun _ => ?_)
      · refine jm_V.run (is := bk_N_callKind_34_4) (pc' := 39) (ls' := [(0, .ref 6), (1, .int v1), (2, .int v2), (3, .int v3), (4, .int v4)]) (st' := [.int v2, .int v1, .int v4, .ref 6]) (x' := x) hok hT bk_N_callKind_34_4_ok rfl ?_
        refine jm_V.callI (av := [.ref 6, .int v4, .int v1, .int v2]) (rest := []) hok (jm_Con.mono (c_N_isNamed hok hrec v4 v1 v2 x) (by omega)) (jm_Inv.obj (q := ("FilterReader$Names", T_N, 6)) dd_N_callKind_39 (Or.inl lk_N_39) mn_N_isNamed ms_N_isNamed mw_N_isNamed mh_N_isNamed ml_N_isNamed rfl rfl) mw_N_isNamed mi_N (Nat.le_of_ble_eq_true rfl) (Nat.le_of_ble_eq_true rfl) (fun b4 x3 => ?_)
        refine jm_V.run (is := bk_N_callKind_42_1) (pc' := (if b4 = 0 then 53 else 45)) (ls' := [(0, .ref 6), (1, .int v1), (2, .int v2), (3, .int v3), (4, .int v4)]) (st' := []) (x' := x3) hok hT bk_N_callKind_42_1_ok rfl ?_
        refine jm_V.ite (fun _ => ?_) (fun _ => ?_)
        · exact jj_N_callKind_53 hok hrec hself v1 v2 v3 v4 x3
        · refine jm_V.run (is := bk_N_callKind_45_3) (pc' := 51) (ls' := [(0, .ref 6), (1, .int v1), (2, .int v2), (3, .int v3), (4, .int v4)]) (st' := [.int v4, .ref 7]) (x' := x3) hok hT bk_N_callKind_45_3_ok rfl ?_
          refine jm_V.iald dd_N_callKind_51 ?_
          exact jm_V.iret rfl dd_N_callKind_52
      · exact jj_N_callKind_53 hok hrec hself v1 v2 v3 v4 x
theorem jl_N_callKind_8 {l : Launch} {D : va_G} {ad : Nat → Nat} {aC : Nat → ClassId} {b0 : Nat} {K d0 : Nat} {g : jm_Rec} (hok : jm_Ok (jm_PP l D clC ad aC shC b0 1)) (hrec : ∀ (t : Nat) (av : List Value) (x : jm_X), jm_Con (jm_PP l D clC ad aC shC b0 1) (rcC t) d0 av x (g t av x)) : ∀ (k : Nat) (v1 : Int32) (v2 : Int32) (v3 : Int32) (v4 : Int32) (x : jm_X), jm_V (jm_PP l D clC ad aC shC b0 1) mt_N_callKind (d0 + 8) 8 [(0, .ref 6), (1, .int v1), (2, .int v2), (3, .int v3), (4, .int v4)] [] x (L_N_callKind_8 K g k v1 v2 v3 v4 x)
  | 0, _, _, _, _, _ => jm_V.stuck
  | k + 1, v1, v2, v3, v4, x => jb_N_callKind_8 hok hrec (fun v1 v2 v3 v4 x => jl_N_callKind_8 hok hrec k v1 v2 v3 v4 x) v1 v2 v3 v4 x
def f_N_callKind (K : Nat) (g : jm_Rec) (a1 : Int32) (a2 : Int32) (a3 : Int32) (x : jm_X) : Option jm_R := L_N_callKind_8 K g K a1 a2 a3 ((x.1 605) - 1) x
set_option maxRecDepth 100000 in
set_option maxHeartbeats 4000000 in
theorem c_N_callKind {l : Launch} {D : va_G} {ad : Nat → Nat} {aC : Nat → ClassId} {b0 : Nat} {K d0 : Nat} {g : jm_Rec} (hok : jm_Ok (jm_PP l D clC ad aC shC b0 1)) (hrec : ∀ (t : Nat) (av : List Value) (x : jm_X), jm_Con (jm_PP l D clC ad aC shC b0 1) (rcC t) d0 av x (g t av x)) (a1 : Int32) (a2 : Int32) (a3 : Int32) (x : jm_X) : jm_Con (jm_PP l D clC ad aC shC b0 1) mt_N_callKind (d0 + 8) [.ref 6, .int a1, .int a2, .int a3] x (f_N_callKind K g a1 a2 a3 x) := by
  refine jm_Con.of (plainFor_of_name (by decide +kernel)) (Nat.le_of_ble_eq_true rfl) ?_
  have hT := tk_N (l := l) (D := D) (ad := ad) (aC := aC) (b0 := b0)
  unfold f_N_callKind
  show jm_V _ _ _ 0 [(0, .ref 6), (1, .int a1), (2, .int a2), (3, .int a3)] [] x _
  refine jm_V.run (is := bk_N_callKind_0_5) (pc' := 8) (ls' := [(4, .int ((x.1 605) - 1)), (0, .ref 6), (1, .int a1), (2, .int a2), (3, .int a3)]) (st' := []) (x' := x) hok hT bk_N_callKind_0_5_ok rfl ?_
  refine jm_V.sub (ls' := [(0, .ref 6), (1, .int a1), (2, .int a2), (3, .int a3), (4, .int ((x.1 605) - 1))]) [1, 2, 3, 4, 0] rfl ?_
  exact jl_N_callKind_8 hok hrec K a1 a2 a3 ((x.1 605) - 1) x
abbrev bk_G_countOf_0_2 : List (Nat × Instr × Nat) := [(0, .iload_n 1, 1), (1, .ifCond .lt 21, 3)]
theorem bk_G_countOf_0_2_ok : jm_at mt_G_countOf.2.1 bk_G_countOf_0_2 = true := by decide +kernel
abbrev bk_G_countOf_4_3 : List (Nat × Instr × Nat) := [(4, .iload_n 1, 1), (5, .aload_n 0, 1), (6, .getfield 11, 3)]
theorem bk_G_countOf_4_3_ok : jm_at mt_G_countOf.2.1 bk_G_countOf_4_3 = true := by decide +kernel
abbrev bk_G_countOf_10_1 : List (Nat × Instr × Nat) := [(10, .if_icmp .ge 12, 3)]
theorem bk_G_countOf_10_1_ok : jm_at mt_G_countOf.2.1 bk_G_countOf_10_1 = true := by decide +kernel
abbrev bk_G_countOf_13_3 : List (Nat × Instr × Nat) := [(13, .aload_n 0, 1), (14, .getfield 11, 3), (17, .iload_n 1, 1)]
theorem bk_G_countOf_13_3_ok : jm_at mt_G_countOf.2.1 bk_G_countOf_13_3 = true := by decide +kernel
abbrev bk_G_countOf_19_1 : List (Nat × Instr × Nat) := [(19, .goto 4, 3)]
theorem bk_G_countOf_19_1_ok : jm_at mt_G_countOf.2.1 bk_G_countOf_19_1 = true := by decide +kernel
abbrev bk_G_countOf_22_1 : List (Nat × Instr × Nat) := [(22, .iconst 0, 1)]
theorem bk_G_countOf_22_1_ok : jm_at mt_G_countOf.2.1 bk_G_countOf_22_1 = true := by decide +kernel
theorem dd_G_countOf_18 : decode mt_G_countOf.2.1 18 = .ok (.iaload, 1) := by decide +kernel
theorem dd_G_countOf_9 : decode mt_G_countOf.2.1 9 = .ok (.arraylength, 1) := by decide +kernel
theorem dd_G_countOf_23 : decode mt_G_countOf.2.1 23 = .ok (.ireturn, 1) := by decide +kernel
def J_G_countOf_23 (K : Nat) (g : jm_Rec) (s0 : Int32) (x : jm_X) : Option jm_R := some (.inl (some (.int s0), x))
set_option maxRecDepth 100000 in
set_option maxHeartbeats 4000000 in
theorem jj_G_countOf_23 {l : Launch} {D : va_G} {ad : Nat → Nat} {aC : Nat → ClassId} {b0 : Nat} {K d0 : Nat} {g : jm_Rec} (hok : jm_Ok (jm_PP l D clC ad aC shC b0 1)) (hrec : ∀ (t : Nat) (av : List Value) (x : jm_X), jm_Con (jm_PP l D clC ad aC shC b0 1) (rcC t) d0 av x (g t av x)) (s0 : Int32) (x : jm_X) : jm_V (jm_PP l D clC ad aC shC b0 1) mt_G_countOf (d0 + 1) 23 [] [.int s0] x (J_G_countOf_23 K g s0 x) := by
  have hT := tk_G (l := l) (D := D) (ad := ad) (aC := aC) (b0 := b0)
  unfold J_G_countOf_23
  exact jm_V.iret rfl dd_G_countOf_23
def J_G_countOf_22 (K : Nat) (g : jm_Rec)  (x : jm_X) : Option jm_R := J_G_countOf_23 K g 0 x
set_option maxRecDepth 100000 in
set_option maxHeartbeats 4000000 in
theorem jj_G_countOf_22 {l : Launch} {D : va_G} {ad : Nat → Nat} {aC : Nat → ClassId} {b0 : Nat} {K d0 : Nat} {g : jm_Rec} (hok : jm_Ok (jm_PP l D clC ad aC shC b0 1)) (hrec : ∀ (t : Nat) (av : List Value) (x : jm_X), jm_Con (jm_PP l D clC ad aC shC b0 1) (rcC t) d0 av x (g t av x))  (x : jm_X) : jm_V (jm_PP l D clC ad aC shC b0 1) mt_G_countOf (d0 + 1) 22 [] [] x (J_G_countOf_22 K g  x) := by
  have hT := tk_G (l := l) (D := D) (ad := ad) (aC := aC) (b0 := b0)
  unfold J_G_countOf_22
  refine jm_V.run (is := bk_G_countOf_22_1) (pc' := 23) (ls' := []) (st' := [.int 0]) (x' := x) hok hT bk_G_countOf_22_1_ok rfl ?_
  exact jj_G_countOf_23 hok hrec 0 x
def f_G_countOf (K : Nat) (g : jm_Rec) (a1 : Int32) (x : jm_X) : Option jm_R := (if a1 < 0 then J_G_countOf_22 K g x else (if jm_len shC 3 = some 34 then (if (Int32.ofNat 34) ≤ a1 then J_G_countOf_22 K g x else (if jm_in shC 3 .int a1 then J_G_countOf_23 K g (x.2.2 3 (Int32.toNatClampNeg a1)) x else none)) else none))
set_option maxRecDepth 100000 in
set_option maxHeartbeats 4000000 in
theorem c_G_countOf {l : Launch} {D : va_G} {ad : Nat → Nat} {aC : Nat → ClassId} {b0 : Nat} {K d0 : Nat} {g : jm_Rec} (hok : jm_Ok (jm_PP l D clC ad aC shC b0 1)) (hrec : ∀ (t : Nat) (av : List Value) (x : jm_X), jm_Con (jm_PP l D clC ad aC shC b0 1) (rcC t) d0 av x (g t av x)) (a1 : Int32) (x : jm_X) : jm_Con (jm_PP l D clC ad aC shC b0 1) mt_G_countOf (d0 + 1) [.ref 2, .int a1] x (f_G_countOf K g a1 x) := by
  refine jm_Con.of (plainFor_of_name (by decide +kernel)) (Nat.le_of_ble_eq_true rfl) ?_
  have hT := tk_G (l := l) (D := D) (ad := ad) (aC := aC) (b0 := b0)
  unfold f_G_countOf
  show jm_V _ _ _ 0 [(0, .ref 2), (1, .int a1)] [] x _
  refine jm_V.run (is := bk_G_countOf_0_2) (pc' := (if a1 < 0 then 22 else 4)) (ls' := [(0, .ref 2), (1, .int a1)]) (st' := []) (x' := x) hok hT bk_G_countOf_0_2_ok rfl ?_
  refine jm_V.ite (fun _ => ?_) (fun _ => ?_)
  · refine jm_V.sub (ls' := []) [] rfl ?_
    exact jj_G_countOf_22 hok hrec x
  · refine jm_V.run (is := bk_G_countOf_4_3) (pc' := 9) (ls' := [(0, .ref 2), (1, .int a1)]) (st' := [.ref 3, .int a1]) (x' := x) hok hT bk_G_countOf_4_3_ok rfl ?_
    refine jm_V.alen dd_G_countOf_9 ?_
    refine jm_V.run (is := bk_G_countOf_10_1) (pc' := (if (Int32.ofNat 34) ≤ a1 then 22 else 13)) (ls' := [(0, .ref 2), (1, .int a1)]) (st' := []) (x' := x) hok hT bk_G_countOf_10_1_ok rfl ?_
    refine jm_V.ite (fun _ => ?_) (fun _ => ?_)
    · refine jm_V.sub (ls' := []) [] rfl ?_
      exact jj_G_countOf_22 hok hrec x
    · refine jm_V.run (is := bk_G_countOf_13_3) (pc' := 18) (ls' := [(0, .ref 2), (1, .int a1)]) (st' := [.int a1, .ref 3]) (x' := x) hok hT bk_G_countOf_13_3_ok rfl ?_
      refine jm_V.iald dd_G_countOf_18 ?_
      refine jm_V.run (is := bk_G_countOf_19_1) (pc' := 23) (ls' := [(0, .ref 2), (1, .int a1)]) (st' := [.int (x.2.2 3 (Int32.toNatClampNeg a1))]) (x' := x) hok hT bk_G_countOf_19_1_ok rfl ?_
      refine jm_V.sub (ls' := []) [] rfl ?_
      exact jj_G_countOf_23 hok hrec (x.2.2 3 (Int32.toNatClampNeg a1)) x
abbrev bk_G_brokenPlace_0_2 : List (Nat × Instr × Nat) := [(0, .aload_n 0, 1), (1, .getfield 31, 3)]
theorem bk_G_brokenPlace_0_2_ok : jm_at mt_G_brokenPlace.2.1 bk_G_brokenPlace_0_2 = true := by decide +kernel
theorem dd_G_brokenPlace_4 : decode mt_G_brokenPlace.2.1 4 = .ok (.ireturn, 1) := by decide +kernel
def f_G_brokenPlace (K : Nat) (g : jm_Rec)  (x : jm_X) : Option jm_R := some (.inl (some (.int (x.1 204)), x))
set_option maxRecDepth 100000 in
set_option maxHeartbeats 4000000 in
theorem c_G_brokenPlace {l : Launch} {D : va_G} {ad : Nat → Nat} {aC : Nat → ClassId} {b0 : Nat} {K d0 : Nat} {g : jm_Rec} (hok : jm_Ok (jm_PP l D clC ad aC shC b0 1)) (hrec : ∀ (t : Nat) (av : List Value) (x : jm_X), jm_Con (jm_PP l D clC ad aC shC b0 1) (rcC t) d0 av x (g t av x))  (x : jm_X) : jm_Con (jm_PP l D clC ad aC shC b0 1) mt_G_brokenPlace (d0 + 1) [.ref 2] x (f_G_brokenPlace K g  x) := by
  refine jm_Con.of (plainFor_of_name (by decide +kernel)) (Nat.le_of_ble_eq_true rfl) ?_
  have hT := tk_G (l := l) (D := D) (ad := ad) (aC := aC) (b0 := b0)
  unfold f_G_brokenPlace
  show jm_V _ _ _ 0 [(0, .ref 2)] [] x _
  refine jm_V.run (is := bk_G_brokenPlace_0_2) (pc' := 4) (ls' := [(0, .ref 2)]) (st' := [.int (x.1 204)]) (x' := x) hok hT bk_G_brokenPlace_0_2_ok rfl ?_
  exact jm_V.iret rfl dd_G_brokenPlace_4
abbrev bk_G_forgetProgram_0_3 : List (Nat × Instr × Nat) := [(0, .aload_n 0, 1), (1, .getfield 11, 3), (4, .iconst 0, 1)]
theorem bk_G_forgetProgram_0_3_ok : jm_at mt_G_forgetProgram.2.1 bk_G_forgetProgram_0_3 = true := by decide +kernel
abbrev bk_G_forgetProgram_8_3 : List (Nat × Instr × Nat) := [(8, .aload_n 0, 1), (9, .iconst 0, 1), (10, .putfield 59, 3)]
theorem bk_G_forgetProgram_8_3_ok : jm_at mt_G_forgetProgram.2.1 bk_G_forgetProgram_8_3 = true := by decide +kernel
theorem dd_G_forgetProgram_5 : decode mt_G_forgetProgram.2.1 5 = .ok (.invokestatic 62, 3) := by decide +kernel
theorem dd_G_forgetProgram_13 : decode mt_G_forgetProgram.2.1 13 = .ok (.return_, 1) := by decide +kernel
def f_G_forgetProgram (K : Nat) (g : jm_Rec)  (x : jm_X) : Option jm_R := jm_bV (f_JA_fill K g 3 0 x) (fun x1 => jm_then (va_up x1.1 203 0, x1.2) (fun x2 => some (.inl (none, x2))))
set_option maxRecDepth 100000 in
set_option maxHeartbeats 4000000 in
theorem c_G_forgetProgram {l : Launch} {D : va_G} {ad : Nat → Nat} {aC : Nat → ClassId} {b0 : Nat} {K d0 : Nat} {g : jm_Rec} (hok : jm_Ok (jm_PP l D clC ad aC shC b0 1)) (hrec : ∀ (t : Nat) (av : List Value) (x : jm_X), jm_Con (jm_PP l D clC ad aC shC b0 1) (rcC t) d0 av x (g t av x))  (x : jm_X) : jm_Con (jm_PP l D clC ad aC shC b0 1) mt_G_forgetProgram (d0 + 2) [.ref 2] x (f_G_forgetProgram K g  x) := by
  refine jm_Con.of (plainFor_of_name (by decide +kernel)) (Nat.le_of_ble_eq_true rfl) ?_
  have hT := tk_G (l := l) (D := D) (ad := ad) (aC := aC) (b0 := b0)
  unfold f_G_forgetProgram
  show jm_V _ _ _ 0 [(0, .ref 2)] [] x _
  refine jm_V.run (is := bk_G_forgetProgram_0_3) (pc' := 5) (ls' := [(0, .ref 2)]) (st' := [.int 0, .ref 3]) (x' := x) hok hT bk_G_forgetProgram_0_3_ok rfl ?_
  refine jm_V.callV (av := [.ref 3, .int 0]) (rest := []) hok (jm_Con.mono (c_JA_fill (d0 := d0) hok hrec 3 0 x) (by omega)) (jm_Inv.stat dd_G_forgetProgram_5 (Or.inl lk_G_62) mq_JA_fill mi_JA mw_JA_fill mh_JA_fill ml_JA_fill) mw_JA_fill mi_JA (Nat.le_of_ble_eq_true rfl) (Nat.le_of_ble_eq_true rfl) (fun x1 => ?_)
  refine jm_V.run (is := bk_G_forgetProgram_8_3) (pc' := 13) (ls' := [(0, .ref 2)]) (st' := []) (x' := (va_up x1.1 203 0, x1.2)) hok hT bk_G_forgetProgram_8_3_ok rfl ?_
  refine jm_V.then_ (fun x2 => ?_)
  exact jm_V.vret rfl dd_G_forgetProgram_13
abbrev bk_G_broken_0_1 : List (Nat × Instr × Nat) := [(0, .aload_n 0, 1)]
theorem bk_G_broken_0_1_ok : jm_at mt_G_broken.2.1 bk_G_broken_0_1 = true := by decide +kernel
abbrev bk_G_broken_4_3 : List (Nat × Instr × Nat) := [(4, .aload_n 0, 1), (5, .iload_n 1, 1), (6, .putfield 31, 3)]
theorem bk_G_broken_4_3_ok : jm_at mt_G_broken.2.1 bk_G_broken_4_3 = true := by decide +kernel
theorem dd_G_broken_1 : decode mt_G_broken.2.1 1 = .ok (.invokevirtual 35, 3) := by decide +kernel
theorem dd_G_broken_9 : decode mt_G_broken.2.1 9 = .ok (.new 68, 3) := by decide +kernel
theorem dd_G_broken_12 : decode mt_G_broken.2.1 12 = .ok (.dup, 1) := by decide +kernel
theorem dd_G_broken_13 : decode mt_G_broken.2.1 13 = .ok (.invokespecial 70, 3) := by decide +kernel
theorem dd_G_broken_16 : decode mt_G_broken.2.1 16 = .ok (.athrow, 1) := by decide +kernel
def f_G_broken (K : Nat) (g : jm_Rec) (a1 : Int32) (x : jm_X) : Option jm_R := jm_bV (f_G_forgetProgram K g x) (fun x1 => jm_then (va_up x1.1 204 a1, x1.2) (fun x2 => some (.inr ("java/lang/UnsupportedOperationException", x2))))
set_option maxRecDepth 100000 in
set_option maxHeartbeats 4000000 in
theorem c_G_broken {l : Launch} {D : va_G} {ad : Nat → Nat} {aC : Nat → ClassId} {b0 : Nat} {K d0 : Nat} {g : jm_Rec} (hok : jm_Ok (jm_PP l D clC ad aC shC b0 1)) (hrec : ∀ (t : Nat) (av : List Value) (x : jm_X), jm_Con (jm_PP l D clC ad aC shC b0 1) (rcC t) d0 av x (g t av x)) (a1 : Int32) (x : jm_X) : jm_Con (jm_PP l D clC ad aC shC b0 1) mt_G_broken (d0 + 7) [.ref 2, .int a1] x (f_G_broken K g a1 x) := by
  refine jm_Con.of (plainFor_of_name (by decide +kernel)) (Nat.le_of_ble_eq_true rfl) ?_
  have hT := tk_G (l := l) (D := D) (ad := ad) (aC := aC) (b0 := b0)
  unfold f_G_broken
  show jm_V _ _ _ 0 [(0, .ref 2), (1, .int a1)] [] x _
  refine jm_V.run (is := bk_G_broken_0_1) (pc' := 1) (ls' := [(0, .ref 2), (1, .int a1)]) (st' := [.ref 2]) (x' := x) hok hT bk_G_broken_0_1_ok rfl ?_
  refine jm_V.callV (av := [.ref 2]) (rest := []) hok (jm_Con.mono (c_G_forgetProgram hok hrec x) (by omega)) (jm_Inv.obj (q := ("FilterReader$Grammar", T_G, 5)) dd_G_broken_1 (Or.inl lk_G_35) mn_G_forgetProgram ms_G_forgetProgram mw_G_forgetProgram mh_G_forgetProgram ml_G_forgetProgram rfl rfl) mw_G_forgetProgram mi_G (Nat.le_of_ble_eq_true rfl) (Nat.le_of_ble_eq_true rfl) (fun x1 => ?_)
  refine jm_V.run (is := bk_G_broken_4_3) (pc' := 9) (ls' := [(0, .ref 2), (1, .int a1)]) (st' := []) (x' := (va_up x1.1 204 a1, x1.2)) hok hT bk_G_broken_4_3_ok rfl ?_
  refine jm_V.then_ (fun x2 => ?_)
  exact jm_V.tnew hok tn_G_68_a tn_G_68_b (by decide) tn_G_68_c tn_G_68_d tn_G_68_e tn_G_68_f cs_thr dd_G_broken_9 dd_G_broken_12 dd_G_broken_13 dd_G_broken_16
abbrev bk_G_need_0_3 : List (Nat × Instr × Nat) := [(0, .aload_n 0, 1), (1, .getfield 20, 3), (4, .aload_n 1, 1)]
theorem bk_G_need_0_3_ok : jm_at mt_G_need.2.1 bk_G_need_0_3 = true := by decide +kernel
abbrev bk_G_need_8_1 : List (Nat × Instr × Nat) := [(8, .ifCond .ne 14, 3)]
theorem bk_G_need_8_1_ok : jm_at mt_G_need.2.1 bk_G_need_8_1 = true := by decide +kernel
abbrev bk_G_need_11_3 : List (Nat × Instr × Nat) := [(11, .aload_n 0, 1), (12, .aload_n 0, 1), (13, .getfield 20, 3)]
theorem bk_G_need_11_3_ok : jm_at mt_G_need.2.1 bk_G_need_11_3 = true := by decide +kernel
theorem dd_G_need_5 : decode mt_G_need.2.1 5 = .ok (.invokevirtual 71, 3) := by decide +kernel
theorem dd_G_need_16 : decode mt_G_need.2.1 16 = .ok (.invokevirtual 75, 3) := by decide +kernel
theorem dd_G_need_19 : decode mt_G_need.2.1 19 = .ok (.invokevirtual 79, 3) := by decide +kernel
theorem dd_G_need_22 : decode mt_G_need.2.1 22 = .ok (.return_, 1) := by decide +kernel
def J_G_need_22 (K : Nat) (g : jm_Rec)  (x : jm_X) : Option jm_R := some (.inl (none, x))
set_option maxRecDepth 100000 in
set_option maxHeartbeats 4000000 in
theorem jj_G_need_22 {l : Launch} {D : va_G} {ad : Nat → Nat} {aC : Nat → ClassId} {b0 : Nat} {K d0 : Nat} {g : jm_Rec} (hok : jm_Ok (jm_PP l D clC ad aC shC b0 1)) (hrec : ∀ (t : Nat) (av : List Value) (x : jm_X), jm_Con (jm_PP l D clC ad aC shC b0 1) (rcC t) d0 av x (g t av x))  (x : jm_X) : jm_V (jm_PP l D clC ad aC shC b0 1) mt_G_need (d0 + 8) 22 [] [] x (J_G_need_22 K g  x) := by
  have hT := tk_G (l := l) (D := D) (ad := ad) (aC := aC) (b0 := b0)
  unfold J_G_need_22
  exact jm_V.vret rfl dd_G_need_22
def f_G_need (K : Nat) (g : jm_Rec) (a1 : Nat) (x : jm_X) : Option jm_R := jm_bI (f_S_is K g a1 x) (fun b2 x1 => (if b2 = 0 then jm_bI (f_S_start K g x1) (fun b4 x3 => jm_bV (f_G_broken K g b4 x3) (fun x5 => J_G_need_22 K g x5)) else J_G_need_22 K g x1))
set_option maxRecDepth 100000 in
set_option maxHeartbeats 4000000 in
theorem c_G_need {l : Launch} {D : va_G} {ad : Nat → Nat} {aC : Nat → ClassId} {b0 : Nat} {K d0 : Nat} {g : jm_Rec} (hok : jm_Ok (jm_PP l D clC ad aC shC b0 1)) (hrec : ∀ (t : Nat) (av : List Value) (x : jm_X), jm_Con (jm_PP l D clC ad aC shC b0 1) (rcC t) d0 av x (g t av x)) (a1 : Nat) (x : jm_X) : jm_Con (jm_PP l D clC ad aC shC b0 1) mt_G_need (d0 + 8) [.ref 2, .ref a1] x (f_G_need K g a1 x) := by
  refine jm_Con.of (plainFor_of_name (by decide +kernel)) (Nat.le_of_ble_eq_true rfl) ?_
  have hT := tk_G (l := l) (D := D) (ad := ad) (aC := aC) (b0 := b0)
  unfold f_G_need
  show jm_V _ _ _ 0 [(0, .ref 2), (1, .ref a1)] [] x _
  refine jm_V.run (is := bk_G_need_0_3) (pc' := 5) (ls' := [(0, .ref 2), (1, .ref a1)]) (st' := [.ref a1, .ref 4]) (x' := x) hok hT bk_G_need_0_3_ok rfl ?_
  refine jm_V.callI (av := [.ref 4, .ref a1]) (rest := []) hok (jm_Con.mono (c_S_is hok hrec a1 x) (by omega)) (jm_Inv.obj (q := ("FilterReader$Signs", T_S, 5)) dd_G_need_5 (Or.inl lk_G_71) mn_S_is ms_S_is mw_S_is mh_S_is ml_S_is rfl rfl) mw_S_is mi_S (Nat.le_of_ble_eq_true rfl) (Nat.le_of_ble_eq_true rfl) (fun b2 x1 => ?_)
  refine jm_V.run (is := bk_G_need_8_1) (pc' := (if b2 = 0 then 11 else 22)) (ls' := [(0, .ref 2), (1, .ref a1)]) (st' := []) (x' := x1) hok hT bk_G_need_8_1_ok rfl ?_
  refine jm_V.ite (fun _ => ?_) (fun _ => ?_)
  · refine jm_V.run (is := bk_G_need_11_3) (pc' := 16) (ls' := [(0, .ref 2), (1, .ref a1)]) (st' := [.ref 4, .ref 2]) (x' := x1) hok hT bk_G_need_11_3_ok rfl ?_
    refine jm_V.callI (av := [.ref 4]) (rest := [.ref 2]) hok (jm_Con.mono (c_S_start hok hrec x1) (by omega)) (jm_Inv.obj (q := ("FilterReader$Signs", T_S, 5)) dd_G_need_16 (Or.inl lk_G_75) mn_S_start ms_S_start mw_S_start mh_S_start ml_S_start rfl rfl) mw_S_start mi_S (Nat.le_of_ble_eq_true rfl) (Nat.le_of_ble_eq_true rfl) (fun b4 x3 => ?_)
    refine jm_V.callV (av := [.ref 2, .int b4]) (rest := []) hok (jm_Con.mono (c_G_broken hok hrec b4 x3) (by omega)) (jm_Inv.obj (q := ("FilterReader$Grammar", T_G, 5)) dd_G_need_19 (Or.inl lk_G_79) mn_G_broken ms_G_broken mw_G_broken mh_G_broken ml_G_broken rfl rfl) mw_G_broken mi_G (Nat.le_of_ble_eq_true rfl) (Nat.le_of_ble_eq_true rfl) (fun x5 => ?_)
    refine jm_V.sub (ls' := []) [] rfl ?_
    exact jj_G_need_22 hok hrec x5
  · refine jm_V.sub (ls' := []) [] rfl ?_
    exact jj_G_need_22 hok hrec x1
abbrev bk_G_learn_0_5 : List (Nat × Instr × Nat) := [(0, .aload_n 0, 1), (1, .getfield 27, 3), (4, .iload_n 1, 1), (5, .aload_n 0, 1), (6, .getfield 20, 3)]
theorem bk_G_learn_0_5_ok : jm_at mt_G_learn.2.1 bk_G_learn_0_5 = true := by decide +kernel
abbrev bk_G_learn_12_2 : List (Nat × Instr × Nat) := [(12, .aload_n 0, 1), (13, .getfield 20, 3)]
theorem bk_G_learn_12_2_ok : jm_at mt_G_learn.2.1 bk_G_learn_12_2 = true := by decide +kernel
theorem dd_G_learn_9 : decode mt_G_learn.2.1 9 = .ok (.invokevirtual 88, 3) := by decide +kernel
theorem dd_G_learn_16 : decode mt_G_learn.2.1 16 = .ok (.invokevirtual 91, 3) := by decide +kernel
theorem dd_G_learn_19 : decode mt_G_learn.2.1 19 = .ok (.invokevirtual 94, 3) := by decide +kernel
theorem dd_G_learn_22 : decode mt_G_learn.2.1 22 = .ok (.return_, 1) := by decide +kernel
def f_G_learn (K : Nat) (g : jm_Rec) (a1 : Int32) (x : jm_X) : Option jm_R := jm_bI (f_S_nameStart K g x) (fun b2 x1 => jm_bI (f_S_behind K g x1) (fun b4 x3 => jm_bV (f_N_add K g a1 b2 b4 x3) (fun x5 => some (.inl (none, x5)))))
set_option maxRecDepth 100000 in
set_option maxHeartbeats 4000000 in
theorem c_G_learn {l : Launch} {D : va_G} {ad : Nat → Nat} {aC : Nat → ClassId} {b0 : Nat} {K d0 : Nat} {g : jm_Rec} (hok : jm_Ok (jm_PP l D clC ad aC shC b0 1)) (hrec : ∀ (t : Nat) (av : List Value) (x : jm_X), jm_Con (jm_PP l D clC ad aC shC b0 1) (rcC t) d0 av x (g t av x)) (a1 : Int32) (x : jm_X) : jm_Con (jm_PP l D clC ad aC shC b0 1) mt_G_learn (d0 + 2) [.ref 2, .int a1] x (f_G_learn K g a1 x) := by
  refine jm_Con.of (plainFor_of_name (by decide +kernel)) (Nat.le_of_ble_eq_true rfl) ?_
  have hT := tk_G (l := l) (D := D) (ad := ad) (aC := aC) (b0 := b0)
  unfold f_G_learn
  show jm_V _ _ _ 0 [(0, .ref 2), (1, .int a1)] [] x _
  refine jm_V.run (is := bk_G_learn_0_5) (pc' := 9) (ls' := [(0, .ref 2), (1, .int a1)]) (st' := [.ref 4, .int a1, .ref 6]) (x' := x) hok hT bk_G_learn_0_5_ok rfl ?_
  refine jm_V.callI (av := [.ref 4]) (rest := [.int a1, .ref 6]) hok (jm_Con.mono (c_S_nameStart hok hrec x) (by omega)) (jm_Inv.obj (q := ("FilterReader$Signs", T_S, 5)) dd_G_learn_9 (Or.inl lk_G_88) mn_S_nameStart ms_S_nameStart mw_S_nameStart mh_S_nameStart ml_S_nameStart rfl rfl) mw_S_nameStart mi_S (Nat.le_of_ble_eq_true rfl) (Nat.le_of_ble_eq_true rfl) (fun b2 x1 => ?_)
  refine jm_V.run (is := bk_G_learn_12_2) (pc' := 16) (ls' := [(0, .ref 2), (1, .int a1)]) (st' := [.ref 4, .int b2, .int a1, .ref 6]) (x' := x1) hok hT bk_G_learn_12_2_ok rfl ?_
  refine jm_V.callI (av := [.ref 4]) (rest := [.int b2, .int a1, .ref 6]) hok (jm_Con.mono (c_S_behind hok hrec x1) (by omega)) (jm_Inv.obj (q := ("FilterReader$Signs", T_S, 5)) dd_G_learn_16 (Or.inl lk_G_91) mn_S_behind ms_S_behind mw_S_behind mh_S_behind ml_S_behind rfl rfl) mw_S_behind mi_S (Nat.le_of_ble_eq_true rfl) (Nat.le_of_ble_eq_true rfl) (fun b4 x3 => ?_)
  refine jm_V.callV (av := [.ref 6, .int a1, .int b2, .int b4]) (rest := []) hok (jm_Con.mono (c_N_add hok hrec a1 b2 b4 x3) (by omega)) (jm_Inv.obj (q := ("FilterReader$Names", T_N, 6)) dd_G_learn_19 (Or.inl lk_G_94) mn_N_add ms_N_add mw_N_add mh_N_add ml_N_add rfl rfl) mw_N_add mi_N (Nat.le_of_ble_eq_true rfl) (Nat.le_of_ble_eq_true rfl) (fun x5 => ?_)
  exact jm_V.vret rfl dd_G_learn_22
abbrev bk_G_learnParameter_0_3 : List (Nat × Instr × Nat) := [(0, .iload_n 1, 1), (1, .bipush 10, 2), (3, .if_icmp .lt 14, 3)]
theorem bk_G_learnParameter_0_3_ok : jm_at mt_G_learnParameter.2.1 bk_G_learnParameter_0_3 = true := by decide +kernel
abbrev bk_G_learnParameter_6_3 : List (Nat × Instr × Nat) := [(6, .aload_n 0, 1), (7, .aload_n 0, 1), (8, .getfield 20, 3)]
theorem bk_G_learnParameter_6_3_ok : jm_at mt_G_learnParameter.2.1 bk_G_learnParameter_6_3 = true := by decide +kernel
abbrev bk_G_learnParameter_17_3 : List (Nat × Instr × Nat) := [(17, .aload_n 0, 1), (18, .getfield 20, 3), (21, .getstatic 176, 3)]
theorem bk_G_learnParameter_17_3_ok : jm_at mt_G_learnParameter.2.1 bk_G_learnParameter_17_3 = true := by decide +kernel
abbrev bk_G_learnParameter_27_1 : List (Nat × Instr × Nat) := [(27, .ifCond .eq 12, 3)]
theorem bk_G_learnParameter_27_1_ok : jm_at mt_G_learnParameter.2.1 bk_G_learnParameter_27_1 = true := by decide +kernel
abbrev bk_G_learnParameter_39_2 : List (Nat × Instr × Nat) := [(39, .aload_n 0, 1), (40, .getstatic 145, 3)]
theorem bk_G_learnParameter_39_2_ok : jm_at mt_G_learnParameter.2.1 bk_G_learnParameter_39_2 = true := by decide +kernel
abbrev bk_G_learnParameter_30_2 : List (Nat × Instr × Nat) := [(30, .aload_n 0, 1), (31, .bipush (-2), 2)]
theorem bk_G_learnParameter_30_2_ok : jm_at mt_G_learnParameter.2.1 bk_G_learnParameter_30_2 = true := by decide +kernel
abbrev bk_G_learnParameter_36_1 : List (Nat × Instr × Nat) := [(36, .goto 10, 3)]
theorem bk_G_learnParameter_36_1_ok : jm_at mt_G_learnParameter.2.1 bk_G_learnParameter_36_1 = true := by decide +kernel
abbrev bk_G_learnParameter_46_2 : List (Nat × Instr × Nat) := [(46, .aload_n 0, 1), (47, .bipush 13, 2)]
theorem bk_G_learnParameter_46_2_ok : jm_at mt_G_learnParameter.2.1 bk_G_learnParameter_46_2 = true := by decide +kernel
theorem dd_G_learnParameter_11 : decode mt_G_learnParameter.2.1 11 = .ok (.invokevirtual 75, 3) := by decide +kernel
theorem dd_G_learnParameter_14 : decode mt_G_learnParameter.2.1 14 = .ok (.invokevirtual 79, 3) := by decide +kernel
theorem dd_G_learnParameter_24 : decode mt_G_learnParameter.2.1 24 = .ok (.invokevirtual 71, 3) := by decide +kernel
theorem dd_G_learnParameter_43 : decode mt_G_learnParameter.2.1 43 = .ok (.invokevirtual 55, 3) := by decide +kernel
theorem dd_G_learnParameter_33 : decode mt_G_learnParameter.2.1 33 = .ok (.invokevirtual 148, 3) := by decide +kernel
theorem dd_G_learnParameter_49 : decode mt_G_learnParameter.2.1 49 = .ok (.invokevirtual 148, 3) := by decide +kernel
theorem dd_G_learnParameter_52 : decode mt_G_learnParameter.2.1 52 = .ok (.return_, 1) := by decide +kernel
def J_G_learnParameter_46 (K : Nat) (g : jm_Rec)  (x : jm_X) : Option jm_R := jm_bV (f_G_learn K g 13 x) (fun x8 => some (.inl (none, x8)))
set_option maxRecDepth 100000 in
set_option maxHeartbeats 4000000 in
theorem jj_G_learnParameter_46 {l : Launch} {D : va_G} {ad : Nat → Nat} {aC : Nat → ClassId} {b0 : Nat} {K d0 : Nat} {g : jm_Rec} (hok : jm_Ok (jm_PP l D clC ad aC shC b0 1)) (hrec : ∀ (t : Nat) (av : List Value) (x : jm_X), jm_Con (jm_PP l D clC ad aC shC b0 1) (rcC t) d0 av x (g t av x))  (x : jm_X) : jm_V (jm_PP l D clC ad aC shC b0 1) mt_G_learnParameter (d0 + 9) 46 [(0, .ref 2)] [] x (J_G_learnParameter_46 K g  x) := by
  have hT := tk_G (l := l) (D := D) (ad := ad) (aC := aC) (b0 := b0)
  unfold J_G_learnParameter_46
  refine jm_V.run (is := bk_G_learnParameter_46_2) (pc' := 49) (ls' := [(0, .ref 2)]) (st' := [.int 13, .ref 2]) (x' := x) hok hT bk_G_learnParameter_46_2_ok rfl ?_
  refine jm_V.callV (av := [.ref 2, .int 13]) (rest := []) hok (jm_Con.mono (c_G_learn hok hrec 13 x) (by omega)) (jm_Inv.obj (q := ("FilterReader$Grammar", T_G, 5)) dd_G_learnParameter_49 (Or.inl lk_G_148) mn_G_learn ms_G_learn mw_G_learn mh_G_learn ml_G_learn rfl rfl) mw_G_learn mi_G (Nat.le_of_ble_eq_true rfl) (Nat.le_of_ble_eq_true rfl) (fun x8 => ?_)
  exact jm_V.vret rfl dd_G_learnParameter_52
def J_G_learnParameter_17 (K : Nat) (g : jm_Rec)  (x : jm_X) : Option jm_R := jm_bI (f_S_is K g 1004 x) (fun b5 x4 => (if b5 = 0 then jm_bV (f_G_need K g 1002 x4) (fun x6 => J_G_learnParameter_46 K g x6) else jm_bV (f_G_learn K g (-2) x4) (fun x7 => J_G_learnParameter_46 K g x7)))
set_option maxRecDepth 100000 in
set_option maxHeartbeats 4000000 in
theorem jj_G_learnParameter_17 {l : Launch} {D : va_G} {ad : Nat → Nat} {aC : Nat → ClassId} {b0 : Nat} {K d0 : Nat} {g : jm_Rec} (hok : jm_Ok (jm_PP l D clC ad aC shC b0 1)) (hrec : ∀ (t : Nat) (av : List Value) (x : jm_X), jm_Con (jm_PP l D clC ad aC shC b0 1) (rcC t) d0 av x (g t av x))  (x : jm_X) : jm_V (jm_PP l D clC ad aC shC b0 1) mt_G_learnParameter (d0 + 9) 17 [(0, .ref 2)] [] x (J_G_learnParameter_17 K g  x) := by
  have hT := tk_G (l := l) (D := D) (ad := ad) (aC := aC) (b0 := b0)
  unfold J_G_learnParameter_17
  refine jm_V.run (is := bk_G_learnParameter_17_3) (pc' := 24) (ls' := [(0, .ref 2)]) (st' := [.ref 1004, .ref 4]) (x' := x) hok hT bk_G_learnParameter_17_3_ok rfl ?_
  refine jm_V.callI (av := [.ref 4, .ref 1004]) (rest := []) hok (jm_Con.mono (c_S_is hok hrec 1004 x) (by omega)) (jm_Inv.obj (q := ("FilterReader$Signs", T_S, 5)) dd_G_learnParameter_24 (Or.inl lk_G_71) mn_S_is ms_S_is mw_S_is mh_S_is ml_S_is rfl rfl) mw_S_is mi_S (Nat.le_of_ble_eq_true rfl) (Nat.le_of_ble_eq_true rfl) (fun b5 x4 => ?_)
  refine jm_V.run (is := bk_G_learnParameter_27_1) (pc' := (if b5 = 0 then 39 else 30)) (ls' := [(0, .ref 2)]) (st' := []) (x' := x4) hok hT bk_G_learnParameter_27_1_ok rfl ?_
  refine jm_V.ite (fun _ => ?_) (fun _ => ?_)
  · refine jm_V.run (is := bk_G_learnParameter_39_2) (pc' := 43) (ls' := [(0, .ref 2)]) (st' := [.ref 1002, .ref 2]) (x' := x4) hok hT bk_G_learnParameter_39_2_ok rfl ?_
    refine jm_V.callV (av := [.ref 2, .ref 1002]) (rest := []) hok (jm_Con.mono (c_G_need hok hrec 1002 x4) (by omega)) (jm_Inv.obj (q := ("FilterReader$Grammar", T_G, 5)) dd_G_learnParameter_43 (Or.inl lk_G_55) mn_G_need ms_G_need mw_G_need mh_G_need ml_G_need rfl rfl) mw_G_need mi_G (Nat.le_of_ble_eq_true rfl) (Nat.le_of_ble_eq_true rfl) (fun x6 => ?_)
    exact jj_G_learnParameter_46 hok hrec x6
  · refine jm_V.run (is := bk_G_learnParameter_30_2) (pc' := 33) (ls' := [(0, .ref 2)]) (st' := [.int (-2), .ref 2]) (x' := x4) hok hT bk_G_learnParameter_30_2_ok rfl ?_
    refine jm_V.callV (av := [.ref 2, .int (-2)]) (rest := []) hok (jm_Con.mono (c_G_learn hok hrec (-2) x4) (by omega)) (jm_Inv.obj (q := ("FilterReader$Grammar", T_G, 5)) dd_G_learnParameter_33 (Or.inl lk_G_148) mn_G_learn ms_G_learn mw_G_learn mh_G_learn ml_G_learn rfl rfl) mw_G_learn mi_G (Nat.le_of_ble_eq_true rfl) (Nat.le_of_ble_eq_true rfl) (fun x7 => ?_)
    refine jm_V.run (is := bk_G_learnParameter_36_1) (pc' := 46) (ls' := [(0, .ref 2)]) (st' := []) (x' := x7) hok hT bk_G_learnParameter_36_1_ok rfl ?_
    exact jj_G_learnParameter_46 hok hrec x7
def f_G_learnParameter (K : Nat) (g : jm_Rec) (a1 : Int32) (x : jm_X) : Option jm_R := (if a1 < 10 then J_G_learnParameter_17 K g x else jm_bI (f_S_start K g x) (fun b2 x1 => jm_bV (f_G_broken K g b2 x1) (fun x3 => J_G_learnParameter_17 K g x3)))
set_option maxRecDepth 100000 in
set_option maxHeartbeats 4000000 in
theorem c_G_learnParameter {l : Launch} {D : va_G} {ad : Nat → Nat} {aC : Nat → ClassId} {b0 : Nat} {K d0 : Nat} {g : jm_Rec} (hok : jm_Ok (jm_PP l D clC ad aC shC b0 1)) (hrec : ∀ (t : Nat) (av : List Value) (x : jm_X), jm_Con (jm_PP l D clC ad aC shC b0 1) (rcC t) d0 av x (g t av x)) (a1 : Int32) (x : jm_X) : jm_Con (jm_PP l D clC ad aC shC b0 1) mt_G_learnParameter (d0 + 9) [.ref 2, .int a1] x (f_G_learnParameter K g a1 x) := by
  refine jm_Con.of (plainFor_of_name (by decide +kernel)) (Nat.le_of_ble_eq_true rfl) ?_
  have hT := tk_G (l := l) (D := D) (ad := ad) (aC := aC) (b0 := b0)
  unfold f_G_learnParameter
  show jm_V _ _ _ 0 [(0, .ref 2), (1, .int a1)] [] x _
  refine jm_V.run (is := bk_G_learnParameter_0_3) (pc' := (if a1 < 10 then 17 else 6)) (ls' := [(0, .ref 2), (1, .int a1)]) (st' := []) (x' := x) hok hT bk_G_learnParameter_0_3_ok rfl ?_
  refine jm_V.ite (fun _ => ?_) (fun _ => ?_)
  · refine jm_V.sub (ls' := [(0, .ref 2)]) [0] rfl ?_
    exact jj_G_learnParameter_17 hok hrec x
  · refine jm_V.run (is := bk_G_learnParameter_6_3) (pc' := 11) (ls' := [(0, .ref 2), (1, .int a1)]) (st' := [.ref 4, .ref 2]) (x' := x) hok hT bk_G_learnParameter_6_3_ok rfl ?_
    refine jm_V.callI (av := [.ref 4]) (rest := [.ref 2]) hok (jm_Con.mono (c_S_start hok hrec x) (by omega)) (jm_Inv.obj (q := ("FilterReader$Signs", T_S, 5)) dd_G_learnParameter_11 (Or.inl lk_G_75) mn_S_start ms_S_start mw_S_start mh_S_start ml_S_start rfl rfl) mw_S_start mi_S (Nat.le_of_ble_eq_true rfl) (Nat.le_of_ble_eq_true rfl) (fun b2 x1 => ?_)
    refine jm_V.callV (av := [.ref 2, .int b2]) (rest := []) hok (jm_Con.mono (c_G_broken hok hrec b2 x1) (by omega)) (jm_Inv.obj (q := ("FilterReader$Grammar", T_G, 5)) dd_G_learnParameter_14 (Or.inl lk_G_79) mn_G_broken ms_G_broken mw_G_broken mh_G_broken ml_G_broken rfl rfl) mw_G_broken mi_G (Nat.le_of_ble_eq_true rfl) (Nat.le_of_ble_eq_true rfl) (fun x3 => ?_)
    refine jm_V.sub (ls' := [(0, .ref 2)]) [0] rfl ?_
    exact jj_G_learnParameter_17 hok hrec x3
abbrev bk_G_take_0_2 : List (Nat × Instr × Nat) := [(0, .aload_n 0, 1), (1, .aload_n 1, 1)]
theorem bk_G_take_0_2_ok : jm_at mt_G_take.2.1 bk_G_take_0_2 = true := by decide +kernel
abbrev bk_G_take_5_2 : List (Nat × Instr × Nat) := [(5, .aload_n 0, 1), (6, .getfield 20, 3)]
theorem bk_G_take_5_2_ok : jm_at mt_G_take.2.1 bk_G_take_5_2 = true := by decide +kernel
theorem dd_G_take_2 : decode mt_G_take.2.1 2 = .ok (.invokevirtual 55, 3) := by decide +kernel
theorem dd_G_take_9 : decode mt_G_take.2.1 9 = .ok (.invokevirtual 82, 3) := by decide +kernel
theorem dd_G_take_12 : decode mt_G_take.2.1 12 = .ok (.return_, 1) := by decide +kernel
def f_G_take (K : Nat) (g : jm_Rec) (a1 : Nat) (x : jm_X) : Option jm_R := jm_bV (f_G_need K g a1 x) (fun x1 => jm_bV (f_S_next K g x1) (fun x2 => some (.inl (none, x2))))
set_option maxRecDepth 100000 in
set_option maxHeartbeats 4000000 in
theorem c_G_take {l : Launch} {D : va_G} {ad : Nat → Nat} {aC : Nat → ClassId} {b0 : Nat} {K d0 : Nat} {g : jm_Rec} (hok : jm_Ok (jm_PP l D clC ad aC shC b0 1)) (hrec : ∀ (t : Nat) (av : List Value) (x : jm_X), jm_Con (jm_PP l D clC ad aC shC b0 1) (rcC t) d0 av x (g t av x)) (a1 : Nat) (x : jm_X) : jm_Con (jm_PP l D clC ad aC shC b0 1) mt_G_take (d0 + 9) [.ref 2, .ref a1] x (f_G_take K g a1 x) := by
  refine jm_Con.of (plainFor_of_name (by decide +kernel)) (Nat.le_of_ble_eq_true rfl) ?_
  have hT := tk_G (l := l) (D := D) (ad := ad) (aC := aC) (b0 := b0)
  unfold f_G_take
  show jm_V _ _ _ 0 [(0, .ref 2), (1, .ref a1)] [] x _
  refine jm_V.run (is := bk_G_take_0_2) (pc' := 2) (ls' := [(0, .ref 2), (1, .ref a1)]) (st' := [.ref a1, .ref 2]) (x' := x) hok hT bk_G_take_0_2_ok rfl ?_
  refine jm_V.callV (av := [.ref 2, .ref a1]) (rest := []) hok (jm_Con.mono (c_G_need hok hrec a1 x) (by omega)) (jm_Inv.obj (q := ("FilterReader$Grammar", T_G, 5)) dd_G_take_2 (Or.inl lk_G_55) mn_G_need ms_G_need mw_G_need mh_G_need ml_G_need rfl rfl) mw_G_need mi_G (Nat.le_of_ble_eq_true rfl) (Nat.le_of_ble_eq_true rfl) (fun x1 => ?_)
  refine jm_V.run (is := bk_G_take_5_2) (pc' := 9) (ls' := [(0, .ref 2), (1, .ref a1)]) (st' := [.ref 4]) (x' := x1) hok hT bk_G_take_5_2_ok rfl ?_
  refine jm_V.callV (av := [.ref 4]) (rest := []) hok (jm_Con.mono (c_S_next hok hrec x1) (by omega)) (jm_Inv.obj (q := ("FilterReader$Signs", T_S, 5)) dd_G_take_9 (Or.inl lk_G_82) mn_S_next ms_S_next mw_S_next mh_S_next ml_S_next rfl rfl) mw_S_next mi_S (Nat.le_of_ble_eq_true rfl) (Nat.le_of_ble_eq_true rfl) (fun x2 => ?_)
  exact jm_V.vret rfl dd_G_take_12

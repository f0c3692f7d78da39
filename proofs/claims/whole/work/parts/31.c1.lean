/-! THE CLASS: methods. Printed by wip/whole/printC.py. -/
abbrev bk_JA_fill_0_3 : List (Nat × Instr × Nat) := [(0, .iconst 0, 1), (1, .istore_n 2, 1), (2, .aload_n 0, 1)]
theorem bk_JA_fill_0_3_ok : jm_at mt_JA_fill.2.1 bk_JA_fill_0_3 = true := by decide +kernel
abbrev bk_JA_fill_4_1 : List (Nat × Instr × Nat) := [(4, .istore_n 3, 1)]
theorem bk_JA_fill_4_1_ok : jm_at mt_JA_fill.2.1 bk_JA_fill_4_1 = true := by decide +kernel
abbrev bk_JA_fill_5_3 : List (Nat × Instr × Nat) := [(5, .iload_n 2, 1), (6, .iload_n 3, 1), (7, .if_icmp .ge 13, 3)]
theorem bk_JA_fill_5_3_ok : jm_at mt_JA_fill.2.1 bk_JA_fill_5_3 = true := by decide +kernel
abbrev bk_JA_fill_10_3 : List (Nat × Instr × Nat) := [(10, .aload_n 0, 1), (11, .iload_n 2, 1), (12, .iload_n 1, 1)]
theorem bk_JA_fill_10_3_ok : jm_at mt_JA_fill.2.1 bk_JA_fill_10_3 = true := by decide +kernel
abbrev bk_JA_fill_14_2 : List (Nat × Instr × Nat) := [(14, .iinc 2 1, 3), (17, .goto (-12), 3)]
theorem bk_JA_fill_14_2_ok : jm_at mt_JA_fill.2.1 bk_JA_fill_14_2 = true := by decide +kernel
theorem dd_JA_fill_3 : decode mt_JA_fill.2.1 3 = .ok (.arraylength, 1) := by decide +kernel
theorem dd_JA_fill_20 : decode mt_JA_fill.2.1 20 = .ok (.return_, 1) := by decide +kernel
theorem dd_JA_fill_13 : decode mt_JA_fill.2.1 13 = .ok (.iastore, 1) := by decide +kernel
def B_JA_fill_5 (K : Nat) (g : jm_Rec) (self : Nat → Int32 → Int32 → Int32 → jm_X → Option jm_R) (v0 : Nat) (v1 : Int32) (v2 : Int32) (v3 : Int32) (x : jm_X) : Option jm_R := (if v3 ≤ v2 then some (.inl (none, x)) else (if jm_in shC v0 .int v2 then jm_then (jm_ua x v0 v2 v1) (fun x2 => self v0 v1 (v2 + 1) v3 x2) else none))
def L_JA_fill_5 (K : Nat) (g : jm_Rec) : Nat → Nat → Int32 → Int32 → Int32 → jm_X → Option jm_R
  | 0, _, _, _, _, _ => none
  | k + 1, v0, v1, v2, v3, x => B_JA_fill_5 K g (L_JA_fill_5 K g k) v0 v1 v2 v3 x
set_option maxRecDepth 100000 in
set_option maxHeartbeats 4000000 in
theorem jb_JA_fill_5 {l : Launch} {D : va_G} {ad : Nat → Nat} {aC : Nat → ClassId} {b0 : Nat} {K d0 : Nat} {g : jm_Rec} (hok : jm_Ok (jm_PP l D clC ad aC shC b0)) (hrec : ∀ (t : Nat) (av : List Value) (x : jm_X), jm_Con (jm_PP l D clC ad aC shC b0) (rcC t) d0 av x (g t av x)) {self : Nat → Int32 → Int32 → Int32 → jm_X → Option jm_R} (hself : ∀ (v0 : Nat) (v1 : Int32) (v2 : Int32) (v3 : Int32) (x : jm_X), jm_V (jm_PP l D clC ad aC shC b0) mt_JA_fill (d0 + 1) 5 [(0, .ref v0), (1, .int v1), (2, .int v2), (3, .int v3)] [] x (self v0 v1 v2 v3 x)) (v0 : Nat) (v1 : Int32) (v2 : Int32) (v3 : Int32) (x : jm_X) : jm_V (jm_PP l D clC ad aC shC b0) mt_JA_fill (d0 + 1) 5 [(0, .ref v0), (1, .int v1), (2, .int v2), (3, .int v3)] [] x (B_JA_fill_5 K g self v0 v1 v2 v3 x) := by
  have hT := tk_JA (l := l) (D := D) (ad := ad) (aC := aC) (b0 := b0)
  unfold B_JA_fill_5
  refine jm_V.run (is := bk_JA_fill_5_3) (pc' := (if v3 ≤ v2 then 20 else 10)) (ls' := [(0, .ref v0), (1, .int v1), (2, .int v2), (3, .int v3)]) (st' := []) (x' := x) hok hT bk_JA_fill_5_3_ok rfl ?_
  refine jm_V.ite (fun _ => ?_) (fun _ => ?_)
  · exact jm_V.vret rfl dd_JA_fill_20
  · refine jm_V.run (is := bk_JA_fill_10_3) (pc' := 13) (ls' := [(0, .ref v0), (1, .int v1), (2, .int v2), (3, .int v3)]) (st' := [.int v1, .int v2, .ref v0]) (x' := x) hok hT bk_JA_fill_10_3_ok rfl ?_
    refine jm_V.iast hok dd_JA_fill_13 ?_
    refine jm_V.then_ (fun x2 => ?_)
    refine jm_V.run (is := bk_JA_fill_14_2) (pc' := 5) (ls' := [(2, .int (v2 + 1)), (0, .ref v0), (1, .int v1), (3, .int v3)]) (st' := []) (x' := x2) hok hT bk_JA_fill_14_2_ok rfl ?_
    refine jm_V.sub (ls' := [(0, .ref v0), (1, .int v1), (2, .int (v2 + 1)), (3, .int v3)]) [1, 2, 0, 3] rfl ?_
    exact hself v0 v1 (v2 + 1) v3 x2
theorem jl_JA_fill_5 {l : Launch} {D : va_G} {ad : Nat → Nat} {aC : Nat → ClassId} {b0 : Nat} {K d0 : Nat} {g : jm_Rec} (hok : jm_Ok (jm_PP l D clC ad aC shC b0)) (hrec : ∀ (t : Nat) (av : List Value) (x : jm_X), jm_Con (jm_PP l D clC ad aC shC b0) (rcC t) d0 av x (g t av x)) : ∀ (k : Nat) (v0 : Nat) (v1 : Int32) (v2 : Int32) (v3 : Int32) (x : jm_X), jm_V (jm_PP l D clC ad aC shC b0) mt_JA_fill (d0 + 1) 5 [(0, .ref v0), (1, .int v1), (2, .int v2), (3, .int v3)] [] x (L_JA_fill_5 K g k v0 v1 v2 v3 x)
  | 0, _, _, _, _, _ => jm_V.stuck
  | k + 1, v0, v1, v2, v3, x => jb_JA_fill_5 hok hrec (fun v0 v1 v2 v3 x => jl_JA_fill_5 hok hrec k v0 v1 v2 v3 x) v0 v1 v2 v3 x
def f_JA_fill (K : Nat) (g : jm_Rec) (a1 : Nat) (a2 : Int32) (x : jm_X) : Option jm_R := jm_oN (jm_len shC a1) (fun n1 => L_JA_fill_5 K g K a1 a2 0 (Int32.ofNat n1) x)
set_option maxRecDepth 100000 in
set_option maxHeartbeats 4000000 in
theorem c_JA_fill {l : Launch} {D : va_G} {ad : Nat → Nat} {aC : Nat → ClassId} {b0 : Nat} {K d0 : Nat} {g : jm_Rec} (hok : jm_Ok (jm_PP l D clC ad aC shC b0)) (hrec : ∀ (t : Nat) (av : List Value) (x : jm_X), jm_Con (jm_PP l D clC ad aC shC b0) (rcC t) d0 av x (g t av x)) (a1 : Nat) (a2 : Int32) (x : jm_X) : jm_Con (jm_PP l D clC ad aC shC b0) mt_JA_fill (d0 + 1) [.ref a1, .int a2] x (f_JA_fill K g a1 a2 x) := by
  refine jm_Con.of (plainFor_of_name (by decide +kernel)) (Nat.le_of_ble_eq_true rfl) ?_
  have hT := tk_JA (l := l) (D := D) (ad := ad) (aC := aC) (b0 := b0)
  unfold f_JA_fill
  show jm_V _ _ _ 0 [(0, .ref a1), (1, .int a2)] [] x _
  refine jm_V.run (is := bk_JA_fill_0_3) (pc' := 3) (ls' := [(2, .int 0), (0, .ref a1), (1, .int a2)]) (st' := [.ref a1]) (x' := x) hok hT bk_JA_fill_0_3_ok rfl ?_
  refine jm_V.alenS dd_JA_fill_3 (fun n1 => ?_)
  refine jm_V.run (is := bk_JA_fill_4_1) (pc' := 5) (ls' := [(3, .int (Int32.ofNat n1)), (2, .int 0), (0, .ref a1), (1, .int a2)]) (st' := []) (x' := x) hok hT bk_JA_fill_4_1_ok rfl ?_
  refine jm_V.sub (ls' := [(0, .ref a1), (1, .int a2), (2, .int 0), (3, .int (Int32.ofNat n1))]) [2, 3, 1, 0] rfl ?_
  exact jl_JA_fill_5 hok hrec K a1 a2 0 (Int32.ofNat n1) x
abbrev bk_B_isBlank_0_3 : List (Nat × Instr × Nat) := [(0, .iload_n 0, 1), (1, .bipush 32, 2), (3, .if_icmp .eq 21, 3)]
theorem bk_B_isBlank_0_3_ok : jm_at mt_B_isBlank.2.1 bk_B_isBlank_0_3 = true := by decide +kernel
abbrev bk_B_isBlank_6_3 : List (Nat × Instr × Nat) := [(6, .iload_n 0, 1), (7, .bipush 9, 2), (9, .if_icmp .eq 15, 3)]
theorem bk_B_isBlank_6_3_ok : jm_at mt_B_isBlank.2.1 bk_B_isBlank_6_3 = true := by decide +kernel
abbrev bk_B_isBlank_12_3 : List (Nat × Instr × Nat) := [(12, .iload_n 0, 1), (13, .bipush 10, 2), (15, .if_icmp .eq 9, 3)]
theorem bk_B_isBlank_12_3_ok : jm_at mt_B_isBlank.2.1 bk_B_isBlank_12_3 = true := by decide +kernel
abbrev bk_B_isBlank_18_3 : List (Nat × Instr × Nat) := [(18, .iload_n 0, 1), (19, .bipush 13, 2), (21, .if_icmp .ne 7, 3)]
theorem bk_B_isBlank_18_3_ok : jm_at mt_B_isBlank.2.1 bk_B_isBlank_18_3 = true := by decide +kernel
abbrev bk_B_isBlank_28_1 : List (Nat × Instr × Nat) := [(28, .iconst 0, 1)]
theorem bk_B_isBlank_28_1_ok : jm_at mt_B_isBlank.2.1 bk_B_isBlank_28_1 = true := by decide +kernel
abbrev bk_B_isBlank_24_2 : List (Nat × Instr × Nat) := [(24, .iconst 1, 1), (25, .goto 4, 3)]
theorem bk_B_isBlank_24_2_ok : jm_at mt_B_isBlank.2.1 bk_B_isBlank_24_2 = true := by decide +kernel
theorem dd_B_isBlank_29 : decode mt_B_isBlank.2.1 29 = .ok (.ireturn, 1) := by decide +kernel
def J_B_isBlank_29 (K : Nat) (g : jm_Rec) (s0 : Int32) (x : jm_X) : Option jm_R := some (.inl (some (.int (vp_nar .boolean s0)), x))
set_option maxRecDepth 100000 in
set_option maxHeartbeats 4000000 in
theorem jj_B_isBlank_29 {l : Launch} {D : va_G} {ad : Nat → Nat} {aC : Nat → ClassId} {b0 : Nat} {K d0 : Nat} {g : jm_Rec} (hok : jm_Ok (jm_PP l D clC ad aC shC b0)) (hrec : ∀ (t : Nat) (av : List Value) (x : jm_X), jm_Con (jm_PP l D clC ad aC shC b0) (rcC t) d0 av x (g t av x)) (s0 : Int32) (x : jm_X) : jm_V (jm_PP l D clC ad aC shC b0) mt_B_isBlank (d0 + 1) 29 [] [.int s0] x (J_B_isBlank_29 K g s0 x) := by
  have hT := tk_B (l := l) (D := D) (ad := ad) (aC := aC) (b0 := b0)
  unfold J_B_isBlank_29
  exact jm_V.nret (t := .boolean) rfl rfl dd_B_isBlank_29
def J_B_isBlank_24 (K : Nat) (g : jm_Rec)  (x : jm_X) : Option jm_R := J_B_isBlank_29 K g 1 x
set_option maxRecDepth 100000 in
set_option maxHeartbeats 4000000 in
theorem jj_B_isBlank_24 {l : Launch} {D : va_G} {ad : Nat → Nat} {aC : Nat → ClassId} {b0 : Nat} {K d0 : Nat} {g : jm_Rec} (hok : jm_Ok (jm_PP l D clC ad aC shC b0)) (hrec : ∀ (t : Nat) (av : List Value) (x : jm_X), jm_Con (jm_PP l D clC ad aC shC b0) (rcC t) d0 av x (g t av x))  (x : jm_X) : jm_V (jm_PP l D clC ad aC shC b0) mt_B_isBlank (d0 + 1) 24 [] [] x (J_B_isBlank_24 K g  x) := by
  have hT := tk_B (l := l) (D := D) (ad := ad) (aC := aC) (b0 := b0)
  unfold J_B_isBlank_24
  refine jm_V.run (is := bk_B_isBlank_24_2) (pc' := 29) (ls' := []) (st' := [.int 1]) (x' := x) hok hT bk_B_isBlank_24_2_ok rfl ?_
  exact jj_B_isBlank_29 hok hrec 1 x
def f_B_isBlank (K : Nat) (g : jm_Rec) (a1 : Int32) (x : jm_X) : Option jm_R := (if a1 = 32 then J_B_isBlank_24 K g x else (if a1 = 9 then J_B_isBlank_24 K g x else (if a1 = 10 then J_B_isBlank_24 K g x else (if a1 = 13 then J_B_isBlank_24 K g x else J_B_isBlank_29 K g 0 x))))
set_option maxRecDepth 100000 in
set_option maxHeartbeats 4000000 in
theorem c_B_isBlank {l : Launch} {D : va_G} {ad : Nat → Nat} {aC : Nat → ClassId} {b0 : Nat} {K d0 : Nat} {g : jm_Rec} (hok : jm_Ok (jm_PP l D clC ad aC shC b0)) (hrec : ∀ (t : Nat) (av : List Value) (x : jm_X), jm_Con (jm_PP l D clC ad aC shC b0) (rcC t) d0 av x (g t av x)) (a1 : Int32) (x : jm_X) : jm_Con (jm_PP l D clC ad aC shC b0) mt_B_isBlank (d0 + 1) [.int a1] x (f_B_isBlank K g a1 x) := by
  refine jm_Con.of (plainFor_of_name (by decide +kernel)) (Nat.le_of_ble_eq_true rfl) ?_
  have hT := tk_B (l := l) (D := D) (ad := ad) (aC := aC) (b0 := b0)
  unfold f_B_isBlank
  show jm_V _ _ _ 0 [(0, .int a1)] [] x _
  refine jm_V.run (is := bk_B_isBlank_0_3) (pc' := (if a1 = 32 then 24 else 6)) (ls' := [(0, .int a1)]) (st' := []) (x' := x) hok hT bk_B_isBlank_0_3_ok rfl ?_
  refine jm_V.ite (fun _ => ?_) (fun _ => ?_)
  · refine jm_V.sub (ls' := []) [] rfl ?_
    exact jj_B_isBlank_24 hok hrec x
  · refine jm_V.run (is := bk_B_isBlank_6_3) (pc' := (if a1 = 9 then 24 else 12)) (ls' := [(0, .int a1)]) (st' := []) (x' := x) hok hT bk_B_isBlank_6_3_ok rfl ?_
    refine jm_V.ite (fun _ => ?_) (fun _ => ?_)
    · refine jm_V.sub (ls' := []) [] rfl ?_
      exact jj_B_isBlank_24 hok hrec x
    · refine jm_V.run (is := bk_B_isBlank_12_3) (pc' := (if a1 = 10 then 24 else 18)) (ls' := [(0, .int a1)]) (st' := []) (x' := x) hok hT bk_B_isBlank_12_3_ok rfl ?_
      refine jm_V.ite (fun _ => ?_) (fun _ => ?_)
      · refine jm_V.sub (ls' := []) [] rfl ?_
        exact jj_B_isBlank_24 hok hrec x
      · refine jm_V.run (is := bk_B_isBlank_18_3) (pc' := (if a1 = 13 then 24 else 28)) (ls' := [(0, .int a1)]) (st' := []) (x' := x) hok hT bk_B_isBlank_18_3_ok rfl ?_
        refine jm_V.ite (fun _ => ?_) (fun _ => ?_)
        · refine jm_V.sub (ls' := []) [] rfl ?_
          exact jj_B_isBlank_24 hok hrec x
        · refine jm_V.run (is := bk_B_isBlank_28_1) (pc' := 29) (ls' := [(0, .int a1)]) (st' := [.int 0]) (x' := x) hok hT bk_B_isBlank_28_1_ok rfl ?_
          refine jm_V.sub (ls' := []) [] rfl ?_
          exact jj_B_isBlank_29 hok hrec 0 x
abbrev bk_B_isDigit_0_3 : List (Nat × Instr × Nat) := [(0, .iload_n 0, 1), (1, .bipush 48, 2), (3, .if_icmp .lt 13, 3)]
theorem bk_B_isDigit_0_3_ok : jm_at mt_B_isDigit.2.1 bk_B_isDigit_0_3 = true := by decide +kernel
abbrev bk_B_isDigit_6_3 : List (Nat × Instr × Nat) := [(6, .iload_n 0, 1), (7, .bipush 57, 2), (9, .if_icmp .gt 7, 3)]
theorem bk_B_isDigit_6_3_ok : jm_at mt_B_isDigit.2.1 bk_B_isDigit_6_3 = true := by decide +kernel
abbrev bk_B_isDigit_12_2 : List (Nat × Instr × Nat) := [(12, .iconst 1, 1), (13, .goto 4, 3)]
theorem bk_B_isDigit_12_2_ok : jm_at mt_B_isDigit.2.1 bk_B_isDigit_12_2 = true := by decide +kernel
abbrev bk_B_isDigit_16_1 : List (Nat × Instr × Nat) := [(16, .iconst 0, 1)]
theorem bk_B_isDigit_16_1_ok : jm_at mt_B_isDigit.2.1 bk_B_isDigit_16_1 = true := by decide +kernel
theorem dd_B_isDigit_17 : decode mt_B_isDigit.2.1 17 = .ok (.ireturn, 1) := by decide +kernel
def J_B_isDigit_17 (K : Nat) (g : jm_Rec) (s0 : Int32) (x : jm_X) : Option jm_R := some (.inl (some (.int (vp_nar .boolean s0)), x))
set_option maxRecDepth 100000 in
set_option maxHeartbeats 4000000 in
theorem jj_B_isDigit_17 {l : Launch} {D : va_G} {ad : Nat → Nat} {aC : Nat → ClassId} {b0 : Nat} {K d0 : Nat} {g : jm_Rec} (hok : jm_Ok (jm_PP l D clC ad aC shC b0)) (hrec : ∀ (t : Nat) (av : List Value) (x : jm_X), jm_Con (jm_PP l D clC ad aC shC b0) (rcC t) d0 av x (g t av x)) (s0 : Int32) (x : jm_X) : jm_V (jm_PP l D clC ad aC shC b0) mt_B_isDigit (d0 + 1) 17 [] [.int s0] x (J_B_isDigit_17 K g s0 x) := by
  have hT := tk_B (l := l) (D := D) (ad := ad) (aC := aC) (b0 := b0)
  unfold J_B_isDigit_17
  exact jm_V.nret (t := .boolean) rfl rfl dd_B_isDigit_17
def J_B_isDigit_16 (K : Nat) (g : jm_Rec)  (x : jm_X) : Option jm_R := J_B_isDigit_17 K g 0 x
set_option maxRecDepth 100000 in
set_option maxHeartbeats 4000000 in
theorem jj_B_isDigit_16 {l : Launch} {D : va_G} {ad : Nat → Nat} {aC : Nat → ClassId} {b0 : Nat} {K d0 : Nat} {g : jm_Rec} (hok : jm_Ok (jm_PP l D clC ad aC shC b0)) (hrec : ∀ (t : Nat) (av : List Value) (x : jm_X), jm_Con (jm_PP l D clC ad aC shC b0) (rcC t) d0 av x (g t av x))  (x : jm_X) : jm_V (jm_PP l D clC ad aC shC b0) mt_B_isDigit (d0 + 1) 16 [] [] x (J_B_isDigit_16 K g  x) := by
  have hT := tk_B (l := l) (D := D) (ad := ad) (aC := aC) (b0 := b0)
  unfold J_B_isDigit_16
  refine jm_V.run (is := bk_B_isDigit_16_1) (pc' := 17) (ls' := []) (st' := [.int 0]) (x' := x) hok hT bk_B_isDigit_16_1_ok rfl ?_
  exact jj_B_isDigit_17 hok hrec 0 x
def f_B_isDigit (K : Nat) (g : jm_Rec) (a1 : Int32) (x : jm_X) : Option jm_R := (if a1 < 48 then J_B_isDigit_16 K g x else (if 57 < a1 then J_B_isDigit_16 K g x else J_B_isDigit_17 K g 1 x))
set_option maxRecDepth 100000 in
set_option maxHeartbeats 4000000 in
theorem c_B_isDigit {l : Launch} {D : va_G} {ad : Nat → Nat} {aC : Nat → ClassId} {b0 : Nat} {K d0 : Nat} {g : jm_Rec} (hok : jm_Ok (jm_PP l D clC ad aC shC b0)) (hrec : ∀ (t : Nat) (av : List Value) (x : jm_X), jm_Con (jm_PP l D clC ad aC shC b0) (rcC t) d0 av x (g t av x)) (a1 : Int32) (x : jm_X) : jm_Con (jm_PP l D clC ad aC shC b0) mt_B_isDigit (d0 + 1) [.int a1] x (f_B_isDigit K g a1 x) := by
  refine jm_Con.of (plainFor_of_name (by decide +kernel)) (Nat.le_of_ble_eq_true rfl) ?_
  have hT := tk_B (l := l) (D := D) (ad := ad) (aC := aC) (b0 := b0)
  unfold f_B_isDigit
  show jm_V _ _ _ 0 [(0, .int a1)] [] x _
  refine jm_V.run (is := bk_B_isDigit_0_3) (pc' := (if a1 < 48 then 16 else 6)) (ls' := [(0, .int a1)]) (st' := []) (x' := x) hok hT bk_B_isDigit_0_3_ok rfl ?_
  refine jm_V.ite (fun _ => ?_) (fun _ => ?_)
  · refine jm_V.sub (ls' := []) [] rfl ?_
    exact jj_B_isDigit_16 hok hrec x
  · refine jm_V.run (is := bk_B_isDigit_6_3) (pc' := (if 57 < a1 then 16 else 12)) (ls' := [(0, .int a1)]) (st' := []) (x' := x) hok hT bk_B_isDigit_6_3_ok rfl ?_
    refine jm_V.ite (fun _ => ?_) (fun _ => ?_)
    · refine jm_V.sub (ls' := []) [] rfl ?_
      exact jj_B_isDigit_16 hok hrec x
    · refine jm_V.run (is := bk_B_isDigit_12_2) (pc' := 17) (ls' := [(0, .int a1)]) (st' := [.int 1]) (x' := x) hok hT bk_B_isDigit_12_2_ok rfl ?_
      refine jm_V.sub (ls' := []) [] rfl ?_
      exact jj_B_isDigit_17 hok hrec 1 x
abbrev bk_B_startsName_0_3 : List (Nat × Instr × Nat) := [(0, .iload_n 0, 1), (1, .bipush 97, 2), (3, .if_icmp .lt 9, 3)]
theorem bk_B_startsName_0_3_ok : jm_at mt_B_startsName.2.1 bk_B_startsName_0_3 = true := by decide +kernel
abbrev bk_B_startsName_6_3 : List (Nat × Instr × Nat) := [(6, .iload_n 0, 1), (7, .bipush 122, 2), (9, .if_icmp .le 21, 3)]
theorem bk_B_startsName_6_3_ok : jm_at mt_B_startsName.2.1 bk_B_startsName_6_3 = true := by decide +kernel
abbrev bk_B_startsName_12_3 : List (Nat × Instr × Nat) := [(12, .iload_n 0, 1), (13, .bipush 65, 2), (15, .if_icmp .lt 9, 3)]
theorem bk_B_startsName_12_3_ok : jm_at mt_B_startsName.2.1 bk_B_startsName_12_3 = true := by decide +kernel
abbrev bk_B_startsName_18_3 : List (Nat × Instr × Nat) := [(18, .iload_n 0, 1), (19, .bipush 90, 2), (21, .if_icmp .le 9, 3)]
theorem bk_B_startsName_18_3_ok : jm_at mt_B_startsName.2.1 bk_B_startsName_18_3 = true := by decide +kernel
abbrev bk_B_startsName_24_3 : List (Nat × Instr × Nat) := [(24, .iload_n 0, 1), (25, .bipush 95, 2), (27, .if_icmp .ne 7, 3)]
theorem bk_B_startsName_24_3_ok : jm_at mt_B_startsName.2.1 bk_B_startsName_24_3 = true := by decide +kernel
abbrev bk_B_startsName_34_1 : List (Nat × Instr × Nat) := [(34, .iconst 0, 1)]
theorem bk_B_startsName_34_1_ok : jm_at mt_B_startsName.2.1 bk_B_startsName_34_1 = true := by decide +kernel
abbrev bk_B_startsName_30_2 : List (Nat × Instr × Nat) := [(30, .iconst 1, 1), (31, .goto 4, 3)]
theorem bk_B_startsName_30_2_ok : jm_at mt_B_startsName.2.1 bk_B_startsName_30_2 = true := by decide +kernel
theorem dd_B_startsName_35 : decode mt_B_startsName.2.1 35 = .ok (.ireturn, 1) := by decide +kernel
def J_B_startsName_35 (K : Nat) (g : jm_Rec) (s0 : Int32) (x : jm_X) : Option jm_R := some (.inl (some (.int (vp_nar .boolean s0)), x))
set_option maxRecDepth 100000 in
set_option maxHeartbeats 4000000 in
theorem jj_B_startsName_35 {l : Launch} {D : va_G} {ad : Nat → Nat} {aC : Nat → ClassId} {b0 : Nat} {K d0 : Nat} {g : jm_Rec} (hok : jm_Ok (jm_PP l D clC ad aC shC b0)) (hrec : ∀ (t : Nat) (av : List Value) (x : jm_X), jm_Con (jm_PP l D clC ad aC shC b0) (rcC t) d0 av x (g t av x)) (s0 : Int32) (x : jm_X) : jm_V (jm_PP l D clC ad aC shC b0) mt_B_startsName (d0 + 1) 35 [] [.int s0] x (J_B_startsName_35 K g s0 x) := by
  have hT := tk_B (l := l) (D := D) (ad := ad) (aC := aC) (b0 := b0)
  unfold J_B_startsName_35
  exact jm_V.nret (t := .boolean) rfl rfl dd_B_startsName_35
def J_B_startsName_30 (K : Nat) (g : jm_Rec)  (x : jm_X) : Option jm_R := J_B_startsName_35 K g 1 x
set_option maxRecDepth 100000 in
set_option maxHeartbeats 4000000 in
theorem jj_B_startsName_30 {l : Launch} {D : va_G} {ad : Nat → Nat} {aC : Nat → ClassId} {b0 : Nat} {K d0 : Nat} {g : jm_Rec} (hok : jm_Ok (jm_PP l D clC ad aC shC b0)) (hrec : ∀ (t : Nat) (av : List Value) (x : jm_X), jm_Con (jm_PP l D clC ad aC shC b0) (rcC t) d0 av x (g t av x))  (x : jm_X) : jm_V (jm_PP l D clC ad aC shC b0) mt_B_startsName (d0 + 1) 30 [] [] x (J_B_startsName_30 K g  x) := by
  have hT := tk_B (l := l) (D := D) (ad := ad) (aC := aC) (b0 := b0)
  unfold J_B_startsName_30
  refine jm_V.run (is := bk_B_startsName_30_2) (pc' := 35) (ls' := []) (st' := [.int 1]) (x' := x) hok hT bk_B_startsName_30_2_ok rfl ?_
  exact jj_B_startsName_35 hok hrec 1 x
def J_B_startsName_24 (K : Nat) (g : jm_Rec) (v0 : Int32) (x : jm_X) : Option jm_R := (if v0 = 95 then J_B_startsName_30 K g x else J_B_startsName_35 K g 0 x)
set_option maxRecDepth 100000 in
set_option maxHeartbeats 4000000 in
theorem jj_B_startsName_24 {l : Launch} {D : va_G} {ad : Nat → Nat} {aC : Nat → ClassId} {b0 : Nat} {K d0 : Nat} {g : jm_Rec} (hok : jm_Ok (jm_PP l D clC ad aC shC b0)) (hrec : ∀ (t : Nat) (av : List Value) (x : jm_X), jm_Con (jm_PP l D clC ad aC shC b0) (rcC t) d0 av x (g t av x)) (v0 : Int32) (x : jm_X) : jm_V (jm_PP l D clC ad aC shC b0) mt_B_startsName (d0 + 1) 24 [(0, .int v0)] [] x (J_B_startsName_24 K g v0 x) := by
  have hT := tk_B (l := l) (D := D) (ad := ad) (aC := aC) (b0 := b0)
  unfold J_B_startsName_24
  refine jm_V.run (is := bk_B_startsName_24_3) (pc' := (if v0 = 95 then 30 else 34)) (ls' := [(0, .int v0)]) (st' := []) (x' := x) hok hT bk_B_startsName_24_3_ok rfl ?_
  refine jm_V.ite (fun _ => ?_) (fun _ => ?_)
  · refine jm_V.sub (ls' := []) [] rfl ?_
    exact jj_B_startsName_30 hok hrec x
  · refine jm_V.run (is := bk_B_startsName_34_1) (pc' := 35) (ls' := [(0, .int v0)]) (st' := [.int 0]) (x' := x) hok hT bk_B_startsName_34_1_ok rfl ?_
    refine jm_V.sub (ls' := []) [] rfl ?_
    exact jj_B_startsName_35 hok hrec 0 x
def J_B_startsName_12 (K : Nat) (g : jm_Rec) (v0 : Int32) (x : jm_X) : Option jm_R := (if v0 < 65 then J_B_startsName_24 K g v0 x else (if v0 ≤ 90 then J_B_startsName_30 K g x else J_B_startsName_24 K g v0 x))
set_option maxRecDepth 100000 in
set_option maxHeartbeats 4000000 in
theorem jj_B_startsName_12 {l : Launch} {D : va_G} {ad : Nat → Nat} {aC : Nat → ClassId} {b0 : Nat} {K d0 : Nat} {g : jm_Rec} (hok : jm_Ok (jm_PP l D clC ad aC shC b0)) (hrec : ∀ (t : Nat) (av : List Value) (x : jm_X), jm_Con (jm_PP l D clC ad aC shC b0) (rcC t) d0 av x (g t av x)) (v0 : Int32) (x : jm_X) : jm_V (jm_PP l D clC ad aC shC b0) mt_B_startsName (d0 + 1) 12 [(0, .int v0)] [] x (J_B_startsName_12 K g v0 x) := by
  have hT := tk_B (l := l) (D := D) (ad := ad) (aC := aC) (b0 := b0)
  unfold J_B_startsName_12
  refine jm_V.run (is := bk_B_startsName_12_3) (pc' := (if v0 < 65 then 24 else 18)) (ls' := [(0, .int v0)]) (st' := []) (x' := x) hok hT bk_B_startsName_12_3_ok rfl ?_
  refine jm_V.ite (fun _ => ?_) (fun _ => ?_)
  · exact jj_B_startsName_24 hok hrec v0 x
  · refine jm_V.run (is := bk_B_startsName_18_3) (pc' := (if v0 ≤ 90 then 30 else 24)) (ls' := [(0, .int v0)]) (st' := []) (x' := x) hok hT bk_B_startsName_18_3_ok rfl ?_
    refine jm_V.ite (fun _ => ?_) (fun _ => ?_)
    · refine jm_V.sub (ls' := []) [] rfl ?_
      exact jj_B_startsName_30 hok hrec x
    · exact jj_B_startsName_24 hok hrec v0 x
def f_B_startsName (K : Nat) (g : jm_Rec) (a1 : Int32) (x : jm_X) : Option jm_R := (if a1 < 97 then J_B_startsName_12 K g a1 x else (if a1 ≤ 122 then J_B_startsName_30 K g x else J_B_startsName_12 K g a1 x))
set_option maxRecDepth 100000 in
set_option maxHeartbeats 4000000 in
theorem c_B_startsName {l : Launch} {D : va_G} {ad : Nat → Nat} {aC : Nat → ClassId} {b0 : Nat} {K d0 : Nat} {g : jm_Rec} (hok : jm_Ok (jm_PP l D clC ad aC shC b0)) (hrec : ∀ (t : Nat) (av : List Value) (x : jm_X), jm_Con (jm_PP l D clC ad aC shC b0) (rcC t) d0 av x (g t av x)) (a1 : Int32) (x : jm_X) : jm_Con (jm_PP l D clC ad aC shC b0) mt_B_startsName (d0 + 1) [.int a1] x (f_B_startsName K g a1 x) := by
  refine jm_Con.of (plainFor_of_name (by decide +kernel)) (Nat.le_of_ble_eq_true rfl) ?_
  have hT := tk_B (l := l) (D := D) (ad := ad) (aC := aC) (b0 := b0)
  unfold f_B_startsName
  show jm_V _ _ _ 0 [(0, .int a1)] [] x _
  refine jm_V.run (is := bk_B_startsName_0_3) (pc' := (if a1 < 97 then 12 else 6)) (ls' := [(0, .int a1)]) (st' := []) (x' := x) hok hT bk_B_startsName_0_3_ok rfl ?_
  refine jm_V.ite (fun _ => ?_) (fun _ => ?_)
  · exact jj_B_startsName_12 hok hrec a1 x
  · refine jm_V.run (is := bk_B_startsName_6_3) (pc' := (if a1 ≤ 122 then 30 else 12)) (ls' := [(0, .int a1)]) (st' := []) (x' := x) hok hT bk_B_startsName_6_3_ok rfl ?_
    refine jm_V.ite (fun _ => ?_) (fun _ => ?_)
    · refine jm_V.sub (ls' := []) [] rfl ?_
      exact jj_B_startsName_30 hok hrec x
    · exact jj_B_startsName_12 hok hrec a1 x
abbrev bk_B_isOfName_0_3 : List (Nat × Instr × Nat) := [(0, .iload_n 0, 1), (1, .bipush 97, 2), (3, .if_icmp .lt 9, 3)]
theorem bk_B_isOfName_0_3_ok : jm_at mt_B_isOfName.2.1 bk_B_isOfName_0_3 = true := by decide +kernel
abbrev bk_B_isOfName_6_3 : List (Nat × Instr × Nat) := [(6, .iload_n 0, 1), (7, .bipush 122, 2), (9, .if_icmp .le 33, 3)]
theorem bk_B_isOfName_6_3_ok : jm_at mt_B_isOfName.2.1 bk_B_isOfName_6_3 = true := by decide +kernel
abbrev bk_B_isOfName_12_3 : List (Nat × Instr × Nat) := [(12, .iload_n 0, 1), (13, .bipush 65, 2), (15, .if_icmp .lt 9, 3)]
theorem bk_B_isOfName_12_3_ok : jm_at mt_B_isOfName.2.1 bk_B_isOfName_12_3 = true := by decide +kernel
abbrev bk_B_isOfName_18_3 : List (Nat × Instr × Nat) := [(18, .iload_n 0, 1), (19, .bipush 90, 2), (21, .if_icmp .le 21, 3)]
theorem bk_B_isOfName_18_3_ok : jm_at mt_B_isOfName.2.1 bk_B_isOfName_18_3 = true := by decide +kernel
abbrev bk_B_isOfName_24_3 : List (Nat × Instr × Nat) := [(24, .iload_n 0, 1), (25, .bipush 95, 2), (27, .if_icmp .eq 15, 3)]
theorem bk_B_isOfName_24_3_ok : jm_at mt_B_isOfName.2.1 bk_B_isOfName_24_3 = true := by decide +kernel
abbrev bk_B_isOfName_30_3 : List (Nat × Instr × Nat) := [(30, .iload_n 0, 1), (31, .bipush 48, 2), (33, .if_icmp .lt 13, 3)]
theorem bk_B_isOfName_30_3_ok : jm_at mt_B_isOfName.2.1 bk_B_isOfName_30_3 = true := by decide +kernel
abbrev bk_B_isOfName_36_3 : List (Nat × Instr × Nat) := [(36, .iload_n 0, 1), (37, .bipush 57, 2), (39, .if_icmp .gt 7, 3)]
theorem bk_B_isOfName_36_3_ok : jm_at mt_B_isOfName.2.1 bk_B_isOfName_36_3 = true := by decide +kernel
abbrev bk_B_isOfName_42_2 : List (Nat × Instr × Nat) := [(42, .iconst 1, 1), (43, .goto 4, 3)]
theorem bk_B_isOfName_42_2_ok : jm_at mt_B_isOfName.2.1 bk_B_isOfName_42_2 = true := by decide +kernel
abbrev bk_B_isOfName_46_1 : List (Nat × Instr × Nat) := [(46, .iconst 0, 1)]
theorem bk_B_isOfName_46_1_ok : jm_at mt_B_isOfName.2.1 bk_B_isOfName_46_1 = true := by decide +kernel
theorem dd_B_isOfName_47 : decode mt_B_isOfName.2.1 47 = .ok (.ireturn, 1) := by decide +kernel
def J_B_isOfName_47 (K : Nat) (g : jm_Rec) (s0 : Int32) (x : jm_X) : Option jm_R := some (.inl (some (.int (vp_nar .boolean s0)), x))
set_option maxRecDepth 100000 in
set_option maxHeartbeats 4000000 in
theorem jj_B_isOfName_47 {l : Launch} {D : va_G} {ad : Nat → Nat} {aC : Nat → ClassId} {b0 : Nat} {K d0 : Nat} {g : jm_Rec} (hok : jm_Ok (jm_PP l D clC ad aC shC b0)) (hrec : ∀ (t : Nat) (av : List Value) (x : jm_X), jm_Con (jm_PP l D clC ad aC shC b0) (rcC t) d0 av x (g t av x)) (s0 : Int32) (x : jm_X) : jm_V (jm_PP l D clC ad aC shC b0) mt_B_isOfName (d0 + 1) 47 [] [.int s0] x (J_B_isOfName_47 K g s0 x) := by
  have hT := tk_B (l := l) (D := D) (ad := ad) (aC := aC) (b0 := b0)
  unfold J_B_isOfName_47
  exact jm_V.nret (t := .boolean) rfl rfl dd_B_isOfName_47
def J_B_isOfName_42 (K : Nat) (g : jm_Rec)  (x : jm_X) : Option jm_R := J_B_isOfName_47 K g 1 x
set_option maxRecDepth 100000 in
set_option maxHeartbeats 4000000 in
theorem jj_B_isOfName_42 {l : Launch} {D : va_G} {ad : Nat → Nat} {aC : Nat → ClassId} {b0 : Nat} {K d0 : Nat} {g : jm_Rec} (hok : jm_Ok (jm_PP l D clC ad aC shC b0)) (hrec : ∀ (t : Nat) (av : List Value) (x : jm_X), jm_Con (jm_PP l D clC ad aC shC b0) (rcC t) d0 av x (g t av x))  (x : jm_X) : jm_V (jm_PP l D clC ad aC shC b0) mt_B_isOfName (d0 + 1) 42 [] [] x (J_B_isOfName_42 K g  x) := by
  have hT := tk_B (l := l) (D := D) (ad := ad) (aC := aC) (b0 := b0)
  unfold J_B_isOfName_42
  refine jm_V.run (is := bk_B_isOfName_42_2) (pc' := 47) (ls' := []) (st' := [.int 1]) (x' := x) hok hT bk_B_isOfName_42_2_ok rfl ?_
  exact jj_B_isOfName_47 hok hrec 1 x
def J_B_isOfName_46 (K : Nat) (g : jm_Rec)  (x : jm_X) : Option jm_R := J_B_isOfName_47 K g 0 x
set_option maxRecDepth 100000 in
set_option maxHeartbeats 4000000 in
theorem jj_B_isOfName_46 {l : Launch} {D : va_G} {ad : Nat → Nat} {aC : Nat → ClassId} {b0 : Nat} {K d0 : Nat} {g : jm_Rec} (hok : jm_Ok (jm_PP l D clC ad aC shC b0)) (hrec : ∀ (t : Nat) (av : List Value) (x : jm_X), jm_Con (jm_PP l D clC ad aC shC b0) (rcC t) d0 av x (g t av x))  (x : jm_X) : jm_V (jm_PP l D clC ad aC shC b0) mt_B_isOfName (d0 + 1) 46 [] [] x (J_B_isOfName_46 K g  x) := by
  have hT := tk_B (l := l) (D := D) (ad := ad) (aC := aC) (b0 := b0)
  unfold J_B_isOfName_46
  refine jm_V.run (is := bk_B_isOfName_46_1) (pc' := 47) (ls' := []) (st' := [.int 0]) (x' := x) hok hT bk_B_isOfName_46_1_ok rfl ?_
  exact jj_B_isOfName_47 hok hrec 0 x
def J_B_isOfName_24 (K : Nat) (g : jm_Rec) (v0 : Int32) (x : jm_X) : Option jm_R := (if v0 = 95 then J_B_isOfName_42 K g x else (if v0 < 48 then J_B_isOfName_46 K g x else (if 57 < v0 then J_B_isOfName_46 K g x else J_B_isOfName_42 K g x)))
set_option maxRecDepth 100000 in
set_option maxHeartbeats 4000000 in
theorem jj_B_isOfName_24 {l : Launch} {D : va_G} {ad : Nat → Nat} {aC : Nat → ClassId} {b0 : Nat} {K d0 : Nat} {g : jm_Rec} (hok : jm_Ok (jm_PP l D clC ad aC shC b0)) (hrec : ∀ (t : Nat) (av : List Value) (x : jm_X), jm_Con (jm_PP l D clC ad aC shC b0) (rcC t) d0 av x (g t av x)) (v0 : Int32) (x : jm_X) : jm_V (jm_PP l D clC ad aC shC b0) mt_B_isOfName (d0 + 1) 24 [(0, .int v0)] [] x (J_B_isOfName_24 K g v0 x) := by
  have hT := tk_B (l := l) (D := D) (ad := ad) (aC := aC) (b0 := b0)
  unfold J_B_isOfName_24
  refine jm_V.run (is := bk_B_isOfName_24_3) (pc' := (if v0 = 95 then 42 else 30)) (ls' := [(0, .int v0)]) (st' := []) (x' := x) hok hT bk_B_isOfName_24_3_ok rfl ?_
  refine jm_V.ite (fun _ => ?_) (fun _ => ?_)
  · refine jm_V.sub (ls' := []) [] rfl ?_
    exact jj_B_isOfName_42 hok hrec x
  · refine jm_V.run (is := bk_B_isOfName_30_3) (pc' := (if v0 < 48 then 46 else 36)) (ls' := [(0, .int v0)]) (st' := []) (x' := x) hok hT bk_B_isOfName_30_3_ok rfl ?_
    refine jm_V.ite (fun _ => ?_) (fun _ => ?_)
    · refine jm_V.sub (ls' := []) [] rfl ?_
      exact jj_B_isOfName_46 hok hrec x
    · refine jm_V.run (is := bk_B_isOfName_36_3) (pc' := (if 57 < v0 then 46 else 42)) (ls' := [(0, .int v0)]) (st' := []) (x' := x) hok hT bk_B_isOfName_36_3_ok rfl ?_
      refine jm_V.ite (fun _ => ?_) (fun _ => ?_)
      · refine jm_V.sub (ls' := []) [] rfl ?_
        exact jj_B_isOfName_46 hok hrec x
      · refine jm_V.sub (ls' := []) [] rfl ?_
        exact jj_B_isOfName_42 hok hrec x
def J_B_isOfName_12 (K : Nat) (g : jm_Rec) (v0 : Int32) (x : jm_X) : Option jm_R := (if v0 < 65 then J_B_isOfName_24 K g v0 x else (if v0 ≤ 90 then J_B_isOfName_42 K g x else J_B_isOfName_24 K g v0 x))
set_option maxRecDepth 100000 in
set_option maxHeartbeats 4000000 in
theorem jj_B_isOfName_12 {l : Launch} {D : va_G} {ad : Nat → Nat} {aC : Nat → ClassId} {b0 : Nat} {K d0 : Nat} {g : jm_Rec} (hok : jm_Ok (jm_PP l D clC ad aC shC b0)) (hrec : ∀ (t : Nat) (av : List Value) (x : jm_X), jm_Con (jm_PP l D clC ad aC shC b0) (rcC t) d0 av x (g t av x)) (v0 : Int32) (x : jm_X) : jm_V (jm_PP l D clC ad aC shC b0) mt_B_isOfName (d0 + 1) 12 [(0, .int v0)] [] x (J_B_isOfName_12 K g v0 x) := by
  have hT := tk_B (l := l) (D := D) (ad := ad) (aC := aC) (b0 := b0)
  unfold J_B_isOfName_12
  refine jm_V.run (is := bk_B_isOfName_12_3) (pc' := (if v0 < 65 then 24 else 18)) (ls' := [(0, .int v0)]) (st' := []) (x' := x) hok hT bk_B_isOfName_12_3_ok rfl ?_
  refine jm_V.ite (fun _ => ?_) (fun _ => ?_)
  · exact jj_B_isOfName_24 hok hrec v0 x
  · refine jm_V.run (is := bk_B_isOfName_18_3) (pc' := (if v0 ≤ 90 then 42 else 24)) (ls' := [(0, .int v0)]) (st' := []) (x' := x) hok hT bk_B_isOfName_18_3_ok rfl ?_
    refine jm_V.ite (fun _ => ?_) (fun _ => ?_)
    · refine jm_V.sub (ls' := []) [] rfl ?_
      exact jj_B_isOfName_42 hok hrec x
    · exact jj_B_isOfName_24 hok hrec v0 x
def f_B_isOfName (K : Nat) (g : jm_Rec) (a1 : Int32) (x : jm_X) : Option jm_R := (if a1 < 97 then J_B_isOfName_12 K g a1 x else (if a1 ≤ 122 then J_B_isOfName_42 K g x else J_B_isOfName_12 K g a1 x))
set_option maxRecDepth 100000 in
set_option maxHeartbeats 4000000 in
theorem c_B_isOfName {l : Launch} {D : va_G} {ad : Nat → Nat} {aC : Nat → ClassId} {b0 : Nat} {K d0 : Nat} {g : jm_Rec} (hok : jm_Ok (jm_PP l D clC ad aC shC b0)) (hrec : ∀ (t : Nat) (av : List Value) (x : jm_X), jm_Con (jm_PP l D clC ad aC shC b0) (rcC t) d0 av x (g t av x)) (a1 : Int32) (x : jm_X) : jm_Con (jm_PP l D clC ad aC shC b0) mt_B_isOfName (d0 + 1) [.int a1] x (f_B_isOfName K g a1 x) := by
  refine jm_Con.of (plainFor_of_name (by decide +kernel)) (Nat.le_of_ble_eq_true rfl) ?_
  have hT := tk_B (l := l) (D := D) (ad := ad) (aC := aC) (b0 := b0)
  unfold f_B_isOfName
  show jm_V _ _ _ 0 [(0, .int a1)] [] x _
  refine jm_V.run (is := bk_B_isOfName_0_3) (pc' := (if a1 < 97 then 12 else 6)) (ls' := [(0, .int a1)]) (st' := []) (x' := x) hok hT bk_B_isOfName_0_3_ok rfl ?_
  refine jm_V.ite (fun _ => ?_) (fun _ => ?_)
  · exact jj_B_isOfName_12 hok hrec a1 x
  · refine jm_V.run (is := bk_B_isOfName_6_3) (pc' := (if a1 ≤ 122 then 42 else 12)) (ls' := [(0, .int a1)]) (st' := []) (x' := x) hok hT bk_B_isOfName_6_3_ok rfl ?_
    refine jm_V.ite (fun _ => ?_) (fun _ => ?_)
    · refine jm_V.sub (ls' := []) [] rfl ?_
      exact jj_B_isOfName_42 hok hrec x
    · exact jj_B_isOfName_12 hok hrec a1 x
abbrev bk_B_isEscaped_0_3 : List (Nat × Instr × Nat) := [(0, .iload_n 0, 1), (1, .bipush 34, 2), (3, .if_icmp .eq 45, 3)]
theorem bk_B_isEscaped_0_3_ok : jm_at mt_B_isEscaped.2.1 bk_B_isEscaped_0_3 = true := by decide +kernel
abbrev bk_B_isEscaped_6_3 : List (Nat × Instr × Nat) := [(6, .iload_n 0, 1), (7, .bipush 92, 2), (9, .if_icmp .eq 39, 3)]
theorem bk_B_isEscaped_6_3_ok : jm_at mt_B_isEscaped.2.1 bk_B_isEscaped_6_3 = true := by decide +kernel
abbrev bk_B_isEscaped_12_3 : List (Nat × Instr × Nat) := [(12, .iload_n 0, 1), (13, .bipush 47, 2), (15, .if_icmp .eq 33, 3)]
theorem bk_B_isEscaped_12_3_ok : jm_at mt_B_isEscaped.2.1 bk_B_isEscaped_12_3 = true := by decide +kernel
abbrev bk_B_isEscaped_18_3 : List (Nat × Instr × Nat) := [(18, .iload_n 0, 1), (19, .bipush 98, 2), (21, .if_icmp .eq 27, 3)]
theorem bk_B_isEscaped_18_3_ok : jm_at mt_B_isEscaped.2.1 bk_B_isEscaped_18_3 = true := by decide +kernel
abbrev bk_B_isEscaped_24_3 : List (Nat × Instr × Nat) := [(24, .iload_n 0, 1), (25, .bipush 102, 2), (27, .if_icmp .eq 21, 3)]
theorem bk_B_isEscaped_24_3_ok : jm_at mt_B_isEscaped.2.1 bk_B_isEscaped_24_3 = true := by decide +kernel
abbrev bk_B_isEscaped_30_3 : List (Nat × Instr × Nat) := [(30, .iload_n 0, 1), (31, .bipush 110, 2), (33, .if_icmp .eq 15, 3)]
theorem bk_B_isEscaped_30_3_ok : jm_at mt_B_isEscaped.2.1 bk_B_isEscaped_30_3 = true := by decide +kernel
abbrev bk_B_isEscaped_36_3 : List (Nat × Instr × Nat) := [(36, .iload_n 0, 1), (37, .bipush 114, 2), (39, .if_icmp .eq 9, 3)]
theorem bk_B_isEscaped_36_3_ok : jm_at mt_B_isEscaped.2.1 bk_B_isEscaped_36_3 = true := by decide +kernel
abbrev bk_B_isEscaped_42_3 : List (Nat × Instr × Nat) := [(42, .iload_n 0, 1), (43, .bipush 116, 2), (45, .if_icmp .ne 7, 3)]
theorem bk_B_isEscaped_42_3_ok : jm_at mt_B_isEscaped.2.1 bk_B_isEscaped_42_3 = true := by decide +kernel
abbrev bk_B_isEscaped_52_1 : List (Nat × Instr × Nat) := [(52, .iconst 0, 1)]
theorem bk_B_isEscaped_52_1_ok : jm_at mt_B_isEscaped.2.1 bk_B_isEscaped_52_1 = true := by decide +kernel
abbrev bk_B_isEscaped_48_2 : List (Nat × Instr × Nat) := [(48, .iconst 1, 1), (49, .goto 4, 3)]
theorem bk_B_isEscaped_48_2_ok : jm_at mt_B_isEscaped.2.1 bk_B_isEscaped_48_2 = true := by decide +kernel
theorem dd_B_isEscaped_53 : decode mt_B_isEscaped.2.1 53 = .ok (.ireturn, 1) := by decide +kernel
def J_B_isEscaped_53 (K : Nat) (g : jm_Rec) (s0 : Int32) (x : jm_X) : Option jm_R := some (.inl (some (.int (vp_nar .boolean s0)), x))
set_option maxRecDepth 100000 in
set_option maxHeartbeats 4000000 in
theorem jj_B_isEscaped_53 {l : Launch} {D : va_G} {ad : Nat → Nat} {aC : Nat → ClassId} {b0 : Nat} {K d0 : Nat} {g : jm_Rec} (hok : jm_Ok (jm_PP l D clC ad aC shC b0)) (hrec : ∀ (t : Nat) (av : List Value) (x : jm_X), jm_Con (jm_PP l D clC ad aC shC b0) (rcC t) d0 av x (g t av x)) (s0 : Int32) (x : jm_X) : jm_V (jm_PP l D clC ad aC shC b0) mt_B_isEscaped (d0 + 1) 53 [] [.int s0] x (J_B_isEscaped_53 K g s0 x) := by
  have hT := tk_B (l := l) (D := D) (ad := ad) (aC := aC) (b0 := b0)
  unfold J_B_isEscaped_53
  exact jm_V.nret (t := .boolean) rfl rfl dd_B_isEscaped_53
def J_B_isEscaped_48 (K : Nat) (g : jm_Rec)  (x : jm_X) : Option jm_R := J_B_isEscaped_53 K g 1 x
set_option maxRecDepth 100000 in
set_option maxHeartbeats 4000000 in
theorem jj_B_isEscaped_48 {l : Launch} {D : va_G} {ad : Nat → Nat} {aC : Nat → ClassId} {b0 : Nat} {K d0 : Nat} {g : jm_Rec} (hok : jm_Ok (jm_PP l D clC ad aC shC b0)) (hrec : ∀ (t : Nat) (av : List Value) (x : jm_X), jm_Con (jm_PP l D clC ad aC shC b0) (rcC t) d0 av x (g t av x))  (x : jm_X) : jm_V (jm_PP l D clC ad aC shC b0) mt_B_isEscaped (d0 + 1) 48 [] [] x (J_B_isEscaped_48 K g  x) := by
  have hT := tk_B (l := l) (D := D) (ad := ad) (aC := aC) (b0 := b0)
  unfold J_B_isEscaped_48
  refine jm_V.run (is := bk_B_isEscaped_48_2) (pc' := 53) (ls' := []) (st' := [.int 1]) (x' := x) hok hT bk_B_isEscaped_48_2_ok rfl ?_
  exact jj_B_isEscaped_53 hok hrec 1 x
def f_B_isEscaped (K : Nat) (g : jm_Rec) (a1 : Int32) (x : jm_X) : Option jm_R := (if a1 = 34 then J_B_isEscaped_48 K g x else (if a1 = 92 then J_B_isEscaped_48 K g x else (if a1 = 47 then J_B_isEscaped_48 K g x else (if a1 = 98 then J_B_isEscaped_48 K g x else (if a1 = 102 then J_B_isEscaped_48 K g x else (if a1 = 110 then J_B_isEscaped_48 K g x else (if a1 = 114 then J_B_isEscaped_48 K g x else (if a1 = 116 then J_B_isEscaped_48 K g x else J_B_isEscaped_53 K g 0 x))))))))
set_option maxRecDepth 100000 in
set_option maxHeartbeats 4000000 in
theorem c_B_isEscaped {l : Launch} {D : va_G} {ad : Nat → Nat} {aC : Nat → ClassId} {b0 : Nat} {K d0 : Nat} {g : jm_Rec} (hok : jm_Ok (jm_PP l D clC ad aC shC b0)) (hrec : ∀ (t : Nat) (av : List Value) (x : jm_X), jm_Con (jm_PP l D clC ad aC shC b0) (rcC t) d0 av x (g t av x)) (a1 : Int32) (x : jm_X) : jm_Con (jm_PP l D clC ad aC shC b0) mt_B_isEscaped (d0 + 1) [.int a1] x (f_B_isEscaped K g a1 x) := by
  refine jm_Con.of (plainFor_of_name (by decide +kernel)) (Nat.le_of_ble_eq_true rfl) ?_
  have hT := tk_B (l := l) (D := D) (ad := ad) (aC := aC) (b0 := b0)
  unfold f_B_isEscaped
  show jm_V _ _ _ 0 [(0, .int a1)] [] x _
  refine jm_V.run (is := bk_B_isEscaped_0_3) (pc' := (if a1 = 34 then 48 else 6)) (ls' := [(0, .int a1)]) (st' := []) (x' := x) hok hT bk_B_isEscaped_0_3_ok rfl ?_
  refine jm_V.ite (fun _ => ?_) (fun _ => ?_)
  · refine jm_V.sub (ls' := []) [] rfl ?_
    exact jj_B_isEscaped_48 hok hrec x
  · refine jm_V.run (is := bk_B_isEscaped_6_3) (pc' := (if a1 = 92 then 48 else 12)) (ls' := [(0, .int a1)]) (st' := []) (x' := x) hok hT bk_B_isEscaped_6_3_ok rfl ?_
    refine jm_V.ite (fun _ => ?_) (fun _ => ?_)
    · refine jm_V.sub (ls' := []) [] rfl ?_
      exact jj_B_isEscaped_48 hok hrec x
    · refine jm_V.run (is := bk_B_isEscaped_12_3) (pc' := (if a1 = 47 then 48 else 18)) (ls' := [(0, .int a1)]) (st' := []) (x' := x) hok hT bk_B_isEscaped_12_3_ok rfl ?_
      refine jm_V.ite (fun _ => ?_) (fun _ => ?_)
      · refine jm_V.sub (ls' := []) [] rfl ?_
        exact jj_B_isEscaped_48 hok hrec x
      · refine jm_V.run (is := bk_B_isEscaped_18_3) (pc' := (if a1 = 98 then 48 else 24)) (ls' := [(0, .int a1)]) (st' := []) (x' := x) hok hT bk_B_isEscaped_18_3_ok rfl ?_
        refine jm_V.ite (fun _ => ?_) (fun _ => ?_)
        · refine jm_V.sub (ls' := []) [] rfl ?_
          exact jj_B_isEscaped_48 hok hrec x
        · refine jm_V.run (is := bk_B_isEscaped_24_3) (pc' := (if a1 = 102 then 48 else 30)) (ls' := [(0, .int a1)]) (st' := []) (x' := x) hok hT bk_B_isEscaped_24_3_ok rfl ?_
          refine jm_V.ite (fun _ => ?_) (fun _ => ?_)
          · refine jm_V.sub (ls' := []) [] rfl ?_
            exact jj_B_isEscaped_48 hok hrec x
          · refine jm_V.run (is := bk_B_isEscaped_30_3) (pc' := (if a1 = 110 then 48 else 36)) (ls' := [(0, .int a1)]) (st' := []) (x' := x) hok hT bk_B_isEscaped_30_3_ok rfl ?_
            refine jm_V.ite (fun _ => ?_) (fun _ => ?_)
            · refine jm_V.sub (ls' := []) [] rfl ?_
              exact jj_B_isEscaped_48 hok hrec x
            · refine jm_V.run (is := bk_B_isEscaped_36_3) (pc' := (if a1 = 114 then 48 else 42)) (ls' := [(0, .int a1)]) (st' := []) (x' := x) hok hT bk_B_isEscaped_36_3_ok rfl ?_
              refine jm_V.ite (fun _ => ?_) (fun _ => ?_)
              · refine jm_V.sub (ls' := []) [] rfl ?_
                exact jj_B_isEscaped_48 hok hrec x
              · refine jm_V.run (is := bk_B_isEscaped_42_3) (pc' := (if a1 = 116 then 48 else 52)) (ls' := [(0, .int a1)]) (st' := []) (x' := x) hok hT bk_B_isEscaped_42_3_ok rfl ?_
                refine jm_V.ite (fun _ => ?_) (fun _ => ?_)
                · refine jm_V.sub (ls' := []) [] rfl ?_
                  exact jj_B_isEscaped_48 hok hrec x
                · refine jm_V.run (is := bk_B_isEscaped_52_1) (pc' := 53) (ls' := [(0, .int a1)]) (st' := [.int 0]) (x' := x) hok hT bk_B_isEscaped_52_1_ok rfl ?_
                  refine jm_V.sub (ls' := []) [] rfl ?_
                  exact jj_B_isEscaped_53 hok hrec 0 x
abbrev bk_B_hexDigit_0_1 : List (Nat × Instr × Nat) := [(0, .iload_n 0, 1)]
theorem bk_B_hexDigit_0_1_ok : jm_at mt_B_hexDigit.2.1 bk_B_hexDigit_0_1 = true := by decide +kernel
abbrev bk_B_hexDigit_4_1 : List (Nat × Instr × Nat) := [(4, .ifCond .eq 8, 3)]
theorem bk_B_hexDigit_4_1_ok : jm_at mt_B_hexDigit.2.1 bk_B_hexDigit_4_1 = true := by decide +kernel
abbrev bk_B_hexDigit_12_3 : List (Nat × Instr × Nat) := [(12, .iload_n 0, 1), (13, .bipush 97, 2), (15, .if_icmp .lt 17, 3)]
theorem bk_B_hexDigit_12_3_ok : jm_at mt_B_hexDigit.2.1 bk_B_hexDigit_12_3 = true := by decide +kernel
abbrev bk_B_hexDigit_18_3 : List (Nat × Instr × Nat) := [(18, .iload_n 0, 1), (19, .bipush 102, 2), (21, .if_icmp .gt 11, 3)]
theorem bk_B_hexDigit_18_3_ok : jm_at mt_B_hexDigit.2.1 bk_B_hexDigit_18_3 = true := by decide +kernel
abbrev bk_B_hexDigit_24_5 : List (Nat × Instr × Nat) := [(24, .iload_n 0, 1), (25, .bipush 97, 2), (27, .isub, 1), (28, .bipush 10, 2), (30, .iadd, 1)]
theorem bk_B_hexDigit_24_5_ok : jm_at mt_B_hexDigit.2.1 bk_B_hexDigit_24_5 = true := by decide +kernel
abbrev bk_B_hexDigit_7_3 : List (Nat × Instr × Nat) := [(7, .iload_n 0, 1), (8, .bipush 48, 2), (10, .isub, 1)]
theorem bk_B_hexDigit_7_3_ok : jm_at mt_B_hexDigit.2.1 bk_B_hexDigit_7_3 = true := by decide +kernel
abbrev bk_B_hexDigit_32_3 : List (Nat × Instr × Nat) := [(32, .iload_n 0, 1), (33, .bipush 65, 2), (35, .if_icmp .lt 19, 3)]
theorem bk_B_hexDigit_32_3_ok : jm_at mt_B_hexDigit.2.1 bk_B_hexDigit_32_3 = true := by decide +kernel
abbrev bk_B_hexDigit_38_3 : List (Nat × Instr × Nat) := [(38, .iload_n 0, 1), (39, .bipush 70, 2), (41, .if_icmp .gt 13, 3)]
theorem bk_B_hexDigit_38_3_ok : jm_at mt_B_hexDigit.2.1 bk_B_hexDigit_38_3 = true := by decide +kernel
abbrev bk_B_hexDigit_44_6 : List (Nat × Instr × Nat) := [(44, .iload_n 0, 1), (45, .bipush 65, 2), (47, .isub, 1), (48, .bipush 10, 2), (50, .iadd, 1), (51, .goto 4, 3)]
theorem bk_B_hexDigit_44_6_ok : jm_at mt_B_hexDigit.2.1 bk_B_hexDigit_44_6 = true := by decide +kernel
abbrev bk_B_hexDigit_54_1 : List (Nat × Instr × Nat) := [(54, .iconst (-1), 1)]
theorem bk_B_hexDigit_54_1_ok : jm_at mt_B_hexDigit.2.1 bk_B_hexDigit_54_1 = true := by decide +kernel
theorem dd_B_hexDigit_1 : decode mt_B_hexDigit.2.1 1 = .ok (.invokestatic 7, 3) := by decide +kernel
theorem dd_B_hexDigit_31 : decode mt_B_hexDigit.2.1 31 = .ok (.ireturn, 1) := by decide +kernel
theorem dd_B_hexDigit_11 : decode mt_B_hexDigit.2.1 11 = .ok (.ireturn, 1) := by decide +kernel
theorem dd_B_hexDigit_55 : decode mt_B_hexDigit.2.1 55 = .ok (.ireturn, 1) := by decide +kernel
def J_B_hexDigit_55 (K : Nat) (g : jm_Rec) (s0 : Int32) (x : jm_X) : Option jm_R := some (.inl (some (.int s0), x))
set_option maxRecDepth 100000 in
set_option maxHeartbeats 4000000 in
theorem jj_B_hexDigit_55 {l : Launch} {D : va_G} {ad : Nat → Nat} {aC : Nat → ClassId} {b0 : Nat} {K d0 : Nat} {g : jm_Rec} (hok : jm_Ok (jm_PP l D clC ad aC shC b0)) (hrec : ∀ (t : Nat) (av : List Value) (x : jm_X), jm_Con (jm_PP l D clC ad aC shC b0) (rcC t) d0 av x (g t av x)) (s0 : Int32) (x : jm_X) : jm_V (jm_PP l D clC ad aC shC b0) mt_B_hexDigit (d0 + 2) 55 [] [.int s0] x (J_B_hexDigit_55 K g s0 x) := by
  have hT := tk_B (l := l) (D := D) (ad := ad) (aC := aC) (b0 := b0)
  unfold J_B_hexDigit_55
  exact jm_V.iret rfl dd_B_hexDigit_55
def J_B_hexDigit_54 (K : Nat) (g : jm_Rec)  (x : jm_X) : Option jm_R := J_B_hexDigit_55 K g (-1) x
set_option maxRecDepth 100000 in
set_option maxHeartbeats 4000000 in
theorem jj_B_hexDigit_54 {l : Launch} {D : va_G} {ad : Nat → Nat} {aC : Nat → ClassId} {b0 : Nat} {K d0 : Nat} {g : jm_Rec} (hok : jm_Ok (jm_PP l D clC ad aC shC b0)) (hrec : ∀ (t : Nat) (av : List Value) (x : jm_X), jm_Con (jm_PP l D clC ad aC shC b0) (rcC t) d0 av x (g t av x))  (x : jm_X) : jm_V (jm_PP l D clC ad aC shC b0) mt_B_hexDigit (d0 + 2) 54 [] [] x (J_B_hexDigit_54 K g  x) := by
  have hT := tk_B (l := l) (D := D) (ad := ad) (aC := aC) (b0 := b0)
  unfold J_B_hexDigit_54
  refine jm_V.run (is := bk_B_hexDigit_54_1) (pc' := 55) (ls' := []) (st' := [.int (-1)]) (x' := x) hok hT bk_B_hexDigit_54_1_ok rfl ?_
  exact jj_B_hexDigit_55 hok hrec (-1) x
def J_B_hexDigit_32 (K : Nat) (g : jm_Rec) (v0 : Int32) (x : jm_X) : Option jm_R := (if v0 < 65 then J_B_hexDigit_54 K g x else (if 70 < v0 then J_B_hexDigit_54 K g x else J_B_hexDigit_55 K g ((v0 - 65) + 10) x))
set_option maxRecDepth 100000 in
set_option maxHeartbeats 4000000 in
theorem jj_B_hexDigit_32 {l : Launch} {D : va_G} {ad : Nat → Nat} {aC : Nat → ClassId} {b0 : Nat} {K d0 : Nat} {g : jm_Rec} (hok : jm_Ok (jm_PP l D clC ad aC shC b0)) (hrec : ∀ (t : Nat) (av : List Value) (x : jm_X), jm_Con (jm_PP l D clC ad aC shC b0) (rcC t) d0 av x (g t av x)) (v0 : Int32) (x : jm_X) : jm_V (jm_PP l D clC ad aC shC b0) mt_B_hexDigit (d0 + 2) 32 [(0, .int v0)] [] x (J_B_hexDigit_32 K g v0 x) := by
  have hT := tk_B (l := l) (D := D) (ad := ad) (aC := aC) (b0 := b0)
  unfold J_B_hexDigit_32
  refine jm_V.run (is := bk_B_hexDigit_32_3) (pc' := (if v0 < 65 then 54 else 38)) (ls' := [(0, .int v0)]) (st' := []) (x' := x) hok hT bk_B_hexDigit_32_3_ok rfl ?_
  refine jm_V.ite (fun _ => ?_) (fun _ => ?_)
  · refine jm_V.sub (ls' := []) [] rfl ?_
    exact jj_B_hexDigit_54 hok hrec x
  · refine jm_V.run (is := bk_B_hexDigit_38_3) (pc' := (if 70 < v0 then 54 else 44)) (ls' := [(0, .int v0)]) (st' := []) (x' := x) hok hT bk_B_hexDigit_38_3_ok rfl ?_
    refine jm_V.ite (fun _ => ?_) (fun _ => ?_)
    · refine jm_V.sub (ls' := []) [] rfl ?_
      exact jj_B_hexDigit_54 hok hrec x
    · refine jm_V.run (is := bk_B_hexDigit_44_6) (pc' := 55) (ls' := [(0, .int v0)]) (st' := [.int ((v0 - 65) + 10)]) (x' := x) hok hT bk_B_hexDigit_44_6_ok rfl ?_
      refine jm_V.sub (ls' := []) [] rfl ?_
      exact jj_B_hexDigit_55 hok hrec ((v0 - 65) + 10) x
def f_B_hexDigit (K : Nat) (g : jm_Rec) (a1 : Int32) (x : jm_X) : Option jm_R := jm_bI (f_B_isDigit K g a1 x) (fun b2 x1 => (if b2 = 0 then (if a1 < 97 then J_B_hexDigit_32 K g a1 x1 else (if 102 < a1 then J_B_hexDigit_32 K g a1 x1 else some (.inl (some (.int ((a1 - 97) + 10)), x1)))) else some (.inl (some (.int (a1 - 48)), x1))))
set_option maxRecDepth 100000 in
set_option maxHeartbeats 4000000 in
theorem c_B_hexDigit {l : Launch} {D : va_G} {ad : Nat → Nat} {aC : Nat → ClassId} {b0 : Nat} {K d0 : Nat} {g : jm_Rec} (hok : jm_Ok (jm_PP l D clC ad aC shC b0)) (hrec : ∀ (t : Nat) (av : List Value) (x : jm_X), jm_Con (jm_PP l D clC ad aC shC b0) (rcC t) d0 av x (g t av x)) (a1 : Int32) (x : jm_X) : jm_Con (jm_PP l D clC ad aC shC b0) mt_B_hexDigit (d0 + 2) [.int a1] x (f_B_hexDigit K g a1 x) := by
  refine jm_Con.of (plainFor_of_name (by decide +kernel)) (Nat.le_of_ble_eq_true rfl) ?_
  have hT := tk_B (l := l) (D := D) (ad := ad) (aC := aC) (b0 := b0)
  unfold f_B_hexDigit
  show jm_V _ _ _ 0 [(0, .int a1)] [] x _
  refine jm_V.run (is := bk_B_hexDigit_0_1) (pc' := 1) (ls' := [(0, .int a1)]) (st' := [.int a1]) (x' := x) hok hT bk_B_hexDigit_0_1_ok rfl ?_
  refine jm_V.callI (av := [.int a1]) (rest := []) hok (jm_Con.mono (c_B_isDigit hok hrec a1 x) (by omega)) (jm_Inv.stat dd_B_hexDigit_1 (Or.inl lk_B_7) mq_B_isDigit mi_B mw_B_isDigit mh_B_isDigit ml_B_isDigit) mw_B_isDigit mi_B (Nat.le_of_ble_eq_true rfl) (Nat.le_of_ble_eq_true rfl) (fun b2 x1 => ?_)
  refine jm_V.run (is := bk_B_hexDigit_4_1) (pc' := (if b2 = 0 then 12 else 7)) (ls' := [(0, .int a1)]) (st' := []) (x' := x1) hok hT bk_B_hexDigit_4_1_ok rfl ?_
  refine jm_V.ite (fun _ => ?_) (fun _ => ?_)
  · refine jm_V.run (is := bk_B_hexDigit_12_3) (pc' := (if a1 < 97 then 32 else 18)) (ls' := [(0, .int a1)]) (st' := []) (x' := x1) hok hT bk_B_hexDigit_12_3_ok rfl ?_
    refine jm_V.ite (fun _ => ?_) (fun _ => ?_)
    · exact jj_B_hexDigit_32 hok hrec a1 x1
    · refine jm_V.run (is := bk_B_hexDigit_18_3) (pc' := (if 102 < a1 then 32 else 24)) (ls' := [(0, .int a1)]) (st' := []) (x' := x1) hok hT bk_B_hexDigit_18_3_ok rfl ?_
      refine jm_V.ite (fun _ => ?_) (fun _ => ?_)
      · exact jj_B_hexDigit_32 hok hrec a1 x1
      · refine jm_V.run (is := bk_B_hexDigit_24_5) (pc' := 31) (ls' := [(0, .int a1)]) (st' := [.int ((a1 - 97) + 10)]) (x' := x1) hok hT bk_B_hexDigit_24_5_ok rfl ?_
        exact jm_V.iret rfl dd_B_hexDigit_31
  · refine jm_V.run (is := bk_B_hexDigit_7_3) (pc' := 11) (ls' := [(0, .int a1)]) (st' := [.int (a1 - 48)]) (x' := x1) hok hT bk_B_hexDigit_7_3_ok rfl ?_
    exact jm_V.iret rfl dd_B_hexDigit_11

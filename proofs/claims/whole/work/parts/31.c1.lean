/-! THE CLASS: methods. Printed by wip/whole/printC.py. -/
abbrev bk_JA_fill_0_3 : List (Nat × Instr × Nat) := [(0, .iconst 0, 1), (1, .istore_n 2, 1), (2, .aload_n 0, 1)]
theorem bk_JA_fill_0_3_ok : jm_at mt_JA_fill.2.1 bk_JA_fill_0_3 = true := by decide +kernel
abbrev bk_JA_fill_4_1 : List (Nat × Instr × Nat) := [(4, .istore_n 3, 1)]
theorem bk_JA_fill_4_1_ok : jm_at mt_JA_fill.2.1 bk_JA_fill_4_1 = true := by decide +kernel
abbrev bk_JA_fill_5_3 : List (Nat × Instr × Nat) := [(5, .iload_n 2, 1), (6, .iload_n 3, 1), (7, .if_icmp .ge 13, 3)]
theorem bk_JA_fill_5_3_ok : jm_at mt_JA_fill.2.1 bk_JA_fill_5_3 = true := by decide +kernel
abbrev bk_JA_fill_10_3 : List (Nat × Instr × Nat) := [(10, .aload_n 0, 1), (11, .iload_n 2, 1), (12, .iload_n 1, 1)]
theorem bk_JA_fill_10_3_ok : jm_at mt_JA_fill.2.1 bk_JA_fill_10_3 = true := by decide +kernel
abbrev bk_JA_fill_14_2 : List (Nat × Instr × Nat) := [(14, .iinc 2 1, 3), (17, .goto (-12), 3)]
theorem bk_JA_fill_14_2_ok : jm_at mt_JA_fill.2.1 bk_JA_fill_14_2 = true := by decide +kernel
theorem dd_JA_fill_3 : decode mt_JA_fill.2.1 3 = .ok (.arraylength, 1) := by decide +kernel
theorem dd_JA_fill_20 : decode mt_JA_fill.2.1 20 = .ok (.return_, 1) := by decide +kernel
theorem dd_JA_fill_13 : decode mt_JA_fill.2.1 13 = .ok (.iastore, 1) := by decide +kernel
def B_JA_fill_5 (K : Nat) (g : jm_Rec) (self : Nat → Int32 → Int32 → Int32 → jm_X → Option jm_R) (v0 : Nat) (v1 : Int32) (v2 : Int32) (v3 : Int32) (x : jm_X) : Option jm_R := (if v3 ≤ v2 then some (.inl (none, x)) else (if jm_in shC v0 .int v2 then jm_then (jm_ua x v0 v2 v1) (fun x2 => self v0 v1 (v2 + 1) v3 x2) else none))
def L_JA_fill_5 (K : Nat) (g : jm_Rec) : Nat → Nat → Int32 → Int32 → Int32 → jm_X → Option jm_R
  | 0, _, _, _, _, _ => none
  | k + 1, v0, v1, v2, v3, x => B_JA_fill_5 K g (L_JA_fill_5 K g k) v0 v1 v2 v3 x
set_option maxRecDepth 100000 in
set_option maxHeartbeats 4000000 in
theorem jb_JA_fill_5 {l : Launch} {D : va_G} {ad : Nat → Nat} {aC : Nat → ClassId} {b0 : Nat} {K d0 : Nat} {g : jm_Rec} (hok : jm_Ok (jm_PP l D clC ad aC shC b0 1)) (hrec : ∀ (t : Nat) (av : List Value) (x : jm_X), jm_Con (jm_PP l D clC ad aC shC b0 1) (rcC t) d0 av x (g t av x)) {self : Nat → Int32 → Int32 → Int32 → jm_X → Option jm_R} (hself : ∀ (v0 : Nat) (v1 : Int32) (v2 : Int32) (v3 : Int32) (x : jm_X), jm_V (jm_PP l D clC ad aC shC b0 1) mt_JA_fill (d0 + 1) 5 [(0, .ref v0), (1, .int v1), (2, .int v2), (3, .int v3)] [] x (self v0 v1 v2 v3 x)) (v0 : Nat) (v1 : Int32) (v2 : Int32) (v3 : Int32) (x : jm_X) : jm_V (jm_PP l D clC ad aC shC b0 1) mt_JA_fill (d0 + 1) 5 [(0, .ref v0), (1, .int v1), (2, .int v2), (3, .int v3)] [] x (B_JA_fill_5 K g self v0 v1 v2 v3 x) := by
  have hT := tk_JA (l := l) (D := D) (ad := ad) (aC := aC) (b0 := b0)
  unfold B_JA_fill_5
  refine jm_V.run (is := bk_JA_fill_5_3) (pc' := (if v3 ≤ v2 then 20 else 10)) (ls' := [(0, .ref v0), (1, .int v1), (2, .int v2), (3, .int v3)]) (st' := []) (x' := x) hok hT bk_JA_fill_5_3_ok rfl ?_
  refine jm_V.ite (fun _ => ?_) (fun _ => ?_)
  · exact jm_V.vret rfl dd_JA_fill_20
  · refine jm_V.run (is := bk_JA_fill_10_3) (pc' := 13) (ls' := [(0, .ref v0), (1, .int v1), (2, .int v2), (3, .int v3)]) (st' := [.int v1, .int v2, .ref v0]) (x' := x) hok hT bk_JA_fill_10_3_ok rfl ?_
    refine jm_V.iast hok dd_JA_fill_13 ?_
    refine jm_V.then_ (fun x2 => ?_)
    refine jm_V.run (is := bk_JA_fill_14_2) (pc' := 5) (ls' := [(2, .int (v2 + 1)), (0, .ref v0), (1, .int v1), (3, .int v3)]) (st' := []) (x' := x2) hok hT bk_JA_fill_14_2_ok rfl ?_
    refine jm_V.sub (ls' := [(0, .ref v0), (1, .int v1), (2, .int (v2 + 1)), (3, .int v3)]) [1, 2, 0, 3] rfl ?_
    exact hself v0 v1 (v2 + 1) v3 x2
theorem jl_JA_fill_5 {l : Launch} {D : va_G} {ad : Nat → Nat} {aC : Nat → ClassId} {b0 : Nat} {K d0 : Nat} {g : jm_Rec} (hok : jm_Ok (jm_PP l D clC ad aC shC b0 1)) (hrec : ∀ (t : Nat) (av : List Value) (x : jm_X), jm_Con (jm_PP l D clC ad aC shC b0 1) (rcC t) d0 av x (g t av x)) : ∀ (k : Nat) (v0 : Nat) (v1 : Int32) (v2 : Int32) (v3 : Int32) (x : jm_X), jm_V (jm_PP l D clC ad aC shC b0 1) mt_JA_fill (d0 + 1) 5 [(0, .ref v0), (1, .int v1), (2, .int v2), (3, .int v3)] [] x (L_JA_fill_5 K g k v0 v1 v2 v3 x)
  | 0, _, _, _, _, _ => jm_V.stuck
  | k + 1, v0, v1, v2, v3, x => jb_JA_fill_5 hok hrec (fun v0 v1 v2 v3 x => jl_JA_fill_5 hok hrec k v0 v1 v2 v3 x) v0 v1 v2 v3 x
def f_JA_fill (K : Nat) (g : jm_Rec) (a1 : Nat) (a2 : Int32) (x : jm_X) : Option jm_R := jm_oN (jm_len shC a1) (fun n1 => L_JA_fill_5 K g K a1 a2 0 (Int32.ofNat n1) x)
set_option maxRecDepth 100000 in
set_option maxHeartbeats 4000000 in
theorem c_JA_fill {l : Launch} {D : va_G} {ad : Nat → Nat} {aC : Nat → ClassId} {b0 : Nat} {K d0 : Nat} {g : jm_Rec} (hok : jm_Ok (jm_PP l D clC ad aC shC b0 1)) (hrec : ∀ (t : Nat) (av : List Value) (x : jm_X), jm_Con (jm_PP l D clC ad aC shC b0 1) (rcC t) d0 av x (g t av x)) (a1 : Nat) (a2 : Int32) (x : jm_X) : jm_Con (jm_PP l D clC ad aC shC b0 1) mt_JA_fill (d0 + 1) [.ref a1, .int a2] x (f_JA_fill K g a1 a2 x) := by
  refine jm_Con.of (plainFor_of_name (by decide +kernel)) (Nat.le_of_ble_eq_true rfl) ?_
  have hT := tk_JA (l := l) (D := D) (ad := ad) (aC := aC) (b0 := b0)
  unfold f_JA_fill
  show jm_V _ _ _ 0 [(0, .ref a1), (1, .int a2)] [] x _
  refine jm_V.run (is := bk_JA_fill_0_3) (pc' := 3) (ls' := [(2, .int 0), (0, .ref a1), (1, .int a2)]) (st' := [.ref a1]) (x' := x) hok hT bk_JA_fill_0_3_ok rfl ?_
  refine jm_V.alenS dd_JA_fill_3 (fun n1 => ?_)
  refine jm_V.run (is := bk_JA_fill_4_1) (pc' := 5) (ls' := [(3, .int (Int32.ofNat n1)), (2, .int 0), (0, .ref a1), (1, .int a2)]) (st' := []) (x' := x) hok hT bk_JA_fill_4_1_ok rfl ?_
  refine jm_V.sub (ls' := [(0, .ref a1), (1, .int a2), (2, .int 0), (3, .int (Int32.ofNat n1))]) [2, 3, 1, 0] rfl ?_
  exact jl_JA_fill_5 hok hrec K a1 a2 0 (Int32.ofNat n1) x
abbrev bk_B_isBlank_0_3 : List (Nat × Instr × Nat) := [(0, .iload_n 0, 1), (1, .bipush 32, 2), (3, .if_icmp .eq 21, 3)]
theorem bk_B_isBlank_0_3_ok : jm_at mt_B_isBlank.2.1 bk_B_isBlank_0_3 = true := by decide +kernel
abbrev bk_B_isBlank_6_3 : List (Nat × Instr × Nat) := [(6, .iload_n 0, 1), (7, .bipush 9, 2), (9, .if_icmp .eq 15, 3)]
theorem bk_B_isBlank_6_3_ok : jm_at mt_B_isBlank.2.1 bk_B_isBlank_6_3 = true := by decide +kernel
abbrev bk_B_isBlank_12_3 : List (Nat × Instr × Nat) := [(12, .iload_n 0, 1), (13, .bipush 10, 2), (15, .if_icmp .eq 9, 3)]
theorem bk_B_isBlank_12_3_ok : jm_at mt_B_isBlank.2.1 bk_B_isBlank_12_3 = true := by decide +kernel
abbrev bk_B_isBlank_18_3 : List (Nat × Instr × Nat) := [(18, .iload_n 0, 1), (19, .bipush 13, 2), (21, .if_icmp .ne 7, 3)]
theorem bk_B_isBlank_18_3_ok : jm_at mt_B_isBlank.2.1 bk_B_isBlank_18_3 = true := by decide +kernel
abbrev bk_B_isBlank_28_1 : List (Nat × Instr × Nat) := [(28, .iconst 0, 1)]
theorem bk_B_isBlank_28_1_ok : jm_at mt_B_isBlank.2.1 bk_B_isBlank_28_1 = true := by decide +kernel
abbrev bk_B_isBlank_24_2 : List (Nat × Instr × Nat) := [(24, .iconst 1, 1), (25, .goto 4, 3)]
theorem bk_B_isBlank_24_2_ok : jm_at mt_B_isBlank.2.1 bk_B_isBlank_24_2 = true := by decide +kernel
theorem dd_B_isBlank_29 : decode mt_B_isBlank.2.1 29 = .ok (.ireturn, 1) := by decide +kernel
def J_B_isBlank_29 (K : Nat) (g : jm_Rec) (s0 : Int32) (x : jm_X) : Option jm_R := some (.inl (some (.int (vp_nar .boolean s0)), x))
set_option maxRecDepth 100000 in
set_option maxHeartbeats 4000000 in
theorem jj_B_isBlank_29 {l : Launch} {D : va_G} {ad : Nat → Nat} {aC : Nat → ClassId} {b0 : Nat} {K d0 : Nat} {g : jm_Rec} (hok : jm_Ok (jm_PP l D clC ad aC shC b0 1)) (hrec : ∀ (t : Nat) (av : List Value) (x : jm_X), jm_Con (jm_PP l D clC ad aC shC b0 1) (rcC t) d0 av x (g t av x)) (s0 : Int32) (x : jm_X) : jm_V (jm_PP l D clC ad aC shC b0 1) mt_B_isBlank (d0 + 1) 29 [] [.int s0] x (J_B_isBlank_29 K g s0 x) := by
  have hT := tk_B (l := l) (D := D) (ad := ad) (aC := aC) (b0 := b0)
  unfold J_B_isBlank_29
  exact jm_V.nret (t := .boolean) rfl rfl dd_B_isBlank_29
def J_B_isBlank_24 (K : Nat) (g : jm_Rec)  (x : jm_X) : Option jm_R := J_B_isBlank_29 K g 1 x
set_option maxRecDepth 100000 in
set_option maxHeartbeats 4000000 in
theorem jj_B_isBlank_24 {l : Launch} {D : va_G} {ad : Nat → Nat} {aC : Nat → ClassId} {b0 : Nat} {K d0 : Nat} {g : jm_Rec} (hok : jm_Ok (jm_PP l D clC ad aC shC b0 1)) (hrec : ∀ (t : Nat) (av : List Value) (x : jm_X), jm_Con (jm_PP l D clC ad aC shC b0 1) (rcC t) d0 av x (g t av x))  (x : jm_X) : jm_V (jm_PP l D clC ad aC shC b0 1) mt_B_isBlank (d0 + 1) 24 [] [] x (J_B_isBlank_24 K g  x) := by
  have hT := tk_B (l := l) (D := D) (ad := ad) (aC := aC) (b0 := b0)
  unfold J_B_isBlank_24
  refine jm_V.run (is := bk_B_isBlank_24_2) (pc' := 29) (ls' := []) (st' := [.int 1]) (x' := x) hok hT bk_B_isBlank_24_2_ok rfl ?_
  exact jj_B_isBlank_29 hok hrec 1 x
def f_B_isBlank (K : Nat) (g : jm_Rec) (a1 : Int32) (x : jm_X) : Option jm_R := (if a1 = 32 then J_B_isBlank_24 K g x else (if a1 = 9 then J_B_isBlank_24 K g x else (if a1 = 10 then J_B_isBlank_24 K g x else (if a1 = 13 then J_B_isBlank_24 K g x else J_B_isBlank_29 K g 0 x))))
set_option maxRecDepth 100000 in
set_option maxHeartbeats 4000000 in
theorem c_B_isBlank {l : Launch} {D : va_G} {ad : Nat → Nat} {aC : Nat → ClassId} {b0 : Nat} {K d0 : Nat} {g : jm_Rec} (hok : jm_Ok (jm_PP l D clC ad aC shC b0 1)) (hrec : ∀ (t : Nat) (av : List Value) (x : jm_X), jm_Con (jm_PP l D clC ad aC shC b0 1) (rcC t) d0 av x (g t av x)) (a1 : Int32) (x : jm_X) : jm_Con (jm_PP l D clC ad aC shC b0 1) mt_B_isBlank (d0 + 1) [.int a1] x (f_B_isBlank K g a1 x) := by
  refine jm_Con.of (plainFor_of_name (by decide +kernel)) (Nat.le_of_ble_eq_true rfl) ?_
  have hT := tk_B (l := l) (D := D) (ad := ad) (aC := aC) (b0 := b0)
  unfold f_B_isBlank
  show jm_V _ _ _ 0 [(0, .int a1)] [] x _
  refine jm_V.run (is := bk_B_isBlank_0_3) (pc' := (if a1 = 32 then 24 else 6)) (ls' := [(0, .int a1)]) (st' := []) (x' := x) hok hT bk_B_isBlank_0_3_ok rfl ?_
  refine jm_V.ite (fun _ => ?_) (fun _ => ?_)
  · refine jm_V.sub (ls' := []) [] rfl ?_
    exact jj_B_isBlank_24 hok hrec x
  · refine jm_V.run (is := bk_B_isBlank_6_3) (pc' := (if a1 = 9 then 24 else 12)) (ls' := [(0, .int a1)]) (st' := []) (x' := x) hok hT bk_B_isBlank_6_3_ok rfl ?_
    refine jm_V.ite (fun _ => ?_) (fun _ => ?_)
    · refine jm_V.sub (ls' := []) [] rfl ?_
      exact jj_B_isBlank_24 hok hrec x
    · refine jm_V.run (is := bk_B_isBlank_12_3) (pc' := (if a1 = 10 then 24 else 18)) (ls' := [(0, .int a1)]) (st' := []) (x' := x) hok hT bk_B_isBlank_12_3_ok rfl ?_
      refine jm_V.ite (fun _ => ?_) (fun _ => ?_)
      · refine jm_V.sub (ls' := []) [] rfl ?_
        exact jj_B_isBlank_24 hok hrec x
      · refine jm_V.run (is := bk_B_isBlank_18_3) (pc' := (if a1 = 13 then 24 else 28)) (ls' := [(0, .int a1)]) (st' := []) (x' := x) hok hT bk_B_isBlank_18_3_ok rfl ?_
        refine jm_V.ite (fun _ => ?_) (fun _ => ?_)
        · refine jm_V.sub (ls' := []) [] rfl ?_
          exact jj_B_isBlank_24 hok hrec x
        · refine jm_V.run (is := bk_B_isBlank_28_1) (pc' := 29) (ls' := [(0, .int a1)]) (st' := [.int 0]) (x' := x) hok hT bk_B_isBlank_28_1_ok rfl ?_
          refine jm_V.sub (ls' := []) [] rfl ?_
          exact jj_B_isBlank_29 hok hrec 0 x
abbrev bk_B_isDigit_0_3 : List (Nat × Instr × Nat) := [(0, .iload_n 0, 1), (1, .bipush 48, 2), (3, .if_icmp .lt 13, 3)]
theorem bk_B_isDigit_0_3_ok : jm_at mt_B_isDigit.2.1 bk_B_isDigit_0_3 = true := by decide +kernel
abbrev bk_B_isDigit_6_3 : List (Nat × Instr × Nat) := [(6, .iload_n 0, 1), (7, .bipush 57, 2), (9, .if_icmp .gt 7, 3)]
theorem bk_B_isDigit_6_3_ok : jm_at mt_B_isDigit.2.1 bk_B_isDigit_6_3 = true := by decide +kernel
abbrev bk_B_isDigit_12_2 : List (Nat × Instr × Nat) := [(12, .iconst 1, 1), (13, .goto 4, 3)]
theorem bk_B_isDigit_12_2_ok : jm_at mt_B_isDigit.2.1 bk_B_isDigit_12_2 = true := by decide +kernel
abbrev bk_B_isDigit_16_1 : List (Nat × Instr × Nat) := [(16, .iconst 0, 1)]
theorem bk_B_isDigit_16_1_ok : jm_at mt_B_isDigit.2.1 bk_B_isDigit_16_1 = true := by decide +kernel
theorem dd_B_isDigit_17 : decode mt_B_isDigit.2.1 17 = .ok (.ireturn, 1) := by decide +kernel
def J_B_isDigit_17 (K : Nat) (g : jm_Rec) (s0 : Int32) (x : jm_X) : Option jm_R := some (.inl (some (.int (vp_nar .boolean s0)), x))
set_option maxRecDepth 100000 in
set_option maxHeartbeats 4000000 in
theorem jj_B_isDigit_17 {l : Launch} {D : va_G} {ad : Nat → Nat} {aC : Nat → ClassId} {b0 : Nat} {K d0 : Nat} {g : jm_Rec} (hok : jm_Ok (jm_PP l D clC ad aC shC b0 1)) (hrec : ∀ (t : Nat) (av : List Value) (x : jm_X), jm_Con (jm_PP l D clC ad aC shC b0 1) (rcC t) d0 av x (g t av x)) (s0 : Int32) (x : jm_X) : jm_V (jm_PP l D clC ad aC shC b0 1) mt_B_isDigit (d0 + 1) 17 [] [.int s0] x (J_B_isDigit_17 K g s0 x) := by
  have hT := tk_B (l := l) (D := D) (ad := ad) (aC := aC) (b0 := b0)
  unfold J_B_isDigit_17
  exact jm_V.nret (t := .boolean) rfl rfl dd_B_isDigit_17
def J_B_isDigit_16 (K : Nat) (g : jm_Rec)  (x : jm_X) : Option jm_R := J_B_isDigit_17 K g 0 x
set_option maxRecDepth 100000 in
set_option maxHeartbeats 4000000 in
theorem jj_B_isDigit_16 {l : Launch} {D : va_G} {ad : Nat → Nat} {aC : Nat → ClassId} {b0 : Nat} {K d0 : Nat} {g : jm_Rec} (hok : jm_Ok (jm_PP l D clC ad aC shC b0 1)) (hrec : ∀ (t : Nat) (av : List Value) (x : jm_X), jm_Con (jm_PP l D clC ad aC shC b0 1) (rcC t) d0 av x (g t av x))  (x : jm_X) : jm_V (jm_PP l D clC ad aC shC b0 1) mt_B_isDigit (d0 + 1) 16 [] [] x (J_B_isDigit_16 K g  x) := by
  have hT := tk_B (l := l) (D := D) (ad := ad) (aC := aC) (b0 := b0)
  unfold J_B_isDigit_16
  refine jm_V.run (is := bk_B_isDigit_16_1) (pc' := 17) (ls' := []) (st' := [.int 0]) (x' := x) hok hT bk_B_isDigit_16_1_ok rfl ?_
  exact jj_B_isDigit_17 hok hrec 0 x
def f_B_isDigit (K : Nat) (g : jm_Rec) (a1 : Int32) (x : jm_X) : Option jm_R := (if a1 < 48 then J_B_isDigit_16 K g x else (if 57 < a1 then J_B_isDigit_16 K g x else J_B_isDigit_17 K g 1 x))
set_option maxRecDepth 100000 in
set_option maxHeartbeats 4000000 in
theorem c_B_isDigit {l : Launch} {D : va_G} {ad : Nat → Nat} {aC : Nat → ClassId} {b0 : Nat} {K d0 : Nat} {g : jm_Rec} (hok : jm_Ok (jm_PP l D clC ad aC shC b0 1)) (hrec : ∀ (t : Nat) (av : List Value) (x : jm_X), jm_Con (jm_PP l D clC ad aC shC b0 1) (rcC t) d0 av x (g t av x)) (a1 : Int32) (x : jm_X) : jm_Con (jm_PP l D clC ad aC shC b0 1) mt_B_isDigit (d0 + 1) [.int a1] x (f_B_isDigit K g a1 x) := by
  refine jm_Con.of (plainFor_of_name (by decide +kernel)) (Nat.le_of_ble_eq_true rfl) ?_
  have hT := tk_B (l := l) (D := D) (ad := ad) (aC := aC) (b0 := b0)
  unfold f_B_isDigit
  show jm_V _ _ _ 0 [(0, .int a1)] [] x _
  refine jm_V.run (is := bk_B_isDigit_0_3) (pc' := (if a1 < 48 then 16 else 6)) (ls' := [(0, .int a1)]) (st' := []) (x' := x) hok hT bk_B_isDigit_0_3_ok rfl ?_
  refine jm_V.ite (fun _ => ?_) (fun _ => ?_)
  · refine jm_V.sub (ls' := []) [] rfl ?_
    exact jj_B_isDigit_16 hok hrec x
  · refine jm_V.run (is := bk_B_isDigit_6_3) (pc' := (if 57 < a1 then 16 else 12)) (ls' := [(0, .int a1)]) (st' := []) (x' := x) hok hT bk_B_isDigit_6_3_ok rfl ?_
    refine jm_V.ite (fun _ => ?_) (fun _ => ?_)
    · refine jm_V.sub (ls' := []) [] rfl ?_
      exact jj_B_isDigit_16 hok hrec x
    · refine jm_V.run (is := bk_B_isDigit_12_2) (pc' := 17) (ls' := [(0, .int a1)]) (st' := [.int 1]) (x' := x) hok hT bk_B_isDigit_12_2_ok rfl ?_
      refine jm_V.sub (ls' := []) [] rfl ?_
      exact jj_B_isDigit_17 hok hrec 1 x
abbrev bk_B_startsName_0_3 : List (Nat × Instr × Nat) := [(0, .iload_n 0, 1), (1, .bipush 97, 2), (3, .if_icmp .lt 9, 3)]
theorem bk_B_startsName_0_3_ok : jm_at mt_B_startsName.2.1 bk_B_startsName_0_3 = true := by decide +kernel
abbrev bk_B_startsName_6_3 : List (Nat × Instr × Nat) := [(6, .iload_n 0, 1), (7, .bipush 122, 2), (9, .if_icmp .le 21, 3)]
theorem bk_B_startsName_6_3_ok : jm_at mt_B_startsName.2.1 bk_B_startsName_6_3 = true := by decide +kernel
abbrev bk_B_startsName_12_3 : List (Nat × Instr × Nat) := [(12, .iload_n 0, 1), (13, .bipush 65, 2), (15, .if_icmp .lt 9, 3)]
theorem bk_B_startsName_12_3_ok : jm_at mt_B_startsName.2.1 bk_B_startsName_12_3 = true := by decide +kernel
abbrev bk_B_startsName_18_3 : List (Nat × Instr × Nat) := [(18, .iload_n 0, 1), (19, .bipush 90, 2), (21, .if_icmp .le 9, 3)]
theorem bk_B_startsName_18_3_ok : jm_at mt_B_startsName.2.1 bk_B_startsName_18_3 = true := by decide +kernel
abbrev bk_B_startsName_24_3 : List (Nat × Instr × Nat) := [(24, .iload_n 0, 1), (25, .bipush 95, 2), (27, .if_icmp .ne 7, 3)]
theorem bk_B_startsName_24_3_ok : jm_at mt_B_startsName.2.1 bk_B_startsName_24_3 = true := by decide +kernel
abbrev bk_B_startsName_34_1 : List (Nat × Instr × Nat) := [(34, .iconst 0, 1)]
theorem bk_B_startsName_34_1_ok : jm_at mt_B_startsName.2.1 bk_B_startsName_34_1 = true := by decide +kernel
abbrev bk_B_startsName_30_2 : List (Nat × Instr × Nat) := [(30, .iconst 1, 1), (31, .goto 4, 3)]
theorem bk_B_startsName_30_2_ok : jm_at mt_B_startsName.2.1 bk_B_startsName_30_2 = true := by decide +kernel
theorem dd_B_startsName_35 : decode mt_B_startsName.2.1 35 = .ok (.ireturn, 1) := by decide +kernel
def J_B_startsName_35 (K : Nat) (g : jm_Rec) (s0 : Int32) (x : jm_X) : Option jm_R := some (.inl (some (.int (vp_nar .boolean s0)), x))
set_option maxRecDepth 100000 in
set_option maxHeartbeats 4000000 in
theorem jj_B_startsName_35 {l : Launch} {D : va_G} {ad : Nat → Nat} {aC : Nat → ClassId} {b0 : Nat} {K d0 : Nat} {g : jm_Rec} (hok : jm_Ok (jm_PP l D clC ad aC shC b0 1)) (hrec : ∀ (t : Nat) (av : List Value) (x : jm_X), jm_Con (jm_PP l D clC ad aC shC b0 1) (rcC t) d0 av x (g t av x)) (s0 : Int32) (x : jm_X) : jm_V (jm_PP l D clC ad aC shC b0 1) mt_B_startsName (d0 + 1) 35 [] [.int s0] x (J_B_startsName_35 K g s0 x) := by
  have hT := tk_B (l := l) (D := D) (ad := ad) (aC := aC) (b0 := b0)
  unfold J_B_startsName_35
  exact jm_V.nret (t := .boolean) rfl rfl dd_B_startsName_35
def J_B_startsName_30 (K : Nat) (g : jm_Rec)  (x : jm_X) : Option jm_R := J_B_startsName_35 K g 1 x
set_option maxRecDepth 100000 in
set_option maxHeartbeats 4000000 in
theorem jj_B_startsName_30 {l : Launch} {D : va_G} {ad : Nat → Nat} {aC : Nat → ClassId} {b0 : Nat} {K d0 : Nat} {g : jm_Rec} (hok : jm_Ok (jm_PP l D clC ad aC shC b0 1)) (hrec : ∀ (t : Nat) (av : List Value) (x : jm_X), jm_Con (jm_PP l D clC ad aC shC b0 1) (rcC t) d0 av x (g t av x))  (x : jm_X) : jm_V (jm_PP l D clC ad aC shC b0 1) mt_B_startsName (d0 + 1) 30 [] [] x (J_B_startsName_30 K g  x) := by
  have hT := tk_B (l := l) (D := D) (ad := ad) (aC := aC) (b0 := b0)
  unfold J_B_startsName_30
  refine jm_V.run (is := bk_B_startsName_30_2) (pc' := 35) (ls' := []) (st' := [.int 1]) (x' := x) hok hT bk_B_startsName_30_2_ok rfl ?_
  exact jj_B_startsName_35 hok hrec 1 x
def J_B_startsName_24 (K : Nat) (g : jm_Rec) (v0 : Int32) (x : jm_X) : Option jm_R := (if v0 = 95 then J_B_startsName_30 K g x else J_B_startsName_35 K g 0 x)
set_option maxRecDepth 100000 in
set_option maxHeartbeats 4000000 in
theorem jj_B_startsName_24 {l : Launch} {D : va_G} {ad : Nat → Nat} {aC : Nat → ClassId} {b0 : Nat} {K d0 : Nat} {g : jm_Rec} (hok : jm_Ok (jm_PP l D clC ad aC shC b0 1)) (hrec : ∀ (t : Nat) (av : List Value) (x : jm_X), jm_Con (jm_PP l D clC ad aC shC b0 1) (rcC t) d0 av x (g t av x)) (v0 : Int32) (x : jm_X) : jm_V (jm_PP l D clC ad aC shC b0 1) mt_B_startsName (d0 + 1) 24 [(0, .int v0)] [] x (J_B_startsName_24 K g v0 x) := by
  have hT := tk_B (l := l) (D := D) (ad := ad) (aC := aC) (b0 := b0)
  unfold J_B_startsName_24
  refine jm_V.run (is := bk_B_startsName_24_3) (pc' := (if v0 = 95 then 30 else 34)) (ls' := [(0, .int v0)]) (st' := []) (x' := x) hok hT bk_B_startsName_24_3_ok rfl ?_
  refine jm_V.ite (fun _ => ?_) (fun _ => ?_)
  · refine jm_V.sub (ls' := []) [] rfl ?_
    exact jj_B_startsName_30 hok hrec x
  · refine jm_V.run (is := bk_B_startsName_34_1) (pc' := 35) (ls' := [(0, .int v0)]) (st' := [.int 0]) (x' := x) hok hT bk_B_startsName_34_1_ok rfl ?_
    refine jm_V.sub (ls' := []) [] rfl ?_
    exact jj_B_startsName_35 hok hrec 0 x
def J_B_startsName_12 (K : Nat) (g : jm_Rec) (v0 : Int32) (x : jm_X) : Option jm_R := (if v0 < 65 then J_B_startsName_24 K g v0 x else (if v0 ≤ 90 then J_B_startsName_30 K g x else J_B_startsName_24 K g v0 x))
set_option maxRecDepth 100000 in
set_option maxHeartbeats 4000000 in
theorem jj_B_startsName_12 {l : Launch} {D : va_G} {ad : Nat → Nat} {aC : Nat → ClassId} {b0 : Nat} {K d0 : Nat} {g : jm_Rec} (hok : jm_Ok (jm_PP l D clC ad aC shC b0 1)) (hrec : ∀ (t : Nat) (av : List Value) (x : jm_X), jm_Con (jm_PP l D clC ad aC shC b0 1) (rcC t) d0 av x (g t av x)) (v0 : Int32) (x : jm_X) : jm_V (jm_PP l D clC ad aC shC b0 1) mt_B_startsName (d0 + 1) 12 [(0, .int v0)] [] x (J_B_startsName_12 K g v0 x) := by
  have hT := tk_B (l := l) (D := D) (ad := ad) (aC := aC) (b0 := b0)
  unfold J_B_startsName_12
  refine jm_V.run (is := bk_B_startsName_12_3) (pc' := (if v0 < 65 then 24 else 18)) (ls' := [(0, .int v0)]) (st' := []) (x' := x) hok hT bk_B_startsName_12_3_ok rfl ?_
  refine jm_V.ite (fun _ => ?_) (fun _ => ?_)
  · exact jj_B_startsName_24 hok hrec v0 x
  · refine jm_V.run (is := bk_B_startsName_18_3) (pc' := (if v0 ≤ 90 then 30 else 24)) (ls' := [(0, .int v0)]) (st' := []) (x' := x) hok hT bk_B_startsName_18_3_ok rfl ?_
    refine jm_V.ite (fun _ => ?_) (fun _ => ?_)
    · refine jm_V.sub (ls' := []) [] rfl ?_
      exact jj_B_startsName_30 hok hrec x
    · exact jj_B_startsName_24 hok hrec v0 x
def f_B_startsName (K : Nat) (g : jm_Rec) (a1 : Int32) (x : jm_X) : Option jm_R := (if a1 < 97 then J_B_startsName_12 K g a1 x else (if a1 ≤ 122 then J_B_startsName_30 K g x else J_B_startsName_12 K g a1 x))
set_option maxRecDepth 100000 in
set_option maxHeartbeats 4000000 in
theorem c_B_startsName {l : Launch} {D : va_G} {ad : Nat → Nat} {aC : Nat → ClassId} {b0 : Nat} {K d0 : Nat} {g : jm_Rec} (hok : jm_Ok (jm_PP l D clC ad aC shC b0 1)) (hrec : ∀ (t : Nat) (av : List Value) (x : jm_X), jm_Con (jm_PP l D clC ad aC shC b0 1) (rcC t) d0 av x (g t av x)) (a1 : Int32) (x : jm_X) : jm_Con (jm_PP l D clC ad aC shC b0 1) mt_B_startsName (d0 + 1) [.int a1] x (f_B_startsName K g a1 x) := by
  refine jm_Con.of (plainFor_of_name (by decide +kernel)) (Nat.le_of_ble_eq_true rfl) ?_
  have hT := tk_B (l := l) (D := D) (ad := ad) (aC := aC) (b0 := b0)
  unfold f_B_startsName
  show jm_V _ _ _ 0 [(0, .int a1)] [] x _
  refine jm_V.run (is := bk_B_startsName_0_3) (pc' := (if a1 < 97 then 12 else 6)) (ls' := [(0, .int a1)]) (st' := []) (x' := x) hok hT bk_B_startsName_0_3_ok rfl ?_
  refine jm_V.ite (fun _ => ?_) (fun _ => ?_)
  · exact jj_B_startsName_12 hok hrec a1 x
  · refine jm_V.run (is := bk_B_startsName_6_3) (pc' := (if a1 ≤ 122 then 30 else 12)) (ls' := [(0, .int a1)]) (st' := []) (x' := x) hok hT bk_B_startsName_6_3_ok rfl ?_
    refine jm_V.ite (fun _ => ?_) (fun _ => ?_)
    · refine jm_V.sub (ls' := []) [] rfl ?_
      exact jj_B_startsName_30 hok hrec x
    · exact jj_B_startsName_12 hok hrec a1 x
abbrev bk_B_isOfName_0_3 : List (Nat × Instr × Nat) := [(0, .iload_n 0, 1), (1, .bipush 97, 2), (3, .if_icmp .lt 9, 3)]
theorem bk_B_isOfName_0_3_ok : jm_at mt_B_isOfName.2.1 bk_B_isOfName_0_3 = true := by decide +kernel
abbrev bk_B_isOfName_6_3 : List (Nat × Instr × Nat) := [(6, .iload_n 0, 1), (7, .bipush 122, 2), (9, .if_icmp .le 33, 3)]
theorem bk_B_isOfName_6_3_ok : jm_at mt_B_isOfName.2.1 bk_B_isOfName_6_3 = true := by decide +kernel
abbrev bk_B_isOfName_12_3 : List (Nat × Instr × Nat) := [(12, .iload_n 0, 1), (13, .bipush 65, 2), (15, .if_icmp .lt 9, 3)]
theorem bk_B_isOfName_12_3_ok : jm_at mt_B_isOfName.2.1 bk_B_isOfName_12_3 = true := by decide +kernel
abbrev bk_B_isOfName_18_3 : List (Nat × Instr × Nat) := [(18, .iload_n 0, 1), (19, .bipush 90, 2), (21, .if_icmp .le 21, 3)]
theorem bk_B_isOfName_18_3_ok : jm_at mt_B_isOfName.2.1 bk_B_isOfName_18_3 = true := by decide +kernel
abbrev bk_B_isOfName_24_3 : List (Nat × Instr × Nat) := [(24, .iload_n 0, 1), (25, .bipush 95, 2), (27, .if_icmp .eq 15, 3)]
theorem bk_B_isOfName_24_3_ok : jm_at mt_B_isOfName.2.1 bk_B_isOfName_24_3 = true := by decide +kernel
abbrev bk_B_isOfName_30_3 : List (Nat × Instr × Nat) := [(30, .iload_n 0, 1), (31, .bipush 48, 2), (33, .if_icmp .lt 13, 3)]
theorem bk_B_isOfName_30_3_ok : jm_at mt_B_isOfName.2.1 bk_B_isOfName_30_3 = true := by decide +kernel
abbrev bk_B_isOfName_36_3 : List (Nat × Instr × Nat) := [(36, .iload_n 0, 1), (37, .bipush 57, 2), (39, .if_icmp .gt 7, 3)]
theorem bk_B_isOfName_36_3_ok : jm_at mt_B_isOfName.2.1 bk_B_isOfName_36_3 = true := by decide +kernel
abbrev bk_B_isOfName_42_2 : List (Nat × Instr × Nat) := [(42, .iconst 1, 1), (43, .goto 4, 3)]
theorem bk_B_isOfName_42_2_ok : jm_at mt_B_isOfName.2.1 bk_B_isOfName_42_2 = true := by decide +kernel
abbrev bk_B_isOfName_46_1 : List (Nat × Instr × Nat) := [(46, .iconst 0, 1)]
theorem bk_B_isOfName_46_1_ok : jm_at mt_B_isOfName.2.1 bk_B_isOfName_46_1 = true := by decide +kernel
theorem dd_B_isOfName_47 : decode mt_B_isOfName.2.1 47 = .ok (.ireturn, 1) := by decide +kernel
def J_B_isOfName_47 (K : Nat) (g : jm_Rec) (s0 : Int32) (x : jm_X) : Option jm_R := some (.inl (some (.int (vp_nar .boolean s0)), x))
set_option maxRecDepth 100000 in
set_option maxHeartbeats 4000000 in
theorem jj_B_isOfName_47 {l : Launch} {D : va_G} {ad : Nat → Nat} {aC : Nat → ClassId} {b0 : Nat} {K d0 : Nat} {g : jm_Rec} (hok : jm_Ok (jm_PP l D clC ad aC shC b0 1)) (hrec : ∀ (t : Nat) (av : List Value) (x : jm_X), jm_Con (jm_PP l D clC ad aC shC b0 1) (rcC t) d0 av x (g t av x)) (s0 : Int32) (x : jm_X) : jm_V (jm_PP l D clC ad aC shC b0 1) mt_B_isOfName (d0 + 1) 47 [] [.int s0] x (J_B_isOfName_47 K g s0 x) := by
  have hT := tk_B (l := l) (D := D) (ad := ad) (aC := aC) (b0 := b0)
  unfold J_B_isOfName_47
  exact jm_V.nret (t := .boolean) rfl rfl dd_B_isOfName_47
def J_B_isOfName_42 (K : Nat) (g : jm_Rec)  (x : jm_X) : Option jm_R := J_B_isOfName_47 K g 1 x
set_option maxRecDepth 100000 in
set_option maxHeartbeats 4000000 in
theorem jj_B_isOfName_42 {l : Launch} {D : va_G} {ad : Nat → Nat} {aC : Nat → ClassId} {b0 : Nat} {K d0 : Nat} {g : jm_Rec} (hok : jm_Ok (jm_PP l D clC ad aC shC b0 1)) (hrec : ∀ (t : Nat) (av : List Value) (x : jm_X), jm_Con (jm_PP l D clC ad aC shC b0 1) (rcC t) d0 av x (g t av x))  (x : jm_X) : jm_V (jm_PP l D clC ad aC shC b0 1) mt_B_isOfName (d0 + 1) 42 [] [] x (J_B_isOfName_42 K g  x) := by
  have hT := tk_B (l := l) (D := D) (ad := ad) (aC := aC) (b0 := b0)
  unfold J_B_isOfName_42
  refine jm_V.run (is := bk_B_isOfName_42_2) (pc' := 47) (ls' := []) (st' := [.int 1]) (x' := x) hok hT bk_B_isOfName_42_2_ok rfl ?_
  exact jj_B_isOfName_47 hok hrec 1 x
def J_B_isOfName_46 (K : Nat) (g : jm_Rec)  (x : jm_X) : Option jm_R := J_B_isOfName_47 K g 0 x
set_option maxRecDepth 100000 in
set_option maxHeartbeats 4000000 in
theorem jj_B_isOfName_46 {l : Launch} {D : va_G} {ad : Nat → Nat} {aC : Nat → ClassId} {b0 : Nat} {K d0 : Nat} {g : jm_Rec} (hok : jm_Ok (jm_PP l D clC ad aC shC b0 1)) (hrec : ∀ (t : Nat) (av : List Value) (x : jm_X), jm_Con (jm_PP l D clC ad aC shC b0 1) (rcC t) d0 av x (g t av x))  (x : jm_X) : jm_V (jm_PP l D clC ad aC shC b0 1) mt_B_isOfName (d0 + 1) 46 [] [] x (J_B_isOfName_46 K g  x) := by
  have hT := tk_B (l := l) (D := D) (ad := ad) (aC := aC) (b0 := b0)
  unfold J_B_isOfName_46
  refine jm_V.run (is := bk_B_isOfName_46_1) (pc' := 47) (ls' := []) (st' := [.int 0]) (x' := x) hok hT bk_B_isOfName_46_1_ok rfl ?_
  exact jj_B_isOfName_47 hok hrec 0 x
def J_B_isOfName_24 (K : Nat) (g : jm_Rec) (v0 : Int32) (x : jm_X) : Option jm_R := (if v0 = 95 then J_B_isOfName_42 K g x else (if v0 < 48 then J_B_isOfName_46 K g x else (if 57 < v0 then J_B_isOfName_46 K g x else J_B_isOfName_42 K g x)))
set_option maxRecDepth 100000 in
set_option maxHeartbeats 4000000 in
theorem jj_B_isOfName_24 {l : Launch} {D : va_G} {ad : Nat → Nat} {aC : Nat → ClassId} {b0 : Nat} {K d0 : Nat} {g : jm_Rec} (hok : jm_Ok (jm_PP l D clC ad aC shC b0 1)) (hrec : ∀ (t : Nat) (av : List Value) (x : jm_X), jm_Con (jm_PP l D clC ad aC shC b0 1) (rcC t) d0 av x (g t av x)) (v0 : Int32) (x : jm_X) : jm_V (jm_PP l D clC ad aC shC b0 1) mt_B_isOfName (d0 + 1) 24 [(0, .int v0)] [] x (J_B_isOfName_24 K g v0 x) := by
  have hT := tk_B (l := l) (D := D) (ad := ad) (aC := aC) (b0 := b0)
  unfold J_B_isOfName_24
  refine jm_V.run (is := bk_B_isOfName_24_3) (pc' := (if v0 = 95 then 42 else 30)) (ls' := [(0, .int v0)]) (st' := []) (x' := x) hok hT bk_B_isOfName_24_3_ok rfl ?_
  refine jm_V.ite (fun _ => ?_) (fun _ => ?_)
  · refine jm_V.sub (ls' := []) [] rfl ?_
    exact jj_B_isOfName_42 hok hrec x
  · refine jm_V.run (is := bk_B_isOfName_30_3) (pc' := (if v0 < 48 then 46 else 36)) (ls' := [(0, .int v0)]) (st' := []) (x' := x) hok hT bk_B_isOfName_30_3_ok rfl ?_
    refine jm_V.ite (fun _ => ?_) (fun _ => ?_)
    · refine jm_V.sub (ls' := []) [] rfl ?_
      exact jj_B_isOfName_46 hok hrec x
    · refine jm_V.run (is := bk_B_isOfName_36_3) (pc' := (if 57 < v0 then 46 else 42)) (ls' := [(0, .int v0)]) (st' := []) (x' := x) hok hT bk_B_isOfName_36_3_ok rfl ?_
      refine jm_V.ite (fun _ => ?_) (fun _ => ?_)
      · refine jm_V.sub (ls' := []) [] rfl ?_
        exact jj_B_isOfName_46 hok hrec x
      · refine jm_V.sub (ls' := []) [] rfl ?_
        exact jj_B_isOfName_42 hok hrec x
def J_B_isOfName_12 (K : Nat) (g : jm_Rec) (v0 : Int32) (x : jm_X) : Option jm_R := (if v0 < 65 then J_B_isOfName_24 K g v0 x else (if v0 ≤ 90 then J_B_isOfName_42 K g x else J_B_isOfName_24 K g v0 x))
set_option maxRecDepth 100000 in
set_option maxHeartbeats 4000000 in
theorem jj_B_isOfName_12 {l : Launch} {D : va_G} {ad : Nat → Nat} {aC : Nat → ClassId} {b0 : Nat} {K d0 : Nat} {g : jm_Rec} (hok : jm_Ok (jm_PP l D clC ad aC shC b0 1)) (hrec : ∀ (t : Nat) (av : List Value) (x : jm_X), jm_Con (jm_PP l D clC ad aC shC b0 1) (rcC t) d0 av x (g t av x)) (v0 : Int32) (x : jm_X) : jm_V (jm_PP l D clC ad aC shC b0 1) mt_B_isOfName (d0 + 1) 12 [(0, .int v0)] [] x (J_B_isOfName_12 K g v0 x) := by
  have hT := tk_B (l := l) (D := D) (ad := ad) (aC := aC) (b0 := b0)
  unfold J_B_isOfName_12
  refine jm_V.run (is := bk_B_isOfName_12_3) (pc' := (if v0 < 65 then 24 else 18)) (ls' := [(0, .int v0)]) (st' := []) (x' := x) hok hT bk_B_isOfName_12_3_ok rfl ?_
  refine jm_V.ite (fun _ => ?_) (fun _ => ?_)
  · exact jj_B_isOfName_24 hok hrec v0 x
  · refine jm_V.run (is := bk_B_isOfName_18_3) (pc' := (if v0 ≤ 90 then 42 else 24)) (ls' := [(0, .int v0)]) (st' := []) (x' := x) hok hT bk_B_isOfName_18_3_ok rfl ?_
    refine jm_V.ite (fun _ => ?_) (fun _ => ?_)
    · refine jm_V.sub (ls' := []) [] rfl ?_
      exact jj_B_isOfName_42 hok hrec x
    · exact jj_B_isOfName_24 hok hrec v0 x
def f_B_isOfName (K : Nat) (g : jm_Rec) (a1 : Int32) (x : jm_X) : Option jm_R := (if a1 < 97 then J_B_isOfName_12 K g a1 x else (if a1 ≤ 122 then J_B_isOfName_42 K g x else J_B_isOfName_12 K g a1 x))
set_option maxRecDepth 100000 in
set_option maxHeartbeats 4000000 in
theorem c_B_isOfName {l : Launch} {D : va_G} {ad : Nat → Nat} {aC : Nat → ClassId} {b0 : Nat} {K d0 : Nat} {g : jm_Rec} (hok : jm_Ok (jm_PP l D clC ad aC shC b0 1)) (hrec : ∀ (t : Nat) (av : List Value) (x : jm_X), jm_Con (jm_PP l D clC ad aC shC b0 1) (rcC t) d0 av x (g t av x)) (a1 : Int32) (x : jm_X) : jm_Con (jm_PP l D clC ad aC shC b0 1) mt_B_isOfName (d0 + 1) [.int a1] x (f_B_isOfName K g a1 x) := by
  refine jm_Con.of (plainFor_of_name (by decide +kernel)) (Nat.le_of_ble_eq_true rfl) ?_
  have hT := tk_B (l := l) (D := D) (ad := ad) (aC := aC) (b0 := b0)
  unfold f_B_isOfName
  show jm_V _ _ _ 0 [(0, .int a1)] [] x _
  refine jm_V.run (is := bk_B_isOfName_0_3) (pc' := (if a1 < 97 then 12 else 6)) (ls' := [(0, .int a1)]) (st' := []) (x' := x) hok hT bk_B_isOfName_0_3_ok rfl ?_
  refine jm_V.ite (fun _ => ?_) (fun _ => ?_)
  · exact jj_B_isOfName_12 hok hrec a1 x
  · refine jm_V.run (is := bk_B_isOfName_6_3) (pc' := (if a1 ≤ 122 then 42 else 12)) (ls' := [(0, .int a1)]) (st' := []) (x' := x) hok hT bk_B_isOfName_6_3_ok rfl ?_
    refine jm_V.ite (fun _ => ?_) (fun _ => ?_)
    · refine jm_V.sub (ls' := []) [] rfl ?_
      exact jj_B_isOfName_42 hok hrec x
    · exact jj_B_isOfName_12 hok hrec a1 x
abbrev bk_B_isEscaped_0_3 : List (Nat × Instr × Nat) := [(0, .iload_n 0, 1), (1, .bipush 34, 2), (3, .if_icmp .eq 45, 3)]
theorem bk_B_isEscaped_0_3_ok : jm_at mt_B_isEscaped.2.1 bk_B_isEscaped_0_3 = true := by decide +kernel
abbrev bk_B_isEscaped_6_3 : List (Nat × Instr × Nat) := [(6, .iload_n 0, 1), (7, .bipush 92, 2), (9, .if_icmp .eq 39, 3)]
theorem bk_B_isEscaped_6_3_ok : jm_at mt_B_isEscaped.2.1 bk_B_isEscaped_6_3 = true := by decide +kernel
abbrev bk_B_isEscaped_12_3 : List (Nat × Instr × Nat) := [(12, .iload_n 0, 1), (13, .bipush 47, 2), (15, .if_icmp .eq 33, 3)]
theorem bk_B_isEscaped_12_3_ok : jm_at mt_B_isEscaped.2.1 bk_B_isEscaped_12_3 = true := by decide +kernel
abbrev bk_B_isEscaped_18_3 : List (Nat × Instr × Nat) := [(18, .iload_n 0, 1), (19, .bipush 98, 2), (21, .if_icmp .eq 27, 3)]
theorem bk_B_isEscaped_18_3_ok : jm_at mt_B_isEscaped.2.1 bk_B_isEscaped_18_3 = true := by decide +kernel
abbrev bk_B_isEscaped_24_3 : List (Nat × Instr × Nat) := [(24, .iload_n 0, 1), (25, .bipush 102, 2), (27, .if_icmp .eq 21, 3)]
theorem bk_B_isEscaped_24_3_ok : jm_at mt_B_isEscaped.2.1 bk_B_isEscaped_24_3 = true := by decide +kernel
abbrev bk_B_isEscaped_30_3 : List (Nat × Instr × Nat) := [(30, .iload_n 0, 1), (31, .bipush 110, 2), (33, .if_icmp .eq 15, 3)]
theorem bk_B_isEscaped_30_3_ok : jm_at mt_B_isEscaped.2.1 bk_B_isEscaped_30_3 = true := by decide +kernel
abbrev bk_B_isEscaped_36_3 : List (Nat × Instr × Nat) := [(36, .iload_n 0, 1), (37, .bipush 114, 2), (39, .if_icmp .eq 9, 3)]
theorem bk_B_isEscaped_36_3_ok : jm_at mt_B_isEscaped.2.1 bk_B_isEscaped_36_3 = true := by decide +kernel
abbrev bk_B_isEscaped_42_3 : List (Nat × Instr × Nat) := [(42, .iload_n 0, 1), (43, .bipush 116, 2), (45, .if_icmp .ne 7, 3)]
theorem bk_B_isEscaped_42_3_ok : jm_at mt_B_isEscaped.2.1 bk_B_isEscaped_42_3 = true := by decide +kernel
abbrev bk_B_isEscaped_52_1 : List (Nat × Instr × Nat) := [(52, .iconst 0, 1)]
theorem bk_B_isEscaped_52_1_ok : jm_at mt_B_isEscaped.2.1 bk_B_isEscaped_52_1 = true := by decide +kernel
abbrev bk_B_isEscaped_48_2 : List (Nat × Instr × Nat) := [(48, .iconst 1, 1), (49, .goto 4, 3)]
theorem bk_B_isEscaped_48_2_ok : jm_at mt_B_isEscaped.2.1 bk_B_isEscaped_48_2 = true := by decide +kernel
theorem dd_B_isEscaped_53 : decode mt_B_isEscaped.2.1 53 = .ok (.ireturn, 1) := by decide +kernel
def J_B_isEscaped_53 (K : Nat) (g : jm_Rec) (s0 : Int32) (x : jm_X) : Option jm_R := some (.inl (some (.int (vp_nar .boolean s0)), x))
set_option maxRecDepth 100000 in
set_option maxHeartbeats 4000000 in
theorem jj_B_isEscaped_53 {l : Launch} {D : va_G} {ad : Nat → Nat} {aC : Nat → ClassId} {b0 : Nat} {K d0 : Nat} {g : jm_Rec} (hok : jm_Ok (jm_PP l D clC ad aC shC b0 1)) (hrec : ∀ (t : Nat) (av : List Value) (x : jm_X), jm_Con (jm_PP l D clC ad aC shC b0 1) (rcC t) d0 av x (g t av x)) (s0 : Int32) (x : jm_X) : jm_V (jm_PP l D clC ad aC shC b0 1) mt_B_isEscaped (d0 + 1) 53 [] [.int s0] x (J_B_isEscaped_53 K g s0 x) := by
  have hT := tk_B (l := l) (D := D) (ad := ad) (aC := aC) (b0 := b0)
  unfold J_B_isEscaped_53
  exact jm_V.nret (t := .boolean) rfl rfl dd_B_isEscaped_53
def J_B_isEscaped_48 (K : Nat) (g : jm_Rec)  (x : jm_X) : Option jm_R := J_B_isEscaped_53 K g 1 x
set_option maxRecDepth 100000 in
set_option maxHeartbeats 4000000 in
theorem jj_B_isEscaped_48 {l : Launch} {D : va_G} {ad : Nat → Nat} {aC : Nat → ClassId} {b0 : Nat} {K d0 : Nat} {g : jm_Rec} (hok : jm_Ok (jm_PP l D clC ad aC shC b0 1)) (hrec : ∀ (t : Nat) (av : List Value) (x : jm_X), jm_Con (jm_PP l D clC ad aC shC b0 1) (rcC t) d0 av x (g t av x))  (x : jm_X) : jm_V (jm_PP l D clC ad aC shC b0 1) mt_B_isEscaped (d0 + 1) 48 [] [] x (J_B_isEscaped_48 K g  x) := by
  have hT := tk_B (l := l) (D := D) (ad := ad) (aC := aC) (b0 := b0)
  unfold J_B_isEscaped_48
  refine jm_V.run (is := bk_B_isEscaped_48_2) (pc' := 53) (ls' := []) (st' := [.int 1]) (x' := x) hok hT bk_B_isEscaped_48_2_ok rfl ?_
  exact jj_B_isEscaped_53 hok hrec 1 x
def f_B_isEscaped (K : Nat) (g : jm_Rec) (a1 : Int32) (x : jm_X) : Option jm_R := (if a1 = 34 then J_B_isEscaped_48 K g x else (if a1 = 92 then J_B_isEscaped_48 K g x else (if a1 = 47 then J_B_isEscaped_48 K g x else (if a1 = 98 then J_B_isEscaped_48 K g x else (if a1 = 102 then J_B_isEscaped_48 K g x else (if a1 = 110 then J_B_isEscaped_48 K g x else (if a1 = 114 then J_B_isEscaped_48 K g x else (if a1 = 116 then J_B_isEscaped_48 K g x else J_B_isEscaped_53 K g 0 x))))))))
set_option maxRecDepth 100000 in
set_option maxHeartbeats 4000000 in
theorem c_B_isEscaped {l : Launch} {D : va_G} {ad : Nat → Nat} {aC : Nat → ClassId} {b0 : Nat} {K d0 : Nat} {g : jm_Rec} (hok : jm_Ok (jm_PP l D clC ad aC shC b0 1)) (hrec : ∀ (t : Nat) (av : List Value) (x : jm_X), jm_Con (jm_PP l D clC ad aC shC b0 1) (rcC t) d0 av x (g t av x)) (a1 : Int32) (x : jm_X) : jm_Con (jm_PP l D clC ad aC shC b0 1) mt_B_isEscaped (d0 + 1) [.int a1] x (f_B_isEscaped K g a1 x) := by
  refine jm_Con.of (plainFor_of_name (by decide +kernel)) (Nat.le_of_ble_eq_true rfl) ?_
  have hT := tk_B (l := l) (D := D) (ad := ad) (aC := aC) (b0 := b0)
  unfold f_B_isEscaped
  show jm_V _ _ _ 0 [(0, .int a1)] [] x _
  refine jm_V.run (is := bk_B_isEscaped_0_3) (pc' := (if a1 = 34 then 48 else 6)) (ls' := [(0, .int a1)]) (st' := []) (x' := x) hok hT bk_B_isEscaped_0_3_ok rfl ?_
  refine jm_V.ite (fun _ => ?_) (fun _ => ?_)
  · refine jm_V.sub (ls' := []) [] rfl ?_
    exact jj_B_isEscaped_48 hok hrec x
  · refine jm_V.run (is := bk_B_isEscaped_6_3) (pc' := (if a1 = 92 then 48 else 12)) (ls' := [(0, .int a1)]) (st' := []) (x' := x) hok hT bk_B_isEscaped_6_3_ok rfl ?_
    refine jm_V.ite (fun _ => ?_) (fun _ => ?_)
    · refine jm_V.sub (ls' := []) [] rfl ?_
      exact jj_B_isEscaped_48 hok hrec x
    · refine jm_V.run (is := bk_B_isEscaped_12_3) (pc' := (if a1 = 47 then 48 else 18)) (ls' := [(0, .int a1)]) (st' := []) (x' := x) hok hT bk_B_isEscaped_12_3_ok rfl ?_
      refine jm_V.ite (fun _ => ?_) (fun _ => ?_)
      · refine jm_V.sub (ls' := []) [] rfl ?_
        exact jj_B_isEscaped_48 hok hrec x
      · refine jm_V.run (is := bk_B_isEscaped_18_3) (pc' := (if a1 = 98 then 48 else 24)) (ls' := [(0, .int a1)]) (st' := []) (x' := x) hok hT bk_B_isEscaped_18_3_ok rfl ?_
        refine jm_V.ite (fun _ => ?_) (fun _ => ?_)
        · refine jm_V.sub (ls' := []) [] rfl ?_
          exact jj_B_isEscaped_48 hok hrec x
        · refine jm_V.run (is := bk_B_isEscaped_24_3) (pc' := (if a1 = 102 then 48 else 30)) (ls' := [(0, .int a1)]) (st' := []) (x' := x) hok hT bk_B_isEscaped_24_3_ok rfl ?_
          refine jm_V.ite (fun _ => ?_) (fun _ => ?_)
          · refine jm_V.sub (ls' := []) [] rfl ?_
            exact jj_B_isEscaped_48 hok hrec x
          · refine jm_V.run (is := bk_B_isEscaped_30_3) (pc' := (if a1 = 110 then 48 else 36)) (ls' := [(0, .int a1)]) (st' := []) (x' := x) hok hT bk_B_isEscaped_30_3_ok rfl ?_
            refine jm_V.ite (fun _ => ?_) (fun _ => ?_)
            · refine jm_V.sub (ls' := []) [] rfl ?_
              exact jj_B_isEscaped_48 hok hrec x
            · refine jm_V.run (is := bk_B_isEscaped_36_3) (pc' := (if a1 = 114 then 48 else 42)) (ls' := [(0, .int a1)]) (st' := []) (x' := x) hok hT bk_B_isEscaped_36_3_ok rfl ?_
              refine jm_V.ite (fun _ => ?_) (fun _ => ?_)
              · refine jm_V.sub (ls' := []) [] rfl ?_
                exact jj_B_isEscaped_48 hok hrec x
              · refine jm_V.run (is := bk_B_isEscaped_42_3) (pc' := (if a1 = 116 then 48 else 52)) (ls' := [(0, .int a1)]) (st' := []) (x' := x) hok hT bk_B_isEscaped_42_3_ok rfl ?_
                refine jm_V.ite (fun _ => ?_) (fun _ => ?_)
                · refine jm_V.sub (ls' := []) [] rfl ?_
                  exact jj_B_isEscaped_48 hok hrec x
                · refine jm_V.run (is := bk_B_isEscaped_52_1) (pc' := 53) (ls' := [(0, .int a1)]) (st' := [.int 0]) (x' := x) hok hT bk_B_isEscaped_52_1_ok rfl ?_
                  refine jm_V.sub (ls' := []) [] rfl ?_
                  exact jj_B_isEscaped_53 hok hrec 0 x
abbrev bk_B_hexDigit_0_1 : List (Nat × Instr × Nat) := [(0, .iload_n 0, 1)]
theorem bk_B_hexDigit_0_1_ok : jm_at mt_B_hexDigit.2.1 bk_B_hexDigit_0_1 = true := by decide +kernel
abbrev bk_B_hexDigit_4_1 : List (Nat × Instr × Nat) := [(4, .ifCond .eq 8, 3)]
theorem bk_B_hexDigit_4_1_ok : jm_at mt_B_hexDigit.2.1 bk_B_hexDigit_4_1 = true := by decide +kernel
abbrev bk_B_hexDigit_12_3 : List (Nat × Instr × Nat) := [(12, .iload_n 0, 1), (13, .bipush 97, 2), (15, .if_icmp .lt 17, 3)]
theorem bk_B_hexDigit_12_3_ok : jm_at mt_B_hexDigit.2.1 bk_B_hexDigit_12_3 = true := by decide +kernel
abbrev bk_B_hexDigit_18_3 : List (Nat × Instr × Nat) := [(18, .iload_n 0, 1), (19, .bipush 102, 2), (21, .if_icmp .gt 11, 3)]
theorem bk_B_hexDigit_18_3_ok : jm_at mt_B_hexDigit.2.1 bk_B_hexDigit_18_3 = true := by decide +kernel
abbrev bk_B_hexDigit_24_5 : List (Nat × Instr × Nat) := [(24, .iload_n 0, 1), (25, .bipush 97, 2), (27, .isub, 1), (28, .bipush 10, 2), (30, .iadd, 1)]
theorem bk_B_hexDigit_24_5_ok : jm_at mt_B_hexDigit.2.1 bk_B_hexDigit_24_5 = true := by decide +kernel
abbrev bk_B_hexDigit_7_3 : List (Nat × Instr × Nat) := [(7, .iload_n 0, 1), (8, .bipush 48, 2), (10, .isub, 1)]
theorem bk_B_hexDigit_7_3_ok : jm_at mt_B_hexDigit.2.1 bk_B_hexDigit_7_3 = true := by decide +kernel
abbrev bk_B_hexDigit_32_3 : List (Nat × Instr × Nat) := [(32, .iload_n 0, 1), (33, .bipush 65, 2), (35, .if_icmp .lt 19, 3)]
theorem bk_B_hexDigit_32_3_ok : jm_at mt_B_hexDigit.2.1 bk_B_hexDigit_32_3 = true := by decide +kernel
abbrev bk_B_hexDigit_38_3 : List (Nat × Instr × Nat) := [(38, .iload_n 0, 1), (39, .bipush 70, 2), (41, .if_icmp .gt 13, 3)]
theorem bk_B_hexDigit_38_3_ok : jm_at mt_B_hexDigit.2.1 bk_B_hexDigit_38_3 = true := by decide +kernel
abbrev bk_B_hexDigit_44_6 : List (Nat × Instr × Nat) := [(44, .iload_n 0, 1), (45, .bipush 65, 2), (47, .isub, 1), (48, .bipush 10, 2), (50, .iadd, 1), (51, .goto 4, 3)]
theorem bk_B_hexDigit_44_6_ok : jm_at mt_B_hexDigit.2.1 bk_B_hexDigit_44_6 = true := by decide +kernel
abbrev bk_B_hexDigit_54_1 : List (Nat × Instr × Nat) := [(54, .iconst (-1), 1)]
theorem bk_B_hexDigit_54_1_ok : jm_at mt_B_hexDigit.2.1 bk_B_hexDigit_54_1 = true := by decide +kernel
theorem dd_B_hexDigit_1 : decode mt_B_hexDigit.2.1 1 = .ok (.invokestatic 7, 3) := by decide +kernel
theorem dd_B_hexDigit_31 : decode mt_B_hexDigit.2.1 31 = .ok (.ireturn, 1) := by decide +kernel
theorem dd_B_hexDigit_11 : decode mt_B_hexDigit.2.1 11 = .ok (.ireturn, 1) := by decide +kernel
theorem dd_B_hexDigit_55 : decode mt_B_hexDigit.2.1 55 = .ok (.ireturn, 1) := by decide +kernel
def J_B_hexDigit_55 (K : Nat) (g : jm_Rec) (s0 : Int32) (x : jm_X) : Option jm_R := some (.inl (some (.int s0), x))
set_option maxRecDepth 100000 in
set_option maxHeartbeats 4000000 in
theorem jj_B_hexDigit_55 {l : Launch} {D : va_G} {ad : Nat → Nat} {aC : Nat → ClassId} {b0 : Nat} {K d0 : Nat} {g : jm_Rec} (hok : jm_Ok (jm_PP l D clC ad aC shC b0 1)) (hrec : ∀ (t : Nat) (av : List Value) (x : jm_X), jm_Con (jm_PP l D clC ad aC shC b0 1) (rcC t) d0 av x (g t av x)) (s0 : Int32) (x : jm_X) : jm_V (jm_PP l D clC ad aC shC b0 1) mt_B_hexDigit (d0 + 2) 55 [] [.int s0] x (J_B_hexDigit_55 K g s0 x) := by
  have hT := tk_B (l := l) (D := D) (ad := ad) (aC := aC) (b0 := b0)
  unfold J_B_hexDigit_55
  exact jm_V.iret rfl dd_B_hexDigit_55
def J_B_hexDigit_54 (K : Nat) (g : jm_Rec)  (x : jm_X) : Option jm_R := J_B_hexDigit_55 K g (-1) x
set_option maxRecDepth 100000 in
set_option maxHeartbeats 4000000 in
theorem jj_B_hexDigit_54 {l : Launch} {D : va_G} {ad : Nat → Nat} {aC : Nat → ClassId} {b0 : Nat} {K d0 : Nat} {g : jm_Rec} (hok : jm_Ok (jm_PP l D clC ad aC shC b0 1)) (hrec : ∀ (t : Nat) (av : List Value) (x : jm_X), jm_Con (jm_PP l D clC ad aC shC b0 1) (rcC t) d0 av x (g t av x))  (x : jm_X) : jm_V (jm_PP l D clC ad aC shC b0 1) mt_B_hexDigit (d0 + 2) 54 [] [] x (J_B_hexDigit_54 K g  x) := by
  have hT := tk_B (l := l) (D := D) (ad := ad) (aC := aC) (b0 := b0)
  unfold J_B_hexDigit_54
  refine jm_V.run (is := bk_B_hexDigit_54_1) (pc' := 55) (ls' := []) (st' := [.int (-1)]) (x' := x) hok hT bk_B_hexDigit_54_1_ok rfl ?_
  exact jj_B_hexDigit_55 hok hrec (-1) x
def J_B_hexDigit_32 (K : Nat) (g : jm_Rec) (v0 : Int32) (x : jm_X) : Option jm_R := (if v0 < 65 then J_B_hexDigit_54 K g x else (if 70 < v0 then J_B_hexDigit_54 K g x else J_B_hexDigit_55 K g ((v0 - 65) + 10) x))
set_option maxRecDepth 100000 in
set_option maxHeartbeats 4000000 in
theorem jj_B_hexDigit_32 {l : Launch} {D : va_G} {ad : Nat → Nat} {aC : Nat → ClassId} {b0 : Nat} {K d0 : Nat} {g : jm_Rec} (hok : jm_Ok (jm_PP l D clC ad aC shC b0 1)) (hrec : ∀ (t : Nat) (av : List Value) (x : jm_X), jm_Con (jm_PP l D clC ad aC shC b0 1) (rcC t) d0 av x (g t av x)) (v0 : Int32) (x : jm_X) : jm_V (jm_PP l D clC ad aC shC b0 1) mt_B_hexDigit (d0 + 2) 32 [(0, .int v0)] [] x (J_B_hexDigit_32 K g v0 x) := by
  have hT := tk_B (l := l) (D := D) (ad := ad) (aC := aC) (b0 := b0)
  unfold J_B_hexDigit_32
  refine jm_V.run (is := bk_B_hexDigit_32_3) (pc' := (if v0 < 65 then 54 else 38)) (ls' := [(0, .int v0)]) (st' := []) (x' := x) hok hT bk_B_hexDigit_32_3_ok rfl ?_
  refine jm_V.ite (fun _ => ?_) (fun _ => ?_)
  · refine jm_V.sub (ls' := []) [] rfl ?_
    exact jj_B_hexDigit_54 hok hrec x
  · refine jm_V.run (is := bk_B_hexDigit_38_3) (pc' := (if 70 < v0 then 54 else 44)) (ls' := [(0, .int v0)]) (st' := []) (x' := x) hok hT bk_B_hexDigit_38_3_ok rfl ?_
    refine jm_V.ite (fun _ => ?_) (fun _ => ?_)
    · refine jm_V.sub (ls' := []) [] rfl ?_
      exact jj_B_hexDigit_54 hok hrec x
    · refine jm_V.run (is := bk_B_hexDigit_44_6) (pc' := 55) (ls' := [(0, .int v0)]) (st' := [.int ((v0 - 65) + 10)]) (x' := x) hok hT bk_B_hexDigit_44_6_ok rfl ?_
      refine jm_V.sub (ls' := []) [] rfl ?_
      exact jj_B_hexDigit_55 hok hrec ((v0 - 65) + 10) x
def f_B_hexDigit (K : Nat) (g : jm_Rec) (a1 : Int32) (x : jm_X) : Option jm_R := jm_bI (f_B_isDigit K g a1 x) (fun b2 x1 => (if b2 = 0 then (if a1 < 97 then J_B_hexDigit_32 K g a1 x1 else (if 102 < a1 then J_B_hexDigit_32 K g a1 x1 else some (.inl (some (.int ((a1 - 97) + 10)), x1)))) else some (.inl (some (.int (a1 - 48)), x1))))
set_option maxRecDepth 100000 in
set_option maxHeartbeats 4000000 in
theorem c_B_hexDigit {l : Launch} {D : va_G} {ad : Nat → Nat} {aC : Nat → ClassId} {b0 : Nat} {K d0 : Nat} {g : jm_Rec} (hok : jm_Ok (jm_PP l D clC ad aC shC b0 1)) (hrec : ∀ (t : Nat) (av : List Value) (x : jm_X), jm_Con (jm_PP l D clC ad aC shC b0 1) (rcC t) d0 av x (g t av x)) (a1 : Int32) (x : jm_X) : jm_Con (jm_PP l D clC ad aC shC b0 1) mt_B_hexDigit (d0 + 2) [.int a1] x (f_B_hexDigit K g a1 x) := by
  refine jm_Con.of (plainFor_of_name (by decide +kernel)) (Nat.le_of_ble_eq_true rfl) ?_
  have hT := tk_B (l := l) (D := D) (ad := ad) (aC := aC) (b0 := b0)
  unfold f_B_hexDigit
  show jm_V _ _ _ 0 [(0, .int a1)] [] x _
  refine jm_V.run (is := bk_B_hexDigit_0_1) (pc' := 1) (ls' := [(0, .int a1)]) (st' := [.int a1]) (x' := x) hok hT bk_B_hexDigit_0_1_ok rfl ?_
  refine jm_V.callI (av := [.int a1]) (rest := []) hok (jm_Con.mono (c_B_isDigit hok hrec a1 x) (by omega)) (jm_Inv.stat dd_B_hexDigit_1 (Or.inl lk_B_7) mq_B_isDigit mi_B mw_B_isDigit mh_B_isDigit ml_B_isDigit) mw_B_isDigit mi_B (Nat.le_of_ble_eq_true rfl) (Nat.le_of_ble_eq_true rfl) (fun b2 x1 => ?_)
  refine jm_V.run (is := bk_B_hexDigit_4_1) (pc' := (if b2 = 0 then 12 else 7)) (ls' := [(0, .int a1)]) (st' := []) (x' := x1) hok hT bk_B_hexDigit_4_1_ok rfl ?_
  refine jm_V.ite (fun _ => ?_) (fun _ => ?_)
  · refine jm_V.run (is := bk_B_hexDigit_12_3) (pc' := (if a1 < 97 then 32 else 18)) (ls' := [(0, .int a1)]) (st' := []) (x' := x1) hok hT bk_B_hexDigit_12_3_ok rfl ?_
    refine jm_V.ite (fun _ => ?_) (fun _ => ?_)
    · exact jj_B_hexDigit_32 hok hrec a1 x1
    · refine jm_V.run (is := bk_B_hexDigit_18_3) (pc' := (if 102 < a1 then 32 else 24)) (ls' := [(0, .int a1)]) (st' := []) (x' := x1) hok hT bk_B_hexDigit_18_3_ok rfl ?_
      refine jm_V.ite (fun _ => ?_) (fun _ => ?_)
      · exact jj_B_hexDigit_32 hok hrec a1 x1
      · refine jm_V.run (is := bk_B_hexDigit_24_5) (pc' := 31) (ls' := [(0, .int a1)]) (st' := [.int ((a1 - 97) + 10)]) (x' := x1) hok hT bk_B_hexDigit_24_5_ok rfl ?_
        exact jm_V.iret rfl dd_B_hexDigit_31
  · refine jm_V.run (is := bk_B_hexDigit_7_3) (pc' := 11) (ls' := [(0, .int a1)]) (st' := [.int (a1 - 48)]) (x' := x1) hok hT bk_B_hexDigit_7_3_ok rfl ?_
    exact jm_V.iret rfl dd_B_hexDigit_11
abbrev bk_B_isText_0_2 : List (Nat × Instr × Nat) := [(0, .iload_n 1, 1), (1, .ifCond .lt 27, 3)]
theorem bk_B_isText_0_2_ok : jm_at mt_B_isText.2.1 bk_B_isText_0_2 = true := by decide +kernel
abbrev bk_B_isText_4_2 : List (Nat × Instr × Nat) := [(4, .iload_n 2, 1), (5, .aload_n 0, 1)]
theorem bk_B_isText_4_2_ok : jm_at mt_B_isText.2.1 bk_B_isText_4_2 = true := by decide +kernel
abbrev bk_B_isText_7_1 : List (Nat × Instr × Nat) := [(7, .if_icmp .gt 21, 3)]
theorem bk_B_isText_7_1_ok : jm_at mt_B_isText.2.1 bk_B_isText_7_1 = true := by decide +kernel
abbrev bk_B_isText_10_2 : List (Nat × Instr × Nat) := [(10, .iload 4, 2), (12, .ifCond .lt 16, 3)]
theorem bk_B_isText_10_2_ok : jm_at mt_B_isText.2.1 bk_B_isText_10_2 = true := by decide +kernel
abbrev bk_B_isText_15_4 : List (Nat × Instr × Nat) := [(15, .iload_n 2, 1), (16, .iload_n 1, 1), (17, .isub, 1), (18, .aload_n 3, 1)]
theorem bk_B_isText_15_4_ok : jm_at mt_B_isText.2.1 bk_B_isText_15_4 = true := by decide +kernel
abbrev bk_B_isText_22_3 : List (Nat × Instr × Nat) := [(22, .iload 4, 2), (24, .isub, 1), (25, .if_icmp .le 5, 3)]
theorem bk_B_isText_22_3_ok : jm_at mt_B_isText.2.1 bk_B_isText_22_3 = true := by decide +kernel
abbrev bk_B_isText_30_2 : List (Nat × Instr × Nat) := [(30, .iconst 0, 1), (31, .istore 5, 2)]
theorem bk_B_isText_30_2_ok : jm_at mt_B_isText.2.1 bk_B_isText_30_2 = true := by decide +kernel
abbrev bk_B_isText_28_1 : List (Nat × Instr × Nat) := [(28, .iconst 0, 1)]
theorem bk_B_isText_28_1_ok : jm_at mt_B_isText.2.1 bk_B_isText_28_1 = true := by decide +kernel
abbrev bk_B_isText_33_5 : List (Nat × Instr × Nat) := [(33, .iload 5, 2), (35, .iload_n 2, 1), (36, .iload_n 1, 1), (37, .isub, 1), (38, .if_icmp .ge 29, 3)]
theorem bk_B_isText_33_5_ok : jm_at mt_B_isText.2.1 bk_B_isText_33_5 = true := by decide +kernel
abbrev bk_B_isText_67_1 : List (Nat × Instr × Nat) := [(67, .iconst 1, 1)]
theorem bk_B_isText_67_1_ok : jm_at mt_B_isText.2.1 bk_B_isText_67_1 = true := by decide +kernel
abbrev bk_B_isText_41_4 : List (Nat × Instr × Nat) := [(41, .aload_n 0, 1), (42, .iload_n 1, 1), (43, .iload 5, 2), (45, .iadd, 1)]
theorem bk_B_isText_41_4_ok : jm_at mt_B_isText.2.1 bk_B_isText_41_4 = true := by decide +kernel
abbrev bk_B_isText_47_4 : List (Nat × Instr × Nat) := [(47, .aload_n 3, 1), (48, .iload 4, 2), (50, .iload 5, 2), (52, .iadd, 1)]
theorem bk_B_isText_47_4_ok : jm_at mt_B_isText.2.1 bk_B_isText_47_4 = true := by decide +kernel
abbrev bk_B_isText_56_1 : List (Nat × Instr × Nat) := [(56, .if_icmp .eq 5, 3)]
theorem bk_B_isText_56_1_ok : jm_at mt_B_isText.2.1 bk_B_isText_56_1 = true := by decide +kernel
abbrev bk_B_isText_61_2 : List (Nat × Instr × Nat) := [(61, .iinc 5 1, 3), (64, .goto (-31), 3)]
theorem bk_B_isText_61_2_ok : jm_at mt_B_isText.2.1 bk_B_isText_61_2 = true := by decide +kernel
abbrev bk_B_isText_59_1 : List (Nat × Instr × Nat) := [(59, .iconst 0, 1)]
theorem bk_B_isText_59_1_ok : jm_at mt_B_isText.2.1 bk_B_isText_59_1 = true := by decide +kernel
theorem dd_B_isText_19 : decode mt_B_isText.2.1 19 = .ok (.invokevirtual 13, 3) := by decide +kernel
theorem dd_B_isText_6 : decode mt_B_isText.2.1 6 = .ok (.arraylength, 1) := by decide +kernel
theorem dd_B_isText_29 : decode mt_B_isText.2.1 29 = .ok (.ireturn, 1) := by decide +kernel
theorem dd_B_isText_68 : decode mt_B_isText.2.1 68 = .ok (.ireturn, 1) := by decide +kernel
theorem dd_B_isText_53 : decode mt_B_isText.2.1 53 = .ok (.invokevirtual 19, 3) := by decide +kernel
theorem dd_B_isText_60 : decode mt_B_isText.2.1 60 = .ok (.ireturn, 1) := by decide +kernel
theorem dd_B_isText_46 : decode mt_B_isText.2.1 46 = .ok (.baload, 1) := by decide +kernel
def J_B_isText_28 (K : Nat) (g : jm_Rec)  (x : jm_X) : Option jm_R := some (.inl (some (.int 0), x))
set_option maxRecDepth 100000 in
set_option maxHeartbeats 4000000 in
theorem jj_B_isText_28 {l : Launch} {D : va_G} {ad : Nat → Nat} {aC : Nat → ClassId} {b0 : Nat} {K d0 : Nat} {g : jm_Rec} (hok : jm_Ok (jm_PP l D clC ad aC shC b0 1)) (hrec : ∀ (t : Nat) (av : List Value) (x : jm_X), jm_Con (jm_PP l D clC ad aC shC b0 1) (rcC t) d0 av x (g t av x))  (x : jm_X) : jm_V (jm_PP l D clC ad aC shC b0 1) mt_B_isText (d0 + 5) 28 [] [] x (J_B_isText_28 K g  x) := by
  have hT := tk_B (l := l) (D := D) (ad := ad) (aC := aC) (b0 := b0)
  unfold J_B_isText_28
  refine jm_V.run (is := bk_B_isText_28_1) (pc' := 29) (ls' := []) (st' := [.int 0]) (x' := x) hok hT bk_B_isText_28_1_ok rfl ?_
  exact jm_V.nret (t := .boolean) rfl rfl dd_B_isText_29
def B_B_isText_33 (K : Nat) (g : jm_Rec) (self : Nat → Int32 → Int32 → Nat → Int32 → Int32 → jm_X → Option jm_R) (v0 : Nat) (v1 : Int32) (v2 : Int32) (v3 : Nat) (v4 : Int32) (v5 : Int32) (x : jm_X) : Option jm_R := (if (v2 - v1) ≤ v5 then some (.inl (some (.int 1), x)) else (if jm_in shC v0 .byte (v1 + v5) then (if jm_cn 2000 73 v3 then jm_bI (f_JS_charAt K g v3 (v4 + v5) x) (fun b5 x4 => (if (x.2.2 v0 (Int32.toNatClampNeg (v1 + v5))) = b5 then self v0 v1 v2 v3 v4 (v5 + 1) x4 else some (.inl (some (.int 0), x4)))) else none) else none))
def L_B_isText_33 (K : Nat) (g : jm_Rec) : Nat → Nat → Int32 → Int32 → Nat → Int32 → Int32 → jm_X → Option jm_R
  | 0, _, _, _, _, _, _, _ => none
  | k + 1, v0, v1, v2, v3, v4, v5, x => B_B_isText_33 K g (L_B_isText_33 K g k) v0 v1 v2 v3 v4 v5 x
set_option maxRecDepth 100000 in
set_option maxHeartbeats 4000000 in
theorem jb_B_isText_33 {l : Launch} {D : va_G} {ad : Nat → Nat} {aC : Nat → ClassId} {b0 : Nat} {K d0 : Nat} {g : jm_Rec} (hok : jm_Ok (jm_PP l D clC ad aC shC b0 1)) (hrec : ∀ (t : Nat) (av : List Value) (x : jm_X), jm_Con (jm_PP l D clC ad aC shC b0 1) (rcC t) d0 av x (g t av x)) {self : Nat → Int32 → Int32 → Nat → Int32 → Int32 → jm_X → Option jm_R} (hself : ∀ (v0 : Nat) (v1 : Int32) (v2 : Int32) (v3 : Nat) (v4 : Int32) (v5 : Int32) (x : jm_X), jm_V (jm_PP l D clC ad aC shC b0 1) mt_B_isText (d0 + 5) 33 [(0, .ref v0), (1, .int v1), (2, .int v2), (3, .ref v3), (4, .int v4), (5, .int v5)] [] x (self v0 v1 v2 v3 v4 v5 x)) (v0 : Nat) (v1 : Int32) (v2 : Int32) (v3 : Nat) (v4 : Int32) (v5 : Int32) (x : jm_X) : jm_V (jm_PP l D clC ad aC shC b0 1) mt_B_isText (d0 + 5) 33 [(0, .ref v0), (1, .int v1), (2, .int v2), (3, .ref v3), (4, .int v4), (5, .int v5)] [] x (B_B_isText_33 K g self v0 v1 v2 v3 v4 v5 x) := by
  have hT := tk_B (l := l) (D := D) (ad := ad) (aC := aC) (b0 := b0)
  unfold B_B_isText_33
  refine jm_V.run (is := bk_B_isText_33_5) (pc' := (if (v2 - v1) ≤ v5 then 67 else 41)) (ls' := [(0, .ref v0), (1, .int v1), (2, .int v2), (3, .ref v3), (4, .int v4), (5, .int v5)]) (st' := []) (x' := x) hok hT bk_B_isText_33_5_ok rfl ?_
  refine jm_V.ite (fun _ => ?_) (fun _ => ?_)
  · refine jm_V.run (is := bk_B_isText_67_1) (pc' := 68) (ls' := [(0, .ref v0), (1, .int v1), (2, .int v2), (3, .ref v3), (4, .int v4), (5, .int v5)]) (st' := [.int 1]) (x' := x) hok hT bk_B_isText_67_1_ok rfl ?_
    exact jm_V.nret (t := .boolean) rfl rfl dd_B_isText_68
  · refine jm_V.run (is := bk_B_isText_41_4) (pc' := 46) (ls' := [(0, .ref v0), (1, .int v1), (2, .int v2), (3, .ref v3), (4, .int v4), (5, .int v5)]) (st' := [.int (v1 + v5), .ref v0]) (x' := x) hok hT bk_B_isText_41_4_ok rfl ?_
    refine jm_V.bald dd_B_isText_46 ?_
    refine jm_V.run (is := bk_B_isText_47_4) (pc' := 53) (ls' := [(0, .ref v0), (1, .int v1), (2, .int v2), (3, .ref v3), (4, .int v4), (5, .int v5)]) (st' := [.int (v4 + v5), .ref v3, .int (x.2.2 v0 (Int32.toNatClampNeg (v1 + v5)))]) (x' := x) hok hT bk_B_isText_47_4_ok rfl ?_
    refine jm_V.guard (fun hg => ?_)
    refine jm_V.callI (av := [.ref v3, .int (v4 + v5)]) (rest := [.int (x.2.2 v0 (Int32.toNatClampNeg (v1 + v5)))]) hok (jm_Con.mono (c_JS_charAt (d0 := d0) hok hrec v3 (v4 + v5) x) (by omega)) (iv_str hok hg dd_B_isText_53 lk_B_19 mn_JS_charAt ms_JS_charAt mw_JS_charAt mh_JS_charAt ml_JS_charAt) mw_JS_charAt mi_JS (Nat.le_of_ble_eq_true rfl) (Nat.le_of_ble_eq_true rfl) (fun b5 x4 => ?_)
    refine jm_V.run (is := bk_B_isText_56_1) (pc' := (if (x.2.2 v0 (Int32.toNatClampNeg (v1 + v5))) = b5 then 61 else 59)) (ls' := [(0, .ref v0), (1, .int v1), (2, .int v2), (3, .ref v3), (4, .int v4), (5, .int v5)]) (st' := []) (x' := x4) hok hT bk_B_isText_56_1_ok rfl ?_
    refine jm_V.ite (fun _ => ?_) (fun _ => ?_)
    · refine jm_V.run (is := bk_B_isText_61_2) (pc' := 33) (ls' := [(5, .int (v5 + 1)), (0, .ref v0), (1, .int v1), (2, .int v2), (3, .ref v3), (4, .int v4)]) (st' := []) (x' := x4) hok hT bk_B_isText_61_2_ok rfl ?_
      refine jm_V.sub (ls' := [(0, .ref v0), (1, .int v1), (2, .int v2), (3, .ref v3), (4, .int v4), (5, .int (v5 + 1))]) [1, 2, 3, 4, 5, 0] rfl ?_
      exact hself v0 v1 v2 v3 v4 (v5 + 1) x4
    · refine jm_V.run (is := bk_B_isText_59_1) (pc' := 60) (ls' := [(0, .ref v0), (1, .int v1), (2, .int v2), (3, .ref v3), (4, .int v4), (5, .int v5)]) (st' := [.int 0]) (x' := x4) hok hT bk_B_isText_59_1_ok rfl ?_
      exact jm_V.nret (t := .boolean) rfl rfl dd_B_isText_60
theorem jl_B_isText_33 {l : Launch} {D : va_G} {ad : Nat → Nat} {aC : Nat → ClassId} {b0 : Nat} {K d0 : Nat} {g : jm_Rec} (hok : jm_Ok (jm_PP l D clC ad aC shC b0 1)) (hrec : ∀ (t : Nat) (av : List Value) (x : jm_X), jm_Con (jm_PP l D clC ad aC shC b0 1) (rcC t) d0 av x (g t av x)) : ∀ (k : Nat) (v0 : Nat) (v1 : Int32) (v2 : Int32) (v3 : Nat) (v4 : Int32) (v5 : Int32) (x : jm_X), jm_V (jm_PP l D clC ad aC shC b0 1) mt_B_isText (d0 + 5) 33 [(0, .ref v0), (1, .int v1), (2, .int v2), (3, .ref v3), (4, .int v4), (5, .int v5)] [] x (L_B_isText_33 K g k v0 v1 v2 v3 v4 v5 x)
  | 0, _, _, _, _, _, _, _ => jm_V.stuck
  | k + 1, v0, v1, v2, v3, v4, v5, x => jb_B_isText_33 hok hrec (fun v0 v1 v2 v3 v4 v5 x => jl_B_isText_33 hok hrec k v0 v1 v2 v3 v4 v5 x) v0 v1 v2 v3 v4 v5 x
def f_B_isText (K : Nat) (g : jm_Rec) (a1 : Nat) (a2 : Int32) (a3 : Int32) (a4 : Nat) (a5 : Int32) (x : jm_X) : Option jm_R := (if a2 < 0 then J_B_isText_28 K g x else jm_oN (jm_len shC a1) (fun n1 => (if (Int32.ofNat n1) < a3 then J_B_isText_28 K g x else (if a5 < 0 then J_B_isText_28 K g x else (if jm_cn 2000 73 a4 then jm_bI (f_JS_length K g a4 x) (fun b3 x2 => (if (a3 - a2) ≤ (b3 - a5) then L_B_isText_33 K g K a1 a2 a3 a4 a5 0 x2 else J_B_isText_28 K g x2)) else none)))))
set_option maxRecDepth 100000 in
set_option maxHeartbeats 4000000 in
theorem c_B_isText {l : Launch} {D : va_G} {ad : Nat → Nat} {aC : Nat → ClassId} {b0 : Nat} {K d0 : Nat} {g : jm_Rec} (hok : jm_Ok (jm_PP l D clC ad aC shC b0 1)) (hrec : ∀ (t : Nat) (av : List Value) (x : jm_X), jm_Con (jm_PP l D clC ad aC shC b0 1) (rcC t) d0 av x (g t av x)) (a1 : Nat) (a2 : Int32) (a3 : Int32) (a4 : Nat) (a5 : Int32) (x : jm_X) : jm_Con (jm_PP l D clC ad aC shC b0 1) mt_B_isText (d0 + 5) [.ref a1, .int a2, .int a3, .ref a4, .int a5] x (f_B_isText K g a1 a2 a3 a4 a5 x) := by
  refine jm_Con.of (plainFor_of_name (by decide +kernel)) (Nat.le_of_ble_eq_true rfl) ?_
  have hT := tk_B (l := l) (D := D) (ad := ad) (aC := aC) (b0 := b0)
  unfold f_B_isText
  show jm_V _ _ _ 0 [(0, .ref a1), (1, .int a2), (2, .int a3), (3, .ref a4), (4, .int a5)] [] x _
  refine jm_V.run (is := bk_B_isText_0_2) (pc' := (if a2 < 0 then 28 else 4)) (ls' := [(0, .ref a1), (1, .int a2), (2, .int a3), (3, .ref a4), (4, .int a5)]) (st' := []) (x' := x) hok hT bk_B_isText_0_2_ok rfl ?_
  refine jm_V.ite (fun _ => ?_) (fun _ => ?_)
  · refine jm_V.sub (ls' := []) [] rfl ?_
    exact jj_B_isText_28 hok hrec x
  · refine jm_V.run (is := bk_B_isText_4_2) (pc' := 6) (ls' := [(0, .ref a1), (1, .int a2), (2, .int a3), (3, .ref a4), (4, .int a5)]) (st' := [.ref a1, .int a3]) (x' := x) hok hT bk_B_isText_4_2_ok rfl ?_
    refine jm_V.alenS dd_B_isText_6 (fun n1 => ?_)
    refine jm_V.run (is := bk_B_isText_7_1) (pc' := (if (Int32.ofNat n1) < a3 then 28 else 10)) (ls' := [(0, .ref a1), (1, .int a2), (2, .int a3), (3, .ref a4), (4, .int a5)]) (st' := []) (x' := x) hok hT bk_B_isText_7_1_ok rfl ?_
    refine jm_V.ite (fun _ => ?_) (fun _ => ?_)
    · refine jm_V.sub (ls' := []) [] rfl ?_
      exact jj_B_isText_28 hok hrec x
    · refine jm_V.run (is := bk_B_isText_10_2) (pc' := (if a5 < 0 then 28 else 15)) (ls' := [(0, .ref a1), (1, .int a2), (2, .int a3), (3, .ref a4), (4, .int a5)]) (st' := []) (x' := x) hok hT bk_B_isText_10_2_ok rfl ?_
      refine jm_V.ite (fun _ => ?_) (fun _ => ?_)
      · refine jm_V.sub (ls' := []) [] rfl ?_
        exact jj_B_isText_28 hok hrec x
      · refine jm_V.run (is := bk_B_isText_15_4) (pc' := 19) (ls' := [(0, .ref a1), (1, .int a2), (2, .int a3), (3, .ref a4), (4, .int a5)]) (st' := [.ref a4, .int (a3 - a2)]) (x' := x) hok hT bk_B_isText_15_4_ok rfl ?_
        refine jm_V.guard (fun hg => ?_)
        refine jm_V.callI (av := [.ref a4]) (rest := [.int (a3 - a2)]) hok (jm_Con.mono (c_JS_length (d0 := d0) hok hrec a4 x) (by omega)) (iv_str hok hg dd_B_isText_19 lk_B_13 mn_JS_length ms_JS_length mw_JS_length mh_JS_length ml_JS_length) mw_JS_length mi_JS (Nat.le_of_ble_eq_true rfl) (Nat.le_of_ble_eq_true rfl) (fun b3 x2 => ?_)
        refine jm_V.run (is := bk_B_isText_22_3) (pc' := (if (a3 - a2) ≤ (b3 - a5) then 30 else 28)) (ls' := [(0, .ref a1), (1, .int a2), (2, .int a3), (3, .ref a4), (4, .int a5)]) (st' := []) (x' := x2) hok hT bk_B_isText_22_3_ok rfl ?_
        refine jm_V.ite (fun _ => ?_) (fun _ => ?_)
        · refine jm_V.run (is := bk_B_isText_30_2) (pc' := 33) (ls' := [(5, .int 0), (0, .ref a1), (1, .int a2), (2, .int a3), (3, .ref a4), (4, .int a5)]) (st' := []) (x' := x2) hok hT bk_B_isText_30_2_ok rfl ?_
          refine jm_V.sub (ls' := [(0, .ref a1), (1, .int a2), (2, .int a3), (3, .ref a4), (4, .int a5), (5, .int 0)]) [1, 2, 3, 4, 5, 0] rfl ?_
          exact jl_B_isText_33 hok hrec K a1 a2 a3 a4 a5 0 x2
        · refine jm_V.sub (ls' := []) [] rfl ?_
          exact jj_B_isText_28 hok hrec x2
abbrev bk_B_same_0_2 : List (Nat × Instr × Nat) := [(0, .iload_n 1, 1), (1, .ifCond .lt 23, 3)]
theorem bk_B_same_0_2_ok : jm_at mt_B_same.2.1 bk_B_same_0_2 = true := by decide +kernel
abbrev bk_B_same_4_2 : List (Nat × Instr × Nat) := [(4, .iload_n 2, 1), (5, .ifCond .lt 19, 3)]
theorem bk_B_same_4_2_ok : jm_at mt_B_same.2.1 bk_B_same_4_2 = true := by decide +kernel
abbrev bk_B_same_8_4 : List (Nat × Instr × Nat) := [(8, .iload_n 1, 1), (9, .iload_n 3, 1), (10, .iadd, 1), (11, .aload_n 0, 1)]
theorem bk_B_same_8_4_ok : jm_at mt_B_same.2.1 bk_B_same_8_4 = true := by decide +kernel
abbrev bk_B_same_13_1 : List (Nat × Instr × Nat) := [(13, .if_icmp .gt 11, 3)]
theorem bk_B_same_13_1_ok : jm_at mt_B_same.2.1 bk_B_same_13_1 = true := by decide +kernel
abbrev bk_B_same_16_4 : List (Nat × Instr × Nat) := [(16, .iload_n 2, 1), (17, .iload_n 3, 1), (18, .iadd, 1), (19, .aload_n 0, 1)]
theorem bk_B_same_16_4_ok : jm_at mt_B_same.2.1 bk_B_same_16_4 = true := by decide +kernel
abbrev bk_B_same_21_1 : List (Nat × Instr × Nat) := [(21, .if_icmp .le 5, 3)]
theorem bk_B_same_21_1_ok : jm_at mt_B_same.2.1 bk_B_same_21_1 = true := by decide +kernel
abbrev bk_B_same_26_2 : List (Nat × Instr × Nat) := [(26, .iconst 0, 1), (27, .istore 4, 2)]
theorem bk_B_same_26_2_ok : jm_at mt_B_same.2.1 bk_B_same_26_2 = true := by decide +kernel
abbrev bk_B_same_24_1 : List (Nat × Instr × Nat) := [(24, .iconst 0, 1)]
theorem bk_B_same_24_1_ok : jm_at mt_B_same.2.1 bk_B_same_24_1 = true := by decide +kernel
abbrev bk_B_same_29_3 : List (Nat × Instr × Nat) := [(29, .iload 4, 2), (31, .iload_n 3, 1), (32, .if_icmp .ge 26, 3)]
theorem bk_B_same_29_3_ok : jm_at mt_B_same.2.1 bk_B_same_29_3 = true := by decide +kernel
abbrev bk_B_same_58_1 : List (Nat × Instr × Nat) := [(58, .iconst 1, 1)]
theorem bk_B_same_58_1_ok : jm_at mt_B_same.2.1 bk_B_same_58_1 = true := by decide +kernel
abbrev bk_B_same_35_4 : List (Nat × Instr × Nat) := [(35, .aload_n 0, 1), (36, .iload_n 1, 1), (37, .iload 4, 2), (39, .iadd, 1)]
theorem bk_B_same_35_4_ok : jm_at mt_B_same.2.1 bk_B_same_35_4 = true := by decide +kernel
abbrev bk_B_same_41_4 : List (Nat × Instr × Nat) := [(41, .aload_n 0, 1), (42, .iload_n 2, 1), (43, .iload 4, 2), (45, .iadd, 1)]
theorem bk_B_same_41_4_ok : jm_at mt_B_same.2.1 bk_B_same_41_4 = true := by decide +kernel
abbrev bk_B_same_47_1 : List (Nat × Instr × Nat) := [(47, .if_icmp .eq 5, 3)]
theorem bk_B_same_47_1_ok : jm_at mt_B_same.2.1 bk_B_same_47_1 = true := by decide +kernel
abbrev bk_B_same_52_2 : List (Nat × Instr × Nat) := [(52, .iinc 4 1, 3), (55, .goto (-26), 3)]
theorem bk_B_same_52_2_ok : jm_at mt_B_same.2.1 bk_B_same_52_2 = true := by decide +kernel
abbrev bk_B_same_50_1 : List (Nat × Instr × Nat) := [(50, .iconst 0, 1)]
theorem bk_B_same_50_1_ok : jm_at mt_B_same.2.1 bk_B_same_50_1 = true := by decide +kernel
theorem dd_B_same_20 : decode mt_B_same.2.1 20 = .ok (.arraylength, 1) := by decide +kernel
theorem dd_B_same_12 : decode mt_B_same.2.1 12 = .ok (.arraylength, 1) := by decide +kernel
theorem dd_B_same_25 : decode mt_B_same.2.1 25 = .ok (.ireturn, 1) := by decide +kernel
theorem dd_B_same_59 : decode mt_B_same.2.1 59 = .ok (.ireturn, 1) := by decide +kernel
theorem dd_B_same_51 : decode mt_B_same.2.1 51 = .ok (.ireturn, 1) := by decide +kernel
theorem dd_B_same_46 : decode mt_B_same.2.1 46 = .ok (.baload, 1) := by decide +kernel
theorem dd_B_same_40 : decode mt_B_same.2.1 40 = .ok (.baload, 1) := by decide +kernel
def J_B_same_24 (K : Nat) (g : jm_Rec)  (x : jm_X) : Option jm_R := some (.inl (some (.int 0), x))
set_option maxRecDepth 100000 in
set_option maxHeartbeats 4000000 in
theorem jj_B_same_24 {l : Launch} {D : va_G} {ad : Nat → Nat} {aC : Nat → ClassId} {b0 : Nat} {K d0 : Nat} {g : jm_Rec} (hok : jm_Ok (jm_PP l D clC ad aC shC b0 1)) (hrec : ∀ (t : Nat) (av : List Value) (x : jm_X), jm_Con (jm_PP l D clC ad aC shC b0 1) (rcC t) d0 av x (g t av x))  (x : jm_X) : jm_V (jm_PP l D clC ad aC shC b0 1) mt_B_same (d0 + 1) 24 [] [] x (J_B_same_24 K g  x) := by
  have hT := tk_B (l := l) (D := D) (ad := ad) (aC := aC) (b0 := b0)
  unfold J_B_same_24
  refine jm_V.run (is := bk_B_same_24_1) (pc' := 25) (ls' := []) (st' := [.int 0]) (x' := x) hok hT bk_B_same_24_1_ok rfl ?_
  exact jm_V.nret (t := .boolean) rfl rfl dd_B_same_25
def B_B_same_29 (K : Nat) (g : jm_Rec) (self : Nat → Int32 → Int32 → Int32 → Int32 → jm_X → Option jm_R) (v0 : Nat) (v1 : Int32) (v2 : Int32) (v3 : Int32) (v4 : Int32) (x : jm_X) : Option jm_R := (if v3 ≤ v4 then some (.inl (some (.int 1), x)) else (if jm_in shC v0 .byte (v1 + v4) then (if jm_in shC v0 .byte (v2 + v4) then (if (x.2.2 v0 (Int32.toNatClampNeg (v1 + v4))) = (x.2.2 v0 (Int32.toNatClampNeg (v2 + v4))) then self v0 v1 v2 v3 (v4 + 1) x else some (.inl (some (.int 0), x))) else none) else none))
def L_B_same_29 (K : Nat) (g : jm_Rec) : Nat → Nat → Int32 → Int32 → Int32 → Int32 → jm_X → Option jm_R
  | 0, _, _, _, _, _, _ => none
  | k + 1, v0, v1, v2, v3, v4, x => B_B_same_29 K g (L_B_same_29 K g k) v0 v1 v2 v3 v4 x
set_option maxRecDepth 100000 in
set_option maxHeartbeats 4000000 in
theorem jb_B_same_29 {l : Launch} {D : va_G} {ad : Nat → Nat} {aC : Nat → ClassId} {b0 : Nat} {K d0 : Nat} {g : jm_Rec} (hok : jm_Ok (jm_PP l D clC ad aC shC b0 1)) (hrec : ∀ (t : Nat) (av : List Value) (x : jm_X), jm_Con (jm_PP l D clC ad aC shC b0 1) (rcC t) d0 av x (g t av x)) {self : Nat → Int32 → Int32 → Int32 → Int32 → jm_X → Option jm_R} (hself : ∀ (v0 : Nat) (v1 : Int32) (v2 : Int32) (v3 : Int32) (v4 : Int32) (x : jm_X), jm_V (jm_PP l D clC ad aC shC b0 1) mt_B_same (d0 + 1) 29 [(0, .ref v0), (1, .int v1), (2, .int v2), (3, .int v3), (4, .int v4)] [] x (self v0 v1 v2 v3 v4 x)) (v0 : Nat) (v1 : Int32) (v2 : Int32) (v3 : Int32) (v4 : Int32) (x : jm_X) : jm_V (jm_PP l D clC ad aC shC b0 1) mt_B_same (d0 + 1) 29 [(0, .ref v0), (1, .int v1), (2, .int v2), (3, .int v3), (4, .int v4)] [] x (B_B_same_29 K g self v0 v1 v2 v3 v4 x) := by
  have hT := tk_B (l := l) (D := D) (ad := ad) (aC := aC) (b0 := b0)
  unfold B_B_same_29
  refine jm_V.run (is := bk_B_same_29_3) (pc' := (if v3 ≤ v4 then 58 else 35)) (ls' := [(0, .ref v0), (1, .int v1), (2, .int v2), (3, .int v3), (4, .int v4)]) (st' := []) (x' := x) hok hT bk_B_same_29_3_ok rfl ?_
  refine jm_V.ite (fun _ => ?_) (fun _ => ?_)
  · refine jm_V.run (is := bk_B_same_58_1) (pc' := 59) (ls' := [(0, .ref v0), (1, .int v1), (2, .int v2), (3, .int v3), (4, .int v4)]) (st' := [.int 1]) (x' := x) hok hT bk_B_same_58_1_ok rfl ?_
    exact jm_V.nret (t := .boolean) rfl rfl dd_B_same_59
  · refine jm_V.run (is := bk_B_same_35_4) (pc' := 40) (ls' := [(0, .ref v0), (1, .int v1), (2, .int v2), (3, .int v3), (4, .int v4)]) (st' := [.int (v1 + v4), .ref v0]) (x' := x) hok hT bk_B_same_35_4_ok rfl ?_
    refine jm_V.bald dd_B_same_40 ?_
    refine jm_V.run (is := bk_B_same_41_4) (pc' := 46) (ls' := [(0, .ref v0), (1, .int v1), (2, .int v2), (3, .int v3), (4, .int v4)]) (st' := [.int (v2 + v4), .ref v0, .int (x.2.2 v0 (Int32.toNatClampNeg (v1 + v4)))]) (x' := x) hok hT bk_B_same_41_4_ok rfl ?_
    refine jm_V.bald dd_B_same_46 ?_
    refine jm_V.run (is := bk_B_same_47_1) (pc' := (if (x.2.2 v0 (Int32.toNatClampNeg (v1 + v4))) = (x.2.2 v0 (Int32.toNatClampNeg (v2 + v4))) then 52 else 50)) (ls' := [(0, .ref v0), (1, .int v1), (2, .int v2), (3, .int v3), (4, .int v4)]) (st' := []) (x' := x) hok hT bk_B_same_47_1_ok rfl ?_
    refine jm_V.ite (fun _ => ?_) (fun _ => ?_)
    · refine jm_V.run (is := bk_B_same_52_2) (pc' := 29) (ls' := [(4, .int (v4 + 1)), (0, .ref v0), (1, .int v1), (2, .int v2), (3, .int v3)]) (st' := []) (x' := x) hok hT bk_B_same_52_2_ok rfl ?_
      refine jm_V.sub (ls' := [(0, .ref v0), (1, .int v1), (2, .int v2), (3, .int v3), (4, .int (v4 + 1))]) [1, 2, 3, 4, 0] rfl ?_
      exact hself v0 v1 v2 v3 (v4 + 1) x
    · refine jm_V.run (is := bk_B_same_50_1) (pc' := 51) (ls' := [(0, .ref v0), (1, .int v1), (2, .int v2), (3, .int v3), (4, .int v4)]) (st' := [.int 0]) (x' := x) hok hT bk_B_same_50_1_ok rfl ?_
      exact jm_V.nret (t := .boolean) rfl rfl dd_B_same_51
theorem jl_B_same_29 {l : Launch} {D : va_G} {ad : Nat → Nat} {aC : Nat → ClassId} {b0 : Nat} {K d0 : Nat} {g : jm_Rec} (hok : jm_Ok (jm_PP l D clC ad aC shC b0 1)) (hrec : ∀ (t : Nat) (av : List Value) (x : jm_X), jm_Con (jm_PP l D clC ad aC shC b0 1) (rcC t) d0 av x (g t av x)) : ∀ (k : Nat) (v0 : Nat) (v1 : Int32) (v2 : Int32) (v3 : Int32) (v4 : Int32) (x : jm_X), jm_V (jm_PP l D clC ad aC shC b0 1) mt_B_same (d0 + 1) 29 [(0, .ref v0), (1, .int v1), (2, .int v2), (3, .int v3), (4, .int v4)] [] x (L_B_same_29 K g k v0 v1 v2 v3 v4 x)
  | 0, _, _, _, _, _, _ => jm_V.stuck
  | k + 1, v0, v1, v2, v3, v4, x => jb_B_same_29 hok hrec (fun v0 v1 v2 v3 v4 x => jl_B_same_29 hok hrec k v0 v1 v2 v3 v4 x) v0 v1 v2 v3 v4 x
def f_B_same (K : Nat) (g : jm_Rec) (a1 : Nat) (a2 : Int32) (a3 : Int32) (a4 : Int32) (x : jm_X) : Option jm_R := (if a2 < 0 then J_B_same_24 K g x else (if a3 < 0 then J_B_same_24 K g x else jm_oN (jm_len shC a1) (fun n1 => (if (Int32.ofNat n1) < (a2 + a4) then J_B_same_24 K g x else jm_oN (jm_len shC a1) (fun n2 => (if (a3 + a4) ≤ (Int32.ofNat n2) then L_B_same_29 K g K a1 a2 a3 a4 0 x else J_B_same_24 K g x))))))
set_option maxRecDepth 100000 in
set_option maxHeartbeats 4000000 in
theorem c_B_same {l : Launch} {D : va_G} {ad : Nat → Nat} {aC : Nat → ClassId} {b0 : Nat} {K d0 : Nat} {g : jm_Rec} (hok : jm_Ok (jm_PP l D clC ad aC shC b0 1)) (hrec : ∀ (t : Nat) (av : List Value) (x : jm_X), jm_Con (jm_PP l D clC ad aC shC b0 1) (rcC t) d0 av x (g t av x)) (a1 : Nat) (a2 : Int32) (a3 : Int32) (a4 : Int32) (x : jm_X) : jm_Con (jm_PP l D clC ad aC shC b0 1) mt_B_same (d0 + 1) [.ref a1, .int a2, .int a3, .int a4] x (f_B_same K g a1 a2 a3 a4 x) := by
  refine jm_Con.of (plainFor_of_name (by decide +kernel)) (Nat.le_of_ble_eq_true rfl) ?_
  have hT := tk_B (l := l) (D := D) (ad := ad) (aC := aC) (b0 := b0)
  unfold f_B_same
  show jm_V _ _ _ 0 [(0, .ref a1), (1, .int a2), (2, .int a3), (3, .int a4)] [] x _
  refine jm_V.run (is := bk_B_same_0_2) (pc' := (if a2 < 0 then 24 else 4)) (ls' := [(0, .ref a1), (1, .int a2), (2, .int a3), (3, .int a4)]) (st' := []) (x' := x) hok hT bk_B_same_0_2_ok rfl ?_
  refine jm_V.ite (fun _ => ?_) (fun _ => ?_)
  · refine jm_V.sub (ls' := []) [] rfl ?_
    exact jj_B_same_24 hok hrec x
  · refine jm_V.run (is := bk_B_same_4_2) (pc' := (if a3 < 0 then 24 else 8)) (ls' := [(0, .ref a1), (1, .int a2), (2, .int a3), (3, .int a4)]) (st' := []) (x' := x) hok hT bk_B_same_4_2_ok rfl ?_
    refine jm_V.ite (fun _ => ?_) (fun _ => ?_)
    · refine jm_V.sub (ls' := []) [] rfl ?_
      exact jj_B_same_24 hok hrec x
    · refine jm_V.run (is := bk_B_same_8_4) (pc' := 12) (ls' := [(0, .ref a1), (1, .int a2), (2, .int a3), (3, .int a4)]) (st' := [.ref a1, .int (a2 + a4)]) (x' := x) hok hT bk_B_same_8_4_ok rfl ?_
      refine jm_V.alenS dd_B_same_12 (fun n1 => ?_)
      refine jm_V.run (is := bk_B_same_13_1) (pc' := (if (Int32.ofNat n1) < (a2 + a4) then 24 else 16)) (ls' := [(0, .ref a1), (1, .int a2), (2, .int a3), (3, .int a4)]) (st' := []) (x' := x) hok hT bk_B_same_13_1_ok rfl ?_
      refine jm_V.ite (fun _ => ?_) (fun _ => ?_)
      · refine jm_V.sub (ls' := []) [] rfl ?_
        exact jj_B_same_24 hok hrec x
      · refine jm_V.run (is := bk_B_same_16_4) (pc' := 20) (ls' := [(0, .ref a1), (1, .int a2), (2, .int a3), (3, .int a4)]) (st' := [.ref a1, .int (a3 + a4)]) (x' := x) hok hT bk_B_same_16_4_ok rfl ?_
        refine jm_V.alenS dd_B_same_20 (fun n2 => ?_)
        refine jm_V.run (is := bk_B_same_21_1) (pc' := (if (a3 + a4) ≤ (Int32.ofNat n2) then 26 else 24)) (ls' := [(0, .ref a1), (1, .int a2), (2, .int a3), (3, .int a4)]) (st' := []) (x' := x) hok hT bk_B_same_21_1_ok rfl ?_
        refine jm_V.ite (fun _ => ?_) (fun _ => ?_)
        · refine jm_V.run (is := bk_B_same_26_2) (pc' := 29) (ls' := [(4, .int 0), (0, .ref a1), (1, .int a2), (2, .int a3), (3, .int a4)]) (st' := []) (x' := x) hok hT bk_B_same_26_2_ok rfl ?_
          refine jm_V.sub (ls' := [(0, .ref a1), (1, .int a2), (2, .int a3), (3, .int a4), (4, .int 0)]) [1, 2, 3, 4, 0] rfl ?_
          exact jl_B_same_29 hok hrec K a1 a2 a3 a4 0 x
        · refine jm_V.sub (ls' := []) [] rfl ?_
          exact jj_B_same_24 hok hrec x
abbrev bk_K_isKind_0_2 : List (Nat × Instr × Nat) := [(0, .iload_n 0, 1), (1, .ifCond .lt 19, 3)]
theorem bk_K_isKind_0_2_ok : jm_at mt_K_isKind.2.1 bk_K_isKind_0_2 = true := by decide +kernel
abbrev bk_K_isKind_4_3 : List (Nat × Instr × Nat) := [(4, .iload_n 0, 1), (5, .bipush 34, 2), (7, .if_icmp .ge 13, 3)]
theorem bk_K_isKind_4_3_ok : jm_at mt_K_isKind.2.1 bk_K_isKind_4_3 = true := by decide +kernel
abbrev bk_K_isKind_10_3 : List (Nat × Instr × Nat) := [(10, .iload_n 0, 1), (11, .bipush 29, 2), (13, .if_icmp .eq 7, 3)]
theorem bk_K_isKind_10_3_ok : jm_at mt_K_isKind.2.1 bk_K_isKind_10_3 = true := by decide +kernel
abbrev bk_K_isKind_16_2 : List (Nat × Instr × Nat) := [(16, .iconst 1, 1), (17, .goto 4, 3)]
theorem bk_K_isKind_16_2_ok : jm_at mt_K_isKind.2.1 bk_K_isKind_16_2 = true := by decide +kernel
abbrev bk_K_isKind_20_1 : List (Nat × Instr × Nat) := [(20, .iconst 0, 1)]
theorem bk_K_isKind_20_1_ok : jm_at mt_K_isKind.2.1 bk_K_isKind_20_1 = true := by decide +kernel
theorem dd_K_isKind_21 : decode mt_K_isKind.2.1 21 = .ok (.ireturn, 1) := by decide +kernel
def J_K_isKind_21 (K : Nat) (g : jm_Rec) (s0 : Int32) (x : jm_X) : Option jm_R := some (.inl (some (.int (vp_nar .boolean s0)), x))
set_option maxRecDepth 100000 in
set_option maxHeartbeats 4000000 in
theorem jj_K_isKind_21 {l : Launch} {D : va_G} {ad : Nat → Nat} {aC : Nat → ClassId} {b0 : Nat} {K d0 : Nat} {g : jm_Rec} (hok : jm_Ok (jm_PP l D clC ad aC shC b0 1)) (hrec : ∀ (t : Nat) (av : List Value) (x : jm_X), jm_Con (jm_PP l D clC ad aC shC b0 1) (rcC t) d0 av x (g t av x)) (s0 : Int32) (x : jm_X) : jm_V (jm_PP l D clC ad aC shC b0 1) mt_K_isKind (d0 + 1) 21 [] [.int s0] x (J_K_isKind_21 K g s0 x) := by
  have hT := tk_K (l := l) (D := D) (ad := ad) (aC := aC) (b0 := b0)
  unfold J_K_isKind_21
  exact jm_V.nret (t := .boolean) rfl rfl dd_K_isKind_21
def J_K_isKind_20 (K : Nat) (g : jm_Rec)  (x : jm_X) : Option jm_R := J_K_isKind_21 K g 0 x
set_option maxRecDepth 100000 in
set_option maxHeartbeats 4000000 in
theorem jj_K_isKind_20 {l : Launch} {D : va_G} {ad : Nat → Nat} {aC : Nat → ClassId} {b0 : Nat} {K d0 : Nat} {g : jm_Rec} (hok : jm_Ok (jm_PP l D clC ad aC shC b0 1)) (hrec : ∀ (t : Nat) (av : List Value) (x : jm_X), jm_Con (jm_PP l D clC ad aC shC b0 1) (rcC t) d0 av x (g t av x))  (x : jm_X) : jm_V (jm_PP l D clC ad aC shC b0 1) mt_K_isKind (d0 + 1) 20 [] [] x (J_K_isKind_20 K g  x) := by
  have hT := tk_K (l := l) (D := D) (ad := ad) (aC := aC) (b0 := b0)
  unfold J_K_isKind_20
  refine jm_V.run (is := bk_K_isKind_20_1) (pc' := 21) (ls' := []) (st' := [.int 0]) (x' := x) hok hT bk_K_isKind_20_1_ok rfl ?_
  exact jj_K_isKind_21 hok hrec 0 x
def f_K_isKind (K : Nat) (g : jm_Rec) (a1 : Int32) (x : jm_X) : Option jm_R := (if a1 < 0 then J_K_isKind_20 K g x else (if 34 ≤ a1 then J_K_isKind_20 K g x else (if a1 = 29 then J_K_isKind_20 K g x else J_K_isKind_21 K g 1 x)))
set_option maxRecDepth 100000 in
set_option maxHeartbeats 4000000 in
theorem c_K_isKind {l : Launch} {D : va_G} {ad : Nat → Nat} {aC : Nat → ClassId} {b0 : Nat} {K d0 : Nat} {g : jm_Rec} (hok : jm_Ok (jm_PP l D clC ad aC shC b0 1)) (hrec : ∀ (t : Nat) (av : List Value) (x : jm_X), jm_Con (jm_PP l D clC ad aC shC b0 1) (rcC t) d0 av x (g t av x)) (a1 : Int32) (x : jm_X) : jm_Con (jm_PP l D clC ad aC shC b0 1) mt_K_isKind (d0 + 1) [.int a1] x (f_K_isKind K g a1 x) := by
  refine jm_Con.of (plainFor_of_name (by decide +kernel)) (Nat.le_of_ble_eq_true rfl) ?_
  have hT := tk_K (l := l) (D := D) (ad := ad) (aC := aC) (b0 := b0)
  unfold f_K_isKind
  show jm_V _ _ _ 0 [(0, .int a1)] [] x _
  refine jm_V.run (is := bk_K_isKind_0_2) (pc' := (if a1 < 0 then 20 else 4)) (ls' := [(0, .int a1)]) (st' := []) (x' := x) hok hT bk_K_isKind_0_2_ok rfl ?_
  refine jm_V.ite (fun _ => ?_) (fun _ => ?_)
  · refine jm_V.sub (ls' := []) [] rfl ?_
    exact jj_K_isKind_20 hok hrec x
  · refine jm_V.run (is := bk_K_isKind_4_3) (pc' := (if 34 ≤ a1 then 20 else 10)) (ls' := [(0, .int a1)]) (st' := []) (x' := x) hok hT bk_K_isKind_4_3_ok rfl ?_
    refine jm_V.ite (fun _ => ?_) (fun _ => ?_)
    · refine jm_V.sub (ls' := []) [] rfl ?_
      exact jj_K_isKind_20 hok hrec x
    · refine jm_V.run (is := bk_K_isKind_10_3) (pc' := (if a1 = 29 then 20 else 16)) (ls' := [(0, .int a1)]) (st' := []) (x' := x) hok hT bk_K_isKind_10_3_ok rfl ?_
      refine jm_V.ite (fun _ => ?_) (fun _ => ?_)
      · refine jm_V.sub (ls' := []) [] rfl ?_
        exact jj_K_isKind_20 hok hrec x
      · refine jm_V.run (is := bk_K_isKind_16_2) (pc' := 21) (ls' := [(0, .int a1)]) (st' := [.int 1]) (x' := x) hok hT bk_K_isKind_16_2_ok rfl ?_
        refine jm_V.sub (ls' := []) [] rfl ?_
        exact jj_K_isKind_21 hok hrec 1 x
abbrev bk_E_ofName_0_2 : List (Nat × Instr × Nat) := [(0, .iconst 0, 1), (1, .istore_n 3, 1)]
theorem bk_E_ofName_0_2_ok : jm_at mt_E_ofName.2.1 bk_E_ofName_0_2 = true := by decide +kernel
abbrev bk_E_ofName_2_2 : List (Nat × Instr × Nat) := [(2, .iload_n 3, 1), (3, .getstatic 226, 3)]
theorem bk_E_ofName_2_2_ok : jm_at mt_E_ofName.2.1 bk_E_ofName_2_2 = true := by decide +kernel
abbrev bk_E_ofName_7_1 : List (Nat × Instr × Nat) := [(7, .if_icmp .ge 56, 3)]
theorem bk_E_ofName_7_1_ok : jm_at mt_E_ofName.2.1 bk_E_ofName_7_1 = true := by decide +kernel
abbrev bk_E_ofName_63_1 : List (Nat × Instr × Nat) := [(63, .getstatic 10, 3)]
theorem bk_E_ofName_63_1_ok : jm_at mt_E_ofName.2.1 bk_E_ofName_63_1 = true := by decide +kernel
abbrev bk_E_ofName_10_2 : List (Nat × Instr × Nat) := [(10, .getstatic 226, 3), (13, .iload_n 3, 1)]
theorem bk_E_ofName_10_2_ok : jm_at mt_E_ofName.2.1 bk_E_ofName_10_2 = true := by decide +kernel
abbrev bk_E_ofName_15_2 : List (Nat × Instr × Nat) := [(15, .astore 4, 2), (17, .aload 4, 2)]
theorem bk_E_ofName_15_2_ok : jm_at mt_E_ofName.2.1 bk_E_ofName_15_2 = true := by decide +kernel
abbrev bk_E_ofName_22_1 : List (Nat × Instr × Nat) := [(22, .ifCond .eq 35, 3)]
theorem bk_E_ofName_22_1_ok : jm_at mt_E_ofName.2.1 bk_E_ofName_22_1 = true := by decide +kernel
abbrev bk_E_ofName_25_1 : List (Nat × Instr × Nat) := [(25, .aload 4, 2)]
theorem bk_E_ofName_25_1_ok : jm_at mt_E_ofName.2.1 bk_E_ofName_25_1 = true := by decide +kernel
abbrev bk_E_ofName_33_4 : List (Nat × Instr × Nat) := [(33, .iload_n 2, 1), (34, .iload_n 1, 1), (35, .isub, 1), (36, .if_icmp .ne 21, 3)]
theorem bk_E_ofName_33_4_ok : jm_at mt_E_ofName.2.1 bk_E_ofName_33_4 = true := by decide +kernel
abbrev bk_E_ofName_39_4 : List (Nat × Instr × Nat) := [(39, .aload_n 0, 1), (40, .iload_n 1, 1), (41, .iload_n 2, 1), (42, .aload 4, 2)]
theorem bk_E_ofName_39_4_ok : jm_at mt_E_ofName.2.1 bk_E_ofName_39_4 = true := by decide +kernel
abbrev bk_E_ofName_47_1 : List (Nat × Instr × Nat) := [(47, .iconst 0, 1)]
theorem bk_E_ofName_47_1_ok : jm_at mt_E_ofName.2.1 bk_E_ofName_47_1 = true := by decide +kernel
abbrev bk_E_ofName_51_1 : List (Nat × Instr × Nat) := [(51, .ifCond .eq 6, 3)]
theorem bk_E_ofName_51_1_ok : jm_at mt_E_ofName.2.1 bk_E_ofName_51_1 = true := by decide +kernel
abbrev bk_E_ofName_54_1 : List (Nat × Instr × Nat) := [(54, .aload 4, 2)]
theorem bk_E_ofName_54_1_ok : jm_at mt_E_ofName.2.1 bk_E_ofName_54_1 = true := by decide +kernel
abbrev bk_E_ofName_57_2 : List (Nat × Instr × Nat) := [(57, .iinc 3 1, 3), (60, .goto (-58), 3)]
theorem bk_E_ofName_57_2_ok : jm_at mt_E_ofName.2.1 bk_E_ofName_57_2 = true := by decide +kernel
theorem dd_E_ofName_66 : decode mt_E_ofName.2.1 66 = .ok (.areturn, 1) := by decide +kernel
theorem dd_E_ofName_30 : decode mt_E_ofName.2.1 30 = .ok (.invokevirtual 229, 3) := by decide +kernel
theorem dd_E_ofName_48 : decode mt_E_ofName.2.1 48 = .ok (.invokestatic 233, 3) := by decide +kernel
theorem dd_E_ofName_56 : decode mt_E_ofName.2.1 56 = .ok (.areturn, 1) := by decide +kernel
theorem dd_E_ofName_44 : decode mt_E_ofName.2.1 44 = .ok (.getfield 195, 3) := by decide +kernel
theorem dd_E_ofName_27 : decode mt_E_ofName.2.1 27 = .ok (.getfield 195, 3) := by decide +kernel
theorem dd_E_ofName_19 : decode mt_E_ofName.2.1 19 = .ok (.getfield 222, 3) := by decide +kernel
theorem dd_E_ofName_14 : decode mt_E_ofName.2.1 14 = .ok (.aaload, 1) := by decide +kernel
theorem dd_E_ofName_6 : decode mt_E_ofName.2.1 6 = .ok (.arraylength, 1) := by decide +kernel
def J_E_ofName_57 (K : Nat) (g : jm_Rec) (k2 : Nat → Int32 → Int32 → Int32 → jm_X → Option jm_R) (v0 : Nat) (v1 : Int32) (v2 : Int32) (v3 : Int32) (x : jm_X) : Option jm_R := k2 v0 v1 v2 (v3 + 1) x
set_option maxRecDepth 100000 in
set_option maxHeartbeats 4000000 in
theorem jj_E_ofName_57 {l : Launch} {D : va_G} {ad : Nat → Nat} {aC : Nat → ClassId} {b0 : Nat} {K d0 : Nat} {g : jm_Rec} (hok : jm_Ok (jm_PP l D clC ad aC shC b0 1)) (hrec : ∀ (t : Nat) (av : List Value) (x : jm_X), jm_Con (jm_PP l D clC ad aC shC b0 1) (rcC t) d0 av x (g t av x)) {k2 : Nat → Int32 → Int32 → Int32 → jm_X → Option jm_R} (hk2 : ∀ (v0 : Nat) (v1 : Int32) (v2 : Int32) (v3 : Int32) (x : jm_X), jm_V (jm_PP l D clC ad aC shC b0 1) mt_E_ofName (d0 + 6) 2 [(0, .ref v0), (1, .int v1), (2, .int v2), (3, .int v3)] [] x (k2 v0 v1 v2 v3 x)) (v0 : Nat) (v1 : Int32) (v2 : Int32) (v3 : Int32) (x : jm_X) : jm_V (jm_PP l D clC ad aC shC b0 1) mt_E_ofName (d0 + 6) 57 [(0, .ref v0), (1, .int v1), (2, .int v2), (3, .int v3)] [] x (J_E_ofName_57 K g k2 v0 v1 v2 v3 x) := by
  have hT := tk_E (l := l) (D := D) (ad := ad) (aC := aC) (b0 := b0)
  unfold J_E_ofName_57
  refine jm_V.run (is := bk_E_ofName_57_2) (pc' := 2) (ls' := [(3, .int (v3 + 1)), (0, .ref v0), (1, .int v1), (2, .int v2)]) (st' := []) (x' := x) hok hT bk_E_ofName_57_2_ok rfl ?_
  refine jm_V.sub (ls' := [(0, .ref v0), (1, .int v1), (2, .int v2), (3, .int (v3 + 1))]) [1, 2, 3, 0] rfl ?_
  exact hk2 v0 v1 v2 (v3 + 1) x
def B_E_ofName_2 (K : Nat) (g : jm_Rec) (self : Nat → Int32 → Int32 → Int32 → jm_X → Option jm_R) (v0 : Nat) (v1 : Int32) (v2 : Int32) (v3 : Int32) (x : jm_X) : Option jm_R := (if jm_cn 900 1 900 then (if (Int32.ofNat 55) ≤ v3 then some (.inl (some (.ref 1002), x)) else (if jm_ix 55 v3 then (if jm_cn 1000 55 (1000 + Int32.toNatClampNeg v3) then (if (sg_word.getD ((1000 + Int32.toNatClampNeg v3) - 1000) 0) = 0 then J_E_ofName_57 K g self v0 v1 v2 v3 x else (if jm_cn 1000 55 (1000 + Int32.toNatClampNeg v3) then (if jm_cn 2000 73 (2000 + sg_txt.getD ((1000 + Int32.toNatClampNeg v3) - 1000) 0) then jm_bI (f_JS_length K g (2000 + sg_txt.getD ((1000 + Int32.toNatClampNeg v3) - 1000) 0) x) (fun b2 x1 => (if b2 = (v2 - v1) then (if jm_cn 1000 55 (1000 + Int32.toNatClampNeg v3) then jm_bI (f_B_isText K g v0 v1 v2 (2000 + sg_txt.getD ((1000 + Int32.toNatClampNeg v3) - 1000) 0) 0 x1) (fun b4 x3 => (if b4 = 0 then J_E_ofName_57 K g self v0 v1 v2 v3 x3 else some (.inl (some (.ref (1000 + Int32.toNatClampNeg v3)), x3)))) else none) else J_E_ofName_57 K g self v0 v1 v2 v3 x1)) else none) else none)) else none) else none)) else none)
def L_E_ofName_2 (K : Nat) (g : jm_Rec) : Nat → Nat → Int32 → Int32 → Int32 → jm_X → Option jm_R
  | 0, _, _, _, _, _ => none
  | k + 1, v0, v1, v2, v3, x => B_E_ofName_2 K g (L_E_ofName_2 K g k) v0 v1 v2 v3 x
set_option maxRecDepth 100000 in
set_option maxHeartbeats 4000000 in
theorem jb_E_ofName_2 {l : Launch} {D : va_G} {ad : Nat → Nat} {aC : Nat → ClassId} {b0 : Nat} {K d0 : Nat} {g : jm_Rec} (hok : jm_Ok (jm_PP l D clC ad aC shC b0 1)) (hrec : ∀ (t : Nat) (av : List Value) (x : jm_X), jm_Con (jm_PP l D clC ad aC shC b0 1) (rcC t) d0 av x (g t av x)) {self : Nat → Int32 → Int32 → Int32 → jm_X → Option jm_R} (hself : ∀ (v0 : Nat) (v1 : Int32) (v2 : Int32) (v3 : Int32) (x : jm_X), jm_V (jm_PP l D clC ad aC shC b0 1) mt_E_ofName (d0 + 6) 2 [(0, .ref v0), (1, .int v1), (2, .int v2), (3, .int v3)] [] x (self v0 v1 v2 v3 x)) (v0 : Nat) (v1 : Int32) (v2 : Int32) (v3 : Int32) (x : jm_X) : jm_V (jm_PP l D clC ad aC shC b0 1) mt_E_ofName (d0 + 6) 2 [(0, .ref v0), (1, .int v1), (2, .int v2), (3, .int v3)] [] x (B_E_ofName_2 K g self v0 v1 v2 v3 x) := by
  have hT := tk_E (l := l) (D := D) (ad := ad) (aC := aC) (b0 := b0)
  unfold B_E_ofName_2
  refine jm_V.run (is := bk_E_ofName_2_2) (pc' := 6) (ls' := [(0, .ref v0), (1, .int v1), (2, .int v2), (3, .int v3)]) (st' := [.ref 900, .int v3]) (x' := x) hok hT bk_E_ofName_2_2_ok rfl ?_
  refine jm_V.tlen (lo := 900) (N := 1) (len := fun _ => 55) (f := fun _ j => .ref (ad (1000 + j))) hok cs_all dd_E_ofName_6 ?_
  refine jm_V.run (is := bk_E_ofName_7_1) (pc' := (if (Int32.ofNat 55) ≤ v3 then 63 else 10)) (ls' := [(0, .ref v0), (1, .int v1), (2, .int v2), (3, .int v3)]) (st' := []) (x' := x) hok hT bk_E_ofName_7_1_ok rfl ?_
  refine jm_V.ite (fun _ => ?_) (fun _ => ?_)
  · refine jm_V.run (is := bk_E_ofName_63_1) (pc' := 66) (ls' := [(0, .ref v0), (1, .int v1), (2, .int v2), (3, .int v3)]) (st' := [.ref 1002]) (x' := x) hok hT bk_E_ofName_63_1_ok rfl ?_
    exact jm_V.aret rfl (Or.inl ⟨_, rfl⟩) dd_E_ofName_66
  · refine jm_V.run (is := bk_E_ofName_10_2) (pc' := 14) (ls' := [(0, .ref v0), (1, .int v1), (2, .int v2), (3, .int v3)]) (st' := [.int v3, .ref 900]) (x' := x) hok hT bk_E_ofName_10_2_ok rfl ?_
    refine jm_V.taald (f := fun j => 1000 + j) hok cs_all0 dd_E_ofName_14 ?_
    refine jm_V.run (is := bk_E_ofName_15_2) (pc' := 19) (ls' := [(4, .ref (1000 + Int32.toNatClampNeg v3)), (0, .ref v0), (1, .int v1), (2, .int v2), (3, .int v3)]) (st' := [.ref (1000 + Int32.toNatClampNeg v3)]) (x' := x) hok hT bk_E_ofName_15_2_ok rfl ?_
    refine jm_V.getC (v := fun i => .int (sg_word.getD i 0)) hok cs_word (Or.inl lf_E_222) dd_E_ofName_19 ?_
    refine jm_V.run (is := bk_E_ofName_22_1) (pc' := (if (sg_word.getD ((1000 + Int32.toNatClampNeg v3) - 1000) 0) = 0 then 57 else 25)) (ls' := [(4, .ref (1000 + Int32.toNatClampNeg v3)), (0, .ref v0), (1, .int v1), (2, .int v2), (3, .int v3)]) (st' := []) (x' := x) hok hT bk_E_ofName_22_1_ok rfl ?_
    refine jm_V.ite (fun _ => ?_) (fun _ => ?_)
    · refine jm_V.sub (ls' := [(0, .ref v0), (1, .int v1), (2, .int v2), (3, .int v3)]) [1, 2, 3, 4] rfl ?_
      exact jj_E_ofName_57 hok hrec hself v0 v1 v2 v3 x
    · refine jm_V.run (is := bk_E_ofName_25_1) (pc' := 27) (ls' := [(4, .ref (1000 + Int32.toNatClampNeg v3)), (0, .ref v0), (1, .int v1), (2, .int v2), (3, .int v3)]) (st' := [.ref (1000 + Int32.toNatClampNeg v3)]) (x' := x) hok hT bk_E_ofName_25_1_ok rfl ?_
      refine jm_V.getC (v := fun i => .ref (2000 + sg_txt.getD i 0)) hok cs_text (Or.inl lf_E_195) dd_E_ofName_27 ?_
      refine jm_V.guard (fun hg => ?_)
      refine jm_V.callI (av := [.ref (2000 + sg_txt.getD ((1000 + Int32.toNatClampNeg v3) - 1000) 0)]) (rest := []) hok (jm_Con.mono (c_JS_length (d0 := d0) hok hrec (2000 + sg_txt.getD ((1000 + Int32.toNatClampNeg v3) - 1000) 0) x) (by omega)) (iv_str hok hg dd_E_ofName_30 lk_E_229 mn_JS_length ms_JS_length mw_JS_length mh_JS_length ml_JS_length) mw_JS_length mi_JS (Nat.le_of_ble_eq_true rfl) (Nat.le_of_ble_eq_true rfl) (fun b2 x1 => ?_)
      refine jm_V.run (is := bk_E_ofName_33_4) (pc' := (if b2 = (v2 - v1) then 39 else 57)) (ls' := [(4, .ref (1000 + Int32.toNatClampNeg v3)), (0, .ref v0), (1, .int v1), (2, .int v2), (3, .int v3)]) (st' := []) (x' := x1) hok hT bk_E_ofName_33_4_ok rfl ?_
      refine jm_V.ite (fun _ => ?_) (fun _ => ?_)
      · refine jm_V.run (is := bk_E_ofName_39_4) (pc' := 44) (ls' := [(4, .ref (1000 + Int32.toNatClampNeg v3)), (0, .ref v0), (1, .int v1), (2, .int v2), (3, .int v3)]) (st' := [.ref (1000 + Int32.toNatClampNeg v3), .int v2, .int v1, .ref v0]) (x' := x1) hok hT bk_E_ofName_39_4_ok rfl ?_
        refine jm_V.getC (v := fun i => .ref (2000 + sg_txt.getD i 0)) hok cs_text (Or.inl lf_E_195) dd_E_ofName_44 ?_
        refine jm_V.run (is := bk_E_ofName_47_1) (pc' := 48) (ls' := [(4, .ref (1000 + Int32.toNatClampNeg v3)), (0, .ref v0), (1, .int v1), (2, .int v2), (3, .int v3)]) (st' := [.int 0, .ref (2000 + sg_txt.getD ((1000 + Int32.toNatClampNeg v3) - 1000) 0), .int v2, .int v1, .ref v0]) (x' := x1) hok hT bk_E_ofName_47_1_ok rfl ?_
        refine jm_V.callI (av := [.ref v0, .int v1, .int v2, .ref (2000 + sg_txt.getD ((1000 + Int32.toNatClampNeg v3) - 1000) 0), .int 0]) (rest := []) hok (jm_Con.mono (c_B_isText hok hrec v0 v1 v2 (2000 + sg_txt.getD ((1000 + Int32.toNatClampNeg v3) - 1000) 0) 0 x1) (by omega)) (jm_Inv.stat dd_E_ofName_48 (Or.inl lk_E_233) mq_B_isText mi_B mw_B_isText mh_B_isText ml_B_isText) mw_B_isText mi_B (Nat.le_of_ble_eq_true rfl) (Nat.le_of_ble_eq_true rfl) (fun b4 x3 => ?_)
        refine jm_V.run (is := bk_E_ofName_51_1) (pc' := (if b4 = 0 then 57 else 54)) (ls' := [(4, .ref (1000 + Int32.toNatClampNeg v3)), (0, .ref v0), (1, .int v1), (2, .int v2), (3, .int v3)]) (st' := []) (x' := x3) hok hT bk_E_ofName_51_1_ok rfl ?_
        refine jm_V.ite (fun _ => ?_) (fun _ => ?_)
        · refine jm_V.sub (ls' := [(0, .ref v0), (1, .int v1), (2, .int v2), (3, .int v3)]) [1, 2, 3, 4] rfl ?_
          exact jj_E_ofName_57 hok hrec hself v0 v1 v2 v3 x3
        · refine jm_V.run (is := bk_E_ofName_54_1) (pc' := 56) (ls' := [(4, .ref (1000 + Int32.toNatClampNeg v3)), (0, .ref v0), (1, .int v1), (2, .int v2), (3, .int v3)]) (st' := [.ref (1000 + Int32.toNatClampNeg v3)]) (x' := x3) hok hT bk_E_ofName_54_1_ok rfl ?_
          exact jm_V.aret rfl (Or.inl ⟨_, rfl⟩) dd_E_ofName_56
      · refine jm_V.sub (ls' := [(0, .ref v0), (1, .int v1), (2, .int v2), (3, .int v3)]) [1, 2, 3, 4] rfl ?_
        exact jj_E_ofName_57 hok hrec hself v0 v1 v2 v3 x1
theorem jl_E_ofName_2 {l : Launch} {D : va_G} {ad : Nat → Nat} {aC : Nat → ClassId} {b0 : Nat} {K d0 : Nat} {g : jm_Rec} (hok : jm_Ok (jm_PP l D clC ad aC shC b0 1)) (hrec : ∀ (t : Nat) (av : List Value) (x : jm_X), jm_Con (jm_PP l D clC ad aC shC b0 1) (rcC t) d0 av x (g t av x)) : ∀ (k : Nat) (v0 : Nat) (v1 : Int32) (v2 : Int32) (v3 : Int32) (x : jm_X), jm_V (jm_PP l D clC ad aC shC b0 1) mt_E_ofName (d0 + 6) 2 [(0, .ref v0), (1, .int v1), (2, .int v2), (3, .int v3)] [] x (L_E_ofName_2 K g k v0 v1 v2 v3 x)
  | 0, _, _, _, _, _ => jm_V.stuck
  | k + 1, v0, v1, v2, v3, x => jb_E_ofName_2 hok hrec (fun v0 v1 v2 v3 x => jl_E_ofName_2 hok hrec k v0 v1 v2 v3 x) v0 v1 v2 v3 x
def f_E_ofName (K : Nat) (g : jm_Rec) (a1 : Nat) (a2 : Int32) (a3 : Int32) (x : jm_X) : Option jm_R := L_E_ofName_2 K g K a1 a2 a3 0 x
set_option maxRecDepth 100000 in
set_option maxHeartbeats 4000000 in
theorem c_E_ofName {l : Launch} {D : va_G} {ad : Nat → Nat} {aC : Nat → ClassId} {b0 : Nat} {K d0 : Nat} {g : jm_Rec} (hok : jm_Ok (jm_PP l D clC ad aC shC b0 1)) (hrec : ∀ (t : Nat) (av : List Value) (x : jm_X), jm_Con (jm_PP l D clC ad aC shC b0 1) (rcC t) d0 av x (g t av x)) (a1 : Nat) (a2 : Int32) (a3 : Int32) (x : jm_X) : jm_Con (jm_PP l D clC ad aC shC b0 1) mt_E_ofName (d0 + 6) [.ref a1, .int a2, .int a3] x (f_E_ofName K g a1 a2 a3 x) := by
  refine jm_Con.of (plainFor_of_name (by decide +kernel)) (Nat.le_of_ble_eq_true rfl) ?_
  have hT := tk_E (l := l) (D := D) (ad := ad) (aC := aC) (b0 := b0)
  unfold f_E_ofName
  show jm_V _ _ _ 0 [(0, .ref a1), (1, .int a2), (2, .int a3)] [] x _
  refine jm_V.run (is := bk_E_ofName_0_2) (pc' := 2) (ls' := [(3, .int 0), (0, .ref a1), (1, .int a2), (2, .int a3)]) (st' := []) (x' := x) hok hT bk_E_ofName_0_2_ok rfl ?_
  refine jm_V.sub (ls' := [(0, .ref a1), (1, .int a2), (2, .int a3), (3, .int 0)]) [1, 2, 3, 0] rfl ?_
  exact jl_E_ofName_2 hok hrec K a1 a2 a3 0 x
abbrev bk_E_ofSymbol_0_4 : List (Nat × Instr × Nat) := [(0, .getstatic 7, 3), (3, .astore_n 3, 1), (4, .iconst 0, 1), (5, .istore 4, 2)]
theorem bk_E_ofSymbol_0_4_ok : jm_at mt_E_ofSymbol.2.1 bk_E_ofSymbol_0_4 = true := by decide +kernel
abbrev bk_E_ofSymbol_7_2 : List (Nat × Instr × Nat) := [(7, .iload 4, 2), (9, .getstatic 226, 3)]
theorem bk_E_ofSymbol_7_2_ok : jm_at mt_E_ofSymbol.2.1 bk_E_ofSymbol_7_2 = true := by decide +kernel
abbrev bk_E_ofSymbol_13_1 : List (Nat × Instr × Nat) := [(13, .if_icmp .ge 76, 3)]
theorem bk_E_ofSymbol_13_1_ok : jm_at mt_E_ofSymbol.2.1 bk_E_ofSymbol_13_1 = true := by decide +kernel
abbrev bk_E_ofSymbol_89_1 : List (Nat × Instr × Nat) := [(89, .aload_n 3, 1)]
theorem bk_E_ofSymbol_89_1_ok : jm_at mt_E_ofSymbol.2.1 bk_E_ofSymbol_89_1 = true := by decide +kernel
abbrev bk_E_ofSymbol_16_2 : List (Nat × Instr × Nat) := [(16, .getstatic 226, 3), (19, .iload 4, 2)]
theorem bk_E_ofSymbol_16_2_ok : jm_at mt_E_ofSymbol.2.1 bk_E_ofSymbol_16_2 = true := by decide +kernel
abbrev bk_E_ofSymbol_22_2 : List (Nat × Instr × Nat) := [(22, .astore 5, 2), (24, .aload 5, 2)]
theorem bk_E_ofSymbol_22_2_ok : jm_at mt_E_ofSymbol.2.1 bk_E_ofSymbol_22_2 = true := by decide +kernel
abbrev bk_E_ofSymbol_32_2 : List (Nat × Instr × Nat) := [(32, .istore 6, 2), (34, .aload 5, 2)]
theorem bk_E_ofSymbol_32_2_ok : jm_at mt_E_ofSymbol.2.1 bk_E_ofSymbol_32_2 = true := by decide +kernel
abbrev bk_E_ofSymbol_39_1 : List (Nat × Instr × Nat) := [(39, .ifCond .ne 44, 3)]
theorem bk_E_ofSymbol_39_1_ok : jm_at mt_E_ofSymbol.2.1 bk_E_ofSymbol_39_1 = true := by decide +kernel
abbrev bk_E_ofSymbol_42_2 : List (Nat × Instr × Nat) := [(42, .iload 6, 2), (44, .aload_n 3, 1)]
theorem bk_E_ofSymbol_42_2_ok : jm_at mt_E_ofSymbol.2.1 bk_E_ofSymbol_42_2 = true := by decide +kernel
abbrev bk_E_ofSymbol_51_1 : List (Nat × Instr × Nat) := [(51, .if_icmp .le 32, 3)]
theorem bk_E_ofSymbol_51_1_ok : jm_at mt_E_ofSymbol.2.1 bk_E_ofSymbol_51_1 = true := by decide +kernel
abbrev bk_E_ofSymbol_54_5 : List (Nat × Instr × Nat) := [(54, .iload 6, 2), (56, .iload_n 2, 1), (57, .iload_n 1, 1), (58, .isub, 1), (59, .if_icmp .gt 24, 3)]
theorem bk_E_ofSymbol_54_5_ok : jm_at mt_E_ofSymbol.2.1 bk_E_ofSymbol_54_5 = true := by decide +kernel
abbrev bk_E_ofSymbol_62_6 : List (Nat × Instr × Nat) := [(62, .aload_n 0, 1), (63, .iload_n 1, 1), (64, .iload_n 1, 1), (65, .iload 6, 2), (67, .iadd, 1), (68, .aload 5, 2)]
theorem bk_E_ofSymbol_62_6_ok : jm_at mt_E_ofSymbol.2.1 bk_E_ofSymbol_62_6 = true := by decide +kernel
abbrev bk_E_ofSymbol_73_1 : List (Nat × Instr × Nat) := [(73, .iconst 0, 1)]
theorem bk_E_ofSymbol_73_1_ok : jm_at mt_E_ofSymbol.2.1 bk_E_ofSymbol_73_1 = true := by decide +kernel
abbrev bk_E_ofSymbol_77_1 : List (Nat × Instr × Nat) := [(77, .ifCond .eq 6, 3)]
theorem bk_E_ofSymbol_77_1_ok : jm_at mt_E_ofSymbol.2.1 bk_E_ofSymbol_77_1 = true := by decide +kernel
abbrev bk_E_ofSymbol_80_2 : List (Nat × Instr × Nat) := [(80, .aload 5, 2), (82, .astore_n 3, 1)]
theorem bk_E_ofSymbol_80_2_ok : jm_at mt_E_ofSymbol.2.1 bk_E_ofSymbol_80_2 = true := by decide +kernel
abbrev bk_E_ofSymbol_83_2 : List (Nat × Instr × Nat) := [(83, .iinc 4 1, 3), (86, .goto (-79), 3)]
theorem bk_E_ofSymbol_83_2_ok : jm_at mt_E_ofSymbol.2.1 bk_E_ofSymbol_83_2 = true := by decide +kernel
theorem dd_E_ofSymbol_90 : decode mt_E_ofSymbol.2.1 90 = .ok (.areturn, 1) := by decide +kernel
theorem dd_E_ofSymbol_29 : decode mt_E_ofSymbol.2.1 29 = .ok (.invokevirtual 229, 3) := by decide +kernel
theorem dd_E_ofSymbol_48 : decode mt_E_ofSymbol.2.1 48 = .ok (.invokevirtual 229, 3) := by decide +kernel
theorem dd_E_ofSymbol_74 : decode mt_E_ofSymbol.2.1 74 = .ok (.invokestatic 233, 3) := by decide +kernel
theorem dd_E_ofSymbol_70 : decode mt_E_ofSymbol.2.1 70 = .ok (.getfield 195, 3) := by decide +kernel
theorem dd_E_ofSymbol_45 : decode mt_E_ofSymbol.2.1 45 = .ok (.getfield 195, 3) := by decide +kernel
theorem dd_E_ofSymbol_36 : decode mt_E_ofSymbol.2.1 36 = .ok (.getfield 222, 3) := by decide +kernel
theorem dd_E_ofSymbol_26 : decode mt_E_ofSymbol.2.1 26 = .ok (.getfield 195, 3) := by decide +kernel
theorem dd_E_ofSymbol_21 : decode mt_E_ofSymbol.2.1 21 = .ok (.aaload, 1) := by decide +kernel
theorem dd_E_ofSymbol_12 : decode mt_E_ofSymbol.2.1 12 = .ok (.arraylength, 1) := by decide +kernel
def J_E_ofSymbol_83 (K : Nat) (g : jm_Rec) (k7 : Nat → Int32 → Int32 → Nat → Int32 → jm_X → Option jm_R) (v0 : Nat) (v1 : Int32) (v2 : Int32) (v3 : Nat) (v4 : Int32) (x : jm_X) : Option jm_R := k7 v0 v1 v2 v3 (v4 + 1) x
set_option maxRecDepth 100000 in
set_option maxHeartbeats 4000000 in
theorem jj_E_ofSymbol_83 {l : Launch} {D : va_G} {ad : Nat → Nat} {aC : Nat → ClassId} {b0 : Nat} {K d0 : Nat} {g : jm_Rec} (hok : jm_Ok (jm_PP l D clC ad aC shC b0 1)) (hrec : ∀ (t : Nat) (av : List Value) (x : jm_X), jm_Con (jm_PP l D clC ad aC shC b0 1) (rcC t) d0 av x (g t av x)) {k7 : Nat → Int32 → Int32 → Nat → Int32 → jm_X → Option jm_R} (hk7 : ∀ (v0 : Nat) (v1 : Int32) (v2 : Int32) (v3 : Nat) (v4 : Int32) (x : jm_X), jm_V (jm_PP l D clC ad aC shC b0 1) mt_E_ofSymbol (d0 + 6) 7 [(0, .ref v0), (1, .int v1), (2, .int v2), (3, .ref v3), (4, .int v4)] [] x (k7 v0 v1 v2 v3 v4 x)) (v0 : Nat) (v1 : Int32) (v2 : Int32) (v3 : Nat) (v4 : Int32) (x : jm_X) : jm_V (jm_PP l D clC ad aC shC b0 1) mt_E_ofSymbol (d0 + 6) 83 [(0, .ref v0), (1, .int v1), (2, .int v2), (3, .ref v3), (4, .int v4)] [] x (J_E_ofSymbol_83 K g k7 v0 v1 v2 v3 v4 x) := by
  have hT := tk_E (l := l) (D := D) (ad := ad) (aC := aC) (b0 := b0)
  unfold J_E_ofSymbol_83
  refine jm_V.run (is := bk_E_ofSymbol_83_2) (pc' := 7) (ls' := [(4, .int (v4 + 1)), (0, .ref v0), (1, .int v1), (2, .int v2), (3, .ref v3)]) (st' := []) (x' := x) hok hT bk_E_ofSymbol_83_2_ok rfl ?_
  refine jm_V.sub (ls' := [(0, .ref v0), (1, .int v1), (2, .int v2), (3, .ref v3), (4, .int (v4 + 1))]) [1, 2, 3, 4, 0] rfl ?_
  exact hk7 v0 v1 v2 v3 (v4 + 1) x
def B_E_ofSymbol_7 (K : Nat) (g : jm_Rec) (self : Nat → Int32 → Int32 → Nat → Int32 → jm_X → Option jm_R) (v0 : Nat) (v1 : Int32) (v2 : Int32) (v3 : Nat) (v4 : Int32) (x : jm_X) : Option jm_R := (if jm_cn 900 1 900 then (if (Int32.ofNat 55) ≤ v4 then some (.inl (some (.ref v3), x)) else (if jm_ix 55 v4 then (if jm_cn 1000 55 (1000 + Int32.toNatClampNeg v4) then (if jm_cn 2000 73 (2000 + sg_txt.getD ((1000 + Int32.toNatClampNeg v4) - 1000) 0) then jm_bI (f_JS_length K g (2000 + sg_txt.getD ((1000 + Int32.toNatClampNeg v4) - 1000) 0) x) (fun b2 x1 => (if jm_cn 1000 55 (1000 + Int32.toNatClampNeg v4) then (if (sg_word.getD ((1000 + Int32.toNatClampNeg v4) - 1000) 0) = 0 then (if jm_cn 1000 55 v3 then (if jm_cn 2000 73 (2000 + sg_txt.getD (v3 - 1000) 0) then jm_bI (f_JS_length K g (2000 + sg_txt.getD (v3 - 1000) 0) x1) (fun b4 x3 => (if b2 ≤ b4 then J_E_ofSymbol_83 K g self v0 v1 v2 v3 v4 x3 else (if (v2 - v1) < b2 then J_E_ofSymbol_83 K g self v0 v1 v2 v3 v4 x3 else (if jm_cn 1000 55 (1000 + Int32.toNatClampNeg v4) then jm_bI (f_B_isText K g v0 v1 (v1 + b2) (2000 + sg_txt.getD ((1000 + Int32.toNatClampNeg v4) - 1000) 0) 0 x3) (fun b6 x5 => (if b6 = 0 then J_E_ofSymbol_83 K g self v0 v1 v2 v3 v4 x5 else J_E_ofSymbol_83 K g self v0 v1 v2 (1000 + Int32.toNatClampNeg v4) v4 x5)) else none)))) else none) else none) else J_E_ofSymbol_83 K g self v0 v1 v2 v3 v4 x1) else none)) else none) else none) else none)) else none)
def L_E_ofSymbol_7 (K : Nat) (g : jm_Rec) : Nat → Nat → Int32 → Int32 → Nat → Int32 → jm_X → Option jm_R
  | 0, _, _, _, _, _, _ => none
  | k + 1, v0, v1, v2, v3, v4, x => B_E_ofSymbol_7 K g (L_E_ofSymbol_7 K g k) v0 v1 v2 v3 v4 x
set_option maxRecDepth 100000 in
set_option maxHeartbeats 4000000 in
theorem jb_E_ofSymbol_7 {l : Launch} {D : va_G} {ad : Nat → Nat} {aC : Nat → ClassId} {b0 : Nat} {K d0 : Nat} {g : jm_Rec} (hok : jm_Ok (jm_PP l D clC ad aC shC b0 1)) (hrec : ∀ (t : Nat) (av : List Value) (x : jm_X), jm_Con (jm_PP l D clC ad aC shC b0 1) (rcC t) d0 av x (g t av x)) {self : Nat → Int32 → Int32 → Nat → Int32 → jm_X → Option jm_R} (hself : ∀ (v0 : Nat) (v1 : Int32) (v2 : Int32) (v3 : Nat) (v4 : Int32) (x : jm_X), jm_V (jm_PP l D clC ad aC shC b0 1) mt_E_ofSymbol (d0 + 6) 7 [(0, .ref v0), (1, .int v1), (2, .int v2), (3, .ref v3), (4, .int v4)] [] x (self v0 v1 v2 v3 v4 x)) (v0 : Nat) (v1 : Int32) (v2 : Int32) (v3 : Nat) (v4 : Int32) (x : jm_X) : jm_V (jm_PP l D clC ad aC shC b0 1) mt_E_ofSymbol (d0 + 6) 7 [(0, .ref v0), (1, .int v1), (2, .int v2), (3, .ref v3), (4, .int v4)] [] x (B_E_ofSymbol_7 K g self v0 v1 v2 v3 v4 x) := by
  have hT := tk_E (l := l) (D := D) (ad := ad) (aC := aC) (b0 := b0)
  unfold B_E_ofSymbol_7
  refine jm_V.run (is := bk_E_ofSymbol_7_2) (pc' := 12) (ls' := [(0, .ref v0), (1, .int v1), (2, .int v2), (3, .ref v3), (4, .int v4)]) (st' := [.ref 900, .int v4]) (x' := x) hok hT bk_E_ofSymbol_7_2_ok rfl ?_
  refine jm_V.tlen (lo := 900) (N := 1) (len := fun _ => 55) (f := fun _ j => .ref (ad (1000 + j))) hok cs_all dd_E_ofSymbol_12 ?_
  refine jm_V.run (is := bk_E_ofSymbol_13_1) (pc' := (if (Int32.ofNat 55) ≤ v4 then 89 else 16)) (ls' := [(0, .ref v0), (1, .int v1), (2, .int v2), (3, .ref v3), (4, .int v4)]) (st' := []) (x' := x) hok hT bk_E_ofSymbol_13_1_ok rfl ?_
  refine jm_V.ite (fun _ => ?_) (fun _ => ?_)
  · refine jm_V.run (is := bk_E_ofSymbol_89_1) (pc' := 90) (ls' := [(0, .ref v0), (1, .int v1), (2, .int v2), (3, .ref v3), (4, .int v4)]) (st' := [.ref v3]) (x' := x) hok hT bk_E_ofSymbol_89_1_ok rfl ?_
    exact jm_V.aret rfl (Or.inl ⟨_, rfl⟩) dd_E_ofSymbol_90
  · refine jm_V.run (is := bk_E_ofSymbol_16_2) (pc' := 21) (ls' := [(0, .ref v0), (1, .int v1), (2, .int v2), (3, .ref v3), (4, .int v4)]) (st' := [.int v4, .ref 900]) (x' := x) hok hT bk_E_ofSymbol_16_2_ok rfl ?_
    refine jm_V.taald (f := fun j => 1000 + j) hok cs_all0 dd_E_ofSymbol_21 ?_
    refine jm_V.run (is := bk_E_ofSymbol_22_2) (pc' := 26) (ls' := [(5, .ref (1000 + Int32.toNatClampNeg v4)), (0, .ref v0), (1, .int v1), (2, .int v2), (3, .ref v3), (4, .int v4)]) (st' := [.ref (1000 + Int32.toNatClampNeg v4)]) (x' := x) hok hT bk_E_ofSymbol_22_2_ok rfl ?_
    refine jm_V.getC (v := fun i => .ref (2000 + sg_txt.getD i 0)) hok cs_text (Or.inl lf_E_195) dd_E_ofSymbol_26 ?_
    refine jm_V.guard (fun hg => ?_)
    refine jm_V.callI (av := [.ref (2000 + sg_txt.getD ((1000 + Int32.toNatClampNeg v4) - 1000) 0)]) (rest := []) hok (jm_Con.mono (c_JS_length (d0 := d0) hok hrec (2000 + sg_txt.getD ((1000 + Int32.toNatClampNeg v4) - 1000) 0) x) (by omega)) (iv_str hok hg dd_E_ofSymbol_29 lk_E_229 mn_JS_length ms_JS_length mw_JS_length mh_JS_length ml_JS_length) mw_JS_length mi_JS (Nat.le_of_ble_eq_true rfl) (Nat.le_of_ble_eq_true rfl) (fun b2 x1 => ?_)
    refine jm_V.run (is := bk_E_ofSymbol_32_2) (pc' := 36) (ls' := [(6, .int b2), (5, .ref (1000 + Int32.toNatClampNeg v4)), (0, .ref v0), (1, .int v1), (2, .int v2), (3, .ref v3), (4, .int v4)]) (st' := [.ref (1000 + Int32.toNatClampNeg v4)]) (x' := x1) hok hT bk_E_ofSymbol_32_2_ok rfl ?_
    refine jm_V.getC (v := fun i => .int (sg_word.getD i 0)) hok cs_word (Or.inl lf_E_222) dd_E_ofSymbol_36 ?_
    refine jm_V.run (is := bk_E_ofSymbol_39_1) (pc' := (if (sg_word.getD ((1000 + Int32.toNatClampNeg v4) - 1000) 0) = 0 then 42 else 83)) (ls' := [(6, .int b2), (5, .ref (1000 + Int32.toNatClampNeg v4)), (0, .ref v0), (1, .int v1), (2, .int v2), (3, .ref v3), (4, .int v4)]) (st' := []) (x' := x1) hok hT bk_E_ofSymbol_39_1_ok rfl ?_
    refine jm_V.ite (fun _ => ?_) (fun _ => ?_)
    · refine jm_V.run (is := bk_E_ofSymbol_42_2) (pc' := 45) (ls' := [(6, .int b2), (5, .ref (1000 + Int32.toNatClampNeg v4)), (0, .ref v0), (1, .int v1), (2, .int v2), (3, .ref v3), (4, .int v4)]) (st' := [.ref v3, .int b2]) (x' := x1) hok hT bk_E_ofSymbol_42_2_ok rfl ?_
      refine jm_V.getC (v := fun i => .ref (2000 + sg_txt.getD i 0)) hok cs_text (Or.inl lf_E_195) dd_E_ofSymbol_45 ?_
      refine jm_V.guard (fun hg => ?_)
      refine jm_V.callI (av := [.ref (2000 + sg_txt.getD (v3 - 1000) 0)]) (rest := [.int b2]) hok (jm_Con.mono (c_JS_length (d0 := d0) hok hrec (2000 + sg_txt.getD (v3 - 1000) 0) x1) (by omega)) (iv_str hok hg dd_E_ofSymbol_48 lk_E_229 mn_JS_length ms_JS_length mw_JS_length mh_JS_length ml_JS_length) mw_JS_length mi_JS (Nat.le_of_ble_eq_true rfl) (Nat.le_of_ble_eq_true rfl) (fun b4 x3 => ?_)
      refine jm_V.run (is := bk_E_ofSymbol_51_1) (pc' := (if b2 ≤ b4 then 83 else 54)) (ls' := [(6, .int b2), (5, .ref (1000 + Int32.toNatClampNeg v4)), (0, .ref v0), (1, .int v1), (2, .int v2), (3, .ref v3), (4, .int v4)]) (st' := []) (x' := x3) hok hT bk_E_ofSymbol_51_1_ok rfl ?_
      refine jm_V.ite (fun _ => ?_) (fun _ => ?_)
      · refine jm_V.sub (ls' := [(0, .ref v0), (1, .int v1), (2, .int v2), (3, .ref v3), (4, .int v4)]) [2, 3, 4, 5, 6] rfl ?_
        exact jj_E_ofSymbol_83 hok hrec hself v0 v1 v2 v3 v4 x3
      · refine jm_V.run (is := bk_E_ofSymbol_54_5) (pc' := (if (v2 - v1) < b2 then 83 else 62)) (ls' := [(6, .int b2), (5, .ref (1000 + Int32.toNatClampNeg v4)), (0, .ref v0), (1, .int v1), (2, .int v2), (3, .ref v3), (4, .int v4)]) (st' := []) (x' := x3) hok hT bk_E_ofSymbol_54_5_ok rfl ?_
        refine jm_V.ite (fun _ => ?_) (fun _ => ?_)
        · refine jm_V.sub (ls' := [(0, .ref v0), (1, .int v1), (2, .int v2), (3, .ref v3), (4, .int v4)]) [2, 3, 4, 5, 6] rfl ?_
          exact jj_E_ofSymbol_83 hok hrec hself v0 v1 v2 v3 v4 x3
        · refine jm_V.run (is := bk_E_ofSymbol_62_6) (pc' := 70) (ls' := [(6, .int b2), (5, .ref (1000 + Int32.toNatClampNeg v4)), (0, .ref v0), (1, .int v1), (2, .int v2), (3, .ref v3), (4, .int v4)]) (st' := [.ref (1000 + Int32.toNatClampNeg v4), .int (v1 + b2), .int v1, .ref v0]) (x' := x3) hok hT bk_E_ofSymbol_62_6_ok rfl ?_
          refine jm_V.getC (v := fun i => .ref (2000 + sg_txt.getD i 0)) hok cs_text (Or.inl lf_E_195) dd_E_ofSymbol_70 ?_
          refine jm_V.run (is := bk_E_ofSymbol_73_1) (pc' := 74) (ls' := [(6, .int b2), (5, .ref (1000 + Int32.toNatClampNeg v4)), (0, .ref v0), (1, .int v1), (2, .int v2), (3, .ref v3), (4, .int v4)]) (st' := [.int 0, .ref (2000 + sg_txt.getD ((1000 + Int32.toNatClampNeg v4) - 1000) 0), .int (v1 + b2), .int v1, .ref v0]) (x' := x3) hok hT bk_E_ofSymbol_73_1_ok rfl ?_
          refine jm_V.callI (av := [.ref v0, .int v1, .int (v1 + b2), .ref (2000 + sg_txt.getD ((1000 + Int32.toNatClampNeg v4) - 1000) 0), .int 0]) (rest := []) hok (jm_Con.mono (c_B_isText hok hrec v0 v1 (v1 + b2) (2000 + sg_txt.getD ((1000 + Int32.toNatClampNeg v4) - 1000) 0) 0 x3) (by omega)) (jm_Inv.stat dd_E_ofSymbol_74 (Or.inl lk_E_233) mq_B_isText mi_B mw_B_isText mh_B_isText ml_B_isText) mw_B_isText mi_B (Nat.le_of_ble_eq_true rfl) (Nat.le_of_ble_eq_true rfl) (fun b6 x5 => ?_)
          refine jm_V.run (is := bk_E_ofSymbol_77_1) (pc' := (if b6 = 0 then 83 else 80)) (ls' := [(6, .int b2), (5, .ref (1000 + Int32.toNatClampNeg v4)), (0, .ref v0), (1, .int v1), (2, .int v2), (3, .ref v3), (4, .int v4)]) (st' := []) (x' := x5) hok hT bk_E_ofSymbol_77_1_ok rfl ?_
          refine jm_V.ite (fun _ => ?_) (fun _ => ?_)
          · refine jm_V.sub (ls' := [(0, .ref v0), (1, .int v1), (2, .int v2), (3, .ref v3), (4, .int v4)]) [2, 3, 4, 5, 6] rfl ?_
            exact jj_E_ofSymbol_83 hok hrec hself v0 v1 v2 v3 v4 x5
          · refine jm_V.run (is := bk_E_ofSymbol_80_2) (pc' := 83) (ls' := [(3, .ref (1000 + Int32.toNatClampNeg v4)), (6, .int b2), (5, .ref (1000 + Int32.toNatClampNeg v4)), (0, .ref v0), (1, .int v1), (2, .int v2), (4, .int v4)]) (st' := []) (x' := x5) hok hT bk_E_ofSymbol_80_2_ok rfl ?_
            refine jm_V.sub (ls' := [(0, .ref v0), (1, .int v1), (2, .int v2), (3, .ref (1000 + Int32.toNatClampNeg v4)), (4, .int v4)]) [3, 4, 5, 0, 6] rfl ?_
            exact jj_E_ofSymbol_83 hok hrec hself v0 v1 v2 (1000 + Int32.toNatClampNeg v4) v4 x5
    · refine jm_V.sub (ls' := [(0, .ref v0), (1, .int v1), (2, .int v2), (3, .ref v3), (4, .int v4)]) [2, 3, 4, 5, 6] rfl ?_
      exact jj_E_ofSymbol_83 hok hrec hself v0 v1 v2 v3 v4 x1
theorem jl_E_ofSymbol_7 {l : Launch} {D : va_G} {ad : Nat → Nat} {aC : Nat → ClassId} {b0 : Nat} {K d0 : Nat} {g : jm_Rec} (hok : jm_Ok (jm_PP l D clC ad aC shC b0 1)) (hrec : ∀ (t : Nat) (av : List Value) (x : jm_X), jm_Con (jm_PP l D clC ad aC shC b0 1) (rcC t) d0 av x (g t av x)) : ∀ (k : Nat) (v0 : Nat) (v1 : Int32) (v2 : Int32) (v3 : Nat) (v4 : Int32) (x : jm_X), jm_V (jm_PP l D clC ad aC shC b0 1) mt_E_ofSymbol (d0 + 6) 7 [(0, .ref v0), (1, .int v1), (2, .int v2), (3, .ref v3), (4, .int v4)] [] x (L_E_ofSymbol_7 K g k v0 v1 v2 v3 v4 x)
  | 0, _, _, _, _, _, _ => jm_V.stuck
  | k + 1, v0, v1, v2, v3, v4, x => jb_E_ofSymbol_7 hok hrec (fun v0 v1 v2 v3 v4 x => jl_E_ofSymbol_7 hok hrec k v0 v1 v2 v3 v4 x) v0 v1 v2 v3 v4 x
def f_E_ofSymbol (K : Nat) (g : jm_Rec) (a1 : Nat) (a2 : Int32) (a3 : Int32) (x : jm_X) : Option jm_R := L_E_ofSymbol_7 K g K a1 a2 a3 1001 0 x
set_option maxRecDepth 100000 in
set_option maxHeartbeats 4000000 in
theorem c_E_ofSymbol {l : Launch} {D : va_G} {ad : Nat → Nat} {aC : Nat → ClassId} {b0 : Nat} {K d0 : Nat} {g : jm_Rec} (hok : jm_Ok (jm_PP l D clC ad aC shC b0 1)) (hrec : ∀ (t : Nat) (av : List Value) (x : jm_X), jm_Con (jm_PP l D clC ad aC shC b0 1) (rcC t) d0 av x (g t av x)) (a1 : Nat) (a2 : Int32) (a3 : Int32) (x : jm_X) : jm_Con (jm_PP l D clC ad aC shC b0 1) mt_E_ofSymbol (d0 + 6) [.ref a1, .int a2, .int a3] x (f_E_ofSymbol K g a1 a2 a3 x) := by
  refine jm_Con.of (plainFor_of_name (by decide +kernel)) (Nat.le_of_ble_eq_true rfl) ?_
  have hT := tk_E (l := l) (D := D) (ad := ad) (aC := aC) (b0 := b0)
  unfold f_E_ofSymbol
  show jm_V _ _ _ 0 [(0, .ref a1), (1, .int a2), (2, .int a3)] [] x _
  refine jm_V.run (is := bk_E_ofSymbol_0_4) (pc' := 7) (ls' := [(4, .int 0), (3, .ref 1001), (0, .ref a1), (1, .int a2), (2, .int a3)]) (st' := []) (x' := x) hok hT bk_E_ofSymbol_0_4_ok rfl ?_
  refine jm_V.sub (ls' := [(0, .ref a1), (1, .int a2), (2, .int a3), (3, .ref 1001), (4, .int 0)]) [2, 3, 4, 1, 0] rfl ?_
  exact jl_E_ofSymbol_7 hok hrec K a1 a2 a3 1001 0 x
abbrev bk_S_byteAt_0_2 : List (Nat × Instr × Nat) := [(0, .iload_n 1, 1), (1, .ifCond .lt 33, 3)]
theorem bk_S_byteAt_0_2_ok : jm_at mt_S_byteAt.2.1 bk_S_byteAt_0_2 = true := by decide +kernel
abbrev bk_S_byteAt_4_4 : List (Nat × Instr × Nat) := [(4, .iload_n 1, 1), (5, .aload_n 0, 1), (6, .getfield 22, 3), (9, .if_icmp .ge 25, 3)]
theorem bk_S_byteAt_4_4_ok : jm_at mt_S_byteAt.2.1 bk_S_byteAt_4_4 = true := by decide +kernel
abbrev bk_S_byteAt_12_3 : List (Nat × Instr × Nat) := [(12, .iload_n 1, 1), (13, .aload_n 0, 1), (14, .getfield 7, 3)]
theorem bk_S_byteAt_12_3_ok : jm_at mt_S_byteAt.2.1 bk_S_byteAt_12_3 = true := by decide +kernel
abbrev bk_S_byteAt_18_1 : List (Nat × Instr × Nat) := [(18, .if_icmp .ge 16, 3)]
theorem bk_S_byteAt_18_1_ok : jm_at mt_S_byteAt.2.1 bk_S_byteAt_18_1 = true := by decide +kernel
abbrev bk_S_byteAt_21_3 : List (Nat × Instr × Nat) := [(21, .aload_n 0, 1), (22, .getfield 7, 3), (25, .iload_n 1, 1)]
theorem bk_S_byteAt_21_3_ok : jm_at mt_S_byteAt.2.1 bk_S_byteAt_21_3 = true := by decide +kernel
abbrev bk_S_byteAt_27_3 : List (Nat × Instr × Nat) := [(27, .sipush 255, 3), (30, .iand, 1), (31, .goto 4, 3)]
theorem bk_S_byteAt_27_3_ok : jm_at mt_S_byteAt.2.1 bk_S_byteAt_27_3 = true := by decide +kernel
abbrev bk_S_byteAt_34_1 : List (Nat × Instr × Nat) := [(34, .iconst (-1), 1)]
theorem bk_S_byteAt_34_1_ok : jm_at mt_S_byteAt.2.1 bk_S_byteAt_34_1 = true := by decide +kernel
theorem dd_S_byteAt_26 : decode mt_S_byteAt.2.1 26 = .ok (.baload, 1) := by decide +kernel
theorem dd_S_byteAt_17 : decode mt_S_byteAt.2.1 17 = .ok (.arraylength, 1) := by decide +kernel
theorem dd_S_byteAt_35 : decode mt_S_byteAt.2.1 35 = .ok (.ireturn, 1) := by decide +kernel
def J_S_byteAt_35 (K : Nat) (g : jm_Rec) (s0 : Int32) (x : jm_X) : Option jm_R := some (.inl (some (.int s0), x))
set_option maxRecDepth 100000 in
set_option maxHeartbeats 4000000 in
theorem jj_S_byteAt_35 {l : Launch} {D : va_G} {ad : Nat → Nat} {aC : Nat → ClassId} {b0 : Nat} {K d0 : Nat} {g : jm_Rec} (hok : jm_Ok (jm_PP l D clC ad aC shC b0 1)) (hrec : ∀ (t : Nat) (av : List Value) (x : jm_X), jm_Con (jm_PP l D clC ad aC shC b0 1) (rcC t) d0 av x (g t av x)) (s0 : Int32) (x : jm_X) : jm_V (jm_PP l D clC ad aC shC b0 1) mt_S_byteAt (d0 + 1) 35 [] [.int s0] x (J_S_byteAt_35 K g s0 x) := by
  have hT := tk_S (l := l) (D := D) (ad := ad) (aC := aC) (b0 := b0)
  unfold J_S_byteAt_35
  exact jm_V.iret rfl dd_S_byteAt_35
def J_S_byteAt_34 (K : Nat) (g : jm_Rec)  (x : jm_X) : Option jm_R := J_S_byteAt_35 K g (-1) x
set_option maxRecDepth 100000 in
set_option maxHeartbeats 4000000 in
theorem jj_S_byteAt_34 {l : Launch} {D : va_G} {ad : Nat → Nat} {aC : Nat → ClassId} {b0 : Nat} {K d0 : Nat} {g : jm_Rec} (hok : jm_Ok (jm_PP l D clC ad aC shC b0 1)) (hrec : ∀ (t : Nat) (av : List Value) (x : jm_X), jm_Con (jm_PP l D clC ad aC shC b0 1) (rcC t) d0 av x (g t av x))  (x : jm_X) : jm_V (jm_PP l D clC ad aC shC b0 1) mt_S_byteAt (d0 + 1) 34 [] [] x (J_S_byteAt_34 K g  x) := by
  have hT := tk_S (l := l) (D := D) (ad := ad) (aC := aC) (b0 := b0)
  unfold J_S_byteAt_34
  refine jm_V.run (is := bk_S_byteAt_34_1) (pc' := 35) (ls' := []) (st' := [.int (-1)]) (x' := x) hok hT bk_S_byteAt_34_1_ok rfl ?_
  exact jj_S_byteAt_35 hok hrec (-1) x
def f_S_byteAt (K : Nat) (g : jm_Rec) (a1 : Int32) (x : jm_X) : Option jm_R := (if a1 < 0 then J_S_byteAt_34 K g x else (if (x.1 401) ≤ a1 then J_S_byteAt_34 K g x else jm_oN (jm_len shC (x.2.1 400)) (fun n1 => (if (Int32.ofNat n1) ≤ a1 then J_S_byteAt_34 K g x else (if jm_in shC (x.2.1 400) .byte a1 then J_S_byteAt_35 K g ((x.2.2 (x.2.1 400) (Int32.toNatClampNeg a1)) &&& 255) x else none)))))
set_option maxRecDepth 100000 in
set_option maxHeartbeats 4000000 in
theorem c_S_byteAt {l : Launch} {D : va_G} {ad : Nat → Nat} {aC : Nat → ClassId} {b0 : Nat} {K d0 : Nat} {g : jm_Rec} (hok : jm_Ok (jm_PP l D clC ad aC shC b0 1)) (hrec : ∀ (t : Nat) (av : List Value) (x : jm_X), jm_Con (jm_PP l D clC ad aC shC b0 1) (rcC t) d0 av x (g t av x)) (a1 : Int32) (x : jm_X) : jm_Con (jm_PP l D clC ad aC shC b0 1) mt_S_byteAt (d0 + 1) [.ref 4, .int a1] x (f_S_byteAt K g a1 x) := by
  refine jm_Con.of (plainFor_of_name (by decide +kernel)) (Nat.le_of_ble_eq_true rfl) ?_
  have hT := tk_S (l := l) (D := D) (ad := ad) (aC := aC) (b0 := b0)
  unfold f_S_byteAt
  show jm_V _ _ _ 0 [(0, .ref 4), (1, .int a1)] [] x _
  refine jm_V.run (is := bk_S_byteAt_0_2) (pc' := (if a1 < 0 then 34 else 4)) (ls' := [(0, .ref 4), (1, .int a1)]) (st' := []) (x' := x) hok hT bk_S_byteAt_0_2_ok rfl ?_
  refine jm_V.ite (fun _ => ?_) (fun _ => ?_)
  · refine jm_V.sub (ls' := []) [] rfl ?_
    exact jj_S_byteAt_34 hok hrec x
  · refine jm_V.run (is := bk_S_byteAt_4_4) (pc' := (if (x.1 401) ≤ a1 then 34 else 12)) (ls' := [(0, .ref 4), (1, .int a1)]) (st' := []) (x' := x) hok hT bk_S_byteAt_4_4_ok rfl ?_
    refine jm_V.ite (fun _ => ?_) (fun _ => ?_)
    · refine jm_V.sub (ls' := []) [] rfl ?_
      exact jj_S_byteAt_34 hok hrec x
    · refine jm_V.run (is := bk_S_byteAt_12_3) (pc' := 17) (ls' := [(0, .ref 4), (1, .int a1)]) (st' := [.ref (x.2.1 400), .int a1]) (x' := x) hok hT bk_S_byteAt_12_3_ok rfl ?_
      refine jm_V.alenS dd_S_byteAt_17 (fun n1 => ?_)
      refine jm_V.run (is := bk_S_byteAt_18_1) (pc' := (if (Int32.ofNat n1) ≤ a1 then 34 else 21)) (ls' := [(0, .ref 4), (1, .int a1)]) (st' := []) (x' := x) hok hT bk_S_byteAt_18_1_ok rfl ?_
      refine jm_V.ite (fun _ => ?_) (fun _ => ?_)
      · refine jm_V.sub (ls' := []) [] rfl ?_
        exact jj_S_byteAt_34 hok hrec x
      · refine jm_V.run (is := bk_S_byteAt_21_3) (pc' := 26) (ls' := [(0, .ref 4), (1, .int a1)]) (st' := [.int a1, .ref (x.2.1 400)]) (x' := x) hok hT bk_S_byteAt_21_3_ok rfl ?_
        refine jm_V.bald dd_S_byteAt_26 ?_
        refine jm_V.run (is := bk_S_byteAt_27_3) (pc' := 35) (ls' := [(0, .ref 4), (1, .int a1)]) (st' := [.int ((x.2.2 (x.2.1 400) (Int32.toNatClampNeg a1)) &&& 255)]) (x' := x) hok hT bk_S_byteAt_27_3_ok rfl ?_
        refine jm_V.sub (ls' := []) [] rfl ?_
        exact jj_S_byteAt_35 hok hrec ((x.2.2 (x.2.1 400) (Int32.toNatClampNeg a1)) &&& 255) x

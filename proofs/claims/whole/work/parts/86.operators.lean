/-! PURE, 37: the operators: the class's one loop, the reference's loops in each other. -/
/-- the class behind an operand -/
def clsT (K : Nat) (g : jm_Rec) (f : Nat) (v2 v3 v4 v5 v6 : Int32) (x : jm_X) : Option jm_R := jm_bA (f_S_sign K g x) (fun b7 x6 => (if jm_cn 1000 55 b7 then (if (sg_level.getD (b7 - 1000) 0) = 0 then J_G_program_155 K g v2 x6 else (if (sg_level.getD (b7 - 1000) 0) = 5 then (if v5 = 0 then J_G_program_74 K g (L_G_program_25 K g f) v2 v3 v4 v5 v6 b7 (sg_level.getD (b7 - 1000) 0) x6 else J_G_program_155 K g v2 x6) else J_G_program_74 K g (L_G_program_25 K g f) v2 v3 v4 v5 v6 b7 (sg_level.getD (b7 - 1000) 0) x6)) else none))
/-- the reference behind the first sum of a comparison -/
def cmpR (K : Nat) (g : jm_Rec) (x1 : jm_X) : Option jm_R := (if (x1.1 11) = 10 then (if jm_in shR 4 .int 21 then (if jm_in shR 4 .int 21 then jm_then (jm_ua x1 4 21 ((x1.2.2 4 (Int32.toNatClampNeg 21)) + 1)) (fun x2 => jm_bV (f_M_scan K g x2) (fun x3 => jm_bV (f_M_sum K g x3) (fun x4 => some (.inl (none, x4))))) else none) else none) else some (.inl (none, x1)))
def aftS (K : Nat) (g : jm_Rec) : Bool → jm_X → Option jm_R
  | true, x => rV x
  | false, x => cmpR K g x
/-- the reference behind a part -/
def rest (K : Nat) (g : jm_Rec) (fp fs : Nat) (cf : Bool) (fa fo fc d fP : Nat) (v1 : Int32) (x : jm_X) : Option jm_R :=
  jm_bV (L_M_product_4 K g fp x) (fun x => jm_bV (L_M_sum_4 K g fs x) (fun x => jm_bV (aftS K g cf x) (fun x => jm_bV (L_M_ands_4 K g fa x) (fun x => jm_bV (L_M_ors_4 K g fo x) (fun x => jm_bV (L_M_choices_6 K g fc (nI d) x) (fun x => L_M_program_128 K g fP v1 x))))))
theorem tk_13 : ∀ k, k < 55 → tokS k = 13 → sg_level.getD k 0 = 6 ∧ sg_kind.getD k 0 = 21 := by decide +kernel
theorem tk_11 : ∀ k, k < 55 → tokS k = 11 → sg_level.getD k 0 = 6 ∧ sg_kind.getD k 0 = 21 := by decide +kernel
theorem tk_12 : ∀ k, k < 55 → tokS k = 12 → sg_level.getD k 0 = 6 ∧ sg_kind.getD k 0 = 21 := by decide +kernel
theorem tk_10 : ∀ k, k < 55 → tokS k = 10 → sg_level.getD k 0 = 5 ∧ sg_kind.getD k 0 = 21 := by decide +kernel
theorem tk_9 : ∀ k, k < 55 → tokS k = 9 → sg_level.getD k 0 = 3 ∧ sg_kind.getD k 0 = 19 := by decide +kernel
theorem tk_8 : ∀ k, k < 55 → tokS k = 8 → sg_level.getD k 0 = 3 ∧ sg_kind.getD k 0 = 18 := by decide +kernel
theorem tk_7 : ∀ k, k < 55 → tokS k = 7 → sg_level.getD k 0 = 2 ∧ sg_kind.getD k 0 = 17 := by decide +kernel
theorem tk_6 : ∀ k, k < 55 → tokS k = 6 → sg_level.getD k 0 = 1 ∧ sg_kind.getD k 0 = 16 := by decide +kernel
theorem tk_elseB : ∀ k : Fin 55, (([13, 11, 12, 10, 9, 8, 7, 6] : List Int32).contains (tokS k.val) || (k.val == ordW 3 || (k.val == ordW 14 || sg_level.getD k.val 0 == 0))) = true := by decide +kernel
theorem tk_else (k : Nat) (hk : k < 55) (h13 : tokS k ≠ 13) (h11 : tokS k ≠ 11) (h12 : tokS k ≠ 12) (h10 : tokS k ≠ 10) (h9 : tokS k ≠ 9) (h8 : tokS k ≠ 8) (h7 : tokS k ≠ 7) (h6 : tokS k ≠ 6) (h3 : k ≠ ordW 3) (h14 : k ≠ ordW 14) : sg_level.getD k 0 = 0 := by
  have h := tk_elseB ⟨k, hk⟩
  have hc : ([13, 11, 12, 10, 9, 8, 7, 6] : List Int32).contains (tokS k) = false := by
    simp [h13, h11, h12, h10, h9, h8, h7, h6]
  have h3' : (k == ordW 3) = false := beq_eq_false_iff_ne.mpr h3
  have h14' : (k == ordW 14) = false := beq_eq_false_iff_ne.mpr h14
  simp only [hc, h3', h14', Bool.false_or] at h
  exact eq_of_beq h
theorem tk_01 : ∀ k, k < 55 → sg_level.getD k 0 ≠ 0 → k ≠ 0 ∧ k ≠ 1 := by decide +kernel
section PU
variable {K : Nat} {gc gr : jm_Rec} {B : Nat → Fin 256} {n : Nat} {off : Nat → Int32} {N : List NE} {op pt s lo : Nat} {L : Nat × Nat × Nat} {c : Nat → Int32} {xC xR : jm_X}
theorem f_choices_eq (fP : Nat) (v1 : Int32) (x : jm_X) : jm_bV (f_M_choices K gr x) (fun x => L_M_program_128 K gr fP v1 x) = jm_bV (f_M_part K gr x) (fun x => rest K gr K K false K K K 0 fP v1 x) := by
  simp only [f_M_choices, f_M_ors, f_M_ands, f_M_compared, f_M_sum, f_M_product, jm_bV_assoc, rest, aftS, cmpR, nI_0]
theorem q_prod {f : Nat} {x : jm_X} (h : x.1 11 ≠ 13) : L_M_product_4 K gr (f + 1) x = rV x := by
  simp only [L_M_product_4, B_M_product_4]; rw [if_neg h]
theorem q_sum {f : Nat} {x : jm_X} (h : x.1 11 ≠ 11) (h2 : x.1 11 ≠ 12) : L_M_sum_4 K gr (f + 1) x = rV x := by
  simp only [L_M_sum_4, B_M_sum_4]; rw [if_neg h, if_neg h2]
theorem q_aft {cf : Bool} {x : jm_X} (h : cf = true ∨ x.1 11 ≠ 10) : aftS K gr cf x = rV x := by
  cases cf with
  | true => rfl
  | false => simp only [aftS, cmpR]; rw [if_neg (h.resolve_left Bool.false_ne_true)]
theorem q_choices {f : Nat} {v : Int32} {x : jm_X} (h : x.1 11 ≠ 9) (h2 : x.1 11 ≠ 8) : L_M_choices_6 K gr (f + 1) v x = rV (va_up x.1 12 ((x.1 12) - v), x.2) := by
  simp only [L_M_choices_6, B_M_choices_6, jm_then]; rw [if_neg h, if_neg h2]
theorem q_ands {f : Nat} (hK : 20000 ≤ K) (hR : SR B n L c N op pt xR) (hL : LX B n L) (h : L.2.2 ≠ ordW 3) : L_M_ands_4 K gr (f + 1) xR = rV xR := by
  obtain ⟨-, r2⟩ := r_skip_s (K := K) (g := gr) hK hR hL.facts (j := 3) (by omega) (by omega) (a := 2003) rfl
  simp only [L_M_ands_4, B_M_ands_4]; rw [r2 h, jm_bI_some, if_pos rfl]
theorem q_ors {f : Nat} (hK : 20000 ≤ K) (hR : SR B n L c N op pt xR) (hL : LX B n L) (h : L.2.2 ≠ ordW 14) : L_M_ors_4 K gr (f + 1) xR = rV xR := by
  obtain ⟨-, r2⟩ := r_skip_s (K := K) (g := gr) hK hR hL.facts (j := 14) (by omega) (by omega) (a := 2014) rfl
  simp only [L_M_ors_4, B_M_ors_4]; rw [r2 h, jm_bI_some, if_pos rfl]
theorem c_clsT {f : Nat} {v2 v3 v4 v5 v6 : Int32} (hC : SC B n L c N xC) (hl : L.2.2 < 55) : clsT K gc f v2 v3 v4 v5 v6 xC = (if (sg_level.getD L.2.2 0) = 0 then J_G_program_155 K gc v2 xC else (if (sg_level.getD L.2.2 0) = 5 then (if v5 = 0 then J_G_program_74 K gc (L_G_program_25 K gc f) v2 v3 v4 v5 v6 (1000 + L.2.2) (sg_level.getD L.2.2 0) xC else J_G_program_155 K gc v2 xC) else J_G_program_74 K gc (L_G_program_25 K gc f) v2 v3 v4 v5 v6 (1000 + L.2.2) (sg_level.getD L.2.2 0) xC)) := by
  simp only [clsT, f_S_sign, hC.2.1.2.2]
  rw [jm_bA_some, if_pos (cn_sgn hl), Nat.add_sub_cancel_left]
theorem c_74 {f : Nat} {v2 v3 v4 v5 v6 v8 : Int32} (hl : L.2.2 < 55) : J_G_program_74 K gc (L_G_program_25 K gc f) v2 v3 v4 v5 v6 (1000 + L.2.2) v8 xC = jm_bV (f_G_takeAs K gc (sg_kind.getD L.2.2 0) xC) (fun x8 => (if v8 = 1 then jm_bI (f_G_heads K gc (v3 + 1) x8) (fun b10 x9 => J_G_program_97 K gc (L_G_program_25 K gc f) v2 b10 v4 v5 v6 v8 x9) else J_G_program_97 K gc (L_G_program_25 K gc f) v2 v3 v4 v5 v6 v8 x8)) := by
  simp only [J_G_program_74]
  rw [if_pos (cn_sgn hl), Nat.add_sub_cancel_left]
variable {f : Nat} {v2 v3 v4 v6 : Int32} {cf : Bool}
theorem c_op6 (hC : SC B n L c N xC) (hl : L.2.2 < 55) (h : sg_level.getD L.2.2 0 = 6 ∧ sg_kind.getD L.2.2 0 = 21) : clsT K gc f v2 v3 v4 (bI cf) v6 xC = jm_bV (f_G_takeAs K gc 21 xC) (fun x => L_G_program_25 K gc f v2 v3 v4 (bI cf) (v6 + 1) x) := by
  rw [c_clsT hC hl, h.1, if_neg (by decide), if_neg (by decide), c_74 hl, h.2]
  cases cf
  · simp (decide := true) only [J_G_program_97, J_G_program_125, J_G_program_142, J_G_program_146, J_G_program_147, if_true, if_false]; rfl
  · simp (decide := true) only [J_G_program_97, J_G_program_125, J_G_program_142, J_G_program_146, J_G_program_147, if_true, if_false]; rfl
theorem c_op5 (hC : SC B n L c N xC) (hl : L.2.2 < 55) (h : sg_level.getD L.2.2 0 = 5 ∧ sg_kind.getD L.2.2 0 = 21) : clsT K gc f v2 v3 v4 (bI false) v6 xC = jm_bV (f_G_takeAs K gc 21 xC) (fun x => L_G_program_25 K gc f v2 v3 v4 (bI true) (v6 + 1) x) := by
  rw [c_clsT hC hl, h.1, if_neg (by decide), if_pos rfl, if_pos (show bI false = 0 from rfl), c_74 hl, h.2]
  simp (decide := true) only [J_G_program_97, J_G_program_125, J_G_program_142, J_G_program_146, J_G_program_147, if_true, if_false]; rfl
theorem c_op4 (hC : SC B n L c N xC) (hl : L.2.2 < 55) (h : sg_level.getD L.2.2 0 = 4 ∧ sg_kind.getD L.2.2 0 = 20) : clsT K gc f v2 v3 v4 (bI cf) v6 xC = jm_bV (f_G_takeAs K gc 20 xC) (fun x => L_G_program_25 K gc f v2 v3 v4 (bI false) (v6 + 1) x) := by
  rw [c_clsT hC hl, h.1, if_neg (by decide), if_neg (by decide), c_74 hl, h.2]
  simp (decide := true) only [J_G_program_97, J_G_program_125, J_G_program_142, J_G_program_146, J_G_program_147, if_true, if_false]; rfl
theorem c_op3 {k : Int32} (hC : SC B n L c N xC) (hl : L.2.2 < 55) (h : sg_level.getD L.2.2 0 = 3 ∧ sg_kind.getD L.2.2 0 = k) : clsT K gc f v2 v3 v4 (bI cf) v6 xC = jm_bV (f_G_takeAs K gc k xC) (fun x => jm_bI (f_G_opened K gc (v4 + 1) x) (fun b x => L_G_program_25 K gc f v2 v3 b (bI false) (v6 + 1) x)) := by
  rw [c_clsT hC hl, h.1, if_neg (by decide), if_neg (by decide), c_74 hl, h.2]
  simp (decide := true) only [J_G_program_97, J_G_program_125, J_G_program_142, J_G_program_146, J_G_program_147, if_true, if_false]; rfl
theorem c_op2 (hC : SC B n L c N xC) (hl : L.2.2 < 55) (h : sg_level.getD L.2.2 0 = 2 ∧ sg_kind.getD L.2.2 0 = 17) : clsT K gc f v2 v3 v4 (bI cf) v6 xC = jm_bV (f_G_takeAs K gc 17 xC) (fun x => L_G_program_25 K gc f v2 v3 v3 (bI false) (v6 + 1) x) := by
  rw [c_clsT hC hl, h.1, if_neg (by decide), if_neg (by decide), c_74 hl, h.2]
  simp (decide := true) only [J_G_program_97, J_G_program_125, J_G_program_142, J_G_program_146, J_G_program_147, if_true, if_false]; rfl
theorem c_op1 (hC : SC B n L c N xC) (hl : L.2.2 < 55) (h : sg_level.getD L.2.2 0 = 1 ∧ sg_kind.getD L.2.2 0 = 16) : clsT K gc f v2 v3 v4 (bI cf) v6 xC = jm_bV (f_G_takeAs K gc 16 xC) (fun x => jm_bI (f_G_heads K gc (v3 + 1) x) (fun b x => L_G_program_25 K gc f v2 b b (bI false) (v6 + 1) x)) := by
  rw [c_clsT hC hl, h.1, if_neg (by decide), if_neg (by decide), c_74 hl, h.2]
  simp (decide := true) only [J_G_program_97, J_G_program_125, J_G_program_142, J_G_program_146, J_G_program_147, if_true, if_false]; rfl
theorem c_op0 (hC : SC B n L c N xC) (hl : L.2.2 < 55) (h : sg_level.getD L.2.2 0 = 0 ∨ (sg_level.getD L.2.2 0 = 5 ∧ cf = true)) : clsT K gc f v2 v3 v4 (bI cf) v6 xC = J_G_program_155 K gc v2 xC := by
  rw [c_clsT hC hl]
  rcases h with h | ⟨h, rfl⟩
  · rw [if_pos h]
  · rw [h, if_neg (by decide), if_pos rfl, if_neg (by decide)]
end PU

/-! PURE, 1: numbers; what the binds do. -/
theorem pu_sub {a b : Nat} (h : b ≤ a) : nI a - nI b = nI (a - b) := by
  obtain ⟨c, rfl⟩ := Nat.exists_eq_add_of_le h
  rw [← nI_add, Nat.add_sub_cancel_left, Int32.add_comm, Int32.add_sub_cancel]
theorem pu_dec (a : Nat) : nI (a + 1) + (-1) = nI a := by
  rw [← nI_1, Int32.add_assoc, show (1 : Int32) + -1 = 0 from rfl, Int32.add_zero]
theorem jm_bI_some (b : Int32) (x : jm_X) (f : Int32 → jm_X → Option jm_R) : jm_bI (some (.inl (some (.int b), x))) f = f b x := rfl
theorem jm_bA_some (b : Nat) (x : jm_X) (f : Nat → jm_X → Option jm_R) : jm_bA (some (.inl (some (.ref b), x))) f = f b x := rfl
theorem jm_bV_some (x : jm_X) (f : jm_X → Option jm_R) : jm_bV (some (.inl (none, x))) f = f x := rfl
theorem jm_bL_some (b : Int64) (x : jm_X) (f : Int64 → jm_X → Option jm_R) : jm_bL (some (.inl (some (.long b), x))) f = f b x := rfl
theorem jm_bI_thr (q : String × jm_X) (f : Int32 → jm_X → Option jm_R) : jm_bI (some (.inr q)) f = some (.inr q) := rfl
theorem jm_bA_thr (q : String × jm_X) (f : Nat → jm_X → Option jm_R) : jm_bA (some (.inr q)) f = some (.inr q) := rfl
theorem jm_bV_thr (q : String × jm_X) (f : jm_X → Option jm_R) : jm_bV (some (.inr q)) f = some (.inr q) := rfl
/-- an answer of a test -/
def bI (b : Bool) : Int32 := if b then 1 else 0
theorem bI_nar (b : Bool) : vp_nar .boolean (bI b) = bI b := by cases b <;> decide
theorem bI_ite {α : Type} (b : Bool) (p q : α) : (if bI b = 0 then p else q) = (if b = true then q else p) := by cases b <;> rfl
abbrev rI (v : Int32) (x : jm_X) : Option jm_R := some (.inl (some (.int v), x))
abbrev rV (x : jm_X) : Option jm_R := some (.inl (none, x))
abbrev rA (v : Nat) (x : jm_X) : Option jm_R := some (.inl (some (.ref v), x))
/-- bytes: as the class sees them (0 .. 255), as the reference sees them (-128 .. 127) -/
def sB (b : Fin 256) : Int32 := if b.val < 128 then nI b.val else nI b.val - 256
def uB (b : Fin 256) : Int32 := nI b.val
theorem sB_and : ∀ b : Fin 256, (sB b) &&& 255 = uB b := by decide +kernel
/-- the kinds of bytes -/
def isNm0 (b : Fin 256) : Bool := decide (97 ≤ b.val ∧ b.val ≤ 122) || decide (65 ≤ b.val ∧ b.val ≤ 90) || decide (b.val = 95)
def isDg (b : Fin 256) : Bool := decide (48 ≤ b.val ∧ b.val ≤ 57)
def isNm (b : Fin 256) : Bool := isNm0 b || isDg b
def isBl (b : Fin 256) : Bool := decide (b.val = 32) || decide (b.val = 9) || decide (b.val = 10) || decide (b.val = 13)
def isEs (b : Fin 256) : Bool := decide (b.val = 34) || decide (b.val = 92) || decide (b.val = 47) || decide (b.val = 98) || decide (b.val = 102) || decide (b.val = 110) || decide (b.val = 114) || decide (b.val = 116)
/-- the value of a digit of base 16; 16: none -/
def hxV (b : Fin 256) : Nat := if 48 ≤ b.val ∧ b.val ≤ 57 then b.val - 48 else if 97 ≤ b.val ∧ b.val ≤ 102 then b.val - 87 else if 65 ≤ b.val ∧ b.val ≤ 70 then b.val - 55 else 16
def hxI (k : Nat) : Int32 := if k < 16 then nI k else -1
theorem rI_ite {c : Prop} [Decidable c] (a b : Int32) (x : jm_X) : (if c then rI a x else rI b x) = rI (if c then a else b) x := by split <;> rfl
/-! the tests of bytes: the class's, the reference's -/
section PB
variable (K : Nat) (g : jm_Rec) (x : jm_X)
theorem v_B_isBlank (b : Fin 256) : f_B_isBlank K g (uB b) x = rI (bI (isBl b)) x := by
  simp only [f_B_isBlank, J_B_isBlank_24, J_B_isBlank_29, rI_ite]
  refine congrArg (fun v => rI v x) ?_
  revert b
  decide +kernel
theorem v_B_isBlank_no : f_B_isBlank K g (-1) x = rI (bI false) x := by
  simp only [f_B_isBlank, J_B_isBlank_24, J_B_isBlank_29, rI_ite]
  refine congrArg (fun v => rI v x) ?_
  decide +kernel
theorem v_B_isDigit (b : Fin 256) : f_B_isDigit K g (uB b) x = rI (bI (isDg b)) x := by
  simp only [f_B_isDigit, J_B_isDigit_16, J_B_isDigit_17, rI_ite]
  refine congrArg (fun v => rI v x) ?_
  revert b
  decide +kernel
theorem v_B_isDigit_no : f_B_isDigit K g (-1) x = rI (bI false) x := by
  simp only [f_B_isDigit, J_B_isDigit_16, J_B_isDigit_17, rI_ite]
  refine congrArg (fun v => rI v x) ?_
  decide +kernel
theorem v_B_startsName (b : Fin 256) : f_B_startsName K g (uB b) x = rI (bI (isNm0 b)) x := by
  simp only [f_B_startsName, J_B_startsName_12, J_B_startsName_24, J_B_startsName_30, J_B_startsName_35, rI_ite]
  refine congrArg (fun v => rI v x) ?_
  revert b
  decide +kernel
theorem v_B_startsName_no : f_B_startsName K g (-1) x = rI (bI false) x := by
  simp only [f_B_startsName, J_B_startsName_12, J_B_startsName_24, J_B_startsName_30, J_B_startsName_35, rI_ite]
  refine congrArg (fun v => rI v x) ?_
  decide +kernel
theorem v_B_isOfName (b : Fin 256) : f_B_isOfName K g (uB b) x = rI (bI (isNm b)) x := by
  simp only [f_B_isOfName, J_B_isOfName_12, J_B_isOfName_24, J_B_isOfName_42, J_B_isOfName_46, J_B_isOfName_47, rI_ite]
  refine congrArg (fun v => rI v x) ?_
  revert b
  decide +kernel
theorem v_B_isOfName_no : f_B_isOfName K g (-1) x = rI (bI false) x := by
  simp only [f_B_isOfName, J_B_isOfName_12, J_B_isOfName_24, J_B_isOfName_42, J_B_isOfName_46, J_B_isOfName_47, rI_ite]
  refine congrArg (fun v => rI v x) ?_
  decide +kernel
theorem v_B_isEscaped (b : Fin 256) : f_B_isEscaped K g (uB b) x = rI (bI (isEs b)) x := by
  simp only [f_B_isEscaped, J_B_isEscaped_48, J_B_isEscaped_53, rI_ite]
  refine congrArg (fun v => rI v x) ?_
  revert b
  decide +kernel
theorem v_B_isEscaped_no : f_B_isEscaped K g (-1) x = rI (bI false) x := by
  simp only [f_B_isEscaped, J_B_isEscaped_48, J_B_isEscaped_53, rI_ite]
  refine congrArg (fun v => rI v x) ?_
  decide +kernel
theorem v_M_digit (b : Fin 256) : f_M_digit K g (sB b) x = rI (bI (isDg b)) x := by
  simp only [f_M_digit, J_M_digit_16, J_M_digit_17, rI_ite]
  refine congrArg (fun v => rI v x) ?_
  revert b
  decide +kernel
theorem v_M_digit_no : f_M_digit K g (-1) x = rI (bI false) x := by
  simp only [f_M_digit, J_M_digit_16, J_M_digit_17, rI_ite]
  refine congrArg (fun v => rI v x) ?_
  decide +kernel
theorem v_M_first (b : Fin 256) : f_M_first K g (sB b) x = rI (bI (isNm0 b)) x := by
  simp only [f_M_first, J_M_first_12, J_M_first_24, J_M_first_30, J_M_first_35, rI_ite]
  refine congrArg (fun v => rI v x) ?_
  revert b
  decide +kernel
theorem v_M_first_no : f_M_first K g (-1) x = rI (bI false) x := by
  simp only [f_M_first, J_M_first_12, J_M_first_24, J_M_first_30, J_M_first_35, rI_ite]
  refine congrArg (fun v => rI v x) ?_
  decide +kernel
theorem v_B_hexDigit (b : Fin 256) : f_B_hexDigit K g (uB b) x = rI (hxI (hxV b)) x := by
  simp only [f_B_hexDigit, v_B_isDigit, jm_bI_some, J_B_hexDigit_32, J_B_hexDigit_54, J_B_hexDigit_55, rI_ite]
  refine congrArg (fun v => rI v x) ?_
  revert b
  decide +kernel
theorem v_B_hexDigit_no : f_B_hexDigit K g (-1) x = rI (-1) x := by
  simp only [f_B_hexDigit, v_B_isDigit_no, jm_bI_some, J_B_hexDigit_32, J_B_hexDigit_54, J_B_hexDigit_55, rI_ite]
  refine congrArg (fun v => rI v x) ?_
  decide +kernel
theorem v_M_hex (b : Fin 256) : f_M_hex K g (sB b) x = rI (hxI (hxV b)) x := by
  simp only [f_M_hex, J_M_hex_19, J_M_hex_41, J_M_hex_63, J_M_hex_64, rI_ite]
  refine congrArg (fun v => rI v x) ?_
  revert b
  decide +kernel
theorem v_M_hex_no : f_M_hex K g (-1) x = rI (-1) x := by
  simp only [f_M_hex, J_M_hex_19, J_M_hex_41, J_M_hex_63, J_M_hex_64, rI_ite]
  refine congrArg (fun v => rI v x) ?_
  decide +kernel
end PB

/-! THE RECURSION, tied by levels: gC K n, gR K n answer calls that nest at most n deep (nothing is said below). -/
def gC (K : Nat) : Nat → jm_Rec
  | 0 => fun _ _ _ => none
  | n + 1 => fun t av x => match t, av with
    | 0, [.ref 2, .int a] => f_G_program K (gC K n) a x
    | 1, [.ref 2, .int a] => f_G_term K (gC K n) a x
    | 2, [.ref 2, .int a, .int b] => f_G_pattern K (gC K n) a b x
    | _, _ => none
theorem gC_program (K n : Nat) (a : Int32) (x : jm_X) : gC K (n + 1) 0 [.ref 2, .int a] x = f_G_program K (gC K n) a x := rfl
theorem gC_term (K n : Nat) (a : Int32) (x : jm_X) : gC K (n + 1) 1 [.ref 2, .int a] x = f_G_term K (gC K n) a x := rfl
theorem gC_pattern (K n : Nat) (a b : Int32) (x : jm_X) : gC K (n + 1) 2 [.ref 2, .int a, .int b] x = f_G_pattern K (gC K n) a b x := rfl
theorem gC_ok {l : Launch} {D : va_G} {ad : Nat → Nat} {aC : Nat → ClassId} {b0 : Nat} (K : Nat) (hok : jm_Ok (jm_PP l D clC ad aC shC b0 1)) : ∀ (n t : Nat) (av : List Value) (x : jm_X), jm_Con (jm_PP l D clC ad aC shC b0 1) (rcC t) (15 * n) av x (gC K n t av x)
  | 0, t, av, x => fun _ h => by cases h
  | n + 1, t, av, x => by
    have ih := gC_ok K hok n
    show jm_Con _ _ _ _ _ (match t, av with
      | 0, [.ref 2, .int a] => f_G_program K (gC K n) a x
      | 1, [.ref 2, .int a] => f_G_term K (gC K n) a x
      | 2, [.ref 2, .int a, .int b] => f_G_pattern K (gC K n) a b x
      | _, _ => none)
    split
    · exact jm_Con.mono (c_G_program hok ih _ x) (by omega)
    · exact jm_Con.mono (c_G_term hok ih _ x) (by omega)
    · exact jm_Con.mono (c_G_pattern hok ih _ _ x) (by omega)
    · exact fun _ h => by cases h
def gR (K : Nat) : Nat → jm_Rec
  | 0 => fun _ _ _ => none
  | n + 1 => fun t av x => match t, av with
    | 0, [.ref 0] => f_M_program K (gR K n) x
    | 1, [.ref 0] => f_M_term K (gR K n) x
    | 2, [.ref 0] => f_M_pattern K (gR K n) x
    | _, _ => none
theorem gR_program (K n : Nat) (x : jm_X) : gR K (n + 1) 0 [.ref 0] x = f_M_program K (gR K n) x := rfl
theorem gR_term (K n : Nat) (x : jm_X) : gR K (n + 1) 1 [.ref 0] x = f_M_term K (gR K n) x := rfl
theorem gR_pattern (K n : Nat) (x : jm_X) : gR K (n + 1) 2 [.ref 0] x = f_M_pattern K (gR K n) x := rfl
theorem gR_ok {l : Launch} {D : va_G} {ad : Nat → Nat} {aC : Nat → ClassId} {b0 : Nat} (K : Nat) (hok : jm_Ok (jm_PP l D clR ad aC shR b0 0)) : ∀ (n t : Nat) (av : List Value) (x : jm_X), jm_Con (jm_PP l D clR ad aC shR b0 0) (rcR t) (18 * n) av x (gR K n t av x)
  | 0, t, av, x => fun _ h => by cases h
  | n + 1, t, av, x => by
    have ih := gR_ok K hok n
    show jm_Con _ _ _ _ _ (match t, av with
      | 0, [.ref 0] => f_M_program K (gR K n) x
      | 1, [.ref 0] => f_M_term K (gR K n) x
      | 2, [.ref 0] => f_M_pattern K (gR K n) x
      | _, _ => none)
    split
    · exact jm_Con.mono (c_M_program hok ih x) (by omega)
    · exact jm_Con.mono (c_M_term hok ih x) (by omega)
    · exact jm_Con.mono (c_M_pattern hok ih x) (by omega)
    · exact fun _ h => by cases h
/-- what the law calls -/
theorem cC_read {l : Launch} {D : va_G} {ad : Nat → Nat} {aC : Nat → ClassId} {b0 : Nat} (K : Nat) (hok : jm_Ok (jm_PP l D clC ad aC shC b0 1)) (x : jm_X) : jm_Con (jm_PP l D clC ad aC shC b0 1) mt_FR_read 932 [.ref 0] x (f_FR_read K (gC K 61) x) := c_FR_read (d0 := 915) hok (gC_ok K hok 61) x
theorem cR_read {l : Launch} {D : va_G} {ad : Nat → Nat} {aC : Nat → ClassId} {b0 : Nat} (K : Nat) (hok : jm_Ok (jm_PP l D clR ad aC shR b0 0)) (x : jm_X) : jm_Con (jm_PP l D clR ad aC shR b0 0) mt_M_read 1117 [.ref 0] x (f_M_read K (gR K 61) x) := c_M_read (d0 := 1098) hok (gR_ok K hok 61) x

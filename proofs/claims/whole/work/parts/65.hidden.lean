/-! PURE, 16: names hidden and shown; the bytes of names. -/
/-- from m on all names are of the sort a -/
def hidN (N : List NE) (m a : Nat) : List NE := N.mapIdx (fun j e => if m ≤ j then (a, e.2.1, e.2.2.1, e.2.2.2) else e)
theorem hidN_len (N : List NE) (m a : Nat) : (hidN N m a).length = N.length := by simp [hidN]
theorem hidN_get (N : List NE) (m a j : Nat) : (hidN N m a)[j]? = (N[j]?).map (fun e => if m ≤ j then (a, e.2.1, e.2.2.1, e.2.2.2) else e) := by simp [hidN, List.getElem?_mapIdx]
section PH
variable {K : Nat} {g : jm_Rec} {B : Nat → Fin 256} {n : Nat} {L : Nat × Nat × Nat} {c : Nat → Int32} {N : List NE} {op pt : Nat}
theorem c_sorts_L (hl : N.length < 1400) (s : Int32) : ∀ (r i f : Nat) (x : jm_X), x.1 605 = nI N.length → r < f → i + r = N.length →
    L_N_setSorts_7 K g f (nI N.length) s (nI i) x = rV (x.1, x.2.1, va_up x.2.2 7 (fun j => if i ≤ j ∧ j < N.length then s else x.2.2 7 j))
  | r, i, 0, x, _, hf, _ => absurd hf (Nat.not_lt_zero _)
  | 0, i, f + 1, x, hx, hf, hi => by
    simp only [L_N_setSorts_7, B_N_setSorts_7, J_N_setSorts_36]
    rw [if_pos (nI_le (by omega) (by omega))]
    have e : (fun j => if i ≤ j ∧ j < N.length then s else x.2.2 7 j) = x.2.2 7 := by
      funext j; rw [if_neg (by omega)]
    rw [e, pu_up_eq]
  | r + 1, i, f + 1, x, hx, hf, hi => by
    simp only [L_N_setSorts_7, B_N_setSorts_7, J_N_setSorts_36, jm_then, hx]
    rw [if_neg (nI_ge (by omega) (by omega)), if_neg (nI_ge (by omega) (by omega)), if_pos (pu_in (n := 1400) rfl (by omega) (by omega)), nI_1, c_sorts_L hl s r (i + 1) f (jm_ua x 7 (nI i) s) hx (by omega) (by omega)]
    simp only [jm_ua, pu_up2, va_up_self, nI_clamp (show i < 2 ^ 31 by omega)]
    have e : (fun j => if i + 1 ≤ j ∧ j < N.length then s else upd (x.2.2 7) i s j) = (fun j => if i ≤ j ∧ j < N.length then s else x.2.2 7 j) := by
      funext j
      simp only [upd]
      by_cases hj : j = i
      · rw [if_neg (by omega), if_pos hj, if_pos (by omega)]
      · rw [if_neg hj]
        by_cases h2 : i + 1 ≤ j ∧ j < N.length
        · rw [if_pos h2, if_pos (by omega)]
        · rw [if_neg h2, if_neg (by omega)]
    rw [e]
theorem c_setSorts (hK : 20000 ≤ K) {x : jm_X} (h : SC B n L c N x) (hl : N.length < 1400) {m a : Nat} (hm : m ≤ N.length) {v w s : Int32} (hv : v = nI m) (hw : w = nI N.length) (hs : s = sC a) : ∃ x', f_N_setSorts K g v w s x = rV x' ∧ SC B n L c (hidN N m a) x' := by
  subst hv hw hs
  obtain ⟨h1, h2, h3, h4, h5⟩ := h
  refine ⟨(x.1, x.2.1, va_up x.2.2 7 (fun j => if m ≤ j ∧ j < N.length then sC a else x.2.2 7 j)), ?_, ⟨h1.1, h1.2.1, ?_, h1.2.2.2⟩, h2, ⟨?_, h3.2⟩, ⟨?_, h4.2.1, ?_⟩, h5⟩
  · simp only [f_N_setSorts, f_JM_max, J_JM_max_10]
    rw [if_neg (nI_pos (by omega)), jm_bI_some, c_sorts_L hl _ (N.length - m) m K x h4.1 (by omega) (by omega)]
  · simp [va_up, h1.2.2.1]
  · simp [va_up, h3.1]
  · rw [hidN_len]; exact h4.1
  · intro j e he
    rw [hidN_get] at he
    cases hj : N[j]? with
    | none => rw [hj] at he; cases he
    | some e0 =>
      have hjl : j < N.length := (List.getElem?_eq_some_iff.mp hj).1
      rw [hj] at he
      have := h4.2.2 j e0 hj
      simp only [Option.map_some, Option.some.injEq] at he
      subst he
      by_cases hz : m ≤ j
      · simp [va_up, this, hz, hjl]
      · simp [va_up, this, hz]
theorem r_hide_L (hl : N.length < 1400) (s : Int32) : ∀ (r i f : Nat) (x : jm_X), x.1 15 = nI N.length → r < f → i + r = N.length →
    L_M_hide_2 K g f s (nI i) x = rV (x.1, x.2.1, va_up x.2.2 9 (fun j => if i ≤ j ∧ j < N.length then vp_nar .boolean s else x.2.2 9 j))
  | r, i, 0, x, _, hf, _ => absurd hf (Nat.not_lt_zero _)
  | 0, i, f + 1, x, hx, hf, hi => by
    simp only [L_M_hide_2, B_M_hide_2, hx]
    rw [if_pos (nI_le (by omega) (by omega))]
    have e : (fun j => if i ≤ j ∧ j < N.length then vp_nar .boolean s else x.2.2 9 j) = x.2.2 9 := by
      funext j; rw [if_neg (by omega)]
    rw [e, pu_up_eq]
  | r + 1, i, f + 1, x, hx, hf, hi => by
    simp only [L_M_hide_2, B_M_hide_2, jm_then, hx]
    rw [if_neg (nI_ge (by omega) (by omega)), if_pos (pu_in (n := 17000) rfl (by omega) (by omega)), nI_1, r_hide_L hl s r (i + 1) f (jm_ua x 9 (nI i) (vp_nar .boolean s)) hx (by omega) (by omega)]
    simp only [jm_ua, pu_up2, va_up_self, nI_clamp (show i < 2 ^ 31 by omega)]
    have e : (fun j => if i + 1 ≤ j ∧ j < N.length then vp_nar .boolean s else upd (x.2.2 9) i (vp_nar .boolean s) j) = (fun j => if i ≤ j ∧ j < N.length then vp_nar .boolean s else x.2.2 9 j) := by
      funext j
      simp only [upd]
      by_cases hj : j = i
      · rw [if_neg (by omega), if_pos hj, if_pos (by omega)]
      · rw [if_neg hj]
        by_cases h2 : i + 1 ≤ j ∧ j < N.length
        · rw [if_pos h2, if_pos (by omega)]
        · rw [if_neg h2, if_neg (by omega)]
    rw [e]
/-- the names from m on are variables, hidden or not -/
def vrs (N : List NE) (m : Nat) : Prop := ∀ (j : Nat) (e : NE), m ≤ j → N[j]? = some e → e.1 = 2 ∨ e.1 = 4
theorem r_hide (hK : 20000 ≤ K) {x : jm_X} (h : SR B n L c N op pt x) (hl : N.length < 1400) {m a : Nat} (hm : m ≤ N.length) (hv : vrs N m) (ha : a = 2 ∨ a = 4) {v s : Int32} (hvm : v = nI m) (hs : s = lR a) : ∃ x', f_M_hide K g v s x = rV x' ∧ SR B n L c (hidN N m a) op pt x' := by
  subst hvm hs
  obtain ⟨h1, h2, h3, h4, h5, h6, h7⟩ := h
  refine ⟨(x.1, x.2.1, va_up x.2.2 9 (fun j => if m ≤ j ∧ j < N.length then vp_nar .boolean (lR a) else x.2.2 9 j)), ?_, ⟨h1.1, ?_, h1.2.2⟩, h2, ?_, ⟨?_, ?_⟩, h5, h6, h7⟩
  · simp only [f_M_hide]
    rw [r_hide_L hl _ (N.length - m) m K x h4.1 (by omega) (by omega)]
  · simp [va_up, h1.2.1]
  · simp [va_up, h3]
  · rw [hidN_len]; exact h4.1
  · intro j e he
    rw [hidN_get] at he
    cases hj : N[j]? with
    | none => rw [hj] at he; cases he
    | some e0 =>
      have hjl : j < N.length := (List.getElem?_eq_some_iff.mp hj).1
      rw [hj] at he
      have := h4.2 j e0 hj
      simp only [Option.map_some, Option.some.injEq] at he
      subst he
      by_cases hz : m ≤ j
      · have e1 : wR e0.1 = wR a := by
          rcases hv j e0 hz hj with q | q <;> rcases ha with q2 | q2 <;> rw [q, q2] <;> rfl
        have e2 : vp_nar .boolean (lR a) = lR a := by rcases ha with q2 | q2 <;> rw [q2] <;> decide
        simp [va_up, this, hz, hjl, e1, e2]
      · simp [va_up, this, hz]
end PH
theorem rnB_all {P : Fin 256 → Bool} {B : Nat → Fin 256} {n : Nat} : ∀ f s j, s ≤ j → j < rnB P B n f s → P (B j) = true
  | 0, s, j, h1, h2 => by simp only [rnB] at h2; omega
  | f + 1, s, j, h1, h2 => by
    simp only [rnB] at h2
    by_cases hs : s < n
    · rw [if_pos hs] at h2
      by_cases hp : P (B s) = true
      · rw [if_pos hp] at h2
        by_cases hj : j = s
        · rw [hj]; exact hp
        · exact rnB_all f (s + 1) j (by omega) h2
      · rw [if_neg hp] at h2; omega
    · rw [if_neg hs] at h2; omega
theorem isNm_32 : ∀ b : Fin 256, isNm b = true → sB b ≠ 32 := by decide +kernel
/-- the bytes of a name or word are none but its own -/
theorem LX.bytes {B : Nat → Fin 256} {n : Nat} {L : Nat × Nat × Nat} (h : LX B n L) (ht : tokS L.2.2 = 1) : ∀ j, L.1 ≤ j → j < L.2.1 → isNm (B j) = true := by
  obtain ⟨p, hp, rfl⟩ := h
  unfold lexB at ht ⊢
  generalize skB B n (n - p) false p = s at ht ⊢
  by_cases hs : s < n
  · rw [if_pos hs] at ht ⊢
    by_cases hd : isDg (B s) = true
    · rw [if_pos hd] at ht
      simp only [nvS] at ht
      split at ht <;> exact absurd ht (by decide)
    · rw [if_neg hd] at ht ⊢
      by_cases hm : isNm0 (B s) = true
      · rw [if_pos hm]
        exact fun j h1 h2 => rnB_all _ _ _ h1 h2
      · rw [if_neg hm] at ht ⊢
        by_cases hv : ((B s).val = 46 ∨ (B s).val = 36) ∧ s + 1 < n ∧ isNm0 (B (s + 1)) = true
        · rw [if_pos hv] at ht
          simp only at ht
          split at ht <;> exact absurd ht (by decide)
        · rw [if_neg hv] at ht
          rcases ofSy_kind (B := B) (p := s) (n := n) 55 0 1 (by omega) (Or.inl rfl) with hk | ⟨k1, k2, k3⟩
          · simp only [hk] at ht; exact absurd ht (by decide)
          · exact absurd ht (sg_sym _ k3 k1 k2).1
  · rw [if_neg hs] at ht
    exact absurd ht (show ¬ tokS 0 = 1 by decide)
theorem LX.noBlank {B : Nat → Fin 256} {n : Nat} {L : Nat × Nat × Nat} (h : LX B n L) (ht : tokS L.2.2 = 1) : ∀ j, j < L.2.1 - L.1 → tpB B (L.1 + j) ≠ 32 :=
  fun j hj => isNm_32 _ (h.bytes ht _ (by omega) (by omega))

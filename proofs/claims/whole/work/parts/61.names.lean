/-! PURE, 12: names: learnt, forgotten, hidden. -/
section PV
variable {K : Nat} {g : jm_Rec} {B : Nat → Fin 256} {n : Nat} {L : Nat × Nat × Nat} {c : Nat → Int32} {N : List NE} {op pt : Nat} {x : jm_X}
theorem pu_get_app {N : List NE} {e e' : NE} {i : Nat} (h : (N ++ [e])[i]? = some e') : (i < N.length ∧ N[i]? = some e') ∨ (i = N.length ∧ e' = e) := by
  by_cases hi : i < N.length
  · rw [List.getElem?_append_left hi] at h; exact Or.inl ⟨hi, h⟩
  · rw [List.getElem?_append_right (by omega)] at h
    by_cases h2 : i - N.length = 0
    · rw [h2] at h; simp at h; exact Or.inr ⟨by omega, h.symm⟩
    · rw [List.getElem?_eq_none (by simp; omega)] at h; cases h
/-- a name learnt -/
theorem c_add (h : SC B n L c N x) (hN : N.length < 1400) {a p e : Nat} (he : p ≤ e) {s v w : Int32} (hs : s = sC a) (hv : v = nI p) (hw : w = nI e) : ∃ x', f_N_add K g s v w x = rV x' ∧ SC B n L c (N ++ [(a, p, e - p, 0)]) x' := by
  subst hs hv hw
  obtain ⟨h1, h2, h3, h4, h5⟩ := h
  have i7 : jm_in shC 7 .int (nI N.length) = true := pu_in (n := 1400) rfl hN (by omega)
  have i8 : jm_in shC 8 .int (nI N.length) = true := pu_in (n := 1400) rfl hN (by omega)
  have i9 : jm_in shC 9 .int (nI N.length) = true := pu_in (n := 1400) rfl hN (by omega)
  have i10 : jm_in shC 10 .int (nI N.length) = true := pu_in (n := 1400) rfl hN (by omega)
  have hc : (nI N.length).toNatClampNeg = N.length := nI_clamp (by omega)
  refine ⟨_, by
    simp only [f_N_add, J_N_add_62, jm_then, jm_ua, h4.1]
    rw [show (1400 : Int32) = nI 1400 from rfl, if_neg (nI_ge hN (by omega)), if_pos i7, if_pos i8, if_pos i9, if_pos i10, hc, pu_sub he, nI_1], ?_⟩
  refine ⟨⟨?_, h1.2.1, ?_, h1.2.2.2⟩, ⟨?_, ?_, h2.2.2⟩, ⟨?_, ?_⟩, ⟨?_, h4.2.1, ?_⟩, ?_⟩
  · simp [va_up, h1.1]
  · simp [va_up, h1.2.2.1]
  · simp [va_up, h2.1]
  · simp [va_up, h2.2.1]
  · simp [va_up, h3.1]
  · simp [va_up, h3.2]
  · simp [va_up]
  · intro i e' hi
    rcases pu_get_app hi with ⟨q1, q2⟩ | ⟨q1, q2⟩
    · have := h4.2.2 i e' q2
      simp [va_up, upd, this, Nat.ne_of_lt q1]
    · subst q1 q2
      simp [va_up, upd, nI_0]
  · simp [va_up, h5]
theorem r_know (h : SR B n L c N op pt x) (hN : N.length < 1400) {a p m : Nat} (ha : a < 4) {s v w z z2 : Int32} (hs : s = wR a) (hv : v = nI p) (hw : w = nI m) (hz : z = 0) (hz2 : z2 = 0) : ∃ x', f_M_know K g s v w z z2 x = rV x' ∧ SR B n L c (N ++ [(a, p, m, 0)]) op pt x' := by
  subst hs hv hw hz hz2
  obtain ⟨h1, h2, h3, h4, h5, h6, h7⟩ := h
  have i5 : jm_in shR 5 .int (nI N.length) = true := pu_in (n := 17000) rfl (by omega) (by omega)
  have i6 : jm_in shR 6 .int (nI N.length) = true := pu_in (n := 17000) rfl (by omega) (by omega)
  have i7 : jm_in shR 7 .int (nI N.length) = true := pu_in (n := 17000) rfl (by omega) (by omega)
  have i8 : jm_in shR 8 .int (nI N.length) = true := pu_in (n := 17000) rfl (by omega) (by omega)
  have i9 : jm_in shR 9 .boolean (nI N.length) = true := pu_in (n := 17000) rfl (by omega) (by omega)
  have hc : (nI N.length).toNatClampNeg = N.length := nI_clamp (by omega)
  have hl : lR a = 0 := by
    have : a = 0 ∨ a = 1 ∨ a = 2 ∨ a = 3 := by omega
    rcases this with rfl | rfl | rfl | rfl <;> rfl
  refine ⟨_, by
    simp only [f_M_know, jm_then, jm_ua, h4.1]
    rw [if_pos i5, if_pos i6, if_pos i7, if_pos i8, if_pos i9, hc, nI_1], ?_⟩
  refine ⟨⟨?_, ?_, h1.2.2⟩, ⟨?_, ?_, ?_⟩, ?_, ⟨?_, ?_⟩, ⟨?_, ?_⟩, ?_, ?_⟩
  · simp [va_up, h1.1]
  · simp [va_up, h1.2.1]
  · simp [va_up, h2.1]
  · intro z1 z2; simp [va_up, h2.2.1 z1 z2]
  · simp [va_up, h2.2.2]
  · simp [va_up, h3]
  · simp [va_up]
  · intro i e' hi
    rcases pu_get_app hi with ⟨q1, q2⟩ | ⟨q1, q2⟩
    · have := h4.2 i e' q2
      simp [va_up, upd, this, Nat.ne_of_lt q1]
    · subst q1 q2
      simp [va_up, upd, nI_0, hl]
      decide
  · simp [va_up, h5.1]
  · simp [va_up, h5.2]
  · simp [va_up, h6]
  · simp [va_up, h7]
/-- where the sign's name begins -/
def nmS (L : Nat × Nat × Nat) : Nat := if L.2.2 = 4 ∨ L.2.2 = 3 then L.1 + 1 else L.1
theorem c_nameStart (h : SC B n L c N x) (hl : L.2.2 < 55) : f_S_nameStart K g x = rI (nI (nmS L)) x := by
  have h3 := h.2.1.2.2
  simp only [f_S_nameStart, J_S_nameStart_20, J_S_nameStart_33, h3, h.2.1.1, nI_1]
  simp only [cn_sgn hl, show jm_cn 1000 55 1004 = true by decide, show jm_cn 1000 55 1003 = true by decide, if_true]
  simp only [nmS]
  by_cases h4 : L.2.2 = 4
  · rw [if_pos (by omega), if_pos (Or.inl h4)]
  · rw [if_neg (by omega)]
    by_cases h5 : L.2.2 = 3
    · rw [if_pos (by omega), if_pos (Or.inr h5)]
    · rw [if_neg (by omega), if_neg (by omega)]
theorem c_learn (h : SC B n L c N x) (hL : LF B n L) (hN : N.length < 1400) {a : Nat} (hn : nmS L ≤ L.2.1) {s : Int32} (hs : s = sC a) : ∃ x', f_G_learn K g s x = rV x' ∧ SC B n L c (N ++ [(a, nmS L, L.2.1 - nmS L, 0)]) x' := by
  obtain ⟨x', e, hx⟩ := c_add (K := K) (g := g) h hN hn hs rfl rfl
  refine ⟨x', ?_, hx⟩
  simp only [f_G_learn, f_S_behind]
  rw [c_nameStart h hL.2.2.1, jm_bI_some, jm_bI_some, h.2.1.2.1, e, jm_bV_some]
theorem c_size (h : SC B n L c N x) : f_N_size K g x = rI (nI N.length) x := by
  simp only [f_N_size, h.2.2.2.1.1]
theorem SC.take (h : SC B n L c N x) {m : Nat} (hm : m ≤ N.length) : SC B n L c (N.take m) (va_up x.1 605 (nI m), x.2) := by
  obtain ⟨h1, h2, h3, h4, h5⟩ := h
  refine ⟨⟨?_, h1.2⟩, ⟨?_, ?_, h2.2.2⟩, ⟨h3.1, ?_⟩, ⟨?_, h4.2.1, ?_⟩, ?_⟩
  · simp [va_up, h1.1]
  · simp [va_up, h2.1]
  · simp [va_up, h2.2.1]
  · simp [va_up, h3.2]
  · simp [va_up, Nat.min_eq_left hm]
  · intro i e he
    by_cases hi : i < m
    · rw [List.getElem?_take_of_lt hi] at he; exact h4.2.2 i e he
    · rw [List.getElem?_eq_none (by simp; omega)] at he; cases he
  · simp [va_up, h5]
theorem c_forgetFrom (h : SC B n L c N x) (hN : N.length < 1400) {m : Nat} (hm : m ≤ N.length) {a : Int32} (ha : a = nI m) : ∃ x', f_N_forgetFrom K g a x = rV x' ∧ SC B n L c (N.take m) x' := by
  subst ha
  refine ⟨_, ?_, h.take hm⟩
  simp only [f_N_forgetFrom, f_JM_min_ii, J_JM_min_ii_10, h.2.2.2.1.1, jm_then]
  by_cases h2 : nI m < nI N.length
  · rw [if_pos h2, jm_bI_some]
  · rw [if_neg h2, jm_bI_some]
    have : N.length = m := by
      rw [nI_ltI (by omega) (by omega)] at h2; omega
    rw [this]
theorem SR.take (h : SR B n L c N op pt x) {m : Nat} (hm : m ≤ N.length) {a : Int32} (ha : a = nI m) : SR B n L c (N.take m) op pt (va_up x.1 15 a, x.2) := by
  subst ha
  obtain ⟨h1, h2, h3, h4, h5, h6, h7⟩ := h
  refine ⟨⟨?_, h1.2⟩, ⟨?_, ?_, ?_⟩, h3, ⟨?_, ?_⟩, ⟨?_, ?_⟩, ?_, ?_⟩
  · simp [va_up, h1.1]
  · simp [va_up, h2.1]
  · intro z1 z2; simp [va_up, h2.2.1 z1 z2]
  · simp [va_up, h2.2.2]
  · simp [va_up, Nat.min_eq_left hm]
  · intro i e he
    by_cases hi : i < m
    · rw [List.getElem?_take_of_lt hi] at he; exact h4.2 i e he
    · rw [List.getElem?_eq_none (by simp; omega)] at he; cases he
  · simp [va_up, h5.1]
  · simp [va_up, h5.2]
  · simp [va_up, h6]
  · simp [va_up, h7]
/-- the reference's count of what stands open, set -/
theorem SR.setOp (h : SR B n L c N op pt x) {q : Nat} {a : Int32} (ha : a = nI q) : SR B n L c N q pt (va_up x.1 12 a, x.2) := by
  subst ha
  obtain ⟨h1, h2, h3, h4, h5, h6, h7⟩ := h
  refine ⟨⟨?_, h1.2⟩, ⟨?_, ?_, ?_⟩, h3, ⟨?_, h4.2⟩, ⟨?_, ?_⟩, ?_, ?_⟩
  · simp [va_up, h1.1]
  · simp [va_up, h2.1]
  · intro z1 z2; simp [va_up, h2.2.1 z1 z2]
  · simp [va_up, h2.2.2]
  · simp [va_up, h4.1]
  · simp [va_up]
  · simp [va_up, h5.2]
  · simp [va_up, h6]
  · simp [va_up, h7]
theorem SR.setPt (h : SR B n L c N op pt x) {q : Nat} {a : Int32} (ha : a = nI q) : SR B n L c N op q (va_up x.1 21 a, x.2) := by
  subst ha
  obtain ⟨h1, h2, h3, h4, h5, h6, h7⟩ := h
  refine ⟨⟨?_, h1.2⟩, ⟨?_, ?_, ?_⟩, h3, ⟨?_, h4.2⟩, ⟨?_, ?_⟩, ?_, ?_⟩
  · simp [va_up, h1.1]
  · simp [va_up, h2.1]
  · intro z1 z2; simp [va_up, h2.2.1 z1 z2]
  · simp [va_up, h2.2.2]
  · simp [va_up, h4.1]
  · simp [va_up, h5.1]
  · simp [va_up]
  · simp [va_up, h6]
  · simp [va_up, h7]
/-- the class's parameters, set at the end of their list; the reference's, one by one -/
def setP (N : List NE) (i q : Nat) : List NE := N.mapIdx (fun j e => if j = i then (e.1, e.2.1, e.2.2.1, q) else e)
theorem setP_len (N : List NE) (i q : Nat) : (setP N i q).length = N.length := by simp [setP]
theorem setP_get (N : List NE) (i q j : Nat) : (setP N i q)[j]? = (N[j]?).map (fun e => if j = i then (e.1, e.2.1, e.2.2.1, q) else e) := by simp [setP, List.getElem?_mapIdx]
theorem c_setParameters (h : SC B n L c N x) (hN : N.length < 1400) {i q : Nat} (hi : i < N.length) {a b : Int32} (ha : a = nI i) (hb : b = nI q) : ∃ x', f_N_setParameters K g a b x = rV x' ∧ SC B n L c (setP N i q) x' := by
  subst ha hb
  obtain ⟨h1, h2, h3, h4, h5⟩ := h
  refine ⟨_, by
    simp only [f_N_setParameters, J_N_setParameters_19, jm_then, jm_ua, h4.1]
    rw [if_neg (nI_pos (by omega)), if_neg (nI_ge hi (by omega)), if_pos (pu_in (n := 1400) rfl (by omega) (by omega)), nI_clamp (by omega)], ?_⟩
  refine ⟨⟨h1.1, h1.2.1, ?_, h1.2.2.2⟩, h2, ⟨?_, h3.2⟩, ⟨?_, h4.2.1, ?_⟩, h5⟩
  · simp [va_up, h1.2.2.1]
  · simp [va_up, h3.1]
  · rw [setP_len]; exact h4.1
  · intro j e he
    rw [setP_get] at he
    cases hj : N[j]? with
    | none => rw [hj] at he; cases he
    | some e0 =>
      rw [hj] at he
      have := h4.2.2 j e0 hj
      simp only [Option.map_some, Option.some.injEq] at he
      subst he
      by_cases hz : j = i
      · simp [va_up, upd, this, hz]
        rw [hz] at this; simp [this]
      · simp [va_up, upd, this, hz]
end PV

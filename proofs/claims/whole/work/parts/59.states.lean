/-! PURE, 10: the states of both sides while a program is read; the class's small steps on them. -/
def cnt (c : Nat → Int32) (k : Nat) : Nat → Int32 := upd c k (c k + 1)
def totm (c : Nat → Int32) : Nat → Int32
  | 0 => 0
  | m + 1 => totm c m + c m
def tot (c : Nat → Int32) : Int32 := totm c 34
theorem totm_cnt (c : Nat → Int32) (k : Nat) : ∀ m, totm (cnt c k) m = totm c m + (if k < m then 1 else 0)
  | 0 => by simp [totm]
  | m + 1 => by
    simp only [totm, totm_cnt c k m]
    by_cases h : k = m
    · subst h
      simp only [cnt, upd, if_true, Nat.lt_irrefl, if_false, if_pos (Nat.lt_succ_self k), Int32.add_zero, Int32.add_assoc]
    · simp only [cnt, upd, if_neg (Ne.symm h)]
      by_cases h2 : k < m
      · rw [if_pos h2, if_pos (by omega), Int32.add_assoc, Int32.add_comm 1, ← Int32.add_assoc]
      · rw [if_neg h2, if_neg (by omega), Int32.add_zero, Int32.add_zero]
theorem tot_cnt (c : Nat → Int32) {k : Nat} (hk : k < 34) : tot (cnt c k) = tot c + 1 := by
  unfold tot; rw [totm_cnt, if_pos hk]
/-- counts that wait on the reference's side -/
def cO (c off : Nat → Int32) : Nat → Int32 := fun i => c i + off i
theorem cO_cnt (c off : Nat → Int32) (k : Nat) : cO (cnt c k) off = cnt (cO c off) k := by
  funext i
  simp only [cO, cnt, upd]
  by_cases h : i = k
  · simp only [h, if_true]; rw [Int32.add_assoc, Int32.add_comm 1, ← Int32.add_assoc]
  · simp only [h, if_false]
theorem cO_cnt2 (c off : Nat → Int32) (k : Nat) : cO c (cnt off k) = cnt (cO c off) k := by
  funext i
  simp only [cO, cnt, upd]
  by_cases h : i = k
  · simp only [h, if_true]; rw [Int32.add_assoc]
  · simp only [h, if_false]
/-- names: sort (0 function, 1 parameter, 2 variable, 3 label, 4 hidden variable), from, size, parameters -/
abbrev NE : Type := Nat × Nat × Nat × Nat
def sC (a : Nat) : Int32 := ([12, 13, -2, -3, -1] : List Int32).getD a 0
def wR (a : Nat) : Int32 := ([0, 1, 2, 3, 2] : List Int32).getD a 0
def lR (a : Nat) : Int32 := ([0, 0, 0, 0, 1] : List Int32).getD a 0
def NC (N : List NE) (x : jm_X) : Prop := x.1 605 = nI N.length ∧ x.2.1 604 = 1 ∧ ∀ (i : Nat) (e : NE), N[i]? = some e → x.2.2 7 i = sC e.1 ∧ x.2.2 8 i = nI e.2.1 ∧ x.2.2 9 i = nI e.2.2.1 ∧ x.2.2 10 i = nI e.2.2.2
def NR (N : List NE) (x : jm_X) : Prop := x.1 15 = nI N.length ∧ ∀ (i : Nat) (e : NE), N[i]? = some e → x.2.2 5 i = wR e.1 ∧ x.2.2 6 i = nI e.2.1 ∧ x.2.2 7 i = nI e.2.2.1 ∧ x.2.2 8 i = nI e.2.2.2 ∧ x.2.2 9 i = lR e.1
def NOk (n : Nat) (N : List NE) : Prop := N.length < 1400 ∧ ∀ e ∈ N, e.1 < 5 ∧ e.2.1 + e.2.2.1 ≤ n ∧ e.2.2.2 ≤ 10
def SC (B : Nat → Fin 256) (n : Nat) (L : Nat × Nat × Nat) (c : Nat → Int32) (N : List NE) (x : jm_X) : Prop :=
  SL B n x ∧ (x.1 402 = nI L.1 ∧ x.1 403 = nI L.2.1 ∧ x.2.1 404 = 1000 + L.2.2) ∧ (x.2.2 3 = c ∧ x.1 203 = tot c) ∧ NC N x ∧ x.1 2 = 0 ∧ x.1 204 = -1
def SR (B : Nat → Fin 256) (n : Nat) (L : Nat × Nat × Nat) (c : Nat → Int32) (N : List NE) (op pt : Nat) (x : jm_X) : Prop :=
  RL B n x ∧ (x.1 9 = nI L.1 ∧ (L.2.2 ≠ 0 → L.2.2 ≠ 1 → x.1 10 = nI L.2.1) ∧ x.1 11 = tokS L.2.2) ∧ x.2.2 4 = c ∧ NR N x ∧ (x.1 12 = nI op ∧ x.1 21 = nI pt) ∧ x.1 5 = 0 ∧ x.1 6 = 0 ∧ x.1 7 = -1
/-- a broken program: the class's state, the reference's -/
def BrC (B : Nat → Fin 256) (v : Int32) (x : jm_X) : Prop := x.2.2 1 = tpB B ∧ (∀ k, k < 34 → x.2.2 3 k = 0) ∧ x.1 203 = 0 ∧ x.1 204 = v ∧ x.1 2 = 0
def BrR (B : Nat → Fin 256) (v : Int32) (x : jm_X) : Prop := x.2.2 3 = tpB B ∧ x.1 7 = v ∧ x.1 5 = 0 ∧ x.1 6 = 0
abbrev UOE : String := "java/lang/UnsupportedOperationException"
abbrev ISE : String := "java/lang/IllegalStateException"
section PC
variable {K : Nat} {g : jm_Rec} {B : Nat → Fin 256} {n : Nat} {L : Nat × Nat × Nat} {c : Nat → Int32} {N : List NE} {x : jm_X}
theorem c_is (h : SC B n L c N x) (hl : L.2.2 < 55) {k : Nat} (hk : k < 55) {a : Nat} (ha : a = 1000 + k) : f_S_is K g a x = rI (bI (decide (L.2.2 = k))) x := by
  subst ha
  have h3 := h.2.1.2.2
  simp only [f_S_is, J_S_is_13, h3]
  rw [if_pos (cn_sgn hl), if_pos (cn_sgn hk)]
  by_cases hz : L.2.2 = k
  · rw [if_pos (by rw [hz]), decide_eq_true hz]; rfl
  · rw [if_neg (by omega), decide_eq_false hz]; rfl
theorem SC.lex (h : SC B n L c N x) (q : Nat × Nat × Nat) : SC B n q c N (lxC x q) := by
  obtain ⟨h1, h2, h3, h4, h5⟩ := h
  refine ⟨⟨?_, ?_, h1.2.2⟩, ⟨?_, ?_, ?_⟩, ⟨h3.1, ?_⟩, ⟨?_, ?_, h4.2.2⟩, ?_⟩
  · simp [lxC, va_up, h1.1]
  · simp [lxC, va_up, h1.2.1]
  · simp [lxC, va_up]
  · simp [lxC, va_up]
  · simp [lxC, va_up]
  · simp [lxC, va_up, h3.2]
  · simp [lxC, va_up, h4.1]
  · simp [lxC, va_up, h4.2.1]
  · simp [lxC, va_up, h5]
theorem c_next (hK : 20000 ≤ K) (h : SC B n L c N x) (hl : L.2.1 ≤ n) : ∃ x', f_S_next K g x = rV x' ∧ SC B n (lexB B n L.2.1) c N x' :=
  ⟨_, v_S_next hK h.1 h.2.1.2.1 hl, h.lex _⟩
theorem SC.b403 (h : SC B n L c N x) (v : Int32) : SL B n (va_up x.1 403 v, x.2) := h.1.up (by decide) _
theorem c_goTo (hK : 20000 ≤ K) (h : SC B n L c N x) {p : Nat} (hp : p ≤ n) {a : Int32} (ha : a = nI p) : ∃ x', f_S_goTo K g a x = rV x' ∧ SC B n (lexB B n p) c N x' := by
  subst ha
  refine ⟨lxC (va_up x.1 403 (nI p), x.2) (lexB B n p), ?_, ?_⟩
  · simp only [f_S_goTo, jm_then]
    rw [v_S_next hK (h.b403 (nI p)) (va_up_self x.1 403 (nI p)) hp, jm_bV_some]
  · have e : lxC (va_up x.1 403 (nI p), x.2) (lexB B n p) = lxC x (lexB B n p) := by
      simp only [lxC]; rw [pu_upc _ _ _ (show (403 : Nat) ≠ 402 by decide), pu_up2]
    rw [e]; exact h.lex _
theorem c_count (h : SC B n L c N x) {k : Nat} (hk : k < 34) {a : Int32} (ha : a = nI k) : ∃ x', f_G_count K g a x = rV x' ∧ SC B n L (cnt c k) N x' := by
  subst ha
  obtain ⟨h1, h2, h3, h4, h5⟩ := h
  have hin : jm_in shC 3 .int (nI k) = true := pu_in (n := 34) rfl hk (by omega)
  refine ⟨(va_up x.1 203 (x.1 203 + 1), x.2.1, va_up x.2.2 3 (cnt (x.2.2 3) k)), ?_, ?_⟩
  · simp only [f_G_count, J_G_count_33, jm_then]
    rw [if_neg (nI_pos (by omega)), if_pos (by rfl), show Int32.ofNat 34 = nI 34 from rfl, if_neg (nI_ge hk (by omega)), if_pos hin, if_pos hin, nI_clamp (by omega)]
    rfl
  · refine ⟨⟨?_, h1.2.1, ?_, h1.2.2.2⟩, ⟨?_, ?_, h2.2.2⟩, ⟨?_, ?_⟩, ⟨?_, h4.2.1, ?_⟩, ?_⟩
    · simp [va_up, h1.1]
    · simp [va_up, h1.2.2.1]
    · simp [va_up, h2.1]
    · simp [va_up, h2.2.1]
    · simp [va_up, h3.1]
    · simp [va_up, h3.2, tot_cnt c hk]
    · simp [va_up, h4.1]
    · intro i e he
      have := h4.2.2 i e he
      simp [va_up, this]
    · simp [va_up, h5]
theorem c_takeAs (hK : 20000 ≤ K) (h : SC B n L c N x) (hl : L.2.1 ≤ n) {k : Nat} (hk : k < 34) {a : Int32} (ha : a = nI k) : ∃ x', f_G_takeAs K g a x = rV x' ∧ SC B n (lexB B n L.2.1) (cnt c k) N x' := by
  obtain ⟨x1, e1, h1⟩ := c_count (K := K) (g := g) h hk ha
  obtain ⟨x2, e2, h2⟩ := c_next (K := K) (g := g) hK h1 hl
  exact ⟨x2, by simp only [f_G_takeAs]; rw [e1, jm_bV_some, e2, jm_bV_some], h2⟩
theorem v_fill_L : ∀ (m i f : Nat) (x : jm_X), m < f → i + m = 34 → L_JA_fill_5 K g f 3 0 (nI i) (nI 34) x = rV (x.1, x.2.1, va_up x.2.2 3 (fun j => if i ≤ j ∧ j < 34 then 0 else x.2.2 3 j))
  | m, i, 0, x, hf, _ => absurd hf (Nat.not_lt_zero _)
  | 0, i, f + 1, x, hf, hi => by
    simp only [L_JA_fill_5, B_JA_fill_5]
    rw [if_pos (nI_le (by omega) (by omega))]
    have e : (fun j => if i ≤ j ∧ j < 34 then (0 : Int32) else x.2.2 3 j) = x.2.2 3 := by
      funext j; rw [if_neg (by omega)]
    rw [e, pu_up_eq]
  | m + 1, i, f + 1, x, hf, hi => by
    simp only [L_JA_fill_5, B_JA_fill_5, jm_then]
    rw [if_neg (nI_ge (by omega) (by omega)), if_pos (pu_in (n := 34) rfl (by omega) (by omega)), nI_1, v_fill_L m (i + 1) f _ (by omega) (by omega)]
    simp only [jm_ua, pu_up2, va_up_self, nI_clamp (show i < 2 ^ 31 by omega)]
    have e : (fun j => if i + 1 ≤ j ∧ j < 34 then (0 : Int32) else upd (x.2.2 3) i 0 j) = (fun j => if i ≤ j ∧ j < 34 then 0 else x.2.2 3 j) := by
      funext j
      simp only [upd]
      by_cases hj : j = i
      · rw [if_neg (by omega), if_pos hj, if_pos (by omega)]
      · rw [if_neg hj]
        by_cases h2 : i + 1 ≤ j ∧ j < 34
        · rw [if_pos h2, if_pos (by omega)]
        · rw [if_neg h2, if_neg (by omega)]
    rw [e]
theorem c_forget (hK : 20000 ≤ K) (x : jm_X) : f_G_forgetProgram K g x = rV (va_up x.1 203 0, x.2.1, va_up x.2.2 3 (fun j => if 0 ≤ j ∧ j < 34 then 0 else x.2.2 3 j)) := by
  simp only [f_G_forgetProgram, f_JA_fill, jm_then]
  change jm_bV (L_JA_fill_5 K g K 3 0 (nI 0) (nI 34) x) _ = _
  rw [v_fill_L 34 0 K x (by omega) (by omega), jm_bV_some]
theorem c_broken (hK : 20000 ≤ K) (h : SC B n L c N x) (v : Int32) : ∃ x', f_G_broken K g v x = some (.inr (UOE, x')) ∧ BrC B v x' := by
  refine ⟨_, by simp only [f_G_broken, jm_then]; rw [c_forget hK, jm_bV_some], ?_⟩
  refine ⟨?_, ?_, ?_, ?_, ?_⟩
  · simp [va_up, h.1.2.2.1]
  · intro k hk
    simp [va_up, hk]
  · simp [va_up]
  · simp [va_up]
  · simp [va_up, h.2.2.2.2]
theorem c_need (hK : 20000 ≤ K) (h : SC B n L c N x) (hl : L.2.2 < 55) {k : Nat} (hk : k < 55) {a : Nat} (ha : a = 1000 + k) :
    (L.2.2 = k → f_G_need K g a x = rV x) ∧ (L.2.2 ≠ k → ∃ x', f_G_need K g a x = some (.inr (UOE, x')) ∧ BrC B (nI L.1) x') := by
  constructor
  · intro hz
    simp only [f_G_need, J_G_need_22]
    rw [c_is h hl hk ha, jm_bI_some, bI_ite, decide_eq_true hz, if_pos rfl]
  · intro hz
    obtain ⟨x', e, hb⟩ := c_broken (K := K) (g := g) hK h (nI L.1)
    refine ⟨x', ?_, hb⟩
    simp only [f_G_need, J_G_need_22, f_S_start]
    rw [c_is h hl hk ha, jm_bI_some, bI_ite, decide_eq_false hz, if_neg Bool.false_ne_true, jm_bI_some, h.2.1.1, e, jm_bV_thr]
theorem c_take (hK : 20000 ≤ K) (h : SC B n L c N x) (hl : L.2.2 < 55) (hb : L.2.1 ≤ n) {k : Nat} (hk : k < 55) {a : Nat} (ha : a = 1000 + k) :
    (L.2.2 = k → ∃ x', f_G_take K g a x = rV x' ∧ SC B n (lexB B n L.2.1) c N x') ∧ (L.2.2 ≠ k → ∃ x', f_G_take K g a x = some (.inr (UOE, x')) ∧ BrC B (nI L.1) x') := by
  obtain ⟨h1, h2⟩ := c_need (K := K) (g := g) hK h hl hk ha
  constructor
  · intro hz
    obtain ⟨x', e, hx⟩ := c_next (K := K) (g := g) hK h hb
    exact ⟨x', by simp only [f_G_take]; rw [h1 hz, jm_bV_some, e, jm_bV_some], hx⟩
  · intro hz
    obtain ⟨x', e, hx⟩ := h2 hz
    exact ⟨x', by simp only [f_G_take]; rw [e, jm_bV_thr], hx⟩
theorem c_takes (hK : 20000 ≤ K) (h : SC B n L c N x) (hl : L.2.2 < 55) (hb : L.2.1 ≤ n) {k : Nat} (hk : k < 55) {a : Nat} (ha : a = 1000 + k) :
    (L.2.2 = k → ∃ x', f_G_takes K g a x = rI 1 x' ∧ SC B n (lexB B n L.2.1) c N x') ∧ (L.2.2 ≠ k → f_G_takes K g a x = rI 0 x) := by
  constructor
  · intro hz
    obtain ⟨x', e, hx⟩ := c_next (K := K) (g := g) hK h hb
    refine ⟨x', ?_, hx⟩
    simp only [f_G_takes, J_G_takes_20]
    rw [c_is h hl hk ha, jm_bI_some, decide_eq_true hz, e]
    rfl
  · intro hz
    simp only [f_G_takes, J_G_takes_20]
    rw [c_is h hl hk ha, jm_bI_some, decide_eq_false hz]
    rfl
end PC

/-! PURE, 15: the kind of a call; names hidden and shown. -/
def lsQ (B : Nat → Fin 256) (p m q : Nat) : Bool := if q = 0 then lsC B (tx 0) p m ((tx 0).length + 1) 0 0 else if q = 1 then lsC B (tx 1) p m ((tx 1).length + 1) 0 0 else if q = 2 then lsC B (tx 2) p m ((tx 2).length + 1) 0 0 else false
theorem tx_18 : tx 18 = 32 :: tx 0 := by decide +kernel
theorem tx_19 : tx 19 = 32 :: tx 1 := by decide +kernel
theorem tx_20 : tx 20 = 32 :: tx 2 := by decide +kernel
theorem tx_22 : tx 22 = [] := by decide +kernel
section PY
variable {K : Nat} {g : jm_Rec} {B : Nat → Fin 256} {n : Nat} {L : Nat × Nat × Nat} {c : Nat → Int32} {N : List NE} {op pt : Nat} {x : jm_X} {k : Nat}
theorem c_callKind (hK : 20000 ≤ K) (h : SC B n L c N x) (hN : NOk n N) {p e q : Nat} (hpe : p ≤ e) (he : e ≤ n) (hq : q < 2 ^ 31) : f_N_callKind K g (nI p) (nI e) (nI q) x = (match ckN B N p (e - p) q N.length with
    | some a => rI (sC a) x
    | none => rI (if lsQ B p (e - p) q = true then 14 else -4) x) := by
  have hl := hN.1
  have h4 := h.1.2.2.2
  simp only [f_N_callKind, h.2.2.2.1.1]
  rw [c_ck_L hK h hN hpe he hq N.length K (by omega) (Nat.le_refl _)]
  have key : f_N_isKnownAnywhere K g (nI p) (nI e) (nI q) x = rI (bI (lsQ B p (e - p) q)) x := by
    simp only [f_N_isKnownAnywhere, lsQ]
    rw [show (0 : Int32) = nI 0 from rfl, show (1 : Int32) = nI 1 from rfl, show (2 : Int32) = nI 2 from rfl, c_listed hK (k := 0) (by omega) h.2.2.2.1.2.1 h.1.2.2.1 hpe (by omega) rfl, c_listed hK (k := 1) (by omega) h.2.2.2.1.2.1 h.1.2.2.1 hpe (by omega) rfl, c_listed hK (k := 2) (by omega) h.2.2.2.1.2.1 h.1.2.2.1 hpe (by omega) rfl]
    simp only [jm_bI_some, bI_nar, nI_eq (a := q) (b := 0) hq (by omega), nI_eq (a := q) (b := 1) hq (by omega), nI_eq (a := q) (b := 2) hq (by omega)]
    by_cases h0 : q = 0
    · rw [if_pos h0, if_pos h0]
    · rw [if_neg h0, if_neg h0]
      by_cases h1 : q = 1
      · rw [if_pos h1, if_pos h1]
      · rw [if_neg h1, if_neg h1]
        by_cases h2 : q = 2
        · rw [if_pos h2, if_pos h2]
        · rw [if_neg h2, if_neg h2]; rfl
  rw [key]
  cases ckN B N p (e - p) q N.length with
  | some a => rfl
  | none =>
    simp only [jm_bI_some, bI_ite]
    cases lsQ B p (e - p) q <;> rfl
theorem r_word_L (hk : k < 73) (hT : x.2.2 3 = tpB B) (k117 : Int32 → Int32 → Nat → Int32 → jm_X → Option jm_R) {p m i : Nat} (hp : p + m ≤ 16384) (hi : i + m + 2 ≤ (tx k).length) : ∀ (r j f : Nat), r < f → j + r = m →
    L_M_kindOf_169 K g k117 f (nI p) (nI m) (2000 + k) (nI i) 1 (nI j) x = (if eqT B (tx k) r (p + j) (i + 1 + j) = true then rI 14 x else k117 (nI p) (nI m) (2000 + k) (nI (i + 1)) x)
  | r, j, 0, hf, _ => absurd hf (Nat.not_lt_zero _)
  | 0, j, f + 1, hf, hj => by
    have hl := tx_len k hk
    simp only [L_M_kindOf_169, B_M_kindOf_169, J_M_kindOf_217]
    rw [if_pos (nI_le (by omega) (by omega)), if_neg (by decide)]; rfl
  | r + 1, j, f + 1, hf, hj => by
    have hl := tx_len k hk
    have ih := r_word_L hk hT k117 hp hi r (j + 1) f (by omega) (by omega)
    simp only [L_M_kindOf_169, B_M_kindOf_169, J_M_kindOf_209]
    rw [if_neg (nI_ge (by omega) (by omega)), if_neg (by decide), if_pos (cn_str hk), nI_1, nI_1, nI_add, nI_add, v_JS_charAt K g x hk (by omega), jm_bI_some, if_pos (pu_in (n := 16384) rfl (by omega) (by omega)), nI_clamp (by omega), hT, ih]
    by_cases hz : (tx k).getD (i + 1 + j) 0 = tpB B (p + j)
    · have ee : eqT B (tx k) (r + 1) (p + j) (i + 1 + j) = eqT B (tx k) r (p + (j + 1)) (i + 1 + (j + 1)) := by
        rw [eqT, decide_eq_true hz.symm, Bool.true_and]; rfl
      rw [if_pos hz, ee]
    · have ee : eqT B (tx k) (r + 1) (p + j) (i + 1 + j) = false := by
        rw [eqT, decide_eq_false (fun z => hz z.symm), Bool.false_and]
      rw [if_neg hz, ee, if_neg Bool.false_ne_true]
      cases f with
      | zero => omega
      | succ f =>
        simp only [L_M_kindOf_169, B_M_kindOf_169, J_M_kindOf_217, if_true, nI_1, ite_self]
theorem r_list_L (hK : 20000 ≤ K) (hk : k < 73) (hT : x.2.2 3 = tpB B) {p m : Nat} (hp : p + m ≤ 16384) : ∀ (M i f : Nat), M ≤ f → i + M = (tx k).length + 1 →
    L_M_kindOf_117 K g f (nI p) (nI m) (2000 + k) (nI i) x = (if lsR B (tx k) p m M i = true then rI 14 x else some (.inr (ISE, (va_up x.1 7 (nI p), x.2)))) ∨ i = (tx k).length + 1
  | 0, i, f, hf, hi => Or.inr (by omega)
  | M + 1, i, 0, hf, hi => by omega
  | M + 1, i, f + 1, hf, hi => by
    left
    have hl := tx_len k hk
    simp only [L_M_kindOf_117, B_M_kindOf_117, J_M_kindOf_163, J_M_kindOf_164]
    rw [if_pos (cn_str hk), v_JS_length K g x hk, jm_bI_some, nI_add, show nI (i + m) + 2 = nI (i + m + 2) from nI_add _ 2, nI_1]
    by_cases hlt : i + m + 2 ≤ (tx k).length
    · have ih := (r_list_L hK hk hT hp M (i + 1) f (by omega) (by omega)).resolve_right (by omega)
      rw [if_neg (nI_nlt hlt (by omega)), if_pos (cn_str hk), v_JS_charAt K g x hk (by omega), jm_bI_some, v_JS_charAt K g x hk (by omega), jm_bI_some, if_pos (cn_str hk)]
      have e0 : L_M_kindOf_169 K g (L_M_kindOf_117 K g f) K (nI p) (nI m) (2000 + k) (nI i) 0 0 x = L_M_kindOf_117 K g f (nI p) (nI m) (2000 + k) (nI (i + 1)) x := by
        cases K with
        | zero => omega
        | succ K => simp only [L_M_kindOf_169, B_M_kindOf_169, J_M_kindOf_217, if_true, nI_1, ite_self]
      have e1 := r_word_L (K := K) (g := g) hk hT (L_M_kindOf_117 K g f) hp hlt m 0 K (by omega) (by omega)
      rw [nI_0, Nat.add_zero, Nat.add_zero] at e1
      rw [e0, e1, ih]
      by_cases h1 : (tx k).getD i 0 = 32
      · rw [if_pos h1]
        by_cases h2 : (tx k).getD (i + m + 1) 0 = 32
        · rw [if_pos h2]
          by_cases h3 : eqT B (tx k) m p (i + 1) = true
          · have el : lsR B (tx k) p m (M + 1) i = true := by rw [lsR, if_pos hlt, if_pos ⟨h1, h2, h3⟩]
            rw [if_pos h3, if_pos el]
          · have el : lsR B (tx k) p m (M + 1) i = lsR B (tx k) p m M (i + 1) := by rw [lsR, if_pos hlt, if_neg (fun z => h3 z.2.2)]
            rw [if_neg h3, el]
        · have el : lsR B (tx k) p m (M + 1) i = lsR B (tx k) p m M (i + 1) := by rw [lsR, if_pos hlt, if_neg (fun z => h2 z.2.1)]
          rw [if_neg h2, el]
      · have el : lsR B (tx k) p m (M + 1) i = lsR B (tx k) p m M (i + 1) := by rw [lsR, if_pos hlt, if_neg (fun z => h1 z.1)]
        rw [if_neg h1, el]
    · have el : lsR B (tx k) p m (M + 1) i = false := by rw [lsR, if_neg hlt]
      rw [if_pos (nI_lt (by omega) (by omega)), if_neg (by rw [el]; exact Bool.false_ne_true)]
      rfl
theorem r_list (hK : 20000 ≤ K) (hk : k < 73) (hT : x.2.2 3 = tpB B) {p m : Nat} (hp : p + m ≤ 16384) {a : Nat} (ha : a = 2000 + k) : J_M_kindOf_112 K g (nI p) (nI m) a x = (if lsR B (tx k) p m ((tx k).length + 1) 0 = true then rI 14 x else some (.inr (ISE, (va_up x.1 7 (nI p), x.2)))) := by
  subst ha
  have hl := tx_len k hk
  exact (r_list_L (K := K) (g := g) hK hk hT hp ((tx k).length + 1) 0 K (by omega) (by omega)).resolve_right (by omega)
theorem r_ck_L (hK : 20000 ≤ K) (h : SR B n L c N op pt x) (hN : NOk n N) {p m q : Nat} (hp : p + m ≤ n) (hq : q < 2 ^ 31) : ∀ (j f : Nat), j < f → j ≤ N.length → L_M_kindOf_8 K g f (nI p) (nI m) (nI q) (nI j - 1) x = (match ckN B N p m q j with
    | some a => rI (sC a) x
    | none => (if q = 0 then J_M_kindOf_112 K g (nI p) (nI m) 2018 x else (if q = 1 then J_M_kindOf_112 K g (nI p) (nI m) 2019 x else (if q = 2 then J_M_kindOf_112 K g (nI p) (nI m) 2020 x else J_M_kindOf_112 K g (nI p) (nI m) 2022 x))))
  | j, 0, hf, _ => absurd hf (Nat.not_lt_zero _)
  | 0, f + 1, hf, hj => by
    simp only [L_M_kindOf_8, B_M_kindOf_8, ckN]
    rw [if_pos (by decide), show (0 : Int32) = nI 0 from rfl, show (1 : Int32) = nI 1 from rfl, show (2 : Int32) = nI 2 from rfl]
    simp only [nI_eq (a := q) (b := 0) hq (by omega), nI_eq (a := q) (b := 1) hq (by omega), nI_eq (a := q) (b := 2) hq (by omega)]
  | j + 1, f + 1, hf, hj => by
    have hl := hN.1
    obtain ⟨en, hen⟩ : ∃ e, N[j]? = some e := ⟨N[j], List.getElem?_eq_getElem (by omega)⟩
    obtain ⟨e1, e2, e3⟩ := hN.get hen
    obtain ⟨a1, _, _, a4, a5⟩ := h.2.2.2.1.2 j en hen
    have ih := r_ck_L hK h hN hp hq j f (by omega) (by omega)
    simp only [L_M_kindOf_8, B_M_kindOf_8, J_M_kindOf_74, J_M_kindOf_73, nI_pred, pu_m1, ckN, hen]
    rw [if_neg (nI_pos (by omega)), if_pos (pu_in (n := 17000) rfl (by omega) (by omega)), nI_clamp (by omega), a1, if_pos (pu_in (n := 17000) rfl (by omega) (by omega)), a5, if_pos (pu_in (n := 17000) rfl (by omega) (by omega)), a4, r_sameName hK h hN hen hp, jm_bI_some, bI_ite, ih, a1, rI_ite]
    by_cases q1 : en.1 ≤ 1
    · obtain ⟨w1, w2⟩ := (wR_1 _ e1).mpr q1
      rw [if_neg w1, if_pos w2]
      by_cases q2 : en.2.2.2 = q
      · rw [if_pos (by rw [q2])]
        by_cases q3 : nmEq B en p m = true
        · rw [if_pos q3, if_pos (show en.1 ≤ 1 ∧ en.2.2.2 = q ∧ nmEq B en p m = true from ⟨q1, q2, q3⟩)]
          rw [if_pos (pu_in (n := 17000) rfl (by omega) (by omega))]
          exact congrArg (fun v => rI v x) (wR_0 _ q1)
        · rw [if_neg q3, if_neg (show ¬ (en.1 ≤ 1 ∧ en.2.2.2 = q ∧ nmEq B en p m = true) from fun z => q3 z.2.2)]
      · rw [if_neg (show ¬ (nI en.2.2.2 = nI q) from fun z => q2 ((nI_eq (by omega) hq).mp z)), if_neg (show ¬ (en.1 ≤ 1 ∧ en.2.2.2 = q ∧ nmEq B en p m = true) from fun z => q2 z.2.1)]
    · rw [if_neg (show ¬ (en.1 ≤ 1 ∧ en.2.2.2 = q ∧ nmEq B en p m = true) from fun z => q1 z.1)]
      by_cases w1 : 1 < wR en.1
      · rw [if_pos w1]
      · rw [if_neg w1, if_neg (fun z => q1 ((wR_1 _ e1).mp ⟨w1, z⟩))]
theorem r_kindOf (hK : 20000 ≤ K) (h : SR B n L c N op pt x) (hN : NOk n N) {p m q : Nat} (hp : p + m ≤ n) (hq : q < 2 ^ 31) (hb : ∀ j, j < m → tpB B (p + j) ≠ 32) : f_M_kindOf K g (nI p) (nI m) (nI q) x = (match ckN B N p m q N.length with
    | some a => rI (sC a) x
    | none => (if lsQ B p m q = true then rI 14 x else some (.inr (ISE, (va_up x.1 7 (nI p), x.2))))) := by
  have hl := hN.1
  have h4 := h.1.2.2
  simp only [f_M_kindOf, h.2.2.2.1.1]
  rw [r_ck_L hK h hN hp hq N.length K (by omega) (Nat.le_refl _), r_list hK (k := 18) (by omega) h.1.2.1 (by omega) rfl, r_list hK (k := 19) (by omega) h.1.2.1 (by omega) rfl, r_list hK (k := 20) (by omega) h.1.2.1 (by omega) rfl, r_list hK (k := 22) (by omega) h.1.2.1 (by omega) rfl]
  have e18 : lsR B (tx 18) p m ((tx 18).length + 1) 0 = lsC B (tx 0) p m ((tx 0).length + 1) 0 0 := by rw [tx_18, lsC_lsR hb]; rfl
  have e19 : lsR B (tx 19) p m ((tx 19).length + 1) 0 = lsC B (tx 1) p m ((tx 1).length + 1) 0 0 := by rw [tx_19, lsC_lsR hb]; rfl
  have e20 : lsR B (tx 20) p m ((tx 20).length + 1) 0 = lsC B (tx 2) p m ((tx 2).length + 1) 0 0 := by rw [tx_20, lsC_lsR hb]; rfl
  have e22 : lsR B (tx 22) p m ((tx 22).length + 1) 0 = false := by rw [tx_22]; rfl
  rw [e18, e19, e20, e22]
  cases ckN B N p m q N.length with
  | some a => rfl
  | none =>
    simp only
    by_cases h0 : q = 0
    · have e : lsQ B p m q = lsC B (tx 0) p m ((tx 0).length + 1) 0 0 := by rw [lsQ, if_pos h0]
      rw [if_pos h0, e]
    · by_cases h1 : q = 1
      · have e : lsQ B p m q = lsC B (tx 1) p m ((tx 1).length + 1) 0 0 := by rw [lsQ, if_neg h0, if_pos h1]
        rw [if_neg h0, if_pos h1, e]
      · by_cases h2 : q = 2
        · have e : lsQ B p m q = lsC B (tx 2) p m ((tx 2).length + 1) 0 0 := by rw [lsQ, if_neg h0, if_neg h1, if_pos h2]
          rw [if_neg h0, if_neg h1, if_pos h2, e]
        · have e : lsQ B p m q = false := by rw [lsQ, if_neg h0, if_neg h1, if_neg h2]
          rw [if_neg h0, if_neg h1, if_neg h2, e]
end PY

/-! PURE, 25: calls, side by side. -/
theorem ckN_le {B : Nat → Fin 256} {N : List NE} {p m q : Nat} : ∀ j a, ckN B N p m q j = some a → a ≤ 1
  | 0, a, h => by cases h
  | j + 1, a, h => by
    simp only [ckN] at h
    cases hj : N[j]? with
    | none => rw [hj] at h; exact ckN_le j a h
    | some e =>
      rw [hj] at h
      simp only at h
      by_cases hc : e.1 ≤ 1 ∧ e.2.2.2 = q ∧ nmEq B e p m = true
      · rw [if_pos hc] at h; cases h; exact hc.1
      · rw [if_neg hc] at h; exact ckN_le j a h
section PG
variable {K : Nat} {gc gr : jm_Rec} {B : Nat → Fin 256} {n : Nat} {L : Nat × Nat × Nat} {c off : Nat → Int32} {N : List NE} {op pt s lo : Nat} {xC xR : jm_X}
theorem s_callEnd (hK : 20000 ≤ K) (hN : NOk n N) (hL : LX B n L) (hs : s < L.1) (hC : SC B n L (cO c off) N xC) (hR : SR B n L c N op pt xR) {p e q : Nat} (hpe : p ≤ e) (he : e ≤ n) (hq : q < 2 ^ 31) (hb : ∀ j, j < e - p → tpB B (p + j) ≠ 32) :
    SimV B (Go B n off N op pt s) (J_G_call_69 K gc (nI p) (nI e) (nI q) xC) (J_M_named_135 K gr (nI p) (nI (e - p)) (nI q) xR) := by
  have fin : ∀ (k : Nat) (v : Int32), v = nI k → k < 34 → v ≠ -4 → SimV B (Go B n off N op pt s) (if v = -4 then jm_bV (f_G_broken K gc (nI p) xC) (fun x14 => J_G_call_94 K gc v x14) else J_G_call_94 K gc v xC) (if jm_in shR 4 .int v then (if jm_in shR 4 .int v then jm_then (jm_ua xR 4 v ((xR.2.2 4 (Int32.toNatClampNeg v)) + 1)) (fun x22 => some (.inl (none, x22))) else none) else none) := by
    intro k v hv hk h4
    obtain ⟨y, ey, sy⟩ := c_count (K := K) (g := gc) hC hk hv
    rw [← cO_cnt] at sy
    rw [if_neg h4, r_cnt_eq hk hv]
    simp only [J_G_call_94]
    rw [ey, jm_bV_some]
    exact SimV.ok ⟨L, cnt c k, hL, hs, sy, r_cnt hR k⟩
  simp only [J_G_call_69, J_M_named_135]
  rw [c_callKind hK hC hN hpe he hq, r_kindOf hK hR hN (by omega) hq hb]
  cases hz : ckN B N p (e - p) q N.length with
  | some a =>
    have ha := ckN_le _ _ hz
    simp only [jm_bI_some]
    have : a = 0 ∨ a = 1 := by omega
    rcases this with rfl | rfl
    · exact fin 12 _ rfl (by omega) (by decide)
    · exact fin 13 _ rfl (by omega) (by decide)
  | none =>
    simp only [jm_bI_some]
    cases hl : lsQ B p (e - p) q with
    | true =>
      simp only [if_true, jm_bI_some]
      exact fin 14 _ rfl (by omega) (by decide)
    | false =>
      simp only [Bool.false_eq_true, if_false, if_true]
      obtain ⟨y, ey, hy⟩ := c_broken (K := K) (g := gc) hK hC (nI p)
      obtain ⟨-, b2⟩ := r_bad (K := K) (g := gr) hR (nI p)
      refine Sim.thr (v := nI p) ?_ ?_ hy b2
      · rw [ey, jm_bV_thr]
      · rfl
theorem s_args (hK : 20000 ≤ K) (hp : PS B n gc gr lo) (hlo : lo ≤ op) (ho : op ≤ 60) (hN : NOk n N) (hn : N.length ≤ 21 * op) (hn4 : n ≤ 16384) {p e : Nat} (hpe : p ≤ e) (he : e ≤ n) (hb : ∀ j, j < e - p → tpB B (p + j) ≠ 32) : ∀ (f q f' : Nat) (L : Nat × Nat × Nat) (c : Nat → Int32) (xC xR : jm_X), n - L.1 < f → n - L.1 < f' → q ≤ L.1 → s ≤ L.1 → LX B n L → SC B n L (cO c off) N xC → SR B n L c N op pt xR →
    SimV B (Go B n off N op pt s) (L_G_call_36 K gc f (nI op) (nI p) (nI e) (nI q) xC) (L_M_named_113 K gr f' (nI p) (nI (e - p)) (nI q) xR)
  | 0, q, f', L, c, xC, xR, hf, _, _, _, _, _, _ => absurd hf (Nat.not_lt_zero _)
  | f + 1, q, 0, L, c, xC, xR, _, hf, _, _, _, _, _ => absurd hf (Nat.not_lt_zero _)
  | f + 1, q, f' + 1, L, c, xC, xR, hf, hf', hq, hs, hL, hC, hR => by
    simp only [L_G_call_36, B_G_call_36, J_G_call_62, L_M_named_113, B_M_named_113]
    refine SimV.bind (hp off N op pt L c xC xR hlo ho hN hn hL hC hR) ?_
    rintro yC yR ⟨-, L1, c1, q1, q2, q3, q4⟩
    have hF1 := q1.facts
    have hLn : L1.1 ≤ n := Nat.le_trans hF1.1 hF1.2.1
    obtain ⟨k1, k2⟩ := c_takes (K := K) (g := gc) hK q3 hF1.2.2.1 hF1.2.1 (k := 11) (by omega) (a := 1011) rfl
    obtain ⟨r1, r2⟩ := r_skip_i (K := K) (g := gr) hK q4 hF1 (a := 23) (k := 11) (tkU.of (by decide)) (by omega)
    rw [nI_1, show (16385 : Int32) = nI 16385 from rfl, if_neg (nI_ge (by omega) (by omega))]
    by_cases hz : L1.2.2 = 11
    · obtain ⟨z1, e1, s1⟩ := k1 hz
      obtain ⟨z2, e2, s2⟩ := r1 hz
      have hgt := q1.gt (by omega) (by omega)
      have hn1 : (lexB B n L1.2.1).1 ≤ n := Nat.le_trans q1.next.facts.1 q1.next.facts.2.1
      rw [e1, e2, jm_bI_some, jm_bI_some, if_neg (show ¬ ((1 : Int32) = 0) by decide), if_neg (show ¬ ((1 : Int32) = 0) by decide)]
      exact s_args hK hp hlo ho hN hn hn4 hpe he hb f (q + 1) f' _ c1 z1 z2 (by omega) (by omega) (by omega) (by omega) q1.next s1 s2
    · rw [k2 hz, r2 hz, jm_bI_some, jm_bI_some, if_pos rfl, if_pos rfl]
      refine SimV.bind (s_take hK q1 q3 q4 (k := 13) (by omega) (by omega) rfl (b := 17) (by decide)) ?_
      rintro zC zR ⟨p1, -, p3, p4⟩
      exact s_callEnd hK hN q1.next (by omega) p3 p4 hpe he (by omega) hb
/-- NAME, NAME(P; ..) -/
theorem s_call (hK : 20000 ≤ K) (hp : PS B n gc gr lo) (hlo : lo ≤ op) (ho : op ≤ 60) (hN : NOk n N) (hn : N.length ≤ 21 * op) (hL : LX B n L) (h2 : L.2.2 = 2) (hC : SC B n L (cO c off) N xC) (hR : SR B n L c N op pt xR) :
    SimV B (Go B n off N op pt L.1) (f_G_call K gc (nI op) xC) (f_M_named K gr xR) := by
  have hF := hL.facts
  have hn4 := hC.1.2.2.2
  have hL1 := hL.next
  have hF1 := hL1.facts
  have hgt := hL.gt (by omega) (by omega)
  have hLn : (lexB B n L.2.1).1 ≤ n := Nat.le_trans hF1.1 hF1.2.1
  have hb := hL.noBlank (by rw [h2]; decide)
  obtain ⟨-, r1⟩ := r_skip_s (K := K) (g := gr) hK hR hF (j := 5) (by omega) (by omega) (a := 2005) rfl
  have r1' := r1 (by rw [h2]; decide)
  have r2 := r_isWord (K := K) (g := gr) hK hR hF
  obtain ⟨y1, e1, s1⟩ := c_next (K := K) (g := gc) hK hC hF.2.1
  obtain ⟨y2, e2, s2⟩ := r_scan (K := K) (g := gr) hK hR hF.2.1 (by omega) (by omega)
  obtain ⟨k1, k2⟩ := c_takes (K := K) (g := gc) hK s1 hF1.2.2.1 hF1.2.1 (k := 12) (by omega) (a := 1012) rfl
  obtain ⟨m1, m2⟩ := r_skip_i (K := K) (g := gr) hK s2 hF1 (a := 16) (k := 12) (tkU.of (by decide)) (by omega)
  simp only [f_G_call, f_M_named, f_S_start, f_S_behind]
  rw [jm_bI_some, jm_bI_some, hC.2.1.1, hC.2.1.2.1, e1, jm_bV_some, r1', jm_bI_some, if_pos rfl, r2, decide_eq_false (fun z => z.2 h2), jm_bI_some, bI_ite, if_neg Bool.false_ne_true, e2, jm_bV_some, hR.2.1.1, hR.2.1.2.1 (by omega) (by omega), pu_sub hF.1]
  by_cases hz : (lexB B n L.2.1).2.2 = 12
  · obtain ⟨z1, e3, s3⟩ := k1 hz
    obtain ⟨z2, e4, s4⟩ := m1 hz
    have hgt1 := hL1.gt (by omega) (by omega)
    have hLn2 : (lexB B n (lexB B n L.2.1).2.1).1 ≤ n := Nat.le_trans hL1.next.facts.1 hL1.next.facts.2.1
    rw [e3, e4, jm_bI_some, jm_bI_some, if_neg (show ¬ ((1 : Int32) = 0) by decide), if_neg (show ¬ ((1 : Int32) = 0) by decide), ← nI_0]
    exact s_args hK hp hlo ho hN hn hn4 hF.1 hF.2.1 hb K 0 K _ c z1 z2 (by omega) (by omega) (by omega) (by omega) hL1.next s3 s4
  · rw [k2 hz, m2 hz, jm_bI_some, jm_bI_some, if_pos rfl, if_pos rfl, ← nI_0]
    exact s_callEnd hK hN hL1 hgt s1 s2 hF.1 hF.2.1 (by omega) hb
end PG

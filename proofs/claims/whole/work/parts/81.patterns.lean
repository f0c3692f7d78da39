/-! PURE, 32: patterns, side by side. -/
/-- behind a part of a pattern: its names are new, and counted -/
def GoN (B : Nat → Fin 256) (n : Nat) (off : Nat → Int32) (N : List NE) (op pt s : Nat) (a : Int32) (yC yR : jm_X) : Prop :=
  ∃ (A : List NE) (q : Nat), a = nI q ∧ pt + A.length = q ∧ q ≤ 10 ∧ (∀ e ∈ A, e.1 = 2) ∧ NOk n (N ++ A) ∧ Go B n off (N ++ A) op q s yC yR
/-- of pattern -/
def QS (B : Nat → Fin 256) (n : Nat) (gc gr : jm_Rec) (lo : Nat) : Prop := ∀ (off : Nat → Int32) (N : List NE) (op pt : Nat) (L : Nat × Nat × Nat) (c : Nat → Int32) (xC xR : jm_X), lo ≤ op → op ≤ 60 → NOk n N → N.length + 10 ≤ 21 * op + pt → pt ≤ 10 → LX B n L → SC B n L (cO c off) N xC → SR B n L c N op pt xR →
  SimI B (GoN B n off N op pt L.1) (gc 2 [.ref 2, .int (nI op), .int (nI pt)] xC) (gr 2 [.ref 0] xR)
section PO
variable {K : Nat} {gc gr : jm_Rec} {B : Nat → Fin 256} {n : Nat} {off : Nat → Int32} {N : List NE} {op pt s lo : Nat} {L : Nat × Nat × Nat} {c : Nat → Int32} {xC xR : jm_X}
theorem Go.mono {s' : Nat} (h : Go B n off N op pt s xC xR) (hs : s' ≤ s) : Go B n off N op pt s' xC xR := by
  obtain ⟨L1, c1, q1, q2, q3⟩ := h
  exact ⟨L1, c1, q1, by omega, q3⟩
theorem GoN.trans {A : List NE} {q s' : Nat} {a : Int32} (h : GoN B n off (N ++ A) op q s a xC xR) (hq : pt + A.length = q) (hA : ∀ e ∈ A, e.1 = 2) (hs : s' ≤ s) : GoN B n off N op pt s' a xC xR := by
  obtain ⟨A', q', h1, h2, h3, h4, h5, h6⟩ := h
  refine ⟨A ++ A', q', h1, ?_, h3, ?_, ?_, ?_⟩
  · rw [List.length_append]; omega
  · intro e he
    rcases List.mem_append.mp he with z | z
    · exact hA e z
    · exact h4 e z
  · rw [← List.append_assoc]; exact h5
  · rw [← List.append_assoc]; exact h6.mono hs
theorem GoN.mono {s' : Nat} {a : Int32} (h : GoN B n off N op pt s a xC xR) (hs : s' ≤ s) : GoN B n off N op pt s' a xC xR := by
  obtain ⟨A', q', h1, h2, h3, h4, h5, h6⟩ := h
  exact ⟨A', q', h1, h2, h3, h4, h5, h6.mono hs⟩
theorem SimI.mono {Q Q' : Int32 → jm_X → jm_X → Prop} {rC rR : Option jm_R} (h : SimI B Q rC rR) (k : ∀ a xC xR, Q a xC xR → Q' a xC xR) : SimI B Q' rC rR := by
  rcases h with ⟨vC, xC, vR, xR, e1, e2, a, h1, h2, hq⟩ | h
  · exact Or.inl ⟨vC, xC, vR, xR, e1, e2, a, h1, h2, k _ _ _ hq⟩
  · exact Or.inr h
theorem NOk.snoc (hN : NOk n N) (h1 : N.length + 1 < 1400) {e : NE} (he : e.1 < 5 ∧ e.2.1 + e.2.2.1 ≤ n ∧ e.2.2.2 ≤ 10) : NOk n (N ++ [e]) := by
  refine ⟨by rw [List.length_append]; exact h1, ?_⟩
  intro e' he'
  rcases List.mem_append.mp he' with z | z
  · exact hN.2 e' z
  · rw [List.mem_singleton.mp z]; exact he
/-- a $NAME of a pattern, and on -/
theorem s_patName (hK : 20000 ≤ K) (hL : LX B n L) (h4 : L.2.2 = 4) (hN : N.length < 1400) (hp : pt ≤ 10) {k : Nat} (hk : k < 34) {a : Int32} (ha : a = nI k) (hC : SC B n L (cO (cnt c k) off) N xC) (hR : SR B n L c N op pt xR)
    {Po : Option Value → jm_X → Option Value → jm_X → Prop} {kC : Int32 → jm_X → Option jm_R} {kR : jm_X → Option jm_R}
    (h : pt ≠ 10 → ∀ yC yR, SC B n (lexB B n L.2.1) (cO (cnt c k) off) (N ++ [(2, L.1 + 1, L.2.1 - (L.1 + 1), 0)]) yC → SR B n (lexB B n L.2.1) (cnt c k) (N ++ [(2, L.1 + 1, L.2.1 - (L.1 + 1), 0)]) op (pt + 1) yR → Sim B Po (kC (nI (pt + 1)) yC) (kR yR)) :
    Sim B Po (jm_bI (f_G_patternName K gc (nI pt) xC) kC) (jm_bV (f_M_another K gr xR) (fun x1 => (if jm_in shR 4 .int a then (if jm_in shR 4 .int a then jm_then (jm_ua x1 4 a ((x1.2.2 4 (Int32.toNatClampNeg a)) + 1)) (fun x2 => jm_bV (f_M_know K gr 2 ((x2.1 9) + 1) (((x2.1 10) - (x2.1 9)) - 1) 0 0 x2) (fun x3 => jm_bV (f_M_scan K gr x3) (fun x4 => kR x4))) else none) else none))) := by
  have hF := hL.facts
  obtain ⟨c1, c2⟩ := c_patternName (K := K) (gc := gc) hK hL h4 hN hC hp
  obtain ⟨r1, r2⟩ := r_another (K := K) (gr := gr) hR hp
  by_cases hz : pt = 10
  · obtain ⟨y1, e1, b1⟩ := c2 hz
    obtain ⟨y2, e2, b2⟩ := r1 hz
    exact Sim.thr (v := nI L.1) (by rw [e1, jm_bI_thr]) (by rw [e2, jm_bV_thr]) b1 b2
  · obtain ⟨y1, e1, s1⟩ := c1 hz
    obtain ⟨y2, e2, t2⟩ := r2 hz
    obtain ⟨y3, e3, t3⟩ := r_knowV (K := K) (gr := gr) hL h4 hN (r_cnt t2 k)
    obtain ⟨y4, e4, t4⟩ := r_scan (K := K) (g := gr) hK t3 hF.2.1 (by omega) (by omega)
    rw [e1, jm_bI_some, e2, jm_bV_some, r_cnt_eq hk ha, e3, jm_bV_some, e4, jm_bV_some]
    exact h hz _ _ s1 t4
/-- ':' PATTERN -/
theorem s_patColon (hK : 20000 ≤ K) (hq : QS B n gc gr lo) (hlo : lo ≤ op) (ho : op ≤ 60) (hN : NOk n N) (hn : N.length + 10 ≤ 21 * op + pt) (hp : pt ≤ 10) (hL : LX B n L) (hs : s ≤ L.1) (hC : SC B n L (cO c off) N xC) (hR : SR B n L c N op pt xR) :
    SimI B (GoN B n off N op pt s) (J_G_patternEntry_93 K gc (nI op) (nI pt) xC) (J_M_entryOfPattern_149 K gr xR) := by
  simp only [J_G_patternEntry_93, J_M_entryOfPattern_149]
  refine SimV.bind (s_take hK hL hC hR (k := 10) (by omega) (by omega) rfl (b := 22) (by decide)) ?_
  rintro zC zR ⟨p1, -, p3, p4⟩
  refine SimI.bind (hq off N op pt _ c zC zR hlo ho hN hn hp hL.next p3 p4) ?_
  intro a yC yR h
  exact SimI.ok (h.mono (by omega))
theorem s_patEntry (hK : 20000 ≤ K) (hP : PS B n gc gr lo) (hq : QS B n gc gr lo) (hlo : lo ≤ op) (ho : op ≤ 60) (hN : NOk n N) (hn : N.length + 10 ≤ 21 * op + pt) (hp : pt ≤ 10) (hL : LX B n L) (hC : SC B n L (cO c off) N xC) (hR : SR B n L c N op pt xR) :
    SimI B (GoN B n off N op pt L.1) (f_G_patternEntry K gc (nI op) (nI pt) xC) (f_M_entryOfPattern K gr xR) := by
  have hF := hL.facts
  obtain ⟨y0, e0, s0⟩ := c_count (K := K) (g := gc) hC (k := 33) (by omega) (a := 33) rfl
  rw [← cO_cnt] at s0
  have t0 := r_cnt hR 33
  have u16 : tkU 16 12 := tkU.of (by decide)
  have u3 : tkU 3 4 := tkU.of (by decide)
  have u5 : tkU 5 6 := tkU.of (by decide)
  simp only [f_G_patternEntry, f_M_entryOfPattern]
  rw [e0, jm_bV_some, r_cnt_eq (k := 33) (a := 33) (by omega) rfl, c_is s0 hF.2.2.1 (k := 4) (by omega) rfl, jm_bI_some, c_is s0 hF.2.2.1 (k := 12) (by omega) rfl, jm_bI_some, c_is s0 hF.2.2.1 (k := 6) (by omega) rfl, jm_bI_some]
  rw [t0.2.1.2.2]
  by_cases h4 : L.2.2 = 4
  · have t3 : tokS L.2.2 = 3 := by rw [h4]; decide
    have hlt := hF.2.2.2.1 (by omega) (by omega)
    obtain ⟨y1, e1, s1⟩ := c_count (K := K) (g := gc) s0 (k := 7) (by omega) (a := 7) rfl
    rw [← cO_cnt] at s1
    simp only [decide_eq_true h4, bI_ite, t3, if_true]
    rw [e1, jm_bV_some]
    have hL1 := hL.next
    have hF1 := hL1.facts
    have hgt := hL.gt (by omega) (by omega)
    refine s_patName (c := cnt c 33) hK hL h4 hN.1 hp (k := 7) (by omega) (a := 7) rfl s1 t0 ?_
    intro hp10 yC yR s2 t2
    have hN2 : NOk n (N ++ [(2, L.1 + 1, L.2.1 - (L.1 + 1), 0)]) := hN.snoc (by omega) ⟨by simp, by show L.1 + 1 + (L.2.1 - (L.1 + 1)) ≤ n; have := hF.2.1; omega, by simp⟩
    rw [c_is s2 hF1.2.2.1 (k := 10) (by omega) rfl, jm_bI_some, bI_ite]
    obtain ⟨r1, r2⟩ := r_skip_i (K := K) (g := gr) hK t2 hF1 (a := 22) (k := 10) (tkU.of (by decide)) (by omega)
    by_cases hz : (lexB B n L.2.1).2.2 = 10
    · obtain ⟨y5, e5, t5⟩ := r1 hz
      obtain ⟨k1, -⟩ := c_take (K := K) (g := gc) hK s2 hF1.2.2.1 hF1.2.1 (k := 10) (by omega) (a := 1010) rfl
      obtain ⟨y6, e6, s6⟩ := k1 hz
      have hgt1 := hL1.gt (by omega) (by omega)
      rw [decide_eq_true hz, if_pos rfl, e5, jm_bI_some, if_neg (show ¬ ((1 : Int32) = 0) by decide)]
      simp only [J_G_patternEntry_93, J_M_entryOfPattern_75]
      rw [e6, jm_bV_some]
      refine SimI.bind (hq off _ op (pt + 1) _ _ y6 y5 hlo ho hN2 (by rw [List.length_append]; simp only [List.length_singleton]; omega) (by omega) hL1.next s6 t5) ?_
      intro a zC zR h
      exact SimI.ok (h.trans rfl (by intro e he; rw [List.mem_singleton.mp he]) (by omega))
    · rw [decide_eq_false hz, if_neg Bool.false_ne_true, r2 hz, jm_bI_some, if_pos rfl]
      exact SimI.ok ⟨[(2, L.1 + 1, L.2.1 - (L.1 + 1), 0)], pt + 1, rfl, rfl, by omega, (by intro e he; rw [List.mem_singleton.mp he]), hN2, _, _, hL1, hgt, s2, t2⟩
  · have t3 : ¬ tokS L.2.2 = 3 := fun z => h4 ((u3 _ hF.2.2.1).mp z)
    simp only [decide_eq_false h4, bI_ite, if_false, Bool.false_eq_true, t3]
    by_cases h12 : L.2.2 = 12
    · have t1 : ¬ tokS L.2.2 = 1 := by rw [h12]; decide
      have t5 : ¬ tokS L.2.2 = 5 := by rw [h12]; decide
      simp only [decide_eq_true h12, if_true, t1, t5, if_false]
      obtain ⟨c1, -⟩ := c_take (K := K) (g := gc) hK s0 hF.2.2.1 hF.2.1 (k := 12) (by omega) (a := 1012) rfl
      obtain ⟨y1, e1, s1⟩ := c1 h12
      obtain ⟨r1, -⟩ := r_skip_i (K := K) (g := gr) hK t0 hF u16 (by omega)
      obtain ⟨y2, e2, t2⟩ := r1 h12
      have hgt := hL.gt (by omega) (by omega)
      have key := s_inner hK hP hlo ho hN (by omega) hL.next s1 t2 (k := 13) (by omega) (by omega) (a := 1013) rfl (b := 17) (by decide)
      simp only [f_G_group]
      rw [e1, jm_bV_some, e2, jm_bI_some, if_neg (show ¬ ((1 : Int32) = 0) by decide)]
      have e6 : ∀ (F : jm_X → Option jm_R), jm_bV (gr 0 [.ref 0] y2) (fun x => jm_bV (f_M_need_i K gr 17 x) (fun x => F x)) = jm_bV (jm_bV (gr 0 [.ref 0] y2) (fun x => jm_bV (f_M_need_i K gr 17 x) (fun x => rV x))) F := by
        intro F; simp only [jm_bV_assoc, jm_bV_some]
      rw [e6]
      refine SimV.bind key ?_
      rintro zC zR ⟨L2, c2, q1, q2, q3, q4⟩
      exact s_patColon hK hq hlo ho hN hn hp q1 (by omega) q3 q4
    · simp only [decide_eq_false h12, if_false, Bool.false_eq_true]
      obtain ⟨-, r2⟩ := r_skip_i (K := K) (g := gr) hK t0 hF u16 (by omega)
      rw [r2 h12, jm_bI_some, if_pos rfl]
      by_cases h6 : L.2.2 = 6
      · have t1 : ¬ tokS L.2.2 = 1 := by rw [h6]; decide
        have t5 : tokS L.2.2 = 5 := by rw [h6]; decide
        simp only [decide_eq_true h6, if_true, t1, t5, if_false]
        refine SimV.bind (s_stringW hK hL h6 s0 t0) ?_
        rintro zC zR ⟨L2, c2, q1, q2, q3, q4⟩
        exact s_patColon hK hq hlo ho hN hn hp q1 (by omega) q3 q4
      · have t5 : ¬ tokS L.2.2 = 5 := fun z => h6 ((u5 _ hF.2.2.1).mp z)
        simp only [decide_eq_false h6, if_false, Bool.false_eq_true, t5]
        obtain ⟨k1, k2⟩ := c_entryName (K := K) (gc := gc) hK hL s0
        by_cases t1 : tokS L.2.2 = 1
        · obtain ⟨z1, e6, s6⟩ := k1 t1
          have h0 : L.2.2 ≠ 0 := fun z => by rw [z] at t1; exact absurd t1 (by decide)
          have h1 : L.2.2 ≠ 1 := fun z => by rw [z] at t1; exact absurd t1 (by decide)
          obtain ⟨z2, e7, s7⟩ := r_scan (K := K) (g := gr) hK (r_cnt t0 7) hF.2.1 h0 h1
          have hgt := hL.gt h0 h1
          rw [e6, jm_bV_some, if_pos t1, r_cnt_eq (k := 7) (a := 7) (by omega) rfl, e7, jm_bV_some]
          exact s_patColon hK hq hlo ho hN hn hp hL.next (by omega) s6 s7
        · obtain ⟨z1, e6, hb⟩ := k2 t1
          obtain ⟨g1, g2⟩ := r_bad (K := K) (g := gr) t0 (nI L.1)
          refine Sim.thr (v := nI L.1) ?_ ?_ hb g2
          · rw [e6, jm_bV_thr]
          · rw [if_neg t1, t0.2.1.1]; exact g1
end PO

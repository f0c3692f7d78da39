/-! PURE, 36: definitions, side by side. -/
theorem ad_get {N P : List NE} {e : NE} : (N ++ e :: P)[N.length]? = some e := by
  rw [List.getElem?_append_right (Nat.le_refl _), Nat.sub_self]; rfl
theorem ad_other {N P : List NE} {e e' : NE} {i : Nat} (hi : i ≠ N.length) : (N ++ e :: P)[i]? = (N ++ e' :: P)[i]? := by
  by_cases h : i < N.length
  · rw [List.getElem?_append_left h, List.getElem?_append_left h]
  · rw [List.getElem?_append_right (by omega), List.getElem?_append_right (by omega)]
    obtain ⟨j, hj⟩ : ∃ j, i - N.length = j + 1 := ⟨i - N.length - 1, by omega⟩
    rw [hj]; rfl
theorem ad_setP {N P : List NE} {a s m q q' : Nat} : setP (N ++ (a, s, m, q) :: P) N.length q' = N ++ (a, s, m, q') :: P := by
  apply List.ext_getElem?
  intro j
  rw [setP_get]
  by_cases hj : j = N.length
  · subst hj
    rw [ad_get, ad_get]
    simp only [Option.map_some, if_true]
  · rw [ad_other (e' := (a, s, m, q')) hj]
    cases (N ++ (a, s, m, q') :: P)[j]? with
    | none => rfl
    | some e => simp only [Option.map_some, hj, if_false]
theorem ad_take {N P : List NE} {e : NE} : (N ++ e :: P).take (N.length + 1) = N ++ [e] := by
  rw [List.take_append, List.take_of_length_le (by omega), Nat.add_sub_cancel_left]; rfl
section PT
variable {K : Nat} {gc gr : jm_Rec} {B : Nat → Fin 256} {n : Nat} {off : Nat → Int32} {N P : List NE} {op pt s lo a m : Nat} {L : Nat × Nat × Nat} {c : Nat → Int32} {xC xR : jm_X}
theorem r_incP {q : Nat} (hl : N.length < 1400) (h : SR B n L c (N ++ (0, a, m, q) :: P) op pt xR) : SR B n L c (N ++ (0, a, m, q + 1) :: P) op pt (jm_ua xR 8 (nI N.length) ((xR.2.2 8 (Int32.toNatClampNeg (nI N.length))) + 1)) := by
  obtain ⟨h1, h2, h3, h4, h5, h6, h7⟩ := h
  refine ⟨⟨h1.1, ?_, h1.2.2⟩, h2, ?_, ⟨?_, ?_⟩, h5, h6, h7⟩
  · simp [jm_ua, va_up, h1.2.1]
  · simp [jm_ua, va_up, h3]
  · simp [jm_ua, h4.1]
  · intro i e he
    rw [nI_clamp (by omega)]
    by_cases hi : i = N.length
    · subst hi
      rw [ad_get] at he
      have := h4.2 _ _ ad_get
      cases he
      simp [jm_ua, va_up, upd, this, nI_1, nI_clamp (show N.length < 2 ^ 31 by omega)]
    · rw [ad_other (e' := (0, a, m, q)) hi] at he
      have := h4.2 _ _ he
      simp [jm_ua, va_up, upd, this, hi, nI_clamp (show N.length < 2 ^ 31 by omega)]
theorem s_defEnd {e : NE} (hK : 20000 ≤ K) (hP : PS B n gc gr lo) (hlo : lo ≤ op) (ho : op ≤ 60) (hN : NOk n (N ++ e :: P)) (hn : (N ++ e :: P).length ≤ 21 * op) (hL : LX B n L) (hs : s ≤ L.1) (hC : SC B n L (cO c off) (N ++ e :: P) xC) (hR : SR B n L c (N ++ e :: P) op pt xR) :
    SimV B (Go B n off (N ++ [e]) op pt s) (J_G_define_93 K gc (nI op) (nI N.length) xC) (jm_bV (J_M_definition_233 K gr (nI N.length) xR) (fun x15 => jm_bV (f_M_need_i K gr 23 x15) (fun x => rV x))) := by
  have hm : N.length + 1 ≤ (N ++ e :: P).length := by rw [List.length_append, List.length_cons]; omega
  simp only [J_G_define_93, J_M_definition_233, jm_then, jm_bV_assoc, jm_bV_some]
  refine SimV.bind (s_take hK hL hC hR (k := 10) (by omega) (by omega) rfl (b := 22) (by decide)) ?_
  rintro zC zR ⟨p1, -, p3, p4⟩
  refine SimV.bind (hP off _ op pt _ c zC zR hlo ho hN hn hL.next p3 p4) ?_
  rintro wC wR ⟨-, L2, c2, q1, q2, q3, q4⟩
  have t5 := q4.take hm (a := nI N.length + 1) (by rw [nI_1])
  rw [ad_take] at t5
  refine SimV.bind (s_take2 hK q1 q3 t5 (k := 11) (by omega) (by omega) rfl (b := 23) (by decide)) ?_
  rintro uC uR ⟨p8, -, p9, pa⟩
  obtain ⟨y5, e5, s5⟩ := c_forgetFrom (K := K) (g := gc) p9 hN.1 hm (a := nI N.length + 1) (by rw [nI_1])
  rw [ad_take] at s5
  rw [e5, jm_bV_some]
  exact SimV.ok ⟨_, c2, q1.next, by omega, s5, pa⟩
theorem c_learnParameter (hK : 20000 ≤ K) (hL : LX B n L) (hN : N.length + 1 < 1400) (hC : SC B n L c N xC) {q : Nat} (hq : q ≤ 10) :
    (q = 10 ∨ (L.2.2 ≠ 4 ∧ L.2.2 ≠ 2) → ∃ y, f_G_learnParameter K gc (nI q) xC = some (.inr (UOE, y)) ∧ BrC B (nI L.1) y) ∧
    (q ≠ 10 → L.2.2 = 4 → ∃ y, f_G_learnParameter K gc (nI q) xC = rV y ∧ SC B n L c (N ++ [(2, L.1 + 1, L.2.1 - (L.1 + 1), 0), (1, L.1 + 1, L.2.1 - (L.1 + 1), 0)]) y) ∧
    (q ≠ 10 → L.2.2 = 2 → ∃ y, f_G_learnParameter K gc (nI q) xC = rV y ∧ SC B n L c (N ++ [(1, L.1, L.2.1 - L.1, 0)]) y) := by
  have hF := hL.facts
  obtain ⟨yb, eb, hb⟩ := c_broken (K := K) (g := gc) hK hC (nI L.1)
  simp only [f_G_learnParameter, J_G_learnParameter_17, J_G_learnParameter_46, f_S_start]
  rw [show (10 : Int32) = nI 10 from rfl]
  by_cases h10 : q = 10
  · refine ⟨fun _ => ⟨yb, ?_, hb⟩, fun z => absurd h10 z, fun z => absurd h10 z⟩
    rw [if_neg (nI_nlt (by omega) (by omega)), jm_bI_some, hC.2.1.1, eb, jm_bV_thr]
  · rw [if_pos (nI_lt (by omega) (by omega)), c_is hC hF.2.2.1 (k := 4) (by omega) rfl, jm_bI_some, bI_ite]
    obtain ⟨n1, n2⟩ := c_need (K := K) (g := gc) hK hC hF.2.2.1 (k := 2) (by omega) (a := 1002) rfl
    refine ⟨?_, ?_, ?_⟩
    · intro h
      have h := h.resolve_left h10
      obtain ⟨y, e, hb⟩ := n2 h.2
      refine ⟨y, ?_, hb⟩
      rw [decide_eq_false h.1, if_neg Bool.false_ne_true, e, jm_bV_thr]
    · intro _ h4
      have hlt := hF.2.2.2.1 (by omega) (by omega)
      have e0 : nmS L = L.1 + 1 := by rw [nmS, if_pos (Or.inl h4)]
      obtain ⟨y1, e1, s1⟩ := c_learn (K := K) (g := gc) hC hF (by omega) (a := 2) (by omega) (s := -2) rfl
      obtain ⟨y2, e2, s2⟩ := c_learn (K := K) (g := gc) s1 hF (by rw [List.length_append]; exact hN) (a := 1) (by omega) (s := 13) rfl
      rw [e0, List.append_assoc] at s2
      refine ⟨y2, ?_, s2⟩
      rw [decide_eq_true h4, if_pos rfl, e1, jm_bV_some, e2, jm_bV_some]
    · intro _ h2
      have hlt := hF.2.2.2.1 (by omega) (by omega)
      have e0 : nmS L = L.1 := by rw [nmS, if_neg (by omega)]
      obtain ⟨y2, e2, s2⟩ := c_learn (K := K) (g := gc) hC hF (by omega) (a := 1) (by omega) (s := 13) rfl
      rw [e0] at s2
      refine ⟨y2, ?_, s2⟩
      rw [decide_eq_false (by omega), if_neg Bool.false_ne_true, n1 h2, jm_bV_some, e2, jm_bV_some]
/-- a parameter's end: counted, then on -/
theorem r_paramEnd {q f' : Nat} (hK : 20000 ≤ K) (hl : N.length < 1400) (hL : LX B n L) (h0 : L.2.2 ≠ 0) (h1 : L.2.2 ≠ 1) (hR : SR B n L c (N ++ (0, a, m, q) :: P) op pt xR) :
    ∃ y, SR B n (lexB B n L.2.1) c (N ++ (0, a, m, q + 1) :: P) op pt y ∧ J_M_definition_204 K gr (L_M_definition_62 K gr f') (nI N.length) xR = jm_bI (f_M_skip_i K gr 23 y) (fun b21 x20 => (if b21 = 0 then jm_bV (f_M_need_i K gr 17 x20) (fun x22 => J_M_definition_233 K gr (nI N.length) x22) else L_M_definition_62 K gr f' (nI N.length) x20)) := by
  have i8 : jm_in shR 8 .int (nI N.length) = true := pu_in (n := 17000) rfl (by omega) (by omega)
  obtain ⟨y, e, hy⟩ := r_scan (K := K) (g := gr) hK (r_incP hl hR) hL.facts.2.1 h0 h1
  refine ⟨y, hy, ?_⟩
  simp only [J_M_definition_204, jm_then]
  rw [if_pos i8, if_pos i8, e, jm_bV_some]
theorem s_def_L (hK : 20000 ≤ K) (hP : PS B n gc gr lo) (hlo : lo ≤ op) (ho : op ≤ 60) (hN : NOk n (N ++ [(0, a, m, 0)])) (hn : N.length + 21 ≤ 21 * op) (hn4 : n ≤ 16384) : ∀ (f f' q : Nat) (P : List NE) (L : Nat × Nat × Nat) (c : Nat → Int32) (xC xR : jm_X), q ≤ 10 → P.length ≤ 2 * q → (∀ e ∈ P, e.1 < 5 ∧ e.2.1 + e.2.2.1 ≤ n ∧ e.2.2.2 ≤ 10) → n - L.1 < f → n - L.1 < f' → s ≤ L.1 → LX B n L → SC B n L (cO c off) (N ++ (0, a, m, 0) :: P) xC → SR B n L c (N ++ (0, a, m, q) :: P) op pt xR →
    SimV B (fun yC yR => ∃ q', q' ≤ 10 ∧ Go B n off (N ++ [(0, a, m, q')]) op pt s yC yR) (L_G_define_46 K gc f (nI op) (nI N.length) (nI q) xC) (jm_bV (L_M_definition_62 K gr f' (nI N.length) xR) (fun x15 => jm_bV (f_M_need_i K gr 23 x15) (fun x => rV x)))
  | 0, f', q, P, L, c, xC, xR, _, _, _, hf, _, _, _, _, _ => absurd hf (Nat.not_lt_zero _)
  | f + 1, 0, q, P, L, c, xC, xR, _, _, _, _, hf, _, _, _, _ => absurd hf (Nat.not_lt_zero _)
  | f + 1, f' + 1, q, P, L, c, xC, xR, hq, hpl, hpo, hf, hf', hs, hL, hC, hR => by
    have hF := hL.facts
    have hLn : L.1 ≤ n := Nat.le_trans hF.1 hF.2.1
    have hNl : N.length + 22 < 1400 := by omega
    have hlen : (N ++ (0, a, m, 0) :: P).length + 1 < 1400 := by rw [List.length_append, List.length_cons]; omega
    have i8 : jm_in shR 8 .int (nI N.length) = true := pu_in (n := 17000) rfl (by omega) (by omega)
    have u3 : tkU 3 4 := tkU.of (by decide)
    have e8 : xR.2.2 8 (Int32.toNatClampNeg (nI N.length)) = nI q := by rw [nI_clamp (by omega)]; exact (hR.2.2.2.1.2 _ _ ad_get).2.2.2.1
    obtain ⟨k1, k2, k3⟩ := c_learnParameter (K := K) (gc := gc) hK hL hlen hC hq
    obtain ⟨b1, b2⟩ := r_bad (K := K) (g := gr) hR (nI L.1)
    have ew := r_isWord (K := K) (g := gr) hK hR hF
    -- what follows a parameter
    have go : ∀ (A : List NE) (y1 y2 : jm_X), q ≠ 10 → A.length ≤ 2 → (∀ e ∈ A, e.1 < 5 ∧ e.2.1 + e.2.2.1 ≤ n ∧ e.2.2.2 ≤ 10) → L.2.2 ≠ 0 → L.2.2 ≠ 1 → SC B n L (cO c off) (N ++ (0, a, m, 0) :: (P ++ A)) y1 → SR B n L c (N ++ (0, a, m, q) :: (P ++ A)) op pt y2 →
        SimV B (fun yC yR => ∃ q', q' ≤ 10 ∧ Go B n off (N ++ [(0, a, m, q')]) op pt s yC yR) (jm_bV (rV y1) (fun x9 => jm_bV (f_S_next K gc x9) (fun x10 => (if 10 < (nI q + 1) then J_G_define_77 K gc (nI op) (nI N.length) (nI q + 1) x10 else jm_bI (f_G_takes K gc 1011 x10) (fun b12 x11 => (if b12 = 0 then J_G_define_77 K gc (nI op) (nI N.length) (nI q + 1) x11 else L_G_define_46 K gc f (nI op) (nI N.length) (nI q + 1) x11))))))
          (jm_bV (J_M_definition_204 K gr (L_M_definition_62 K gr f') (nI N.length) y2) (fun x15 => jm_bV (f_M_need_i K gr 23 x15) (fun x => rV x))) := by
      intro A y1 y2 hq10 hA hAo h0 h1 g1 g2
      have hgt := hL.gt h0 h1
      have hL1 := hL.next
      have hF1 := hL1.facts
      have hn1 : (lexB B n L.2.1).1 ≤ n := Nat.le_trans hF1.1 hF1.2.1
      obtain ⟨y3, e3, s3⟩ := c_next (K := K) (g := gc) hK g1 hF.2.1
      obtain ⟨y4, t4, e4⟩ := r_paramEnd (K := K) (gr := gr) (f' := f') hK (by omega) hL h0 h1 g2
      obtain ⟨m1, m2⟩ := c_takes (K := K) (g := gc) hK s3 hF1.2.2.1 hF1.2.1 (k := 11) (by omega) (a := 1011) rfl
      obtain ⟨r1, r2⟩ := r_skip_i (K := K) (g := gr) hK t4 hF1 (a := 23) (k := 11) (tkU.of (by decide)) (by omega)
      have hPo : ∀ e ∈ P ++ A, e.1 < 5 ∧ e.2.1 + e.2.2.1 ≤ n ∧ e.2.2.2 ≤ 10 := by
        intro e he
        rcases List.mem_append.mp he with z | z
        · exact hpo e z
        · exact hAo e z
      rw [jm_bV_some, e3, jm_bV_some, e4, nI_1, show (10 : Int32) = nI 10 from rfl, if_neg (nI_nlt (by omega) (by omega))]
      by_cases hz : (lexB B n L.2.1).2.2 = 11
      · obtain ⟨y5, e5, s5⟩ := m1 hz
        obtain ⟨y6, e6, t6⟩ := r1 hz
        have hgt1 := hL1.gt (by omega) (by omega)
        have hn2 : (lexB B n (lexB B n L.2.1).2.1).1 ≤ n := Nat.le_trans hL1.next.facts.1 hL1.next.facts.2.1
        rw [e5, jm_bI_some, if_neg (show ¬ ((1 : Int32) = 0) by decide), e6, jm_bI_some, if_neg (show ¬ ((1 : Int32) = 0) by decide)]
        exact s_def_L hK hP hlo ho hN hn hn4 f f' (q + 1) (P ++ A) _ c y5 y6 (by omega) (by rw [List.length_append]; omega) hPo (by omega) (by omega) (by omega) hL1.next s5 t6
      · rw [m2 hz, jm_bI_some, if_pos rfl, r2 hz, jm_bI_some, if_pos rfl]
        have hlen2 : (N ++ (0, a, m, 0) :: (P ++ A)).length < 1400 := by rw [List.length_append, List.length_cons, List.length_append]; omega
        have hlen3 : N.length < (N ++ (0, a, m, 0) :: (P ++ A)).length := by rw [List.length_append, List.length_cons]; omega
        obtain ⟨y5, e5, s5⟩ := c_setParameters (K := K) (g := gc) s3 hlen2 hlen3 (q := q + 1) rfl rfl
        rw [ad_setP] at s5
        have hNq : NOk n (N ++ (0, a, m, q + 1) :: (P ++ A)) := by
          refine ⟨by rw [List.length_append, List.length_cons, List.length_append]; omega, ?_⟩
          intro e he
          rcases List.mem_append.mp he with z | z
          · exact hN.2 e (List.mem_append.mpr (Or.inl z))
          · rcases List.mem_cons.mp z with z | z
            · have := hN.2 (0, a, m, 0) (List.mem_append.mpr (Or.inr (List.mem_singleton.mpr rfl)))
              subst z
              exact ⟨by simp, this.2.1, by show q + 1 ≤ 10; omega⟩
            · exact hPo e z
        simp only [J_G_define_77]
        rw [e5, jm_bV_some, jm_bV_assoc]
        refine SimV.bind (s_take hK hL1 s5 t4 (k := 13) (by omega) (by omega) rfl (b := 17) (by decide)) ?_
        rintro zC zR ⟨p1, -, p3, p4⟩
        refine SimV.mono (s_defEnd (s := s) hK hP hlo ho hNq (by rw [List.length_append, List.length_cons, List.length_append]; omega) hL1.next (by omega) p3 p4) ?_
        intro yC yR h
        exact ⟨q + 1, by omega, h⟩
    simp only [L_G_define_46, B_G_define_46, L_M_definition_62, B_M_definition_62]
    rw [if_pos i8, e8, hR.2.1.2.2]
    by_cases hbad : q = 10 ∨ (L.2.2 ≠ 4 ∧ L.2.2 ≠ 2)
    · obtain ⟨y, e, hb⟩ := k1 hbad
      refine Sim.thr (v := nI L.1) ?_ ?_ hb b2
      · rw [e, jm_bV_thr]
      · have hinner : ¬ tokS L.2.2 = 3 → (tokS L.2.2 = 1 → L.2.2 ≠ 2) → jm_bV (J_M_definition_98 K gr (L_M_definition_62 K gr f') (nI N.length) xR) (fun x15 => jm_bV (f_M_need_i K gr 23 x15) (fun x => rV x)) = some (.inr (ISE, (va_up xR.1 7 (nI L.1), xR.2))) := by
          intro w3 w1
          simp only [J_M_definition_98, J_M_definition_195]
          rw [hR.2.1.2.2, if_neg w3]
          by_cases z1 : tokS L.2.2 = 1
          · rw [if_pos z1, ew, jm_bI_some, bI_ite, decide_eq_true ⟨z1, w1 z1⟩, if_pos rfl, hR.2.1.1, b1, jm_bV_thr]
          · rw [if_neg z1, hR.2.1.1, b1, jm_bV_thr]
        by_cases h10 : q = 10
        · rw [if_pos (by rw [h10]; rfl)]
          simp only [J_M_definition_89]
          by_cases z3 : tokS L.2.2 = 3
          · rw [if_pos z3, hR.2.1.1, b1, jm_bV_thr]
          · rw [if_neg z3]
            by_cases z1 : tokS L.2.2 = 1
            · rw [if_pos z1, hR.2.1.1, b1, jm_bV_thr]
            · rw [if_neg z1]
              exact hinner z3 (fun z => absurd z z1)
        · have hx := hbad.resolve_left h10
          rw [show (10 : Int32) = nI 10 from rfl, if_neg (fun z => h10 ((nI_eq (by omega) (by omega)).mp z))]
          exact hinner (fun z => hx.1 ((u3 _ hF.2.2.1).mp z)) (fun _ => hx.2)
    · have h10 : q ≠ 10 := fun z => hbad (Or.inl z)
      rw [show (10 : Int32) = nI 10 from rfl, if_neg (fun z => h10 ((nI_eq (b := 10) (by omega) (by omega)).mp z))]
      simp only [J_M_definition_98]
      rw [hR.2.1.2.2]
      by_cases h4 : L.2.2 = 4
      · have hlt := hF.2.2.2.1 (by omega) (by omega)
        obtain ⟨y1, e1, s1⟩ := k2 h10 h4
        have hlr : (N ++ (0, a, m, q) :: P).length + 1 < 1400 := by rw [List.length_append, List.length_cons]; omega
        obtain ⟨y2, e2, t2⟩ := r_knowV (K := K) (gr := gr) hL h4 (by omega) hR
        obtain ⟨y3, e3, t3⟩ := r_know (K := K) (g := gr) t2 (by rw [List.length_append]; exact hlr) (a := 1) (p := L.1 + 1) (m := L.2.1 - (L.1 + 1)) (by omega) (s := 1) (v := y2.1 9 + 1) (w := ((y2.1 10) - (y2.1 9)) - 1) rfl (by rw [t2.2.1.1, nI_1]) (by rw [t2.2.1.1, t2.2.1.2.1 (by omega) (by omega), pu_sub (by omega), show (1 : Int32) = nI 1 from rfl, pu_sub (by omega), Nat.sub_sub]) rfl rfl
        rw [if_pos ((u3 _ hF.2.2.1).mpr h4), e2, jm_bV_some, e3, jm_bV_some, e1]
        refine go [(2, L.1 + 1, L.2.1 - (L.1 + 1), 0), (1, L.1 + 1, L.2.1 - (L.1 + 1), 0)] y1 y3 h10 (by simp) ?_ (by omega) (by omega) ?_ ?_
        · intro e he
          have h21 := hF.2.1
          rcases List.mem_cons.mp he with z | z
          · subst z; exact ⟨by simp, by show L.1 + 1 + (L.2.1 - (L.1 + 1)) ≤ n; omega, by simp⟩
          · rw [List.mem_singleton.mp z]; exact ⟨by simp, by show L.1 + 1 + (L.2.1 - (L.1 + 1)) ≤ n; omega, by simp⟩
        · rw [List.append_assoc] at s1; exact s1
        · rw [List.append_assoc, List.append_assoc] at t3; exact t3
      · have h2 : L.2.2 = 2 := by
          by_cases z : L.2.2 = 2
          · exact z
          · exact absurd (Or.inr ⟨h4, z⟩) hbad
        have t1 : tokS L.2.2 = 1 := by rw [h2]; decide
        have hlt := hF.2.2.2.1 (by omega) (by omega)
        obtain ⟨y1, e1, s1⟩ := k3 h10 h2
        obtain ⟨y3, e3, t3⟩ := r_know (K := K) (g := gr) hR (by rw [List.length_append, List.length_cons]; omega) (a := 1) (p := L.1) (m := L.2.1 - L.1) (by omega) (s := 1) (v := xR.1 9) (w := (xR.1 10) - (xR.1 9)) rfl hR.2.1.1 (by rw [hR.2.1.1, hR.2.1.2.1 (by omega) (by omega), pu_sub (by omega)]) rfl rfl
        rw [if_neg (fun z => h4 ((u3 _ hF.2.2.1).mp z)), if_pos t1, ew, jm_bI_some, bI_ite, decide_eq_false (fun z => z.2 h2), if_neg Bool.false_ne_true, e3, jm_bV_some, e1]
        refine go [(1, L.1, L.2.1 - L.1, 0)] y1 y3 h10 (by simp) ?_ (by omega) (by omega) ?_ ?_
        · intro e he
          have h21 := hF.2.1
          rw [List.mem_singleton.mp he]; exact ⟨by simp, by show L.1 + (L.2.1 - L.1) ≤ n; omega, by simp⟩
        · rw [List.append_assoc] at s1; exact s1
        · rw [List.append_assoc] at t3; exact t3
/-- def NAME(..): P; from its 'def', behind it on the reference's side -/
theorem s_define (hK : 20000 ≤ K) (hP : PS B n gc gr lo) (hlo : lo ≤ op) (ho : op ≤ 60) (hN : NOk n N) (hn : N.length + 21 ≤ 21 * op) (hL : LX B n L) (h21 : L.2.2 = 21) (hC : SC B n L (cO c off) N xC) {yR : jm_X} (hR : SR B n (lexB B n L.2.1) c N op pt yR) :
    SimV B (fun yC yR => ∃ e : NE, NOk n (N ++ [e]) ∧ Go B n off (N ++ [e]) op pt L.1 yC yR) (f_G_define K gc (nI op) xC) (jm_bV (f_M_definition K gr (cR yR 28)) (fun x15 => jm_bV (f_M_need_i K gr 23 x15) (fun x => rV x))) := by
  have hF := hL.facts
  have hn4 := hC.1.2.2.2
  have hgt := hL.gt (by omega) (by omega)
  have hL1 := hL.next
  have hF1 := hL1.facts
  obtain ⟨y1, e1, s1⟩ := c_takeAs (K := K) (g := gc) hK hC hF.2.1 (k := 28) (by omega) (a := 28) rfl
  rw [← cO_cnt] at s1
  have t1 := r_cnt hR 28
  obtain ⟨n1, n2⟩ := c_need (K := K) (g := gc) hK s1 hF1.2.2.1 (k := 2) (by omega) (a := 1002) rfl
  have ew := r_isWord (K := K) (g := gr) hK t1 hF1
  simp only [f_G_define, f_M_definition]
  rw [c_size hC, jm_bI_some, e1, jm_bV_some, t1.2.1.2.2]
  by_cases h2 : (lexB B n L.2.1).2.2 = 2
  · have tk : tokS (lexB B n L.2.1).2.2 = 1 := by rw [h2]; decide
    have hlt := hF1.2.2.2.1 (by omega) (by omega)
    have hgt1 := hL1.gt (by omega) (by omega)
    have e0 : nmS (lexB B n L.2.1) = (lexB B n L.2.1).1 := by rw [nmS, if_neg (by omega)]
    obtain ⟨y2, e2, s2⟩ := c_learn (K := K) (g := gc) s1 hF1 hN.1 (a := 0) (by omega) (s := 12) rfl
    rw [e0] at s2
    obtain ⟨y3, e3, s3⟩ := c_next (K := K) (g := gc) hK s2 hF1.2.1
    obtain ⟨y4, e4, t4⟩ := r_know (K := K) (g := gr) t1 hN.1 (a := 0) (p := (lexB B n L.2.1).1) (m := (lexB B n L.2.1).2.1 - (lexB B n L.2.1).1) (by omega) (s := 0) (v := (cR yR 28).1 9) (w := ((cR yR 28).1 10) - ((cR yR 28).1 9)) rfl t1.2.1.1 (by rw [t1.2.1.1, t1.2.1.2.1 (by omega) (by omega), pu_sub (by omega)]) rfl rfl
    obtain ⟨y5, e5, t5⟩ := r_scan (K := K) (g := gr) hK t4 hF1.2.1 (by omega) (by omega)
    have hL2 := hL1.next
    have hF2 := hL2.facts
    have hn2 : (lexB B n (lexB B n L.2.1).2.1).1 ≤ n := Nat.le_trans hF2.1 hF2.2.1
    have hfe : (lexB B n L.2.1).1 + ((lexB B n L.2.1).2.1 - (lexB B n L.2.1).1) ≤ n := by have := hF1.2.1; omega
    have hNN : ∀ q, q ≤ 10 → NOk n (N ++ [(0, (lexB B n L.2.1).1, (lexB B n L.2.1).2.1 - (lexB B n L.2.1).1, q)]) := fun q hq => hN.snoc (by omega) ⟨by simp, hfe, hq⟩
    obtain ⟨m1, m2⟩ := c_takes (K := K) (g := gc) hK s3 hF2.2.2.1 hF2.2.1 (k := 12) (by omega) (a := 1012) rfl
    obtain ⟨r1, r2⟩ := r_skip_i (K := K) (g := gr) hK t5 hF2 (a := 16) (k := 12) (tkU.of (by decide)) (by omega)
    rw [n1 h2, jm_bV_some, e2, jm_bV_some, e3, jm_bV_some, if_pos tk, ew, jm_bI_some, bI_ite, decide_eq_false (fun z => z.2 h2), if_neg Bool.false_ne_true, e4, jm_bV_some, e5, jm_bV_some, t1.2.2.2.1.1]
    by_cases hz : (lexB B n (lexB B n L.2.1).2.1).2.2 = 12
    · obtain ⟨y6, e6, s6⟩ := m1 hz
      obtain ⟨y7, e7, t7⟩ := r1 hz
      have hgt2 := hL2.gt (by omega) (by omega)
      have hn3 : (lexB B n (lexB B n (lexB B n L.2.1).2.1).2.1).1 ≤ n := Nat.le_trans hL2.next.facts.1 hL2.next.facts.2.1
      rw [e6, jm_bI_some, if_neg (show ¬ ((1 : Int32) = 0) by decide), e7, jm_bI_some, if_neg (show ¬ ((1 : Int32) = 0) by decide), ← nI_0]
      refine SimV.mono (s_def_L (s := L.1) hK hP hlo ho (hNN 0 (by omega)) hn hn4 K K 0 [] _ _ y6 y7 (by omega) (by decide) (fun e he => absurd he List.not_mem_nil) (by omega) (by omega) (by omega) hL2.next s6 t7) ?_
      rintro yC yR ⟨q', hq', hg⟩
      exact ⟨_, hNN q' hq', hg⟩
    · rw [m2 hz, jm_bI_some, if_pos rfl, r2 hz, jm_bI_some, if_pos rfl]
      refine SimV.mono (s_defEnd (s := L.1) hK hP hlo ho (hNN 0 (by omega)) (by rw [List.length_append, List.length_singleton]; omega) hL2 (by omega) s3 t5) ?_
      intro yC yR hg
      exact ⟨_, hNN 0 (by omega), hg⟩
  · obtain ⟨y, e, hb⟩ := n2 h2
    obtain ⟨b1, b2⟩ := r_bad (K := K) (g := gr) t1 (nI (lexB B n L.2.1).1)
    refine Sim.thr (v := nI (lexB B n L.2.1).1) ?_ ?_ hb b2
    · rw [e, jm_bV_thr]
    · simp only [J_M_definition_15]
      by_cases z1 : tokS (lexB B n L.2.1).2.2 = 1
      · rw [if_pos z1, ew, jm_bI_some, bI_ite, decide_eq_true ⟨z1, h2⟩, if_pos rfl, t1.2.1.1, b1, jm_bV_thr]
      · rw [if_neg z1, t1.2.1.1, b1, jm_bV_thr]
end PT

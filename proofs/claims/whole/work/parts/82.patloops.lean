/-! PURE, 33: patterns, their loops. -/
section PP2
variable {K : Nat} {gc gr : jm_Rec} {B : Nat → Fin 256} {n : Nat} {off : Nat → Int32} {N : List NE} {op pt s lo : Nat} {L : Nat × Nat × Nat} {c : Nat → Int32} {xC xR : jm_X}
theorem s_patArr_L (hK : 20000 ≤ K) (hP : PS B n gc gr lo) (hq : QS B n gc gr lo) (hlo : lo ≤ op + 1) (ho : op + 1 ≤ 60) (hn4 : n ≤ 16384) : ∀ (f q f' : Nat) (N : List NE) (pt : Nat) (L : Nat × Nat × Nat) (c : Nat → Int32) (xC xR : jm_X), NOk n N → N.length + 10 ≤ 21 * (op + 1) + pt → pt ≤ 10 → n - L.1 < f → n - L.1 < f' → q + 1 ≤ L.1 → s ≤ L.1 → LX B n L → SC B n L (cO c off) N xC → SR B n L c N (op + 1) pt xR →
    SimI B (GoN B n off N op pt s) (J_G_pattern_100 K gc (L_G_pattern_77 K gc f) 1 (nI (op + 1)) (nI q) (nI pt) xC) (L_M_pattern_86 K gr f' xR)
  | 0, q, f', N, pt, L, c, xC, xR, _, _, _, hf, _, _, _, _, _, _ => absurd hf (Nat.not_lt_zero _)
  | f + 1, q, 0, N, pt, L, c, xC, xR, _, _, _, _, hf, _, _, _, _, _ => absurd hf (Nat.not_lt_zero _)
  | f + 1, q, f' + 1, N, pt, L, c, xC, xR, hN, hn, hp, hf, hf', hq1, hs, hL, hC, hR => by
    have hF := hL.facts
    have hLn : L.1 ≤ n := Nat.le_trans hF.1 hF.2.1
    obtain ⟨k1, k2⟩ := c_takes (K := K) (g := gc) hK hC hF.2.2.1 hF.2.1 (k := 32) (by omega) (a := 1032) rfl
    obtain ⟨r1, r2⟩ := r_skip_i (K := K) (g := gr) hK hR hF (a := 7) (k := 32) (tkU.of (by decide)) (by omega)
    simp only [J_G_pattern_100, L_G_pattern_77, B_G_pattern_77, L_M_pattern_86, B_M_pattern_86]
    rw [nI_1, show (16385 : Int32) = nI 16385 from rfl, if_neg (nI_ge (by omega) (by omega))]
    by_cases hz : L.2.2 = 32
    · obtain ⟨y1, e1, s1⟩ := k1 hz
      obtain ⟨y2, e2, s2⟩ := r1 hz
      have hgt := hL.gt (by omega) (by omega)
      rw [e1, e2, jm_bI_some, jm_bI_some, if_neg (show ¬ ((1 : Int32) = 0) by decide), if_neg (show ¬ ((1 : Int32) = 0) by decide), if_neg (show ¬ ((1 : Int32) = 0) by decide)]
      refine SimI.bind (hq off N (op + 1) pt _ c y1 y2 hlo ho hN hn hp hL.next s1 s2) ?_
      rintro a zC zR ⟨A, q', rfl, h2, h3, h4, h5, L2, c2, q1, q2, q3, q4⟩
      have hn2 : L2.1 ≤ n := Nat.le_trans q1.facts.1 q1.facts.2.1
      refine SimI.mono (s_patArr_L hK hP hq hlo ho hn4 f (q + 1) f' (N ++ A) q' L2 c2 zC zR h5 (by rw [List.length_append]; omega) h3 (by omega) (by omega) (by omega) (by omega) q1 q3 q4) ?_
      intro a wC wR hw
      exact hw.trans h2 h4 (Nat.le_refl _)
    · rw [k2 hz, r2 hz, jm_bI_some, jm_bI_some, if_pos rfl, if_pos rfl]
      simp only [J_G_pattern_123, J_G_pattern_137, J_M_pattern_197, jm_then]
      rw [if_neg (show ¬ ((1 : Int32) = 0) by decide)]
      refine SimV.bind (s_take hK hL hC hR (k := 15) (by omega) (by omega) rfl (b := 19) (by decide)) ?_
      rintro zC zR ⟨p1, -, p3, p4⟩
      refine SimI.ok ⟨[], pt, rfl, rfl, hp, (fun e he => absurd he List.not_mem_nil), by rw [List.append_nil]; exact hN, _, c, hL.next, by omega, ?_, ?_⟩
      · rw [List.append_nil]; exact p3
      · rw [List.append_nil]; exact p4.setOp (by rw [p4.2.2.2.2.1.1, nI_pred])

theorem s_patObj_L (hK : 20000 ≤ K) (hP : PS B n gc gr lo) (hq : QS B n gc gr lo) (hlo : lo ≤ op + 1) (ho : op + 1 ≤ 60) (hn4 : n ≤ 16384) : ∀ (f q f' : Nat) (N : List NE) (pt : Nat) (L : Nat × Nat × Nat) (c : Nat → Int32) (xC xR : jm_X), NOk n N → N.length + 10 ≤ 21 * (op + 1) + pt → pt ≤ 10 → n - L.1 < f → n - L.1 < f' → q + 1 ≤ L.1 → s ≤ L.1 → LX B n L → SC B n L (cO c off) N xC → SR B n L c N (op + 1) pt xR →
    SimI B (GoN B n off N op pt s) (J_G_pattern_100 K gc (L_G_pattern_77 K gc f) 0 (nI (op + 1)) (nI q) (nI pt) xC) (L_M_pattern_153 K gr f' xR)
  | 0, q, f', N, pt, L, c, xC, xR, _, _, _, hf, _, _, _, _, _, _ => absurd hf (Nat.not_lt_zero _)
  | f + 1, q, 0, N, pt, L, c, xC, xR, _, _, _, _, hf, _, _, _, _, _ => absurd hf (Nat.not_lt_zero _)
  | f + 1, q, f' + 1, N, pt, L, c, xC, xR, hN, hn, hp, hf, hf', hq1, hs, hL, hC, hR => by
    have hF := hL.facts
    have hLn : L.1 ≤ n := Nat.le_trans hF.1 hF.2.1
    obtain ⟨k1, k2⟩ := c_takes (K := K) (g := gc) hK hC hF.2.2.1 hF.2.1 (k := 32) (by omega) (a := 1032) rfl
    obtain ⟨r1, r2⟩ := r_skip_i (K := K) (g := gr) hK hR hF (a := 7) (k := 32) (tkU.of (by decide)) (by omega)
    simp only [J_G_pattern_100, L_G_pattern_77, B_G_pattern_77, L_M_pattern_153, B_M_pattern_153]
    rw [nI_1, show (16385 : Int32) = nI 16385 from rfl, if_neg (nI_ge (by omega) (by omega))]
    by_cases hz : L.2.2 = 32
    · obtain ⟨y1, e1, s1⟩ := k1 hz
      obtain ⟨y2, e2, s2⟩ := r1 hz
      have hgt := hL.gt (by omega) (by omega)
      rw [e1, e2, jm_bI_some, jm_bI_some, if_neg (show ¬ ((1 : Int32) = 0) by decide), if_neg (show ¬ ((1 : Int32) = 0) by decide), if_pos trivial]
      refine SimI.bind (s_patEntry hK hP hq hlo ho hN hn hp hL.next s1 s2) ?_
      rintro a zC zR ⟨A, q', rfl, h2, h3, h4, h5, L2, c2, q1, q2, q3, q4⟩
      have hn2 : L2.1 ≤ n := Nat.le_trans q1.facts.1 q1.facts.2.1
      refine SimI.mono (s_patObj_L hK hP hq hlo ho hn4 f (q + 1) f' (N ++ A) q' L2 c2 zC zR h5 (by rw [List.length_append]; omega) h3 (by omega) (by omega) (by omega) (by omega) q1 q3 q4) ?_
      intro a wC wR hw
      exact hw.trans h2 h4 (Nat.le_refl _)
    · rw [k2 hz, r2 hz, jm_bI_some, jm_bI_some, if_pos rfl, if_pos rfl]
      simp only [J_G_pattern_123, J_G_pattern_137, J_M_pattern_197, jm_then]
      rw [if_pos trivial]
      refine SimV.bind (s_take hK hL hC hR (k := 17) (by omega) (by omega) rfl (b := 21) (by decide)) ?_
      rintro zC zR ⟨p1, -, p3, p4⟩
      refine SimI.ok ⟨[], pt, rfl, rfl, hp, (fun e he => absurd he List.not_mem_nil), by rw [List.append_nil]; exact hN, _, c, hL.next, by omega, ?_, ?_⟩
      · rw [List.append_nil]; exact p3
      · rw [List.append_nil]; exact p4.setOp (by rw [p4.2.2.2.2.1.1, nI_pred])
/-- a PATTERN, or a part of one -/
theorem s_pattern (hK : 20000 ≤ K) (hP : PS B n gc gr lo) (hq : QS B n gc gr lo) (hlo : lo ≤ op + 1) (ho : op ≤ 60) (hN : NOk n N) (hn : N.length + 10 ≤ 21 * op + pt) (hp : pt ≤ 10) (hL : LX B n L) (hC : SC B n L (cO c off) N xC) (hR : SR B n L c N op pt xR) :
    SimI B (GoN B n off N op pt L.1) (f_G_pattern K gc (nI op) (nI pt) xC) (f_M_pattern K gr xR) := by
  have hF := hL.facts
  have hn4 := hC.1.2.2.2
  have u3 : tkU 3 4 := tkU.of (by decide)
  have u18 : tkU 18 14 := tkU.of (by decide)
  have u20 : tkU 20 16 := tkU.of (by decide)
  simp only [f_G_pattern, f_M_pattern]
  rw [c_is hC hF.2.2.1 (k := 4) (by omega) rfl, jm_bI_some, c_is hC hF.2.2.1 (k := 14) (by omega) rfl, jm_bI_some, hR.2.1.2.2]
  by_cases h4 : L.2.2 = 4
  · have t3 : tokS L.2.2 = 3 := by rw [h4]; decide
    obtain ⟨y1, e1, s1⟩ := c_count (K := K) (g := gc) hC (k := 30) (by omega) (a := 30) rfl
    rw [← cO_cnt] at s1
    have hlt := hF.2.2.2.1 (by omega) (by omega)
    simp only [decide_eq_true h4, bI_ite, t3, if_true]
    rw [e1, jm_bV_some]
    refine s_patName hK hL h4 hN.1 hp (k := 30) (by omega) (a := 30) rfl s1 hR ?_
    intro hp10 yC yR s2 t2
    have hN2 : NOk n (N ++ [(2, L.1 + 1, L.2.1 - (L.1 + 1), 0)]) := hN.snoc (by omega) ⟨by simp, by show L.1 + 1 + (L.2.1 - (L.1 + 1)) ≤ n; have := hF.2.1; omega, by simp⟩
    exact SimI.ok ⟨[(2, L.1 + 1, L.2.1 - (L.1 + 1), 0)], pt + 1, rfl, rfl, by omega, (by intro e he; rw [List.mem_singleton.mp he]), hN2, _, _, hL.next, hL.gt (by omega) (by omega), s2, t2⟩
  · have t3 : ¬ tokS L.2.2 = 3 := fun z => h4 ((u3 _ hF.2.2.1).mp z)
    simp only [decide_eq_false h4, bI_ite, if_false, Bool.false_eq_true, t3]
    obtain ⟨o1, o2⟩ := c_opened (K := K) (gc := gc) hK hC (q := op + 1) (by omega)
    by_cases h14 : L.2.2 = 14
    · have t18 : tokS L.2.2 = 18 := by rw [h14]; decide
      have eb : bI true = 1 := rfl
      simp only [decide_eq_true h14, t18, if_true, eb, J_G_pattern_47, J_G_pattern_68, if_neg (show ¬ ((1 : Int32) = 0) by decide)]
      rw [nI_1, r_cnt_eq (k := 31) (a := 31) (by omega) rfl]
      obtain ⟨r1, r2⟩ := r_enter (K := K) (g := gr) (r_cnt hR 31) ho
      by_cases h60 : op = 60
      · obtain ⟨y1, e1, b1⟩ := o2 (by omega)
        obtain ⟨y2, e2, b2⟩ := r1 h60
        refine Sim.thr (v := nI L.1) ?_ ?_ b1 b2
        · rw [e1, jm_bI_thr]
        · rw [e2, jm_bV_thr]
      · obtain ⟨y2, e2, t2⟩ := r2 h60
        obtain ⟨y3, e3, t3⟩ := r_scan (K := K) (g := gr) hK t2 hF.2.1 (by omega) (by omega)
        obtain ⟨y4, e4, s4⟩ := c_takeAs (K := K) (g := gc) hK hC hF.2.1 (k := 31) (by omega) (a := 31) rfl
        rw [← cO_cnt] at s4
        have hL1 := hL.next
        have hgt := hL.gt (by omega) (by omega)
        have hLn : (lexB B n L.2.1).1 ≤ n := Nat.le_trans hL1.facts.1 hL1.facts.2.1
        rw [o1 (by omega), jm_bI_some, e4, jm_bV_some, e2, jm_bV_some, e3, jm_bV_some]
        cases K with
        | zero => omega
        | succ K =>
        rw [← nI_0]
        rw [L_G_pattern_77, B_G_pattern_77, if_neg (show ¬ ((1 : Int32) = 0) by decide)]
        refine SimI.bind (hq off N (op + 1) pt _ _ y4 y3 hlo (by omega) hN (by omega) hp hL1 s4 t3) ?_
        rintro a zC zR ⟨A, q', rfl, h2, h3, h4, h5, L2, c2, q1, q2, q3, q4⟩
        have hn2 : L2.1 ≤ n := Nat.le_trans q1.facts.1 q1.facts.2.1
        refine SimI.mono (s_patArr_L (s := L.1) hK hP hq hlo (by omega) hn4 K 0 (K + 1) (N ++ A) q' L2 c2 zC zR h5 (by rw [List.length_append]; omega) h3 (by omega) (by omega) (by omega) (by omega) q1 q3 q4) ?_
        intro a wC wR hw
        exact hw.trans h2 h4 (Nat.le_refl _)
    · have t18 : ¬ tokS L.2.2 = 18 := fun z => h14 ((u18 _ hF.2.2.1).mp z)
      have eb : bI false = 0 := rfl
      obtain ⟨n1, n2⟩ := c_need (K := K) (g := gc) hK hC hF.2.2.1 (k := 16) (by omega) (a := 1016) rfl
      simp only [decide_eq_false h14, t18, if_false, if_true, eb, Bool.false_eq_true]
      by_cases h16 : L.2.2 = 16
      · have t20 : tokS L.2.2 = 20 := by rw [h16]; decide
        rw [n1 h16, jm_bV_some, if_pos t20]
        simp only [J_G_pattern_47, J_G_pattern_68, if_true]
        rw [nI_1, r_cnt_eq (k := 32) (a := 32) (by omega) rfl]
        obtain ⟨r1, r2⟩ := r_enter (K := K) (g := gr) (r_cnt hR 32) ho
        by_cases h60 : op = 60
        · obtain ⟨y1, e1, b1⟩ := o2 (by omega)
          obtain ⟨y2, e2, b2⟩ := r1 h60
          refine Sim.thr (v := nI L.1) ?_ ?_ b1 b2
          · rw [e1, jm_bI_thr]
          · rw [e2, jm_bV_thr]
        · obtain ⟨y2, e2, t2⟩ := r2 h60
          obtain ⟨y3, e3, t3⟩ := r_scan (K := K) (g := gr) hK t2 hF.2.1 (by omega) (by omega)
          obtain ⟨y4, e4, s4⟩ := c_takeAs (K := K) (g := gc) hK hC hF.2.1 (k := 32) (by omega) (a := 32) rfl
          rw [← cO_cnt] at s4
          have hL1 := hL.next
          have hgt := hL.gt (by omega) (by omega)
          have hLn : (lexB B n L.2.1).1 ≤ n := Nat.le_trans hL1.facts.1 hL1.facts.2.1
          rw [o1 (by omega), jm_bI_some, e4, jm_bV_some, e2, jm_bV_some, e3, jm_bV_some]
          cases K with
          | zero => omega
          | succ K =>
          rw [← nI_0]
          rw [L_G_pattern_77, B_G_pattern_77, if_pos nI_0]
          refine SimI.bind (s_patEntry hK hP hq hlo (by omega) hN (by omega) hp hL1 s4 t3) ?_
          rintro a zC zR ⟨A, q', rfl, h2, h3, h4, h5, L2, c2, q1, q2, q3, q4⟩
          have hn2 : L2.1 ≤ n := Nat.le_trans q1.facts.1 q1.facts.2.1
          refine SimI.mono (s_patObj_L (s := L.1) hK hP hq hlo (by omega) hn4 K 0 (K + 1) (N ++ A) q' L2 c2 zC zR h5 (by rw [List.length_append]; omega) h3 (by omega) (by omega) (by omega) (by omega) q1 q3 q4) ?_
          intro a wC wR hw
          exact hw.trans h2 h4 (Nat.le_refl _)
      · have t20 : ¬ tokS L.2.2 = 20 := fun z => h16 ((u20 _ hF.2.2.1).mp z)
        obtain ⟨z1, e6, hb⟩ := n2 h16
        obtain ⟨g1, g2⟩ := r_bad (K := K) (g := gr) hR (nI L.1)
        refine Sim.thr (v := nI L.1) ?_ ?_ hb g2
        · rw [e6, jm_bV_thr]
        · rw [if_neg t20, hR.2.1.1]; exact g1
end PP2

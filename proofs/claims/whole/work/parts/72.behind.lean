/-! PURE, 23: what stands behind a TERM, side by side. -/
theorem SimW.bind {B : Nat → Fin 256} {Q : jm_X → jm_X → Prop} {Po : Option Value → jm_X → Option Value → jm_X → Prop} {rC rR : Option jm_R} {fC : jm_X → Option jm_R} {fR : Int32 → jm_X → Option jm_R} (h : SimW B Q rC rR) (k : ∀ xC xR, Q xC xR → Sim B Po (fC xC) (fR 1 xR)) : Sim B Po (jm_bV rC fC) (jm_bI rR fR) := by
  rcases h with ⟨vC, xC, vR, xR, e1, e2, rfl, rfl, hq⟩ | ⟨v, xC, xR, e1, e2, h⟩
  · rw [e1, e2, jm_bV_some, jm_bI_some]; exact k xC xR hq
  · rw [e1, e2, jm_bV_thr, jm_bI_thr]; exact Or.inr ⟨v, xC, xR, rfl, rfl, h⟩
section PE
variable {K : Nat} {gc gr : jm_Rec} {B : Nat → Fin 256} {n : Nat} {off : Nat → Int32} {N : List NE} {op pt s lo : Nat}
theorem s_behind (hK : 20000 ≤ K) (hp : PS B n gc gr lo) (hlo : lo ≤ op) (ho : op ≤ 60) (hN : NOk n N) (hn : N.length ≤ 21 * op) (hn4 : n ≤ 16384) : ∀ (f q f' : Nat) (L : Nat × Nat × Nat) (c : Nat → Int32) (xC xR : jm_X), n - L.1 < f → n - L.1 < f' → q ≤ L.1 → s < L.1 → LX B n L → SC B n L (cO c off) N xC → SR B n L c N op pt xR →
    SimV B (Go B n off N op pt s) (L_G_term_207 K gc f (nI op) (nI q) xC) (L_M_term_295 K gr f' xR)
  | 0, q, f', L, c, xC, xR, hf, _, _, _, _, _, _ => absurd hf (Nat.not_lt_zero _)
  | f + 1, q, 0, L, c, xC, xR, _, hf, _, _, _, _, _ => absurd hf (Nat.not_lt_zero _)
  | f + 1, q, f' + 1, L, c, xC, xR, hf, hf', hq, hs, hL, hC, hR => by
    have hF := hL.facts
    have hLn : L.1 ≤ n := Nat.le_trans hF.1 hF.2.1
    have ih : ∀ (L1 : Nat × Nat × Nat) (c1 : Nat → Int32) (yC yR : jm_X), LX B n L1 → L.1 < L1.1 → SC B n L1 (cO c1 off) N yC → SR B n L1 c1 N op pt yR → SimV B (Go B n off N op pt s) (L_G_term_207 K gc f (nI op) (nI (q + 1)) yC) (L_M_term_295 K gr f' yR) := by
      intro L1 c1 yC yR h1 h2 h3 h4
      have hq1 : L1.1 ≤ n := Nat.le_trans h1.facts.1 h1.facts.2.1
      exact s_behind hK hp hlo ho hN hn hn4 f (q + 1) f' L1 c1 yC yR (by omega) (by omega) (by omega) (by omega) h1 h3 h4
    have u2 : tkU 2 3 := tkU.of (by decide)
    have u24 : tkU 24 9 := tkU.of (by decide)
    have u18 : tkU 18 14 := tkU.of (by decide)
    have u5 : tkU 5 6 := tkU.of (by decide)
    obtain ⟨c1, c2⟩ := c_takes (K := K) (g := gc) hK hC hF.2.2.1 hF.2.1 (k := 7) (by omega) (a := 1007) rfl
    obtain ⟨r1, r2⟩ := r_skip_i (K := K) (g := gr) hK hR hF (a := 14) (k := 7) (tkU.of (by decide)) (by omega)
    simp only [L_G_term_207, B_G_term_207, J_G_term_252, J_G_term_269, J_G_term_315, J_G_term_321, L_M_term_295, B_M_term_295, f_M_behindTerm, nI_1]
    rw [show (16385 : Int32) = nI 16385 from rfl, if_neg (nI_ge (by omega) (by omega)), hR.2.1.2.2]
    by_cases h7 : L.2.2 = 7
    · obtain ⟨y1, e1, s1⟩ := c1 h7
      obtain ⟨y2, e2, s2⟩ := r1 h7
      have hgt := hL.gt (by omega) (by omega)
      have hL1 := hL.next
      have hF1 := hL1.facts
      rw [if_neg (fun z => by have := (u2 _ hF.2.2.1).mp z; omega), if_neg (fun z => by have := (u24 _ hF.2.2.1).mp z; omega), e1, jm_bI_some, e2]
      simp only [jm_bI_some, show ¬ ((1 : Int32) = 0) by decide, if_false]
      rw [c_is s1 hF1.2.2.1 (k := 6) (by omega) rfl, jm_bI_some, bI_ite, s2.2.1.2.2]
      by_cases h6 : (lexB B n L.2.1).2.2 = 6
      · obtain ⟨y3, e3, s3⟩ := c_count (K := K) (g := gc) s1 (k := 2) (by omega) (a := 2) rfl
        rw [← cO_cnt] at s3
        rw [if_pos (by rw [decide_eq_true h6]), e3, jm_bV_some, if_pos ((u5 _ hF1.2.2.1).mpr h6), r_cnt_eq (k := 2) (a := 2) (by omega) rfl]
        have hst := s_string hK hp hlo ho hN hn hL1 h6 s3 (r_cnt s2 2)
        rcases hst with ⟨vC, zC, vR, zR, e4, e5, rfl, rfl, L2, c3, q1, q2, q3, q4⟩ | ⟨v, zC, zR, e4, e5, hb⟩
        · rw [e4, e5, jm_bV_some, jm_bV_some, jm_bI_some, if_neg (show ¬ ((1 : Int32) = 0) by decide)]
          exact ih L2 c3 zC zR q1 (by omega) q3 q4
        · rw [e4, e5, jm_bV_thr, jm_bV_thr, jm_bI_thr]
          exact Or.inr ⟨v, zC, zR, rfl, rfl, hb⟩
      · rw [if_neg (by rw [decide_eq_false h6]; exact Bool.false_ne_true), if_neg (fun z => h6 ((u5 _ hF1.2.2.1).mp z))]
        refine SimW.bind (s_brackets hK hp hlo ho hN hn hL1 s1 s2 1 (Or.inl (by decide))) ?_
        rintro zC zR ⟨L2, c3, q1, q2, q3, q4⟩
        rw [if_neg (show ¬ ((1 : Int32) = 0) by decide)]
        exact ih L2 c3 zC zR q1 (by omega) q3 q4
    · rw [c2 h7, jm_bI_some]
      simp only [if_true]
      rw [c_is hC hF.2.2.1 (k := 14) (by omega) rfl, jm_bI_some, bI_ite, c_is hC hF.2.2.1 (k := 3) (by omega) rfl, jm_bI_some, bI_ite, c_is hC hF.2.2.1 (k := 9) (by omega) rfl, jm_bI_some, bI_ite]
      by_cases h3 : L.2.2 = 3
      · obtain ⟨yC, yR, e1, e2, L2, c3, q1, q2, q3, q4⟩ := s_field (K := K) (gc := gc) (gr := gr) hK hL (by omega) (by omega) hC hR
        rw [if_neg (by rw [decide_eq_false (show ¬ L.2.2 = 14 by omega)]; exact Bool.false_ne_true), if_pos (by rw [decide_eq_true h3]), if_pos ((u2 _ hF.2.2.1).mpr h3), e1, e2, jm_bV_some, jm_bV_some, jm_bI_some, if_neg (show ¬ ((1 : Int32) = 0) by decide)]
        exact ih L2 c3 yC yR q1 q2 q3 q4
      · rw [if_neg (show ¬ (tokS L.2.2 = 2) from fun z => h3 ((u2 _ hF.2.2.1).mp z))]
        by_cases h9 : L.2.2 = 9
        · obtain ⟨yC, yR, e1, e2, q3, q4⟩ := s_takeAs (K := K) (gc := gc) (gr := gr) hK hL (by omega) (by omega) hC hR (k := 5) (by omega) (a := 5) rfl
          rw [if_neg (by rw [decide_eq_false (show ¬ L.2.2 = 14 by omega)]; exact Bool.false_ne_true), if_neg (by rw [decide_eq_false h3]; exact Bool.false_ne_true), if_pos (by rw [decide_eq_true h9]), if_pos ((u24 _ hF.2.2.1).mpr h9), e1, jm_bV_some, r_cnt_eq (k := 5) (a := 5) (by omega) rfl, e2, jm_bV_some, jm_bI_some, if_neg (show ¬ ((1 : Int32) = 0) by decide)]
          exact ih _ _ yC yR hL.next (hL.gt (by omega) (by omega)) q3 q4
        · rw [if_neg (show ¬ (tokS L.2.2 = 24) from fun z => h9 ((u24 _ hF.2.2.1).mp z)), r2 h7]
          simp only [jm_bI_some, if_true]
          by_cases h14 : L.2.2 = 14
          · rw [if_pos (by rw [decide_eq_true h14])]
            refine SimW.bind (s_brackets hK hp hlo ho hN hn hL hC hR 0 (Or.inr h14)) ?_
            rintro zC zR ⟨L2, c3, q1, q2, q3, q4⟩
            rw [if_neg (show ¬ ((1 : Int32) = 0) by decide)]
            exact ih L2 c3 zC zR q1 q2 q3 q4
          · rw [if_neg (by rw [decide_eq_false h14]; exact Bool.false_ne_true), if_neg (by rw [decide_eq_false h3]; exact Bool.false_ne_true), if_neg (by rw [decide_eq_false h9]; exact Bool.false_ne_true)]
            simp only [J_M_behindTerm_75]
            rw [hR.2.1.2.2, if_neg (fun z => h14 ((u18 _ hF.2.2.1).mp z)), if_pos trivial, jm_bI_some, if_pos rfl]
            exact SimV.ok ⟨L, c, hL, hs, hC, hR⟩
end PE

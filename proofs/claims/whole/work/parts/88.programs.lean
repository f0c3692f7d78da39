/-! PURE, 39: programs, side by side; the levels tied. -/
section PW
variable {K : Nat} {gc gr : jm_Rec} {B : Nat → Fin 256} {n : Nat} {off : Nat → Int32} {N : List NE} {mark op pt s lo : Nat} {L : Nat × Nat × Nat} {c : Nat → Int32} {xC xR : jm_X}
theorem jm_bI_bV_assoc (r : Option jm_R) (f : jm_X → Option jm_R) (h : Int32 → jm_X → Option jm_R) : jm_bI (jm_bV r f) h = jm_bV r (fun x => jm_bI (f x) h) := by
  cases r with
  | none => rfl
  | some q =>
    cases q with
    | inl q =>
      obtain ⟨v, x⟩ := q
      cases v <;> rfl
    | inr q => rfl
/-- label $NAME |, from its 'label', behind it on the reference's side -/
theorem s_label (hK : 20000 ≤ K) (hN : NOk n N) (hn : N.length + 1 < 1400) (hL : LX B n L) (h27 : L.2.2 = 27) (hC : SC B n L (cO c off) N xC) {yR : jm_X} (hR : SR B n (lexB B n L.2.1) c N op pt yR) (G : jm_X → Option jm_R) :
    ∃ R : Option jm_R, (if ((cR yR 27).1 11) = 3 then jm_bV (f_M_know K gr 3 (((cR yR 27).1 9) + 1) ((((cR yR 27).1 10) - ((cR yR 27).1 9)) - 1) 0 0 (cR yR 27)) (fun x8 => jm_bV (f_M_scan K gr x8) (fun x9 => jm_bV (f_M_need_i K gr 6 x9) (fun x10 => G x10))) else jm_bA (f_M_bad K gr ((cR yR 27).1 9) (cR yR 27)) (fun b13 x12 => (if b13 = 2 then some (.inr ("java/lang/IllegalStateException", x12)) else none))) = jm_bV R G ∧
    SimV B (fun yC yR => ∃ e : NE, NOk n (N ++ [e]) ∧ Go B n off (N ++ [e]) op pt L.1 yC yR) (f_G_label K gc xC) R := by
  have hF := hL.facts
  have hgt := hL.gt (by omega) (by omega)
  have hL1 := hL.next
  have hF1 := hL1.facts
  obtain ⟨y1, e1, s1⟩ := c_takeAs (K := K) (g := gc) hK hC hF.2.1 (k := 27) (by omega) (a := 27) rfl
  rw [← cO_cnt] at s1
  have t1 := r_cnt hR 27
  have u3 : tkU 3 4 := tkU.of (by decide)
  obtain ⟨n1, n2⟩ := c_need (K := K) (g := gc) hK s1 hF1.2.2.1 (k := 4) (by omega) (a := 1004) rfl
  simp only [f_G_label]
  rw [e1, jm_bV_some, t1.2.1.2.2]
  by_cases h4 : (lexB B n L.2.1).2.2 = 4
  · have hlt := hF1.2.2.2.1 (by omega) (by omega)
    have hgt1 := hL1.gt (by omega) (by omega)
    have e0 : nmS (lexB B n L.2.1) = (lexB B n L.2.1).1 + 1 := by rw [nmS, if_pos (Or.inl h4)]
    obtain ⟨y2, e2, s2⟩ := c_learn (K := K) (g := gc) s1 hF1 hN.1 (a := 3) (by omega) (s := -3) rfl
    rw [e0] at s2
    obtain ⟨y3, e3, s3⟩ := c_next (K := K) (g := gc) hK s2 hF1.2.1
    obtain ⟨y4, e4, t4⟩ := r_know (K := K) (g := gr) t1 hN.1 (a := 3) (p := (lexB B n L.2.1).1 + 1) (m := (lexB B n L.2.1).2.1 - ((lexB B n L.2.1).1 + 1)) (by omega) (s := 3) (v := (cR yR 27).1 9 + 1) (w := (((cR yR 27).1 10) - ((cR yR 27).1 9)) - 1) rfl (by rw [t1.2.1.1, nI_1]) (by rw [t1.2.1.1, t1.2.1.2.1 (by omega) (by omega), pu_sub (by omega), show (1 : Int32) = nI 1 from rfl, pu_sub (by omega), Nat.sub_sub]) rfl rfl
    obtain ⟨y5, e5, t5⟩ := r_scan (K := K) (g := gr) hK t4 hF1.2.1 (by omega) (by omega)
    have hNN : NOk n (N ++ [(3, (lexB B n L.2.1).1 + 1, (lexB B n L.2.1).2.1 - ((lexB B n L.2.1).1 + 1), 0)]) := hN.snoc hn ⟨by simp, by show (lexB B n L.2.1).1 + 1 + ((lexB B n L.2.1).2.1 - ((lexB B n L.2.1).1 + 1)) ≤ n; have := hF1.2.1; omega, by simp⟩
    refine ⟨f_M_need_i K gr 6 y5, ?_, ?_⟩
    · rw [if_pos ((u3 _ hF1.2.2.1).mpr h4), e4, jm_bV_some, e5, jm_bV_some]
    · rw [n1 h4, jm_bV_some, e2, jm_bV_some, e3, jm_bV_some]
      have key := s_take (gc := gc) (gr := gr) hK hL1.next s3 t5 (k := 31) (by omega) (by omega) (a := 1031) rfl (b := 6) (by decide)
      rcases key with ⟨vC, zC, vR, zR, e6, e7, rfl, rfl, p1, -, p3, p4⟩ | ⟨v, zC, zR, e6, e7, hb⟩
      · exact Or.inl ⟨none, zC, none, zR, by rw [e6, jm_bV_some], e7, rfl, rfl, _, hNN, _, _, hL1.next.next, by omega, p3, p4⟩
      · exact Or.inr ⟨v, zC, zR, by rw [e6, jm_bV_thr], e7, hb⟩
  · obtain ⟨y, e, hb⟩ := n2 h4
    obtain ⟨b1, b2⟩ := r_bad (K := K) (g := gr) t1 (nI (lexB B n L.2.1).1)
    refine ⟨some (.inr (ISE, (va_up (cR yR 27).1 7 (nI (lexB B n L.2.1).1), (cR yR 27).2))), ?_, ?_⟩
    · rw [if_neg (fun z => h4 ((u3 _ hF1.2.2.1).mp z)), t1.2.1.1, b1, jm_bV_thr]
    · exact Sim.thr (v := nI (lexB B n L.2.1).1) (by rw [e, jm_bV_thr]) rfl hb b2
theorem s_program (hK : 20000 ≤ K) (hP : PS B n gc gr (op + 1)) (hq : QS B n gc gr (op + 1)) (hT : ∀ o, op + 1 ≤ o → o ≤ 60 → TF K B n gc gr o) (hRS : RS K B n gc gr (op + 1)) (ho : op ≤ 60) (hN : NOk n N) (hn : N.length ≤ 21 * op) (hm : mark ≤ N.length) {fh f q : Nat} (hfh : 61 ≤ fh + op) (hf : n - L.1 < f) (hq1 : q ≤ L.1) (hL : LX B n L) (hC : SC B n L (cO c off) N xC) (hR : SR B n L c N op pt xR) :
    SimV B (fun yC yR => op ≤ 59 ∧ GoM B n off N mark op pt L.1 yC yR) (jm_bI (L_G_heads_2 K gc fh (nI (op + 1)) xC) (fun b x => L_G_program_25 K gc f (nI mark) b b (bI false) (nI q) x)) (f_M_program K gr xR) := by
  have hF := hL.facts
  have hn4 := hC.1.2.2.2
  have hLn : L.1 ≤ n := Nat.le_trans hF.1 hF.2.1
  obtain ⟨fh, rfl⟩ : ∃ m, fh = m + 1 := ⟨fh - 1, by omega⟩
  obtain ⟨r1, r2⟩ := r_enter (K := K) (g := gr) hR ho
  simp only [L_G_heads_2, B_G_heads_2, J_G_heads_51, f_M_program, f_S_start]
  rw [show (60 : Int32) = nI 60 from rfl]
  by_cases h60 : op = 60
  · obtain ⟨y2, e2, b2⟩ := r1 h60
    obtain ⟨y1, e1, b1⟩ := c_broken (K := K) (g := gc) hK hC (nI L.1)
    refine Sim.thr (v := nI L.1) ?_ ?_ b1 b2
    · rw [if_pos (nI_lt (by omega) (by omega)), jm_bI_some, hC.2.1.1, e1, jm_bV_thr, jm_bI_thr]
    · rw [e2, jm_bV_thr]
  obtain ⟨y0, e0, t0⟩ := r2 h60
  rw [if_neg (nI_nlt (by omega) (by omega)), e0, jm_bV_some, c_is hC hF.2.2.1 (k := 21) (by omega) rfl, jm_bI_some, bI_ite, c_is hC hF.2.2.1 (k := 27) (by omega) rfl, jm_bI_some, bI_ite, t0.2.2.2.1.1]
  -- what follows a head
  have go : ∀ (e : NE) (yC yR : jm_X), NOk n (N ++ [e]) → Go B n off (N ++ [e]) (op + 1) pt L.1 yC yR → SimV B (fun yC yR => op ≤ 59 ∧ GoM B n off N mark op pt L.1 yC yR) (jm_bI (L_G_heads_2 K gc fh (nI (op + 1) + 1) yC) (fun b x => L_G_program_25 K gc f (nI mark) b b (bI false) (nI q) x)) (jm_bV (gr 0 [.ref 0] yR) (fun x => J_M_program_187 K gr (nI N.length) x)) := by
    rintro e yC yR hNe ⟨L1, c1, q1, q2, q3, q4⟩
    have hle : N.length ≤ (N ++ [e]).length := by rw [List.length_append]; omega
    have hn1 : L1.1 ≤ n := Nat.le_trans q1.facts.1 q1.facts.2.1
    rw [nI_1]
    simp only [f_187]
    refine SimV.map (f := fin187 (nI N.length)) (hRS off (N ++ [e]) mark fh f q (op + 1) pt L1 c1 yC yR (Nat.le_refl _) (by omega) hNe (by rw [List.length_append, List.length_singleton]; omega) (by omega) (by omega) (by omega) (by omega) q1 q3 q4) ?_
    rintro zC zR ⟨-, L2, c2, g1, g2, g3, g4⟩
    refine ⟨by omega, L2, c2, g1, by omega, ?_, fin187_ok g4 List.take_left hle⟩
    rw [List.take_append_of_le_length hm] at g3
    exact g3
  obtain ⟨i7, j7⟩ := r_skip_s (K := K) (g := gr) hK t0 hF (j := 7) (by omega) (by omega) (a := 2007) rfl
  obtain ⟨i13, j13⟩ := r_skip_s (K := K) (g := gr) hK t0 hF (j := 13) (by omega) (by omega) (a := 2013) rfl
  have o7 : ordW 7 = 21 := by decide
  have o13 : ordW 13 = 27 := by decide
  rw [o7] at i7 j7; rw [o13] at i13 j13
  by_cases h21 : L.2.2 = 21
  · obtain ⟨y2, e2, t2⟩ := i7 h21
    rw [decide_eq_true h21, if_pos rfl, e2, jm_bI_some, if_neg (show ¬ ((1 : Int32) = 0) by decide), r_cnt_eq (k := 28) (a := 28) (by omega) rfl, jm_bI_bV_assoc]
    have key := SimV.bind (s_define (op := op + 1) hK hP (Nat.le_refl _) (by omega) hN (by omega) hL h21 hC t2) (fun yC yR (h : ∃ e : NE, NOk n (N ++ [e]) ∧ Go B n off (N ++ [e]) (op + 1) pt L.1 yC yR) => go h.choose yC yR h.choose_spec.1 h.choose_spec.2)
    simp only [jm_bV_assoc, jm_bV_some] at key
    exact key
  rw [decide_eq_false h21, if_neg Bool.false_ne_true, j7 h21, jm_bI_some, if_pos rfl]
  by_cases h27 : L.2.2 = 27
  · obtain ⟨y2, e2, t2⟩ := i13 h27
    rw [decide_eq_true h27, if_pos rfl, e2, jm_bI_some, if_neg (show ¬ ((1 : Int32) = 0) by decide), r_cnt_eq (k := 27) (a := 27) (by omega) rfl, jm_bI_bV_assoc]
    obtain ⟨R, e3, hS⟩ := s_label (K := K) (gc := gc) (gr := gr) hK hN (by omega) hL h27 hC t2 (fun x10 => jm_bV (gr 0 [.ref 0] x10) (fun x11 => J_M_program_187 K gr (nI N.length) x11))
    rw [e3]
    exact SimV.bind hS (fun yC yR h => go h.choose yC yR h.choose_spec.1 h.choose_spec.2)
  rw [decide_eq_false h27, if_neg Bool.false_ne_true, j13 h27, jm_bI_some, jm_bI_some, if_pos rfl, f_choices_eq]
  obtain ⟨f, rfl⟩ : ∃ m, f = m + 1 := ⟨f - 1, by omega⟩
  simp only [L_G_program_25, B_G_program_25]
  rw [show (16385 : Int32) = nI 16385 from rfl, if_neg (nI_ge (by omega) (by omega))]
  refine SimV.bind (s_operand hK hP hq (hT _ (Nat.le_refl _) (by omega)) (Nat.le_refl _) (by omega) hN (by omega) hL hC t0) ?_
  rintro zC zR ⟨L2, c2, q1, q2, q3, q4⟩
  have hn2 : L2.1 ≤ n := Nat.le_trans q1.facts.1 q1.facts.2.1
  refine SimV.mono (s_flat (s := L.1) hK hP hq hT hRS hN hn hm hn4 f q 0 false K K K K K K L2 c2 zC zR (by omega) (by omega) (by omega) q2 (by omega) (by omega) (by omega) (by omega) (by omega) (by omega) q1 q3 q4) ?_
  intro yC yR h
  exact ⟨by omega, h⟩
theorem PS.mono {lo' : Nat} (h : PS B n gc gr lo) (hl : lo ≤ lo') : PS B n gc gr lo' := fun off N op pt L c xC xR h1 => h off N op pt L c xC xR (by omega)
/-- all that the recursion asks, from lo on, by the levels left -/
def AllS (K : Nat) (B : Nat → Fin 256) (n lo : Nat) : Prop := ∀ m m' : Nat, (60 ≤ m + lo → 61 ≤ m' + lo → RS K B n (gC K m) (gR K m') lo) ∧ (61 ≤ m + lo → 61 ≤ m' + lo → PS B n (gC K m) (gR K m') lo) ∧ (61 ≤ m + lo → 61 ≤ m' + lo → QS B n (gC K m) (gR K m') lo) ∧ (62 ≤ m + lo → 62 ≤ m' + lo → TS B n (gC K m) (gR K m') lo)
theorem allS (hK : 20000 ≤ K) : ∀ (j lo : Nat), 61 ≤ lo + j → AllS K B n lo
  | 0, lo, hj => by
    intro m m'
    refine ⟨?_, ?_, ?_, ?_⟩
    · intro _ _ off N mark fh f q op pt L c xC xR h1 h2; omega
    · intro _ _ off N op pt L c xC xR h1 h2; omega
    · intro _ _ off N op pt L c xC xR h1 h2; omega
    · intro _ _ off N op pt L c xC xR h1 h2; omega
  | j + 1, lo, hj => by
    have ih : ∀ lo', lo + 1 ≤ lo' → AllS K B n lo' := fun lo' h => allS hK j lo' (by omega)
    have hTF : ∀ (m m' : Nat), 60 ≤ m + lo → 60 ≤ m' + lo → ∀ o, lo + 1 ≤ o → o ≤ 60 → TF K B n (gC K m) (gR K m') o := by
      intro m m' h1 h2 o h3 h4 off N pt L c xC xR hN hn hL hC hR
      exact s_term (lo := o) hK ((ih o h3 m m').2.1 (by omega) (by omega)) ((ih (o + 1) (by omega) m m').2.2.2 (by omega) (by omega)) (Nat.le_refl _) h4 hN hn hL hC hR
    have hRS : ∀ m m' : Nat, 60 ≤ m + lo → 61 ≤ m' + lo → RS K B n (gC K m) (gR K m') lo := by
      intro m m' h1 h2 off N mark fh f q op pt L c xC xR h3 h4 hN hn hm hfh hf hq hL hC hR
      by_cases hz : op = lo
      · subst hz
        obtain ⟨m', rfl⟩ : ∃ k, m' = k + 1 := ⟨m' - 1, by omega⟩
        exact s_program hK ((ih (op + 1) (Nat.le_refl _) m m').2.1 (by omega) (by omega)) ((ih (op + 1) (Nat.le_refl _) m m').2.2.1 (by omega) (by omega)) (hTF m m' h1 (by omega)) ((ih (op + 1) (Nat.le_refl _) m m').1 (by omega) (by omega)) h4 hN hn hm hfh hf hq hL hC hR
      · exact (ih (lo + 1) (Nat.le_refl _) m m').1 (by omega) (by omega) off N mark fh f q op pt L c xC xR (by omega) h4 hN hn hm hfh hf hq hL hC hR
    have hPS : ∀ m m' : Nat, 61 ≤ m + lo → 61 ≤ m' + lo → PS B n (gC K m) (gR K m') lo := by
      intro m m' h1 h2 off N op pt L c xC xR h3 h4 hN hn hL hC hR
      by_cases hz : op = lo
      · subst hz
        obtain ⟨m, rfl⟩ : ∃ k, m = k + 1 := ⟨m - 1, by omega⟩
        have hn4 := hC.1.2.2.2
        rw [gC_program]
        simp only [f_G_program, f_G_heads]
        rw [c_size hC, jm_bI_some, nI_1]
        refine SimV.mono (hRS m m' (by omega) h2 off N N.length K K 0 op pt L c xC xR (Nat.le_refl _) h4 hN hn (Nat.le_refl _) (by omega) (by omega) (by omega) hL hC hR) ?_
        rintro yC yR ⟨g1, L2, c2, g2, g3, g4, g5⟩
        rw [List.take_length] at g4
        exact ⟨g1, L2, c2, g2, g3, g4, g5⟩
      · exact (ih (lo + 1) (Nat.le_refl _) m m').2.1 (by omega) (by omega) off N op pt L c xC xR (by omega) h4 hN hn hL hC hR
    intro m m'
    refine ⟨hRS m m', hPS m m', ?_, ?_⟩
    · intro h1 h2 off N op pt L c xC xR h3 h4 hN hn hp hL hC hR
      by_cases hz : op = lo
      · subst hz
        obtain ⟨m, rfl⟩ : ∃ k, m = k + 1 := ⟨m - 1, by omega⟩
        obtain ⟨m', rfl⟩ : ∃ k, m' = k + 1 := ⟨m' - 1, by omega⟩
        rw [gC_pattern, gR_pattern]
        exact s_pattern hK ((ih (op + 1) (Nat.le_refl _) m m').2.1 (by omega) (by omega)) ((ih (op + 1) (Nat.le_refl _) m m').2.2.1 (by omega) (by omega)) (Nat.le_refl _) h4 hN hn hp hL hC hR
      · exact (ih (lo + 1) (Nat.le_refl _) m m').2.2.1 (by omega) (by omega) off N op pt L c xC xR (by omega) h4 hN hn hp hL hC hR
    · intro h1 h2 off N op pt L c xC xR h3 h4 hN hn hL hC hR
      by_cases hz : op = lo
      · subst hz
        obtain ⟨m, rfl⟩ : ∃ k, m = k + 1 := ⟨m - 1, by omega⟩
        obtain ⟨m', rfl⟩ : ∃ k, m' = k + 1 := ⟨m' - 1, by omega⟩
        rw [gC_term, gR_term]
        exact s_term (lo := op) hK (hPS m m' (by omega) (by omega)) ((ih (op + 1) (Nat.le_refl _) m m').2.2.2 (by omega) (by omega)) (Nat.le_refl _) h4 hN hn hL hC hR
      · exact (ih (lo + 1) (Nat.le_refl _) m m').2.2.2 (by omega) (by omega) off N op pt L c xC xR (by omega) h4 hN hn hL hC hR
end PW

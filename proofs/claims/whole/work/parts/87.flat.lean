/-! PURE, 38: the class's one loop of operators against the reference's. -/
/-- behind a program: the class has the names up to its mark, the reference those of the program's begin -/
def GoM (B : Nat → Fin 256) (n : Nat) (off : Nat → Int32) (N : List NE) (mark op pt s : Nat) (xC xR : jm_X) : Prop := ∃ L c, LX B n L ∧ s < L.1 ∧ SC B n L (cO c off) (N.take mark) xC ∧ SR B n L c N op pt xR
/-- the class's rest of a program against a call of the reference's program -/
def RS (K : Nat) (B : Nat → Fin 256) (n : Nat) (gc gr : jm_Rec) (lo : Nat) : Prop := ∀ (off : Nat → Int32) (N : List NE) (mark fh f q op pt : Nat) (L : Nat × Nat × Nat) (c : Nat → Int32) (xC xR : jm_X), lo ≤ op → op ≤ 60 → NOk n N → N.length ≤ 21 * op → mark ≤ N.length → 61 ≤ fh + op → n - L.1 < f → q ≤ L.1 → LX B n L → SC B n L (cO c off) N xC → SR B n L c N op pt xR →
  SimV B (fun yC yR => op ≤ 59 ∧ GoM B n off N mark op pt L.1 yC yR) (jm_bI (L_G_heads_2 K gc fh (nI (op + 1)) xC) (fun b x => L_G_program_25 K gc f (nI mark) b b (bI false) (nI q) x)) (gr 0 [.ref 0] xR)
section PV
variable {K : Nat} {gc gr : jm_Rec} {B : Nat → Fin 256} {n : Nat} {off : Nat → Int32} {N : List NE} {mark op pt s lo : Nat}
theorem SimV.map {Q Q' : jm_X → jm_X → Prop} {rC rR : Option jm_R} {f : jm_X → jm_X} (h : SimV B Q rC rR) (k : ∀ xC xR, Q xC xR → Q' xC (f xR)) : SimV B Q' rC (jm_bV rR (fun x => rV (f x))) := by
  rcases h with ⟨vC, xC, vR, xR, e1, e2, rfl, rfl, hq⟩ | ⟨v, xC, xR, e1, e2, h⟩
  · refine Or.inl ⟨_, xC, none, f xR, e1, ?_, rfl, rfl, k _ _ hq⟩
    rw [e2, jm_bV_some]
  · refine Or.inr ⟨v, xC, xR, e1, ?_, h⟩
    rw [e2, jm_bV_thr]
/-- the reference's end of a program -/
def fin187 (v1 : Int32) (x : jm_X) : jm_X := (va_up (va_up x.1 15 v1) 12 ((va_up x.1 15 v1 12) - 1), x.2)
theorem f_187 (v1 : Int32) (x : jm_X) : J_M_program_187 K gr v1 x = rV (fin187 v1 x) := rfl
theorem fin187_ok {L : Nat × Nat × Nat} {c : Nat → Int32} {xR : jm_X} {N' : List NE} (hR : SR B n L c N' (op + 1) pt xR) (hN : N'.take N.length = N) (hl : N.length ≤ N'.length) : SR B n L c N op pt (fin187 (nI N.length) xR) := by
  have h1 := hR.take hl (a := nI N.length) rfl
  rw [hN] at h1
  exact h1.setOp (by rw [show va_up xR.1 15 (nI N.length) 12 = nI (op + 1) from h1.2.2.2.2.1.1, nI_pred])
theorem s_flat (hK : 20000 ≤ K) (hP : PS B n gc gr (op + 1)) (hq : QS B n gc gr (op + 1)) (hT : ∀ o, op + 1 ≤ o → o ≤ 60 → TF K B n gc gr o) (hRS : RS K B n gc gr (op + 1)) (hN : NOk n N) (hn : N.length ≤ 21 * op) (hm : mark ≤ N.length) (hn4 : n ≤ 16384) : ∀ (f q d : Nat) (cf : Bool) (fp fs fa fo fc fP : Nat) (L : Nat × Nat × Nat) (c : Nat → Int32) (xC xR : jm_X), op + 1 + d ≤ 60 → n - L.1 ≤ f → q + 1 ≤ L.1 → s < L.1 → n - L.1 < fp → n - L.1 < fs → n - L.1 < fa → n - L.1 < fo → n - L.1 < fc → n - L.1 < fP → LX B n L → SC B n L (cO c off) N xC → SR B n L c N (op + 1 + d) pt xR →
    SimV B (GoM B n off N mark op pt s) (clsT K gc f (nI mark) (nI (op + 1)) (nI (op + 1 + d)) (bI cf) (nI q) xC) (rest K gr fp fs cf fa fo fc d fP (nI N.length) xR) := by
  intro f
  induction f using Nat.strongRecOn with
  | ind f ih =>
  intro q d cf fp fs fa fo fc fP L c xC xR hd hf hq1 hs hfp hfs hfa hfo hfc hfP hL hC hR
  have hF := hL.facts
  have hl := hF.2.2.1
  have hLn : L.1 ≤ n := Nat.le_trans hF.1 hF.2.1
  have hL1 := hL.next
  have hF1 := hL1.facts
  have hn1 : (lexB B n L.2.1).1 ≤ n := Nat.le_trans hF1.1 hF1.2.1
  obtain ⟨fp, rfl⟩ : ∃ m, fp = m + 1 := ⟨fp - 1, by omega⟩
  obtain ⟨fs, rfl⟩ : ∃ m, fs = m + 1 := ⟨fs - 1, by omega⟩
  obtain ⟨fa, rfl⟩ : ∃ m, fa = m + 1 := ⟨fa - 1, by omega⟩
  obtain ⟨fo, rfl⟩ : ∃ m, fo = m + 1 := ⟨fo - 1, by omega⟩
  obtain ⟨fc, rfl⟩ : ∃ m, fc = m + 1 := ⟨fc - 1, by omega⟩
  obtain ⟨fP, rfl⟩ : ∃ m, fP = m + 1 := ⟨fP - 1, by omega⟩
  have t := hR.2.1.2.2
  have step : ∀ (d' : Nat) (cf' : Bool) (fp' fs' fa' fo' fc' fP' : Nat) (c1 : Nat → Int32) (y1 y2 : jm_X), op + 1 + d' ≤ 60 → L.1 < (lexB B n L.2.1).1 → n - L.1 ≤ fp' → n - L.1 ≤ fs' → n - L.1 ≤ fa' → n - L.1 ≤ fo' → n - L.1 ≤ fc' → n - L.1 ≤ fP' → SC B n (lexB B n L.2.1) (cO c1 off) N y1 → SR B n (lexB B n L.2.1) c1 N (op + 1 + d') pt y2 →
      SimV B (GoM B n off N mark op pt s) (L_G_program_25 K gc f (nI mark) (nI (op + 1)) (nI (op + 1 + d')) (bI cf') (nI q + 1) y1) (jm_bV (f_M_part K gr y2) (fun x => rest K gr fp' fs' cf' fa' fo' fc' d' fP' (nI N.length) x)) := by
    intro d' cf' fp' fs' fa' fo' fc' fP' c1 y1 y2 hd' hgt h1 h2 h3 h4 h5 h6 g1 g2
    obtain ⟨f', rfl⟩ : ∃ m, f = m + 1 := ⟨f - 1, by omega⟩
    simp only [L_G_program_25, B_G_program_25]
    rw [nI_1, show (16385 : Int32) = nI 16385 from rfl, if_neg (nI_ge (by omega) (by omega))]
    refine SimV.bind (s_operand hK hP hq (hT _ (by omega) hd') (by omega) hd' hN (by omega) hL1 g1 g2) ?_
    rintro zC zR ⟨L2, c2, q1, q2, q3, q4⟩
    have hn2 : L2.1 ≤ n := Nat.le_trans q1.facts.1 q1.facts.2.1
    exact ih f' (by omega) (q + 1) d' cf' fp' fs' fa' fo' fc' fP' L2 c2 zC zR hd' (by omega) (by omega) (by omega) (by omega) (by omega) (by omega) (by omega) (by omega) (by omega) q1 q3 q4
  -- * / %
  by_cases h13 : tokS L.2.2 = 13
  · have h01 := tk_01 _ hl (by rw [(tk_13 _ hl h13).1]; decide)
    obtain ⟨y1, y2, e1, e2, s1, s2⟩ := s_takeAs (K := K) (gc := gc) (gr := gr) hK hL h01.1 h01.2 hC hR (k := 21) (by omega) (a := 21) rfl
    rw [c_op6 hC hl (tk_13 _ hl h13), e1, jm_bV_some]
    have er : rest K gr (fp + 1) (fs + 1) cf (fa + 1) (fo + 1) (fc + 1) d (fP + 1) (nI N.length) xR = jm_bV (f_M_part K gr y2) (fun x => rest K gr fp (fs + 1) cf (fa + 1) (fo + 1) (fc + 1) d (fP + 1) (nI N.length) x) := by
      simp only [rest]
      rw [L_M_product_4, B_M_product_4, t, if_pos h13, r_cnt_eq (k := 21) (a := 21) (by omega) rfl, e2, jm_bV_some, jm_bV_assoc]
    rw [er]
    exact step d cf fp (fs + 1) (fa + 1) (fo + 1) (fc + 1) (fP + 1) _ y1 y2 hd (hL.gt h01.1 h01.2) (by omega) (by omega) (by omega) (by omega) (by omega) (by omega) s1 s2
  have p0 : L_M_product_4 K gr (fp + 1) xR = rV xR := q_prod (by rw [t]; exact h13)
  -- + -
  by_cases h11 : tokS L.2.2 = 11 ∨ tokS L.2.2 = 12
  · have hlv : sg_level.getD L.2.2 0 = 6 ∧ sg_kind.getD L.2.2 0 = 21 := h11.elim (tk_11 _ hl) (tk_12 _ hl)
    have h01 := tk_01 _ hl (by rw [hlv.1]; decide)
    obtain ⟨y1, y2, e1, e2, s1, s2⟩ := s_takeAs (K := K) (gc := gc) (gr := gr) hK hL h01.1 h01.2 hC hR (k := 21) (by omega) (a := 21) rfl
    rw [c_op6 hC hl hlv, e1, jm_bV_some]
    have es : L_M_sum_4 K gr (fs + 1) xR = jm_bV (f_M_product K gr y2) (fun x => L_M_sum_4 K gr fs x) := by
      simp only [L_M_sum_4, B_M_sum_4, J_M_sum_22]
      rw [r_cnt_eq (k := 21) (a := 21) (by omega) rfl, e2, jm_bV_some, t]
      rcases h11 with z | z
      · rw [if_pos z]
      · rw [if_neg (by rw [z]; decide), if_pos z]
    have er : rest K gr (fp + 1) (fs + 1) cf (fa + 1) (fo + 1) (fc + 1) d (fP + 1) (nI N.length) xR = jm_bV (f_M_part K gr y2) (fun x => rest K gr K fs cf (fa + 1) (fo + 1) (fc + 1) d (fP + 1) (nI N.length) x) := by
      simp only [rest]
      rw [p0, jm_bV_some, es]
      simp only [f_M_product, jm_bV_assoc]
    rw [er]
    exact step d cf K fs (fa + 1) (fo + 1) (fc + 1) (fP + 1) _ y1 y2 hd (hL.gt h01.1 h01.2) (by omega) (by omega) (by omega) (by omega) (by omega) (by omega) s1 s2
  have p1 : L_M_sum_4 K gr (fs + 1) xR = rV xR := q_sum (by rw [t]; exact fun z => h11 (Or.inl z)) (by rw [t]; exact fun z => h11 (Or.inr z))
  -- a comparison
  by_cases h10 : tokS L.2.2 = 10 ∧ cf = false
  · obtain ⟨h10, rfl⟩ := h10
    have h01 := tk_01 _ hl (by rw [(tk_10 _ hl h10).1]; decide)
    obtain ⟨y1, y2, e1, e2, s1, s2⟩ := s_takeAs (K := K) (gc := gc) (gr := gr) hK hL h01.1 h01.2 hC hR (k := 21) (by omega) (a := 21) rfl
    rw [c_op5 hC hl (tk_10 _ hl h10), e1, jm_bV_some]
    have es : aftS K gr false xR = jm_bV (f_M_sum K gr y2) (fun x4 => rV x4) := by
      simp only [aftS, cmpR]
      rw [t, if_pos h10, r_cnt_eq (k := 21) (a := 21) (by omega) rfl, e2, jm_bV_some]
    have er : rest K gr (fp + 1) (fs + 1) false (fa + 1) (fo + 1) (fc + 1) d (fP + 1) (nI N.length) xR = jm_bV (f_M_part K gr y2) (fun x => rest K gr K K true (fa + 1) (fo + 1) (fc + 1) d (fP + 1) (nI N.length) x) := by
      simp only [rest]
      rw [p0, jm_bV_some, p1, jm_bV_some, es]
      simp only [f_M_sum, f_M_product, aftS, jm_bV_assoc, jm_bV_some]
    rw [er]
    exact step d true K K (fa + 1) (fo + 1) (fc + 1) (fP + 1) _ y1 y2 hd (hL.gt h01.1 h01.2) (by omega) (by omega) (by omega) (by omega) (by omega) (by omega) s1 s2
  have p2 : aftS K gr cf xR = rV xR := q_aft (by
    cases cf with
    | true => exact Or.inl rfl
    | false => exact Or.inr (by rw [t]; exact fun z => h10 ⟨z, rfl⟩))
  -- and
  by_cases hand : L.2.2 = ordW 3
  · have hlv : sg_level.getD L.2.2 0 = 4 ∧ sg_kind.getD L.2.2 0 = 20 := by rw [hand]; decide
    have h01 := tk_01 _ hl (by rw [hlv.1]; decide)
    obtain ⟨y1, e1, s1⟩ := c_takeAs (K := K) (g := gc) hK hC hF.2.1 (k := 20) (by omega) (a := 20) rfl
    rw [← cO_cnt] at s1
    obtain ⟨r1, -⟩ := r_skip_s (K := K) (g := gr) hK hR hF (j := 3) (by omega) (by omega) (a := 2003) rfl
    obtain ⟨y2, e2, s2⟩ := r1 hand
    rw [c_op4 hC hl hlv, e1, jm_bV_some]
    have es : L_M_ands_4 K gr (fa + 1) xR = jm_bV (f_M_compared K gr (cR y2 20)) (fun x => L_M_ands_4 K gr fa x) := by
      rw [L_M_ands_4, B_M_ands_4, e2, jm_bI_some, if_neg (show ¬ ((1 : Int32) = 0) by decide), r_cnt_eq (k := 20) (a := 20) (by omega) rfl]
    have er : rest K gr (fp + 1) (fs + 1) cf (fa + 1) (fo + 1) (fc + 1) d (fP + 1) (nI N.length) xR = jm_bV (f_M_part K gr (cR y2 20)) (fun x => rest K gr K K false fa (fo + 1) (fc + 1) d (fP + 1) (nI N.length) x) := by
      simp only [rest]
      rw [p0, jm_bV_some, p1, jm_bV_some, p2, jm_bV_some, es]
      simp only [f_M_compared, f_M_sum, f_M_product, aftS, cmpR, jm_bV_assoc]
    rw [er]
    exact step d false K K fa (fo + 1) (fc + 1) (fP + 1) _ y1 (cR y2 20) hd (hL.gt h01.1 h01.2) (by omega) (by omega) (by omega) (by omega) (by omega) (by omega) s1 (r_cnt s2 20)
  have p3 : L_M_ands_4 K gr (fa + 1) xR = rV xR := q_ands hK hR hL hand
  -- or
  by_cases hor : L.2.2 = ordW 14
  · have hlv : sg_level.getD L.2.2 0 = 4 ∧ sg_kind.getD L.2.2 0 = 20 := by rw [hor]; decide
    have h01 := tk_01 _ hl (by rw [hlv.1]; decide)
    obtain ⟨y1, e1, s1⟩ := c_takeAs (K := K) (g := gc) hK hC hF.2.1 (k := 20) (by omega) (a := 20) rfl
    rw [← cO_cnt] at s1
    obtain ⟨r1, -⟩ := r_skip_s (K := K) (g := gr) hK hR hF (j := 14) (by omega) (by omega) (a := 2014) rfl
    obtain ⟨y2, e2, s2⟩ := r1 hor
    rw [c_op4 hC hl hlv, e1, jm_bV_some]
    have es : L_M_ors_4 K gr (fo + 1) xR = jm_bV (f_M_ands K gr (cR y2 20)) (fun x => L_M_ors_4 K gr fo x) := by
      rw [L_M_ors_4, B_M_ors_4, e2, jm_bI_some, if_neg (show ¬ ((1 : Int32) = 0) by decide), r_cnt_eq (k := 20) (a := 20) (by omega) rfl]
    have er : rest K gr (fp + 1) (fs + 1) cf (fa + 1) (fo + 1) (fc + 1) d (fP + 1) (nI N.length) xR = jm_bV (f_M_part K gr (cR y2 20)) (fun x => rest K gr K K false K fo (fc + 1) d (fP + 1) (nI N.length) x) := by
      simp only [rest]
      rw [p0, jm_bV_some, p1, jm_bV_some, p2, jm_bV_some, p3, jm_bV_some, es]
      simp only [f_M_ands, f_M_compared, f_M_sum, f_M_product, aftS, cmpR, jm_bV_assoc]
    rw [er]
    exact step d false K K K fo (fc + 1) (fP + 1) _ y1 (cR y2 20) hd (hL.gt h01.1 h01.2) (by omega) (by omega) (by omega) (by omega) (by omega) (by omega) s1 (r_cnt s2 20)
  have p4 : L_M_ors_4 K gr (fo + 1) xR = rV xR := q_ors hK hR hL hor
  -- = and //
  by_cases h9 : tokS L.2.2 = 9 ∨ tokS L.2.2 = 8
  · obtain ⟨k, hk, hlv, es⟩ : ∃ k : Nat, k < 34 ∧ (sg_level.getD L.2.2 0 = 3 ∧ sg_kind.getD L.2.2 0 = nI k) ∧ L_M_choices_6 K gr (fc + 1) (nI d) xR = jm_bV (f_M_scan K gr (cR xR k)) (fun x4 => jm_bV (f_M_enter K gr x4) (fun x5 => jm_bV (f_M_ors K gr x5) (fun x6 => L_M_choices_6 K gr fc (nI d + 1) x6))) := by
      simp only [L_M_choices_6, B_M_choices_6, J_M_choices_24, J_M_choices_44]
      rcases h9 with z | z
      · refine ⟨19, by omega, tk_9 _ hl z, ?_⟩
        rw [t, if_pos z, if_pos z, r_cnt_eq (k := 19) (a := 19) (by omega) rfl]
      · refine ⟨18, by omega, tk_8 _ hl z, ?_⟩
        rw [t, if_neg (by rw [z]; decide), if_pos z, if_neg (by rw [z]; decide), r_cnt_eq (k := 18) (a := 18) (by omega) rfl]
    have h01 := tk_01 _ hl (by rw [hlv.1]; decide)
    have hgt := hL.gt h01.1 h01.2
    obtain ⟨y1, y2, e1, e2, s1, s2⟩ := s_takeAs (K := K) (gc := gc) (gr := gr) hK hL h01.1 h01.2 hC hR hk (a := nI k) rfl
    obtain ⟨o1, o2⟩ := c_opened (K := K) (gc := gc) hK s1 (q := op + 1 + d + 1) (by omega)
    obtain ⟨r1, r2⟩ := r_enter (K := K) (g := gr) s2 hd
    rw [c_op3 hC hl hlv, e1, jm_bV_some, nI_1]
    by_cases h60 : op + 1 + d = 60
    · obtain ⟨z1, ez, b1⟩ := o2 (by omega)
      obtain ⟨z2, ey, b2⟩ := r1 h60
      refine Sim.thr (v := nI (lexB B n L.2.1).1) ?_ ?_ b1 b2
      · rw [ez, jm_bI_thr]
      · simp only [rest]
        rw [p0, jm_bV_some, p1, jm_bV_some, p2, jm_bV_some, p3, jm_bV_some, p4, jm_bV_some, es, e2, jm_bV_some, ey, jm_bV_thr, jm_bV_thr]
    · obtain ⟨z2, ey, t2⟩ := r2 h60
      have er : rest K gr (fp + 1) (fs + 1) cf (fa + 1) (fo + 1) (fc + 1) d (fP + 1) (nI N.length) xR = jm_bV (f_M_part K gr z2) (fun x => rest K gr K K false K K fc (d + 1) (fP + 1) (nI N.length) x) := by
        simp only [rest]
        rw [p0, jm_bV_some, p1, jm_bV_some, p2, jm_bV_some, p3, jm_bV_some, p4, jm_bV_some, es, e2, jm_bV_some, ey, jm_bV_some, nI_1]
        simp only [f_M_ors, f_M_ands, f_M_compared, f_M_sum, f_M_product, aftS, cmpR, jm_bV_assoc]
      rw [er, o1 (by omega), jm_bI_some]
      exact step (d + 1) false K K K K fc (fP + 1) _ y1 z2 (by omega) hgt (by omega) (by omega) (by omega) (by omega) (by omega) (by omega) s1 t2
  have p5 : L_M_choices_6 K gr (fc + 1) (nI d) xR = rV (va_up xR.1 12 ((xR.1 12) - nI d), xR.2) := q_choices (by rw [t]; exact fun z => h9 (Or.inl z)) (by rw [t]; exact fun z => h9 (Or.inr z))
  have hR' : SR B n L c N (op + 1) pt (va_up xR.1 12 ((xR.1 12) - nI d), xR.2) := hR.setOp (by rw [hR.2.2.2.2.1.1, pu_sub (by omega), Nat.add_sub_cancel])
  have er0 : rest K gr (fp + 1) (fs + 1) cf (fa + 1) (fo + 1) (fc + 1) d (fP + 1) (nI N.length) xR = L_M_program_128 K gr (fP + 1) (nI N.length) (va_up xR.1 12 ((xR.1 12) - nI d), xR.2) := by
    simp only [rest]
    rw [p0, jm_bV_some, p1, jm_bV_some, p2, jm_bV_some, p3, jm_bV_some, p4, jm_bV_some, p5, jm_bV_some]
  rw [er0]
  generalize (va_up xR.1 12 ((xR.1 12) - nI d), xR.2) = xR' at hR'
  have t' := hR'.2.1.2.2
  rw [L_M_program_128, B_M_program_128, t']
  -- ,
  by_cases h7 : tokS L.2.2 = 7
  · have h01 := tk_01 _ hl (by rw [(tk_7 _ hl h7).1]; decide)
    obtain ⟨y1, y2, e1, e2, s1, s2⟩ := s_takeAs (K := K) (gc := gc) (gr := gr) hK hL h01.1 h01.2 hC hR' (k := 17) (by omega) (a := 17) rfl
    rw [c_op2 hC hl (tk_7 _ hl h7), e1, jm_bV_some, if_pos h7, r_cnt_eq (k := 17) (a := 17) (by omega) rfl, e2, jm_bV_some, f_choices_eq]
    exact step 0 false K K K K K fP _ y1 y2 (by omega) (hL.gt h01.1 h01.2) (by omega) (by omega) (by omega) (by omega) (by omega) (by omega) s1 s2
  rw [if_neg h7]
  -- |
  by_cases h6 : tokS L.2.2 = 6
  · have h01 := tk_01 _ hl (by rw [(tk_6 _ hl h6).1]; decide)
    have hgt := hL.gt h01.1 h01.2
    obtain ⟨y1, y2, e1, e2, s1, s2⟩ := s_takeAs (K := K) (gc := gc) (gr := gr) hK hL h01.1 h01.2 hC hR' (k := 16) (by omega) (a := 16) rfl
    rw [c_op1 hC hl (tk_6 _ hl h6), e1, jm_bV_some, if_pos h6, r_cnt_eq (k := 16) (a := 16) (by omega) rfl, e2, jm_bV_some, nI_1, nI_1]
    simp only [f_187]
    refine SimV.map (f := fin187 (nI N.length)) (hRS off N mark K f (q + 1) (op + 1) pt _ _ y1 y2 (Nat.le_refl _) (by omega) hN (by omega) hm (by omega) (by omega) (by omega) hL1 s1 s2) ?_
    rintro zC zR ⟨-, L2, c2, g1, g2, g3, g4⟩
    exact ⟨L2, c2, g1, by omega, g3, fin187_ok g4 (List.take_length) (Nat.le_refl _)⟩
  rw [if_neg h6]
  have hop0 : sg_level.getD L.2.2 0 = 0 ∨ (sg_level.getD L.2.2 0 = 5 ∧ cf = true) := by
    by_cases z10 : tokS L.2.2 = 10
    · right
      refine ⟨(tk_10 _ hl z10).1, ?_⟩
      cases cf with
      | true => rfl
      | false => exact absurd ⟨z10, rfl⟩ h10
    · left
      exact tk_else _ hl h13 (fun z => h11 (Or.inl z)) (fun z => h11 (Or.inr z)) z10 (fun z => h9 (Or.inl z)) (fun z => h9 (Or.inr z)) h7 h6 hand hor
  obtain ⟨y5, e5, s5⟩ := c_forgetFrom (K := K) (g := gc) hC hN.1 hm rfl
  rw [c_op0 hC hl hop0, f_187]
  simp only [J_G_program_155]
  rw [e5, jm_bV_some]
  exact SimV.ok ⟨L, c, hL, hs, s5, fin187_ok hR' List.take_length (Nat.le_refl _)⟩
end PV

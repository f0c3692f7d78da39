/-! PURE, 22: fields and brackets, side by side. -/
/-- the class answers nothing, the reference true -/
def SimW (B : Nat → Fin 256) (Q : jm_X → jm_X → Prop) (rC rR : Option jm_R) : Prop := Sim B (fun vC xC vR xR => vC = none ∧ vR = some (.int 1) ∧ Q xC xR) rC rR
theorem SimW.ok {B : Nat → Fin 256} {Q : jm_X → jm_X → Prop} {xC xR : jm_X} (h : Q xC xR) : SimW B Q (rV xC) (rI 1 xR) := Or.inl ⟨none, xC, _, xR, rfl, rfl, rfl, rfl, h⟩
theorem SimW.mono {B : Nat → Fin 256} {Q Q' : jm_X → jm_X → Prop} {rC rR : Option jm_R} (h : SimW B Q rC rR) (k : ∀ xC xR, Q xC xR → Q' xC xR) : SimW B Q' rC rR := by
  rcases h with ⟨vC, xC, vR, xR, e1, e2, h1, h2, hq⟩ | h
  · exact Or.inl ⟨vC, xC, vR, xR, e1, e2, h1, h2, k _ _ hq⟩
  · exact Or.inr h
section PD
variable {K : Nat} {gc gr : jm_Rec} {B : Nat → Fin 256} {n : Nat} {L : Nat × Nat × Nat} {c off : Nat → Int32} {N : List NE} {op pt s lo : Nat} {xC xR : jm_X}
theorem s_field (hK : 20000 ≤ K) (hL : LX B n L) (h0 : L.2.2 ≠ 0) (h1 : L.2.2 ≠ 1) (hC : SC B n L (cO c off) N xC) (hR : SR B n L c N op pt xR) :
    ∃ yC yR, f_G_field K gc xC = rV yC ∧ f_M_field K gr xR = rV yR ∧ Go B n off N op pt L.1 yC yR := by
  obtain ⟨x1, e1, s1⟩ := c_count (K := K) (g := gc) hC (k := 2) (by omega) (a := 2) rfl
  rw [← cO_cnt] at s1
  obtain ⟨yC, yR, e2, e3, s2, s3⟩ := s_takeAs (K := K) (gc := gc) (gr := gr) hK hL h0 h1 s1 (r_cnt hR 2) (k := 7) (by omega) (a := 7) rfl
  refine ⟨yC, yR, ?_, ?_, ⟨_, _, hL.next, hL.gt h0 h1, s2, s3⟩⟩
  · simp only [f_G_field]; rw [e1, jm_bV_some, e2, jm_bV_some]
  · simp only [f_M_field]
    rw [r_cnt_eq (k := 2) (a := 2) (by omega) rfl, r_cnt_eq (k := 7) (a := 7) (by omega) rfl, e3, jm_bV_some]
/-- ']' -/
theorem s_close (hK : 20000 ≤ K) (hL : LX B n L) (hs : s ≤ L.1) (hC : SC B n L (cO c off) N xC) (hR : SR B n L c N op pt xR) : SimW B (Go B n off N op pt s) (J_G_brackets_99 K gc xC) (J_M_behindTerm_196 K gr xR) := by
  simp only [J_G_brackets_99, J_M_behindTerm_196]
  refine SimV.bind (s_take hK hL hC hR (k := 15) (by omega) (by omega) rfl (b := 19) (by decide)) ?_
  rintro zC zR ⟨p1, -, p3, p4⟩
  exact SimW.ok ⟨_, c, hL.next, by omega, p3, p4⟩
/-- P ']' -/
theorem s_pclose (hK : 20000 ≤ K) (hp : PS B n gc gr lo) (hlo : lo ≤ op) (ho : op ≤ 60) (hN : NOk n N) (hn : N.length ≤ 21 * op) (hL : LX B n L) (hs : s ≤ L.1) (hC : SC B n L (cO c off) N xC) (hR : SR B n L c N op pt xR) : SimW B (Go B n off N op pt s) (J_G_brackets_86 K gc (nI op) xC) (J_M_behindTerm_179 K gr xR) := by
  simp only [J_G_brackets_86, J_M_behindTerm_179]
  refine SimV.bind (hp off N op pt L c xC xR hlo ho hN hn hL hC hR) ?_
  rintro yC yR ⟨-, L1, c1, q1, q2, q3, q4⟩
  exact s_close hK q1 (by omega) q3 q4
/-- from ':' or ']' on -/
theorem s_colon (hK : 20000 ≤ K) (hp : PS B n gc gr lo) (hlo : lo ≤ op) (ho : op ≤ 60) (hN : NOk n N) (hn : N.length ≤ 21 * op) (hL : LX B n L) (hs : s ≤ L.1) (hC : SC B n L (cO c off) N xC) (hR : SR B n L c N op pt xR) (v : Int32) : SimW B (Go B n off N op pt s) (J_G_brackets_54 K gc (nI op) v xC) (J_M_behindTerm_147 K gr v xR) := by
  have hF := hL.facts
  obtain ⟨c1, c2⟩ := c_takes (K := K) (g := gc) hK hC hF.2.2.1 hF.2.1 (k := 10) (by omega) (a := 1010) rfl
  obtain ⟨r1, r2⟩ := r_skip_i (K := K) (g := gr) hK hR hF (a := 22) (k := 10) (tkU.of (by decide)) (by omega)
  simp only [J_G_brackets_54, J_M_behindTerm_147]
  by_cases hz : L.2.2 = 10
  · obtain ⟨y1, e1, s1⟩ := c1 hz
    obtain ⟨y2, e2, s2⟩ := r1 hz
    obtain ⟨y3, e3, s3⟩ := c_count (K := K) (g := gc) s1 (k := 3) (by omega) (a := 3) rfl
    rw [← cO_cnt] at s3
    have s4 := r_cnt s2 3
    have hgt := hL.gt (by omega) (by omega)
    have hF1 := hL.next.facts
    rw [e1, jm_bI_some, if_neg (show ¬ ((1 : Int32) = 0) by decide), e3, jm_bV_some, e2, jm_bI_some, if_neg (show ¬ ((1 : Int32) = 0) by decide), r_cnt_eq (k := 3) (a := 3) (by omega) rfl, s4.2.1.2.2, c_is s3 hF1.2.2.1 (k := 15) (by omega) rfl, jm_bI_some, bI_ite]
    by_cases hv : v = 0
    · rw [if_pos hv, if_pos hv]
      exact s_pclose hK hp hlo ho hN hn hL.next (by omega) s3 s4
    · rw [if_neg hv, if_neg hv]
      have hu : tkU 19 15 := tkU.of (by decide)
      by_cases h15 : (lexB B n L.2.1).2.2 = 15
      · rw [if_pos (by rw [decide_eq_true h15]), if_pos ((hu _ hF1.2.2.1).mpr h15)]
        exact s_close hK hL.next (by omega) s3 s4
      · rw [if_neg (by rw [decide_eq_false h15]; exact Bool.false_ne_true), if_neg (fun z => h15 ((hu _ hF1.2.2.1).mp z))]
        exact s_pclose hK hp hlo ho hN hn hL.next (by omega) s3 s4
  · obtain ⟨y3, e3, s3⟩ := c_count (K := K) (g := gc) hC (k := 2) (by omega) (a := 2) rfl
    rw [← cO_cnt] at s3
    rw [c2 hz, jm_bI_some, if_pos rfl, e3, jm_bV_some, r2 hz, jm_bI_some, if_pos rfl, r_cnt_eq (k := 2) (a := 2) (by omega) rfl]
    exact s_close hK hL hs s3 (r_cnt hR 2)
/-- '[' .. ']' behind a TERM -/
theorem s_brackets (hK : 20000 ≤ K) (hp : PS B n gc gr lo) (hlo : lo ≤ op) (ho : op ≤ 60) (hN : NOk n N) (hn : N.length ≤ 21 * op) (hL : LX B n L) (hC : SC B n L (cO c off) N xC) (hR : SR B n L c N op pt xR) (v : Int32) (hv : v ≠ 0 ∨ L.2.2 = 14) : SimW B (Go B n off N op pt L.1) (f_G_brackets K gc (nI op) xC) (J_M_behindTerm_75 K gr v xR) := by
  have hF := hL.facts
  have hu : tkU 18 14 := tkU.of (by decide)
  obtain ⟨c1, c2⟩ := c_take (K := K) (g := gc) hK hC hF.2.2.1 hF.2.1 (k := 14) (by omega) (a := 1014) rfl
  simp only [f_G_brackets, J_M_behindTerm_75]
  by_cases hz : L.2.2 = 14
  · obtain ⟨y1, e1, s1⟩ := c1 hz
    obtain ⟨y2, e2, s2⟩ := r_scan (K := K) (g := gr) hK hR hF.2.1 (by omega) (by omega)
    have hgt := hL.gt (by omega) (by omega)
    have hL1 := hL.next
    have hF1 := hL1.facts
    obtain ⟨r1, r2⟩ := r_skip_i (K := K) (g := gr) hK s2 hF1 (a := 19) (k := 15) (tkU.of (by decide)) (by omega)
    rw [e1, jm_bV_some, hR.2.1.2.2, if_pos ((hu _ hF.2.2.1).mpr hz), e2, jm_bV_some, c_is s1 hF1.2.2.1 (k := 15) (by omega) rfl, jm_bI_some, bI_ite]
    by_cases h15 : (lexB B n L.2.1).2.2 = 15
    · obtain ⟨y3, e3, s3⟩ := r1 h15
      obtain ⟨y4, e4, s4⟩ := c_takeAs (K := K) (g := gc) hK s1 hF1.2.1 (k := 4) (by omega) (a := 4) rfl
      rw [← cO_cnt] at s4
      have hgt1 := hL1.gt (by omega) (by omega)
      rw [if_pos (by rw [decide_eq_true h15]), e4, jm_bV_some, e3, jm_bI_some, if_neg (show ¬ ((1 : Int32) = 0) by decide), r_cnt_eq (k := 4) (a := 4) (by omega) rfl]
      exact SimW.ok ⟨_, _, hL1.next, by omega, s4, r_cnt s3 4⟩
    · have hu22 : tkU 22 10 := tkU.of (by decide)
      rw [if_neg (by rw [decide_eq_false h15]; exact Bool.false_ne_true), r2 h15, jm_bI_some, if_pos rfl, c_is s1 hF1.2.2.1 (k := 10) (by omega) rfl, jm_bI_some, bI_ite, s2.2.1.2.2]
      simp only [J_G_brackets_44, J_M_behindTerm_138]
      by_cases h10 : (lexB B n L.2.1).2.2 = 10
      · rw [if_pos (by rw [decide_eq_true h10]), if_pos ((hu22 _ hF1.2.2.1).mpr h10), if_pos trivial, if_pos trivial]
        exact s_colon hK hp hlo ho hN hn hL1 (by omega) s1 s2 0
      · rw [if_neg (by rw [decide_eq_false h10]; exact Bool.false_ne_true), if_neg (fun z => h10 ((hu22 _ hF1.2.2.1).mp z)), if_neg (show ¬ ((1 : Int32) = 0) by decide), if_neg (show ¬ ((1 : Int32) = 0) by decide)]
        refine SimV.bind (hp off N op pt _ c y1 y2 hlo ho hN hn hL1 s1 s2) ?_
        rintro yC yR ⟨-, L2, c2, q1, q2, q3, q4⟩
        exact s_colon hK hp hlo ho hN hn q1 (by omega) q3 q4 1
  · obtain ⟨y, e, hb⟩ := c2 hz
    obtain ⟨b1, b2⟩ := r_bad (K := K) (g := gr) hR (nI L.1)
    refine Sim.thr (v := nI L.1) ?_ ?_ hb b2
    · rw [e, jm_bV_thr]
    · rw [hR.2.1.2.2, if_neg (fun z => hz ((hu _ hF.2.2.1).mp z)), if_neg (hv.resolve_right hz), hR.2.1.1]; exact b1
end PD

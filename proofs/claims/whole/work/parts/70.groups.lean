/-! PURE, 21: strings, groups, arrays, brackets, side by side. -/
section PC2
variable {K : Nat} {gc gr : jm_Rec} {B : Nat → Fin 256} {n : Nat} {L : Nat × Nat × Nat} {c off : Nat → Int32} {N : List NE} {op pt s lo : Nat} {xC xR : jm_X}
theorem s_string (hK : 20000 ≤ K) (hp : PS B n gc gr lo) (hlo : lo ≤ op) (ho : op ≤ 60) (hN : NOk n N) (hn : N.length ≤ 21 * op) (hL : LX B n L) (h6 : L.2.2 = 6) (hC : SC B n L (cO c off) N xC) (hR : SR B n L c N op pt xR) :
    SimV B (Go B n off N op pt L.1) (f_G_string K gc (nI op) xC) (f_M_string K gr 1 xR) := by
  have hF := hL.facts
  have hb := hF.2.2.2.2.2.1 h6
  have hbn := hF.2.1
  have hn4 := hC.1.2.2.2
  simp only [f_G_string, f_S_start, f_M_string]
  rw [jm_bI_some, hC.2.1.1, hR.2.1.1, hR.2.1.2.1 (by omega) (by omega), hb, nI_1, ← nI_0]
  have hC2 := hC
  rw [← offq_0 off] at hC2
  exact s_string_L hK hp hlo ho hN hn hn4 K 0 (L.1 + 1) K L c xC xR (by omega) (by omega) (by omega) (by omega) (by omega) hL hC2 hR
/-- the end of a string without programs, at its second '"' -/
theorem s_strEnd (hK : 20000 ≤ K) (hC : SC B n L (cO c off) N xC) (hR : SR B n L c N op pt xR) {j f : Nat} (hj : j < n) (h34 : (B j).val = 34) (v1 v2 : Int32) : SimV B (Go B n off N op pt j) (jm_bV (f_G_count K gc 7 xC) (fun x10 => jm_bV (f_S_goTo K gc (nI j + 1) x10) (fun x11 => rV x11))) (L_M_string_13 K gr (f + 1) v1 v2 (nI j) 0 xR) := by
  have hn4 := hC.1.2.2.2
  obtain ⟨y1, ec1, s1⟩ := c_count (K := K) (g := gc) hC (k := 7) (by omega) (a := 7) rfl
  obtain ⟨y2, ec2, s2⟩ := c_goTo (K := K) (g := gc) hK s1 (p := j + 1) (by omega) (a := nI j + 1) (nI_1 j)
  obtain ⟨z1, er1, t1⟩ := r_scanAt (K := K) (g := gr) hK hR (p := j + 1) (by omega) (a := nI j + 1) (nI_1 j)
  have e34 : (sB (B j) = 34) = ((B j).val = 34) := sB_eq (B j) ⟨34, by omega⟩
  have h7 : jm_in shR 4 .int 7 = true := by decide
  simp only [L_M_string_13, B_M_string_13, J_M_string_269]
  rw [ec1, jm_bV_some, ec2, jm_bV_some, v_M_look_in hR.1 hj, jm_bI_some]
  simp only [e34, if_pos h34, jm_then]
  rw [er1, jm_bV_some, if_pos (by decide)]
  simp only [h7, if_true]
  rw [← cO_cnt] at s2
  refine SimV.ok ⟨_, cnt c 7, ⟨j + 1, by omega, rfl⟩, Nat.lt_of_lt_of_le (Nat.lt_succ_self j) (lexB_ge B n (j + 1)), s2, ?_⟩
  have e : (jm_ua z1 4 7 ((z1.2.2 4 (Int32.toNatClampNeg 7)) + (0 + 1))) = (z1.1, z1.2.1, va_up z1.2.2 4 (cnt c 7)) := by
    simp only [jm_ua, t1.2.2.1]; rfl
  rw [e]
  exact t1.setC _
theorem s_stringW (hK : 20000 ≤ K) (hL : LX B n L) (h6 : L.2.2 = 6) (hC : SC B n L (cO c off) N xC) (hR : SR B n L c N op pt xR) :
    SimV B (Go B n off N op pt L.1) (f_G_stringWithoutPrograms K gc xC) (f_M_string K gr 0 xR) := by
  have hF := hL.facts
  have hb := hF.2.2.2.2.2.1 h6
  have hbn := hF.2.1
  have hn4 := hC.1.2.2.2
  obtain ⟨yb, eb, hbc⟩ := c_broken (K := K) (g := gc) hK hC (nI L.1)
  obtain ⟨b1, b2⟩ := r_bad (K := K) (g := gr) hR (nI L.1)
  obtain ⟨rp1, rp2⟩ := r_piece_L (K := K) (g := gr) hK hR.1 0 (nI L.1) 0 K (L.1 + 1) (by omega) (by omega)
  simp only [f_G_stringWithoutPrograms, J_G_stringWithoutPrograms_43, J_G_stringWithoutPrograms_32, f_S_start, f_M_string]
  rw [jm_bI_some, hC.2.1.1, hR.2.1.1, hR.2.1.2.1 (by omega) (by omega), hb, nI_1, c_piece hK hC.1 (by omega), jm_bI_some]
  cases hz : pcE B n K (L.1 + 1) with
  | none =>
    refine Sim.thr (v := nI L.1) ?_ (rp1 hz) hbc b2
    rw [show pcI none = -1 from rfl, if_pos (by decide), jm_bI_some, hC.2.1.1, eb, jm_bV_thr]
  | some j =>
    obtain ⟨j1, j2, j3⟩ := pcE_facts _ _ _ hz
    obtain ⟨f2, hf2, e2⟩ := rp2 j hz
    rw [e2, show pcI (some j) = nI j from rfl, if_neg (nI_pos (show j < 2 ^ 31 by omega)), c_opens hC.1 (by omega), jm_bI_some, bI_ite]
    cases f2 with
    | zero => omega
    | succ f2 =>
    by_cases h34 : (B j).val = 34
    · have hop : ¬ opn B n j = true := by simp [opn, h34]
      rw [if_neg hop]
      refine SimV.mono (s_strEnd hK hC hR j2 h34 0 (nI L.1)) ?_
      rintro yC yR ⟨L1, c1, q1, q2, q3⟩
      exact ⟨L1, c1, q1, by omega, q3⟩
    · have hop : opn B n j = true := j3.resolve_left h34
      have hop2 := hop
      simp only [opn, Bool.and_eq_true, decide_eq_true_eq] at hop2
      obtain ⟨g1, g2, g3⟩ := hop2
      have e34 : (sB (B j) = 34) = ((B j).val = 34) := sB_eq (B j) ⟨34, by omega⟩
      have e92 : (sB (B j) = 92) = ((B j).val = 92) := sB_eq (B j) ⟨92, by omega⟩
      have e40 : (sB (B (j + 1)) = 40) = ((B (j + 1)).val = 40) := sB_eq (B (j + 1)) ⟨40, by omega⟩
      refine Sim.thr (v := nI L.1) ?_ ?_ hbc b2
      · rw [if_pos hop, jm_bI_some, hC.2.1.1, eb, jm_bV_thr]
      · simp only [L_M_string_13, B_M_string_13]
        rw [v_M_look_in hR.1 j2, jm_bI_some]
        simp only [e34, if_neg h34]
        rw [v_M_look_in hR.1 j2, jm_bI_some, hR.1.1, if_neg (nI_ge j2 (by omega)), if_neg (fun z => by have := (sB_lt32 (B j)).mp (Or.inl z); omega), if_pos (by
          by_cases hq2 : sB (B j) ≤ 126
          · exact hq2
          · have := (sB_lt32 (B j)).mp (Or.inr hq2); omega), if_pos (by rw [e92]; exact g2)]
        rw [nI_1, v_M_look_in hR.1 g1, jm_bI_some, if_pos (by rw [e40]; exact g3), if_pos trivial]
        exact b1
/-- takeAs against 'counted, then scanned' -/
theorem s_takeAs (hK : 20000 ≤ K) (hL : LX B n L) (h0 : L.2.2 ≠ 0) (h1 : L.2.2 ≠ 1) (hC : SC B n L (cO c off) N xC) (hR : SR B n L c N op pt xR) {k : Nat} (hk : k < 34) {a : Int32} (ha : a = nI k) :
    ∃ yC yR, f_G_takeAs K gc a xC = rV yC ∧ f_M_scan K gr (cR xR k) = rV yR ∧ SC B n (lexB B n L.2.1) (cO (cnt c k) off) N yC ∧ SR B n (lexB B n L.2.1) (cnt c k) N op pt yR := by
  have hF := hL.facts
  obtain ⟨y1, e1, s1⟩ := c_takeAs (K := K) (g := gc) hK hC hF.2.1 hk ha
  obtain ⟨y2, e2, s2⟩ := r_scan (K := K) (g := gr) hK (r_cnt hR k) hF.2.1 h0 h1
  exact ⟨y1, y2, e1, e2, by rw [cO_cnt]; exact s1, s2⟩
/-- '(' P ')' -/
theorem s_group (hK : 20000 ≤ K) (hp : PS B n gc gr lo) (hlo : lo ≤ op) (ho : op ≤ 60) (hN : NOk n N) (hn : N.length ≤ 21 * op) (hL : LX B n L) (h12 : L.2.2 = 12) (hC : SC B n L (cO c off) N xC) (hR : SR B n L c N op pt xR) :
    SimV B (Go B n off N op pt L.1) (f_G_group K gc (nI op) xC) (jm_bV (f_M_scan K gr xR) (fun x => jm_bV (gr 0 [.ref 0] x) (fun x => jm_bV (f_M_need_i K gr 17 x) (fun x => rV x)))) := by
  have hF := hL.facts
  obtain ⟨c1, -⟩ := c_take (K := K) (g := gc) hK hC hF.2.2.1 hF.2.1 (k := 12) (by omega) (a := 1012) rfl
  obtain ⟨y1, e1, s1⟩ := c1 h12
  obtain ⟨y2, e2, s2⟩ := r_scan (K := K) (g := gr) hK hR hF.2.1 (by omega) (by omega)
  have hgt := hL.gt (by omega) (by omega)
  simp only [f_G_group]
  rw [e1, e2, jm_bV_some, jm_bV_some]
  refine SimV.mono (s_inner hK hp hlo ho hN hn hL.next s1 s2 (k := 13) (by omega) (by omega) rfl (b := 17) (by decide)) ?_
  rintro yC yR ⟨L1, c1, q1, q2, q3⟩
  exact ⟨L1, c1, q1, by omega, q3⟩
end PC2

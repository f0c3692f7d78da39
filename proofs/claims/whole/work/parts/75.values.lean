/-! PURE, 26: values and entries, side by side. -/
section PI
variable {K : Nat} {gc gr : jm_Rec} {B : Nat → Fin 256} {n : Nat} {off : Nat → Int32} {N : List NE} {op pt s lo : Nat}
theorem s_value_L (hK : 20000 ≤ K) (hT : TS B n gc gr lo) (hlo : lo ≤ op) (ho : op ≤ 60) (hN : NOk n N) (hn : N.length ≤ 21 * op) (hn4 : n ≤ 16384) : ∀ (f q f' : Nat) (L : Nat × Nat × Nat) (c : Nat → Int32) (xC xR : jm_X), n - L.1 < f → n - L.1 < f' → q ≤ L.1 → s < L.1 → LX B n L → SC B n L (cO c off) N xC → SR B n L c N op pt xR →
    SimV B (Go B n off N op pt s) (L_G_value_7 K gc f (nI op) (nI q) xC) (L_M_entry_180 K gr f' xR)
  | 0, q, f', L, c, xC, xR, hf, _, _, _, _, _, _ => absurd hf (Nat.not_lt_zero _)
  | f + 1, q, 0, L, c, xC, xR, _, hf, _, _, _, _, _ => absurd hf (Nat.not_lt_zero _)
  | f + 1, q, f' + 1, L, c, xC, xR, hf, hf', hq, hs, hL, hC, hR => by
    have hF := hL.facts
    have hLn : L.1 ≤ n := Nat.le_trans hF.1 hF.2.1
    obtain ⟨r1, r2⟩ := r_skip_i (K := K) (g := gr) hK hR hF (a := 6) (k := 31) (tkU.of (by decide)) (by omega)
    simp only [L_G_value_7, B_G_value_7, J_G_value_44, L_M_entry_180, B_M_entry_180]
    rw [show (16385 : Int32) = nI 16385 from rfl, if_neg (nI_ge (by omega) (by omega)), c_is hC hF.2.2.1 (k := 31) (by omega) rfl, jm_bI_some, bI_ite]
    by_cases hz : L.2.2 = 31
    · obtain ⟨y1, e1, s1⟩ := c_takeAs (K := K) (g := gc) hK hC hF.2.1 (k := 16) (by omega) (a := 16) rfl
      rw [← cO_cnt] at s1
      obtain ⟨y2, e2, s2⟩ := r1 hz
      have hgt := hL.gt (by omega) (by omega)
      rw [if_pos (by rw [decide_eq_true hz]), e1, jm_bV_some, e2, jm_bI_some, if_neg (show ¬ ((1 : Int32) = 0) by decide), r_cnt_eq (k := 16) (a := 16) (by omega) rfl]
      refine SimV.bind (hT off N op pt _ _ y1 _ hlo ho hN hn hL.next s1 (r_cnt s2 16)) ?_
      rintro yC yR ⟨L1, c1, q1, q2, q3, q4⟩
      have hn1 : L1.1 ≤ n := Nat.le_trans q1.facts.1 q1.facts.2.1
      rw [nI_1]
      exact s_value_L hK hT hlo ho hN hn hn4 f (q + 1) f' L1 c1 yC yR (by omega) (by omega) (by omega) (by omega) q1 q3 q4
    · rw [if_neg (by rw [decide_eq_false hz]; exact Bool.false_ne_true), r2 hz, jm_bI_some, if_pos rfl]
      exact SimV.ok ⟨L, c, hL, hs, hC, hR⟩
variable {L : Nat × Nat × Nat} {c : Nat → Int32} {xC xR : jm_X}
/-- behind an entry's key: ':' and the value, or nothing -/
theorem s_entryEnd (hK : 20000 ≤ K) (hT : TS B n gc gr lo) (hlo : lo ≤ op) (ho : op ≤ 60) (hN : NOk n N) (hn : N.length ≤ 21 * op) (hL : LX B n L) (hs : s < L.1) (hC : SC B n L (cO c off) N xC) (hR : SR B n L c N op pt xR) (b1 b2 : Bool) :
    SimV B (Go B n off N op pt s) (J_G_entry_84 K gc (nI op) (bI b1) (bI b2) xC) (J_M_entry_134 K gr (bI b1) (bI b2) xR) := by
  have hF := hL.facts
  have hn4 := hC.1.2.2.2
  have u22 : tkU 22 10 := tkU.of (by decide)
  obtain ⟨n1, n2⟩ := c_need (K := K) (g := gc) hK hC hF.2.2.1 (k := 10) (by omega) (a := 1010) rfl
  obtain ⟨k1, k2⟩ := c_takes (K := K) (g := gc) hK hC hF.2.2.1 hF.2.1 (k := 10) (by omega) (a := 1010) rfl
  simp only [J_G_entry_84, J_G_entry_95, J_G_entry_123, J_M_entry_134, J_M_entry_171, bI_ite, f_G_value]
  rw [hR.2.1.2.2]
  by_cases hz : L.2.2 = 10
  · obtain ⟨y1, e1, s1⟩ := k1 hz
    obtain ⟨y2, e2, s2⟩ := r_scan (K := K) (g := gr) hK hR hF.2.1 (by omega) (by omega)
    have hgt := hL.gt (by omega) (by omega)
    rw [if_pos ((u22 _ hF.2.2.1).mpr hz), n1 hz, jm_bV_some, ite_self, e1, jm_bI_some, if_neg (show ¬ ((1 : Int32) = 0) by decide), e2, jm_bV_some]
    have key : SimV B (Go B n off N op pt s) (jm_bV (gc 1 [.ref 2, .int (nI op)] y1) (fun x1 => L_G_value_7 K gc K (nI op) 0 x1)) (jm_bV (gr 1 [.ref 0] y2) (fun x13 => L_M_entry_180 K gr K x13)) := by
      refine SimV.bind (hT off N op pt _ _ y1 _ hlo ho hN hn hL.next s1 s2) ?_
      rintro yC yR ⟨L1, c1, q1, q2, q3, q4⟩
      have hn1 : L1.1 ≤ n := Nat.le_trans q1.facts.1 q1.facts.2.1
      rw [← nI_0]
      exact s_value_L hK hT hlo ho hN hn hn4 K 0 K L1 c1 yC yR (by omega) (by omega) (by omega) (by omega) q1 q3 q4
    rcases key with ⟨vC, zC, vR, zR, e4, e5, rfl, rfl, hq⟩ | ⟨v, zC, zR, e4, e5, hb⟩
    · rw [e4, e5, jm_bV_some]; exact SimV.ok hq
    · rw [e4, e5, jm_bV_thr]; exact Or.inr ⟨v, zC, zR, rfl, rfl, hb⟩
  · rw [if_neg (fun z => hz ((u22 _ hF.2.2.1).mp z)), k2 hz]
    simp only [jm_bI_some, if_true]
    cases b1 with
    | true =>
      obtain ⟨y, e, hb⟩ := n2 hz
      obtain ⟨g1, g2⟩ := r_bad (K := K) (g := gr) hR (nI L.1)
      refine Sim.thr (v := nI L.1) ?_ ?_ hb g2
      · rw [if_pos rfl, e, jm_bV_thr]
      · rw [if_pos rfl, hR.2.1.1]; exact g1
    | false =>
      rw [if_neg Bool.false_ne_true, if_neg Bool.false_ne_true]
      cases b2 with
      | true =>
        obtain ⟨y, ey, sy⟩ := c_count (K := K) (g := gc) hC (k := 11) (by omega) (a := 11) rfl
        rw [← cO_cnt] at sy
        rw [if_pos rfl, if_pos rfl, ey, jm_bV_some, r_cnt_eq (k := 11) (a := 11) (by omega) rfl]
        exact SimV.ok ⟨L, _, hL, hs, sy, r_cnt hR 11⟩
      | false =>
        rw [if_neg Bool.false_ne_true, if_neg Bool.false_ne_true]
        exact SimV.ok ⟨L, c, hL, hs, hC, hR⟩
end PI

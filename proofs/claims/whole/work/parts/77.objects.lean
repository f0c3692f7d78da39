/-! PURE, 28: objects, side by side. -/
section PK
variable {K : Nat} {gc gr : jm_Rec} {B : Nat → Fin 256} {n : Nat} {off : Nat → Int32} {N : List NE} {op pt s lo : Nat}
theorem c_opened (hK : 20000 ≤ K) {L : Nat × Nat × Nat} {c : Nat → Int32} {x : jm_X} (hC : SC B n L c N x) {q : Nat} (hq : q < 2 ^ 31) : (q ≤ 60 → f_G_opened K gc (nI q) x = rI (nI q) x) ∧ (60 < q → ∃ y, f_G_opened K gc (nI q) x = some (.inr (UOE, y)) ∧ BrC B (nI L.1) y) := by
  simp only [f_G_opened, J_G_opened_17, f_S_start]
  rw [show (60 : Int32) = nI 60 from rfl]
  constructor
  · intro h; rw [if_pos (nI_le h (by omega))]
  · intro h
    obtain ⟨y, e, hb⟩ := c_broken (K := K) (g := gc) hK hC (nI L.1)
    exact ⟨y, by rw [if_neg (nI_ge h hq), jm_bI_some, hC.2.1.1, e, jm_bV_thr], hb⟩
/-- '}' -/
theorem s_curly (hK : 20000 ≤ K) {L : Nat × Nat × Nat} {c : Nat → Int32} {xC xR : jm_X} (hL : LX B n L) (hs : s ≤ L.1) (hC : SC B n L (cO c off) N xC) (hR : SR B n L c N (op + 1) pt xR) : SimV B (Go B n off N op pt s) (J_G_object_52 K gc xC) (J_M_object_48 K gr xR) := by
  simp only [J_G_object_52, J_M_object_48]
  refine SimV.bind (s_take hK hL hC hR (k := 17) (by omega) (by omega) rfl (b := 21) (by decide)) ?_
  rintro zC zR ⟨p1, -, p3, p4⟩
  simp only [jm_then]
  exact SimV.ok ⟨_, c, hL.next, by omega, p3, p4.setOp (by rw [p4.2.2.2.2.1.1, nI_pred])⟩
theorem s_object_L (hK : 20000 ≤ K) (hp : PS B n gc gr lo) (hT : TS B n gc gr lo) (hlo : lo ≤ op + 1) (ho : op + 1 ≤ 60) (hN : NOk n N) (hn : N.length ≤ 21 * (op + 1)) (hn4 : n ≤ 16384) : ∀ (f q f' : Nat) (L : Nat × Nat × Nat) (c : Nat → Int32) (xC xR : jm_X), n - L.1 < f → n - L.1 < f' → q + 1 ≤ L.1 → s ≤ L.1 → LX B n L → SC B n L (cO c off) N xC → SR B n L c N (op + 1) pt xR →
    SimV B (Go B n off N op pt s) (if 16385 ≤ (nI q + 1) then J_G_object_52 K gc xC else jm_bI (f_G_takes K gc 1032 xC) (fun b8 x7 => (if b8 = 0 then J_G_object_52 K gc x7 else L_G_object_27 K gc f (nI (op + 1)) (nI q + 1) x7))) (L_M_object_32 K gr f' xR)
  | 0, q, f', L, c, xC, xR, hf, _, _, _, _, _, _ => absurd hf (Nat.not_lt_zero _)
  | f + 1, q, 0, L, c, xC, xR, _, hf, _, _, _, _, _ => absurd hf (Nat.not_lt_zero _)
  | f + 1, q, f' + 1, L, c, xC, xR, hf, hf', hq, hs, hL, hC, hR => by
    have hF := hL.facts
    have hLn : L.1 ≤ n := Nat.le_trans hF.1 hF.2.1
    obtain ⟨k1, k2⟩ := c_takes (K := K) (g := gc) hK hC hF.2.2.1 hF.2.1 (k := 32) (by omega) (a := 1032) rfl
    obtain ⟨r1, r2⟩ := r_skip_i (K := K) (g := gr) hK hR hF (a := 7) (k := 32) (tkU.of (by decide)) (by omega)
    simp only [L_G_object_27, B_G_object_27, L_M_object_32, B_M_object_32]
    rw [nI_1, show (16385 : Int32) = nI 16385 from rfl, if_neg (nI_ge (by omega) (by omega))]
    by_cases hz : L.2.2 = 32
    · obtain ⟨y1, e1, s1⟩ := k1 hz
      obtain ⟨y2, e2, s2⟩ := r1 hz
      have hgt := hL.gt (by omega) (by omega)
      rw [e1, e2, jm_bI_some, jm_bI_some, if_neg (show ¬ ((1 : Int32) = 0) by decide), if_neg (show ¬ ((1 : Int32) = 0) by decide)]
      refine SimV.bind (s_entry hK hp hT hlo ho hN hn hL.next s1 s2) ?_
      rintro zC zR ⟨L2, c2, q1, q2, q3, q4⟩
      have hn2 : L2.1 ≤ n := Nat.le_trans q1.facts.1 q1.facts.2.1
      exact s_object_L hK hp hT hlo ho hN hn hn4 f (q + 1) f' L2 c2 zC zR (by omega) (by omega) (by omega) (by omega) q1 q3 q4
    · rw [k2 hz, r2 hz, jm_bI_some, jm_bI_some, if_pos rfl, if_pos rfl]
      exact s_curly hK hL hs hC hR
theorem s_object (hK : 20000 ≤ K) (hp : PS B n gc gr lo) (hT : TS B n gc gr (lo + 1)) (hlo : lo ≤ op) (ho : op ≤ 60) (hN : NOk n N) (hn : N.length ≤ 21 * op) {L : Nat × Nat × Nat} {c : Nat → Int32} {xC xR : jm_X} (hL : LX B n L) (h16 : L.2.2 = 16) (hC : SC B n L (cO c off) N xC) (hR : SR B n L c N op pt xR) :
    SimV B (Go B n off N op pt L.1) (f_G_object K gc (nI op) xC) (f_M_object K gr xR) := by
  have hF := hL.facts
  have hp1 : PS B n gc gr (lo + 1) := fun off N op pt L c xC xR h1 => hp off N op pt L c xC xR (by omega)
  have hn4 := hC.1.2.2.2
  obtain ⟨o1, o2⟩ := c_opened (K := K) (gc := gc) hK hC (q := op + 1) (by omega)
  obtain ⟨r1, r2⟩ := r_enter (K := K) (g := gr) (r_cnt hR 10) ho
  simp only [f_G_object, f_M_object]
  rw [nI_1, r_cnt_eq (k := 10) (a := 10) (by omega) rfl]
  by_cases h60 : op = 60
  · obtain ⟨y1, e1, b1⟩ := o2 (by omega)
    obtain ⟨y2, e2, b2⟩ := r1 h60
    refine Sim.thr (v := nI L.1) ?_ ?_ b1 b2
    · rw [e1, jm_bI_thr]
    · rw [e2, jm_bV_thr]
  · obtain ⟨y2, e2, t2⟩ := r2 h60
    obtain ⟨y3, e3, t3⟩ := r_scan (K := K) (g := gr) hK t2 hF.2.1 (by omega) (by omega)
    obtain ⟨y4, e4, s4⟩ := c_takeAs (K := K) (g := gc) hK hC hF.2.1 (k := 10) (by omega) (a := 10) rfl
    rw [← cO_cnt] at s4
    have hL1 := hL.next
    have hF1 := hL1.facts
    have hgt := hL.gt (by omega) (by omega)
    have hLn : (lexB B n L.2.1).1 ≤ n := Nat.le_trans hF1.1 hF1.2.1
    obtain ⟨k1, k2⟩ := c_takes (K := K) (g := gc) hK s4 hF1.2.2.1 hF1.2.1 (k := 17) (by omega) (a := 1017) rfl
    have u21 : tkU 21 17 := tkU.of (by decide)
    rw [o1 (by omega), jm_bI_some, e4, jm_bV_some, e2, jm_bV_some, e3, jm_bV_some, t3.2.1.2.2]
    by_cases hz : (lexB B n L.2.1).2.2 = 17
    · obtain ⟨y5, e5, s5⟩ := k1 hz
      obtain ⟨m1, -⟩ := r_need_i (K := K) (g := gr) hK t3 hF1 (a := 21) (k := 17) u21 (by omega)
      obtain ⟨y6, e6, t6⟩ := m1 hz
      have hgt1 := hL1.gt (by omega) (by omega)
      rw [e5, jm_bI_some, if_neg (show ¬ ((1 : Int32) = 0) by decide), if_pos ((u21 _ hF1.2.2.1).mpr hz)]
      simp only [J_M_object_48, jm_then]
      rw [e6, jm_bV_some]
      exact SimV.ok ⟨_, _, hL1.next, by omega, s5, t6.setOp (by rw [t6.2.2.2.2.1.1, nI_pred])⟩
    · rw [k2 hz, jm_bI_some, if_pos rfl, if_neg (fun z => hz ((u21 _ hF1.2.2.1).mp z))]
      cases K with
      | zero => omega
      | succ K =>
      rw [← nI_0]
      rw [L_G_object_27, B_G_object_27]
      refine SimV.bind (s_entry hK hp1 hT (by omega) (by omega) hN (by omega) hL1 s4 t3) ?_
      rintro zC zR ⟨L2, c2, q1, q2, q3, q4⟩
      have hn2 : L2.1 ≤ n := Nat.le_trans q1.facts.1 q1.facts.2.1
      exact s_object_L hK hp1 hT (by omega) (by omega) hN (by omega) hn4 K 0 (K + 1) L2 c2 zC zR (by omega) (by omega) (by omega) (by omega) q1 q3 q4
end PK

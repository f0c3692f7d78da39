/-! PURE, 34: bindings and folds, side by side. -/
/-- what is asked of term at op -/
def TF (K : Nat) (B : Nat → Fin 256) (n : Nat) (gc gr : jm_Rec) (op : Nat) : Prop := ∀ (off : Nat → Int32) (N : List NE) (pt : Nat) (L : Nat × Nat × Nat) (c : Nat → Int32) (xC xR : jm_X), NOk n N → N.length ≤ 21 * op → LX B n L → SC B n L (cO c off) N xC → SR B n L c N op pt xR →
  SimV B (Go B n off N op pt L.1) (f_G_term K gc (nI op) xC) (f_M_term K gr xR)
theorem hidN_back {N A : List NE} (hA : ∀ e ∈ A, e.1 = 2) : hidN (hidN (N ++ A) N.length 4) N.length 2 = N ++ A := by
  apply List.ext_getElem?
  intro j
  rw [hidN_get, hidN_get]
  cases hj : (N ++ A)[j]? with
  | none => rfl
  | some e =>
    simp only [Option.map_some, Option.some.injEq]
    by_cases hz : N.length ≤ j
    · have he : e ∈ A := by
        rw [List.getElem?_append_right hz] at hj
        exact List.mem_of_getElem? hj
      have := hA e he
      simp only [hz, if_true]
      rw [← this]
    · simp only [hz, if_false]
theorem hidN_mem {N : List NE} {m a : Nat} {e : NE} (h : e ∈ hidN N m a) : ∃ e0 ∈ N, e.2 = e0.2 ∧ (e.1 = a ∨ e.1 = e0.1) := by
  obtain ⟨j, hj⟩ := List.mem_iff_getElem?.mp h
  rw [hidN_get] at hj
  cases h0 : N[j]? with
  | none => rw [h0] at hj; cases hj
  | some e0 =>
    rw [h0] at hj
    simp only [Option.map_some, Option.some.injEq] at hj
    refine ⟨e0, List.mem_of_getElem? h0, ?_⟩
    subst hj
    by_cases hz : m ≤ j
    · simp only [hz, if_true]; exact ⟨trivial, Or.inl trivial⟩
    · simp only [hz, if_false]; exact ⟨trivial, Or.inr trivial⟩
theorem NOk.hid {n : Nat} {N : List NE} (h : NOk n N) {m a : Nat} (ha : a < 5) : NOk n (hidN N m a) := by
  refine ⟨by rw [hidN_len]; exact h.1, ?_⟩
  intro e he
  obtain ⟨e0, h0, h1, h2⟩ := hidN_mem he
  have := h.2 e0 h0
  refine ⟨?_, ?_⟩
  · rcases h2 with z | z <;> omega
  · rw [h1]; exact this.2
theorem vrs_app {N A : List NE} (hA : ∀ e ∈ A, e.1 = 2) : vrs (N ++ A) N.length := by
  intro j e hj he
  rw [List.getElem?_append_right hj] at he
  exact Or.inl (hA e (List.mem_of_getElem? he))
theorem vrs_hid {N : List NE} {m a : Nat} (ha : a = 2 ∨ a = 4) : vrs (hidN N m a) m := by
  intro j e hj he
  rw [hidN_get] at he
  cases h0 : N[j]? with
  | none => rw [h0] at he; cases he
  | some e0 =>
    rw [h0] at he
    simp only [Option.map_some, Option.some.injEq, hj, if_true] at he
    subst he
    exact ha
section PQ
variable {K : Nat} {gc gr : jm_Rec} {B : Nat → Fin 256} {n : Nat} {off : Nat → Int32} {N : List NE} {op pt s lo : Nat} {L : Nat × Nat × Nat} {c : Nat → Int32} {xC xR : jm_X}
theorem SimI.map {Q Q' : Int32 → jm_X → jm_X → Prop} {rC rR : Option jm_R} {f : jm_X → jm_X} (h : SimI B Q rC rR) (k : ∀ a xC xR, Q a xC xR → Q' a xC (f xR)) : SimI B Q' rC (jm_bV rR (fun x => rV (f x))) := by
  rcases h with ⟨vC, xC, vR, xR, e1, e2, a, rfl, rfl, hq⟩ | ⟨v, xC, xR, e1, e2, h⟩
  · refine Or.inl ⟨_, xC, none, f xR, e1, ?_, a, rfl, rfl, k _ _ _ hq⟩
    rw [e2, jm_bV_some]
  · refine Or.inr ⟨v, xC, xR, e1, ?_, h⟩
    rw [e2, jm_bV_thr]
/-- a PATTERN from its first sign -/
theorem s_whole (hK : 20000 ≤ K) (hP : PS B n gc gr lo) (hq : QS B n gc gr lo) (hlo : lo ≤ op + 1) (ho : op ≤ 60) (hN : NOk n N) (hn : N.length + 21 ≤ 21 * op) (hL : LX B n L) (hC : SC B n L (cO c off) N xC) (hR : SR B n L c N op pt xR) :
    SimI B (fun _ yC yR => ∃ A : List NE, A.length ≤ 10 ∧ (∀ e ∈ A, e.1 = 2) ∧ NOk n (N ++ A) ∧ Go B n off (N ++ A) op pt L.1 yC yR) (f_G_pattern K gc (nI op) 0 xC) (f_M_whole K gr xR) := by
  simp only [f_M_whole, jm_then]
  rw [← nI_0]
  refine SimI.map (f := fun x2 => (va_up x2.1 21 (xR.1 21), x2.2)) (s_pattern hK hP hq hlo ho hN (by omega) (by omega) hL hC (hR.setPt (q := 0) rfl)) ?_
  rintro a yC yR ⟨A, q, -, h2, h3, h4, h5, L1, c1, q1, q2, q3, q4⟩
  exact ⟨A, by omega, h4, h5, L1, c1, q1, q2, q3, q4.setPt (by rw [hR.2.2.2.2.1.2])⟩
/-- TERM as PATTERN | P, from its 'as' -/
theorem s_bind (hK : 20000 ≤ K) (hP : PS B n gc gr lo) (hq : QS B n gc gr lo) (hlo : lo ≤ op) (ho : op ≤ 60) (hN : NOk n N) (hn : N.length + 21 ≤ 21 * op) (hL : LX B n L) (h18 : L.2.2 = 18) (hC : SC B n L (cO c off) N xC) {yR : jm_X} (hR : SR B n (lexB B n L.2.1) c N op pt yR) :
    SimV B (Go B n off N op pt L.1) (f_G_bind K gc (nI op) xC) (jm_bV (f_M_whole K gr (cR yR 26)) (fun x16 => jm_bV (f_M_need_i K gr 6 x16) (fun x17 => jm_bV (gr 0 [.ref 0] x17) (fun x18 => rV (va_up x18.1 15 ((cR yR 26).1 15), x18.2))))) := by
  have hF := hL.facts
  have hgt := hL.gt (by omega) (by omega)
  obtain ⟨y1, e1, s1⟩ := c_takeAs (K := K) (g := gc) hK hC hF.2.1 (k := 26) (by omega) (a := 26) rfl
  rw [← cO_cnt] at s1
  have t1 := r_cnt hR 26
  simp only [f_G_bind]
  rw [c_size hC, jm_bI_some, e1, jm_bV_some, t1.2.2.2.1.1]
  refine SimI.bind (s_whole hK hP hq (by omega) ho hN hn hL.next s1 t1) ?_
  rintro a zC zR ⟨A, h1, h2, h3, L2, c2, q1, q2, q3, q4⟩
  refine SimV.bind (s_take hK q1 q3 q4 (k := 31) (by omega) (by omega) rfl (b := 6) (by decide)) ?_
  rintro wC wR ⟨p1, -, p3, p4⟩
  refine SimV.bind (hP off (N ++ A) op pt _ c2 wC wR hlo ho h3 (by rw [List.length_append]; omega) q1.next p3 p4) ?_
  rintro vC vR ⟨-, L3, c3, g1, g2, g3, g4⟩
  have hm : N.length ≤ (N ++ A).length := by rw [List.length_append]; omega
  obtain ⟨y5, e5, s5⟩ := c_forgetFrom (K := K) (g := gc) g3 h3.1 hm rfl
  have t5 := g4.take hm (a := nI N.length) rfl
  rw [List.take_left] at s5 t5
  rw [e5, jm_bV_some]
  exact SimV.ok ⟨L3, c3, g1, by omega, s5, t5⟩
/-- take against need, while the names differ -/
theorem s_take2 {N' : List NE} (hK : 20000 ≤ K) (hL : LX B n L) (hC : SC B n L (cO c off) N xC) (hR : SR B n L c N' op pt xR) {k : Nat} (hk : k < 55) (h01 : k ≠ 0 ∧ k ≠ 1) {a : Nat} (ha : a = 1000 + k) {b : Int32} (hu : tkUb b k = true) :
    SimV B (fun yC yR => L.1 < (lexB B n L.2.1).1 ∧ L.2.2 = k ∧ SC B n (lexB B n L.2.1) (cO c off) N yC ∧ SR B n (lexB B n L.2.1) c N' op pt yR) (f_G_take K gc a xC) (f_M_need_i K gr b xR) := by
  have hF := hL.facts
  obtain ⟨c1, c2⟩ := c_take (K := K) (g := gc) hK hC hF.2.2.1 hF.2.1 hk ha
  obtain ⟨r1, r2⟩ := r_need_i (K := K) (g := gr) hK hR hF (tkU.of hu) h01
  by_cases hz : L.2.2 = k
  · obtain ⟨y1, e1, s1⟩ := c1 hz
    obtain ⟨y2, e2, s2⟩ := r1 hz
    rw [e1, e2]
    exact SimV.ok ⟨hL.gt (by rw [hz]; exact h01.1) (by rw [hz]; exact h01.2), hz, s1, s2⟩
  · obtain ⟨y1, e1, s1⟩ := c2 hz
    obtain ⟨y2, e2, s2⟩ := r2 hz
    exact Sim.thr e1 e2 s1 s2
/-- ')' of a fold -/
theorem s_foldEnd {A : List NE} (hK : 20000 ≤ K) (hN : NOk n (N ++ A)) (hL : LX B n L) (hs : s ≤ L.1) (hC : SC B n L (cO c off) (N ++ A) xC) (hR : SR B n L c (N ++ A) op pt xR) : SimV B (Go B n off N op pt s) (J_G_fold_97 K gc (nI N.length) xC) (J_M_folded_99 K gr (nI N.length) xR) := by
  simp only [J_G_fold_97, J_M_folded_99, jm_then]
  refine SimV.bind (s_take hK hL hC hR (k := 13) (by omega) (by omega) rfl (b := 17) (by decide)) ?_
  rintro wC wR ⟨p1, -, p3, p4⟩
  have hm : N.length ≤ (N ++ A).length := by rw [List.length_append]; omega
  obtain ⟨y5, e5, s5⟩ := c_forgetFrom (K := K) (g := gc) p3 hN.1 hm rfl
  have t5 := p4.take hm (a := nI N.length) rfl
  rw [List.take_left] at s5 t5
  rw [e5, jm_bV_some]
  exact SimV.ok ⟨_, c, hL.next, by omega, s5, t5⟩
/-- what is behind the TERM of reduce and foreach -/
theorem s_fold (hK : 20000 ≤ K) (hP : PS B n gc gr lo) (hq : QS B n gc gr lo) (hlo : lo ≤ op) (ho : op ≤ 60) (hN : NOk n N) (hn : N.length + 21 ≤ 21 * op) (hL : LX B n L) (hC : SC B n L (cO c off) N xC) (hR : SR B n L c N op pt xR) (b : Bool) :
    SimV B (Go B n off N op pt L.1) (f_G_fold K gc (nI op) (bI b) xC) (jm_bV (f_M_need_s K gr 2004 xR) (fun x6 => jm_bV (f_M_whole K gr x6) (fun x7 => jm_bV (f_M_need_i K gr 16 x7) (fun x8 => jm_bV (f_M_hide K gr (x6.1 15) 1 x8) (fun x9 => jm_bV (gr 0 [.ref 0] x9) (fun x10 => jm_bV (f_M_need_i K gr 23 x10) (fun x11 => jm_bV (f_M_hide K gr (x6.1 15) 0 x11) (fun x12 => jm_bV (gr 0 [.ref 0] x12) (fun x13 => (if bI b = 0 then J_M_folded_99 K gr (x6.1 15) x13 else jm_bI (f_M_skip_i K gr 23 x13) (fun b15 x14 => (if b15 = 0 then J_M_folded_99 K gr (x6.1 15) x14 else jm_bV (gr 0 [.ref 0] x14) (fun x16 => J_M_folded_99 K gr (x6.1 15) x16))))))))))))) := by
  simp only [f_G_fold]
  rw [c_size hC, jm_bI_some]
  refine SimV.bind (s_takeW hK hL hC hR (j := 4) (by omega) (by omega) rfl rfl) ?_
  rintro yC yR ⟨p1, -, p3, p4⟩
  rw [p4.2.2.2.1.1]
  refine SimI.bind (s_whole hK hP hq (by omega) ho hN hn hL.next p3 p4) ?_
  rintro a zC zR ⟨A, h1, h2, h3, L2, c2, q1, q2, q3, q4⟩
  have hm : N.length ≤ (N ++ A).length := by rw [List.length_append]; omega
  have hl : (N ++ A).length ≤ 21 * op := by rw [List.length_append]; omega
  rw [c_size q3, jm_bI_some]
  refine SimV.bind (s_take hK q1 q3 q4 (k := 12) (by omega) (by omega) rfl (b := 16) (by decide)) ?_
  rintro wC wR ⟨p5, -, p6, p7⟩
  obtain ⟨y1, e1, s1⟩ := c_setSorts (K := K) (g := gc) hK p6 h3.1 hm (a := 4) (s := -1) rfl rfl rfl
  obtain ⟨y2, e2, t2⟩ := r_hide (K := K) (g := gr) hK p7 h3.1 hm (vrs_app h2) (a := 4) (Or.inr rfl) (s := 1) rfl rfl
  rw [e1, e2, jm_bV_some, jm_bV_some]
  have hN4 : NOk n (hidN (N ++ A) N.length 4) := h3.hid (by omega)
  refine SimV.bind (hP off _ op pt _ c2 y1 y2 hlo ho hN4 (by rw [hidN_len]; exact hl) q1.next s1 t2) ?_
  rintro vC vR ⟨-, L3, c3, g1, g2, g3, g4⟩
  have hm4 : N.length ≤ (hidN (N ++ A) N.length 4).length := by rw [hidN_len]; exact hm
  obtain ⟨y3, e3, s3⟩ := c_setSorts (K := K) (g := gc) (w := nI (N ++ A).length) hK g3 hN4.1 hm4 (a := 2) (s := -2) rfl (by rw [hidN_len]) rfl
  rw [hidN_back h2] at s3
  rw [e3, jm_bV_some]
  refine SimV.bind (s_take2 hK g1 s3 g4 (k := 11) (by omega) (by omega) rfl (b := 23) (by decide)) ?_
  rintro uC uR ⟨p8, -, p9, pa⟩
  obtain ⟨y4, e4, t4⟩ := r_hide (K := K) (g := gr) hK pa hN4.1 hm4 (vrs_hid (Or.inr rfl)) (a := 2) (Or.inl rfl) (s := 0) rfl rfl
  rw [hidN_back h2] at t4
  rw [e4, jm_bV_some]
  refine SimV.bind (hP off _ op pt _ c3 uC y4 hlo ho h3 hl g1.next p9 t4) ?_
  rintro sC sR ⟨-, L5, c5, k1, k2, k3, k4⟩
  cases b with
  | false =>
    rw [if_pos (show bI false = 0 from rfl), if_pos (show bI false = 0 from rfl)]
    exact s_foldEnd hK h3 k1 (by omega) k3 k4
  | true =>
    have hF5 := k1.facts
    rw [if_neg (show ¬ (bI true = 0) by decide), if_neg (show ¬ (bI true = 0) by decide)]
    obtain ⟨m1, m2⟩ := c_takes (K := K) (g := gc) hK k3 hF5.2.2.1 hF5.2.1 (k := 11) (by omega) (a := 1011) rfl
    obtain ⟨r1, r2⟩ := r_skip_i (K := K) (g := gr) hK k4 hF5 (a := 23) (k := 11) (tkU.of (by decide)) (by omega)
    by_cases hz : L5.2.2 = 11
    · obtain ⟨y6, e6, s6⟩ := m1 hz
      obtain ⟨y7, e7, s7⟩ := r1 hz
      have hgt5 := k1.gt (by omega) (by omega)
      rw [e6, e7, jm_bI_some, jm_bI_some, if_neg (show ¬ ((1 : Int32) = 0) by decide), if_neg (show ¬ ((1 : Int32) = 0) by decide)]
      refine SimV.bind (hP off _ op pt _ c5 y6 y7 hlo ho h3 hl k1.next s6 s7) ?_
      rintro oC oR ⟨-, L6, c6, m3, m4, m5, m6⟩
      exact s_foldEnd hK h3 m3 (by omega) m5 m6
    · rw [m2 hz, r2 hz, jm_bI_some, jm_bI_some, if_pos rfl, if_pos rfl]
      exact s_foldEnd hK h3 k1 (by omega) k3 k4
end PQ

/-! PURE, 20: strings, side by side. -/
/-- what waits on the reference's side within a string, q programs in -/
def offq (off : Nat → Int32) (q : Nat) : Nat → Int32 := fun i => off i + (if i = 7 then nI q else if i = 8 ∧ 0 < q then 1 else 0)
theorem offq_0 (off : Nat → Int32) : offq off 0 = off := by
  funext i
  simp only [offq, Nat.lt_irrefl, and_false, if_false, nI_0, ite_self, Int32.add_zero]
theorem offq_s (off : Nat → Int32) (q : Nat) (hq : 0 < q) : cnt (offq off q) 7 = offq off (q + 1) := by
  funext i
  simp only [cnt, offq, upd]
  by_cases h7 : i = 7
  · subst h7; simp only [if_true]; rw [Int32.add_assoc, nI_1]
  · simp only [h7, if_false, hq, Nat.succ_pos, and_true, Nat.zero_lt_succ]
theorem offq_1 (off : Nat → Int32) : cnt (cnt (offq off 0) 7) 8 = offq off 1 := by
  rw [offq_0]
  funext i
  simp only [cnt, offq, upd]
  by_cases h7 : i = 7
  · subst h7; simp only [if_true, show ¬ ((7 : Nat) = 8) by decide, if_false]; rfl
  · by_cases h8 : i = 8
    · subst h8; simp only [if_true, show ¬ ((8 : Nat) = 7) by decide, if_false]; rfl
    · simp only [h7, h8, if_false, false_and, Int32.add_zero]
/-- what the reference counts at the string's end -/
def cEnd (c : Nat → Int32) (q : Nat) : Nat → Int32 := fun i => c i + (if i = 7 then nI (q + 1) else if i = 8 ∧ 0 < q then 1 else 0)
theorem cEnd_ok (c off : Nat → Int32) (q : Nat) : cnt (cO c (offq off q)) 7 = cO (cEnd c q) off := by
  funext i
  simp only [cnt, cO, offq, cEnd, upd]
  by_cases h7 : i = 7
  · subst h7; simp only [if_true]
    rw [← nI_1, Int32.add_assoc, Int32.add_assoc, Int32.add_assoc, Int32.add_comm (off 7)]
  · simp only [h7, if_false]
    rw [Int32.add_assoc, Int32.add_comm (off i)]
theorem SR.setC {B : Nat → Fin 256} {n : Nat} {L : Nat × Nat × Nat} {c : Nat → Int32} {N : List NE} {op pt : Nat} {x : jm_X} (h : SR B n L c N op pt x) (c' : Nat → Int32) : SR B n L c' N op pt (x.1, x.2.1, va_up x.2.2 4 c') := by
  obtain ⟨h1, h2, h3, h4, h5, h6, h7⟩ := h
  refine ⟨⟨h1.1, ?_, h1.2.2⟩, h2, va_up_self x.2.2 4 c', ⟨h4.1, ?_⟩, h5, h6, h7⟩
  · simp [va_up, h1.2.1]
  · intro i e he
    have := h4.2 i e he
    simp [va_up, this]
theorem pcE_fuel {B : Nat → Fin 256} {n : Nat} : ∀ (f f' i : Nat), n - i < f → n - i < f' → i ≤ n → pcE B n f i = pcE B n f' i
  | 0, f', i, h, _, _ => absurd h (Nat.not_lt_zero _)
  | f + 1, 0, i, _, h, _ => absurd h (Nat.not_lt_zero _)
  | f + 1, f' + 1, i, h1, h2, hi => by
    simp only [pcE]
    by_cases h0 : i < n
    · by_cases h3 : chS B n i = 0
      · simp only [h3, if_true]
      · have := chS_le h3
        simp only [h3, if_false, pcE_fuel f f' (i + chS B n i) (by omega) (by omega) this]
    · simp only [h0, if_false]
section PB2
variable {K : Nat} {gc gr : jm_Rec} {B : Nat → Fin 256} {n : Nat} {off : Nat → Int32} {N : List NE} {op pt s lo : Nat}
theorem s_string_L (hK : 20000 ≤ K) (hp : PS B n gc gr lo) (hlo : lo ≤ op) (ho : op ≤ 60) (hN : NOk n N) (hn : N.length ≤ 21 * op) (hn4 : n ≤ 16384) : ∀ (f q i f' : Nat) (L : Nat × Nat × Nat) (c : Nat → Int32) (xC xR : jm_X), n - i < f → n - i < f' → q ≤ i → i ≤ n → s < i → LX B n L → SC B n L (cO c (offq off q)) N xC → SR B n L c N op pt xR →
    SimV B (Go B n off N op pt s) (L_G_string_15 K gc f (nI op) (nI s) (nI i) (nI q) xC) (L_M_string_13 K gr f' 1 (nI s) (nI i) (nI q) xR)
  | 0, q, i, f', L, c, xC, xR, hf, _, _, _, _, _, _, _ => absurd hf (Nat.not_lt_zero _)
  | f + 1, q, i, f', L, c, xC, xR, hf, hf', hq, hi, hs, hL, hC, hR => by
    have hF := hL.facts
    have hpc := pcE_fuel (B := B) (n := n) K f' i (by omega) hf' hi
    obtain ⟨rp1, rp2⟩ := r_piece_L (K := K) (g := gr) hK hR.1 1 (nI s) (nI q) f' i hf' hi
    simp only [L_G_string_15, B_G_string_15]
    rw [show (16385 : Int32) = nI 16385 from rfl, if_neg (nI_ge (by omega) (by omega)), c_piece hK hC.1 hi, jm_bI_some, hpc]
    cases hz : pcE B n f' i with
    | none =>
      obtain ⟨y, e, hb⟩ := c_broken (K := K) (g := gc) hK hC (nI s)
      obtain ⟨-, b2⟩ := r_bad (K := K) (g := gr) hR (nI s)
      refine Sim.thr (v := nI s) ?_ (rp1 hz) hb b2
      rw [show pcI none = -1 from rfl, if_neg (by decide), e, jm_bV_thr]
    | some j =>
      obtain ⟨j1, j2, j3⟩ := pcE_facts _ _ _ hz
      obtain ⟨f2, hf2, e2⟩ := rp2 j hz
      rw [e2]
      rw [show pcI (some j) = nI j from rfl, if_pos (nI_pos' (show j < 2 ^ 31 by omega))]
      obtain ⟨y1, ec1, s1⟩ := c_count (K := K) (g := gc) hC (k := 7) (by omega) (a := 7) rfl
      simp only [J_G_string_43, J_G_string_84]
      rw [ec1, jm_bV_some, c_opens s1.1 (by omega), jm_bI_some, bI_ite]
      cases f2 with
      | zero => omega
      | succ f2 =>
      simp only [L_M_string_13, B_M_string_13, J_M_string_239, J_M_string_269]
      rw [v_M_look_in hR.1 j2, jm_bI_some]
      have e34 : (sB (B j) = 34) = ((B j).val = 34) := sB_eq (B j) ⟨34, by omega⟩
      by_cases h34 : (B j).val = 34
      · have hop : ¬ opn B n j = true := by simp [opn, h34]
        obtain ⟨y2, ec2, s2⟩ := c_goTo (K := K) (g := gc) hK s1 (p := j + 1) (by omega) (a := nI j + 1) (nI_1 j)
        obtain ⟨z1, er1, t1⟩ := r_scanAt (K := K) (g := gr) hK hR (p := j + 1) (by omega) (a := nI j + 1) (nI_1 j)
        rw [if_neg hop, ec2, jm_bV_some]
        simp only [e34, if_pos h34, jm_then]
        rw [er1, jm_bV_some]
        have h7 : jm_in shR 4 .int 7 = true := by decide
        have h8 : jm_in shR 4 .int 8 = true := by decide
        simp only [h7, h8, if_true]
        rw [cEnd_ok] at s2
        have hend : ∀ w : jm_X, w = (z1.1, z1.2.1, va_up z1.2.2 4 (cEnd c q)) → SimV B (Go B n off N op pt s) (rV y2) (rV w) := by
          intro w hw
          subst hw
          exact SimV.ok ⟨_, cEnd c q, ⟨j + 1, by omega, rfl⟩, Nat.lt_of_lt_of_le (by omega) (lexB_ge B n (j + 1)), s2, t1.setC _⟩
        by_cases hq0 : q = 0
        · rw [if_pos (by rw [hq0]; decide)]
          apply hend
          subst hq0
          simp only [jm_ua, Prod.mk.injEq, true_and]
          congr 1
          funext k
          rw [t1.2.2.1]
          simp only [cEnd, upd, show (7 : Int32).toNatClampNeg = 7 from rfl, Nat.lt_irrefl, and_false, if_false]
          by_cases h7 : k = 7
          · subst h7; simp only [if_true]; rfl
          · simp only [h7, if_false, Int32.add_zero]
        · rw [if_neg (nI_nle (by omega) (by omega))]
          apply hend
          simp only [jm_ua, Prod.mk.injEq, true_and, pu_up2]
          congr 1
          funext k
          rw [va_up_self, t1.2.2.1]
          simp only [cEnd, upd, show (7 : Int32).toNatClampNeg = 7 from rfl, show (8 : Int32).toNatClampNeg = 8 from rfl]
          by_cases h7 : k = 7
          · subst h7; simp only [if_true, show ¬ ((7 : Nat) = 8) by decide, if_false]; rw [nI_1]
          · by_cases h8 : k = 8
            · subst h8; simp only [if_true, show ¬ ((8 : Nat) = 7) by decide, if_false, show 0 < q by omega, and_self]
            · simp only [h7, h8, if_false, false_and, Int32.add_zero]
      · have hop : opn B n j = true := j3.resolve_left h34
        have hop2 := hop
        simp only [opn, Bool.and_eq_true, decide_eq_true_eq] at hop2
        obtain ⟨g1, g2, g3⟩ := hop2
        have e92 : (sB (B j) = 92) = ((B j).val = 92) := sB_eq (B j) ⟨92, by omega⟩
        have e40 : (sB (B (j + 1)) = 40) = ((B (j + 1)).val = 40) := sB_eq (B (j + 1)) ⟨40, by omega⟩
        rw [if_pos hop]
        -- the class: counted, and at the program's first sign
        have hcl : ∃ y2, (if nI q = 0 then jm_bV (f_G_count K gc 8 y1) (fun x10 => jm_bV (f_S_goTo K gc (nI j + 2) x10) (fun x11 => jm_bV (gc 0 [.ref 2, .int (nI op)] x11) (fun x12 => jm_bV (f_G_need K gc 1013 x12) (fun x13 => jm_bI (f_S_behind K gc x13) (fun b15 x14 => L_G_string_15 K gc f (nI op) (nI s) b15 (nI q + 1) x14))))) else jm_bV (f_S_goTo K gc (nI j + 2) y1) (fun x11 => jm_bV (gc 0 [.ref 2, .int (nI op)] x11) (fun x12 => jm_bV (f_G_need K gc 1013 x12) (fun x13 => jm_bI (f_S_behind K gc x13) (fun b15 x14 => L_G_string_15 K gc f (nI op) (nI s) b15 (nI q + 1) x14))))) = jm_bV (gc 0 [.ref 2, .int (nI op)] y2) (fun x12 => jm_bV (f_G_need K gc 1013 x12) (fun x13 => jm_bI (f_S_behind K gc x13) (fun b15 x14 => L_G_string_15 K gc f (nI op) (nI s) b15 (nI q + 1) x14))) ∧ SC B n (lexB B n (j + 2)) (cO c (offq off (q + 1))) N y2 := by
          by_cases hq0 : q = 0
          · subst hq0
            obtain ⟨y3, e3, s3⟩ := c_count (K := K) (g := gc) s1 (k := 8) (by omega) (a := 8) rfl
            obtain ⟨y2, e4, s4⟩ := c_goTo (K := K) (g := gc) hK s3 (p := j + 2) (by omega) (a := nI j + 2) (nI_add j 2)
            refine ⟨y2, ?_, ?_⟩
            · rw [if_pos nI_0, e3, jm_bV_some, e4, jm_bV_some]
            · rw [← cO_cnt2, ← cO_cnt2, offq_1] at s4; exact s4
          · obtain ⟨y2, e4, s4⟩ := c_goTo (K := K) (g := gc) hK s1 (p := j + 2) (by omega) (a := nI j + 2) (nI_add j 2)
            refine ⟨y2, ?_, ?_⟩
            · rw [if_neg (nI_ne0 (by omega) (by omega)), e4, jm_bV_some]
            · rw [← cO_cnt2, offq_s _ _ (by omega)] at s4; exact s4
        obtain ⟨y2, ecl, s2⟩ := hcl
        obtain ⟨z1, er1, t1⟩ := r_scanAt (K := K) (g := gr) hK hR (p := j + 2) (by omega) (a := nI (j + 1 + 1)) rfl
        rw [ecl]
        simp only [e34, if_neg h34, jm_then]
        rw [v_M_look_in hR.1 j2, jm_bI_some, hR.1.1, if_neg (nI_ge j2 (by omega)), if_neg (fun z => by have := (sB_lt32 (B j)).mp (Or.inl z); omega), if_pos (by
          by_cases hq2 : sB (B j) ≤ 126
          · exact hq2
          · have := (sB_lt32 (B j)).mp (Or.inr hq2); omega), if_pos (by rw [e92]; exact g2)]
        simp only [nI_1]
        rw [v_M_look_in hR.1 g1, jm_bI_some, if_pos (by rw [e40]; exact g3), if_neg (by decide), er1, jm_bV_some]
        have hL2 : LX B n (lexB B n (j + 2)) := ⟨j + 2, by omega, rfl⟩
        have hge := lexB_ge B n (j + 2)
        refine SimV.bind (hp (offq off (q + 1)) N op pt _ c y2 z1 hlo ho hN hn hL2 s2 t1) ?_
        rintro wC wR ⟨-, L3, c3, q1, q2, q3, q4⟩
        have hF3 := q1.facts
        obtain ⟨n1, n2⟩ := c_need (K := K) (g := gc) hK q3 hF3.2.2.1 (k := 13) (by omega) (a := 1013) rfl
        have hu : tkU 17 13 := tkU.of (by decide)
        by_cases h13 : L3.2.2 = 13
        · have hg := hF3.2.2.2.1 (by omega) (by omega)
          rw [n1 h13, jm_bV_some, q4.2.1.2.2, if_pos ((hu _ hF3.2.2.1).mpr h13), q4.2.1.2.1 (by omega) (by omega)]
          simp only [f_S_behind, jm_bI_some, q3.2.1.2.1, nI_1]
          exact s_string_L hK hp hlo ho hN hn hn4 f (q + 1) L3.2.1 f2 L3 c3 wC wR (by omega) (by omega) (by omega) hF3.2.1 (by omega) q1 q3 q4
        · obtain ⟨y, e, hb⟩ := n2 h13
          obtain ⟨b1, b2⟩ := r_bad (K := K) (g := gr) q4 (nI L3.1)
          refine Sim.thr (v := nI L3.1) ?_ ?_ hb b2
          · rw [e, jm_bV_thr]
          · rw [q4.2.1.2.2, if_neg (fun z => h13 ((hu _ hF3.2.2.1).mp z)), q4.2.1.1]; exact b1
end PB2

/-! THE START, 2: what is said of the constants holds. -/
theorem st_sg : ∀ i, i < 55 → stA[i]? = some ("FilterReader$Sign", sg_nm.getD i "", "LFilterReader$Sign;", .ref (1000 + i)) := by decide +kernel
theorem st_ot : stA[55]? = some ("FilterReader$Sign", "ALL", "[LFilterReader$Sign;", .ref 900) ∧ stA[56]? = some ("FilterReader$1", "$SwitchMap$FilterReader$Sign", "[I", .ref 901) ∧ stA[57]? = some ("java/lang/String", "COMPACT_STRINGS", "Z", .int 1) ∧ stA.length = 58 := by decide +kernel
theorem sr_at : ∀ i, i < 73 → srA[i]? = some (srA.getD i ("", 0, "", 0)) := by decide +kernel
theorem sr_len : srA.length = 73 := by decide +kernel
/-- object numbers and the terms that name them -/
def tmA (k : Nat) : Term := if k < 950 then (if k = 900 then tmL else tmW) else if k < 2000 then tmG (k - 1000) else if k < 3000 then tmS (k - 2000) else tmB (k - 3000)
theorem tmA_G {i : Nat} (hi : i < 55) : tmA (1000 + i) = tmG i := by
  unfold tmA
  rw [if_neg (by omega), if_pos (by omega), Nat.add_sub_cancel_left]
theorem tmA_S {i : Nat} (hi : i < 73) : tmA (2000 + i) = tmS i := by
  unfold tmA
  rw [if_neg (by omega), if_neg (by omega), if_pos (by omega), Nat.add_sub_cancel_left]
theorem tmA_B {i : Nat} (_ : i < 73) : tmA (3000 + i) = tmB i := by
  unfold tmA
  rw [if_neg (by omega), if_neg (by omega), if_neg (by omega), Nat.add_sub_cancel_left]
/-- a reference's address -/
def adV : Option Value → Nat
  | some (.ref a) => a
  | _ => 0
theorem adV_of {o : Option Value} {a : Nat} (h : o = some (.ref a)) : o = some (.ref (adV o)) := by rw [h]; rfl
theorem sg_start {b : Nat} {s : State} (hgv : (Jvm.Cond.and given_1 narrow_1).before #[Value.ref b] s = true) (hts : ∀ w ∈ lw_tbl, w.before #[Value.ref b] s = true) :
    ∃ cad : Nat → Nat, sgA cad s.heap.size s s.heap ∧ ∀ i j, i < 55 → j < 55 → cad (1000 + i) = cad (1000 + j) → i = j := by
  have hA : ∀ a : Nat, a < s.heap.size → ¬ (fun z => s.heap.size ≤ z) a := fun a h => Nat.not_le.mpr h
  have nar : ∀ {i : Nat} {w : Cond}, nrw[i]? = some w → w.before #[Value.ref b] s = true := fun h => flat_of_before _ hgv _ (List.mem_of_getElem? h)
  have tab : ∀ {i : Nat} {w : Cond}, tables_1[i]? = some w → w.before #[Value.ref b] s = true := fun h => hts _ (List.mem_append_right _ (List.mem_of_getElem? h))
  have hZ := va_Zqof (A := fun z => s.heap.size ≤ z) (tab nr_ot.2.2.2.1) (tab nr_ot.2.2.2.2) (nar nr_cs.2.2.2) hA
  obtain ⟨a9, h9⟩ : ∃ a9 : Nat, va_Z "jdk/internal/util/Preconditions" "SIOOBE_FORMATTER" "Ljava/util/function/BiFunction;" .null (fun z => s.heap.size ≤ z) s s.heap ∨ va_Z "jdk/internal/util/Preconditions" "SIOOBE_FORMATTER" "Ljava/util/function/BiFunction;" (.ref a9) (fun z => s.heap.size ≤ z) s s.heap := by
    rcases hZ with h | ⟨t, h⟩
    · exact ⟨0, Or.inl h⟩
    · exact ⟨t, Or.inr h⟩
  obtain ⟨cad, hcad⟩ : ∃ cad : Nat → Nat, cad = fun k => if k = 950 then a9 else adV ((tmA k).eval #[Value.ref b] s none [] s) := ⟨_, rfl⟩
  have c950 : cad 950 = a9 := by rw [hcad]; rfl
  have cne : ∀ k, k ≠ 950 → cad k = adV ((tmA k).eval #[Value.ref b] s none [] s) := fun k hk => by rw [hcad]; simp only [hk, if_false]
  -- the terms' values
  have eG : ∀ i, i < 55 → (tmG i).eval #[Value.ref b] s none [] s = some (.ref (cad (1000 + i))) := by
    intro i hi
    obtain ⟨a, c, cA, kA, q1, -⟩ := Cond.exactly_spec (args := #[Value.ref b]) (first := s) (o := none) (s := s) (idx := []) (nar (nr_ex i hi))
    rw [cne _ (by omega), tmA_G hi]
    exact adV_of q1
  have eS : ∀ i, i < 73 → (tmS i).eval #[Value.ref b] s none [] s = some (.ref (cad (2000 + i))) := by
    intro i hi
    obtain ⟨a, c, cA, kA, q1, -⟩ := Cond.exactly_spec (args := #[Value.ref b]) (first := s) (o := none) (s := s) (idx := []) (nar (nr_sx i hi))
    rw [cne _ (by omega), tmA_S hi]
    exact adV_of q1
  have tB : ∀ i, i < 73 → (tmB i).eval #[Value.ref b] s none [] s = some (.ref (cad (3000 + i))) ∧ va_T .byte (cad (3000 + i)) (st_b.getD i []).length (fun j => .int ((st_b.getD i []).getD j 0)) (fun z => s.heap.size ≤ z) s s.heap := by
    intro i hi
    obtain ⟨t, q1, q2⟩ := va_Tof (f := fun j => .int ((st_b.getD i []).getD j 0)) (A := fun z => s.heap.size ≤ z) (nr_sl i hi).2 (nar (nr_sa i hi)) (va_eqt (nar (nr_sl i hi).1)) (fun j hj => va_eqt (nar (nr_se i hi j hj))) hA
    have e1 : cad (3000 + i) = t := by rw [cne _ (by omega), tmA_B hi, q1]; rfl
    rw [e1]
    exact ⟨q1, q2⟩
  have tL : tmL.eval #[Value.ref b] s none [] s = some (.ref (cad 900)) ∧ va_T (.object "FilterReader$Sign") (cad 900) 55 (fun j => .ref (cad (1000 + j))) (fun z => s.heap.size ≤ z) s s.heap := by
    obtain ⟨t, q1, q2⟩ := va_Tof (f := fun j => .ref (cad (1000 + j))) (A := fun z => s.heap.size ≤ z) (by decide) (nar nr_al.1) (va_eqt (nar nr_al.2.1)) (fun j hj => va_eqv (nar (nr_al.2.2 j hj)) (eG j hj)) hA
    have e1 : cad 900 = t := by rw [cne _ (by decide), show tmA 900 = tmL from rfl, q1]; rfl
    rw [e1]
    exact ⟨q1, q2⟩
  have tW : tmW.eval #[Value.ref b] s none [] s = some (.ref (cad 901)) ∧ va_T .int (cad 901) 55 (fun j => .int (sg_swm.getD j 0)) (fun z => s.heap.size ≤ z) s s.heap := by
    obtain ⟨t, q1, q2⟩ := va_Tof (f := fun j => .int (sg_swm.getD j 0)) (A := fun z => s.heap.size ≤ z) (by decide) (nar nr_sw.1) (va_eqt (nar nr_sw.2.1)) (fun j hj => va_eqt (nar (nr_sw.2.2 j hj))) hA
    have e1 : cad 901 = t := by rw [cne _ (by decide), show tmA 901 = tmW from rfl, q1]; rfl
    rw [e1]
    exact ⟨q1, q2⟩
  have hor : ∀ i, i < 55 → va_OF "java/lang/Enum" "ordinal" "I" (.int (Int32.ofNat i)) (cad (1000 + i)) (fun z => s.heap.size ≤ z) s s.heap := fun i hi => vk_OFof (eG i hi) (va_eqt (nar (nr_or i hi))) hA
  refine ⟨cad, ⟨?_, ?_, hor, ?_, ?_, ?_, ?_, ?_, ?_, ?_, ?_, ?_, fun i hi => (tB i hi).2, ?_, ?_, ?_, ?_⟩, ?_⟩
  · intro q hq
    obtain ⟨i, hi⟩ := List.mem_iff_getElem?.mp hq
    have hi58 : i < 58 := by
      have := (List.getElem?_eq_some_iff.mp hi).1
      rw [st_ot.2.2.2] at this; exact this
    obtain ⟨w1, w2⟩ := nr_ly i hi58 q hi
    refine va_Zof (tab w1) (tab w2) ?_ hA
    by_cases h55 : i < 55
    · rw [st_sg i h55] at hi
      cases hi
      exact eG i h55
    · have : i = 55 ∨ i = 56 ∨ i = 57 := by omega
      rcases this with rfl | rfl | rfl
      · rw [st_ot.1] at hi; cases hi; exact tL.1
      · rw [st_ot.2.1] at hi; cases hi; exact tW.1
      · rw [st_ot.2.2.1] at hi; cases hi; exact va_eqt (nar nr_cs.1)
  · intro i hi; exact va_Oof (nar (nr_ex i hi)) (eG i hi) hA
  · intro i hi; exact vk_OFof (eG i hi) (va_eqv (nar (nr_tx i hi).1) (eS _ (nr_tx i hi).2)) hA
  · intro i hi; exact vk_OFof (eG i hi) (va_eqt (nar (nr_wd i hi))) hA
  · intro i hi; exact vk_OFof (eG i hi) (va_eqt (nar (nr_lv i hi))) hA
  · intro i hi; exact vk_OFof (eG i hi) (va_eqt (nar (nr_kd i hi))) hA
  · intro i hi
    rw [show i = 0 by omega]
    exact tL.2
  · intro i hi
    rw [show i = 0 by omega]
    exact tW.2
  · intro i hi; exact va_Oof (nar (nr_sx i hi)) (eS i hi) hA
  · intro i hi; exact vk_OFof (eS i hi) (va_eqt (nar (nr_sc i hi))) hA
  · intro i hi; exact vk_OFof (eS i hi) (tB i hi).1 hA
  · intro q hq
    obtain ⟨i, hi⟩ := List.mem_iff_getElem?.mp hq
    have hi73 : i < 73 := by
      have := (List.getElem?_eq_some_iff.mp hi).1
      rw [sr_len] at this; exact this
    rw [sr_at i hi73] at hi
    cases hi
    rw [(nr_sr i hi73).2]
    exact vk_R.of (tab (nr_sr i hi73).1) (eS i hi73)
  · exact vx_Zqof (tab nr_ot.1) (tab nr_ot.2.2.1) (nar nr_cs.2.1) hA
  · exact vx_Zqof (tab nr_ot.2.1) (tab nr_ot.2.2.1) (nar nr_cs.2.2.1) hA
  · rw [c950]; exact h9
  · intro i j hi hj he
    obtain ⟨cf, k, fi, f, cell, h1, h2, h3, h4, h5, -⟩ := hor i hi
    obtain ⟨cf', k', fi', f', cell', h1', h2', h3', h4', h5', -⟩ := hor j hj
    rw [h1] at h1'
    cases h1'
    rw [he, h3'] at h3
    cases h3
    rw [h5] at h5'
    have h6 := (Value.int.inj (Option.some.inj h5'))
    exact (nI_eq (by omega) (by omega)).mp h6

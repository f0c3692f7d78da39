/-! CONSTRUCTORS, 2: of the class. Printed by wip/whole/printK.py. -/

set_option maxRecDepth 100000 in
set_option maxHeartbeats 4000000 in
theorem k_Names {l : Launch} {D : va_G} {ad : Nat → Nat} {b0 : Nat} (hok : jm_Ok (P0x l D ad b0)) (h0 : Nat) : MetFree l ⟨"FilterReader$Names", "<init>", "()V"⟩ (headSpec [.code ⟨"FilterReader$Names", "<init>", "()V"⟩ prog_7_method_1_code 1 none] ({ frames := 2, cells := 5, slots := 5600, locals := 100 })) (jc_Pre l D ad b0 h0 (.inr (3, [.null, .null, .null, .null, .null, .int 0]))) (fun _ _ _ _ _ => True) (jc_Post (fun u t => ∃ (q1 q2 q3 q4 q5 : Nat) (c1 c2 c3 c4 c5 : ClassId), va_P D clA [(h0, .inr (3, [.ref q1, .ref q2, .ref q3, .ref q4, .ref q5, .int 0])), (q1, .inl (c1, 1400, .inl (fun _ => 0))), (q2, .inl (c2, 1400, .inl (fun _ => 0))), (q3, .inl (c3, 1400, .inl (fun _ => 0))), (q4, .inl (c4, 1400, .inl (fun _ => 0))), (q5, .inl (c5, 0, .inl (fun _ => 0)))] t.heap ∧ va_D (va_A [(h0, .inr (3, [.null, .null, .null, .null, .null, .int 0]))] u.heap.size) [(h0, .inr (3, [.ref q1, .ref q2, .ref q3, .ref q4, .ref q5, .int 0])), (q1, .inl (c1, 1400, .inl (fun _ => 0))), (q2, .inl (c2, 1400, .inl (fun _ => 0))), (q3, .inl (c3, 1400, .inl (fun _ => 0))), (q4, .inl (c4, 1400, .inl (fun _ => 0))), (q5, .inl (c5, 0, .inl (fun _ => 0)))] ∧ va_K D clA [(c1, .int), (c2, .int), (c3, .int), (c4, .int), (c5, .byte)] u) [(h0, .inr (3, [.null, .null, .null, .null, .null, .int 0]))] 5 5600) := by
  refine jc_con (plainFor_of_name (by decide +kernel)) ?_
  intro p e s m args below meth c la hx hb hml hr hlocks hin hown hG hP0 hb0 hAO hl
  have hts : ∀ w ∈ Tall, w.before args s = true := fun w hw => hG.1 w hw args
  have hK : va_K D clA [] s := hG.2.2.2.1
  obtain ⟨A, hAe⟩ : ∃ A, A = va_A [(h0, .inr (3, [.null, .null, .null, .null, .null, .int 0]))] s.heap.size := ⟨_, rfl⟩
  rw [← hAe]
  have hA : ∀ q : Nat, s.heap.size ≤ q → A q := fun q h => by rw [hAe]; exact Or.inr h
  have hAb : ∀ q : Nat, A q → b0 ≤ q := fun q h => by
    rw [hAe] at h
    rcases h with ⟨k, e', h⟩ | h
    · match k, h with
      | 0, h => cases h; exact hb0
      | k + 1, h => simp at h
    · exact Nat.le_trans hG.2.2.2.2.2.1 h
  have hS : va_S A s.heap s.heap [] := va_S.rf
  have hP : va_P D clA [(h0, .inr (3, [.null, .null, .null, .null, .null, .int 0]))] s.heap := hP0
  have hD : va_D A [(h0, .inr (3, [.null, .null, .null, .null, .null, .int 0]))] := by
    refine ⟨fun i j p q hi hj _ => ?_, fun k q hk => ?_⟩
    · match i, j, hi, hj with
      | 0, 0, _, _ => rfl
      | 0, j + 1, _, hj => simp at hj
      | i + 1, _, hi, _ => simp at hi
    · match k, hk with
      | 0, hk => cases hk; rw [hAe]; exact Or.inl ⟨0, _, rfl⟩
      | k + 1, hk => simp at hk
  refine lv_aload_n hx hb (show decode prog_7_method_1_code 0 = .ok (.aload_n 0, 1) by decide +kernel) rfl (lv_at hl 0 rfl) ?_
  refine W.objInit hx hb hown (hts _ (tw1 70 rfl rfl)) (hts _ (tw1 31 rfl rfl)) (hts _ (tw1 32 rfl rfl)) rfl (by show la.size = _; rw [hl.1, hml]) rfl (show decode prog_7_method_1_code 1 = .ok (.invokespecial 1, 3) by decide +kernel) (Nat.le_of_ble_eq_true rfl) (Nat.le_of_ble_eq_true rfl) ?_
  refine W.eq (g2 := F0 m 4 la []) rfl ?_
  refine lv_aload_n hx hb (show decode prog_7_method_1_code 4 = .ok (.aload_n 0, 1) by decide +kernel) rfl (lv_at hl 0 rfl) ?_
  refine lv_sipush (v := 1400) hx hb (show decode prog_7_method_1_code 5 = .ok (.sipush 1400, 3) by decide +kernel) (by decide) ?_
  refine va_newa (atype := .int) (ty := .int) (a0 := (1400, .inl (fun _ => 0))) (N' := 1400) hx hb (hts _ (tw1 64 rfl rfl)) rfl hK hP hD hS hA (fun cA => rfl) (by decide) rfl (by decide) (Nat.le_of_ble_eq_true rfl) (Nat.le_of_ble_eq_true rfl) (show decode prog_7_method_1_code 8 = .ok (.newarray .int, 2) by decide +kernel) (fun q1 c1 H hK hP hD hS => ?_)
  have hP : va_P D clA [(h0, .inr (3, [.null, .null, .null, .null, .null, .int 0])), (q1, .inl (c1, 1400, .inl (fun _ => 0)))] H := hP
  have hD : va_D A [(h0, .inr (3, [.null, .null, .null, .null, .null, .int 0])), (q1, .inl (c1, 1400, .inl (fun _ => 0)))] := hD
  have hK : va_K D clA [(c1, .int)] s := hK
  refine va_putF (D := D) (ci := 3) (v := .ref q1) (ty := (.array .int)) (C := "FilterReader$Names") (T := T_N) (N := 6) hx hb hts wi_N ty_N tk_N_ty tk_N_nm hown hK hP hD hS 0 rfl rfl 0 (by decide) (hts _ (tw1 71 rfl rfl)) (fun _ h9 => h9) rfl hin rfl (by decide +kernel) rfl rfl (Nat.le_of_ble_eq_true rfl) (show decode prog_7_method_1_code 10 = .ok (.putfield 9, 3) by decide +kernel) (fun H locs hP hD hS => ?_)
  have hP : va_P D clA [(h0, .inr (3, [.ref q1, .null, .null, .null, .null, .int 0])), (q1, .inl (c1, 1400, .inl (fun _ => 0)))] H := hP
  have hD : va_D A [(h0, .inr (3, [.ref q1, .null, .null, .null, .null, .int 0])), (q1, .inl (c1, 1400, .inl (fun _ => 0)))] := hD
  refine lv_aload_n hx hb (show decode prog_7_method_1_code 13 = .ok (.aload_n 0, 1) by decide +kernel) rfl (lv_at hl 0 rfl) ?_
  refine lv_sipush (v := 1400) hx hb (show decode prog_7_method_1_code 14 = .ok (.sipush 1400, 3) by decide +kernel) (by decide) ?_
  refine va_newa (atype := .int) (ty := .int) (a0 := (1400, .inl (fun _ => 0))) (N' := 1400) hx hb (hts _ (tw1 64 rfl rfl)) rfl hK hP hD hS hA (fun cA => rfl) (by decide) rfl (by decide) (Nat.le_of_ble_eq_true rfl) (Nat.le_of_ble_eq_true rfl) (show decode prog_7_method_1_code 17 = .ok (.newarray .int, 2) by decide +kernel) (fun q2 c2 H hK hP hD hS => ?_)
  have hP : va_P D clA [(h0, .inr (3, [.ref q1, .null, .null, .null, .null, .int 0])), (q1, .inl (c1, 1400, .inl (fun _ => 0))), (q2, .inl (c2, 1400, .inl (fun _ => 0)))] H := hP
  have hD : va_D A [(h0, .inr (3, [.ref q1, .null, .null, .null, .null, .int 0])), (q1, .inl (c1, 1400, .inl (fun _ => 0))), (q2, .inl (c2, 1400, .inl (fun _ => 0)))] := hD
  have hK : va_K D clA [(c1, .int), (c2, .int)] s := hK
  refine va_putF (D := D) (ci := 3) (v := .ref q2) (ty := (.array .int)) (C := "FilterReader$Names") (T := T_N) (N := 6) hx hb hts wi_N ty_N tk_N_ty tk_N_nm hown hK hP hD hS 0 rfl rfl 1 (by decide) (hts _ (tw1 72 rfl rfl)) (fun _ h9 => h9) rfl hin rfl (by decide +kernel) rfl rfl (Nat.le_of_ble_eq_true rfl) (show decode prog_7_method_1_code 19 = .ok (.putfield 13, 3) by decide +kernel) (fun H locs hP hD hS => ?_)
  have hP : va_P D clA [(h0, .inr (3, [.ref q1, .ref q2, .null, .null, .null, .int 0])), (q1, .inl (c1, 1400, .inl (fun _ => 0))), (q2, .inl (c2, 1400, .inl (fun _ => 0)))] H := hP
  have hD : va_D A [(h0, .inr (3, [.ref q1, .ref q2, .null, .null, .null, .int 0])), (q1, .inl (c1, 1400, .inl (fun _ => 0))), (q2, .inl (c2, 1400, .inl (fun _ => 0)))] := hD
  refine lv_aload_n hx hb (show decode prog_7_method_1_code 22 = .ok (.aload_n 0, 1) by decide +kernel) rfl (lv_at hl 0 rfl) ?_
  refine lv_sipush (v := 1400) hx hb (show decode prog_7_method_1_code 23 = .ok (.sipush 1400, 3) by decide +kernel) (by decide) ?_
  refine va_newa (atype := .int) (ty := .int) (a0 := (1400, .inl (fun _ => 0))) (N' := 1400) hx hb (hts _ (tw1 64 rfl rfl)) rfl hK hP hD hS hA (fun cA => rfl) (by decide) rfl (by decide) (Nat.le_of_ble_eq_true rfl) (Nat.le_of_ble_eq_true rfl) (show decode prog_7_method_1_code 26 = .ok (.newarray .int, 2) by decide +kernel) (fun q3 c3 H hK hP hD hS => ?_)
  have hP : va_P D clA [(h0, .inr (3, [.ref q1, .ref q2, .null, .null, .null, .int 0])), (q1, .inl (c1, 1400, .inl (fun _ => 0))), (q2, .inl (c2, 1400, .inl (fun _ => 0))), (q3, .inl (c3, 1400, .inl (fun _ => 0)))] H := hP
  have hD : va_D A [(h0, .inr (3, [.ref q1, .ref q2, .null, .null, .null, .int 0])), (q1, .inl (c1, 1400, .inl (fun _ => 0))), (q2, .inl (c2, 1400, .inl (fun _ => 0))), (q3, .inl (c3, 1400, .inl (fun _ => 0)))] := hD
  have hK : va_K D clA [(c1, .int), (c2, .int), (c3, .int)] s := hK
  refine va_putF (D := D) (ci := 3) (v := .ref q3) (ty := (.array .int)) (C := "FilterReader$Names") (T := T_N) (N := 6) hx hb hts wi_N ty_N tk_N_ty tk_N_nm hown hK hP hD hS 0 rfl rfl 2 (by decide) (hts _ (tw1 73 rfl rfl)) (fun _ h9 => h9) rfl hin rfl (by decide +kernel) rfl rfl (Nat.le_of_ble_eq_true rfl) (show decode prog_7_method_1_code 28 = .ok (.putfield 16, 3) by decide +kernel) (fun H locs hP hD hS => ?_)
  have hP : va_P D clA [(h0, .inr (3, [.ref q1, .ref q2, .ref q3, .null, .null, .int 0])), (q1, .inl (c1, 1400, .inl (fun _ => 0))), (q2, .inl (c2, 1400, .inl (fun _ => 0))), (q3, .inl (c3, 1400, .inl (fun _ => 0)))] H := hP
  have hD : va_D A [(h0, .inr (3, [.ref q1, .ref q2, .ref q3, .null, .null, .int 0])), (q1, .inl (c1, 1400, .inl (fun _ => 0))), (q2, .inl (c2, 1400, .inl (fun _ => 0))), (q3, .inl (c3, 1400, .inl (fun _ => 0)))] := hD
  refine lv_aload_n hx hb (show decode prog_7_method_1_code 31 = .ok (.aload_n 0, 1) by decide +kernel) rfl (lv_at hl 0 rfl) ?_
  refine lv_sipush (v := 1400) hx hb (show decode prog_7_method_1_code 32 = .ok (.sipush 1400, 3) by decide +kernel) (by decide) ?_
  refine va_newa (atype := .int) (ty := .int) (a0 := (1400, .inl (fun _ => 0))) (N' := 1400) hx hb (hts _ (tw1 64 rfl rfl)) rfl hK hP hD hS hA (fun cA => rfl) (by decide) rfl (by decide) (Nat.le_of_ble_eq_true rfl) (Nat.le_of_ble_eq_true rfl) (show decode prog_7_method_1_code 35 = .ok (.newarray .int, 2) by decide +kernel) (fun q4 c4 H hK hP hD hS => ?_)
  have hP : va_P D clA [(h0, .inr (3, [.ref q1, .ref q2, .ref q3, .null, .null, .int 0])), (q1, .inl (c1, 1400, .inl (fun _ => 0))), (q2, .inl (c2, 1400, .inl (fun _ => 0))), (q3, .inl (c3, 1400, .inl (fun _ => 0))), (q4, .inl (c4, 1400, .inl (fun _ => 0)))] H := hP
  have hD : va_D A [(h0, .inr (3, [.ref q1, .ref q2, .ref q3, .null, .null, .int 0])), (q1, .inl (c1, 1400, .inl (fun _ => 0))), (q2, .inl (c2, 1400, .inl (fun _ => 0))), (q3, .inl (c3, 1400, .inl (fun _ => 0))), (q4, .inl (c4, 1400, .inl (fun _ => 0)))] := hD
  have hK : va_K D clA [(c1, .int), (c2, .int), (c3, .int), (c4, .int)] s := hK
  refine va_putF (D := D) (ci := 3) (v := .ref q4) (ty := (.array .int)) (C := "FilterReader$Names") (T := T_N) (N := 6) hx hb hts wi_N ty_N tk_N_ty tk_N_nm hown hK hP hD hS 0 rfl rfl 3 (by decide) (hts _ (tw1 74 rfl rfl)) (fun _ h9 => h9) rfl hin rfl (by decide +kernel) rfl rfl (Nat.le_of_ble_eq_true rfl) (show decode prog_7_method_1_code 37 = .ok (.putfield 19, 3) by decide +kernel) (fun H locs hP hD hS => ?_)
  have hP : va_P D clA [(h0, .inr (3, [.ref q1, .ref q2, .ref q3, .ref q4, .null, .int 0])), (q1, .inl (c1, 1400, .inl (fun _ => 0))), (q2, .inl (c2, 1400, .inl (fun _ => 0))), (q3, .inl (c3, 1400, .inl (fun _ => 0))), (q4, .inl (c4, 1400, .inl (fun _ => 0)))] H := hP
  have hD : va_D A [(h0, .inr (3, [.ref q1, .ref q2, .ref q3, .ref q4, .null, .int 0])), (q1, .inl (c1, 1400, .inl (fun _ => 0))), (q2, .inl (c2, 1400, .inl (fun _ => 0))), (q3, .inl (c3, 1400, .inl (fun _ => 0))), (q4, .inl (c4, 1400, .inl (fun _ => 0)))] := hD
  refine lv_aload_n hx hb (show decode prog_7_method_1_code 40 = .ok (.aload_n 0, 1) by decide +kernel) rfl (lv_at hl 0 rfl) ?_
  refine lv_iconst (v := 0) hx hb (show decode prog_7_method_1_code 41 = .ok (.iconst 0, 1) by decide +kernel) (by decide) ?_
  refine va_newa (atype := .byte) (ty := .byte) (a0 := (0, .inl (fun _ => 0))) (N' := 0) hx hb (hts _ (tw1 63 rfl rfl)) rfl hK hP hD hS hA (fun cA => rfl) (by decide) rfl (by decide) (Nat.le_of_ble_eq_true rfl) (Nat.le_of_ble_eq_true rfl) (show decode prog_7_method_1_code 42 = .ok (.newarray .byte, 2) by decide +kernel) (fun q5 c5 H hK hP hD hS => ?_)
  have hP : va_P D clA [(h0, .inr (3, [.ref q1, .ref q2, .ref q3, .ref q4, .null, .int 0])), (q1, .inl (c1, 1400, .inl (fun _ => 0))), (q2, .inl (c2, 1400, .inl (fun _ => 0))), (q3, .inl (c3, 1400, .inl (fun _ => 0))), (q4, .inl (c4, 1400, .inl (fun _ => 0))), (q5, .inl (c5, 0, .inl (fun _ => 0)))] H := hP
  have hD : va_D A [(h0, .inr (3, [.ref q1, .ref q2, .ref q3, .ref q4, .null, .int 0])), (q1, .inl (c1, 1400, .inl (fun _ => 0))), (q2, .inl (c2, 1400, .inl (fun _ => 0))), (q3, .inl (c3, 1400, .inl (fun _ => 0))), (q4, .inl (c4, 1400, .inl (fun _ => 0))), (q5, .inl (c5, 0, .inl (fun _ => 0)))] := hD
  have hK : va_K D clA [(c1, .int), (c2, .int), (c3, .int), (c4, .int), (c5, .byte)] s := hK
  refine va_put (D := D) (ci := 3) (v := .ref q5) (ty := (.array .byte)) (C := "FilterReader$Names") (T := T_N) (N := 6) hx hb hts wi_N ty_N tk_N_ty tk_N_nm hown hK hP hD hS 0 rfl rfl 4 (by decide) (hts _ (tw1 75 rfl rfl)) (fun _ h9 => h9) rfl (by decide +kernel) rfl rfl (Nat.le_of_ble_eq_true rfl) (show decode prog_7_method_1_code 44 = .ok (.putfield 22, 3) by decide +kernel) (fun H locs hP hD hS => ?_)
  have hP : va_P D clA [(h0, .inr (3, [.ref q1, .ref q2, .ref q3, .ref q4, .ref q5, .int 0])), (q1, .inl (c1, 1400, .inl (fun _ => 0))), (q2, .inl (c2, 1400, .inl (fun _ => 0))), (q3, .inl (c3, 1400, .inl (fun _ => 0))), (q4, .inl (c4, 1400, .inl (fun _ => 0))), (q5, .inl (c5, 0, .inl (fun _ => 0)))] H := hP
  have hD : va_D A [(h0, .inr (3, [.ref q1, .ref q2, .ref q3, .ref q4, .ref q5, .int 0])), (q1, .inl (c1, 1400, .inl (fun _ => 0))), (q2, .inl (c2, 1400, .inl (fun _ => 0))), (q3, .inl (c3, 1400, .inl (fun _ => 0))), (q4, .inl (c4, 1400, .inl (fun _ => 0))), (q5, .inl (c5, 0, .inl (fun _ => 0)))] := hD
  refine W.widen (k := 5) (n := 5600) (Nat.le_of_ble_eq_true rfl) (Nat.le_of_ble_eq_true rfl) ?_
  exact W.vret hx hb hr (fun t ht hW => ⟨rfl, ⟨q1, q2, q3, q4, q5, c1, c2, c3, c4, c5, by rw [ht]; exact hP, by rw [hAe] at hD; exact hD, hK⟩, by rw [hAe] at hS; exact hS.F ht⟩) hS.2.2 (show decode prog_7_method_1_code 47 = .ok (.return_, 1) by decide +kernel)

set_option maxRecDepth 100000 in
set_option maxHeartbeats 4000000 in
theorem k_Signs {l : Launch} {D : va_G} {ad : Nat → Nat} {b0 : Nat} (hok : jm_Ok (P0x l D ad b0)) (h0 : Nat) : MetFree l ⟨"FilterReader$Signs", "<init>", "()V"⟩ (headSpec [.code ⟨"FilterReader$Signs", "<init>", "()V"⟩ prog_9_method_1_code 1 none] ({ frames := 2, cells := 1, slots := 0, locals := 100 })) (jc_Pre l D ad b0 h0 (.inr (2, [.null, .int 0, .int 0, .int 0, .null]))) (fun _ _ _ _ _ => True) (jc_Post (fun u t => ∃ (q1 : Nat) (c1 : ClassId), va_P D clA [(h0, .inr (2, [.ref q1, .int 0, .int 0, .int 0, .ref (ad 1000)])), (q1, .inl (c1, 0, .inl (fun _ => 0)))] t.heap ∧ va_D (va_A [(h0, .inr (2, [.null, .int 0, .int 0, .int 0, .null]))] u.heap.size) [(h0, .inr (2, [.ref q1, .int 0, .int 0, .int 0, .ref (ad 1000)])), (q1, .inl (c1, 0, .inl (fun _ => 0)))] ∧ va_K D clA [(c1, .byte)] u) [(h0, .inr (2, [.null, .int 0, .int 0, .int 0, .null]))] 1 0) := by
  refine jc_con (plainFor_of_name (by decide +kernel)) ?_
  intro p e s m args below meth c la hx hb hml hr hlocks hin hown hG hP0 hb0 hAO hl
  have hts : ∀ w ∈ Tall, w.before args s = true := fun w hw => hG.1 w hw args
  have hK : va_K D clA [] s := hG.2.2.2.1
  obtain ⟨A, hAe⟩ : ∃ A, A = va_A [(h0, .inr (2, [.null, .int 0, .int 0, .int 0, .null]))] s.heap.size := ⟨_, rfl⟩
  rw [← hAe]
  have hA : ∀ q : Nat, s.heap.size ≤ q → A q := fun q h => by rw [hAe]; exact Or.inr h
  have hAb : ∀ q : Nat, A q → b0 ≤ q := fun q h => by
    rw [hAe] at h
    rcases h with ⟨k, e', h⟩ | h
    · match k, h with
      | 0, h => cases h; exact hb0
      | k + 1, h => simp at h
    · exact Nat.le_trans hG.2.2.2.2.2.1 h
  have hS : va_S A s.heap s.heap [] := va_S.rf
  have hP : va_P D clA [(h0, .inr (2, [.null, .int 0, .int 0, .int 0, .null]))] s.heap := hP0
  have hD : va_D A [(h0, .inr (2, [.null, .int 0, .int 0, .int 0, .null]))] := by
    refine ⟨fun i j p q hi hj _ => ?_, fun k q hk => ?_⟩
    · match i, j, hi, hj with
      | 0, 0, _, _ => rfl
      | 0, j + 1, _, hj => simp at hj
      | i + 1, _, hi, _ => simp at hi
    · match k, hk with
      | 0, hk => cases hk; rw [hAe]; exact Or.inl ⟨0, _, rfl⟩
      | k + 1, hk => simp at hk
  refine lv_aload_n hx hb (show decode prog_9_method_1_code 0 = .ok (.aload_n 0, 1) by decide +kernel) rfl (lv_at hl 0 rfl) ?_
  refine W.objInit hx hb hown (hts _ (tw1 44 rfl rfl)) (hts _ (tw1 31 rfl rfl)) (hts _ (tw1 32 rfl rfl)) rfl (by show la.size = _; rw [hl.1, hml]) rfl (show decode prog_9_method_1_code 1 = .ok (.invokespecial 1, 3) by decide +kernel) (Nat.le_of_ble_eq_true rfl) (Nat.le_of_ble_eq_true rfl) ?_
  refine W.eq (g2 := F0 m 4 la []) rfl ?_
  refine lv_aload_n hx hb (show decode prog_9_method_1_code 4 = .ok (.aload_n 0, 1) by decide +kernel) rfl (lv_at hl 0 rfl) ?_
  refine lv_iconst (v := 0) hx hb (show decode prog_9_method_1_code 5 = .ok (.iconst 0, 1) by decide +kernel) (by decide) ?_
  refine va_newa (atype := .byte) (ty := .byte) (a0 := (0, .inl (fun _ => 0))) (N' := 0) hx hb (hts _ (tw1 63 rfl rfl)) rfl hK hP hD hS hA (fun cA => rfl) (by decide) rfl (by decide) (Nat.le_of_ble_eq_true rfl) (Nat.le_of_ble_eq_true rfl) (show decode prog_9_method_1_code 6 = .ok (.newarray .byte, 2) by decide +kernel) (fun q1 c1 H hK hP hD hS => ?_)
  have hP : va_P D clA [(h0, .inr (2, [.null, .int 0, .int 0, .int 0, .null])), (q1, .inl (c1, 0, .inl (fun _ => 0)))] H := hP
  have hD : va_D A [(h0, .inr (2, [.null, .int 0, .int 0, .int 0, .null])), (q1, .inl (c1, 0, .inl (fun _ => 0)))] := hD
  have hK : va_K D clA [(c1, .byte)] s := hK
  refine va_put (D := D) (ci := 2) (v := .ref q1) (ty := (.array .byte)) (C := "FilterReader$Signs") (T := T_S) (N := 5) hx hb hts wi_S ty_S tk_S_ty tk_S_nm hown hK hP hD hS 0 rfl rfl 0 (by decide) (hts _ (tw1 47 rfl rfl)) (fun _ h9 => h9) rfl (by decide +kernel) rfl rfl (Nat.le_of_ble_eq_true rfl) (show decode prog_9_method_1_code 8 = .ok (.putfield 7, 3) by decide +kernel) (fun H locs hP hD hS => ?_)
  have hP : va_P D clA [(h0, .inr (2, [.ref q1, .int 0, .int 0, .int 0, .null])), (q1, .inl (c1, 0, .inl (fun _ => 0)))] H := hP
  have hD : va_D A [(h0, .inr (2, [.ref q1, .int 0, .int 0, .int 0, .null])), (q1, .inl (c1, 0, .inl (fun _ => 0)))] := hD
  refine lv_aload_n hx hb (show decode prog_9_method_1_code 11 = .ok (.aload_n 0, 1) by decide +kernel) rfl (lv_at hl 0 rfl) ?_
  refine va_gets (A := A) (C := "FilterReader$Sign") (n := "END") (d := "LFilterReader$Sign;") (v := .ref (ad 1000)) hx hb (va_Z.narrow (hG.2.2.2.2.2.2.1 ("FilterReader$Sign", "END", "LFilterReader$Sign;", .ref 1000) (List.mem_of_getElem? (i := 0) rfl)) hAb) hS hown (hts _ (tw1 45 rfl rfl)) (fun _ h9 => h9) (show decode prog_9_method_1_code 12 = .ok (.getstatic 13, 3) by decide +kernel) ?_
  refine va_put (D := D) (ci := 2) (v := .ref (ad 1000)) (ty := (.object "FilterReader$Sign")) (C := "FilterReader$Signs") (T := T_S) (N := 5) hx hb hts wi_S ty_S tk_S_ty tk_S_nm hown hK hP hD hS 0 rfl rfl 4 (by decide) (hts _ (tw1 51 rfl rfl)) (fun _ h9 => h9) rfl (by decide +kernel) rfl rfl (Nat.le_of_ble_eq_true rfl) (show decode prog_9_method_1_code 15 = .ok (.putfield 19, 3) by decide +kernel) (fun H locs hP hD hS => ?_)
  have hP : va_P D clA [(h0, .inr (2, [.ref q1, .int 0, .int 0, .int 0, .ref (ad 1000)])), (q1, .inl (c1, 0, .inl (fun _ => 0)))] H := hP
  have hD : va_D A [(h0, .inr (2, [.ref q1, .int 0, .int 0, .int 0, .ref (ad 1000)])), (q1, .inl (c1, 0, .inl (fun _ => 0)))] := hD
  refine W.widen (k := 1) (n := 0) (Nat.le_of_ble_eq_true rfl) (Nat.le_of_ble_eq_true rfl) ?_
  exact W.vret hx hb hr (fun t ht hW => ⟨rfl, ⟨q1, c1, by rw [ht]; exact hP, by rw [hAe] at hD; exact hD, hK⟩, by rw [hAe] at hS; exact hS.F ht⟩) hS.2.2 (show decode prog_9_method_1_code 18 = .ok (.return_, 1) by decide +kernel)

set_option maxRecDepth 100000 in
set_option maxHeartbeats 4000000 in
theorem k_Grammar {l : Launch} {D : va_G} {ad : Nat → Nat} {b0 : Nat} (hok : jm_Ok (P0x l D ad b0)) (h0 : Nat) : MetFree l ⟨"FilterReader$Grammar", "<init>", "()V"⟩ (headSpec [.code ⟨"FilterReader$Grammar", "<init>", "()V"⟩ prog_4_method_1_code 1 none] ({ frames := 6, cells := 9, slots := 5645, locals := 300 })) (jc_Pre l D ad b0 h0 (.inr (1, [.null, .null, .null, .int 0, .int 0]))) (fun _ _ _ _ _ => True) (jc_Post (fun u t => ∃ (q1 q2 q3 q4 q5 q6 q7 q8 q9 : Nat) (c1 c3 c5 c6 c7 c8 c9 : ClassId), va_P D clA [(h0, .inr (1, [.ref q1, .ref q2, .ref q4, .int 0, .int (-1)])), (q1, .inl (c1, 34, .inl (fun _ => 0))), (q2, .inr (2, [.ref q3, .int 0, .int 0, .int 0, .ref (ad 1000)])), (q3, .inl (c3, 0, .inl (fun _ => 0))), (q4, .inr (3, [.ref q5, .ref q6, .ref q7, .ref q8, .ref q9, .int 0])), (q5, .inl (c5, 1400, .inl (fun _ => 0))), (q6, .inl (c6, 1400, .inl (fun _ => 0))), (q7, .inl (c7, 1400, .inl (fun _ => 0))), (q8, .inl (c8, 1400, .inl (fun _ => 0))), (q9, .inl (c9, 0, .inl (fun _ => 0)))] t.heap ∧ va_D (va_A [(h0, .inr (1, [.null, .null, .null, .int 0, .int 0]))] u.heap.size) [(h0, .inr (1, [.ref q1, .ref q2, .ref q4, .int 0, .int (-1)])), (q1, .inl (c1, 34, .inl (fun _ => 0))), (q2, .inr (2, [.ref q3, .int 0, .int 0, .int 0, .ref (ad 1000)])), (q3, .inl (c3, 0, .inl (fun _ => 0))), (q4, .inr (3, [.ref q5, .ref q6, .ref q7, .ref q8, .ref q9, .int 0])), (q5, .inl (c5, 1400, .inl (fun _ => 0))), (q6, .inl (c6, 1400, .inl (fun _ => 0))), (q7, .inl (c7, 1400, .inl (fun _ => 0))), (q8, .inl (c8, 1400, .inl (fun _ => 0))), (q9, .inl (c9, 0, .inl (fun _ => 0)))] ∧ va_K D clA [(c1, .int), (c3, .byte), (c5, .int), (c6, .int), (c7, .int), (c8, .int), (c9, .byte)] u) [(h0, .inr (1, [.null, .null, .null, .int 0, .int 0]))] 9 5645) := by
  refine jc_con (plainFor_of_name (by decide +kernel)) ?_
  intro p e s m args below meth c la hx hb hml hr hlocks hin hown hG hP0 hb0 hAO hl
  have hts : ∀ w ∈ Tall, w.before args s = true := fun w hw => hG.1 w hw args
  have hK : va_K D clA [] s := hG.2.2.2.1
  obtain ⟨A, hAe⟩ : ∃ A, A = va_A [(h0, .inr (1, [.null, .null, .null, .int 0, .int 0]))] s.heap.size := ⟨_, rfl⟩
  rw [← hAe]
  have hA : ∀ q : Nat, s.heap.size ≤ q → A q := fun q h => by rw [hAe]; exact Or.inr h
  have hAb : ∀ q : Nat, A q → b0 ≤ q := fun q h => by
    rw [hAe] at h
    rcases h with ⟨k, e', h⟩ | h
    · match k, h with
      | 0, h => cases h; exact hb0
      | k + 1, h => simp at h
    · exact Nat.le_trans hG.2.2.2.2.2.1 h
  have hS : va_S A s.heap s.heap [] := va_S.rf
  have hP : va_P D clA [(h0, .inr (1, [.null, .null, .null, .int 0, .int 0]))] s.heap := hP0
  have hD : va_D A [(h0, .inr (1, [.null, .null, .null, .int 0, .int 0]))] := by
    refine ⟨fun i j p q hi hj _ => ?_, fun k q hk => ?_⟩
    · match i, j, hi, hj with
      | 0, 0, _, _ => rfl
      | 0, j + 1, _, hj => simp at hj
      | i + 1, _, hi, _ => simp at hi
    · match k, hk with
      | 0, hk => cases hk; rw [hAe]; exact Or.inl ⟨0, _, rfl⟩
      | k + 1, hk => simp at hk
  refine lv_aload_n hx hb (show decode prog_4_method_1_code 0 = .ok (.aload_n 0, 1) by decide +kernel) rfl (lv_at hl 0 rfl) ?_
  refine W.objInit hx hb hown (hts _ (tw1 38 rfl rfl)) (hts _ (tw1 31 rfl rfl)) (hts _ (tw1 32 rfl rfl)) rfl (by show la.size = _; rw [hl.1, hml]) rfl (show decode prog_4_method_1_code 1 = .ok (.invokespecial 3, 3) by decide +kernel) (Nat.le_of_ble_eq_true rfl) (Nat.le_of_ble_eq_true rfl) ?_
  refine W.eq (g2 := F0 m 4 la []) rfl ?_
  refine lv_aload_n hx hb (show decode prog_4_method_1_code 4 = .ok (.aload_n 0, 1) by decide +kernel) rfl (lv_at hl 0 rfl) ?_
  refine lv_bipush (v := 34) hx hb (show decode prog_4_method_1_code 5 = .ok (.bipush 34, 2) by decide +kernel) (by decide) ?_
  refine va_newa (atype := .int) (ty := .int) (a0 := (34, .inl (fun _ => 0))) (N' := 34) hx hb (hts _ (tw1 64 rfl rfl)) rfl hK hP hD hS hA (fun cA => rfl) (by decide) rfl (by decide) (Nat.le_of_ble_eq_true rfl) (Nat.le_of_ble_eq_true rfl) (show decode prog_4_method_1_code 7 = .ok (.newarray .int, 2) by decide +kernel) (fun q1 c1 H hK hP hD hS => ?_)
  have hP : va_P D clA [(h0, .inr (1, [.null, .null, .null, .int 0, .int 0])), (q1, .inl (c1, 34, .inl (fun _ => 0)))] H := hP
  have hD : va_D A [(h0, .inr (1, [.null, .null, .null, .int 0, .int 0])), (q1, .inl (c1, 34, .inl (fun _ => 0)))] := hD
  have hK : va_K D clA [(c1, .int)] s := hK
  refine va_putF (D := D) (ci := 1) (v := .ref q1) (ty := (.array .int)) (C := "FilterReader$Grammar") (T := T_G) (N := 5) hx hb hts wi_G ty_G tk_G_ty tk_G_nm hown hK hP hD hS 0 rfl rfl 0 (by decide) (hts _ (tw1 90 rfl rfl)) (fun _ h9 => h9) rfl hin rfl (by decide +kernel) rfl rfl (Nat.le_of_ble_eq_true rfl) (show decode prog_4_method_1_code 9 = .ok (.putfield 11, 3) by decide +kernel) (fun H locs hP hD hS => ?_)
  have hP : va_P D clA [(h0, .inr (1, [.ref q1, .null, .null, .int 0, .int 0])), (q1, .inl (c1, 34, .inl (fun _ => 0)))] H := hP
  have hD : va_D A [(h0, .inr (1, [.ref q1, .null, .null, .int 0, .int 0])), (q1, .inl (c1, 34, .inl (fun _ => 0)))] := hD
  refine lv_aload_n hx hb (show decode prog_4_method_1_code 12 = .ok (.aload_n 0, 1) by decide +kernel) rfl (lv_at hl 0 rfl) ?_
  refine va_new (D := D) (ci := 2) (fs := [.null, .int 0, .int 0, .int 0, .null]) (C := "FilterReader$Signs") (T := T_S) (N := 5) hx hb hts wi_S ty_S tk_S_ty hown (hts _ (tw1 39 rfl rfl)) (hts _ (tw1 40 rfl rfl)) (hts _ (tw1 3 rfl rfl)) hK hP hD hS hA rfl (fun j hj => by rcases (show j = 0 ∨ j = 1 ∨ j = 2 ∨ j = 3 ∨ j = 4 by omega) with rfl | rfl | rfl | rfl | rfl <;> rfl) (Nat.le_of_ble_eq_true rfl) (Nat.le_of_ble_eq_true rfl) (show decode prog_4_method_1_code 13 = .ok (.new 17, 3) by decide +kernel) (fun q2 H hP hD hS => ?_)
  have hP : va_P D clA [(h0, .inr (1, [.ref q1, .null, .null, .int 0, .int 0])), (q1, .inl (c1, 34, .inl (fun _ => 0))), (q2, .inr (2, [.null, .int 0, .int 0, .int 0, .null]))] H := hP
  have hD : va_D A [(h0, .inr (1, [.ref q1, .null, .null, .int 0, .int 0])), (q1, .inl (c1, 34, .inl (fun _ => 0))), (q2, .inr (2, [.null, .int 0, .int 0, .int 0, .null]))] := hD
  refine lv_dup hx hb (show decode prog_4_method_1_code 16 = .ok (.dup, 1) by decide +kernel) rfl ?_
  have hPc := hP.sub (ws' := [(q2, .inr (2, [.null, .int 0, .int 0, .int 0, .null]))]) [2] rfl
  have hFc := va_free (wc := [(q2, .inr (2, [.null, .int 0, .int 0, .int 0, .null]))]) hD hS hA [2] rfl
  refine jc_call (A := A) hok hG hAO (k_Signs hok q2) hx hb hown rfl rfl (by decide +kernel) (tw1 41 rfl rfl) (tw1 42 rfl rfl) (tw1 43 rfl rfl) (tw1 3 rfl rfl) (show decode prog_4_method_1_code 17 = .ok (.invokespecial 19, 3) by decide +kernel) (by rw [hl.1, hml]) (Nat.le_of_ble_eq_true rfl) (Nat.le_of_ble_eq_true rfl) (Nat.le_of_ble_eq_true rfl) (Nat.le_of_ble_eq_true rfl) (Nat.le_of_ble_eq_true rfl) hPc hS hAb hA (hD.2 2 _ rfl) (fun u t L hu hW hB hz hk hS => ?_)
  obtain ⟨q3, c3, hP1, hD1, hK1⟩ := hB
  rw [hu] at hD1
  have hK1 := va_K.moved hW.alike.symm hK1
  obtain ⟨hP, hD⟩ := va_join (wr := [(h0, .inr (1, [.ref q1, .null, .null, .int 0, .int 0])), (q1, .inl (c1, 34, .inl (fun _ => 0)))]) (w1 := [(q2, .inr (2, [.ref q3, .int 0, .int 0, .int 0, .ref (ad 1000)])), (q3, .inl (c3, 0, .inl (fun _ => 0)))]) hP hD [2] [0, 1] rfl rfl (by decide) (by decide) hk hFc hP1 hD1
  have hK := hK.app hK1
  generalize t.heap = H at hP hS ⊢
  have hP : va_P D clA [(h0, .inr (1, [.ref q1, .null, .null, .int 0, .int 0])), (q1, .inl (c1, 34, .inl (fun _ => 0))), (q2, .inr (2, [.ref q3, .int 0, .int 0, .int 0, .ref (ad 1000)])), (q3, .inl (c3, 0, .inl (fun _ => 0)))] H := hP
  have hD : va_D A [(h0, .inr (1, [.ref q1, .null, .null, .int 0, .int 0])), (q1, .inl (c1, 34, .inl (fun _ => 0))), (q2, .inr (2, [.ref q3, .int 0, .int 0, .int 0, .ref (ad 1000)])), (q3, .inl (c3, 0, .inl (fun _ => 0)))] := hD
  have hK : va_K D clA [(c1, .int), (c3, .byte)] s := hK
  refine va_putF (D := D) (ci := 1) (v := .ref q2) (ty := (.object "FilterReader$Signs")) (C := "FilterReader$Grammar") (T := T_G) (N := 5) hx hb hts wi_G ty_G tk_G_ty tk_G_nm hown hK hP hD hS 0 rfl rfl 1 (by decide) (hts _ (tw1 91 rfl rfl)) (fun _ h9 => h9) rfl hin rfl (by decide +kernel) rfl rfl (Nat.le_of_ble_eq_true rfl) (show decode prog_4_method_1_code 20 = .ok (.putfield 20, 3) by decide +kernel) (fun H locs hP hD hS => ?_)
  have hP : va_P D clA [(h0, .inr (1, [.ref q1, .ref q2, .null, .int 0, .int 0])), (q1, .inl (c1, 34, .inl (fun _ => 0))), (q2, .inr (2, [.ref q3, .int 0, .int 0, .int 0, .ref (ad 1000)])), (q3, .inl (c3, 0, .inl (fun _ => 0)))] H := hP
  have hD : va_D A [(h0, .inr (1, [.ref q1, .ref q2, .null, .int 0, .int 0])), (q1, .inl (c1, 34, .inl (fun _ => 0))), (q2, .inr (2, [.ref q3, .int 0, .int 0, .int 0, .ref (ad 1000)])), (q3, .inl (c3, 0, .inl (fun _ => 0)))] := hD
  refine lv_aload_n hx hb (show decode prog_4_method_1_code 23 = .ok (.aload_n 0, 1) by decide +kernel) rfl (lv_at hl 0 rfl) ?_
  refine va_new (D := D) (ci := 3) (fs := [.null, .null, .null, .null, .null, .int 0]) (C := "FilterReader$Names") (T := T_N) (N := 6) hx hb hts wi_N ty_N tk_N_ty hown (hts _ (tw1 65 rfl rfl)) (hts _ (tw1 66 rfl rfl)) (hts _ (tw1 6 rfl rfl)) hK hP hD hS hA rfl (fun j hj => by rcases (show j = 0 ∨ j = 1 ∨ j = 2 ∨ j = 3 ∨ j = 4 ∨ j = 5 by omega) with rfl | rfl | rfl | rfl | rfl | rfl <;> rfl) (Nat.le_of_ble_eq_true rfl) (Nat.le_of_ble_eq_true rfl) (show decode prog_4_method_1_code 24 = .ok (.new 24, 3) by decide +kernel) (fun q4 H hP hD hS => ?_)
  have hP : va_P D clA [(h0, .inr (1, [.ref q1, .ref q2, .null, .int 0, .int 0])), (q1, .inl (c1, 34, .inl (fun _ => 0))), (q2, .inr (2, [.ref q3, .int 0, .int 0, .int 0, .ref (ad 1000)])), (q3, .inl (c3, 0, .inl (fun _ => 0))), (q4, .inr (3, [.null, .null, .null, .null, .null, .int 0]))] H := hP
  have hD : va_D A [(h0, .inr (1, [.ref q1, .ref q2, .null, .int 0, .int 0])), (q1, .inl (c1, 34, .inl (fun _ => 0))), (q2, .inr (2, [.ref q3, .int 0, .int 0, .int 0, .ref (ad 1000)])), (q3, .inl (c3, 0, .inl (fun _ => 0))), (q4, .inr (3, [.null, .null, .null, .null, .null, .int 0]))] := hD
  refine lv_dup hx hb (show decode prog_4_method_1_code 27 = .ok (.dup, 1) by decide +kernel) rfl ?_
  have hPc := hP.sub (ws' := [(q4, .inr (3, [.null, .null, .null, .null, .null, .int 0]))]) [4] rfl
  have hFc := va_free (wc := [(q4, .inr (3, [.null, .null, .null, .null, .null, .int 0]))]) hD hS hA [4] rfl
  refine jc_call (A := A) hok hG hAO (k_Names hok q4) hx hb hown rfl rfl (by decide +kernel) (tw1 67 rfl rfl) (tw1 68 rfl rfl) (tw1 69 rfl rfl) (tw1 6 rfl rfl) (show decode prog_4_method_1_code 28 = .ok (.invokespecial 26, 3) by decide +kernel) (by rw [hl.1, hml]) (Nat.le_of_ble_eq_true rfl) (Nat.le_of_ble_eq_true rfl) (Nat.le_of_ble_eq_true rfl) (Nat.le_of_ble_eq_true rfl) (Nat.le_of_ble_eq_true rfl) hPc hS hAb hA (hD.2 4 _ rfl) (fun u t L hu hW hB hz hk hS => ?_)
  obtain ⟨q5, q6, q7, q8, q9, c5, c6, c7, c8, c9, hP1, hD1, hK1⟩ := hB
  rw [hu] at hD1
  have hK1 := va_K.moved hW.alike.symm hK1
  obtain ⟨hP, hD⟩ := va_join (wr := [(h0, .inr (1, [.ref q1, .ref q2, .null, .int 0, .int 0])), (q1, .inl (c1, 34, .inl (fun _ => 0))), (q2, .inr (2, [.ref q3, .int 0, .int 0, .int 0, .ref (ad 1000)])), (q3, .inl (c3, 0, .inl (fun _ => 0)))]) (w1 := [(q4, .inr (3, [.ref q5, .ref q6, .ref q7, .ref q8, .ref q9, .int 0])), (q5, .inl (c5, 1400, .inl (fun _ => 0))), (q6, .inl (c6, 1400, .inl (fun _ => 0))), (q7, .inl (c7, 1400, .inl (fun _ => 0))), (q8, .inl (c8, 1400, .inl (fun _ => 0))), (q9, .inl (c9, 0, .inl (fun _ => 0)))]) hP hD [4] [0, 1, 2, 3] rfl rfl (by decide) (by decide) hk hFc hP1 hD1
  have hK := hK.app hK1
  generalize t.heap = H at hP hS ⊢
  have hP : va_P D clA [(h0, .inr (1, [.ref q1, .ref q2, .null, .int 0, .int 0])), (q1, .inl (c1, 34, .inl (fun _ => 0))), (q2, .inr (2, [.ref q3, .int 0, .int 0, .int 0, .ref (ad 1000)])), (q3, .inl (c3, 0, .inl (fun _ => 0))), (q4, .inr (3, [.ref q5, .ref q6, .ref q7, .ref q8, .ref q9, .int 0])), (q5, .inl (c5, 1400, .inl (fun _ => 0))), (q6, .inl (c6, 1400, .inl (fun _ => 0))), (q7, .inl (c7, 1400, .inl (fun _ => 0))), (q8, .inl (c8, 1400, .inl (fun _ => 0))), (q9, .inl (c9, 0, .inl (fun _ => 0)))] H := hP
  have hD : va_D A [(h0, .inr (1, [.ref q1, .ref q2, .null, .int 0, .int 0])), (q1, .inl (c1, 34, .inl (fun _ => 0))), (q2, .inr (2, [.ref q3, .int 0, .int 0, .int 0, .ref (ad 1000)])), (q3, .inl (c3, 0, .inl (fun _ => 0))), (q4, .inr (3, [.ref q5, .ref q6, .ref q7, .ref q8, .ref q9, .int 0])), (q5, .inl (c5, 1400, .inl (fun _ => 0))), (q6, .inl (c6, 1400, .inl (fun _ => 0))), (q7, .inl (c7, 1400, .inl (fun _ => 0))), (q8, .inl (c8, 1400, .inl (fun _ => 0))), (q9, .inl (c9, 0, .inl (fun _ => 0)))] := hD
  have hK : va_K D clA [(c1, .int), (c3, .byte), (c5, .int), (c6, .int), (c7, .int), (c8, .int), (c9, .byte)] s := hK
  refine va_putF (D := D) (ci := 1) (v := .ref q4) (ty := (.object "FilterReader$Names")) (C := "FilterReader$Grammar") (T := T_G) (N := 5) hx hb hts wi_G ty_G tk_G_ty tk_G_nm hown hK hP hD hS 0 rfl rfl 2 (by decide) (hts _ (tw1 92 rfl rfl)) (fun _ h9 => h9) rfl hin rfl (by decide +kernel) rfl rfl (Nat.le_of_ble_eq_true rfl) (show decode prog_4_method_1_code 31 = .ok (.putfield 27, 3) by decide +kernel) (fun H locs hP hD hS => ?_)
  have hP : va_P D clA [(h0, .inr (1, [.ref q1, .ref q2, .ref q4, .int 0, .int 0])), (q1, .inl (c1, 34, .inl (fun _ => 0))), (q2, .inr (2, [.ref q3, .int 0, .int 0, .int 0, .ref (ad 1000)])), (q3, .inl (c3, 0, .inl (fun _ => 0))), (q4, .inr (3, [.ref q5, .ref q6, .ref q7, .ref q8, .ref q9, .int 0])), (q5, .inl (c5, 1400, .inl (fun _ => 0))), (q6, .inl (c6, 1400, .inl (fun _ => 0))), (q7, .inl (c7, 1400, .inl (fun _ => 0))), (q8, .inl (c8, 1400, .inl (fun _ => 0))), (q9, .inl (c9, 0, .inl (fun _ => 0)))] H := hP
  have hD : va_D A [(h0, .inr (1, [.ref q1, .ref q2, .ref q4, .int 0, .int 0])), (q1, .inl (c1, 34, .inl (fun _ => 0))), (q2, .inr (2, [.ref q3, .int 0, .int 0, .int 0, .ref (ad 1000)])), (q3, .inl (c3, 0, .inl (fun _ => 0))), (q4, .inr (3, [.ref q5, .ref q6, .ref q7, .ref q8, .ref q9, .int 0])), (q5, .inl (c5, 1400, .inl (fun _ => 0))), (q6, .inl (c6, 1400, .inl (fun _ => 0))), (q7, .inl (c7, 1400, .inl (fun _ => 0))), (q8, .inl (c8, 1400, .inl (fun _ => 0))), (q9, .inl (c9, 0, .inl (fun _ => 0)))] := hD
  refine lv_aload_n hx hb (show decode prog_4_method_1_code 34 = .ok (.aload_n 0, 1) by decide +kernel) rfl (lv_at hl 0 rfl) ?_
  refine lv_iconst (v := -1) hx hb (show decode prog_4_method_1_code 35 = .ok (.iconst (-1), 1) by decide +kernel) (by decide) ?_
  refine va_put (D := D) (ci := 1) (v := .int (-1)) (ty := .int) (C := "FilterReader$Grammar") (T := T_G) (N := 5) hx hb hts wi_G ty_G tk_G_ty tk_G_nm hown hK hP hD hS 0 rfl rfl 4 (by decide) (hts _ (tw1 94 rfl rfl)) (fun _ h9 => h9) rfl (by decide +kernel) rfl rfl (Nat.le_of_ble_eq_true rfl) (show decode prog_4_method_1_code 36 = .ok (.putfield 31, 3) by decide +kernel) (fun H locs hP hD hS => ?_)
  have hP : va_P D clA [(h0, .inr (1, [.ref q1, .ref q2, .ref q4, .int 0, .int (-1)])), (q1, .inl (c1, 34, .inl (fun _ => 0))), (q2, .inr (2, [.ref q3, .int 0, .int 0, .int 0, .ref (ad 1000)])), (q3, .inl (c3, 0, .inl (fun _ => 0))), (q4, .inr (3, [.ref q5, .ref q6, .ref q7, .ref q8, .ref q9, .int 0])), (q5, .inl (c5, 1400, .inl (fun _ => 0))), (q6, .inl (c6, 1400, .inl (fun _ => 0))), (q7, .inl (c7, 1400, .inl (fun _ => 0))), (q8, .inl (c8, 1400, .inl (fun _ => 0))), (q9, .inl (c9, 0, .inl (fun _ => 0)))] H := hP
  have hD : va_D A [(h0, .inr (1, [.ref q1, .ref q2, .ref q4, .int 0, .int (-1)])), (q1, .inl (c1, 34, .inl (fun _ => 0))), (q2, .inr (2, [.ref q3, .int 0, .int 0, .int 0, .ref (ad 1000)])), (q3, .inl (c3, 0, .inl (fun _ => 0))), (q4, .inr (3, [.ref q5, .ref q6, .ref q7, .ref q8, .ref q9, .int 0])), (q5, .inl (c5, 1400, .inl (fun _ => 0))), (q6, .inl (c6, 1400, .inl (fun _ => 0))), (q7, .inl (c7, 1400, .inl (fun _ => 0))), (q8, .inl (c8, 1400, .inl (fun _ => 0))), (q9, .inl (c9, 0, .inl (fun _ => 0)))] := hD
  refine W.widen (k := 9) (n := 5645) (Nat.le_of_ble_eq_true rfl) (Nat.le_of_ble_eq_true rfl) ?_
  exact W.vret hx hb hr (fun t ht hW => ⟨rfl, ⟨q1, q2, q3, q4, q5, q6, q7, q8, q9, c1, c3, c5, c6, c7, c8, c9, by rw [ht]; exact hP, by rw [hAe] at hD; exact hD, hK⟩, by rw [hAe] at hS; exact hS.F ht⟩) hS.2.2 (show decode prog_4_method_1_code 39 = .ok (.return_, 1) by decide +kernel)

set_option maxRecDepth 100000 in
set_option maxHeartbeats 4000000 in
theorem k_FR {l : Launch} {D : va_G} {ad : Nat → Nat} {b0 : Nat} (hok : jm_Ok (P0x l D ad b0)) (h0 : Nat) : MetFree l ⟨"FilterReader", "<init>", "()V"⟩ (headSpec [.code ⟨"FilterReader", "<init>", "()V"⟩ prog_1_method_1_code 1 none] ({ frames := 10, cells := 11, slots := 22034, locals := 600 })) (jc_Pre l D ad b0 h0 (.inr (0, [.null, .null, .int 0]))) (fun _ _ _ _ _ => True) (jc_Post (fun u t => ∃ (q1 q2 q3 q4 q5 q6 q7 q8 q9 q10 q11 : Nat) (c1 c3 c5 c7 c8 c9 c10 c11 : ClassId), va_P D clA [(h0, .inr (0, [.ref q1, .ref q2, .int 0])), (q1, .inl (c1, 16384, .inl (fun _ => 0))), (q2, .inr (1, [.ref q3, .ref q4, .ref q6, .int 0, .int (-1)])), (q3, .inl (c3, 34, .inl (fun _ => 0))), (q4, .inr (2, [.ref q5, .int 0, .int 0, .int 0, .ref (ad 1000)])), (q5, .inl (c5, 0, .inl (fun _ => 0))), (q6, .inr (3, [.ref q7, .ref q8, .ref q9, .ref q10, .ref q11, .int 0])), (q7, .inl (c7, 1400, .inl (fun _ => 0))), (q8, .inl (c8, 1400, .inl (fun _ => 0))), (q9, .inl (c9, 1400, .inl (fun _ => 0))), (q10, .inl (c10, 1400, .inl (fun _ => 0))), (q11, .inl (c11, 0, .inl (fun _ => 0)))] t.heap ∧ va_D (va_A [(h0, .inr (0, [.null, .null, .int 0]))] u.heap.size) [(h0, .inr (0, [.ref q1, .ref q2, .int 0])), (q1, .inl (c1, 16384, .inl (fun _ => 0))), (q2, .inr (1, [.ref q3, .ref q4, .ref q6, .int 0, .int (-1)])), (q3, .inl (c3, 34, .inl (fun _ => 0))), (q4, .inr (2, [.ref q5, .int 0, .int 0, .int 0, .ref (ad 1000)])), (q5, .inl (c5, 0, .inl (fun _ => 0))), (q6, .inr (3, [.ref q7, .ref q8, .ref q9, .ref q10, .ref q11, .int 0])), (q7, .inl (c7, 1400, .inl (fun _ => 0))), (q8, .inl (c8, 1400, .inl (fun _ => 0))), (q9, .inl (c9, 1400, .inl (fun _ => 0))), (q10, .inl (c10, 1400, .inl (fun _ => 0))), (q11, .inl (c11, 0, .inl (fun _ => 0)))] ∧ va_K D clA [(c1, .byte), (c3, .int), (c5, .byte), (c7, .int), (c8, .int), (c9, .int), (c10, .int), (c11, .byte)] u) [(h0, .inr (0, [.null, .null, .int 0]))] 11 22034) := by
  refine jc_con (plainFor_of_name (by decide +kernel)) ?_
  intro p e s m args below meth c la hx hb hml hr hlocks hin hown hG hP0 hb0 hAO hl
  have hts : ∀ w ∈ Tall, w.before args s = true := fun w hw => hG.1 w hw args
  have hK : va_K D clA [] s := hG.2.2.2.1
  obtain ⟨A, hAe⟩ : ∃ A, A = va_A [(h0, .inr (0, [.null, .null, .int 0]))] s.heap.size := ⟨_, rfl⟩
  rw [← hAe]
  have hA : ∀ q : Nat, s.heap.size ≤ q → A q := fun q h => by rw [hAe]; exact Or.inr h
  have hAb : ∀ q : Nat, A q → b0 ≤ q := fun q h => by
    rw [hAe] at h
    rcases h with ⟨k, e', h⟩ | h
    · match k, h with
      | 0, h => cases h; exact hb0
      | k + 1, h => simp at h
    · exact Nat.le_trans hG.2.2.2.2.2.1 h
  have hS : va_S A s.heap s.heap [] := va_S.rf
  have hP : va_P D clA [(h0, .inr (0, [.null, .null, .int 0]))] s.heap := hP0
  have hD : va_D A [(h0, .inr (0, [.null, .null, .int 0]))] := by
    refine ⟨fun i j p q hi hj _ => ?_, fun k q hk => ?_⟩
    · match i, j, hi, hj with
      | 0, 0, _, _ => rfl
      | 0, j + 1, _, hj => simp at hj
      | i + 1, _, hi, _ => simp at hi
    · match k, hk with
      | 0, hk => cases hk; rw [hAe]; exact Or.inl ⟨0, _, rfl⟩
      | k + 1, hk => simp at hk
  refine lv_aload_n hx hb (show decode prog_1_method_1_code 0 = .ok (.aload_n 0, 1) by decide +kernel) rfl (lv_at hl 0 rfl) ?_
  refine W.objInit hx hb hown (hts _ (tw1 30 rfl rfl)) (hts _ (tw1 31 rfl rfl)) (hts _ (tw1 32 rfl rfl)) rfl (by show la.size = _; rw [hl.1, hml]) rfl (show decode prog_1_method_1_code 1 = .ok (.invokespecial 1, 3) by decide +kernel) (Nat.le_of_ble_eq_true rfl) (Nat.le_of_ble_eq_true rfl) ?_
  refine W.eq (g2 := F0 m 4 la []) rfl ?_
  refine lv_aload_n hx hb (show decode prog_1_method_1_code 4 = .ok (.aload_n 0, 1) by decide +kernel) rfl (lv_at hl 0 rfl) ?_
  refine lv_sipush (v := 16384) hx hb (show decode prog_1_method_1_code 5 = .ok (.sipush 16384, 3) by decide +kernel) (by decide) ?_
  refine va_newa (atype := .byte) (ty := .byte) (a0 := (16384, .inl (fun _ => 0))) (N' := 16384) hx hb (hts _ (tw1 63 rfl rfl)) rfl hK hP hD hS hA (fun cA => rfl) (by decide) rfl (by decide) (Nat.le_of_ble_eq_true rfl) (Nat.le_of_ble_eq_true rfl) (show decode prog_1_method_1_code 8 = .ok (.newarray .byte, 2) by decide +kernel) (fun q1 c1 H hK hP hD hS => ?_)
  have hP : va_P D clA [(h0, .inr (0, [.null, .null, .int 0])), (q1, .inl (c1, 16384, .inl (fun _ => 0)))] H := hP
  have hD : va_D A [(h0, .inr (0, [.null, .null, .int 0])), (q1, .inl (c1, 16384, .inl (fun _ => 0)))] := hD
  have hK : va_K D clA [(c1, .byte)] s := hK
  refine va_putF (D := D) (ci := 0) (v := .ref q1) (ty := (.array .byte)) (C := "FilterReader") (T := T_FR) (N := 3) hx hb hts wi_FR ty_FR tk_FR_ty tk_FR_nm hown hK hP hD hS 0 rfl rfl 0 (by decide) (hts _ (tw1 106 rfl rfl)) (fun _ h9 => h9) rfl hin rfl (by decide +kernel) rfl rfl (Nat.le_of_ble_eq_true rfl) (show decode prog_1_method_1_code 10 = .ok (.putfield 9, 3) by decide +kernel) (fun H locs hP hD hS => ?_)
  have hP : va_P D clA [(h0, .inr (0, [.ref q1, .null, .int 0])), (q1, .inl (c1, 16384, .inl (fun _ => 0)))] H := hP
  have hD : va_D A [(h0, .inr (0, [.ref q1, .null, .int 0])), (q1, .inl (c1, 16384, .inl (fun _ => 0)))] := hD
  refine lv_aload_n hx hb (show decode prog_1_method_1_code 13 = .ok (.aload_n 0, 1) by decide +kernel) rfl (lv_at hl 0 rfl) ?_
  refine va_new (D := D) (ci := 1) (fs := [.null, .null, .null, .int 0, .int 0]) (C := "FilterReader$Grammar") (T := T_G) (N := 5) hx hb hts wi_G ty_G tk_G_ty hown (hts _ (tw1 33 rfl rfl)) (hts _ (tw1 34 rfl rfl)) (hts _ (tw1 2 rfl rfl)) hK hP hD hS hA rfl (fun j hj => by rcases (show j = 0 ∨ j = 1 ∨ j = 2 ∨ j = 3 ∨ j = 4 by omega) with rfl | rfl | rfl | rfl | rfl <;> rfl) (Nat.le_of_ble_eq_true rfl) (Nat.le_of_ble_eq_true rfl) (show decode prog_1_method_1_code 14 = .ok (.new 13, 3) by decide +kernel) (fun q2 H hP hD hS => ?_)
  have hP : va_P D clA [(h0, .inr (0, [.ref q1, .null, .int 0])), (q1, .inl (c1, 16384, .inl (fun _ => 0))), (q2, .inr (1, [.null, .null, .null, .int 0, .int 0]))] H := hP
  have hD : va_D A [(h0, .inr (0, [.ref q1, .null, .int 0])), (q1, .inl (c1, 16384, .inl (fun _ => 0))), (q2, .inr (1, [.null, .null, .null, .int 0, .int 0]))] := hD
  refine lv_dup hx hb (show decode prog_1_method_1_code 17 = .ok (.dup, 1) by decide +kernel) rfl ?_
  have hPc := hP.sub (ws' := [(q2, .inr (1, [.null, .null, .null, .int 0, .int 0]))]) [2] rfl
  have hFc := va_free (wc := [(q2, .inr (1, [.null, .null, .null, .int 0, .int 0]))]) hD hS hA [2] rfl
  refine jc_call (A := A) hok hG hAO (k_Grammar hok q2) hx hb hown rfl rfl (by decide +kernel) (tw1 35 rfl rfl) (tw1 36 rfl rfl) (tw1 37 rfl rfl) (tw1 2 rfl rfl) (show decode prog_1_method_1_code 18 = .ok (.invokespecial 15, 3) by decide +kernel) (by rw [hl.1, hml]) (Nat.le_of_ble_eq_true rfl) (Nat.le_of_ble_eq_true rfl) (Nat.le_of_ble_eq_true rfl) (Nat.le_of_ble_eq_true rfl) (Nat.le_of_ble_eq_true rfl) hPc hS hAb hA (hD.2 2 _ rfl) (fun u t L hu hW hB hz hk hS => ?_)
  obtain ⟨q3, q4, q5, q6, q7, q8, q9, q10, q11, c3, c5, c7, c8, c9, c10, c11, hP1, hD1, hK1⟩ := hB
  rw [hu] at hD1
  have hK1 := va_K.moved hW.alike.symm hK1
  obtain ⟨hP, hD⟩ := va_join (wr := [(h0, .inr (0, [.ref q1, .null, .int 0])), (q1, .inl (c1, 16384, .inl (fun _ => 0)))]) (w1 := [(q2, .inr (1, [.ref q3, .ref q4, .ref q6, .int 0, .int (-1)])), (q3, .inl (c3, 34, .inl (fun _ => 0))), (q4, .inr (2, [.ref q5, .int 0, .int 0, .int 0, .ref (ad 1000)])), (q5, .inl (c5, 0, .inl (fun _ => 0))), (q6, .inr (3, [.ref q7, .ref q8, .ref q9, .ref q10, .ref q11, .int 0])), (q7, .inl (c7, 1400, .inl (fun _ => 0))), (q8, .inl (c8, 1400, .inl (fun _ => 0))), (q9, .inl (c9, 1400, .inl (fun _ => 0))), (q10, .inl (c10, 1400, .inl (fun _ => 0))), (q11, .inl (c11, 0, .inl (fun _ => 0)))]) hP hD [2] [0, 1] rfl rfl (by decide) (by decide) hk hFc hP1 hD1
  have hK := hK.app hK1
  generalize t.heap = H at hP hS ⊢
  have hP : va_P D clA [(h0, .inr (0, [.ref q1, .null, .int 0])), (q1, .inl (c1, 16384, .inl (fun _ => 0))), (q2, .inr (1, [.ref q3, .ref q4, .ref q6, .int 0, .int (-1)])), (q3, .inl (c3, 34, .inl (fun _ => 0))), (q4, .inr (2, [.ref q5, .int 0, .int 0, .int 0, .ref (ad 1000)])), (q5, .inl (c5, 0, .inl (fun _ => 0))), (q6, .inr (3, [.ref q7, .ref q8, .ref q9, .ref q10, .ref q11, .int 0])), (q7, .inl (c7, 1400, .inl (fun _ => 0))), (q8, .inl (c8, 1400, .inl (fun _ => 0))), (q9, .inl (c9, 1400, .inl (fun _ => 0))), (q10, .inl (c10, 1400, .inl (fun _ => 0))), (q11, .inl (c11, 0, .inl (fun _ => 0)))] H := hP
  have hD : va_D A [(h0, .inr (0, [.ref q1, .null, .int 0])), (q1, .inl (c1, 16384, .inl (fun _ => 0))), (q2, .inr (1, [.ref q3, .ref q4, .ref q6, .int 0, .int (-1)])), (q3, .inl (c3, 34, .inl (fun _ => 0))), (q4, .inr (2, [.ref q5, .int 0, .int 0, .int 0, .ref (ad 1000)])), (q5, .inl (c5, 0, .inl (fun _ => 0))), (q6, .inr (3, [.ref q7, .ref q8, .ref q9, .ref q10, .ref q11, .int 0])), (q7, .inl (c7, 1400, .inl (fun _ => 0))), (q8, .inl (c8, 1400, .inl (fun _ => 0))), (q9, .inl (c9, 1400, .inl (fun _ => 0))), (q10, .inl (c10, 1400, .inl (fun _ => 0))), (q11, .inl (c11, 0, .inl (fun _ => 0)))] := hD
  have hK : va_K D clA [(c1, .byte), (c3, .int), (c5, .byte), (c7, .int), (c8, .int), (c9, .int), (c10, .int), (c11, .byte)] s := hK
  refine va_putF (D := D) (ci := 0) (v := .ref q2) (ty := (.object "FilterReader$Grammar")) (C := "FilterReader") (T := T_FR) (N := 3) hx hb hts wi_FR ty_FR tk_FR_ty tk_FR_nm hown hK hP hD hS 0 rfl rfl 1 (by decide) (hts _ (tw1 107 rfl rfl)) (fun _ h9 => h9) rfl hin rfl (by decide +kernel) rfl rfl (Nat.le_of_ble_eq_true rfl) (show decode prog_1_method_1_code 21 = .ok (.putfield 16, 3) by decide +kernel) (fun H locs hP hD hS => ?_)
  have hP : va_P D clA [(h0, .inr (0, [.ref q1, .ref q2, .int 0])), (q1, .inl (c1, 16384, .inl (fun _ => 0))), (q2, .inr (1, [.ref q3, .ref q4, .ref q6, .int 0, .int (-1)])), (q3, .inl (c3, 34, .inl (fun _ => 0))), (q4, .inr (2, [.ref q5, .int 0, .int 0, .int 0, .ref (ad 1000)])), (q5, .inl (c5, 0, .inl (fun _ => 0))), (q6, .inr (3, [.ref q7, .ref q8, .ref q9, .ref q10, .ref q11, .int 0])), (q7, .inl (c7, 1400, .inl (fun _ => 0))), (q8, .inl (c8, 1400, .inl (fun _ => 0))), (q9, .inl (c9, 1400, .inl (fun _ => 0))), (q10, .inl (c10, 1400, .inl (fun _ => 0))), (q11, .inl (c11, 0, .inl (fun _ => 0)))] H := hP
  have hD : va_D A [(h0, .inr (0, [.ref q1, .ref q2, .int 0])), (q1, .inl (c1, 16384, .inl (fun _ => 0))), (q2, .inr (1, [.ref q3, .ref q4, .ref q6, .int 0, .int (-1)])), (q3, .inl (c3, 34, .inl (fun _ => 0))), (q4, .inr (2, [.ref q5, .int 0, .int 0, .int 0, .ref (ad 1000)])), (q5, .inl (c5, 0, .inl (fun _ => 0))), (q6, .inr (3, [.ref q7, .ref q8, .ref q9, .ref q10, .ref q11, .int 0])), (q7, .inl (c7, 1400, .inl (fun _ => 0))), (q8, .inl (c8, 1400, .inl (fun _ => 0))), (q9, .inl (c9, 1400, .inl (fun _ => 0))), (q10, .inl (c10, 1400, .inl (fun _ => 0))), (q11, .inl (c11, 0, .inl (fun _ => 0)))] := hD
  refine lv_aload_n hx hb (show decode prog_1_method_1_code 24 = .ok (.aload_n 0, 1) by decide +kernel) rfl (lv_at hl 0 rfl) ?_
  refine lv_iconst (v := 0) hx hb (show decode prog_1_method_1_code 25 = .ok (.iconst 0, 1) by decide +kernel) (by decide) ?_
  refine va_put (D := D) (ci := 0) (v := .int 0) (ty := .int) (C := "FilterReader") (T := T_FR) (N := 3) hx hb hts wi_FR ty_FR tk_FR_ty tk_FR_nm hown hK hP hD hS 0 rfl rfl 2 (by decide) (hts _ (tw1 108 rfl rfl)) (fun _ h9 => h9) rfl (by decide +kernel) rfl rfl (Nat.le_of_ble_eq_true rfl) (show decode prog_1_method_1_code 26 = .ok (.putfield 20, 3) by decide +kernel) (fun H locs hP hD hS => ?_)
  have hP : va_P D clA [(h0, .inr (0, [.ref q1, .ref q2, .int 0])), (q1, .inl (c1, 16384, .inl (fun _ => 0))), (q2, .inr (1, [.ref q3, .ref q4, .ref q6, .int 0, .int (-1)])), (q3, .inl (c3, 34, .inl (fun _ => 0))), (q4, .inr (2, [.ref q5, .int 0, .int 0, .int 0, .ref (ad 1000)])), (q5, .inl (c5, 0, .inl (fun _ => 0))), (q6, .inr (3, [.ref q7, .ref q8, .ref q9, .ref q10, .ref q11, .int 0])), (q7, .inl (c7, 1400, .inl (fun _ => 0))), (q8, .inl (c8, 1400, .inl (fun _ => 0))), (q9, .inl (c9, 1400, .inl (fun _ => 0))), (q10, .inl (c10, 1400, .inl (fun _ => 0))), (q11, .inl (c11, 0, .inl (fun _ => 0)))] H := hP
  have hD : va_D A [(h0, .inr (0, [.ref q1, .ref q2, .int 0])), (q1, .inl (c1, 16384, .inl (fun _ => 0))), (q2, .inr (1, [.ref q3, .ref q4, .ref q6, .int 0, .int (-1)])), (q3, .inl (c3, 34, .inl (fun _ => 0))), (q4, .inr (2, [.ref q5, .int 0, .int 0, .int 0, .ref (ad 1000)])), (q5, .inl (c5, 0, .inl (fun _ => 0))), (q6, .inr (3, [.ref q7, .ref q8, .ref q9, .ref q10, .ref q11, .int 0])), (q7, .inl (c7, 1400, .inl (fun _ => 0))), (q8, .inl (c8, 1400, .inl (fun _ => 0))), (q9, .inl (c9, 1400, .inl (fun _ => 0))), (q10, .inl (c10, 1400, .inl (fun _ => 0))), (q11, .inl (c11, 0, .inl (fun _ => 0)))] := hD
  refine W.widen (k := 11) (n := 22034) (Nat.le_of_ble_eq_true rfl) (Nat.le_of_ble_eq_true rfl) ?_
  exact W.vret hx hb hr (fun t ht hW => ⟨rfl, ⟨q1, q2, q3, q4, q5, q6, q7, q8, q9, q10, q11, c1, c3, c5, c7, c8, c9, c10, c11, by rw [ht]; exact hP, by rw [hAe] at hD; exact hD, hK⟩, by rw [hAe] at hS; exact hS.F ht⟩) hS.2.2 (show decode prog_1_method_1_code 29 = .ok (.return_, 1) by decide +kernel)

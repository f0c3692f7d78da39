/-! THE START, 4: the law from its entry. -/
set_option maxHeartbeats 4000000 in
set_option maxRecDepth 100000 in
/-- THE LAW, from its entry -/
theorem whole_start {p : Program} {e : Env} {s : State} {m : MethodId} {below : List Frame} {meth : Method} {c : Code} (l : Launch) (hst : l.stackTraces = false) {b L : Nat} {xs : Nat → Int32} (hL : L ≤ 3072) (C0 : lw_At p s m meth c b L xs) : W p l e room_1 s m #[Value.ref b] below meth c s.heap [] 0 0 (lw_Z below #[Value.ref b] s) (entryFrame m ([Value.ref b] : List Value).toArray 7) := by
  obtain ⟨hx, hb, hr, hml, hown, hts0, hX, hbl, hlocks, hgv⟩ := id C0
  have hts : ∀ w ∈ Tall, w.before #[Value.ref b] s = true := fun w hw => hts0 w (List.mem_filter.mp hw).1
  obtain ⟨cad, hsg, hinj⟩ := sg_start hgv hts0
  obtain ⟨k0, i0, K0⟩ := u_known (C := "FilterReader") (T := T_FR) (N := 3) (n := 3) hts wi_FR (hts _ (tw1 26 rfl rfl))
  obtain ⟨k1, i1, K1⟩ := u_known (C := "FilterReader$Grammar") (T := T_G) (N := 5) (n := 5) hts wi_G (hts _ (tw1 34 rfl rfl))
  obtain ⟨k2, i2, K2⟩ := u_known (C := "FilterReader$Signs") (T := T_S) (N := 5) (n := 5) hts wi_S (hts _ (tw1 40 rfl rfl))
  obtain ⟨k3, i3, K3⟩ := u_known (C := "FilterReader$Names") (T := T_N) (N := 6) (n := 6) hts wi_N (hts _ (tw1 66 rfl rfl))
  obtain ⟨k4, i4, K4⟩ := u_known (C := "FilterReaderModel") (T := T_M) (N := 22) (n := 22) hts wi_M (hts _ (tw3 218 rfl rfl))
  obtain ⟨k5, i5, K5⟩ := u_known (C := "java/lang/IllegalStateException") (T := T_X) (N := 0) (n := 6) hts (fun w hw => absurd hw (by simp [u_ws])) (hts _ (tw4 4 rfl rfl))
  obtain ⟨D, hDK⟩ : ∃ D : va_G, ∀ (k : Nat) (q : vw_C), clA[k]? = some q → u_Kn s q.1 q.2.1 q.2.2 (D.1 k) (D.2 k) := by
    refine ⟨(fun k => match k with | 0 => k0 | 1 => k1 | 2 => k2 | 3 => k3 | 4 => k4 | _ => k5, fun k => match k with | 0 => i0 | 1 => i1 | 2 => i2 | 3 => i3 | 4 => i4 | _ => i5), ?_⟩
    intro k q hq
    match k, hq with
    | 0, hq => cases hq; exact K0
    | 1, hq => cases hq; exact K1
    | 2, hq => cases hq; exact K2
    | 3, hq => cases hq; exact K3
    | 4, hq => cases hq; exact K4
    | 5, hq => cases hq; exact K5
    | k + 6, hq => simp [clA] at hq
  have hK : va_K D clA [] s := ⟨hDK, fun k q h => by simp at h⟩
  have hok0 : jm_Ok (P0x l D cad s.heap.size) := ok_of (fun o ci fs h => by simp at h) (fun i j hi => absurd hi (Nat.not_lt_zero _)) (fun k hk => absurd hk (Nat.not_lt_zero _)) hinj hst
  have hG0 : jm_G (P0x l D cad s.heap.size) s := g_of hts0 hK (fun o ty h => by rcases h with ⟨n, h⟩ | ⟨C, ids, -, h⟩ <;> exact absurd (show ([] : List jm_S)[o]? = some _ from h) (by simp)) hsg
  have hAO : va_AO "java/lang/String" s := va_AO.of (hts0 _ (List.mem_append_right _ (List.mem_append_right _ (List.mem_append_right _ (List.mem_append_left _ (List.mem_of_getElem? (i := 224) rfl))))))
  obtain ⟨A, hAe⟩ : ∃ A : Nat → Prop, A = fun q => s.heap.size ≤ q := ⟨_, rfl⟩
  have hA : ∀ q : Nat, s.heap.size ≤ q → A q := fun q h => by rw [hAe]; exact h
  have hAb : ∀ q : Nat, A q → s.heap.size ≤ q := fun q h => by rw [hAe] at h; exact h
  have hS : va_S A s.heap s.heap [] := va_S.rf
  have hP : va_P D clA [] s.heap := fun k q h => by simp at h
  have hD : va_D A [] := ⟨fun i j p q h => by simp at h, fun k q h => by simp at h⟩
  have hl := lv_entry ([.ref b]) (n := 7) (Nat.le_of_ble_eq_true rfl)
  rw [lg_entry_eq]
  generalize (lg_sl ([.ref b]) ++ List.replicate (7 - (lg_sl ([.ref b])).length) Slot.unset).toArray = la at hl ⊢
  have hl : lv_has la 7 [(0, .ref b)] := hl
  refine va_new (D := D) (ci := 0) (fs := [.null, .null, .int 0]) (C := "FilterReader") (T := T_FR) (N := 3) hx hb hts wi_FR ty_FR tk_FR_ty hown (hts _ (tw1 25 rfl rfl)) (hts _ (tw1 26 rfl rfl)) (hts _ (tw1 1 rfl rfl)) hK hP hD hS hA rfl (fun j hj => by rcases (show j = 0 ∨ j = 1 ∨ j = 2 by omega) with rfl | rfl | rfl <;> rfl) (Nat.le_of_ble_eq_true rfl) (Nat.le_of_ble_eq_true rfl) (show decode code 0 = .ok (.new 8, 3) by decide +kernel) (fun u0 H hP hD hS => ?_)
  have hP : va_P D clA [(u0, .inr (0, [.null, .null, .int 0]))] H := hP
  have hD : va_D A [(u0, .inr (0, [.null, .null, .int 0]))] := hD
  refine lv_dup hx hb (show decode code 3 = .ok (.dup, 1) by decide +kernel) rfl ?_
  have hPc := hP.sub (ws' := [(u0, .inr (0, [.null, .null, .int 0]))]) [0] rfl
  have hFc := va_free (wc := [(u0, .inr (0, [.null, .null, .int 0]))]) hD hS hA [0] rfl
  refine jc_call (A := A) hok0 hG0 hAO (k_FR hok0 u0) hx hb hown rfl rfl (by decide +kernel) (tw1 27 rfl rfl) (tw1 28 rfl rfl) (tw1 29 rfl rfl) (tw1 1 rfl rfl) (show decode code 4 = .ok (.invokespecial 30, 3) by decide +kernel) (by rw [hl.1, hml]) (Nat.le_of_ble_eq_true rfl) (Nat.le_of_ble_eq_true rfl) (Nat.le_of_ble_eq_true rfl) (Nat.le_of_ble_eq_true rfl) (Nat.le_of_ble_eq_true rfl) hPc hS hAb hA (hD.2 0 _ rfl) (fun u t Lc hu hW hB hz hk hS => ?_)
  obtain ⟨u1, u2, u3, u4, u5, u6, u7, u8, u9, u10, u11, v1, v3, v5, v7, v8, v9, v10, v11, hP1, hD1, hK1⟩ := hB
  rw [hu] at hD1
  have hK1 := va_K.moved hW.alike.symm hK1
  obtain ⟨hP, hD⟩ := va_join (wr := []) (w1 := [(u0, .inr (0, [.ref u1, .ref u2, .int 0])), (u1, .inl (v1, 16384, .inl (fun _ => 0))), (u2, .inr (1, [.ref u3, .ref u4, .ref u6, .int 0, .int (-1)])), (u3, .inl (v3, 34, .inl (fun _ => 0))), (u4, .inr (2, [.ref u5, .int 0, .int 0, .int 0, .ref (cad 1000)])), (u5, .inl (v5, 0, .inl (fun _ => 0))), (u6, .inr (3, [.ref u7, .ref u8, .ref u9, .ref u10, .ref u11, .int 0])), (u7, .inl (v7, 1400, .inl (fun _ => 0))), (u8, .inl (v8, 1400, .inl (fun _ => 0))), (u9, .inl (v9, 1400, .inl (fun _ => 0))), (u10, .inl (v10, 1400, .inl (fun _ => 0))), (u11, .inl (v11, 0, .inl (fun _ => 0)))]) hP hD [0] [] rfl rfl (by decide) (by decide) hk hFc hP1 hD1
  have hK := hK.app hK1
  generalize t.heap = H at hP hS ⊢
  generalize ([] ++ Lc : List Loc) = locs at hS ⊢
  have hP : va_P D clA [(u0, .inr (0, [.ref u1, .ref u2, .int 0])), (u1, .inl (v1, 16384, .inl (fun _ => 0))), (u2, .inr (1, [.ref u3, .ref u4, .ref u6, .int 0, .int (-1)])), (u3, .inl (v3, 34, .inl (fun _ => 0))), (u4, .inr (2, [.ref u5, .int 0, .int 0, .int 0, .ref (cad 1000)])), (u5, .inl (v5, 0, .inl (fun _ => 0))), (u6, .inr (3, [.ref u7, .ref u8, .ref u9, .ref u10, .ref u11, .int 0])), (u7, .inl (v7, 1400, .inl (fun _ => 0))), (u8, .inl (v8, 1400, .inl (fun _ => 0))), (u9, .inl (v9, 1400, .inl (fun _ => 0))), (u10, .inl (v10, 1400, .inl (fun _ => 0))), (u11, .inl (v11, 0, .inl (fun _ => 0)))] H := hP
  have hD : va_D A [(u0, .inr (0, [.ref u1, .ref u2, .int 0])), (u1, .inl (v1, 16384, .inl (fun _ => 0))), (u2, .inr (1, [.ref u3, .ref u4, .ref u6, .int 0, .int (-1)])), (u3, .inl (v3, 34, .inl (fun _ => 0))), (u4, .inr (2, [.ref u5, .int 0, .int 0, .int 0, .ref (cad 1000)])), (u5, .inl (v5, 0, .inl (fun _ => 0))), (u6, .inr (3, [.ref u7, .ref u8, .ref u9, .ref u10, .ref u11, .int 0])), (u7, .inl (v7, 1400, .inl (fun _ => 0))), (u8, .inl (v8, 1400, .inl (fun _ => 0))), (u9, .inl (v9, 1400, .inl (fun _ => 0))), (u10, .inl (v10, 1400, .inl (fun _ => 0))), (u11, .inl (v11, 0, .inl (fun _ => 0)))] := hD
  have hK : va_K D clA [(v1, .byte), (v3, .int), (v5, .byte), (v7, .int), (v8, .int), (v9, .int), (v10, .int), (v11, .byte)] s := hK
  refine lv_astore_n (lv' := [(1, .ref u0), (0, .ref b)]) hx hb (show decode code 7 = .ok (.astore_n 1, 1) by decide +kernel) rfl hl (by decide) rfl (fun la hl => ?_)
  refine va_new (D := D) (ci := 4) (fs := [.null, .null, .null, .null, .null, .int 0, .int 0, .int 0, .int 0, .int 0, .int 0, .int 0, .int 0, .null, .null, .int 0, .null, .null, .null, .null, .null, .int 0]) (C := "FilterReaderModel") (T := T_M) (N := 22) hx hb hts wi_M ty_M tk_M_ty hown (hts _ (tw3 217 rfl rfl)) (hts _ (tw3 218 rfl rfl)) (hts _ (tw1 7 rfl rfl)) hK hP hD hS hA rfl (fun j hj => by rcases (show j = 0 ∨ j = 1 ∨ j = 2 ∨ j = 3 ∨ j = 4 ∨ j = 5 ∨ j = 6 ∨ j = 7 ∨ j = 8 ∨ j = 9 ∨ j = 10 ∨ j = 11 ∨ j = 12 ∨ j = 13 ∨ j = 14 ∨ j = 15 ∨ j = 16 ∨ j = 17 ∨ j = 18 ∨ j = 19 ∨ j = 20 ∨ j = 21 by omega) with rfl | rfl | rfl | rfl | rfl | rfl | rfl | rfl | rfl | rfl | rfl | rfl | rfl | rfl | rfl | rfl | rfl | rfl | rfl | rfl | rfl | rfl <;> rfl) (Nat.le_of_ble_eq_true rfl) (Nat.le_of_ble_eq_true rfl) (show decode code 8 = .ok (.new 31, 3) by decide +kernel) (fun w0 H hP hD hS => ?_)
  have hP : va_P D clA [(u0, .inr (0, [.ref u1, .ref u2, .int 0])), (u1, .inl (v1, 16384, .inl (fun _ => 0))), (u2, .inr (1, [.ref u3, .ref u4, .ref u6, .int 0, .int (-1)])), (u3, .inl (v3, 34, .inl (fun _ => 0))), (u4, .inr (2, [.ref u5, .int 0, .int 0, .int 0, .ref (cad 1000)])), (u5, .inl (v5, 0, .inl (fun _ => 0))), (u6, .inr (3, [.ref u7, .ref u8, .ref u9, .ref u10, .ref u11, .int 0])), (u7, .inl (v7, 1400, .inl (fun _ => 0))), (u8, .inl (v8, 1400, .inl (fun _ => 0))), (u9, .inl (v9, 1400, .inl (fun _ => 0))), (u10, .inl (v10, 1400, .inl (fun _ => 0))), (u11, .inl (v11, 0, .inl (fun _ => 0))), (w0, .inr (4, [.null, .null, .null, .null, .null, .int 0, .int 0, .int 0, .int 0, .int 0, .int 0, .int 0, .int 0, .null, .null, .int 0, .null, .null, .null, .null, .null, .int 0]))] H := hP
  have hD : va_D A [(u0, .inr (0, [.ref u1, .ref u2, .int 0])), (u1, .inl (v1, 16384, .inl (fun _ => 0))), (u2, .inr (1, [.ref u3, .ref u4, .ref u6, .int 0, .int (-1)])), (u3, .inl (v3, 34, .inl (fun _ => 0))), (u4, .inr (2, [.ref u5, .int 0, .int 0, .int 0, .ref (cad 1000)])), (u5, .inl (v5, 0, .inl (fun _ => 0))), (u6, .inr (3, [.ref u7, .ref u8, .ref u9, .ref u10, .ref u11, .int 0])), (u7, .inl (v7, 1400, .inl (fun _ => 0))), (u8, .inl (v8, 1400, .inl (fun _ => 0))), (u9, .inl (v9, 1400, .inl (fun _ => 0))), (u10, .inl (v10, 1400, .inl (fun _ => 0))), (u11, .inl (v11, 0, .inl (fun _ => 0))), (w0, .inr (4, [.null, .null, .null, .null, .null, .int 0, .int 0, .int 0, .int 0, .int 0, .int 0, .int 0, .int 0, .null, .null, .int 0, .null, .null, .null, .null, .null, .int 0]))] := hD
  refine lv_dup hx hb (show decode code 11 = .ok (.dup, 1) by decide +kernel) rfl ?_
  have hPc := hP.sub (ws' := [(w0, .inr (4, [.null, .null, .null, .null, .null, .int 0, .int 0, .int 0, .int 0, .int 0, .int 0, .int 0, .int 0, .null, .null, .int 0, .null, .null, .null, .null, .null, .int 0]))]) [12] rfl
  have hFc := va_free (wc := [(w0, .inr (4, [.null, .null, .null, .null, .null, .int 0, .int 0, .int 0, .int 0, .int 0, .int 0, .int 0, .int 0, .null, .null, .int 0, .null, .null, .null, .null, .null, .int 0]))]) hD hS hA [12] rfl
  refine jc_call (A := A) hok0 hG0 hAO (k_Model hok0 w0) hx hb hown rfl rfl (by decide +kernel) (tw3 219 rfl rfl) (tw3 220 rfl rfl) (tw3 221 rfl rfl) (tw1 7 rfl rfl) (show decode code 12 = .ok (.invokespecial 33, 3) by decide +kernel) (by rw [hl.1, hml]) (Nat.le_of_ble_eq_true rfl) (Nat.le_of_ble_eq_true rfl) (Nat.le_of_ble_eq_true rfl) (Nat.le_of_ble_eq_true rfl) (Nat.le_of_ble_eq_true rfl) hPc hS hAb hA (hD.2 12 _ rfl) (fun u t Lc hu hW hB hz hk hS => ?_)
  obtain ⟨w1, w2, w3, w4, w5, w6, w7, w8, w9, z1, z3, z4, z5, z6, z7, z8, z9, hP1, hD1, hK1⟩ := hB
  rw [hu] at hD1
  have hK1 := va_K.moved hW.alike.symm hK1
  obtain ⟨hP, hD⟩ := va_join (wr := [(u0, .inr (0, [.ref u1, .ref u2, .int 0])), (u1, .inl (v1, 16384, .inl (fun _ => 0))), (u2, .inr (1, [.ref u3, .ref u4, .ref u6, .int 0, .int (-1)])), (u3, .inl (v3, 34, .inl (fun _ => 0))), (u4, .inr (2, [.ref u5, .int 0, .int 0, .int 0, .ref (cad 1000)])), (u5, .inl (v5, 0, .inl (fun _ => 0))), (u6, .inr (3, [.ref u7, .ref u8, .ref u9, .ref u10, .ref u11, .int 0])), (u7, .inl (v7, 1400, .inl (fun _ => 0))), (u8, .inl (v8, 1400, .inl (fun _ => 0))), (u9, .inl (v9, 1400, .inl (fun _ => 0))), (u10, .inl (v10, 1400, .inl (fun _ => 0))), (u11, .inl (v11, 0, .inl (fun _ => 0)))]) (w1 := [(w0, .inr (4, [.ref w1, .ref (cad 2018), .ref (cad 2019), .ref (cad 2020), .ref w2, .int 0, .int 0, .int (-1), .int 0, .int 0, .int 0, .int 0, .int 0, .ref w3, .ref w4, .int 0, .ref w5, .ref w6, .ref w7, .ref w8, .ref w9, .int 0])), (w1, .inl (z1, 15, .inr (.inr (.inr (.inr (fun i => (wdR[i]?).map cad)))))), (w2, .inr (5, [])), (w3, .inl (z3, 16384, .inl (fun _ => 0))), (w4, .inl (z4, 34, .inl (fun _ => 0))), (w5, .inl (z5, 17000, .inl (fun _ => 0))), (w6, .inl (z6, 17000, .inl (fun _ => 0))), (w7, .inl (z7, 17000, .inl (fun _ => 0))), (w8, .inl (z8, 17000, .inl (fun _ => 0))), (w9, .inl (z9, 17000, .inl (fun _ => 0)))]) hP hD [12] [0, 1, 2, 3, 4, 5, 6, 7, 8, 9, 10, 11] rfl rfl (by decide) (by decide) hk hFc hP1 hD1
  have hK := hK.app hK1
  generalize t.heap = H at hP hS ⊢
  generalize (locs ++ Lc : List Loc) = locs at hS ⊢
  have hP : va_P D clA [(u0, .inr (0, [.ref u1, .ref u2, .int 0])), (u1, .inl (v1, 16384, .inl (fun _ => 0))), (u2, .inr (1, [.ref u3, .ref u4, .ref u6, .int 0, .int (-1)])), (u3, .inl (v3, 34, .inl (fun _ => 0))), (u4, .inr (2, [.ref u5, .int 0, .int 0, .int 0, .ref (cad 1000)])), (u5, .inl (v5, 0, .inl (fun _ => 0))), (u6, .inr (3, [.ref u7, .ref u8, .ref u9, .ref u10, .ref u11, .int 0])), (u7, .inl (v7, 1400, .inl (fun _ => 0))), (u8, .inl (v8, 1400, .inl (fun _ => 0))), (u9, .inl (v9, 1400, .inl (fun _ => 0))), (u10, .inl (v10, 1400, .inl (fun _ => 0))), (u11, .inl (v11, 0, .inl (fun _ => 0))), (w0, .inr (4, [.ref w1, .ref (cad 2018), .ref (cad 2019), .ref (cad 2020), .ref w2, .int 0, .int 0, .int (-1), .int 0, .int 0, .int 0, .int 0, .int 0, .ref w3, .ref w4, .int 0, .ref w5, .ref w6, .ref w7, .ref w8, .ref w9, .int 0])), (w1, .inl (z1, 15, .inr (.inr (.inr (.inr (fun i => (wdR[i]?).map cad)))))), (w2, .inr (5, [])), (w3, .inl (z3, 16384, .inl (fun _ => 0))), (w4, .inl (z4, 34, .inl (fun _ => 0))), (w5, .inl (z5, 17000, .inl (fun _ => 0))), (w6, .inl (z6, 17000, .inl (fun _ => 0))), (w7, .inl (z7, 17000, .inl (fun _ => 0))), (w8, .inl (z8, 17000, .inl (fun _ => 0))), (w9, .inl (z9, 17000, .inl (fun _ => 0)))] H := hP
  have hD : va_D A [(u0, .inr (0, [.ref u1, .ref u2, .int 0])), (u1, .inl (v1, 16384, .inl (fun _ => 0))), (u2, .inr (1, [.ref u3, .ref u4, .ref u6, .int 0, .int (-1)])), (u3, .inl (v3, 34, .inl (fun _ => 0))), (u4, .inr (2, [.ref u5, .int 0, .int 0, .int 0, .ref (cad 1000)])), (u5, .inl (v5, 0, .inl (fun _ => 0))), (u6, .inr (3, [.ref u7, .ref u8, .ref u9, .ref u10, .ref u11, .int 0])), (u7, .inl (v7, 1400, .inl (fun _ => 0))), (u8, .inl (v8, 1400, .inl (fun _ => 0))), (u9, .inl (v9, 1400, .inl (fun _ => 0))), (u10, .inl (v10, 1400, .inl (fun _ => 0))), (u11, .inl (v11, 0, .inl (fun _ => 0))), (w0, .inr (4, [.ref w1, .ref (cad 2018), .ref (cad 2019), .ref (cad 2020), .ref w2, .int 0, .int 0, .int (-1), .int 0, .int 0, .int 0, .int 0, .int 0, .ref w3, .ref w4, .int 0, .ref w5, .ref w6, .ref w7, .ref w8, .ref w9, .int 0])), (w1, .inl (z1, 15, .inr (.inr (.inr (.inr (fun i => (wdR[i]?).map cad)))))), (w2, .inr (5, [])), (w3, .inl (z3, 16384, .inl (fun _ => 0))), (w4, .inl (z4, 34, .inl (fun _ => 0))), (w5, .inl (z5, 17000, .inl (fun _ => 0))), (w6, .inl (z6, 17000, .inl (fun _ => 0))), (w7, .inl (z7, 17000, .inl (fun _ => 0))), (w8, .inl (z8, 17000, .inl (fun _ => 0))), (w9, .inl (z9, 17000, .inl (fun _ => 0)))] := hD
  have hK : va_K D clA [(v1, .byte), (v3, .int), (v5, .byte), (v7, .int), (v8, .int), (v9, .int), (v10, .int), (v11, .byte), (z1, .object "java/lang/String"), (z3, .byte), (z4, .int), (z5, .int), (z6, .int), (z7, .int), (z8, .int), (z9, .boolean)] s := hK
  refine lv_astore_n (lv' := [(2, .ref w0), (1, .ref u0), (0, .ref b)]) hx hb (show decode code 15 = .ok (.astore_n 2, 1) by decide +kernel) rfl hl (by decide) rfl (fun la hl => ?_)
  refine lv_iconst (v := 1) hx hb (show decode code 16 = .ok (.iconst 1, 1) by decide +kernel) (by decide) ?_
  refine va_newa (atype := .long) (ty := .long) (a0 := (1, .inr (.inl (fun _ => 0)))) (N' := 1) hx hb (hts _ (tw5 125 rfl rfl)) rfl hK hP hD hS hA (fun cA => rfl) (by decide) rfl (by decide) (Nat.le_of_ble_eq_true rfl) (Nat.le_of_ble_eq_true rfl) (show decode code 17 = .ok (.newarray .long, 2) by decide +kernel) (fun qo cA H hK hP hD hS => ?_)
  have hP : va_P D clA [(u0, .inr (0, [.ref u1, .ref u2, .int 0])), (u1, .inl (v1, 16384, .inl (fun _ => 0))), (u2, .inr (1, [.ref u3, .ref u4, .ref u6, .int 0, .int (-1)])), (u3, .inl (v3, 34, .inl (fun _ => 0))), (u4, .inr (2, [.ref u5, .int 0, .int 0, .int 0, .ref (cad 1000)])), (u5, .inl (v5, 0, .inl (fun _ => 0))), (u6, .inr (3, [.ref u7, .ref u8, .ref u9, .ref u10, .ref u11, .int 0])), (u7, .inl (v7, 1400, .inl (fun _ => 0))), (u8, .inl (v8, 1400, .inl (fun _ => 0))), (u9, .inl (v9, 1400, .inl (fun _ => 0))), (u10, .inl (v10, 1400, .inl (fun _ => 0))), (u11, .inl (v11, 0, .inl (fun _ => 0))), (w0, .inr (4, [.ref w1, .ref (cad 2018), .ref (cad 2019), .ref (cad 2020), .ref w2, .int 0, .int 0, .int (-1), .int 0, .int 0, .int 0, .int 0, .int 0, .ref w3, .ref w4, .int 0, .ref w5, .ref w6, .ref w7, .ref w8, .ref w9, .int 0])), (w1, .inl (z1, 15, .inr (.inr (.inr (.inr (fun i => (wdR[i]?).map cad)))))), (w2, .inr (5, [])), (w3, .inl (z3, 16384, .inl (fun _ => 0))), (w4, .inl (z4, 34, .inl (fun _ => 0))), (w5, .inl (z5, 17000, .inl (fun _ => 0))), (w6, .inl (z6, 17000, .inl (fun _ => 0))), (w7, .inl (z7, 17000, .inl (fun _ => 0))), (w8, .inl (z8, 17000, .inl (fun _ => 0))), (w9, .inl (z9, 17000, .inl (fun _ => 0))), (qo, .inl (cA, 1, .inr (.inl (fun _ => 0))))] H := hP
  have hD : va_D A [(u0, .inr (0, [.ref u1, .ref u2, .int 0])), (u1, .inl (v1, 16384, .inl (fun _ => 0))), (u2, .inr (1, [.ref u3, .ref u4, .ref u6, .int 0, .int (-1)])), (u3, .inl (v3, 34, .inl (fun _ => 0))), (u4, .inr (2, [.ref u5, .int 0, .int 0, .int 0, .ref (cad 1000)])), (u5, .inl (v5, 0, .inl (fun _ => 0))), (u6, .inr (3, [.ref u7, .ref u8, .ref u9, .ref u10, .ref u11, .int 0])), (u7, .inl (v7, 1400, .inl (fun _ => 0))), (u8, .inl (v8, 1400, .inl (fun _ => 0))), (u9, .inl (v9, 1400, .inl (fun _ => 0))), (u10, .inl (v10, 1400, .inl (fun _ => 0))), (u11, .inl (v11, 0, .inl (fun _ => 0))), (w0, .inr (4, [.ref w1, .ref (cad 2018), .ref (cad 2019), .ref (cad 2020), .ref w2, .int 0, .int 0, .int (-1), .int 0, .int 0, .int 0, .int 0, .int 0, .ref w3, .ref w4, .int 0, .ref w5, .ref w6, .ref w7, .ref w8, .ref w9, .int 0])), (w1, .inl (z1, 15, .inr (.inr (.inr (.inr (fun i => (wdR[i]?).map cad)))))), (w2, .inr (5, [])), (w3, .inl (z3, 16384, .inl (fun _ => 0))), (w4, .inl (z4, 34, .inl (fun _ => 0))), (w5, .inl (z5, 17000, .inl (fun _ => 0))), (w6, .inl (z6, 17000, .inl (fun _ => 0))), (w7, .inl (z7, 17000, .inl (fun _ => 0))), (w8, .inl (z8, 17000, .inl (fun _ => 0))), (w9, .inl (z9, 17000, .inl (fun _ => 0))), (qo, .inl (cA, 1, .inr (.inl (fun _ => 0))))] := hD
  have hK : va_K D clA [(v1, .byte), (v3, .int), (v5, .byte), (v7, .int), (v8, .int), (v9, .int), (v10, .int), (v11, .byte), (z1, .object "java/lang/String"), (z3, .byte), (z4, .int), (z5, .int), (z6, .int), (z7, .int), (z8, .int), (z9, .boolean), (cA, .long)] s := hK
  refine lv_astore_n (lv' := [(3, .ref qo), (2, .ref w0), (1, .ref u0), (0, .ref b)]) hx hb (show decode code 19 = .ok (.astore_n 3, 1) by decide +kernel) rfl hl (by decide) rfl (fun la hl => ?_)
  refine lv_iconst (v := 0) hx hb (show decode code 20 = .ok (.iconst 0, 1) by decide +kernel) (by decide) ?_
  refine lv_istore (lv' := [(4, .int 0), (3, .ref qo), (2, .ref w0), (1, .ref u0), (0, .ref b)]) hx hb (show decode code 21 = .ok (.istore 4, 2) by decide +kernel) hl (by decide) rfl (fun la hl => ?_)
  obtain ⟨adC, hadC⟩ : ∃ adC : Nat → Nat, adC = (fun k => if k = 700 then qo else if 900 ≤ k then cad k else ([u0, u1, u2, u3, u4, u5, u6, u7, u8, u9, u10, u11] : List Nat).getD k 0) := ⟨_, rfl⟩
  obtain ⟨adR, hadR⟩ : ∃ adR : Nat → Nat, adR = (fun k => if 900 ≤ k then cad k else ([w0, w1, w2, w3, w4, w5, w6, w7, w8, w9] : List Nat).getD k 0) := ⟨_, rfl⟩
  obtain ⟨aC, haC⟩ : ∃ aC : Nat → ClassId, aC = (fun k => ([0, v1, 0, v3, 0, v5, 0, v7, v8, v9, v10, v11] : List ClassId).getD k 0) := ⟨_, rfl⟩
  obtain ⟨aR, haR⟩ : ∃ aR : Nat → ClassId, aR = (fun k => ([0, z1, 0, z3, z4, z5, z6, z7, z8, z9] : List ClassId).getD k 0) := ⟨_, rfl⟩
  have cC : ∀ k, 900 ≤ k → adC k = cad k := fun k hk => by rw [hadC]; simp only []; rw [if_neg (by omega), if_pos hk]
  have cR : ∀ k, 900 ≤ k → adR k = cad k := fun k hk => by rw [hadR]; simp only []; rw [if_pos hk]
  have oC : adC 700 = qo := by rw [hadC]; rfl
  have wC : ∀ k, k < 12 → ∃ ev, ([(u0, .inr (0, [.ref u1, .ref u2, .int 0])), (u1, .inl (v1, 16384, .inl (fun _ => 0))), (u2, .inr (1, [.ref u3, .ref u4, .ref u6, .int 0, .int (-1)])), (u3, .inl (v3, 34, .inl (fun _ => 0))), (u4, .inr (2, [.ref u5, .int 0, .int 0, .int 0, .ref (cad 1000)])), (u5, .inl (v5, 0, .inl (fun _ => 0))), (u6, .inr (3, [.ref u7, .ref u8, .ref u9, .ref u10, .ref u11, .int 0])), (u7, .inl (v7, 1400, .inl (fun _ => 0))), (u8, .inl (v8, 1400, .inl (fun _ => 0))), (u9, .inl (v9, 1400, .inl (fun _ => 0))), (u10, .inl (v10, 1400, .inl (fun _ => 0))), (u11, .inl (v11, 0, .inl (fun _ => 0))), (w0, .inr (4, [.ref w1, .ref (cad 2018), .ref (cad 2019), .ref (cad 2020), .ref w2, .int 0, .int 0, .int (-1), .int 0, .int 0, .int 0, .int 0, .int 0, .ref w3, .ref w4, .int 0, .ref w5, .ref w6, .ref w7, .ref w8, .ref w9, .int 0])), (w1, .inl (z1, 15, .inr (.inr (.inr (.inr (fun i => (wdR[i]?).map cad)))))), (w2, .inr (5, [])), (w3, .inl (z3, 16384, .inl (fun _ => 0))), (w4, .inl (z4, 34, .inl (fun _ => 0))), (w5, .inl (z5, 17000, .inl (fun _ => 0))), (w6, .inl (z6, 17000, .inl (fun _ => 0))), (w7, .inl (z7, 17000, .inl (fun _ => 0))), (w8, .inl (z8, 17000, .inl (fun _ => 0))), (w9, .inl (z9, 17000, .inl (fun _ => 0))), (qo, .inl (cA, 1, .inr (.inl (fun _ => 0))))] : va_W)[k]? = some (adC k, ev) := by
    intro k hk
    rw [hadC]
    match k, hk with
    | 0, _ => exact ⟨_, rfl⟩
    | 1, _ => exact ⟨_, rfl⟩
    | 2, _ => exact ⟨_, rfl⟩
    | 3, _ => exact ⟨_, rfl⟩
    | 4, _ => exact ⟨_, rfl⟩
    | 5, _ => exact ⟨_, rfl⟩
    | 6, _ => exact ⟨_, rfl⟩
    | 7, _ => exact ⟨_, rfl⟩
    | 8, _ => exact ⟨_, rfl⟩
    | 9, _ => exact ⟨_, rfl⟩
    | 10, _ => exact ⟨_, rfl⟩
    | 11, _ => exact ⟨_, rfl⟩
  have wR : ∀ k, k < 10 → ∃ ev, ([(u0, .inr (0, [.ref u1, .ref u2, .int 0])), (u1, .inl (v1, 16384, .inl (fun _ => 0))), (u2, .inr (1, [.ref u3, .ref u4, .ref u6, .int 0, .int (-1)])), (u3, .inl (v3, 34, .inl (fun _ => 0))), (u4, .inr (2, [.ref u5, .int 0, .int 0, .int 0, .ref (cad 1000)])), (u5, .inl (v5, 0, .inl (fun _ => 0))), (u6, .inr (3, [.ref u7, .ref u8, .ref u9, .ref u10, .ref u11, .int 0])), (u7, .inl (v7, 1400, .inl (fun _ => 0))), (u8, .inl (v8, 1400, .inl (fun _ => 0))), (u9, .inl (v9, 1400, .inl (fun _ => 0))), (u10, .inl (v10, 1400, .inl (fun _ => 0))), (u11, .inl (v11, 0, .inl (fun _ => 0))), (w0, .inr (4, [.ref w1, .ref (cad 2018), .ref (cad 2019), .ref (cad 2020), .ref w2, .int 0, .int 0, .int (-1), .int 0, .int 0, .int 0, .int 0, .int 0, .ref w3, .ref w4, .int 0, .ref w5, .ref w6, .ref w7, .ref w8, .ref w9, .int 0])), (w1, .inl (z1, 15, .inr (.inr (.inr (.inr (fun i => (wdR[i]?).map cad)))))), (w2, .inr (5, [])), (w3, .inl (z3, 16384, .inl (fun _ => 0))), (w4, .inl (z4, 34, .inl (fun _ => 0))), (w5, .inl (z5, 17000, .inl (fun _ => 0))), (w6, .inl (z6, 17000, .inl (fun _ => 0))), (w7, .inl (z7, 17000, .inl (fun _ => 0))), (w8, .inl (z8, 17000, .inl (fun _ => 0))), (w9, .inl (z9, 17000, .inl (fun _ => 0))), (qo, .inl (cA, 1, .inr (.inl (fun _ => 0))))] : va_W)[12 + k]? = some (adR k, ev) := by
    intro k hk
    rw [hadR]
    match k, hk with
    | 0, _ => exact ⟨_, rfl⟩
    | 1, _ => exact ⟨_, rfl⟩
    | 2, _ => exact ⟨_, rfl⟩
    | 3, _ => exact ⟨_, rfl⟩
    | 4, _ => exact ⟨_, rfl⟩
    | 5, _ => exact ⟨_, rfl⟩
    | 6, _ => exact ⟨_, rfl⟩
    | 7, _ => exact ⟨_, rfl⟩
    | 8, _ => exact ⟨_, rfl⟩
    | 9, _ => exact ⟨_, rfl⟩
  have wO : ∃ ev, ([(u0, .inr (0, [.ref u1, .ref u2, .int 0])), (u1, .inl (v1, 16384, .inl (fun _ => 0))), (u2, .inr (1, [.ref u3, .ref u4, .ref u6, .int 0, .int (-1)])), (u3, .inl (v3, 34, .inl (fun _ => 0))), (u4, .inr (2, [.ref u5, .int 0, .int 0, .int 0, .ref (cad 1000)])), (u5, .inl (v5, 0, .inl (fun _ => 0))), (u6, .inr (3, [.ref u7, .ref u8, .ref u9, .ref u10, .ref u11, .int 0])), (u7, .inl (v7, 1400, .inl (fun _ => 0))), (u8, .inl (v8, 1400, .inl (fun _ => 0))), (u9, .inl (v9, 1400, .inl (fun _ => 0))), (u10, .inl (v10, 1400, .inl (fun _ => 0))), (u11, .inl (v11, 0, .inl (fun _ => 0))), (w0, .inr (4, [.ref w1, .ref (cad 2018), .ref (cad 2019), .ref (cad 2020), .ref w2, .int 0, .int 0, .int (-1), .int 0, .int 0, .int 0, .int 0, .int 0, .ref w3, .ref w4, .int 0, .ref w5, .ref w6, .ref w7, .ref w8, .ref w9, .int 0])), (w1, .inl (z1, 15, .inr (.inr (.inr (.inr (fun i => (wdR[i]?).map cad)))))), (w2, .inr (5, [])), (w3, .inl (z3, 16384, .inl (fun _ => 0))), (w4, .inl (z4, 34, .inl (fun _ => 0))), (w5, .inl (z5, 17000, .inl (fun _ => 0))), (w6, .inl (z6, 17000, .inl (fun _ => 0))), (w7, .inl (z7, 17000, .inl (fun _ => 0))), (w8, .inl (z8, 17000, .inl (fun _ => 0))), (w9, .inl (z9, 17000, .inl (fun _ => 0))), (qo, .inl (cA, 1, .inr (.inl (fun _ => 0))))] : va_W)[22]? = some (adC 700, ev) := by
    rw [oC]; exact ⟨_, rfl⟩
  have okC : jm_Ok (PCx l s D adC aC) := by
    refine ok_of small_C (fun i j hi hj he => ?_) (fun k hk => ?_) (fun i j hi hj he => hinj i j hi hj (by rw [cC _ (by omega), cC _ (by omega)] at he; exact he)) hst
    · obtain ⟨e1, h1⟩ := wC i hi
      obtain ⟨e2, h2⟩ := wC j hj
      exact hD.1 i j _ _ h1 h2 he
    · obtain ⟨e1, h1⟩ := wC k hk
      exact hAb _ (hD.2 k _ h1)
  have okR : jm_Ok (PRx l s (fun k => D.1 (k + 4), fun k => D.2 (k + 4)) adR aR) := by
    refine ok_of small_R (fun i j hi hj he => ?_) (fun k hk => ?_) (fun i j hi hj he => hinj i j hi hj (by rw [cR _ (by omega), cR _ (by omega)] at he; exact he)) hst
    · obtain ⟨e1, h1⟩ := wR i hi
      obtain ⟨e2, h2⟩ := wR j hj
      have := hD.1 (12 + i) (12 + j) _ _ h1 h2 he
      omega
    · obtain ⟨e1, h1⟩ := wR k hk
      exact hAb _ (hD.2 (12 + k) _ h1)
  have KC : va_K D clC [] s := ⟨fun k q hq => hDK k q (by
      match k, hq with
      | 0, hq => exact hq
      | 1, hq => exact hq
      | 2, hq => exact hq
      | 3, hq => exact hq
      | k + 4, hq => simp at hq), fun k q h => by simp at h⟩
  have KR : va_K (fun k => D.1 (k + 4), fun k => D.2 (k + 4)) clR [] s := ⟨fun k q hq => by
      match k, hq with
      | 0, hq => exact hDK 4 q hq
      | 1, hq => exact hDK 5 q hq
      | k + 2, hq => simp at hq, fun k q h => by simp at h⟩
  have gC : jm_G (PCx l s D adC aC) s := by
    refine g_of hts0 KC ?_ (sgA_congr cC hsg)
    intro o ty ho
    show ArrOfT s (aC o) ty ∧ va_RA s (aC o) ty
    rw [haC]
    rcases ho with ⟨n, ho⟩ | ⟨C, ids, -, ho⟩
    · match o, ho with
      | 0, ho => cases ho
      | 1, ho => cases ho; exact hK.2 0 _ rfl
      | 2, ho => cases ho
      | 3, ho => cases ho; exact hK.2 1 _ rfl
      | 4, ho => cases ho
      | 5, ho => cases ho; exact hK.2 2 _ rfl
      | 6, ho => cases ho
      | 7, ho => cases ho; exact hK.2 3 _ rfl
      | 8, ho => cases ho; exact hK.2 4 _ rfl
      | 9, ho => cases ho; exact hK.2 5 _ rfl
      | 10, ho => cases ho; exact hK.2 6 _ rfl
      | 11, ho => cases ho; exact hK.2 7 _ rfl
      | o + 12, ho => exact absurd (show shC[o + 12]? = some _ from ho) (by simp [shC])
    · match o, ho with
      | 0, ho => cases ho
      | 1, ho => cases ho
      | 2, ho => cases ho
      | 3, ho => cases ho
      | 4, ho => cases ho
      | 5, ho => cases ho
      | 6, ho => cases ho
      | 7, ho => cases ho
      | 8, ho => cases ho
      | 9, ho => cases ho
      | 10, ho => cases ho
      | 11, ho => cases ho
      | o + 12, ho => exact absurd (show shC[o + 12]? = some _ from ho) (by simp [shC])
  have gR : jm_G (PRx l s (fun k => D.1 (k + 4), fun k => D.2 (k + 4)) adR aR) s := by
    refine g_of hts0 KR ?_ (sgA_congr cR hsg)
    intro o ty ho
    show ArrOfT s (aR o) ty ∧ va_RA s (aR o) ty
    rw [haR]
    rcases ho with ⟨n, ho⟩ | ⟨C, ids, hty, ho⟩
    · match o, ho with
      | 0, ho => cases ho
      | 1, ho => cases ho
      | 2, ho => cases ho
      | 3, ho => cases ho; exact hK.2 9 _ rfl
      | 4, ho => cases ho; exact hK.2 10 _ rfl
      | 5, ho => cases ho; exact hK.2 11 _ rfl
      | 6, ho => cases ho; exact hK.2 12 _ rfl
      | 7, ho => cases ho; exact hK.2 13 _ rfl
      | 8, ho => cases ho; exact hK.2 14 _ rfl
      | 9, ho => cases ho; exact hK.2 15 _ rfl
      | o + 10, ho => exact absurd (show shR[o + 10]? = some _ from ho) (by simp [shR])
    · match o, ho with
      | 0, ho => cases ho
      | 1, ho => cases ho; subst hty; exact hK.2 8 _ rfl
      | 2, ho => cases ho
      | 3, ho => cases ho
      | 4, ho => cases ho
      | 5, ho => cases ho
      | 6, ho => cases ho
      | 7, ho => cases ho
      | 8, ho => cases ho
      | 9, ho => cases ho
      | o + 10, ho => exact absurd (show shR[o + 10]? = some _ from ho) (by simp [shR])
  have fx : LwFX l s D (fun k => D.1 (k + 4), fun k => D.2 (k + 4)) adC adR aC aR cA := by
    refine ⟨okC, okR, gC, gR, hK.2 16 _ rfl, fun k j hk hj he => ?_, fun k hk he => ?_, fun j hj he => ?_, ?_⟩
    · obtain ⟨e1, h1⟩ := wC k hk
      obtain ⟨e2, h2⟩ := wR j hj
      have := hD.1 k (12 + j) _ _ h1 h2 he
      omega
    · obtain ⟨e1, h1⟩ := wC k hk
      obtain ⟨e2, h2⟩ := wO
      have := hD.1 k 22 _ _ h1 h2 he
      omega
    · obtain ⟨e1, h1⟩ := wR j hj
      obtain ⟨e2, h2⟩ := wO
      have := hD.1 (12 + j) 22 _ _ h1 h2 he
      omega
    · obtain ⟨e1, h1⟩ := wO
      exact hAb _ (hD.2 22 _ h1)
  have hI : LwI l s D (fun k => D.1 (k + 4), fun k => D.2 (k + 4)) adC adR aC aR cA H locs (fun _ => 0) xC0 xR0 := by
    refine ⟨w_C (cad := cad) (by rw [hadC]; rfl) (by rw [hadC]; rfl) (by rw [hadC]; rfl) (by rw [hadC]; rfl) (by rw [hadC]; rfl) (by rw [hadC]; rfl) (by rw [hadC]; rfl) (by rw [hadC]; rfl) (by rw [hadC]; rfl) (by rw [hadC]; rfl) (by rw [hadC]; rfl) (by rw [hadC]; rfl) (by rw [haC]; rfl) (by rw [haC]; rfl) (by rw [haC]; rfl) (by rw [haC]; rfl) (by rw [haC]; rfl) (by rw [haC]; rfl) (by rw [haC]; rfl) (by rw [haC]; rfl) (cC 1000 (by omega)) (hP.sub [0, 1, 2, 3, 4, 5, 6, 7, 8, 9, 10, 11] rfl), w_R (cad := cad) (by rw [hadR]; rfl) (by rw [hadR]; rfl) (by rw [hadR]; rfl) (by rw [hadR]; rfl) (by rw [hadR]; rfl) (by rw [hadR]; rfl) (by rw [hadR]; rfl) (by rw [hadR]; rfl) (by rw [hadR]; rfl) (by rw [hadR]; rfl) (by rw [haR]; rfl) (by rw [haR]; rfl) (by rw [haR]; rfl) (by rw [haR]; rfl) (by rw [haR]; rfl) (by rw [haR]; rfl) (by rw [haR]; rfl) (by rw [haR]; rfl) cR (hP.sub [12, 13, 14, 15, 16, 17, 18, 19, 20, 21] rfl), ?_, jm_S_w hS hAb⟩
    show H[adC 700]? = _
    rw [oC]; exact hP 22 _ rfl
  have e1 : adC 0 = u0 := by rw [hadC]; rfl
  have e2 : adR 0 = w0 := by rw [hadR]; rfl
  refine law_loop fx hL C0 (L + 1) 0 H locs _ _ (fun _ => 0) xC0 xR0 la (by omega) (by omega) (Nat.le_of_ble_eq_true rfl) (Nat.le_of_ble_eq_true rfl) hI rel0 ?_
  rw [oC, e1, e2]
  exact hl

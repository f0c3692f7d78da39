/-! THE START, 3: from the entry to the loop. Printed by wip/whole/printW.py. -/
theorem nst_0 : ∀ q ∈ fnA, Cond.fieldLinkNest q.1 q.2.1 q.2.2.1 q.2.2.2.1 q.2.2.2.2.1 q.2.2.2.2.2 ∈ tables_1_5 := by decide +kernel
theorem stA_900 : stA.all (fun q => match q.2.2.2 with | .ref k => decide (900 ≤ k) | _ => true) = true := by decide +kernel
theorem srA_73 : srA.all (fun q => decide (q.2.2.2 < 73)) = true := by decide +kernel
theorem sg_txt_73 : ∀ i, i < 55 → sg_txt.getD i 0 < 73 := by decide +kernel
/-- what is said of the constants asks their own numbers alone -/
theorem sgA_congr {ad ad' : Nat → Nat} {b0 : Nat} {s : State} {H : Heap} (h : ∀ k, 900 ≤ k → ad' k = ad k) (hs : sgA ad b0 s H) : sgA ad' b0 s H := by
  obtain ⟨h1, h2, h3, h4, h5, h6, h7, h8, h9, h10, h11, h12, h13, h14, h15, h16, h17⟩ := hs
  refine ⟨?_, ?_, ?_, ?_, ?_, ?_, ?_, ?_, ?_, ?_, ?_, ?_, ?_, ?_, h15, h16, ?_⟩
  · intro q hq
    have hk := List.all_eq_true.mp stA_900 q hq
    have e : jm_cv ad' q.2.2.2 = jm_cv ad q.2.2.2 := by
      cases hv : q.2.2.2 with
      | ref k =>
        rw [hv] at hk
        simp only [jm_cv]
        rw [h k (of_decide_eq_true hk)]
      | _ => rfl
    rw [e]; exact h1 q hq
  · intro i hi; rw [h _ (by omega)]; exact h2 i hi
  · intro i hi; rw [h _ (by omega)]; exact h3 i hi
  · intro i hi
    have := h4 i hi
    simp only [jm_cv] at this ⊢
    rw [h (1000 + i) (by omega), h (2000 + sg_txt.getD i 0) (by omega)]; exact this
  · intro i hi; rw [h _ (by omega)]; exact h5 i hi
  · intro i hi; rw [h _ (by omega)]; exact h6 i hi
  · intro i hi; rw [h _ (by omega)]; exact h7 i hi
  · intro i hi
    have := h8 i hi
    have e : (fun j => Value.ref (ad' (1000 + j))) = fun j => Value.ref (ad (1000 + j)) := by funext j; rw [h _ (by omega)]
    rw [e, h _ (by omega)]; exact this
  · intro i hi; rw [h _ (by omega)]; exact h9 i hi
  · intro i hi; rw [h _ (by omega)]; exact h10 i hi
  · intro i hi; rw [h _ (by omega)]; exact h11 i hi
  · intro i hi
    have := h12 i hi
    simp only [jm_cv] at this ⊢
    rw [h (2000 + i) (by omega), h (3000 + i) (by omega)]; exact this
  · intro i hi; rw [h _ (by omega)]; exact h13 i hi
  · intro q hq; rw [h _ (by omega)]; exact h14 q hq
  · rw [h 950 (by omega)]; exact h17
theorem ok_of {l : Launch} {D : va_G} {cl : List vw_C} {ad : Nat → Nat} {aC : Nat → ClassId} {sh : List jm_S} {b0 ec : Nat} (h1 : jm_small sh) (h2 : jm_inj ad sh.length) (h3 : ∀ k, k < sh.length → b0 ≤ ad k) (h4 : ∀ i j, i < 55 → j < 55 → ad (1000 + i) = ad (1000 + j) → i = j) (h5 : l.stackTraces = false) : jm_Ok (jm_PP l D cl ad aC sh b0 ec) :=
  ⟨fun w hw => (List.mem_filter.mp hw).2, h1, h2, h3, fun _ _ _ _ hW hq h => sgA_kept hW hq h, h4, h5⟩
theorem g_of {l : Launch} {D : va_G} {cl : List vw_C} {ad : Nat → Nat} {aC : Nat → ClassId} {sh : List jm_S} {ec b : Nat} {s : State} (hts : ∀ w ∈ lw_tbl, w.before #[Value.ref b] s = true) (hK : va_K D cl [] s) (har : jm_arr (jm_PP l D cl ad aC sh s.heap.size ec) s) (hsg : sgA ad s.heap.size s s.heap) : jm_G (jm_PP l D cl ad aC sh s.heap.size ec) s := by
  refine ⟨fun w hw a => jm_word_at (a := #[Value.ref b]) (State.WarmedH.refl s) (List.mem_filter.mp hw).2 (hts w (List.mem_filter.mp hw).1), fun w hw => ?_, fun w hw => absurd hw List.not_mem_nil, hK, har, Nat.le_refl _, hsg⟩
  exact va_Nw.of rfl (hts _ (List.mem_append_right _ (List.mem_append_right _ (List.mem_append_right _ (List.mem_append_right _ (List.mem_append_right _ (nst_0 w hw)))))))
def xC0 : jm_X := (fun k => if k = 204 then -1 else 0, fun k => if k = 400 then 5 else if k = 404 then 1000 else 11, fun _ _ => 0)
def xR0 : jm_X := (fun k => if k = 7 then -1 else 0, fun _ => 0, fun _ _ => 0)
theorem rel0 : Rel xC0 xR0 := ⟨fun _ => 0, 0, by omega, rfl, rfl, rfl, rfl, fun _ _ => rfl, rfl⟩
theorem small_C : jm_small shC := by
  intro o ci fs h
  have hk : shC.all (fun q => match q with | .inr (.inr z) => decide (z.2.length ≤ 100) | _ => true) = true := by decide
  have := List.all_eq_true.mp hk _ (List.mem_of_getElem? h)
  exact of_decide_eq_true this
theorem small_R : jm_small shR := by
  intro o ci fs h
  have hk : shR.all (fun q => match q with | .inr (.inr z) => decide (z.2.length ≤ 100) | _ => true) = true := by decide
  have := List.all_eq_true.mp hk _ (List.mem_of_getElem? h)
  exact of_decide_eq_true this
theorem wl_C (ad : Nat → Nat) (aC : Nat → ClassId) : jm_wl ad aC shC xC0 = [((ad 0), .inr (0, [.ref (ad 1), .ref (ad 2), .int 0])), ((ad 1), .inl ((aC 1), 16384, .inl (fun _ => 0))), ((ad 2), .inr (1, [.ref (ad 3), .ref (ad 4), .ref (ad 6), .int 0, .int (-1)])), ((ad 3), .inl ((aC 3), 34, .inl (fun _ => 0))), ((ad 4), .inr (2, [.ref (ad 5), .int 0, .int 0, .int 0, .ref (ad 1000)])), ((ad 5), .inl ((aC 5), 0, .inl (fun _ => 0))), ((ad 6), .inr (3, [.ref (ad 7), .ref (ad 8), .ref (ad 9), .ref (ad 10), .ref (ad 11), .int 0])), ((ad 7), .inl ((aC 7), 1400, .inl (fun _ => 0))), ((ad 8), .inl ((aC 8), 1400, .inl (fun _ => 0))), ((ad 9), .inl ((aC 9), 1400, .inl (fun _ => 0))), ((ad 10), .inl ((aC 10), 1400, .inl (fun _ => 0))), ((ad 11), .inl ((aC 11), 0, .inl (fun _ => 0)))] := by
  simp [jm_wl, shC, List.mapIdx_cons, jm_ce, jm_fv, jm_key, xC0]
set_option maxRecDepth 100000 in
theorem wl_R (ad : Nat → Nat) (aC : Nat → ClassId) : jm_wl ad aC shR xR0 = [((ad 0), .inr (0, [.ref (ad 1), .ref (ad 2018), .ref (ad 2019), .ref (ad 2020), .ref (ad 2), .int 0, .int 0, .int (-1), .int 0, .int 0, .int 0, .int 0, .int 0, .ref (ad 3), .ref (ad 4), .int 0, .ref (ad 5), .ref (ad 6), .ref (ad 7), .ref (ad 8), .ref (ad 9), .int 0])), ((ad 1), .inl ((aC 1), 15, .inr (.inr (.inr (.inr (fun i => (wdR[i]?).map ad)))))), ((ad 2), .inr (1, [])), ((ad 3), .inl ((aC 3), 16384, .inl (fun _ => 0))), ((ad 4), .inl ((aC 4), 34, .inl (fun _ => 0))), ((ad 5), .inl ((aC 5), 17000, .inl (fun _ => 0))), ((ad 6), .inl ((aC 6), 17000, .inl (fun _ => 0))), ((ad 7), .inl ((aC 7), 17000, .inl (fun _ => 0))), ((ad 8), .inl ((aC 8), 17000, .inl (fun _ => 0))), ((ad 9), .inl ((aC 9), 17000, .inl (fun _ => 0)))] := by
  simp [jm_wl, shR, List.mapIdx_cons, jm_ce, jm_fv, jm_key, xR0, wdR]
theorem w_C {D : va_G} {ad cad : Nat → Nat} {aC : Nat → ClassId} {H : Heap} {u0 u1 u2 u3 u4 u5 u6 u7 u8 u9 u10 u11 : Nat} {v1 v3 v5 v7 v8 v9 v10 v11 : ClassId} (e0 : ad 0 = u0) (e1 : ad 1 = u1) (e2 : ad 2 = u2) (e3 : ad 3 = u3) (e4 : ad 4 = u4) (e5 : ad 5 = u5) (e6 : ad 6 = u6) (e7 : ad 7 = u7) (e8 : ad 8 = u8) (e9 : ad 9 = u9) (e10 : ad 10 = u10) (e11 : ad 11 = u11) (g1 : aC 1 = v1) (g3 : aC 3 = v3) (g5 : aC 5 = v5) (g7 : aC 7 = v7) (g8 : aC 8 = v8) (g9 : aC 9 = v9) (g10 : aC 10 = v10) (g11 : aC 11 = v11) (ec : ad 1000 = cad 1000) (hP : va_P D clA [(u0, .inr (0, [.ref u1, .ref u2, .int 0])), (u1, .inl (v1, 16384, .inl (fun _ => 0))), (u2, .inr (1, [.ref u3, .ref u4, .ref u6, .int 0, .int (-1)])), (u3, .inl (v3, 34, .inl (fun _ => 0))), (u4, .inr (2, [.ref u5, .int 0, .int 0, .int 0, .ref (cad 1000)])), (u5, .inl (v5, 0, .inl (fun _ => 0))), (u6, .inr (3, [.ref u7, .ref u8, .ref u9, .ref u10, .ref u11, .int 0])), (u7, .inl (v7, 1400, .inl (fun _ => 0))), (u8, .inl (v8, 1400, .inl (fun _ => 0))), (u9, .inl (v9, 1400, .inl (fun _ => 0))), (u10, .inl (v10, 1400, .inl (fun _ => 0))), (u11, .inl (v11, 0, .inl (fun _ => 0)))] H) : va_P D clC (jm_wl ad aC shC xC0) H := by
  subst e0 e1 e2 e3 e4 e5 e6 e7 e8 e9 e10 e11 g1 g3 g5 g7 g8 g9 g10 g11
  rw [wl_C, ec]
  intro k q hk
  have h := hP k q hk
  match k, hk with
  | 0, hk =>
    cases hk
    obtain ⟨r, h1, h2⟩ := h
    exact ⟨r, h1, h2⟩
  | 1, hk => cases hk; exact h
  | 2, hk =>
    cases hk
    obtain ⟨r, h1, h2⟩ := h
    exact ⟨r, h1, h2⟩
  | 3, hk => cases hk; exact h
  | 4, hk =>
    cases hk
    obtain ⟨r, h1, h2⟩ := h
    exact ⟨r, h1, h2⟩
  | 5, hk => cases hk; exact h
  | 6, hk =>
    cases hk
    obtain ⟨r, h1, h2⟩ := h
    exact ⟨r, h1, h2⟩
  | 7, hk => cases hk; exact h
  | 8, hk => cases hk; exact h
  | 9, hk => cases hk; exact h
  | 10, hk => cases hk; exact h
  | 11, hk => cases hk; exact h
  | k + 12, hk => simp at hk
theorem w_R {D : va_G} {ad cad : Nat → Nat} {aC : Nat → ClassId} {H : Heap} {w0 w1 w2 w3 w4 w5 w6 w7 w8 w9 : Nat} {z1 z3 z4 z5 z6 z7 z8 z9 : ClassId} (e0 : ad 0 = w0) (e1 : ad 1 = w1) (e2 : ad 2 = w2) (e3 : ad 3 = w3) (e4 : ad 4 = w4) (e5 : ad 5 = w5) (e6 : ad 6 = w6) (e7 : ad 7 = w7) (e8 : ad 8 = w8) (e9 : ad 9 = w9) (g1 : aC 1 = z1) (g3 : aC 3 = z3) (g4 : aC 4 = z4) (g5 : aC 5 = z5) (g6 : aC 6 = z6) (g7 : aC 7 = z7) (g8 : aC 8 = z8) (g9 : aC 9 = z9) (ec : ∀ k, 900 ≤ k → ad k = cad k) (hP : va_P D clA [(w0, .inr (4, [.ref w1, .ref (cad 2018), .ref (cad 2019), .ref (cad 2020), .ref w2, .int 0, .int 0, .int (-1), .int 0, .int 0, .int 0, .int 0, .int 0, .ref w3, .ref w4, .int 0, .ref w5, .ref w6, .ref w7, .ref w8, .ref w9, .int 0])), (w1, .inl (z1, 15, .inr (.inr (.inr (.inr (fun i => (wdR[i]?).map cad)))))), (w2, .inr (5, [])), (w3, .inl (z3, 16384, .inl (fun _ => 0))), (w4, .inl (z4, 34, .inl (fun _ => 0))), (w5, .inl (z5, 17000, .inl (fun _ => 0))), (w6, .inl (z6, 17000, .inl (fun _ => 0))), (w7, .inl (z7, 17000, .inl (fun _ => 0))), (w8, .inl (z8, 17000, .inl (fun _ => 0))), (w9, .inl (z9, 17000, .inl (fun _ => 0)))] H) : va_P (fun k => D.1 (k + 4), fun k => D.2 (k + 4)) clR (jm_wl ad aC shR xR0) H := by
  subst e0 e1 e2 e3 e4 e5 e6 e7 e8 e9 g1 g3 g4 g5 g6 g7 g8 g9
  have ew : (fun i : Nat => (wdR[i]?).map ad) = fun i : Nat => (wdR[i]?).map cad := by
    funext i
    cases hw : wdR[i]? with
    | none => rfl
    | some v =>
      have hv : wdR.all (fun z => decide (900 ≤ z)) = true := by decide
      simp only [Option.map_some]
      rw [ec v (of_decide_eq_true (List.all_eq_true.mp hv v (List.mem_of_getElem? hw)))]
  rw [wl_R, ew, ec 2018 (by omega), ec 2019 (by omega), ec 2020 (by omega)]
  intro k q hk
  match k, hk with
  | 0, hk =>
    cases hk
    obtain ⟨r, h1, h2⟩ := hP 0 _ rfl
    cases h1
    exact ⟨_, rfl, h2⟩
  | 1, hk => cases hk; exact hP 1 _ rfl
  | 2, hk =>
    cases hk
    obtain ⟨r, h1, h2⟩ := hP 2 _ rfl
    cases h1
    exact ⟨_, rfl, h2⟩
  | 3, hk => cases hk; exact hP 3 _ rfl
  | 4, hk => cases hk; exact hP 4 _ rfl
  | 5, hk => cases hk; exact hP 5 _ rfl
  | 6, hk => cases hk; exact hP 6 _ rfl
  | 7, hk => cases hk; exact hP 7 _ rfl
  | 8, hk => cases hk; exact hP 8 _ rfl
  | 9, hk => cases hk; exact hP 9 _ rfl
  | k + 10, hk => simp at hk

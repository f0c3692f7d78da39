/-! THE LAW, 4: what is fixed while it runs, its loop's state, calls of both sides. -/
abbrev PCx (l : Launch) (s : State) (D : va_G) (ad : Nat → Nat) (aC : Nat → ClassId) : jm_P := jm_PP l D clC ad aC shC s.heap.size 1
abbrev PRx (l : Launch) (s : State) (D : va_G) (ad : Nat → Nat) (aC : Nat → ClassId) : jm_P := jm_PP l D clR ad aC shR s.heap.size 0
def LwFX (l : Launch) (s : State) (D DR : va_G) (adC adR : Nat → Nat) (aC aR : Nat → ClassId) (cA : ClassId) : Prop :=
  jm_Ok (PCx l s D adC aC) ∧ jm_Ok (PRx l s DR adR aR) ∧ jm_G (PCx l s D adC aC) s ∧ jm_G (PRx l s DR adR aR) s ∧ (ArrOfT s cA .long ∧ va_RA s cA .long) ∧ (∀ k j, k < 12 → j < 10 → adC k ≠ adR j) ∧ (∀ k, k < 12 → adC k ≠ adC 700) ∧ (∀ j, j < 10 → adR j ≠ adC 700) ∧ s.heap.size ≤ adC 700
section LWF
variable {l : Launch} {s : State} {D DR : va_G} {adC adR : Nat → Nat} {aC aR : Nat → ClassId} {cA : ClassId}
theorem LwFX.okC (fx : LwFX l s D DR adC adR aC aR cA) : jm_Ok (PCx l s D adC aC) := fx.1
theorem LwFX.okR (fx : LwFX l s D DR adC adR aC aR cA) : jm_Ok (PRx l s DR adR aR) := fx.2.1
theorem LwFX.gC (fx : LwFX l s D DR adC adR aC aR cA) : jm_G (PCx l s D adC aC) s := fx.2.2.1
theorem LwFX.gR (fx : LwFX l s D DR adC adR aC aR cA) : jm_G (PRx l s DR adR aR) s := fx.2.2.2.1
theorem LwFX.lng (fx : LwFX l s D DR adC adR aC aR cA) : ArrOfT s cA .long ∧ va_RA s cA .long := fx.2.2.2.2.1
theorem LwFX.apart (fx : LwFX l s D DR adC adR aC aR cA) : ∀ k j, k < 12 → j < 10 → adC k ≠ adR j := fx.2.2.2.2.2.1
theorem LwFX.outC (fx : LwFX l s D DR adC adR aC aR cA) : ∀ k, k < 12 → adC k ≠ adC 700 := fx.2.2.2.2.2.2.1
theorem LwFX.outR (fx : LwFX l s D DR adC adR aC aR cA) : ∀ j, j < 10 → adR j ≠ adC 700 := fx.2.2.2.2.2.2.2.1
theorem LwFX.outA (fx : LwFX l s D DR adC adR aC aR cA) : s.heap.size ≤ adC 700 := fx.2.2.2.2.2.2.2.2
end LWF
/-- both worlds and the array out -/
def LwI (l : Launch) (s : State) (D DR : va_G) (adC adR : Nat → Nat) (aC aR : Nat → ClassId) (cA : ClassId) (H : Heap) (locs : List Loc) (f : Nat → Int64) (xC xR : jm_X) : Prop :=
  va_P D clC (jm_w (PCx l s D adC aC) xC) H ∧ va_P DR clR (jm_w (PRx l s DR adR aR) xR) H ∧ hl_out (PCx l s D adC aC) cA f H ∧ va_S (fun q => s.heap.size ≤ q) s.heap H locs
abbrev mt_law (c : Code) : jm_M := (⟨"FilterReaderLaw", "law", "([I)Z"⟩, code, 7, ret, jm_tab c)
theorem jw_addr {P : jm_P} {x : jm_X} {k : Nat} {z : Nat × va_E} (h : (jm_w P x)[k]? = some z) : k < jm_n P ∧ z.1 = jm_a P k := by
  rw [jm_wl_get] at h
  cases hc : (jm_h P)[k]? with
  | none => rw [hc] at h; cases h
  | some c => rw [hc] at h; cases h; exact ⟨jm_lt hc, rfl⟩
section LW1
variable {p : Program} {e : Env} {l : Launch} {s : State} {m : MethodId} {args : Array Value} {below : List Frame} {meth : Method} {c : Code} {H : Heap} {locs : List Loc} {cells slots : Nat} {Q : State → Prop}
variable {D DR : va_G} {adC adR : Nat → Nat} {aC aR : Nat → ClassId} {cA : ClassId}
theorem lw_S {P : jm_P} (hok : jm_Ok P) (hb : jm_b P = s.heap.size) : (∀ q, s.heap.size ≤ q → jm_AA P s q) ∧ (∀ q, jm_AA P s q → s.heap.size ≤ q) := by
  refine ⟨fun q h => Or.inr h, ?_⟩
  rintro q (⟨k, h1, rfl⟩ | h)
  · have := hok.2.2.2.1 k h1
    rw [hb] at this; exact this
  · exact h
theorem lw_R (fx : LwFX l s D DR adC adR aC aR cA) (hC : jm_C (PRx l s DR adR aR) (mt_law c) p s m meth c) {y : jm_M} {d pc : Nat} {av rest : List Value} {xC xR yR : jm_X} {b : Int32} {f : Nat → Int64} {la : Array Slot} (hcon : jm_Con (PRx l s DR adR aR) y d av xR (rI b yR)) (hinv : jm_Inv (PRx l s DR adR aR) (mt_law c) y pc av rest xR)
    (hy : jm_cw y ∈ Tall) (hini : Cond.initialized y.1.cls ∈ Tall) (hcat : (rest.map fun v => v.category).sum ≤ 8) (hd : d ≤ 1117) (hnl : y.2.2.1 ≤ 21) (hce : cells ≤ 600000) (hsl : slots ≤ 7200000) (hla : la.size = 7) (hI : LwI l s D DR adC adR aC aR cA H locs f xC xR)
    (k : ∀ (H1 : Heap) (locs1 : List Loc), LwI l s D DR adC adR aC aR cA H1 locs1 f xC yR → W p l e room_1 s m args below meth c H1 locs1 cells slots Q (F0 m (pc + 3) la (.int b :: jm_st adR rest))) :
    W p l e room_1 s m args below meth c H locs cells slots Q (F0 m pc la (jm_st adR (av.reverse ++ rest))) := by
  obtain ⟨h1, h2, h3, h4⟩ := hI
  have hSS := lw_S (s := s) fx.okR rfl
  refine jw_call (P := PRx l s DR adR aR) (q0 := .inl (some (.int b), yR)) fx.okR hcon hinv hy hini hcat (by show d + 1 ≤ 2048; omega) (by show 8 + (y.2.2.1 + 11) + 40 * d ≤ 84000; omega) (by show cells + 1 ≤ 601024; omega) (by show slots + 20 ≤ 7293034; omega) hC hla h2 (jm_S_w h4 hSS.1) ?_ ?_
  · intro v x' hq H1 L hP1 hz hk hS1
    cases hq
    refine k H1 (locs ++ L) ⟨h1.kept (fun i z hz => ?_), hP1, ?_, jm_S_w hS1 hSS.2⟩
    · obtain ⟨a1, a2⟩ := jw_addr (P := PCx l s D adC aC) hz
      have hlt := (h1 i z hz).lt
      refine hk z.1 hlt ?_
      rintro (⟨j, j1, j2⟩ | h)
      · exact fx.apart i j a1 j1 (a2.symm.trans j2)
      · omega
    · unfold hl_out at h3 ⊢
      have hlt : adC 700 < H.size := (Array.getElem?_eq_some_iff.mp h3).1
      rw [hk _ hlt (by
        rintro (⟨j, j1, j2⟩ | h)
        · exact fx.outR j j1 j2.symm
        · exact absurd hlt (Nat.not_lt.mpr h))]
      exact h3
  · intro C x' hq
    cases hq
theorem lw_C (fx : LwFX l s D DR adC adR aC aR cA) (hC : jm_C (PCx l s D adC aC) (mt_law c) p s m meth c) {y : jm_M} {d pc : Nat} {av rest : List Value} {xC xR yC : jm_X} {b : Int32} {f : Nat → Int64} {la : Array Slot} (hcon : jm_Con (PCx l s D adC aC) y d av xC (rI b yC)) (hinv : jm_Inv (PCx l s D adC aC) (mt_law c) y pc av rest xC)
    (hy : jm_cw y ∈ Tall) (hini : Cond.initialized y.1.cls ∈ Tall) (hcat : (rest.map fun v => v.category).sum ≤ 8) (hd : d ≤ 1117) (hnl : y.2.2.1 ≤ 21) (hce : cells ≤ 600000) (hsl : slots ≤ 7200000) (hla : la.size = 7) (hI : LwI l s D DR adC adR aC aR cA H locs f xC xR)
    (k : ∀ (H1 : Heap) (locs1 : List Loc), LwI l s D DR adC adR aC aR cA H1 locs1 f yC xR → W p l e room_1 s m args below meth c H1 locs1 cells slots Q (F0 m (pc + 3) la (.int b :: jm_st adC rest))) :
    W p l e room_1 s m args below meth c H locs cells slots Q (F0 m pc la (jm_st adC (av.reverse ++ rest))) := by
  obtain ⟨h1, h2, h3, h4⟩ := hI
  have hSS := lw_S (s := s) fx.okC rfl
  refine jw_call (P := PCx l s D adC aC) (q0 := .inl (some (.int b), yC)) fx.okC hcon hinv hy hini hcat (by show d + 1 ≤ 2048; omega) (by show 8 + (y.2.2.1 + 11) + 40 * d ≤ 84000; omega) (by show cells + 1 ≤ 601024; omega) (by show slots + 20 ≤ 7293034; omega) hC hla h1 (jm_S_w h4 hSS.1) ?_ ?_
  · intro v x' hq H1 L hP1 hz hk hS1
    cases hq
    refine k H1 (locs ++ L) ⟨hP1, h2.kept (fun i z hz => ?_), ?_, jm_S_w hS1 hSS.2⟩
    · obtain ⟨a1, a2⟩ := jw_addr (P := PRx l s DR adR aR) hz
      have hlt := (h2 i z hz).lt
      refine hk z.1 hlt ?_
      rintro (⟨j, j1, j2⟩ | h)
      · exact fx.apart j i j1 a1 (j2.symm.trans a2)
      · omega
    · unfold hl_out at h3 ⊢
      have hlt : adC 700 < H.size := (Array.getElem?_eq_some_iff.mp h3).1
      rw [hk _ hlt (by
        rintro (⟨j, j1, j2⟩ | h)
        · exact fx.outC j j1 j2.symm
        · exact absurd hlt (Nat.not_lt.mpr h))]
      exact h3
  · intro C x' hq
    cases hq
/-- a call of a helper -/
theorem lw_H (fx : LwFX l s D DR adC adR aC aR cA) (hC : jm_C (PCx l s D adC aC) (mt_law c) p s m meth c) {y : jm_M} {d pc : Nat} {av rest : List Value} {xC xR yC : jm_X} {r : Int32} {q0 : jm_R} {f : Nat → Int64} {la : Array Slot}
    (hM : MetFree l y.1 (headSpec [jm_cw y] (jm_room (d + 1))) (hl_Pre (PCx l s D adC aC) cA av xC) (fun _ _ _ _ _ => True) (fun _ s1 o t => hl_post (PCx l s D adC aC) cA q0 s1 o t)) (hinv : jm_Inv (PCx l s D adC aC) (mt_law c) y pc av rest xC)
    (hy : jm_cw y ∈ Tall) (hini : Cond.initialized y.1.cls ∈ Tall) (hcat : (rest.map fun v => v.category).sum ≤ 8) (hd : d ≤ 1117) (hnl : y.2.2.1 ≤ 21) (hce : cells ≤ 600000) (hsl : slots ≤ 7200000) (hla : la.size = 7) (hI : LwI l s D DR adC adR aC aR cA H locs f xC xR)
    (hq : (∃ b, q0 = .inl (some (.int b), yC) ∧ r = 0) ∨ (∃ E, q0 = .inr (E, yC) ∧ r = 1))
    (k : ∀ (H1 : Heap) (locs1 : List Loc) (f1 : Nat → Int64), LwI l s D DR adC adR aC aR cA H1 locs1 f1 yC xR → (∀ b, q0 = .inl (some (.int b), yC) → f1 0 = b.toInt64) → W p l e room_1 s m args below meth c H1 locs1 (cells + 1) (slots + 20) Q (F0 m (pc + 3) la (.int r :: jm_st adC rest))) :
    W p l e room_1 s m args below meth c H locs cells slots Q (F0 m pc la (jm_st adC (av.reverse ++ rest))) := by
  intro T hT X
  obtain ⟨h1, h2, h3, h4⟩ := hI
  have hok := fx.okC
  have hSS := lw_S (s := s) fx.okC rfl
  have hS := jm_S_w h4 hSS.1
  obtain ⟨hx, hb, hml, hret, hlocks, hown, hno, hG⟩ := id hC
  subst hT
  obtain ⟨ig, hdg, hgo⟩ := hinv
  obtain ⟨vm₁, mk, X₁, hnm, hstep⟩ := hgo p e room_1 s m args below meth c T locs cells slots la hC hla h1 hS X
  have hz : s.heap.size ≤ T.heap.size := hS.1
  have hold : ∀ q, q < s.heap.size → T.heap[q]? = s.heap[q]? := fun q h1 => h4.2.1 q h1 (Nat.not_le.mpr h1)
  have hG1 : jm_G (PCx l s D adC aC) (T.setVm vm₁) := hG.moved hok X₁.warmed hz hold
  have hcs : ((jm_st adC rest).map fun v => v.category).sum ≤ 8 := by
    have : (jm_st adC rest).map (fun v => v.category) = rest.map (fun v => v.category) := by
      simp only [jm_st, List.map_map]
      apply List.map_congr_left
      intro v _
      exact jm_cv_cat _ v
    rw [this]; exact hcat
  obtain ⟨o, s₂, hsteps, hend, hpost⟩ := jm_callee X₁ hM (a := (jm_st adC av).toArray) (maxL := y.2.2.1) (ig := ig) (len := 3) (g := F0 m pc la (jm_st adC rest)) (fun w hw => by
      rw [List.mem_singleton.mp hw]; exact hG1.1 _ hy _) (fun mk2 hn2 => by
      obtain ⟨m', meth', c', hn', h1', h2', -, h4', -⟩ := jm_cw_spec (hG1.1 _ hy #[])
      cases hn2.symm.trans hn'
      exact ⟨meth', c', h1', h2', h4'⟩) (hG1.1 _ hini _) (by show d + 1 + 1 ≤ 2048; omega) (by show 8 + (y.2.2.1 + 11) + 40 * (d + 1) ≤ 84000; omega) (by show cells + 1 ≤ 601024; omega) (by show slots + 20 ≤ 7293034; omega) rfl (by show la.size = _; rw [hla]; exact hml.symm) (by rw [hb]; exact hdg)
      (by show 2 * 0 + ((jm_st adC rest).map fun v => v.category).sum ≤ 8; omega) (X₁.named hnm) ⟨rfl, hG.moved hok (U := (T.setVm vm₁).calling (F0 m pc la (jm_st adC rest)) mk (jm_st adC av).toArray) X₁.warmed hz hold, h1, ⟨f, h3⟩, ⟨arrOfT_moved X₁.warmed.alike fx.lng.1, fx.lng.2.moved X₁.warmed.alike⟩⟩
  obtain ⟨ho, hP', ⟨f1, hO1, hf1⟩, L, hW', hsame, hL, hF⟩ : o = .returned (some (.int r)) ∧ va_P D clC (jm_w (PCx l s D adC aC) yC) s₂.heap ∧ (∃ f1, hl_out (PCx l s D adC aC) cA f1 s₂.heap ∧ ∀ b, q0 = .inl (some (.int b), yC) → f1 0 = b.toInt64) ∧ hl_end (PCx l s D adC aC) ((T.setVm vm₁).calling (F0 m pc la (jm_st adC rest)) mk (jm_st adC av).toArray) s₂ := by
    rcases hq with ⟨b, rfl, rfl⟩ | ⟨E, rfl, rfl⟩
    · obtain ⟨a1, a2, ⟨f1, a3, a4⟩, a5⟩ := hpost
      exact ⟨a1, a2, ⟨f1, a3, fun b' hb' => by cases hb'; exact a4⟩, a5⟩
    · obtain ⟨a1, a2, ⟨f1, a3⟩, a5⟩ := hpost
      exact ⟨a1, a2, ⟨f1, a3, fun b' hb' => by cases hb'⟩, a5⟩
  subst ho
  obtain ⟨T', X', -, -, ht⟩ := X₁.outOf (g := F0 m pc la (jm_st adC rest)) rfl (ig := ig) (len := 3) (by rw [hb]; exact hdg) hend hW' hsame
  have hth : T'.heap = s₂.heap := by rw [ht]; rfl
  have hAA : ∀ q, hl_A (PCx l s D adC aC) ((T.setVm vm₁).calling (F0 m pc la (jm_st adC rest)) mk (jm_st adC av).toArray) q → s.heap.size ≤ q := by
    rintro q ((⟨j, j1, rfl⟩ | h) | rfl)
    · exact hok.2.2.2.1 j j1
    · exact Nat.le_trans hz h
    · exact fx.outA
  have hS' : va_S (fun q => s.heap.size ≤ q) s.heap s₂.heap (locs ++ L) := by
    refine ⟨Nat.le_trans hz hF.1, fun q q1 q2 => ?_, fun q hq => ?_⟩
    · rw [hF.2 q (Nat.lt_of_lt_of_le q1 hz) (fun w => q2 (hAA q w))]
      exact hold q q1
    · rcases List.mem_append.mp hq with w | w
      · exact h4.2.2 q w
      · exact hAA _ (hL q w)
  obtain ⟨t, a1, b1⟩ := k T'.heap (locs ++ L) f1 ⟨by rw [hth]; exact hP', by
      rw [hth]
      refine h2.kept (fun i z hz => ?_)
      obtain ⟨a1, a2⟩ := jw_addr (P := PRx l s DR adR aR) hz
      have hlt := (h2 i z hz).lt
      refine hF.2 z.1 hlt ?_
      rintro ((⟨j, j1, j2⟩ | h) | h)
      · exact fx.apart j i j1 a1 (j2.symm.trans a2)
      · exact absurd hlt (Nat.not_lt.mpr h)
      · exact fx.outR i a1 (a2.symm.trans h), by rw [hth]; exact hO1, by rw [hth]; exact hS'⟩ hf1 T' rfl X'
  refine ⟨t, hstep t (hsteps.trans ?_), b1⟩
  rw [ht]
  exact a1
end LW1

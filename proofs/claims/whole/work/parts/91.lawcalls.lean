/-! THE LAW, 1: a call of a method of the small machine from any frame of the machine; contracts of the law's own helpers. -/
section JZ
variable {p : Program} {e : Env} {R : Room} {s : State} {m : MethodId} {args : Array Value} {below : List Frame} {meth : Method} {c : Code} {H : Heap} {locs : List Loc} {cells slots : Nat} {Q : State → Prop}
theorem jw_call {P : jm_P} {M y : jm_M} {d pc : Nat} {av rest : List Value} {x : jm_X} {q0 : jm_R} {la : Array Slot} (hok : jm_Ok P) (hcon : jm_Con P y d av x (some q0)) (hinv : jm_Inv P M y pc av rest x)
    (hy : jm_cw y ∈ jm_t P) (hini : Cond.initialized y.1.cls ∈ jm_t P) (hcat : (rest.map fun v => v.category).sum ≤ 8) (hfr : d + 1 ≤ R.frames) (hlo : 8 + (y.2.2.1 + 11) + 40 * d ≤ R.locals) (hce : cells + 1 ≤ R.cells) (hsl : slots + 20 ≤ R.slots)
    (hC : jm_C P M p s m meth c) (hla : la.size = M.2.2.1) (hP : va_P (jm_d P) (jm_c P) (jm_w P x) H) (hS : va_S (jm_AA P s) s.heap H locs)
    (kr : ∀ v x', q0 = .inl (v, x') → ∀ (H1 : Heap) (L : List Loc), va_P (jm_d P) (jm_c P) (jm_w P x') H1 → H.size ≤ H1.size → (∀ z, z < H.size → ¬ jm_A (jm_a P) (jm_n P) H.size z → H1[z]? = H[z]?) → va_S (jm_AA P s) s.heap H1 (locs ++ L) →
      W p (jm_l P) e R s m args below meth c H1 (locs ++ L) cells slots Q (F0 m (pc + 3) la (jm_st (jm_a P) (v.toList ++ rest))))
    (kt : ∀ C x', q0 = .inr (C, x') → ∀ (z : Nat) (cell : Cell) (H1 : Heap) (L : List Loc), va_P (jm_d P) (jm_c P) (jm_w P x') H1 → H.size ≤ H1.size → (∀ z, z < H.size → ¬ jm_A (jm_a P) (jm_n P) H.size z → H1[z]? = H[z]?) → va_S (jm_AA P s) s.heap H1 (locs ++ L) → H1[z]? = some cell → cell.vm = .none → s.vm.findClass C = some cell.cls →
      vx_W p (jm_l P) e R s m args below meth c H1 (locs ++ L) (cells + jm_ec P) (slots + 20 * jm_ec P) Q (F0 m pc la (jm_st (jm_a P) rest)) z) :
    W p (jm_l P) e R s m args below meth c H locs cells slots Q (F0 m pc la (jm_st (jm_a P) (av.reverse ++ rest))) := by
  intro T hT X
  obtain ⟨hx, hb, hml, hret, hlocks, hown, hno, hG⟩ := id hC
  subst hT
  obtain ⟨ig, hdg, hgo⟩ := hinv
  obtain ⟨vm₁, mk, X₁, hnm, hstep⟩ := hgo p e R s m args below meth c T locs cells slots la hC hla hP hS X
  have hz : jm_b P ≤ T.heap.size := Nat.le_trans hG.2.2.2.2.2.1 hS.1
  have hold : ∀ q, q < jm_b P → T.heap[q]? = s.heap[q]? := fun q h1 => hS.2.1 q (Nat.lt_of_lt_of_le h1 hG.2.2.2.2.2.1) (jm_A_old hok hG.2.2.2.2.2.1 h1)
  have hG1 : jm_G P (T.setVm vm₁) := hG.moved hok X₁.warmed hz hold
  have hcs : ((jm_st (jm_a P) rest).map fun v => v.category).sum ≤ 8 := by
    have : (jm_st (jm_a P) rest).map (fun v => v.category) = rest.map (fun v => v.category) := by
      simp only [jm_st, List.map_map]
      apply List.map_congr_left
      intro v _
      exact jm_cv_cat _ v
    rw [this]; exact hcat
  obtain ⟨o, s₂, hsteps, hend, hpost⟩ := jm_callee X₁ (hcon q0 rfl) (a := (jm_st (jm_a P) av).toArray) (maxL := y.2.2.1) (ig := ig) (len := 3) (g := F0 m pc la (jm_st (jm_a P) rest)) (fun w hw => by
      rw [List.mem_singleton.mp hw]; exact hG1.1 _ hy _) (fun mk2 hn2 => by
      obtain ⟨m', meth', c', hn', h1', h2', -, h4', -⟩ := jm_cw_spec (hG1.1 _ hy #[])
      cases hn2.symm.trans hn'
      exact ⟨meth', c', h1', h2', h4'⟩) (hG1.1 _ hini _) hfr hlo hce hsl rfl (by show la.size = _; rw [hla]; exact hml.symm) (by rw [hb]; exact hdg)
      (by show 2 * 0 + ((jm_st (jm_a P) rest).map fun v => v.category).sum ≤ 8; omega) (X₁.named hnm) ⟨rfl, hG.moved hok (U := (T.setVm vm₁).calling (F0 m pc la (jm_st (jm_a P) rest)) mk (jm_st (jm_a P) av).toArray) X₁.warmed hz hold, hP⟩
  cases q0 with
  | inl z =>
    obtain ⟨v, x'⟩ := z
    obtain ⟨rfl, hP', L, hW', hsame, hL, hF⟩ := hpost
    obtain ⟨T', X', -, -, ht⟩ := X₁.outOf (g := F0 m pc la (jm_st (jm_a P) rest)) rfl (ig := ig) (len := 3) (by rw [hb]; exact hdg) hend hW' hsame
    have hth : T'.heap = s₂.heap := by rw [ht]; rfl
    have hS' := jm_S_call (P := P) hS (u := (T.setVm vm₁).calling (F0 m pc la (jm_st (jm_a P) rest)) mk (jm_st (jm_a P) av).toArray) rfl hF hL
    obtain ⟨t, a1, b1⟩ := kr v x' rfl T'.heap L (by rw [hth]; exact hP') (by rw [hth]; exact hF.1) (fun z h1 h2 => by rw [hth]; exact hF.2 z h1 h2) (by rw [hth]; exact hS') T' rfl X'
    refine ⟨t, hstep t (hsteps.trans ?_), b1⟩
    rw [ht]
    have e1 : jm_st (jm_a P) (v.toList ++ rest) = (v.map (jm_cv (jm_a P))).toList ++ jm_st (jm_a P) rest := by cases v <;> simp [jm_st]
    rw [e1] at a1
    exact a1
  | inr z =>
    obtain ⟨ec, x'⟩ := z
    obtain ⟨⟨za, rfl, cell, c1, c2, c3, c4⟩, hP', L, hW', hsame, hL, hF⟩ := hpost
    obtain ⟨T', X', hWT, -, ht⟩ := X₁.outOfThrown (g := F0 m pc la (jm_st (jm_a P) rest)) rfl hend hW' hsame
    have hth : T'.heap = s₂.heap := by rw [ht]; rfl
    have htv : T'.vm = s₂.vm := by rw [ht]; rfl
    have hS' := jm_S_call (P := P) hS (u := (T.setVm vm₁).calling (F0 m pc la (jm_st (jm_a P) rest)) mk (jm_st (jm_a P) av).toArray) rfl hF hL
    obtain ⟨t, a1, b1⟩ := kt ec x' rfl za cell T'.heap L (by rw [hth]; exact hP') (by rw [hth]; exact hF.1) (fun z h1 h2 => by rw [hth]; exact hF.2 z h1 h2) (by rw [hth]; exact hS') (by rw [hth]; exact c1) c2 (by rw [← X'.warmed.alike.findClass, htv]; exact c3) T' rfl X'
    exact ⟨t, hstep t (hsteps.trans (by rw [ht]; exact a1)), b1⟩
end JZ

/-! THE SMALL MACHINE, 9: 'throw new C()'. -/
theorem jm_V.tnew {P : jm_P} {M : jm_M} {d pc ik ic : Nat} {ls : List (Nat × Value)} {x : jm_X} {C : String} {names : List String} (hok : jm_Ok P) (hcls : Bundle.fit C = true) (hnames : ∀ n ∈ names, Bundle.fit n = true) (hn3 : names.length ≤ 3)
    (hk : Cond.classLink M.1.cls ik C ∈ jm_t P) (hini : Cond.initialized C ∈ jm_t P) (hat : ∀ w ∈ vx_at0 M.1.cls ic C names, w ∈ jm_t P) (hgood : ∀ w ∈ Cond.classLink M.1.cls ik C :: Cond.initialized C :: vx_at0 M.1.cls ic C names, vx_ot w = true)
    (hZ : ∀ (s : State) (H : Heap), jm_sg P s H → vx_Zq Bundle.tN "UNASSIGNED_STACK" Bundle.steD (jm_A0 P) s H ∧ vx_Zq Bundle.tN "SUPPRESSED_SENTINEL" Bundle.listD (jm_A0 P) s H)
    (d0 : decode M.2.1 pc = .ok (.new ik, 3)) (d3 : decode M.2.1 (pc + 3) = .ok (.dup, 1)) (d4 : decode M.2.1 (pc + 4) = .ok (.invokespecial ic, 3)) (d7 : decode M.2.1 (pc + 7) = .ok (.athrow, 1)) (hu : jm_unc M.2.2.2.2 (pc + 7) = true := by rfl) (hec : jm_ec P = 1 := by rfl) :
    jm_V P M (d + 7) pc ls [] x (some (.inr (C, x))) := by
  intro q hq p e s m args below meth c H locs la hC hl hP hS
  cases hq
  obtain ⟨hx, hb, hml, hret, hlocks, hown, hno, hG⟩ := hC
  obtain ⟨hU, hN⟩ := hZ s s.heap hG.2.2.2.2.2.2
  have hS0 : va_S (jm_A0 P) s.heap H locs := jm_S_w hS (jm_AA_b hok hG)
  have K := vx_throw0 (p := p) (l := jm_l P) (e := e) (R := jm_room (d + 7)) (s := s) (m := m) (args := args) (below := below) (meth := meth) (c := c) (H := H) (locs := locs) (cells := 0) (slots := 0) (ls := la) (rest := []) (mc := 1) (ms := 20) (free := jm_AA P s)
    (Qc := fun _ _ _ _ => False) (XC := fun E _ t => E = C ∧ s.heap.size ≤ t.heap.size ∧ va_P (jm_d P) (jm_c P) (jm_w P x) t.heap ∧ va_F (jm_AA P s) s t) (own := M.1.cls) (cls := C) (names := names) (ik := ik) (ic := ic) (A := jm_A0 P)
    hx hb hok.2.2.2.2.2.2 hown hcls hnames (hG.1 _ hk args) (hG.1 _ hini args) (fun w hw => hG.1 _ (hat w hw) args) hgood hU hN hS0 (by rw [hl.1]; exact hml.symm) d0 d3 d4 d7
    (jm_unc_of hno hu) (by show names.length + 3 < d + 7; omega) (by show 0 + (13 * (names.length + 1) + 42) ≤ 40 * (d + 7); omega) (Nat.le_refl _) (by show 0 + 6 ≤ 20; omega) hlocks
    (fun t hal hsz hsame => ⟨rfl, Nat.le_trans hS.1 hsz, hP.kept (fun k z hk => hsame z.1 ((hP k z hk).lt)), ⟨Nat.le_trans hS.1 hsz, fun z h1 h2 => by rw [hsame z (Nat.lt_of_lt_of_le h1 hS.1)]; exact hS.2.1 z h1 h2⟩⟩)
    hS.2.2 (Nat.le_refl _) (by omega)
  intro T hT X
  obtain ⟨t, a1, o, b1, b2, b3⟩ := K T hT X
  refine ⟨t, a1, o, b1, b2, ?_⟩
  rcases b3 with ⟨hf, -⟩ | ⟨z, rfl, E, ce, L, ⟨rfl, -, hP2, hF2⟩, c1, c2, c3, hW, hsame, hL⟩
  · exact hf.elim
  · have hcl := hG.1 _ hini #[]
    refine ⟨⟨z, rfl, ce, c1, c2, by rw [hW.alike.findClass]; exact c3, ?_⟩, hP2, L, hW, by rw [hec]; exact hsame, hL, hF2⟩
    obtain ⟨kC, hkC⟩ : ∃ kC, s.vm.classes[ce.cls]? = some kC := by
      have hin : Cond.instantiable E 6 ∈ vx_at0 M.1.cls ic E names := by
        unfold vx_at0
        refine List.mem_filter.mpr ⟨by simp [Bundle.ownAtoms0], by simp [vx_no]⟩
      obtain ⟨cC, hfc, kC, hkC, -⟩ := classAt_of (hG.1 _ (hat _ hin) args)
      rw [c3] at hfc
      cases hfc
      exact ⟨kC, hkC⟩
    obtain ⟨k', hk', -⟩ := hW.alike.2.2 _ _ hkC
    exact ⟨k', hk'⟩

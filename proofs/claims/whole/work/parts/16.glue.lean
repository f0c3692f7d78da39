/-! THE SMALL MACHINE, 7: names for states, fewer locals, answers by their kind. -/
abbrev jm_Rec : Type := Nat → List Value → jm_X → Option jm_R
def jm_then (X : jm_X) (f : jm_X → Option jm_R) : Option jm_R := f X
def jm_bI (r : Option jm_R) (f : Int32 → jm_X → Option jm_R) : Option jm_R := jm_bind r (fun v x => match v with
  | some (.int b) => f b x
  | _ => none)
def jm_bA (r : Option jm_R) (f : Nat → jm_X → Option jm_R) : Option jm_R := jm_bind r (fun v x => match v with
  | some (.ref b) => f b x
  | _ => none)
def jm_bV (r : Option jm_R) (f : jm_X → Option jm_R) : Option jm_R := jm_bind r (fun v x => match v with
  | none => f x
  | _ => none)
section JH
variable {P : jm_P} {M y : jm_M} {d pc : Nat} {ls ls' : List (Nat × Value)} {st av rest : List Value} {x : jm_X} {r r0 : Option jm_R}
theorem jm_V.then_ {X : jm_X} {f : jm_X → Option jm_R} (h : ∀ x, jm_V P M d pc ls st x (f x)) : jm_V P M d pc ls st X (jm_then X f) := h X
theorem jm_V.sub (ks : List Nat) (hs : lv_pick ls ks = ls') (k : jm_V P M d pc ls' st x r) : jm_V P M d pc ls st x r := by
  intro q hq p e s m args below meth c H locs la hC hl hP hS
  refine k q hq p e s m args below meth c H locs la hC (lv_sub hl ks ?_) hP hS
  subst hs
  simp [lv_pick, jm_cl, List.map_filterMap]
theorem jm_V.callI {f : Int32 → jm_X → Option jm_R} (hok : jm_Ok P) (hcon : jm_Con P y d av x r0) (hinv : jm_Inv P M y pc av rest x) (hy : jm_cw y ∈ jm_t P) (hini : Cond.initialized y.1.cls ∈ jm_t P) (hnl : y.2.2.1 ≤ 21) (hcat : (rest.map fun v => v.category).sum ≤ 8)
    (k : ∀ b x', jm_V P M (d + 1) (pc + 3) ls (.int b :: rest) x' (f b x')) (hu : jm_unc M.2.2.2.2 pc = true := by rfl) : jm_V P M (d + 1) pc ls (av.reverse ++ rest) x (jm_bI r0 f) := by
  refine jm_V.call hok hcon hinv hy hini hnl hcat (fun v x' => ?_) hu
  match v with
  | some (.int b) => exact k b x'
  | none => exact jm_V.stuck
  | some (.long _) => exact jm_V.stuck
  | some (.float _) => exact jm_V.stuck
  | some (.double _) => exact jm_V.stuck
  | some .null => exact jm_V.stuck
  | some (.ref _) => exact jm_V.stuck
  | some (.retAddr _) => exact jm_V.stuck
theorem jm_V.callA {f : Nat → jm_X → Option jm_R} (hok : jm_Ok P) (hcon : jm_Con P y d av x r0) (hinv : jm_Inv P M y pc av rest x) (hy : jm_cw y ∈ jm_t P) (hini : Cond.initialized y.1.cls ∈ jm_t P) (hnl : y.2.2.1 ≤ 21) (hcat : (rest.map fun v => v.category).sum ≤ 8)
    (k : ∀ b x', jm_V P M (d + 1) (pc + 3) ls (.ref b :: rest) x' (f b x')) (hu : jm_unc M.2.2.2.2 pc = true := by rfl) : jm_V P M (d + 1) pc ls (av.reverse ++ rest) x (jm_bA r0 f) := by
  refine jm_V.call hok hcon hinv hy hini hnl hcat (fun v x' => ?_) hu
  match v with
  | some (.ref b) => exact k b x'
  | none => exact jm_V.stuck
  | some (.int _) => exact jm_V.stuck
  | some (.long _) => exact jm_V.stuck
  | some (.float _) => exact jm_V.stuck
  | some (.double _) => exact jm_V.stuck
  | some .null => exact jm_V.stuck
  | some (.retAddr _) => exact jm_V.stuck
theorem jm_V.callV {f : jm_X → Option jm_R} (hok : jm_Ok P) (hcon : jm_Con P y d av x r0) (hinv : jm_Inv P M y pc av rest x) (hy : jm_cw y ∈ jm_t P) (hini : Cond.initialized y.1.cls ∈ jm_t P) (hnl : y.2.2.1 ≤ 21) (hcat : (rest.map fun v => v.category).sum ≤ 8)
    (k : ∀ x', jm_V P M (d + 1) (pc + 3) ls rest x' (f x')) (hu : jm_unc M.2.2.2.2 pc = true := by rfl) : jm_V P M (d + 1) pc ls (av.reverse ++ rest) x (jm_bV r0 f) := by
  refine jm_V.call hok hcon hinv hy hini hnl hcat (fun v x' => ?_) hu
  match v with
  | none => exact k x'
  | some _ => exact jm_V.stuck
theorem jm_V.aret {v : Nat} {t : FieldType} (hr : M.2.2.2.1 = some t) (ht : (∃ n, t = .object n) ∨ ∃ u, t = .array u) (hd : decode M.2.1 pc = .ok (.areturn, 1)) : jm_V P M d pc ls [.ref v] x (some (.inl (some (.ref v), x))) := by
  intro q hq p e s m args below meth c H locs la hC hl hP hS
  cases hq
  obtain ⟨hx, hb, hml, hret, hlocks, hown, hno, hG⟩ := hC
  refine jm_Q_of (Qc := fun _ s o t => o = .returned (some (.ref (jm_a P v))) ∧ va_P (jm_d P) (jm_c P) (jm_w P x) t.heap ∧ va_F (jm_AA P s) s t) ?_ ?_
  · exact W.aret hx hb (hret.trans hr) ht (Or.inr ⟨_, rfl⟩) (fun t ht _ => ⟨rfl, by rw [ht]; exact hP, hS.F ht⟩) hS.2.2 hd
  · rintro o t ⟨h1, h2, h3⟩ ⟨L, ⟨-, hW, hf⟩, hL⟩
    exact ⟨h1, h2, L, hW, hf, hL, h3⟩
end JH
/-- what a caught or passed-on object is -/
theorem jm_exc_of {P : jm_P} {s : State} {x : jm_X} {o ci : Nat} {fs : List Nat} {q : vw_C} (hG : jm_G P s) {H : Heap} (hP : va_P (jm_d P) (jm_c P) (jm_w P x) H) (hs : (jm_h P)[o]? = some (.inr (.inr (ci, fs)))) (hc : (jm_c P)[ci]? = some q) {t : State} (ht : t.heap = H) (hW : s.vm.Alike t.vm) : jm_exc q.1 t (jm_a P o) := by
  obtain ⟨q', hq', cell, h1, e, h2, -⟩ := hP o _ (jm_wl_at hs)
  obtain ⟨-, hfc, kC, hkC, -⟩ := hG.2.2.2.1.1 ci q hc
  have h3 : s.vm.findClass q.1 = some cell.cls := by rw [e]; exact hfc
  obtain ⟨k', hk', -⟩ := hW.2.2 _ _ hkC
  exact ⟨cell, by rw [ht]; exact h1, h2, by rw [hW.findClass]; exact h3, k', by rw [e]; exact hk'⟩
theorem jm_V.athrow {P : jm_P} {M : jm_M} {d pc o ci : Nat} {ls : List (Nat × Value)} {st : List Value} {x : jm_X} {fs : List Nat} {q : vw_C} (hs : (jm_h P)[o]? = some (.inr (.inr (ci, fs)))) (hc : (jm_c P)[ci]? = some q) (hd : decode M.2.1 pc = .ok (.athrow, 1)) (hu : jm_unc M.2.2.2.2 pc = true := by rfl) :
    jm_V P M d pc ls (.ref o :: st) x (some (.inr (q.1, x))) := by
  intro z hz p e s m args below meth c H locs la hC hl hP hS T hT X
  cases hz
  obtain ⟨hx, hb, hml, hret, hlocks, hown, hno, hG⟩ := hC
  have X1 := stand_widen X (Nat.zero_le (jm_ec P)) (Nat.zero_le (20 * jm_ec P))
  obtain ⟨st1, hrun, hended, hW2, hsame2⟩ := X1.athrowLeaves hx (g := F0 m pc la (jm_st (jm_a P) (.ref o :: st))) rfl rfl rfl (jm_unc_of hno hu) (a := jm_a P o) (rest := jm_st (jm_a P) st) rfl (by rw [hb]; exact hd) hlocks
  refine ⟨_, st1, .threw (jm_a P o), hrun, hended, ⟨_, rfl, jm_exc_of hG hP hs hc (by exact hT) hW2.alike⟩, ?_, jm_end_of (H := H) hS (by exact hT) hW2 hsame2⟩
  show va_P _ _ _ T.heap
  rw [hT]; exact hP
theorem jm_room_mono {s : State} {pl : Platform} {d d' : Nat} (h : d ≤ d') (hr : s.hasRoom pl (jm_room d') = true) : s.hasRoom pl (jm_room d) = true := by
  unfold State.hasRoom at hr ⊢
  rw [Bool.and_eq_true, Bool.and_eq_true, Bool.and_eq_true, Bool.and_eq_true] at hr ⊢
  obtain ⟨⟨⟨⟨h1, h2⟩, h7⟩, h8⟩, h9⟩ := hr
  have g1 := of_decide_eq_true h1
  obtain ⟨g2, g3, g4, g5, g6⟩ := of_decide_eq_true h2
  simp only [jm_room] at g1 g2 g3 g4 g5 g6
  refine ⟨⟨⟨⟨decide_eq_true ?_, decide_eq_true ⟨?_, ?_, ?_, ?_, g6⟩⟩, h7⟩, h8⟩, h9⟩ <;> simp only [jm_room] <;> omega
theorem jm_Con.mono {P : jm_P} {M : jm_M} {d d' : Nat} {av : List Value} {x : jm_X} {r : Option jm_R} (h : jm_Con P M d av x r) (hd : d ≤ d') : jm_Con P M d' av x r := by
  intro q hq p e ha hc hk s m args below hf happ hP hK
  refine h q hq p e ha hc hk s m args below hf ?_ hP hK
  obtain ⟨h1, h2, h3, h4, h5, h6, h7, h8⟩ := (Spec.appliesLoose_iff hf).mp happ
  exact (Spec.appliesLoose_iff hf).mpr ⟨h1, h2, h3, h4, h5, h6, jm_room_mono hd h7, h8⟩

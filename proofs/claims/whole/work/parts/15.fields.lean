/-! THE SMALL MACHINE, 6: fields, constants, arrays. -/
abbrev jm_T : Type := List (Nat × Nat × Nat) × List (Nat × Value) × List (Nat × Value)
def jm_lkp {α : Type} : List (Nat × α) → Nat → Option α
  | [], _ => none
  | q :: r, i => if q.1 = i then some q.2 else jm_lkp r i
theorem jm_lkp_mem {α : Type} : ∀ {l : List (Nat × α)} {i : Nat} {v : α}, jm_lkp l i = some v → (i, v) ∈ l
  | [], _, _, h => by cases h
  | (k, w) :: r, i, v, h => by
    unfold jm_lkp at h
    by_cases hk : k = i
    · rw [if_pos hk] at h
      cases h
      subst hk
      exact List.mem_cons_self
    · rw [if_neg hk] at h
      exact List.mem_cons_of_mem _ (jm_lkp_mem h)
def jm_fq (x : jm_X) (o k : Nat) : Nat → Value
  | 0 => .int (x.1 (jm_key o k))
  | 1 => .ref (x.2.1 (jm_key o k))
  | n + 2 => .ref n
theorem jm_fq_cv (ad : Nat → Nat) (x : jm_X) (o k : Nat) : ∀ fd : Nat, jm_cv ad (jm_fq x o k fd) = jm_fv ad x o k fd
  | 0 => rfl
  | 1 => rfl
  | _ + 2 => rfl
def jm_gf (sh : List jm_S) (x : jm_X) (ci k o : Nat) : Option Value := match sh[o]? with
  | some (.inr (.inr q)) => if q.1 = ci then (q.2[k]?).map (jm_fq x o k) else none
  | _ => none
def jm_pf (sh : List jm_S) (x : jm_X) (ci k o : Nat) (v : Value) : Option jm_X := match sh[o]?, v with
  | some (.inr (.inr q)), .int w => if q.1 = ci then (if q.2[k]? = some 0 then some (va_up x.1 (jm_key o k) w, x.2) else none) else none
  | some (.inr (.inr q)), .ref w => if q.1 = ci then (if q.2[k]? = some 1 then some (x.1, va_up x.2.1 (jm_key o k) w, x.2.2) else none) else none
  | _, _ => none
/-- the field's place in its class; how the class links it -/
def jm_FOk (P : jm_P) (own : String) (idx ci k : Nat) : Prop := ∃ (C : String) (T : u_T) (N : Nat) (ty : Nat → FieldType), (jm_c P)[ci]? = some (C, T, N) ∧ k < N ∧ (T k).1 = C ∧ (∀ w ∈ u_ws C T N, w ∈ jm_t P) ∧
  (∀ k, k < N → parseFieldDescriptor (T k).2.2.1 = some (ty k)) ∧ (∀ a, a < N → ∀ b, b < N → a ≠ b → (T a).2.1 ≠ (T b).2.1) ∧ (Cond.fieldLink own idx C (T k).2.1 (T k).2.2.1 ∈ jm_t P ∨ ∃ host, (own, idx, C, (T k).2.1, (T k).2.2.1, host) ∈ jm_fn P) ∧
  (∀ (o : Nat) (fs : List Nat), (jm_h P)[o]? = some (.inr (.inr (ci, fs))) → (fs[k]? = some 0 → ty k = .int ∧ (T k).2.2.2 = false) ∧ (fs[k]? = some 1 → (∃ t, ty k = .object t ∨ ∃ u, ty k = .array u) ∧ (T k).2.2.2 = false))
def jm_SOk (P : jm_P) (own : String) (idx : Nat) (v : Value) : Prop := ∃ C n dsc : String, Cond.fieldLink own idx C n dsc ∈ jm_t P ∧ ∀ (s : State) (H : Heap), jm_sg P s H → va_Z C n dsc (jm_cv (jm_a P) v) (fun q => jm_b P ≤ q) s H
def jm_LOk (P : jm_P) (own : String) (idx : Nat) (v : Value) : Prop := (∃ n : Int32, v = .int n ∧ Cond.constant own idx n ∈ jm_t P) ∨ ∃ n : Int64, v = .long n ∧ Cond.constantLong own idx n ∈ jm_t P
def jm_TOk (P : jm_P) (own : String) (T : jm_T) : Prop := (∀ q ∈ T.1, jm_FOk P own q.1 q.2.1 q.2.2) ∧ (∀ q ∈ T.2.1, jm_SOk P own q.1 q.2) ∧ (∀ q ∈ T.2.2, jm_LOk P own q.1 q.2)
def jm_g (sh : List jm_S) (T : jm_T) (nL : Nat) (i : Instr) (len pc : Nat) (ls : List (Nat × Value)) (st : List Value) (x : jm_X) : Option (jm_F × jm_X) := match i, len, st with
  | .getfield idx, 3, .ref o :: r => match jm_lkp T.1 idx with
    | some q => match jm_gf sh x q.1 q.2 o with
      | some v => some ((pc + 3, ls, v :: r), x)
      | none => none
    | none => none
  | .putfield idx, 3, v :: .ref o :: r => match jm_lkp T.1 idx with
    | some q => match jm_pf sh x q.1 q.2 o v with
      | some x' => some ((pc + 3, ls, r), x')
      | none => none
    | none => none
  | .getstatic idx, 3, st => match jm_lkp T.2.1 idx with
    | some v => some ((pc + 3, ls, v :: st), x)
    | none => none
  | .ldc idx, 2, st => match jm_lkp T.2.2 idx with
    | some (.int v) => some ((pc + 2, ls, .int v :: st), x)
    | _ => none
  | .ldc2_w idx, 3, st => match jm_lkp T.2.2 idx with
    | some (.long v) => some ((pc + 3, ls, .long v :: st), x)
    | _ => none
  | i, len, st => match jm_f nL i len pc ls st with
    | some q => some (q, x)
    | none => none
section JG
variable {P : jm_P} {M : jm_M} {d pc pc' len idx : Nat} {ls ls' : List (Nat × Value)} {st st' : List Value} {x x' : jm_X} {r : Option jm_R} {i : Instr}
theorem jm_V.frame (hd : decode M.2.1 pc = .ok (i, len)) (h : jm_f M.2.2.1 i len pc ls st = some (pc', ls', st')) (k : jm_V P M d pc' ls' st' x r) : jm_V P M d pc ls st x r := by
  intro q hq p e s m args below meth c H locs la hC hl hP hS
  exact jm_f_ok hC.1 hC.2.1 hd h hl (fun la' hl' => k q hq p e s m args below meth c H locs la' hC hl' hP hS)
theorem jm_V.getf {o ci k : Nat} {v : Value} (hF : jm_FOk P M.1.cls idx ci k) (hv : jm_gf (jm_h P) x ci k o = some v) (hd : decode M.2.1 pc = .ok (.getfield idx, 3)) (kk : jm_V P M d (pc + 3) ls (v :: st) x r) : jm_V P M d pc ls (.ref o :: st) x r := by
  intro q hq p e s m args below meth c H locs la hC hl hP hS
  obtain ⟨hx, hb, hml, hret, hlocks, hown, hno, hG⟩ := id hC
  obtain ⟨C, T, N, ty, h1, h2, h3, h4, h5, h6, h7, h8⟩ := hF
  unfold jm_gf at hv
  split at hv
  · rename_i q1 hs
    split at hv
    · rename_i hci
      obtain ⟨ci', fs⟩ := q1
      subst hci
      have hv2 : (fs.mapIdx (fun k fd => jm_fv (jm_a P) x o k fd))[k]? = some (jm_cv (jm_a P) v) := by
        rw [jm_fs_get]
        cases hfk : fs[k]? with
        | none => rw [hfk] at hv; cases hv
        | some fd => rw [hfk] at hv; cases hv; simp only [Option.map_some]; rw [jm_fq_cv]
      have kk2 := kk q hq p e s m args below meth c H locs la hC hl hP hS
      rcases h7 with h7 | ⟨host, h7⟩
      · exact va_get (D := jm_d P) (cl := jm_c P) (tys := []) (ws := jm_w P x) (C := C) (T := T) (N := N) (ref := C) hx hb (fun w hw => hG.1 w hw args) h4 hown hG.2.2.2.1 hP o (jm_wl_at hs) h1 k h2 (hG.1 _ h7 args) (fun y hy => by rw [h3] at hy; exact hy) hv2 hd kk2
      · exact va_getN (D := jm_d P) (cl := jm_c P) (tys := []) (ws := jm_w P x) (C := C) (T := T) (N := N) (ref := C) (host := host) hx hb (fun w hw => hG.1 w hw args) h4 hown hG.2.2.2.1 hP o (jm_wl_at hs) h1 k h2 (va_Nw.use rfl (hG.2.1 _ h7)) (fun y hy => by rw [h3] at hy; exact hy) hv2 hd kk2
    · cases hv
  · cases hv
theorem jm_V.putf {o ci k : Nat} {v : Value} (hok : jm_Ok P) (hF : jm_FOk P M.1.cls idx ci k) (hv : jm_pf (jm_h P) x ci k o v = some x') (hd : decode M.2.1 pc = .ok (.putfield idx, 3)) (kk : jm_V P M d (pc + 3) ls st x' r) : jm_V P M d pc ls (v :: .ref o :: st) x r := by
  intro q hq p e s m args below meth c H locs la hC hl hP hS
  obtain ⟨hx, hb, hml, hret, hlocks, hown, hno, hG⟩ := id hC
  obtain ⟨C, T, N, ty, h1, h2, h3, h4, h5, h6, h7, h8⟩ := hF
  have hD : va_D (jm_AA P s) (jm_w P x) := jm_D hok.2.2.1
  have kk2 := fun H1 locs1 hP1 hS1 => kk q hq p e s m args below meth c H1 locs1 la hC hl hP1 hS1
  unfold jm_pf at hv
  split at hv
  · rename_i q1 w hs
    obtain ⟨ci', fs⟩ := q1
    split at hv
    · rename_i hci
      split at hv
      · rename_i hf
        cases hv
        dsimp only at hci hf
        subst hci
        have e1 := jm_set_int (ad := jm_a P) (aC := jm_k P) (x := x) hok.2.1 hs hf w
        obtain ⟨hty, hfin⟩ := (h8 o fs hs).1 hf
        have hl2 : k < (fs.mapIdx (fun k fd => jm_fv (jm_a P) x o k fd)).length := by simpa using (List.getElem?_eq_some_iff.mp hf).1
        have hpt : parseFieldDescriptor (T k).2.2.1 = some .int := by rw [h5 k h2, hty]
        have K : ∀ (H1 : Heap) (locs1 : List Loc), va_P (jm_d P) (jm_c P) ((jm_w P x).set o (jm_a P o, .inr (ci', (fs.mapIdx (fun k fd => jm_fv (jm_a P) x o k fd)).set k (.int w)))) H1 → va_D (jm_AA P s) ((jm_w P x).set o (jm_a P o, .inr (ci', (fs.mapIdx (fun k fd => jm_fv (jm_a P) x o k fd)).set k (.int w)))) → va_S (jm_AA P s) s.heap H1 locs1 → W p (jm_l P) e (jm_room d) s m args below meth c H1 locs1 0 0 (jm_Q P below q s) (F0 m (pc + 3) la (jm_st (jm_a P) st)) :=
          fun H1 locs1 hP1 _ hS1 => kk2 H1 locs1 (by show va_P _ _ (jm_wl _ _ _ _) H1; rw [e1]; exact hP1) hS1
        rcases h7 with h7 | ⟨host, h7⟩
        · exact va_put (D := jm_d P) (cl := jm_c P) (tys := []) (C := C) (T := T) (N := N) (ref := C) (v := .int w) hx hb (fun w hw => hG.1 w hw args) h4 ty h5 h6 hown hG.2.2.2.1 hP hD hS o (jm_wl_at hs) h1 k h2 (hG.1 _ h7 args) (fun y hy => by rw [h3] at hy; exact hy) hfin hpt rfl rfl hl2 hd K
        · exact va_putN (D := jm_d P) (cl := jm_c P) (tys := []) (C := C) (T := T) (N := N) (ref := C) (host := host) (v := .int w) hx hb (fun w hw => hG.1 w hw args) h4 ty h5 h6 hown hG.2.2.2.1 hP hD hS o (jm_wl_at hs) h1 k h2 (va_Nw.use rfl (hG.2.1 _ h7)) (fun y hy => by rw [h3] at hy; exact hy) hfin hpt rfl rfl hl2 hd K
      · cases hv
    · cases hv
  · rename_i q1 w hs
    obtain ⟨ci', fs⟩ := q1
    split at hv
    · rename_i hci
      split at hv
      · rename_i hf
        cases hv
        dsimp only at hci hf
        subst hci
        have e1 := jm_set_ref (ad := jm_a P) (aC := jm_k P) (x := x) hok.2.1 hs hf w
        obtain ⟨hty, hfin⟩ := (h8 o fs hs).2 hf
        have hl2 : k < (fs.mapIdx (fun k fd => jm_fv (jm_a P) x o k fd)).length := by simpa using (List.getElem?_eq_some_iff.mp hf).1
        have hnf : narrow (ty k) (.ref (jm_a P w)) = .ref (jm_a P w) ∧ fits (ty k) (.ref (jm_a P w)) = true := by
          obtain ⟨t, h | ⟨u, h⟩⟩ := hty <;> rw [h] <;> exact ⟨rfl, rfl⟩
        have K : ∀ (H1 : Heap) (locs1 : List Loc), va_P (jm_d P) (jm_c P) ((jm_w P x).set o (jm_a P o, .inr (ci', (fs.mapIdx (fun k fd => jm_fv (jm_a P) x o k fd)).set k (.ref (jm_a P w))))) H1 → va_D (jm_AA P s) ((jm_w P x).set o (jm_a P o, .inr (ci', (fs.mapIdx (fun k fd => jm_fv (jm_a P) x o k fd)).set k (.ref (jm_a P w))))) → va_S (jm_AA P s) s.heap H1 locs1 → W p (jm_l P) e (jm_room d) s m args below meth c H1 locs1 0 0 (jm_Q P below q s) (F0 m (pc + 3) la (jm_st (jm_a P) st)) :=
          fun H1 locs1 hP1 _ hS1 => kk2 H1 locs1 (by show va_P _ _ (jm_wl _ _ _ _) H1; rw [e1]; exact hP1) hS1
        rcases h7 with h7 | ⟨host, h7⟩
        · exact va_put (D := jm_d P) (cl := jm_c P) (tys := []) (C := C) (T := T) (N := N) (ref := C) (v := .ref (jm_a P w)) hx hb (fun w hw => hG.1 w hw args) h4 ty h5 h6 hown hG.2.2.2.1 hP hD hS o (jm_wl_at hs) h1 k h2 (hG.1 _ h7 args) (fun y hy => by rw [h3] at hy; exact hy) hfin (h5 k h2) hnf.1 hnf.2 hl2 hd K
        · exact va_putN (D := jm_d P) (cl := jm_c P) (tys := []) (C := C) (T := T) (N := N) (ref := C) (host := host) (v := .ref (jm_a P w)) hx hb (fun w hw => hG.1 w hw args) h4 ty h5 h6 hown hG.2.2.2.1 hP hD hS o (jm_wl_at hs) h1 k h2 (va_Nw.use rfl (hG.2.1 _ h7)) (fun y hy => by rw [h3] at hy; exact hy) hfin (h5 k h2) hnf.1 hnf.2 hl2 hd K
      · cases hv
    · cases hv
  · cases hv
theorem jm_AA_b (hok : jm_Ok P) {s : State} (hG : jm_G P s) : ∀ q, jm_AA P s q → jm_b P ≤ q := by
  rintro q (⟨k, h1, rfl⟩ | h)
  · exact hok.2.2.2.1 k h1
  · exact Nat.le_trans hG.2.2.2.2.2.1 h
theorem jm_V.gets {v : Value} (hok : jm_Ok P) (hF : jm_SOk P M.1.cls idx v) (hd : decode M.2.1 pc = .ok (.getstatic idx, 3)) (kk : jm_V P M d (pc + 3) ls (v :: st) x r) : jm_V P M d pc ls st x r := by
  intro q hq p e s m args below meth c H locs la hC hl hP hS
  obtain ⟨hx, hb, hml, hret, hlocks, hown, hno, hG⟩ := id hC
  obtain ⟨C, n, dsc, h1, h2⟩ := hF
  exact va_gets hx hb (h2 s s.heap hG.2.2.2.2.2.2) (jm_S_w hS (jm_AA_b hok hG)) hown (hG.1 _ h1 args) (fun _ h => h) hd (kk q hq p e s m args below meth c H locs la hC hl hP hS)
theorem jm_V.ldc {v : Int32} (hF : Cond.constant M.1.cls idx v ∈ jm_t P) (hd : decode M.2.1 pc = .ok (.ldc idx, 2)) (kk : jm_V P M d (pc + 2) ls (.int v :: st) x r) : jm_V P M d pc ls st x r := by
  intro q hq p e s m args below meth c H locs la hC hl hP hS
  obtain ⟨hx, hb, hml, hret, hlocks, hown, hno, hG⟩ := id hC
  exact lv_ldc hx hb hown (hG.1 _ hF args) hd (kk q hq p e s m args below meth c H locs la hC hl hP hS)
theorem jm_V.ldc2 {v : Int64} (hF : Cond.constantLong M.1.cls idx v ∈ jm_t P) (hd : decode M.2.1 pc = .ok (.ldc2_w idx, 3)) (kk : jm_V P M d (pc + 3) ls (.long v :: st) x r) : jm_V P M d pc ls st x r := by
  intro q hq p e s m args below meth c H locs la hC hl hP hS
  obtain ⟨hx, hb, hml, hret, hlocks, hown, hno, hG⟩ := id hC
  exact lv_ldc2 hx hb hown (hG.1 _ hF args) hd (kk q hq p e s m args below meth c H locs la hC hl hP hS)
theorem jm_V.one {T : jm_T} (hok : jm_Ok P) (hT : jm_TOk P M.1.cls T) (hd : decode M.2.1 pc = .ok (i, len)) (h : jm_g (jm_h P) T M.2.2.1 i len pc ls st x = some ((pc', ls', st'), x')) (k : jm_V P M d pc' ls' st' x' r) : jm_V P M d pc ls st x r := by
  unfold jm_g at h
  split at h
  · split at h
    · rename_i hi
      split at h
      · rename_i hv; cases h; exact jm_V.getf (hT.1 _ (jm_lkp_mem hi)) hv hd k
      · cases h
    · cases h
  · split at h
    · rename_i hi
      split at h
      · rename_i hv; cases h; exact jm_V.putf hok (hT.1 _ (jm_lkp_mem hi)) hv hd k
      · cases h
    · cases h
  · split at h
    · rename_i hi; cases h; exact jm_V.gets hok (hT.2.1 _ (jm_lkp_mem hi)) hd k
    · cases h
  · split at h
    · rename_i hi
      cases h
      rcases hT.2.2 _ (jm_lkp_mem hi) with ⟨n, h1, h2⟩ | ⟨n, h1, h2⟩
      · cases h1; exact jm_V.ldc h2 hd k
      · cases h1
    · cases h
  · split at h
    · rename_i hi
      cases h
      rcases hT.2.2 _ (jm_lkp_mem hi) with ⟨n, h1, h2⟩ | ⟨n, h1, h2⟩
      · cases h1
      · cases h1; exact jm_V.ldc2 h2 hd k
    · cases h
  · split at h
    · rename_i hi; cases h; exact jm_V.frame hd hi k
    · cases h
end JG
/-- a stretch of instructions, each with its place and its length -/
def jm_x (sh : List jm_S) (T : jm_T) (nL : Nat) : List (Nat × Instr × Nat) → Nat → List (Nat × Value) → List Value → jm_X → Option (jm_F × jm_X)
  | [], pc, ls, st, x => some ((pc, ls, st), x)
  | (p0, i, len) :: is, pc, ls, st, x => if p0 = pc then (match jm_g sh T nL i len pc ls st x with
    | some q => jm_x sh T nL is q.1.1 q.1.2.1 q.1.2.2 q.2
    | none => none) else none
def jm_at (cc : ByteArray) (is : List (Nat × Instr × Nat)) : Bool := is.all (fun q => decide (decode cc q.1 = .ok (q.2.1, q.2.2)))
theorem jm_V.run {P : jm_P} {M : jm_M} {d : Nat} {T : jm_T} {r : Option jm_R} (hok : jm_Ok P) (hT : jm_TOk P M.1.cls T) : ∀ {is : List (Nat × Instr × Nat)} {pc pc' : Nat} {ls ls' : List (Nat × Value)} {st st' : List Value} {x x' : jm_X},
    jm_at M.2.1 is = true → jm_x (jm_h P) T M.2.2.1 is pc ls st x = some ((pc', ls', st'), x') → jm_V P M d pc' ls' st' x' r → jm_V P M d pc ls st x r
  | [], _, _, _, _, _, _, _, _, _, h, k => by cases h; exact k
  | (p0, i, len) :: is, pc, pc', ls, ls', st, st', x, x', ha, h, k => by
    simp only [jm_at, List.all_cons, Bool.and_eq_true, decide_eq_true_eq] at ha
    unfold jm_x at h
    split at h
    · rename_i hp
      subst hp
      split at h
      · rename_i q hq
        obtain ⟨⟨pc1, ls1, st1⟩, x1⟩ := q
        exact jm_V.one hok hT ha.1 hq (jm_V.run hok hT (is := is) ha.2 h k)
      · cases h
    · cases h
/-- a branch: of the place and of the result alike -/
theorem jm_V.ite {P : jm_P} {M : jm_M} {d : Nat} {ls : List (Nat × Value)} {st : List Value} {x : jm_X} {C : Prop} {dc dc2 : Decidable C} {a b : Nat} {r r2 : Option jm_R} (kt : C → jm_V P M d a ls st x r) (kf : ¬ C → jm_V P M d b ls st x r2) : jm_V P M d (@ite _ C dc a b) ls st x (@ite _ C dc2 r r2) := by
  by_cases h : C
  · rw [if_pos h, if_pos h]; exact kt h
  · rw [if_neg h, if_neg h]; exact kf h
/-- an array's index is within, of the kind asked for -/
def jm_in (sh : List jm_S) (o : Nat) (ty : FieldType) (i : Int32) : Bool := match sh[o]? with
  | some (.inl q) => decide (q.1 = ty) && (decide (¬ i < 0) && decide (i.toNatClampNeg < q.2))
  | _ => false
theorem jm_in_of {sh : List jm_S} {o : Nat} {ty : FieldType} {i : Int32} (h : jm_in sh o ty i = true) : ∃ n, sh[o]? = some (.inl (ty, n)) ∧ vp_in i n := by
  unfold jm_in at h
  split at h
  · rename_i q hs
    obtain ⟨t, n⟩ := q
    simp only [Bool.and_eq_true, decide_eq_true_eq] at h
    obtain ⟨rfl, h2, h3⟩ := h
    exact ⟨n, hs, fun z => z.elim h2 (fun z => by omega)⟩
  · cases h
section JA
variable {P : jm_P} {M : jm_M} {d pc : Nat} {ls : List (Nat × Value)} {st : List Value} {x : jm_X} {r : Option jm_R} {o : Nat} {i v : Int32}
theorem jm_K1 {s : State} (hG : jm_G P s) {ty : FieldType} (h : (∃ n, (jm_h P)[o]? = some (.inl (ty, n))) ∨ ∃ C ids, ty = .object C ∧ (jm_h P)[o]? = some (.inr (.inl (C, ids)))) : va_K (jm_d P) (jm_c P) [(jm_k P o, ty)] s :=
  ⟨hG.2.2.2.1.1, fun k q hk => by
    match k, hk with
    | 0, hk => cases hk; exact hG.2.2.2.2.1 o ty h
    | k + 1, hk => simp at hk⟩
theorem jm_V.iald (hd : decode M.2.1 pc = .ok (.iaload, 1)) (k : jm_V P M d (pc + 1) ls (.int (x.2.2 o i.toNatClampNeg) :: st) x r) : jm_V P M d pc ls (.int i :: .ref o :: st) x (if jm_in (jm_h P) o .int i then r else none) := by
  split
  · rename_i h
    obtain ⟨n, hs, hin⟩ := jm_in_of h
    intro q hq p e s m args below meth c H locs la hC hl hP hS
    obtain ⟨hx, hb, hml, hret, hlocks, hown, hno, hG⟩ := id hC
    exact va_iald hx hb (jm_K1 hG (Or.inl ⟨n, hs⟩)) hP o 0 (jm_wl_at hs) rfl hin hd (k q hq p e s m args below meth c H locs la hC hl hP hS)
  · exact jm_V.stuck
theorem jm_V.bald (hd : decode M.2.1 pc = .ok (.baload, 1)) (k : jm_V P M d (pc + 1) ls (.int (x.2.2 o i.toNatClampNeg) :: st) x r) : jm_V P M d pc ls (.int i :: .ref o :: st) x (if jm_in (jm_h P) o .byte i then r else none) := by
  split
  · rename_i h
    obtain ⟨n, hs, hin⟩ := jm_in_of h
    intro q hq p e s m args below meth c H locs la hC hl hP hS
    obtain ⟨hx, hb, hml, hret, hlocks, hown, hno, hG⟩ := id hC
    exact va_bald hx hb (jm_K1 hG (Or.inl ⟨n, hs⟩)) hP o 0 (jm_wl_at hs) rfl hin hd (k q hq p e s m args below meth c H locs la hC hl hP hS)
  · exact jm_V.stuck
theorem jm_V.zald (hd : decode M.2.1 pc = .ok (.baload, 1)) (k : jm_V P M d (pc + 1) ls (.int (x.2.2 o i.toNatClampNeg) :: st) x r) : jm_V P M d pc ls (.int i :: .ref o :: st) x (if jm_in (jm_h P) o .boolean i then r else none) := by
  split
  · rename_i h
    obtain ⟨n, hs, hin⟩ := jm_in_of h
    intro q hq p e s m args below meth c H locs la hC hl hP hS
    obtain ⟨hx, hb, hml, hret, hlocks, hown, hno, hG⟩ := id hC
    exact va_zald hx hb (jm_K1 hG (Or.inl ⟨n, hs⟩)) hP o 0 (jm_wl_at hs) rfl hin hd (k q hq p e s m args below meth c H locs la hC hl hP hS)
  · exact jm_V.stuck
abbrev jm_ua (x : jm_X) (o : Nat) (i v : Int32) : jm_X := (x.1, x.2.1, va_up x.2.2 o (upd (x.2.2 o) i.toNatClampNeg v))
theorem jm_V.iast (hok : jm_Ok P) (hd : decode M.2.1 pc = .ok (.iastore, 1)) (k : jm_V P M d (pc + 1) ls st (jm_ua x o i v) r) : jm_V P M d pc ls (.int v :: .int i :: .ref o :: st) x (if jm_in (jm_h P) o .int i then r else none) := by
  split
  · rename_i h
    obtain ⟨n, hs, hin⟩ := jm_in_of h
    intro q hq p e s m args below meth c H locs la hC hl hP hS
    obtain ⟨hx, hb, hml, hret, hlocks, hown, hno, hG⟩ := id hC
    exact va_iast hx hb (jm_K1 hG (Or.inl ⟨n, hs⟩)) hP (jm_D hok.2.2.1) hS o 0 (jm_wl_at hs) rfl hin hd (fun H1 locs1 hP1 _ hS1 => k q hq p e s m args below meth c H1 locs1 la hC hl (by show va_P _ _ (jm_wl _ _ _ _) H1; rw [jm_set_arr hs]; exact hP1) hS1)
  · exact jm_V.stuck
theorem jm_V.bast (hok : jm_Ok P) (hd : decode M.2.1 pc = .ok (.bastore, 1)) (k : jm_V P M d (pc + 1) ls st (jm_ua x o i (vp_nar .byte v)) r) : jm_V P M d pc ls (.int v :: .int i :: .ref o :: st) x (if jm_in (jm_h P) o .byte i then r else none) := by
  split
  · rename_i h
    obtain ⟨n, hs, hin⟩ := jm_in_of h
    intro q hq p e s m args below meth c H locs la hC hl hP hS
    obtain ⟨hx, hb, hml, hret, hlocks, hown, hno, hG⟩ := id hC
    exact va_bast hx hb (jm_K1 hG (Or.inl ⟨n, hs⟩)) hP (jm_D hok.2.2.1) hS o 0 (jm_wl_at hs) rfl hin hd (fun H1 locs1 hP1 _ hS1 => k q hq p e s m args below meth c H1 locs1 la hC hl (by show va_P _ _ (jm_wl _ _ _ _) H1; rw [jm_set_arr hs]; exact hP1) hS1)
  · exact jm_V.stuck
theorem jm_V.zast (hok : jm_Ok P) (hd : decode M.2.1 pc = .ok (.bastore, 1)) (k : jm_V P M d (pc + 1) ls st (jm_ua x o i (vp_nar .boolean v)) r) : jm_V P M d pc ls (.int v :: .int i :: .ref o :: st) x (if jm_in (jm_h P) o .boolean i then r else none) := by
  split
  · rename_i h
    obtain ⟨n, hs, hin⟩ := jm_in_of h
    intro q hq p e s m args below meth c H locs la hC hl hP hS
    obtain ⟨hx, hb, hml, hret, hlocks, hown, hno, hG⟩ := id hC
    exact va_zast hx hb (jm_K1 hG (Or.inl ⟨n, hs⟩)) hP (jm_D hok.2.2.1) hS o 0 (jm_wl_at hs) rfl hin hd (fun H1 locs1 hP1 _ hS1 => k q hq p e s m args below meth c H1 locs1 la hC hl (by show va_P _ _ (jm_wl _ _ _ _) H1; rw [jm_set_arr hs]; exact hP1) hS1)
  · exact jm_V.stuck
/-- an array's length -/
def jm_len (sh : List jm_S) (o : Nat) : Option Nat := match sh[o]? with
  | some (.inl q) => some q.2
  | some (.inr (.inl q)) => some q.2.length
  | _ => none
theorem jm_V.alen {n : Nat} (hd : decode M.2.1 pc = .ok (.arraylength, 1)) (k : jm_V P M d (pc + 1) ls (.int (Int32.ofNat n) :: st) x r) : jm_V P M d pc ls (.ref o :: st) x (if jm_len (jm_h P) o = some n then r else none) := by
  split
  · rename_i h
    intro q hq p e s m args below meth c H locs la hC hl hP hS
    obtain ⟨hx, hb, hml, hret, hlocks, hown, hno, hG⟩ := id hC
    have kk := k q hq p e s m args below meth c H locs la hC hl hP hS
    unfold jm_len at h
    split at h
    · rename_i z hs
      obtain ⟨ty, n'⟩ := z
      cases h
      exact va_alen hx hb (jm_K1 hG (Or.inl ⟨_, hs⟩)) hP o 0 (jm_wl_at hs) rfl rfl hd kk
    · rename_i z hs
      obtain ⟨C, ids⟩ := z
      cases h
      exact va_alen hx hb (jm_K1 hG (Or.inr ⟨C, ids, rfl, hs⟩)) hP o 0 (jm_wl_at hs) rfl rfl hd kk
    · cases h
  · exact jm_V.stuck
end JA

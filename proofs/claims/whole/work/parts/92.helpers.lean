/-! THE LAW, 2: the law's helpers: 'out[0] = x.f(..)', 1 where it throws. The array out has the object number 700. -/
def hl_A (P : jm_P) (s : State) : Nat → Prop := fun q => jm_AA P s q ∨ q = jm_a P 700
def hl_out (P : jm_P) (cA : ClassId) (f : Nat → Int64) (H : Heap) : Prop := H[jm_a P 700]? = some (vp_cell cA (1, .inr (.inl f)))
def hl_end (P : jm_P) (s t : State) : Prop := ∃ L : List Loc, s.WarmedH t.vm ∧ s.sameButNew ({ t with vm := s.vm } : State) L 1 20 ∧ (∀ q ∈ L, hl_A P s q.base) ∧ va_F (hl_A P s) s t
def hl_post (P : jm_P) (cA : ClassId) : jm_R → State → Outcome → State → Prop
  | .inl (some (.int b), x'), s, o, t => o = .returned (some (.int 0)) ∧ va_P (jm_d P) (jm_c P) (jm_w P x') t.heap ∧ (∃ f, hl_out P cA f t.heap ∧ f 0 = b.toInt64) ∧ hl_end P s t
  | .inr (_, x'), s, o, t => o = .returned (some (.int 1)) ∧ va_P (jm_d P) (jm_c P) (jm_w P x') t.heap ∧ (∃ f, hl_out P cA f t.heap) ∧ hl_end P s t
  | _, _, _, _ => False
def hl_Q (P : jm_P) (cA : ClassId) (below : List Frame) (q : jm_R) (s : State) : State → Prop := fun t => ∃ o, t.status = .running ∧ Ended t below o ∧ hl_post P cA q s o t
def hl_Pre (P : jm_P) (cA : ClassId) (av : List Value) (x : jm_X) : Array Value → State → Prop := fun a s => a = (jm_st (jm_a P) av).toArray ∧ jm_G P s ∧ va_P (jm_d P) (jm_c P) (jm_w P x) s.heap ∧ (∃ f, hl_out P cA f s.heap) ∧ (ArrOfT s cA .long ∧ va_RA s cA .long)
/-- the class of the exception, as the helper's handler asks -/
def hl_ok (C : String) : jm_R → Prop
  | .inl (some (.int _), _) => True
  | .inr (E, _) => E = C
  | _ => False
section JW
variable {p : Program} {e : Env} {R : Room} {s : State} {m : MethodId} {args : Array Value} {below : List Frame} {meth : Method} {c : Code} {H : Heap} {locs : List Loc}
theorem hl_ret {P : jm_P} {M : jm_M} {cA : ClassId} {q0 : jm_R} {v : Int32} {x' : jm_X} {pc : Nat} {la : Array Slot} {f : Nat → Int64} (hC : jm_C P M p s m meth c) (hr : M.2.2.2.1 = some .int) (hd : decode M.2.1 pc = .ok (.ireturn, 1)) (hP : va_P (jm_d P) (jm_c P) (jm_w P x') H) (hO : hl_out P cA f H) (hS : va_S (hl_A P s) s.heap H locs)
    (hq : ∀ o t, o = .returned (some (.int v)) → va_P (jm_d P) (jm_c P) (jm_w P x') t.heap → hl_out P cA f t.heap → hl_end P s t → hl_post P cA q0 s o t) : W p (jm_l P) e R s m args below meth c H locs 1 20 (hl_Q P cA below q0 s) (F0 m pc la [.int v]) := by
  obtain ⟨hx, hb, hml, hret, hlocks, hown, hno, hG⟩ := hC
  have h : W p (jm_l P) e R s m args below meth c H locs 1 20 (MQ below (fun _ s o t => o = .returned (some (.int v)) ∧ va_P (jm_d P) (jm_c P) (jm_w P x') t.heap ∧ hl_out P cA f t.heap ∧ va_F (hl_A P s) s t) args s 1 20 (hl_A P s)) (F0 m pc la [.int v]) :=
    W.iret hx hb (hret.trans hr) (fun t ht _ => ⟨rfl, by rw [ht]; exact hP, by rw [ht]; exact hO, hS.F ht⟩) hS.2.2 hd
  intro T hT X
  obtain ⟨t, a1, o, b1, b2, ⟨h1, h2, h3, h4⟩, L, ⟨-, hW, hf⟩, hL⟩ := h T hT X
  exact ⟨t, a1, o, b1, b2, hq o t h1 h2 h3 ⟨L, hW, hf, hL, h4⟩⟩
/-- from the call on -/
theorem hl_tail {P : jm_P} {M y : jm_M} {cA : ClassId} {C : String} {d pc a ct n ln : Nat} {av : List Value} {x : jm_X} {q0 : jm_R} {la : Array Slot} {lv : List (Nat × Value)} {f : Nat → Int64} (hok : jm_Ok P) (hec : jm_ec P = 1) (hne : ∀ k, k < jm_n P → jm_a P k ≠ jm_a P 700) (hqk : hl_ok C q0) (hcon : jm_Con P y d av x (some q0)) (hinv : jm_Inv P M y pc av [.int 0, .ref 700] x)
    (hy : jm_cw y ∈ jm_t P) (hini : Cond.initialized y.1.cls ∈ jm_t P) (hR : R = jm_room (d + 1)) (hnl : y.2.2.1 ≤ 21)
    (hC : jm_C P M p s m meth c) (hr : M.2.2.2.1 = some .int) (hla : lv_has la M.2.2.1 (jm_cl (jm_a P) lv)) (hP : va_P (jm_d P) (jm_c P) (jm_w P x) H) (hO : hl_out P cA f H) (hT : ArrOfT s cA .long ∧ va_RA s cA .long) (hS : va_S (jm_AA P s) s.heap H locs) (ho : jm_a P 700 < H.size)
    (d3 : decode M.2.1 (pc + 3) = .ok (.i2l, 1)) (d4 : decode M.2.1 (pc + 4) = .ok (.lastore, 1)) (d5 : decode M.2.1 (pc + 5) = .ok (.goto (7 : Int) , 3) ∨ decode M.2.1 (pc + 5) = .ok (.goto (6 : Int) , 3)) (hln : (decode M.2.1 (pc + 5) = .ok (.goto (7 : Int) , 3) ∧ ln = 2) ∨ (decode M.2.1 (pc + 5) = .ok (.goto (6 : Int) , 3) ∧ ln = 1))
    (hh : M.2.2.2.2 = [(a, pc + 5, pc + 8, ct)]) (hcov : a ≤ pc) (h0 : ct ≠ 0) (hlink : Cond.classLink M.1.cls ct C ∈ jm_t P) (hcast : Cond.castable C C ∈ jm_t P)
    (hd8 : (∃ k : Fin 4, decode M.2.1 (pc + 8) = .ok (.astore_n k, 1) ∧ (k : Nat) = n ∧ ln = 1) ∨ (decode M.2.1 (pc + 8) = .ok (.astore n, 2) ∧ ln = 2)) (hn : n < M.2.2.1)
    (e1 : decode M.2.1 (pc + 8 + ln) = .ok (.iconst 1, 1)) (e2 : decode M.2.1 (pc + 9 + ln) = .ok (.ireturn, 1)) (e3 : decode M.2.1 (pc + 10 + ln) = .ok (.iconst 0, 1)) (e4 : decode M.2.1 (pc + 11 + ln) = .ok (.ireturn, 1)) :
    W p (jm_l P) e R s m args below meth c H locs 0 0 (hl_Q P cA below q0 s) (F0 m pc la (jm_st (jm_a P) (av.reverse ++ [.int 0, .ref 700]))) := by
  subst hR
  obtain ⟨hx, hb, hml, hret, hlocks, hown, hno, hG⟩ := id hC
  have hoA : ¬ jm_A (jm_a P) (jm_n P) H.size (jm_a P 700) := by
    rintro (⟨k, h1, h2⟩ | h)
    · exact hne k h1 h2.symm
    · omega
  refine jw_call hok hcon hinv hy hini (by decide) (Nat.le_refl _) (by show 8 + (y.2.2.1 + 11) + 40 * d ≤ 40 * (d + 1); omega) (Nat.le_refl _) (Nat.le_refl _) hC hla.1 hP hS ?_ ?_
  · rintro v x' rfl H1 L hP1 hz hk hS1
    match v, hqk with
    | some (.int b), _ =>
      have hO1 : hl_out P cA f H1 := by unfold hl_out; rw [hk _ ho hoA]; exact hO
      refine lv_i2l (v := b.toInt64) hx hb d3 rfl ?_
      have hPo : va_P (jm_d P) (jm_c P) (jm_w P x' ++ [(jm_a P 700, .inl (cA, 1, .inr (.inl f)))]) H1 := hP1.app (fun k z hk => by
        match k, hk with
        | 0, hk => cases hk; exact hO1
        | k + 1, hk => simp at hk)
      have hDo : va_D (hl_A P s) (jm_w P x' ++ [(jm_a P 700, .inl (cA, 1, .inr (.inl f)))]) := by
        have hD0 := jm_D (ad := jm_a P) (aC := jm_k P) (sh := jm_h P) (x := x') (sz := s.heap.size) hok.2.2.1
        have key : ∀ (i : Nat) (z : Nat × va_E), (jm_w P x' ++ [(jm_a P 700, .inl (cA, 1, .inr (.inl f)))])[i]? = some z → (i < (jm_w P x').length ∧ (jm_w P x')[i]? = some z ∧ z.1 = jm_a P i) ∨ (i = (jm_w P x').length ∧ z.1 = jm_a P 700) := by
          intro i z hz
          by_cases hi : i < (jm_w P x').length
          · rw [List.getElem?_append_left hi] at hz
            refine Or.inl ⟨hi, hz, ?_⟩
            rw [jm_wl_get] at hz
            cases hc : (jm_h P)[i]? with
            | none => rw [hc] at hz; cases hz
            | some c => rw [hc] at hz; cases hz; rfl
          · rw [List.getElem?_append_right (by omega)] at hz
            have : i - (jm_w P x').length = 0 := by
              have := (List.getElem?_eq_some_iff.mp hz).1
              simp at this
              omega
            rw [this] at hz
            cases hz
            exact Or.inr ⟨by omega, rfl⟩
        refine ⟨fun i j p q hi hj hpq => ?_, fun k q hk => ?_⟩
        · rcases key i p hi with ⟨i1, i2, i3⟩ | ⟨i1, i2⟩ <;> rcases key j q hj with ⟨j1, j2, j3⟩ | ⟨j1, j2⟩
          · exact hD0.1 i j p q i2 j2 hpq
          · exact absurd (by rw [← i3, hpq, j2]) (hne i (by rw [jm_wl_len] at i1; exact i1))
          · exact absurd (by rw [← j3, ← hpq, i2]) (hne j (by rw [jm_wl_len] at j1; exact j1))
          · omega
        · rcases key k q hk with ⟨i1, i2, i3⟩ | ⟨i1, i2⟩
          · exact Or.inl (hD0.2 k q i2)
          · exact Or.inr i2
      have hKo : va_K (jm_d P) (jm_c P) [(cA, .long)] s := ⟨hG.2.2.2.1.1, fun k q hk => by
        match k, hk with
        | 0, hk => cases hk; exact hT
        | k + 1, hk => simp at hk⟩
      refine va_last (ws := jm_w P x' ++ [(jm_a P 700, .inl (cA, 1, .inr (.inl f)))]) (tys := [(cA, .long)]) hx hb hKo hPo hDo (jm_S_w hS1 (fun q h => Or.inl h)) (jm_w P x').length 0 (by rw [List.getElem?_append_right (Nat.le_refl _), Nat.sub_self]; rfl) rfl (show ¬ ((0 : Int32) < 0 ∨ 1 ≤ Int32.toNatClampNeg 0) by decide) d4 (fun H2 locs2 hP2 hD2 hS2 => ?_)
      have hset : ((jm_w P x' ++ [(jm_a P 700, .inl (cA, 1, .inr (.inl f)))]) : va_W).set (jm_w P x').length (jm_a P 700, .inl (cA, 1, .inr (.inl (vp_updL f (Int32.toNatClampNeg 0) b.toInt64)))) = jm_w P x' ++ [(jm_a P 700, .inl (cA, 1, .inr (.inl (vp_updL f (Int32.toNatClampNeg 0) b.toInt64))))] := by
        rw [List.set_append_right _ _ (Nat.le_refl _), Nat.sub_self]; rfl
      rw [hset] at hP2
      have hP3 : va_P (jm_d P) (jm_c P) (jm_w P x') H2 := fun k q hk => hP2 k q (by rw [List.getElem?_append_left (List.getElem?_eq_some_iff.mp hk).1]; exact hk)
      have hO3 : hl_out P cA (vp_updL f (Int32.toNatClampNeg 0) b.toInt64) H2 := hP2 (jm_w P x').length (jm_a P 700, .inl (cA, 1, .inr (.inl (vp_updL f (Int32.toNatClampNeg 0) b.toInt64)))) (by rw [List.getElem?_append_right (Nat.le_refl _), Nat.sub_self]; rfl)
      refine W.widen (k := 1) (n := 20) (by omega) (by omega) ?_
      have fin : ∀ ln' : Nat, ln' = ln → W p (jm_l P) e (jm_room (d + 1)) s m args below meth c H2 locs2 1 20 (hl_Q P cA below (.inl (some (.int b), x')) s) (F0 m (pc + 10 + ln') la []) := by
        rintro ln' rfl
        refine lv_iconst (v := 0) hx hb e3 (by decide) ?_
        refine hl_ret hC hr (show decode M.2.1 (pc + 10 + ln' + 1) = .ok (.ireturn, 1) by rw [show pc + 10 + ln' + 1 = pc + 11 + ln' by omega]; exact e4) hP3 hO3 hS2 ?_
        intro o t h1 h2 h3 h4
        exact ⟨h1, h2, ⟨_, h3, rfl⟩, h4⟩
      rcases hln with ⟨hg, rfl⟩ | ⟨hg, rfl⟩
      · exact lv_goto (tgt := pc + 10 + 2) hx hb hg (by omega) (fin 2 rfl)
      · exact lv_goto (tgt := pc + 10 + 1) hx hb hg (by omega) (fin 1 rfl)
  · rintro E x' rfl z cell H1 L hP1 hz hk hS1 c1 c2 c3
    rw [show E = C from hqk] at c3
    have hO1 : hl_out P cA f H1 := by unfold hl_out; rw [hk _ ho hoA]; exact hO
    obtain ⟨w, hsp, w1, w2, w3, w4⟩ := jm_one_tab (hno.trans hh)
    rw [hec]
    refine vx_catch (own := M.1.cls) (name := C) (E := C) (ce := cell) hown [] w [] hsp (fun _ h => absurd h List.not_mem_nil) (by simp [w1, w2, covers]; omega) (by rw [w4]; exact h0) (by rw [w4]; exact hG.1 _ hlink args) (hG.1 _ hcast args) c1 c2 c3 ?_
    rw [w3]
    refine W.widen (k := 1) (n := 20) (by omega) (by omega) ?_
    refine jm_ast (ad := jm_a P) (ls := lv) hx hb hd8 hn hla rfl (fun la' hl' => ?_)
    refine lv_iconst (v := 1) hx hb e1 (by decide) ?_
    have e2' : decode M.2.1 (pc + 8 + ln + 1) = .ok (.ireturn, 1) := by rw [show pc + 8 + ln + 1 = pc + 9 + ln by omega]; exact e2
    refine hl_ret hC hr e2' hP1 hO1 (jm_S_w hS1 (fun q h => Or.inl h)) ?_
    intro o t h1 h2 h3 h4
    exact ⟨h1, h2, ⟨_, h3⟩, h4⟩
end JW

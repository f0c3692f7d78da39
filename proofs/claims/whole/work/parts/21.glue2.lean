/-! what the printed rows use of the constants -/
section JZ
variable {l : Launch} {D : va_G} {cl : List vw_C} {ad : Nat → Nat} {aC : Nat → ClassId} {sh : List jm_S} {b0 ec : Nat}
theorem cs_ord : ∀ (s : State) (H : Heap), jm_sg (jm_PP l D cl ad aC sh b0 ec) s H → ∀ i, i < 55 → va_OF "java/lang/Enum" "ordinal" "I" (jm_cv ad (.int (Int32.ofNat i))) (ad (1000 + i)) (fun z => b0 ≤ z) s H := fun _ _ h => h.2.2.1
theorem cs_text : ∀ (s : State) (H : Heap), jm_sg (jm_PP l D cl ad aC sh b0 ec) s H → ∀ i, i < 55 → va_OF "FilterReader$Sign" "text" "Ljava/lang/String;" (jm_cv ad (.ref (2000 + sg_txt.getD i 0))) (ad (1000 + i)) (fun z => b0 ≤ z) s H := fun _ _ h => h.2.2.2.1
theorem cs_word : ∀ (s : State) (H : Heap), jm_sg (jm_PP l D cl ad aC sh b0 ec) s H → ∀ i, i < 55 → va_OF "FilterReader$Sign" "word" "Z" (jm_cv ad (.int (sg_word.getD i 0))) (ad (1000 + i)) (fun z => b0 ≤ z) s H := fun _ _ h => h.2.2.2.2.1
theorem cs_level : ∀ (s : State) (H : Heap), jm_sg (jm_PP l D cl ad aC sh b0 ec) s H → ∀ i, i < 55 → va_OF "FilterReader$Sign" "level" "I" (jm_cv ad (.int (sg_level.getD i 0))) (ad (1000 + i)) (fun z => b0 ≤ z) s H := fun _ _ h => h.2.2.2.2.2.1
theorem cs_kind : ∀ (s : State) (H : Heap), jm_sg (jm_PP l D cl ad aC sh b0 ec) s H → ∀ i, i < 55 → va_OF "FilterReader$Sign" "kind" "I" (jm_cv ad (.int (sg_kind.getD i 0))) (ad (1000 + i)) (fun z => b0 ≤ z) s H := fun _ _ h => h.2.2.2.2.2.2.1
theorem cs_all : ∀ (s : State) (H : Heap), jm_sg (jm_PP l D cl ad aC sh b0 ec) s H → ∀ i, i < 1 → va_T (.object "FilterReader$Sign") (ad (900 + i)) 55 (fun j => .ref (ad (1000 + j))) (fun z => b0 ≤ z) s H := fun _ _ h => h.2.2.2.2.2.2.2.1
theorem cs_all0 : ∀ (s : State) (H : Heap), jm_sg (jm_PP l D cl ad aC sh b0 ec) s H → va_T (.object "FilterReader$Sign") (ad 900) 55 (fun j => .ref (ad (1000 + j))) (fun z => b0 ≤ z) s H := fun _ _ h => h.2.2.2.2.2.2.2.1 0 (by omega)
theorem cs_swm : ∀ (s : State) (H : Heap), jm_sg (jm_PP l D cl ad aC sh b0 ec) s H → ∀ i, i < 1 → va_T .int (ad (901 + i)) 55 (fun j => .int (sg_swm.getD j 0)) (fun z => b0 ≤ z) s H := fun _ _ h => h.2.2.2.2.2.2.2.2.1
theorem cs_coder : ∀ (s : State) (H : Heap), jm_sg (jm_PP l D cl ad aC sh b0 ec) s H → ∀ i, i < 73 → va_OF "java/lang/String" "coder" "B" (jm_cv ad (.int 0)) (ad (2000 + i)) (fun z => b0 ≤ z) s H := fun _ _ h => h.2.2.2.2.2.2.2.2.2.2.1
theorem cs_value : ∀ (s : State) (H : Heap), jm_sg (jm_PP l D cl ad aC sh b0 ec) s H → ∀ i, i < 73 → va_OF "java/lang/String" "value" "[B" (jm_cv ad (.ref (3000 + i))) (ad (2000 + i)) (fun z => b0 ≤ z) s H := fun _ _ h => h.2.2.2.2.2.2.2.2.2.2.2.1
theorem cs_bytes : ∀ (s : State) (H : Heap), jm_sg (jm_PP l D cl ad aC sh b0 ec) s H → ∀ i, i < 73 → va_T .byte (ad (3000 + i)) (st_b.getD i []).length (fun j => .int ((st_b.getD i []).getD j 0)) (fun z => b0 ≤ z) s H := fun _ _ h => h.2.2.2.2.2.2.2.2.2.2.2.2.1
theorem cs_str {i : Nat} {q : String × Nat × String × Nat} (hq : srA[i]? = some q) : ∀ (s : State) (H : Heap), jm_sg (jm_PP l D cl ad aC sh b0 ec) s H → vk_R q.1 q.2.1 q.2.2.1 (ad (2000 + q.2.2.2)) s := fun _ _ h => h.2.2.2.2.2.2.2.2.2.2.2.2.2.1 _ (List.mem_of_getElem? hq)
theorem cs_thr : ∀ (s : State) (H : Heap), jm_sg (jm_PP l D cl ad aC sh b0 ec) s H → vx_Zq Bundle.tN "UNASSIGNED_STACK" Bundle.steD (fun z => b0 ≤ z) s H ∧ vx_Zq Bundle.tN "SUPPRESSED_SENTINEL" Bundle.listD (fun z => b0 ≤ z) s H := fun _ _ h => ⟨h.2.2.2.2.2.2.2.2.2.2.2.2.2.2.1, h.2.2.2.2.2.2.2.2.2.2.2.2.2.2.2.1⟩
theorem iv_str {M y : jm_M} {pc idx o : Nat} {as rest : List Value} {x : jm_X} (hok : jm_Ok (jm_PP l D cl ad aC sh b0 ec)) (hg : jm_cn 2000 73 o = true) (hd : decode M.2.1 pc = .ok (.invokevirtual idx, 3)) (hlink : Cond.methodLink M.1.cls idx y.1 ∈ Tall) (hin : Cond.instanceMethod y.1 ∈ Tall) (hsel : Cond.selects "java/lang/String" y.1 y.1 ∈ Tall) (hcw : jm_cw y ∈ Tall)
    (hy : y.1.cls ≠ "java/lang/invoke/MethodHandle" ∧ y.1.cls ≠ "java/lang/invoke/VarHandle") (hlen : (parseMethodDescriptor y.1.desc).map (fun q => q.parameters.length) = some as.length) : jm_Inv (jm_PP l D cl ad aC sh b0 ec) M y pc (.ref o :: as) rest x :=
  jm_Inv.virt hd (Or.inl hlink) hin hsel hcw hy hlen (jm_recvO hok (fun s H h => by
    obtain ⟨h1, h2⟩ := jm_cn_of hg
    have h3 := h.2.2.2.2.2.2.2.2.2.1 (o - 2000) h1
    rw [h2] at h3
    exact h3))
theorem iv_ord {M y : jm_M} {xn : MethodName} {pc idx o : Nat} {as rest : List Value} {x : jm_X} (hok : jm_Ok (jm_PP l D cl ad aC sh b0 ec)) (hg : jm_cn 1000 55 o = true) (hd : decode M.2.1 pc = .ok (.invokevirtual idx, 3)) (hlink : Cond.methodLink M.1.cls idx xn ∈ Tall) (hsm : Cond.sameMethod xn.cls "java/lang/Enum" xn.name xn.desc ∈ Tall) (hyn : y.1 = ⟨"java/lang/Enum", xn.name, xn.desc⟩) (hin : Cond.instanceMethod y.1 ∈ Tall)
    (hsel : Cond.selects "FilterReader$Sign" xn y.1 ∈ Tall) (hcw : jm_cw y ∈ Tall) (hlen : (parseMethodDescriptor y.1.desc).map (fun q => q.parameters.length) = some as.length) : jm_Inv (jm_PP l D cl ad aC sh b0 ec) M y pc (.ref o :: as) rest x :=
  jm_Inv.up hd hlink hsm hyn hin hsel hcw (by decide) hlen (jm_recvO hok (fun s H h => by
    obtain ⟨h1, h2⟩ := jm_cn_of hg
    have h3 := h.2.1 (o - 1000) h1
    rw [h2] at h3
    exact h3))
end JZ
theorem jm_V.pc_ {P : jm_P} {M : jm_M} {d pc pc' : Nat} {ls : List (Nat × Value)} {st : List Value} {x : jm_X} {r : Option jm_R} (h : pc = pc') (k : jm_V P M d pc' ls st x r) : jm_V P M d pc ls st x r := h ▸ k
/-- a static of which only 'a reference or null' is said: both ways -/
theorem jm_V.getsq {l : Launch} {D : va_G} {cl : List vw_C} {ad : Nat → Nat} {aC : Nat → ClassId} {sh : List jm_S} {b0 ec : Nat} {M : jm_M} {d pc idx : Nat} {ls : List (Nat × Value)} {st : List Value} {x : jm_X} {r : Option jm_R} (hok : jm_Ok (jm_PP l D cl ad aC sh b0 ec))
    (hlink : Cond.fieldLink M.1.cls idx "jdk/internal/util/Preconditions" "SIOOBE_FORMATTER" "Ljava/util/function/BiFunction;" ∈ Tall) (hd : decode M.2.1 pc = .ok (.getstatic idx, 3)) (k : ∀ v : Value, v = .null ∨ v = .ref 950 → jm_V (jm_PP l D cl ad aC sh b0 ec) M d (pc + 3) ls (v :: st) x r) : jm_V (jm_PP l D cl ad aC sh b0 ec) M d pc ls st x r := by
  intro q hq p e s m args below meth c H locs la hC hl hP hS
  obtain ⟨hx, hb, hml, hret, hlocks, hown, hno, hG⟩ := id hC
  have hZ := hG.2.2.2.2.2.2.2.2.2.2.2.2.2.2.2.2.2.2.2.2.2.2
  rcases hZ with hZ | hZ
  · exact va_gets hx hb hZ (jm_S_w hS (jm_AA_b hok hG)) hown (hG.1 _ hlink args) (fun _ h => h) hd (k .null (Or.inl rfl) q hq p e s m args below meth c H locs la hC hl hP hS)
  · exact va_gets hx hb hZ (jm_S_w hS (jm_AA_b hok hG)) hown (hG.1 _ hlink args) (fun _ h => h) hd (k (.ref 950) (Or.inr rfl) q hq p e s m args below meth c H locs la hC hl hP hS)

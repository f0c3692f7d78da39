/-! THE SMALL MACHINE, 8: constant objects and arrays (numbers from 900 on), comparisons of references, switches, narrow answers, exceptions that are made. -/
def jm_cn (lo n o : Nat) : Bool := decide (lo ≤ o) && decide (o < lo + n)
theorem jm_cn_of {lo n o : Nat} (h : jm_cn lo n o = true) : o - lo < n ∧ lo + (o - lo) = o := by
  simp only [jm_cn, Bool.and_eq_true, decide_eq_true_eq] at h
  omega
abbrev jm_A0 (P : jm_P) : Nat → Prop := fun q => jm_b P ≤ q
def jm_ix (n : Nat) (i : Int32) : Bool := decide (¬ i < 0) && decide (i.toNatClampNeg < n)
theorem jm_ix_of {n : Nat} {i : Int32} (h : jm_ix n i = true) : vp_in i n := by
  simp only [jm_ix, Bool.and_eq_true, decide_eq_true_eq] at h
  exact fun z => z.elim h.1 (fun z => by omega)
section JK
variable {P : jm_P} {M : jm_M} {d pc idx lo N o : Nat} {ls : List (Nat × Value)} {st : List Value} {x : jm_X} {r r2 : Option jm_R} {i : Int32}
theorem jm_V.getC {C n dsc : String} {v : Nat → Value} (hok : jm_Ok P) (hF : ∀ (s : State) (H : Heap), jm_sg P s H → ∀ i, i < N → va_OF C n dsc (jm_cv (jm_a P) (v i)) (jm_a P (lo + i)) (jm_A0 P) s H)
    (hlink : Cond.fieldLink M.1.cls idx C n dsc ∈ jm_t P ∨ ∃ host, (M.1.cls, idx, C, n, dsc, host) ∈ jm_fn P) (hd : decode M.2.1 pc = .ok (.getfield idx, 3)) (k : jm_V P M d (pc + 3) ls (v (o - lo) :: st) x r) : jm_V P M d pc ls (.ref o :: st) x (if jm_cn lo N o then r else none) := by
  split
  · rename_i h
    obtain ⟨h1, h2⟩ := jm_cn_of h
    intro q hq p e s m args below meth c H locs la hC hl hP hS
    obtain ⟨hx, hb, hml, hret, hlocks, hown, hno, hG⟩ := id hC
    have hE := hF s s.heap hG.2.2.2.2.2.2 (o - lo) h1
    rw [h2] at hE
    have kk := k q hq p e s m args below meth c H locs la hC hl hP hS
    obtain ⟨cf, kf, fi, f, cell, g1, g2, g3, g4, g5, g6⟩ := hE.kept (jm_S_w hS (jm_AA_b hok hG)).2.1
    rcases hlink with hlink | ⟨host, hlink⟩
    · exact W.getf hx hb hown (hG.1 _ hlink args) g1 g2 g3 g4 (v := jm_cv (jm_a P) (v (o - lo))) g5 rfl rfl hd kk
    · exact va_Wgetf hx hb hown (va_Nw.use rfl (hG.2.1 _ hlink)) g1 g2 g3 g4 (v := jm_cv (jm_a P) (v (o - lo))) g5 rfl rfl hd kk
  · exact jm_V.stuck
theorem jm_V.tbald {len : Nat → Nat} {f : Nat → Nat → Int32} (hok : jm_Ok P) (hF : ∀ (s : State) (H : Heap), jm_sg P s H → ∀ i, i < N → va_T .byte (jm_a P (lo + i)) (len i) (fun j => .int (f i j)) (jm_A0 P) s H) (hd : decode M.2.1 pc = .ok (.baload, 1))
    (k : jm_V P M d (pc + 1) ls (.int (f (o - lo) i.toNatClampNeg) :: st) x r) : jm_V P M d pc ls (.int i :: .ref o :: st) x (if jm_cn lo N o then (if jm_ix (len (o - lo)) i then r else none) else none) := by
  split
  · rename_i h
    obtain ⟨h1, h2⟩ := jm_cn_of h
    split
    · rename_i h3
      intro q hq p e s m args below meth c H locs la hC hl hP hS
      obtain ⟨hx, hb, hml, hret, hlocks, hown, hno, hG⟩ := id hC
      have hE := hF s s.heap hG.2.2.2.2.2.2 (o - lo) h1
      rw [h2] at hE
      exact va_tb hx hb hE (jm_S_w hS (jm_AA_b hok hG)) (jm_ix_of h3) rfl hd (k q hq p e s m args below meth c H locs la hC hl hP hS)
    · exact jm_V.stuck
  · exact jm_V.stuck
theorem jm_V.tiald {len : Nat → Nat} {f : Nat → Nat → Int32} (hok : jm_Ok P) (hF : ∀ (s : State) (H : Heap), jm_sg P s H → ∀ i, i < N → va_T .int (jm_a P (lo + i)) (len i) (fun j => .int (f i j)) (jm_A0 P) s H) (hd : decode M.2.1 pc = .ok (.iaload, 1))
    (k : jm_V P M d (pc + 1) ls (.int (f (o - lo) i.toNatClampNeg) :: st) x r) : jm_V P M d pc ls (.int i :: .ref o :: st) x (if jm_cn lo N o then (if jm_ix (len (o - lo)) i then r else none) else none) := by
  split
  · rename_i h
    obtain ⟨h1, h2⟩ := jm_cn_of h
    split
    · rename_i h3
      intro q hq p e s m args below meth c H locs la hC hl hP hS
      obtain ⟨hx, hb, hml, hret, hlocks, hown, hno, hG⟩ := id hC
      have hE := hF s s.heap hG.2.2.2.2.2.2 (o - lo) h1
      rw [h2] at hE
      exact va_ti hx hb hE (jm_S_w hS (jm_AA_b hok hG)) (jm_ix_of h3) rfl hd (k q hq p e s m args below meth c H locs la hC hl hP hS)
    · exact jm_V.stuck
  · exact jm_V.stuck
/-- an array of constants: its place j holds the object f j -/
theorem jm_V.taald {C : String} {len : Nat} {f : Nat → Nat} (hok : jm_Ok P) (hF : ∀ (s : State) (H : Heap), jm_sg P s H → va_T (.object C) (jm_a P o) len (fun j => .ref (jm_a P (f j))) (jm_A0 P) s H) (hd : decode M.2.1 pc = .ok (.aaload, 1))
    (k : jm_V P M d (pc + 1) ls (.ref (f i.toNatClampNeg) :: st) x r) : jm_V P M d pc ls (.int i :: .ref o :: st) x (if jm_ix len i then r else none) := by
  split
  · rename_i h3
    intro q hq p e s m args below meth c H locs la hC hl hP hS
    obtain ⟨hx, hb, hml, hret, hlocks, hown, hno, hG⟩ := id hC
    exact vb_tq hx hb (hF s s.heap hG.2.2.2.2.2.2) (jm_S_w hS (jm_AA_b hok hG)) (jm_ix_of h3) rfl hd (k q hq p e s m args below meth c H locs la hC hl hP hS)
  · exact jm_V.stuck
theorem jm_V.tlen {ty : FieldType} {len : Nat → Nat} {f : Nat → Nat → Value} (hok : jm_Ok P) (hF : ∀ (s : State) (H : Heap), jm_sg P s H → ∀ i, i < N → va_T ty (jm_a P (lo + i)) (len i) (f i) (jm_A0 P) s H) (hd : decode M.2.1 pc = .ok (.arraylength, 1))
    (k : jm_V P M d (pc + 1) ls (.int (Int32.ofNat (len (o - lo))) :: st) x r) : jm_V P M d pc ls (.ref o :: st) x (if jm_cn lo N o then r else none) := by
  split
  · rename_i h
    obtain ⟨h1, h2⟩ := jm_cn_of h
    intro q hq p e s m args below meth c H locs la hC hl hP hS
    obtain ⟨hx, hb, hml, hret, hlocks, hown, hno, hG⟩ := id hC
    have hE := hF s s.heap hG.2.2.2.2.2.2 (o - lo) h1
    rw [h2] at hE
    exact va_tlen hx hb hE (jm_S_w hS (jm_AA_b hok hG)) rfl hd (k q hq p e s m args below meth c H locs la hC hl hP hS)
  · exact jm_V.stuck
theorem jm_V.lds {tx : String} (hF : ∀ (s : State) (H : Heap), jm_sg P s H → vk_R M.1.cls idx tx (jm_a P o) s) (hd : decode M.2.1 pc = .ok (.ldc idx, 2)) (k : jm_V P M d (pc + 2) ls (.ref o :: st) x r) : jm_V P M d pc ls st x r := by
  intro q hq p e s m args below meth c H locs la hC hl hP hS
  obtain ⟨hx, hb, hml, hret, hlocks, hown, hno, hG⟩ := id hC
  exact va_ldcS hx hb hown (hF s s.heap hG.2.2.2.2.2.2) hd (k q hq p e s m args below meth c H locs la hC hl hP hS)
theorem jm_V.acne {a b : Nat} {off : Int} (hok : jm_Ok P) (ho : jm_ok pc off = true) (hd : decode M.2.1 pc = .ok (.if_acmp .ne off, 3)) (kt : a = b → jm_V P M d (pc + 3) ls st x r) (kf : ¬ a = b → jm_V P M d (jm_tg pc off) ls st x r2) :
    jm_V P M d pc ls (.ref b :: .ref a :: st) x (if jm_cn 1000 55 a then (if jm_cn 1000 55 b then (if a = b then r else r2) else none) else none) := by
  split
  · rename_i h
    obtain ⟨h1, h2⟩ := jm_cn_of h
    split
    · rename_i h3
      obtain ⟨h4, h5⟩ := jm_cn_of h3
      intro q hq p e s m args below meth c H locs la hC hl hP hS
      obtain ⟨hx, hb, hml, hret, hlocks, hown, hno, hG⟩ := id hC
      refine lv_acmp_ne (rx := some (jm_a P a)) (ry := some (jm_a P b)) hx hb hd (jm_tg_ok ho) (fun hne => ?_) (fun heq => ?_)
      · have hab : ¬ a = b := fun z => hne (by rw [z])
        rw [if_neg hab] at hq
        exact kf hab q hq p e s m args below meth c H locs la hC hl hP hS
      · have hab : a = b := by
          have e1 : jm_a P (1000 + (a - 1000)) = jm_a P (1000 + (b - 1000)) := by rw [h2, h5]; exact Option.some.inj heq
          have := hok.2.2.2.2.2.1 _ _ h1 h4 e1
          omega
        rw [if_pos hab] at hq
        exact kt hab q hq p e s m args below meth c H locs la hC hl hP hS
    · exact jm_V.stuck
  · exact jm_V.stuck
theorem jm_V.aceq {a b : Nat} {off : Int} (hok : jm_Ok P) (ho : jm_ok pc off = true) (hd : decode M.2.1 pc = .ok (.if_acmp .eq off, 3)) (kt : a = b → jm_V P M d (jm_tg pc off) ls st x r) (kf : ¬ a = b → jm_V P M d (pc + 3) ls st x r2) :
    jm_V P M d pc ls (.ref b :: .ref a :: st) x (if jm_cn 1000 55 a then (if jm_cn 1000 55 b then (if a = b then r else r2) else none) else none) := by
  split
  · rename_i h
    obtain ⟨h1, h2⟩ := jm_cn_of h
    split
    · rename_i h3
      obtain ⟨h4, h5⟩ := jm_cn_of h3
      intro q hq p e s m args below meth c H locs la hC hl hP hS
      obtain ⟨hx, hb, hml, hret, hlocks, hown, hno, hG⟩ := id hC
      refine lv_acmp_eq (rx := some (jm_a P a)) (ry := some (jm_a P b)) hx hb hd (jm_tg_ok ho) (fun heq => ?_) (fun hne => ?_)
      · have hab : a = b := by
          have e1 : jm_a P (1000 + (a - 1000)) = jm_a P (1000 + (b - 1000)) := by rw [h2, h5]; exact Option.some.inj heq
          have := hok.2.2.2.2.2.1 _ _ h1 h4 e1
          omega
        rw [if_pos hab] at hq
        exact kt hab q hq p e s m args below meth c H locs la hC hl hP hS
      · have hab : ¬ a = b := fun z => hne (by rw [z])
        rw [if_neg hab] at hq
        exact kf hab q hq p e s m args below meth c H locs la hC hl hP hS
    · exact jm_V.stuck
  · exact jm_V.stuck
end JK
/-! switches: the place as a chain of questions -/
def jm_lsw (v : Int32) (pc : Nat) (d : Int) : List (Int × Int) → Nat
  | [] => jm_tg pc d
  | q :: r => if v = Int32.ofInt q.1 then jm_tg pc q.2 else jm_lsw v pc d r
def jm_rng (k : Int) : Bool := decide (-2147483648 ≤ k) && decide (k ≤ 2147483647)
theorem jm_ofInt {v : Int32} {k : Int} (h : jm_rng k = true) : v = Int32.ofInt k ↔ v.toInt = k := by
  simp only [jm_rng, Bool.and_eq_true, decide_eq_true_eq] at h
  have e : (Int32.ofInt k).toInt = k := Int32.toInt_ofInt_of_le (by omega) (by omega)
  constructor
  · intro z; rw [z]; exact e
  · intro z; exact Int32.toInt_inj.mp (by rw [e]; exact z)
def jm_swok (pc : Nat) (d : Int) (ps : List (Int × Int)) : Bool := jm_ok pc d && ps.all (fun q => jm_ok pc q.2 && jm_rng q.1)
theorem jm_lsw_off {v : Int32} {pc : Nat} {d : Int} : ∀ {ps : List (Int × Int)}, jm_swok pc d ps = true → (pc : Int) + Op.lookupswitch.offset ps d v.toInt = ((jm_lsw v pc d ps : Nat) : Int)
  | [], h => by
    simp only [jm_swok, List.all_nil, Bool.and_true] at h
    exact jm_tg_ok h
  | q :: r, h => by
    simp only [jm_swok, List.all_cons, Bool.and_eq_true] at h
    obtain ⟨h0, ⟨h1, h2⟩, h3⟩ := h
    obtain ⟨a, o⟩ := q
    rw [Op.lookupswitch.offset_cons]
    unfold jm_lsw
    by_cases hv : v = Int32.ofInt a
    · rw [if_pos hv, if_pos ((jm_ofInt h2).mp hv).symm]
      exact jm_tg_ok h1
    · rw [if_neg hv, if_neg (fun z => hv ((jm_ofInt h2).mpr z.symm))]
      exact jm_lsw_off (by simp only [jm_swok, Bool.and_eq_true]; exact ⟨h0, h3⟩)
def jm_tsw (lo : Int) : List Int → List (Int × Int)
  | [] => []
  | o :: r => (lo, o) :: jm_tsw (lo + 1) r
theorem jm_tsw_in {v : Int32} {pc : Nat} {d : Int} : ∀ {offs : List Int} {lo : Int}, jm_swok pc d (jm_tsw lo offs) = true → ∀ {off : Int}, ¬ v.toInt < lo → offs[(v.toInt - lo).toNat]? = some off → (pc : Int) + off = ((jm_lsw v pc d (jm_tsw lo offs) : Nat) : Int)
  | [], _, _, _, _, ho => by simp at ho
  | o :: r, lo, h, off, h1, ho => by
    simp only [jm_swok, jm_tsw, List.all_cons, Bool.and_eq_true] at h
    obtain ⟨h0, ⟨h2, h3⟩, h4⟩ := h
    unfold jm_tsw jm_lsw
    by_cases hv : v = Int32.ofInt lo
    · have := (jm_ofInt h3).mp hv
      rw [if_pos hv]
      rw [this] at ho
      simp at ho
      rw [← ho]
      exact jm_tg_ok h2
    · have hne : ¬ v.toInt = lo := fun z => hv ((jm_ofInt h3).mpr z)
      rw [if_neg hv]
      refine jm_tsw_in (by simp only [jm_swok, Bool.and_eq_true]; exact ⟨h0, h4⟩) (by omega) ?_
      have e1 : (v.toInt - lo).toNat = (v.toInt - (lo + 1)).toNat + 1 := by omega
      rw [e1] at ho
      simpa using ho
theorem jm_tsw_out {v : Int32} {pc : Nat} {d : Int} : ∀ {offs : List Int} {lo : Int}, jm_swok pc d (jm_tsw lo offs) = true → (v.toInt < lo ∨ lo + offs.length ≤ v.toInt) → (pc : Int) + d = ((jm_lsw v pc d (jm_tsw lo offs) : Nat) : Int)
  | [], _, h, _ => by
    simp only [jm_swok, jm_tsw, List.all_nil, Bool.and_true] at h
    exact jm_tg_ok h
  | o :: r, lo, h, hv => by
    simp only [jm_swok, jm_tsw, List.all_cons, Bool.and_eq_true] at h
    obtain ⟨h0, ⟨h2, h3⟩, h4⟩ := h
    unfold jm_tsw jm_lsw
    simp only [List.length_cons] at hv
    rw [if_neg (fun z => by have := (jm_ofInt h3).mp z; omega)]
    exact jm_tsw_out (by simp only [jm_swok, Bool.and_eq_true]; exact ⟨h0, h4⟩) (by omega)
section JW
variable {P : jm_P} {M : jm_M} {d pc len : Nat} {ls : List (Nat × Value)} {st : List Value} {x : jm_X} {r : Option jm_R} {v : Int32}
theorem jm_V.lsw {dflt : Int} {ps : Array (Int × Int)} (hd : decode M.2.1 pc = .ok (.lookupswitch dflt ps, len)) (hp : (ps.toList.zip (ps.toList.drop 1)).all (fun (a, next) => a.1 < next.1) = true) (hs : jm_swok pc dflt ps.toList = true)
    (k : jm_V P M d (jm_lsw v pc dflt ps.toList) ls st x r) : jm_V P M d pc ls (.int v :: st) x r := by
  intro q hq p e s m args below meth c H locs la hC hl hP hS
  obtain ⟨hx, hb, hml, hret, hlocks, hown, hno, hG⟩ := id hC
  exact lv_lookup hx hb hd hp rfl (jm_lsw_off hs) (k q hq p e s m args below meth c H locs la hC hl hP hS)
theorem jm_V.tsw {dflt lo hi : Int} {offs : Array Int} (hd : decode M.2.1 pc = .ok (.tableswitch dflt lo hi offs, len)) (hh : lo + offs.toList.length = hi + 1) (hs : jm_swok pc dflt (jm_tsw lo offs.toList) = true)
    (k : jm_V P M d (jm_lsw v pc dflt (jm_tsw lo offs.toList)) ls st x r) : jm_V P M d pc ls (.int v :: st) x r := by
  intro q hq p e s m args below meth c H locs la hC hl hP hS
  obtain ⟨hx, hb, hml, hret, hlocks, hown, hno, hG⟩ := id hC
  have kk := k q hq p e s m args below meth c H locs la hC hl hP hS
  by_cases h1 : v.toInt < lo
  · exact lv_tableOut hx hb hd (Or.inl h1) (jm_tsw_out hs (Or.inl h1)) kk
  · by_cases h2 : hi < v.toInt
    · exact lv_tableOut hx hb hd (Or.inr h2) (jm_tsw_out hs (Or.inr (by omega))) kk
    · have hlt : (v.toInt - lo).toNat < offs.toList.length := by omega
      have ho : offs.toList[(v.toInt - lo).toNat]? = some (offs.toList[(v.toInt - lo).toNat]) := List.getElem?_eq_getElem hlt
      exact lv_tableIn hx hb hd h1 h2 (by rw [← Array.getElem?_toList]; exact ho) (jm_tsw_in hs h1 ho) kk
/-- an answer of a narrow kind -/
theorem jm_V.nret {w : Int32} {t : FieldType} (hr : M.2.2.2.1 = some t) (hn : narrow t (.int v) = .int w) (hd : decode M.2.1 pc = .ok (.ireturn, 1)) : jm_V P M d pc ls [.int v] x (some (.inl (some (.int w), x))) := by
  intro q hq p e s m args below meth c H locs la hC hl hP hS T hT X
  cases hq
  obtain ⟨hx, hb, hml, hret, hlocks, hown, hno, hG⟩ := hC
  have hr2 : meth.sig.returnType = some t := hret.trans hr
  obtain ⟨fs, hre, hrun, hended, hW, hframe⟩ := X.leave (v := some (.int w)) (hlocks := hlocks) (fun h => by rw [hr2] at h; cases h)
  have hmeth' : T.vm.method? m = some meth := X.method'
  refine ⟨T.setFrames fs, ?_, .returned (some (.int w)), hrun, hended, rfl, ?_, jm_end_of (H := H) hS (by exact hT) hW hframe⟩
  · show Steps p.tables e below (T.setTop (F0 m pc la [.int v])) _
    jvm_step X.here [X.here.top, hx, hb, hd, hmeth', hr2, hn]
    (try refine ⟨rfl, ?_⟩); (try refine ⟨rfl, ?_⟩)
    first | (intro acts; rw [hre _ acts rfl rfl rfl]) | rw [hre _ _ rfl rfl rfl]
    exact Steps.refl _
  · show va_P _ _ _ T.heap
    rw [hT]; exact hP
end JW

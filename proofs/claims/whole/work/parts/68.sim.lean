/-! PURE, 19: side by side. -/
/-- both answered, or both found the program broken at the same place -/
def Sim (B : Nat → Fin 256) (Po : Option Value → jm_X → Option Value → jm_X → Prop) (rC rR : Option jm_R) : Prop :=
  (∃ vC xC vR xR, rC = some (.inl (vC, xC)) ∧ rR = some (.inl (vR, xR)) ∧ Po vC xC vR xR) ∨ (∃ (v : Int32) (xC xR : jm_X), rC = some (.inr (UOE, xC)) ∧ rR = some (.inr (ISE, xR)) ∧ BrC B v xC ∧ BrR B v xR)
def SimV (B : Nat → Fin 256) (Q : jm_X → jm_X → Prop) (rC rR : Option jm_R) : Prop := Sim B (fun vC xC vR xR => vC = none ∧ vR = none ∧ Q xC xR) rC rR
/-- the class answers a number, the reference nothing -/
def SimI (B : Nat → Fin 256) (Q : Int32 → jm_X → jm_X → Prop) (rC rR : Option jm_R) : Prop := Sim B (fun vC xC vR xR => ∃ a, vC = some (.int a) ∧ vR = none ∧ Q a xC xR) rC rR
section PZ
variable {B : Nat → Fin 256} {Po : Option Value → jm_X → Option Value → jm_X → Prop} {Q : jm_X → jm_X → Prop} {Qi : Int32 → jm_X → jm_X → Prop} {rC rR : Option jm_R}
theorem SimV.bind {fC fR : jm_X → Option jm_R} (h : SimV B Q rC rR) (k : ∀ xC xR, Q xC xR → Sim B Po (fC xC) (fR xR)) : Sim B Po (jm_bV rC fC) (jm_bV rR fR) := by
  rcases h with ⟨vC, xC, vR, xR, e1, e2, rfl, rfl, hq⟩ | ⟨v, xC, xR, e1, e2, h⟩
  · rw [e1, e2, jm_bV_some, jm_bV_some]; exact k xC xR hq
  · rw [e1, e2, jm_bV_thr, jm_bV_thr]; exact Or.inr ⟨v, xC, xR, rfl, rfl, h⟩
theorem SimI.bind {fC : Int32 → jm_X → Option jm_R} {fR : jm_X → Option jm_R} (h : SimI B Qi rC rR) (k : ∀ a xC xR, Qi a xC xR → Sim B Po (fC a xC) (fR xR)) : Sim B Po (jm_bI rC fC) (jm_bV rR fR) := by
  rcases h with ⟨vC, xC, vR, xR, e1, e2, a, rfl, rfl, hq⟩ | ⟨v, xC, xR, e1, e2, h⟩
  · rw [e1, e2, jm_bI_some, jm_bV_some]; exact k a xC xR hq
  · rw [e1, e2, jm_bI_thr, jm_bV_thr]; exact Or.inr ⟨v, xC, xR, rfl, rfl, h⟩
theorem Sim.thr {v : Int32} {xC xR : jm_X} (e1 : rC = some (.inr (UOE, xC))) (e2 : rR = some (.inr (ISE, xR))) (h1 : BrC B v xC) (h2 : BrR B v xR) : Sim B Po rC rR := Or.inr ⟨v, xC, xR, e1, e2, h1, h2⟩
theorem SimV.ok {xC xR : jm_X} (h : Q xC xR) : SimV B Q (rV xC) (rV xR) := Or.inl ⟨none, xC, none, xR, rfl, rfl, rfl, rfl, h⟩
theorem SimI.ok {a : Int32} {xC xR : jm_X} (h : Qi a xC xR) : SimI B Qi (rI a xC) (rV xR) := Or.inl ⟨_, xC, none, xR, rfl, rfl, a, rfl, rfl, h⟩
theorem SimV.mono {Q' : jm_X → jm_X → Prop} (h : SimV B Q rC rR) (k : ∀ xC xR, Q xC xR → Q' xC xR) : SimV B Q' rC rR := by
  rcases h with ⟨vC, xC, vR, xR, e1, e2, h1, h2, hq⟩ | h
  · exact Or.inl ⟨vC, xC, vR, xR, e1, e2, h1, h2, k _ _ hq⟩
  · exact Or.inr h
theorem jm_bV_assoc (r : Option jm_R) (f h : jm_X → Option jm_R) : jm_bV (jm_bV r f) h = jm_bV r (fun x => jm_bV (f x) h) := by
  cases r with
  | none => rfl
  | some q =>
    cases q with
    | inl q =>
      obtain ⟨v, x⟩ := q
      cases v <;> rfl
    | inr q => rfl
end PZ
/-- the two sides at one sign, behind the place s -/
def Go (B : Nat → Fin 256) (n : Nat) (off : Nat → Int32) (N : List NE) (op pt s : Nat) (xC xR : jm_X) : Prop := ∃ L c, LX B n L ∧ s < L.1 ∧ SC B n L (cO c off) N xC ∧ SR B n L c N op pt xR
/-- what is asked of the calls of program, by their opened lo .. -/
def PS (B : Nat → Fin 256) (n : Nat) (gc gr : jm_Rec) (lo : Nat) : Prop := ∀ (off : Nat → Int32) (N : List NE) (op pt : Nat) (L : Nat × Nat × Nat) (c : Nat → Int32) (xC xR : jm_X), lo ≤ op → op ≤ 60 → NOk n N → N.length ≤ 21 * op → LX B n L → SC B n L (cO c off) N xC → SR B n L c N op pt xR →
  SimV B (fun yC yR => op ≤ 59 ∧ Go B n off N op pt L.1 yC yR) (gc 0 [.ref 2, .int (nI op)] xC) (gr 0 [.ref 0] xR)
/-- of term -/
def TS (B : Nat → Fin 256) (n : Nat) (gc gr : jm_Rec) (lo : Nat) : Prop := ∀ (off : Nat → Int32) (N : List NE) (op pt : Nat) (L : Nat × Nat × Nat) (c : Nat → Int32) (xC xR : jm_X), lo ≤ op → op ≤ 60 → NOk n N → N.length ≤ 21 * op → LX B n L → SC B n L (cO c off) N xC → SR B n L c N op pt xR →
  SimV B (Go B n off N op pt L.1) (gc 1 [.ref 2, .int (nI op)] xC) (gr 1 [.ref 0] xR)
theorem lexB_ge (B : Nat → Fin 256) (n p : Nat) : p ≤ (lexB B n p).1 := by
  have := skB_ge B n (n - p) false p
  unfold lexB
  generalize skB B n (n - p) false p = s at this ⊢
  repeat' split
  all_goals exact this
section PA
variable {K : Nat} {gc gr : jm_Rec} {B : Nat → Fin 256} {n : Nat} {L : Nat × Nat × Nat} {c off : Nat → Int32} {N : List NE} {op pt s lo : Nat} {xC xR : jm_X}
theorem LX.next (h : LX B n L) : LX B n (lexB B n L.2.1) := ⟨L.2.1, h.facts.2.1, rfl⟩
theorem LX.gt (h : LX B n L) (h0 : L.2.2 ≠ 0) (h1 : L.2.2 ≠ 1) : L.1 < (lexB B n L.2.1).1 := Nat.lt_of_lt_of_le (h.facts.2.2.2.1 h0 h1) (lexB_ge B n _)
/-- take against need, of a sign with a token of its own -/
theorem s_take (hK : 20000 ≤ K) (hL : LX B n L) (hC : SC B n L (cO c off) N xC) (hR : SR B n L c N op pt xR) {k : Nat} (hk : k < 55) (h01 : k ≠ 0 ∧ k ≠ 1) {a : Nat} (ha : a = 1000 + k) {b : Int32} (hu : tkUb b k = true) :
    SimV B (fun yC yR => L.1 < (lexB B n L.2.1).1 ∧ L.2.2 = k ∧ SC B n (lexB B n L.2.1) (cO c off) N yC ∧ SR B n (lexB B n L.2.1) c N op pt yR) (f_G_take K gc a xC) (f_M_need_i K gr b xR) := by
  have hF := hL.facts
  obtain ⟨c1, c2⟩ := c_take (K := K) (g := gc) hK hC hF.2.2.1 hF.2.1 hk ha
  obtain ⟨r1, r2⟩ := r_need_i (K := K) (g := gr) hK hR hF (tkU.of hu) h01
  by_cases hz : L.2.2 = k
  · obtain ⟨y1, e1, s1⟩ := c1 hz
    obtain ⟨y2, e2, s2⟩ := r1 hz
    rw [e1, e2]
    exact SimV.ok ⟨hL.gt (by rw [hz]; exact h01.1) (by rw [hz]; exact h01.2), hz, s1, s2⟩
  · obtain ⟨y1, e1, s1⟩ := c2 hz
    obtain ⟨y2, e2, s2⟩ := r2 hz
    exact Sim.thr e1 e2 s1 s2
/-- the same, of a word -/
theorem s_takeW (hK : 20000 ≤ K) (hL : LX B n L) (hC : SC B n L (cO c off) N xC) (hR : SR B n L c N op pt xR) {j : Nat} (h3 : 3 ≤ j) (h18 : j < 18) {a : Nat} (ha : a = 1000 + ordW j) {b : Nat} (hb : b = 2000 + j) :
    SimV B (fun yC yR => L.1 < (lexB B n L.2.1).1 ∧ L.2.2 = ordW j ∧ SC B n (lexB B n L.2.1) (cO c off) N yC ∧ SR B n (lexB B n L.2.1) c N op pt yR) (f_G_take K gc a xC) (f_M_need_s K gr b xR) := by
  have hF := hL.facts
  obtain ⟨a1, a2, -⟩ := ordW_ok j h18 h3
  have ht := tok_wd _ a1 a2
  obtain ⟨c1, c2⟩ := c_take (K := K) (g := gc) hK hC hF.2.2.1 hF.2.1 a1 ha
  obtain ⟨r1, r2⟩ := r_need_s (K := K) (g := gr) hK hR hF h3 h18 hb
  by_cases hz : L.2.2 = ordW j
  · obtain ⟨y1, e1, s1⟩ := c1 hz
    obtain ⟨y2, e2, s2⟩ := r1 hz
    rw [e1, e2]
    exact SimV.ok ⟨hL.gt (fun z => by rw [← hz, z] at ht; exact absurd ht (by decide)) (fun z => by rw [← hz, z] at ht; exact absurd ht (by decide)), hz, s1, s2⟩
  · obtain ⟨y1, e1, s1⟩ := c2 hz
    obtain ⟨y2, e2, s2⟩ := r2 hz
    exact Sim.thr e1 e2 s1 s2
/-- '(' P ')' from behind its '(' -/
theorem s_inner (hK : 20000 ≤ K) (hp : PS B n gc gr lo) (hlo : lo ≤ op) (ho : op ≤ 60) (hN : NOk n N) (hn : N.length ≤ 21 * op) (hL : LX B n L) (hC : SC B n L (cO c off) N xC) (hR : SR B n L c N op pt xR) {k : Nat} (hk : k < 55) (h01 : k ≠ 0 ∧ k ≠ 1) {a : Nat} (ha : a = 1000 + k) {b : Int32} (hu : tkUb b k = true) :
    SimV B (Go B n off N op pt L.1) (jm_bV (gc 0 [.ref 2, .int (nI op)] xC) (fun x => jm_bV (f_G_take K gc a x) (fun x => rV x))) (jm_bV (gr 0 [.ref 0] xR) (fun x => jm_bV (f_M_need_i K gr b x) (fun x => rV x))) := by
  refine SimV.bind (hp off N op pt L c xC xR hlo ho hN hn hL hC hR) ?_
  rintro yC yR ⟨-, L1, c1, q1, q2, q3, q4⟩
  refine SimV.bind (s_take hK q1 q3 q4 hk h01 ha hu) ?_
  rintro zC zR ⟨p1, -, p3, p4⟩
  exact SimV.ok ⟨_, c1, q1.next, by omega, p3, p4⟩
end PA

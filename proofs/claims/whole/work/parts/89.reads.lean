/-! PURE, 40: read, side by side. -/
/-- the two objects between calls -/
def Rel (xC xR : jm_X) : Prop := ∃ (B : Nat → Fin 256) (n : Nat), n ≤ 16384 ∧ xC.2.2 1 = tpB B ∧ xR.2.2 3 = tpB B ∧ xC.1 2 = nI n ∧ xR.1 6 = nI n ∧ (∀ k, k < 34 → xC.2.2 3 k = xR.2.2 4 k) ∧ xC.1 204 = xR.1 7
/-- a call's answers are the same -/
def Ans (ex : String) (rC rR : Option jm_R) : Prop := ∃ (yC yR : jm_X) (b : Int32), Rel yC yR ∧ rR = rI b yR ∧ ((rC = rI b yC ∧ yR.1 5 = 0) ∨ (rC = some (.inr (ex, yC)) ∧ yR.1 5 = 1))
theorem nI_all (v : Int32) : ∃ p, nI p = v := ⟨v.toBitVec.toNat, by
  apply Int32.toBitVec_inj.mp
  simp [nI]⟩
theorem totm_ext {c c' : Nat → Int32} : ∀ m, (∀ k, k < m → c k = c' k) → totm c m = totm c' m
  | 0, _ => rfl
  | m + 1, h => by simp only [totm]; rw [totm_ext m (fun k hk => h k (by omega)), h m (by omega)]
theorem totm_zero {c : Nat → Int32} : ∀ m, (∀ k, k < m → c k = 0) → totm c m = 0
  | 0, _ => rfl
  | m + 1, h => by simp only [totm]; rw [totm_zero m (fun k hk => h k (by omega)), h m (by omega)]; rfl
section PX
variable {K : Nat} {g : jm_Rec} {B : Nat → Fin 256} {n : Nat}
theorem c_begin (hK : 20000 ≤ K) {x : jm_X} (hx : x.2.2 1 = tpB B) (hn : n ≤ 16384) {v : Int32} (hv : v = nI n) (h2 : x.1 2 = 0) (F : jm_X → Option jm_R) : ∃ y, SC B n (lexB B n 0) (y.2.2 3) [] y ∧ (∀ k, k < 34 → y.2.2 3 k = 0) ∧
    jm_bV (f_G_forgetProgram K g x) (fun x1 => jm_then (va_up x1.1 204 (-1), x1.2) (fun x2 => jm_bV (f_N_begin K g 1 x2) (fun x3 => jm_bV (f_S_begin K g 1 v x3) F))) = F y := by
  have hX : SL B n (va_up (va_up (va_up (va_up (va_up x.1 203 0) 204 (-1)) 605 0) 401 v) 403 0, va_up (va_up x.2.1 604 1) 400 1, va_up x.2.2 3 (fun j => if 0 ≤ j ∧ j < 34 then 0 else x.2.2 3 j)) := by
    refine ⟨?_, ?_, ?_, hn⟩
    · simp [va_up, hv]
    · simp [va_up]
    · simp [va_up, hx]
  refine ⟨lxC (va_up (va_up (va_up (va_up (va_up x.1 203 0) 204 (-1)) 605 0) 401 v) 403 0, va_up (va_up x.2.1 604 1) 400 1, va_up x.2.2 3 (fun j => if 0 ≤ j ∧ j < 34 then 0 else x.2.2 3 j)) (lexB B n 0), ?_, ?_, ?_⟩
  · refine ⟨⟨?_, ?_, ?_, hn⟩, ⟨?_, ?_, ?_⟩, ⟨rfl, ?_⟩, ⟨?_, ?_, ?_⟩, ?_, ?_⟩
    · simp [lxC, va_up, hv]
    · simp [lxC, va_up]
    · simp [lxC, va_up, hx]
    · simp [lxC, va_up]
    · simp [lxC, va_up]
    · simp [lxC, va_up]
    · rw [tot, totm_zero 34 (by intro k hk; simp [lxC, va_up, hk])]; simp [lxC, va_up]
    · simp [lxC, va_up]; rfl
    · simp [lxC, va_up]
    · intro i e he; cases he
    · simp [lxC, va_up, h2]
    · simp [lxC, va_up]
  · intro k hk; simp [lxC, va_up, hk]
  · rw [c_forget hK, jm_bV_some]
    simp only [jm_then, f_N_begin, f_S_begin, f_S_goTo]
    rw [jm_bV_some, v_S_next (p := 0) hK hX (by simp [va_up, nI_0]) (by omega), jm_bV_some, jm_bV_some, jm_bV_some]
theorem r_fill_L : ∀ (r i f : Nat) (x : jm_X), r < f → i + r = 34 → ∃ f', L_M_read_20 K g f (nI i) x = L_M_read_20 K g (f' + 1) (nI 34) (x.1, x.2.1, va_up x.2.2 4 (fun j => if i ≤ j ∧ j < 34 then 0 else x.2.2 4 j))
  | r, i, 0, x, hf, _ => absurd hf (Nat.not_lt_zero _)
  | 0, i, f + 1, x, hf, hi => by
    have e : (fun j => if i ≤ j ∧ j < 34 then (0 : Int32) else x.2.2 4 j) = x.2.2 4 := by
      funext j; rw [if_neg (by omega)]
    refine ⟨f, ?_⟩
    rw [e, pu_up_eq, show i = 34 by omega]
  | r + 1, i, f + 1, x, hf, hi => by
    obtain ⟨f', ih⟩ := r_fill_L r (i + 1) f (jm_ua x 4 (nI i) 0) (by omega) (by omega)
    refine ⟨f', ?_⟩
    rw [L_M_read_20, B_M_read_20, show (34 : Int32) = nI 34 from rfl, if_neg (nI_ge (by omega) (by omega)), if_pos (pu_in (n := 34) rfl (by omega) (by omega)), nI_1]
    simp only [jm_then]
    rw [ih]
    simp only [jm_ua, pu_up2, va_up_self, nI_clamp (show i < 2 ^ 31 by omega)]
    have e : (fun j => if i + 1 ≤ j ∧ j < 34 then (0 : Int32) else upd (x.2.2 4) i 0 j) = (fun j => if i ≤ j ∧ j < 34 then 0 else x.2.2 4 j) := by
      funext j
      simp only [upd]
      by_cases hj : j = i
      · rw [if_neg (by omega), if_pos hj, if_pos (by omega)]
      · rw [if_neg hj]
        by_cases h2 : i + 1 ≤ j ∧ j < 34
        · rw [if_pos h2, if_pos (by omega)]
        · rw [if_neg h2, if_neg (by omega)]
    rw [e]
theorem r_fail_L : ∀ (r i f : Nat) (x : jm_X), r < f → i + r = 34 → L_M_read_89 K g f (nI i) x = rI 0 (va_up x.1 5 1, x.2.1, va_up x.2.2 4 (fun j => if i ≤ j ∧ j < 34 then 0 else x.2.2 4 j))
  | r, i, 0, x, hf, _ => absurd hf (Nat.not_lt_zero _)
  | 0, i, f + 1, x, hf, hi => by
    have e : (fun j => if i ≤ j ∧ j < 34 then (0 : Int32) else x.2.2 4 j) = x.2.2 4 := by
      funext j; rw [if_neg (by omega)]
    rw [L_M_read_89, B_M_read_89, show (34 : Int32) = nI 34 from rfl, if_pos (nI_le (by omega) (by omega)), e]
    simp only [f_M_fail, jm_then]
    rw [jm_bI_some]
    have e2 : va_up x.2.2 4 (x.2.2 4) = x.2.2 := by
      funext j
      by_cases hj : j = 4
      · rw [hj, va_up_self]
      · simp [va_up, hj]
    rw [e2]
  | r + 1, i, f + 1, x, hf, hi => by
    have ih := r_fail_L r (i + 1) f (jm_ua x 4 (nI i) 0) (by omega) (by omega)
    rw [L_M_read_89, B_M_read_89, show (34 : Int32) = nI 34 from rfl, if_neg (nI_ge (by omega) (by omega)), if_pos (pu_in (n := 34) rfl (by omega) (by omega)), nI_1]
    simp only [jm_then]
    rw [ih]
    simp only [jm_ua, pu_up2, va_up_self, nI_clamp (show i < 2 ^ 31 by omega)]
    have e : (fun j => if i + 1 ≤ j ∧ j < 34 then (0 : Int32) else upd (x.2.2 4) i 0 j) = (fun j => if i ≤ j ∧ j < 34 then 0 else x.2.2 4 j) := by
      funext j
      simp only [upd]
      by_cases hj : j = i
      · rw [if_neg (by omega), if_pos hj, if_pos (by omega)]
      · rw [if_neg hj]
        by_cases h2 : i + 1 ≤ j ∧ j < 34
        · rw [if_pos h2, if_pos (by omega)]
        · rw [if_neg h2, if_neg (by omega)]
    rw [e]
theorem r_sum_L {c : Nat → Int32} : ∀ (r i f : Nat) (x : jm_X), x.2.2 4 = c → r < f → i + r = 34 → L_M_read_118 K g f (totm c i) (nI i) x = rI (totm c 34) x
  | r, i, 0, x, _, hf, _ => absurd hf (Nat.not_lt_zero _)
  | 0, i, f + 1, x, hx, hf, hi => by
    rw [L_M_read_118, B_M_read_118, show (34 : Int32) = nI 34 from rfl, if_pos (nI_le (by omega) (by omega)), show i = 34 by omega]
  | r + 1, i, f + 1, x, hx, hf, hi => by
    have ih := r_sum_L r (i + 1) f x hx (by omega) (by omega)
    rw [L_M_read_118, B_M_read_118, show (34 : Int32) = nI 34 from rfl, if_neg (nI_ge (by omega) (by omega)), if_pos (pu_in (n := 34) rfl (by omega) (by omega)), nI_1, hx, nI_clamp (by omega)]
    exact ih
/-- the reference's begin of read -/
theorem r_begin (hK : 20000 ≤ K) {x : jm_X} (hx : x.2.2 3 = tpB B) (hn : n ≤ 16384) (h6 : x.1 6 = nI n) : ∃ (y : jm_X) (pt : Nat), SR B n (lexB B n 0) (y.2.2 4) [] 0 pt y ∧ (∀ k, k < 34 → y.2.2 4 k = 0) ∧
    f_M_read K g x = jm_bC (f_M_program K g y) "java/lang/IllegalStateException" (fun v x10 => jm_oV v ((if (x10.1 11) = 0 then L_M_read_118 K g K 0 0 x10 else jm_bC (f_M_bad K g (x10.1 9) x10) "java/lang/IllegalStateException" (fun v x12 => jm_oA v (fun b14 => (if b14 = 2 then J_M_read_87 K g x12 else none))) (fun x13 => J_M_read_87 K g x13)))) (fun x11 => J_M_read_87 K g x11) := by
  obtain ⟨f', ef⟩ := r_fill_L (K := K) (g := g) 34 0 K (va_up (va_up (va_up x.1 5 0) 8 (x.1 6)) 6 0, x.2) (by omega) (by omega)
  obtain ⟨pt, hpt⟩ := nI_all (x.1 21)
  have hY : RL B n (va_up (va_up (va_up (va_up (va_up (va_up (va_up x.1 5 0) 8 (x.1 6)) 6 0) 15 0) 12 0) 10 0) 7 (-1), x.2.1, va_up x.2.2 4 (fun j => if 0 ≤ j ∧ j < 34 then 0 else x.2.2 4 j)) := by
    refine ⟨?_, ?_, hn⟩
    · simp [va_up, h6]
    · simp [va_up, hx]
  obtain ⟨b, es, hb⟩ := v_M_scan (K := K) (g := g) hK hY (p := 0) (by simp [va_up]; rfl) (by omega)
  refine ⟨lxR (va_up (va_up (va_up (va_up (va_up (va_up (va_up x.1 5 0) 8 (x.1 6)) 6 0) 15 0) 12 0) 10 0) 7 (-1), x.2.1, va_up x.2.2 4 (fun j => if 0 ≤ j ∧ j < 34 then 0 else x.2.2 4 j)) (lexB B n 0) b, pt, ?_, ?_, ?_⟩
  rotate_left 2
  · have e8 : (va_up x.1 5 0) 6 = x.1 6 := by simp [va_up]
    simp only [f_M_read, jm_then]
    rw [nI_0] at ef
    rw [e8, ef, L_M_read_20, B_M_read_20, show (34 : Int32) = nI 34 from rfl, if_pos (nI_le (by omega) (by omega))]
    simp only [jm_then]
    rw [es]
    rfl
  · refine ⟨⟨?_, ?_, hn⟩, ⟨?_, ?_, ?_⟩, rfl, ⟨?_, ?_⟩, ⟨?_, ?_⟩, ?_, ?_, ?_⟩
    · simp [lxR, va_up, h6]
    · simp [lxR, va_up, hx]
    · simp [lxR, va_up]
    · intro z1 z2; simp [lxR, va_up, hb z1 z2]
    · simp [lxR, va_up]
    · simp [lxR, va_up]; rfl
    · intro i e he; cases he
    · simp [lxR, va_up]; rfl
    · simp [lxR, va_up, hpt]
    · simp [lxR, va_up]
    · simp [lxR, va_up]
    · simp [lxR, va_up]
  · intro k hk; simp [lxR, va_up, hk]
theorem p_read (hK : 20000 ≤ K) {xC xR : jm_X} (h : Rel xC xR) : Ans UOE (f_FR_read K (gC K 61) xC) (f_M_read K (gR K 61) xR) := by
  obtain ⟨B, n, hn, a1, a2, a3, a4, a5, a6⟩ := h
  obtain ⟨y, hy, hy0, ey⟩ := c_begin (K := K) (g := gC K 61) (x := (va_up xC.1 2 0, xC.2)) hK a1 hn (v := xC.1 2) a3 (by simp [va_up]) (fun x4 => jm_bV (f_G_program K (gC K 61) 0 x4) (fun x5 => jm_bV (f_G_need K (gC K 61) 1000 x5) (fun x6 => some (.inl (some (.int (x6.1 203)), x6)))))
  obtain ⟨z, pt, hz, hz0, ez⟩ := r_begin (K := K) (g := gR K 61) hK a2 hn a4
  have hL : LX B n (lexB B n 0) := ⟨0, by omega, rfl⟩
  -- the counts that the class has beyond the reference's
  have hoff : y.2.2 3 = cO (z.2.2 4) (fun k => y.2.2 3 k - z.2.2 4 k) := by
    funext k; simp only [cO]; rw [Int32.add_comm, Int32.sub_add_cancel]
  have ho0 : ∀ k, k < 34 → (fun k => y.2.2 3 k - z.2.2 4 k) k = 0 := by
    intro k hk; simp only [hy0 k hk, hz0 k hk]; rfl
  rw [hoff] at hy
  generalize (fun k => y.2.2 3 k - z.2.2 4 k) = off at hy ho0
  have key := ((allS (B := B) (n := n) hK 61 0 (by omega)) 62 62).2.1 (by omega) (by omega) off [] 0 pt (lexB B n 0) (z.2.2 4) y z (by omega) (by omega) ⟨by decide, fun e he => absurd he List.not_mem_nil⟩ (by decide) hL hy hz
  rw [gC_program, gR_program, nI_0] at key
  simp only [f_FR_read, f_G_readProgram]
  rw [show jm_then (va_up xC.1 2 0, xC.2) = (fun F => F (va_up xC.1 2 0, xC.2)) from rfl]
  simp only []
  rw [ey, ez]
  -- a broken program
  have broken : ∀ (v : Int32) (wC wR : jm_X), BrC B v wC → BrR B v wR → Ans UOE (some (.inr (UOE, wC))) (J_M_read_87 K (gR K 61) wR) := by
    intro v wC wR hb1 hb2
    have e := r_fail_L (K := K) (g := gR K 61) 34 0 K wR (by omega) (by omega)
    rw [nI_0] at e
    refine ⟨wC, _, 0, ?_, by simp only [J_M_read_87]; exact e, Or.inr ⟨rfl, by simp [va_up]⟩⟩
    refine ⟨B, 0, by omega, hb1.1, ?_, hb1.2.2.2.2, ?_, ?_, ?_⟩
    · simp [va_up, hb2.1]
    · simp [va_up, hb2.2.2.2]; rfl
    · intro k hk; simp [va_up, hk, hb1.2.1 k hk]
    · simp [va_up, hb1.2.2.2.1, hb2.2.1]
  rcases key with ⟨vC, wC, vR, wR, e1, e2, rfl, rfl, -, L, c, q1, q2, q3, q4⟩ | ⟨v, wC, wR, e1, e2, hb1, hb2⟩
  · have hF := q1.facts
    obtain ⟨n1, n2⟩ := c_need (K := K) (g := gC K 61) hK q3 hF.2.2.1 (k := 0) (by omega) (a := 1000) rfl
    have u0 : tkU 0 0 := tkU.of (by decide)
    rw [e1, e2]
    simp only [jm_bC, jm_oV]
    rw [jm_bV_some, q4.2.1.2.2]
    by_cases hz : L.2.2 = 0
    · have es := r_sum_L (K := K) (g := gR K 61) (c := c) 34 0 K wR q4.2.2.1 (by omega) (by omega)
      rw [nI_0] at es
      rw [n1 hz, jm_bV_some, jm_bI_some, if_pos ((u0 _ hF.2.2.1).mpr hz)]
      have et : tot (cO c off) = totm c 34 := totm_ext 34 (fun k hk => by simp only [cO]; rw [ho0 k hk, Int32.add_zero])
      refine ⟨wC, wR, totm c 34, ?_, es, Or.inl ⟨?_, q4.2.2.2.2.2.1⟩⟩
      · refine ⟨B, 0, by omega, q3.1.2.2.1, q4.1.2.1, q3.2.2.2.2.1, q4.2.2.2.2.2.2.1, ?_, ?_⟩
        · intro k hk
          rw [q3.2.2.1.1, q4.2.2.1]
          simp only [cO]; rw [ho0 k hk, Int32.add_zero]
        · rw [q3.2.2.2.2.2, q4.2.2.2.2.2.2.2]
      · rw [q3.2.2.1.2, et]
    · obtain ⟨w1, e3, hb1⟩ := n2 hz
      obtain ⟨-, b2⟩ := r_bad (K := K) (g := gR K 61) q4 (nI L.1)
      rw [e3, jm_bV_thr, jm_bI_thr, if_neg (fun w => hz ((u0 _ hF.2.2.1).mp w)), q4.2.1.1]
      exact broken (nI L.1) w1 _ hb1 b2
  · rw [e1, e2, jm_bV_thr, jm_bI_thr]
    exact broken v wC wR hb1 hb2
end PX

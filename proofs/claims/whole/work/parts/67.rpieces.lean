/-! PURE, 18: the pieces of strings: the reference. -/
def ixF (v : Int32) : Nat → Nat → Int32
  | 0, _ => -1
  | m + 1, i => if (tx 21).getD i 0 = v then nI i else ixF v m (i + 1)
theorem ixF_ok : ∀ b : Fin 256, b.val < 128 → (0 ≤ ixF (Int8.toInt32 (Int32.toInt8 (sB b))) 8 0) = (isEs b = true) := by decide +kernel
section PQ2
variable {K : Nat} {g : jm_Rec} {B : Nat → Fin 256} {n : Nat} {x : jm_X}
theorem v_canEnc (b : Fin 256) : f_JL_canEncode K g (sB b) x = rI (bI (decide (b.val < 128))) x := by
  simp only [f_JL_canEncode, J_JL_canEncode_15, J_JL_canEncode_16, rI_ite]
  refine congrArg (fun v => rI v x) ?_
  revert b
  decide +kernel
theorem v_idx_L (v : Int32) : ∀ (m i f : Nat), m < f → i + m = 8 → L_JL_indexOfChar_7 K g f 3021 (nI 8) v (nI i) x = rI (ixF v m i) x
  | m, i, 0, hf, _ => absurd hf (Nat.not_lt_zero _)
  | 0, i, f + 1, hf, hi => by
    simp only [L_JL_indexOfChar_7, B_JL_indexOfChar_7]
    rw [if_pos (nI_le (by omega) (by omega))]; rfl
  | m + 1, i, f + 1, hf, hi => by
    simp only [L_JL_indexOfChar_7, B_JL_indexOfChar_7]
    rw [if_neg (nI_ge (by omega) (by omega)), if_pos (by decide), show (st_b.getD (3021 - 3000) []).length = 8 from rfl, if_pos (pu_ix (by omega) (by omega)), nI_clamp (by omega), nI_1, v_idx_L v m (i + 1) f (by omega) (by omega)]
    change (if (tx 21).getD i 0 = v then rI (nI i) x else rI (ixF v m (i + 1)) x) = rI (if (tx 21).getD i 0 = v then nI i else ixF v m (i + 1)) x
    rw [rI_ite]
theorem v_indexOf (hK : 20000 ≤ K) (b : Fin 256) (hb : b.val < 128) : f_JS_indexOf_i K g 2021 (sB b) x = rI (ixF (Int8.toInt32 (Int32.toInt8 (sB b))) 8 0) x := by
  have e1 : f_JS_isLatin1 K g 2021 x = rI 1 x := v_JS_isLatin1 K g x (k := 21) (by omega)
  have e2 : f_JS_length K g 2021 x = rI (nI 8) x := v_JS_length K g x (k := 21) (by omega)
  have e3 : f_JL_indexOf K g 3021 (sB b) 0 (nI 8) x = rI (ixF (Int8.toInt32 (Int32.toInt8 (sB b))) 8 0) x := by
    simp only [f_JL_indexOf, f_JM_max, J_JM_max_10, f_JM_min_ii, J_JM_min_ii_10, f_JL_indexOfChar]
    rw [v_canEnc, jm_bI_some, bI_ite, decide_eq_true hb, if_pos rfl, if_neg (by decide), jm_bI_some, if_pos (by decide)]
    change jm_bI (if nI 8 < nI 8 then _ else _) _ = _
    rw [if_neg (by decide), jm_bI_some, if_pos (by decide)]
    have := v_idx_L (K := K) (g := g) (x := x) (Int8.toInt32 (Int32.toInt8 (sB b))) 8 0 K (by omega) (by omega)
    rw [nI_0] at this
    rw [this, jm_bI_some]
  simp only [f_JS_indexOf_i, f_JS_indexOf_ii, J_JS_indexOf_ii_36]
  simp only [show jm_cn 2000 73 2021 = true by decide, if_true, e1, e2, jm_bI_some, show ¬ ((1 : Int32) = 0) by decide, if_false]
  rw [show 3000 + (2021 - 2000) = 3021 from rfl, e3, jm_bI_some, jm_bI_some]
abbrev thrB (v : Int32) (x : jm_X) : Option jm_R := some (.inr (ISE, (va_up x.1 7 v, x.2)))
theorem r_uni_L (h : RL B n x) (k13 : Int32 → Int32 → Int32 → Int32 → jm_X → Option jm_R) (v1 v2 v4 : Int32) : ∀ (r j i v f : Nat), r < f → j + r = 4 → i ≤ 16390 → v < 16 ^ (4 - r) →
    L_M_string_153 K g k13 f v1 v2 (nI i) v4 (nI v) (nI j) x = (if nwB B n r i v = true then k13 v1 v2 (nI (i + r)) v4 x else thrB v2 x)
  | r, j, i, v, 0, hf, _, _, _ => absurd hf (Nat.not_lt_zero _)
  | 0, j, i, v, f + 1, hf, hj, hi, hv => by
    have hv2 : v < 65536 := hv
    simp only [L_M_string_153, B_M_string_153, J_M_string_239]
    rw [show (4 : Int32) = nI 4 from rfl, if_pos (nI_le (by omega) (by omega)), show (127 : Int32) = nI 127 from rfl]
    simp only [nI_leI (a := v) (b := 127) (by omega) (by omega)]
    by_cases hz : v < 128
    · have e : nwB B n 0 i v = true := by rw [nwB, decide_eq_true hz]
      rw [if_pos (by omega), if_pos e]; rfl
    · have e : nwB B n 0 i v = false := by rw [nwB, decide_eq_false hz]
      rw [if_neg (by omega), if_neg (by rw [e]; exact Bool.false_ne_true)]; rfl
  | r + 1, j, i, v, f + 1, hf, hj, hi, hv => by
    have h4 := h.2.2
    simp only [L_M_string_153, B_M_string_153]
    rw [show (4 : Int32) = nI 4 from rfl, if_neg (nI_ge (by omega) (by omega))]
    by_cases hin : i < n
    · rw [v_M_look_in h hin, jm_bI_some, v_M_hex, jm_bI_some]
      simp only [hxV_no]
      by_cases hd : hxV (B i) < 16
      · have hb := nwB_bnd (by omega) hv hd
        rw [if_pos hd, v_M_look_in h hin, jm_bI_some, v_M_hex, jm_bI_some, hxI_of hd, show (16 : Int32) = nI 16 from rfl, show nI 16 * nI v = nI (v * 16) from by rw [Nat.mul_comm]; exact (Int32.ofNat_mul 16 v).symm, nI_add, nI_1, nI_1, r_uni_L h k13 v1 v2 v4 r (j + 1) (i + 1) _ f (by omega) (by omega) (by omega) hb]
        have e : nwB B n (r + 1) i v = nwB B n r (i + 1) (v * 16 + hxV (B i)) := by rw [nwB, if_pos ⟨hin, hd⟩]
        rw [e, show i + 1 + r = i + (r + 1) by omega]
      · have e : nwB B n (r + 1) i v = false := by rw [nwB, if_neg (fun z => hd z.2)]
        rw [if_neg hd, if_neg (by rw [e]; exact Bool.false_ne_true)]; rfl
    · have e : nwB B n (r + 1) i v = false := by rw [nwB, if_neg (fun z => hin z.1)]
      rw [v_M_look_out h (by omega) (by omega), jm_bI_some, v_M_hex_no, jm_bI_some, if_neg (by decide), if_neg (by rw [e]; exact Bool.false_ne_true)]; rfl
theorem sB_lt32 : ∀ b : Fin 256, (sB b < 32 ∨ ¬ sB b ≤ 126) = ¬ (32 ≤ b.val ∧ b.val ≤ 126) := by decide +kernel
theorem sB_neg : ∀ b : Fin 256, (sB b < 0) = ¬ (b.val < 128) := by decide +kernel
theorem isEs_lt : ∀ b : Fin 256, isEs b = true → b.val < 128 := by decide +kernel
/-- from a place to the piece's end -/
theorem r_piece_L (hK : 20000 ≤ K) (h : RL B n x) (v1 v2 v4 : Int32) : ∀ (f i : Nat), n - i < f → i ≤ n →
    (pcE B n f i = none → L_M_string_13 K g f v1 v2 (nI i) v4 x = thrB v2 x) ∧ (∀ j, pcE B n f i = some j → ∃ f', n - j < f' ∧ L_M_string_13 K g f v1 v2 (nI i) v4 x = L_M_string_13 K g f' v1 v2 (nI j) v4 x)
  | 0, i, hf, _ => absurd hf (Nat.not_lt_zero _)
  | f + 1, i, hf, hi => by
    have h4 := h.2.2
    by_cases hn : i < n
    · by_cases h1 : (B i).val = 34
      · have e : pcE B n (f + 1) i = some i := by rw [pcE, if_pos hn, if_pos h1]
        rw [e]
        refine ⟨(fun z => by cases z), (fun j z => ?_)⟩
        cases z
        exact ⟨f + 1, hf, rfl⟩
      · by_cases h2 : opn B n i = true
        · have e : pcE B n (f + 1) i = some i := by rw [pcE, if_pos hn, if_neg h1, if_pos h2]
          rw [e]
          refine ⟨(fun z => by cases z), (fun j z => ?_)⟩
          cases z
          exact ⟨f + 1, hf, rfl⟩
        · have e34 : (sB (B i) = 34) = ((B i).val = 34) := sB_eq (B i) ⟨34, by omega⟩
          have e92 : (sB (B i) = 92) = ((B i).val = 92) := sB_eq (B i) ⟨92, by omega⟩
          have step : L_M_string_13 K g (f + 1) v1 v2 (nI i) v4 x = (if chS B n i = 0 then thrB v2 x else L_M_string_13 K g f v1 v2 (nI (i + chS B n i)) v4 x) := by
            simp only [L_M_string_13, B_M_string_13, J_M_string_239, J_M_string_52, J_M_string_233, h.1, nI_1]
            rw [v_M_look_in h hn, jm_bI_some]
            simp only [e34, if_neg h1]
            rw [v_M_look_in h hn, jm_bI_some, h.1, if_neg (nI_ge hn (by omega))]
            by_cases h92 : (B i).val = 92
            · rw [if_neg (fun z => by have := (sB_lt32 (B i)).mp (Or.inl z); omega), if_pos (by
                by_cases hq : sB (B i) ≤ 126
                · exact hq
                · have := (sB_lt32 (B i)).mp (Or.inr hq); omega), if_pos (by rw [e92]; exact h92)]
              by_cases h5 : i + 1 < n
              · have e40 : (sB (B (i + 1)) = 40) = ((B (i + 1)).val = 40) := sB_eq (B (i + 1)) ⟨40, by omega⟩
                have e117 : (sB (B (i + 1)) = 117) = ((B (i + 1)).val = 117) := sB_eq (B (i + 1)) ⟨117, by omega⟩
                have h40 : ¬ (B (i + 1)).val = 40 := fun z => h2 (by simp [opn, h5, h92, z])
                rw [v_M_look_in h h5, jm_bI_some]
                simp only [e40, if_neg h40, e117]
                by_cases h6 : (B (i + 1)).val = 117
                · have ec : chS B n i = if nwB B n 4 (i + 2) 0 = true then 6 else 0 := by rw [chS, if_pos hn, if_pos h92, if_pos h5, if_pos h6]
                  rw [if_pos h6]
                  have key := r_uni_L (K := K) (g := g) h (L_M_string_13 K g f) v1 v2 v4 4 0 (i + 2) 0 K (by omega) (by omega) (by omega) (by omega)
                  rw [nI_0] at key
                  rw [show i + 1 + 1 = i + 2 by omega, key, ec]
                  by_cases h7 : nwB B n 4 (i + 2) 0 = true
                  · simp only [if_pos h7, show i + 2 + 4 = i + 6 by omega]; rfl
                  · simp only [if_neg h7]; rfl
                · have ec : chS B n i = if isEs (B (i + 1)) = true then 2 else 0 := by rw [chS, if_pos hn, if_pos h92, if_pos h5, if_neg h6]
                  rw [if_neg h6, ec]
                  simp only [sB_neg]
                  by_cases h8 : (B (i + 1)).val < 128
                  · rw [if_neg (fun z => z h8), if_pos (by decide), v_indexOf hK _ h8, jm_bI_some]
                    simp only [ixF_ok _ h8]
                    by_cases h9 : isEs (B (i + 1)) = true
                    · simp only [if_pos h9, show i + 1 + 1 = i + 2 by omega]; rfl
                    · simp only [if_neg h9]; rfl
                  · have h9 : ¬ isEs (B (i + 1)) = true := fun z => h8 (isEs_lt _ z)
                    rw [if_pos h8]
                    simp only [if_neg h9]; rfl
              · have ec : chS B n i = 0 := by rw [chS, if_pos hn, if_pos h92, if_neg h5]
                rw [v_M_look_out h (by omega) (by omega), jm_bI_some, if_neg (by decide), if_neg (by decide), if_pos (by decide), if_pos ec]; rfl
            · by_cases h10 : 32 ≤ (B i).val ∧ (B i).val ≤ 126
              · have ec : chS B n i = 1 := by rw [chS, if_pos hn, if_neg h92, if_pos h10]
                rw [if_neg (fun z => by have := (sB_lt32 (B i)).mp (Or.inl z); exact this h10), if_pos (by
                  by_cases hq : sB (B i) ≤ 126
                  · exact hq
                  · have := (sB_lt32 (B i)).mp (Or.inr hq); exact absurd h10 this), if_neg (by rw [e92]; exact h92), ec]; rfl
              · have ec : chS B n i = 0 := by rw [chS, if_pos hn, if_neg h92, if_neg h10]
                rw [if_pos ec]
                rcases (sB_lt32 (B i)).mpr h10 with q | q
                · rw [if_pos q]; rfl
                · by_cases q2 : sB (B i) < 32
                  · rw [if_pos q2]; rfl
                  · rw [if_neg q2, if_neg q]; rfl
          rw [step]
          by_cases h3 : chS B n i = 0
          · have e : pcE B n (f + 1) i = none := by rw [pcE, if_pos hn, if_neg h1, if_neg h2, if_pos h3]
            rw [e, if_pos h3]
            exact ⟨(fun _ => rfl), (fun j z => by cases z)⟩
          · have hc := chS_le h3
            have e : pcE B n (f + 1) i = pcE B n f (i + chS B n i) := by rw [pcE, if_pos hn, if_neg h1, if_neg h2, if_neg h3]
            rw [e, if_neg h3]
            exact r_piece_L hK h v1 v2 v4 f (i + chS B n i) (by omega) hc
    · have e : pcE B n (f + 1) i = none := by rw [pcE, if_neg hn]
      rw [e]
      refine ⟨(fun _ => ?_), (fun j z => by cases z)⟩
      simp only [L_M_string_13, B_M_string_13, J_M_string_52, h.1]
      rw [v_M_look_out h (by omega) (by omega), jm_bI_some, if_neg (by decide), v_M_look_out h (by omega) (by omega), jm_bI_some, h.1, if_pos (nI_le (by omega) (by omega))]; rfl
end PQ2

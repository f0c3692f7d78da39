/-! THE LAW, 6: its loop, call by call. -/
section LW3
variable {p : Program} {e : Env} {l : Launch} {s : State} {m : MethodId} {below : List Frame} {meth : Method} {c : Code}
variable {D DR : va_G} {adC adR : Nat → Nat} {aC aR : Nat → ClassId} {cA : ClassId}
theorem lw_in {i k L : Nat} (h : i + k < L) (hL : L ≤ 3072) : vp_in (nI i + nI k) L ∧ (nI i + nI k).toNatClampNeg = i + k := by
  have e1 : nI i + nI k = nI (i + k) := (Int32.ofNat_add i k).symm
  rw [e1]
  exact ⟨vp_in_nI h (by omega), nI_clamp (by omega)⟩
/-- an answer, as the helpers see it -/
theorem ans_ok {ex : String} {rC rR : Option jm_R} (h : Ans ex rC rR) : ∃ (q0 : jm_R) (yC yR : jm_X) (b r : Int32), rC = some q0 ∧ hl_ok ex q0 ∧ rR = rI b yR ∧ Rel yC yR ∧ yR.1 5 = r ∧ ((∃ b', q0 = .inl (some (.int b'), yC) ∧ r = 0) ∨ (∃ E, q0 = .inr (E, yC) ∧ r = 1)) ∧ (r = 0 → q0 = .inl (some (.int b), yC)) := by
  obtain ⟨yC, yR, b, h1, h2, h3 | h3⟩ := h
  · exact ⟨.inl (some (.int b), yC), yC, yR, b, 0, h3.1, trivial, h2, h1, h3.2, Or.inl ⟨b, rfl, rfl⟩, fun _ => rfl⟩
  · exact ⟨.inr (ex, yC), yC, yR, b, 1, h3.1, rfl, h2, h1, h3.2, Or.inr ⟨ex, rfl, rfl⟩, fun z => absurd z (by decide)⟩

set_option maxRecDepth 100000 in
set_option maxHeartbeats 4000000 in
theorem law_feed (fx : LwFX l s D DR adC adR aC aR cA) {b L : Nat} {xs : Nat → Int32} (hL : L ≤ 3072) (C0 : lw_At p s m meth c b L xs) {H : Heap} {locs : List Loc} {cells slots i : Nat} {Q : State → Prop} {f : Nat → Int64} {xC xR : jm_X} {la : Array Slot} (hI : LwI l s D DR adC adR aC aR cA H locs f xC xR) (hrel : Rel xC xR) (hi : i + 6 ≤ L) (hce : cells ≤ 10000) (hsl : slots ≤ 7000000)
    (hl : lv_has la 7 [(4, .int (nI i)), (3, .ref (adC 700)), (2, .ref (adR 0)), (1, .ref (adC 0)), (0, .ref b)])
    (k : ∀ (H1 : Heap) (locs1 : List Loc) (la' : Array Slot) (f1 : Nat → Int64) (yC yR : jm_X), LwI l s D DR adC adR aC aR cA H1 locs1 f1 yC yR → Rel yC yR → lv_has la' 7 [(4, .int (nI i)), (3, .ref (adC 700)), (2, .ref (adR 0)), (1, .ref (adC 0)), (0, .ref b)] → W p l e room_1 s m #[Value.ref b] below meth c H1 locs1 (cells + 1) (slots + 20) Q (F0 m 366 la' [])) :
    W p l e room_1 s m #[Value.ref b] below meth c H locs cells slots Q (F0 m 80 la []) := by
  obtain ⟨hx, hb, hr, hml, hown, hts, hX, hbl, hlocks, hgv⟩ := id C0
  have hbA : ¬ (fun q : Nat => s.heap.size ≤ q) b := Nat.not_le.mpr hbl
  obtain ⟨q0, yC, yR, b2, r, q1, q2, q3, q4, q5, q6, q7⟩ := ans_ok (p_feed (K := 20000) (g := gC 20000 0) (g' := gR 20000 0) (Nat.le_refl _) (xs (i + 1)) (xs (i + 2)) (xs (i + 3)) (xs (i + 4)) (xs (i + 5)) hrel)
  refine lv_aload_n hx hb (show decode code 80 = .ok (.aload_n 1, 1) by decide +kernel) rfl (lv_at hl 3 rfl) ?_
  refine lv_aload_n hx hb (show decode code 81 = .ok (.aload_n 0, 1) by decide +kernel) rfl (lv_at hl 4 rfl) ?_
  refine lv_iload hx hb (show decode code 82 = .ok (.iload 4, 2) by decide +kernel) (lv_at hl 0 rfl) ?_
  refine lv_iconst (v := 1) hx hb (show decode code 84 = .ok (.iconst 1, 1) by decide +kernel) (by decide) ?_
  refine lv_iadd hx hb (show decode code 85 = .ok (.iadd, 1) by decide +kernel) ?_
  refine va_sld hx hb hX hbl hbA hI.2.2.2 (lw_in (i := i) (k := 1) (by omega) hL).1 (show decode code 86 = .ok (.iaload, 1) by decide +kernel) ?_
  rw [show (nI i + 1).toNatClampNeg = i + 1 from (lw_in (i := i) (k := 1) (by omega) hL).2]
  refine lv_aload_n hx hb (show decode code 87 = .ok (.aload_n 0, 1) by decide +kernel) rfl (lv_at hl 4 rfl) ?_
  refine lv_iload hx hb (show decode code 88 = .ok (.iload 4, 2) by decide +kernel) (lv_at hl 0 rfl) ?_
  refine lv_iconst (v := 2) hx hb (show decode code 90 = .ok (.iconst 2, 1) by decide +kernel) (by decide) ?_
  refine lv_iadd hx hb (show decode code 91 = .ok (.iadd, 1) by decide +kernel) ?_
  refine va_sld hx hb hX hbl hbA hI.2.2.2 (lw_in (i := i) (k := 2) (by omega) hL).1 (show decode code 92 = .ok (.iaload, 1) by decide +kernel) ?_
  rw [show (nI i + 2).toNatClampNeg = i + 2 from (lw_in (i := i) (k := 2) (by omega) hL).2]
  refine lv_aload_n hx hb (show decode code 93 = .ok (.aload_n 0, 1) by decide +kernel) rfl (lv_at hl 4 rfl) ?_
  refine lv_iload hx hb (show decode code 94 = .ok (.iload 4, 2) by decide +kernel) (lv_at hl 0 rfl) ?_
  refine lv_iconst (v := 3) hx hb (show decode code 96 = .ok (.iconst 3, 1) by decide +kernel) (by decide) ?_
  refine lv_iadd hx hb (show decode code 97 = .ok (.iadd, 1) by decide +kernel) ?_
  refine va_sld hx hb hX hbl hbA hI.2.2.2 (lw_in (i := i) (k := 3) (by omega) hL).1 (show decode code 98 = .ok (.iaload, 1) by decide +kernel) ?_
  rw [show (nI i + 3).toNatClampNeg = i + 3 from (lw_in (i := i) (k := 3) (by omega) hL).2]
  refine lv_aload_n hx hb (show decode code 99 = .ok (.aload_n 0, 1) by decide +kernel) rfl (lv_at hl 4 rfl) ?_
  refine lv_iload hx hb (show decode code 100 = .ok (.iload 4, 2) by decide +kernel) (lv_at hl 0 rfl) ?_
  refine lv_iconst (v := 4) hx hb (show decode code 102 = .ok (.iconst 4, 1) by decide +kernel) (by decide) ?_
  refine lv_iadd hx hb (show decode code 103 = .ok (.iadd, 1) by decide +kernel) ?_
  refine va_sld hx hb hX hbl hbA hI.2.2.2 (lw_in (i := i) (k := 4) (by omega) hL).1 (show decode code 104 = .ok (.iaload, 1) by decide +kernel) ?_
  rw [show (nI i + 4).toNatClampNeg = i + 4 from (lw_in (i := i) (k := 4) (by omega) hL).2]
  refine lv_aload_n hx hb (show decode code 105 = .ok (.aload_n 0, 1) by decide +kernel) rfl (lv_at hl 4 rfl) ?_
  refine lv_iload hx hb (show decode code 106 = .ok (.iload 4, 2) by decide +kernel) (lv_at hl 0 rfl) ?_
  refine lv_iconst (v := 5) hx hb (show decode code 108 = .ok (.iconst 5, 1) by decide +kernel) (by decide) ?_
  refine lv_iadd hx hb (show decode code 109 = .ok (.iadd, 1) by decide +kernel) ?_
  refine va_sld hx hb hX hbl hbA hI.2.2.2 (lw_in (i := i) (k := 5) (by omega) hL).1 (show decode code 110 = .ok (.iaload, 1) by decide +kernel) ?_
  rw [show (nI i + 5).toNatClampNeg = i + 5 from (lw_in (i := i) (k := 5) (by omega) hL).2]
  refine lv_aload_n hx hb (show decode code 111 = .ok (.aload_n 3, 1) by decide +kernel) rfl (lv_at hl 1 rfl) ?_
  refine lw_H (av := [.ref 0, .int (xs (i + 1)), .int (xs (i + 2)), .int (xs (i + 3)), .int (xs (i + 4)), .int (xs (i + 5)), .ref 700]) (rest := []) (d := 7) fx (lw_CC fx C0) (h_feed (K := 20000) fx.okC fx.outC (xs (i + 1)) (xs (i + 2)) (xs (i + 3)) (xs (i + 4)) (xs (i + 5)) xC q1 q2 cA) (jm_Inv.stat (show decode code 112 = .ok (.invokestatic 34, 3) by decide +kernel) (Or.inl mk_L_feed) mq_L_feed mi_L mw_L_feed mh_L_feed ml_L_feed) mw_L_feed mi_L (by decide) (by decide) (by decide) (by omega) (by omega) hl.1 hI q6 (fun H locs f hI hf => ?_)
  refine lv_istore (lv' := [(5, .int r), (4, .int (nI i)), (3, .ref (adC 700)), (2, .ref (adR 0)), (1, .ref (adC 0)), (0, .ref b)]) hx hb (show decode code 115 = .ok (.istore 5, 2) by decide +kernel) hl (by decide) rfl (fun la hl => ?_)
  refine lv_aload_n hx hb (show decode code 117 = .ok (.aload_n 2, 1) by decide +kernel) rfl (lv_at hl 3 rfl) ?_
  refine lv_aload_n hx hb (show decode code 118 = .ok (.aload_n 0, 1) by decide +kernel) rfl (lv_at hl 5 rfl) ?_
  refine lv_iload hx hb (show decode code 119 = .ok (.iload 4, 2) by decide +kernel) (lv_at hl 1 rfl) ?_
  refine lv_iconst (v := 1) hx hb (show decode code 121 = .ok (.iconst 1, 1) by decide +kernel) (by decide) ?_
  refine lv_iadd hx hb (show decode code 122 = .ok (.iadd, 1) by decide +kernel) ?_
  refine va_sld hx hb hX hbl hbA hI.2.2.2 (lw_in (i := i) (k := 1) (by omega) hL).1 (show decode code 123 = .ok (.iaload, 1) by decide +kernel) ?_
  rw [show (nI i + 1).toNatClampNeg = i + 1 from (lw_in (i := i) (k := 1) (by omega) hL).2]
  refine lv_aload_n hx hb (show decode code 124 = .ok (.aload_n 0, 1) by decide +kernel) rfl (lv_at hl 5 rfl) ?_
  refine lv_iload hx hb (show decode code 125 = .ok (.iload 4, 2) by decide +kernel) (lv_at hl 1 rfl) ?_
  refine lv_iconst (v := 2) hx hb (show decode code 127 = .ok (.iconst 2, 1) by decide +kernel) (by decide) ?_
  refine lv_iadd hx hb (show decode code 128 = .ok (.iadd, 1) by decide +kernel) ?_
  refine va_sld hx hb hX hbl hbA hI.2.2.2 (lw_in (i := i) (k := 2) (by omega) hL).1 (show decode code 129 = .ok (.iaload, 1) by decide +kernel) ?_
  rw [show (nI i + 2).toNatClampNeg = i + 2 from (lw_in (i := i) (k := 2) (by omega) hL).2]
  refine lv_aload_n hx hb (show decode code 130 = .ok (.aload_n 0, 1) by decide +kernel) rfl (lv_at hl 5 rfl) ?_
  refine lv_iload hx hb (show decode code 131 = .ok (.iload 4, 2) by decide +kernel) (lv_at hl 1 rfl) ?_
  refine lv_iconst (v := 3) hx hb (show decode code 133 = .ok (.iconst 3, 1) by decide +kernel) (by decide) ?_
  refine lv_iadd hx hb (show decode code 134 = .ok (.iadd, 1) by decide +kernel) ?_
  refine va_sld hx hb hX hbl hbA hI.2.2.2 (lw_in (i := i) (k := 3) (by omega) hL).1 (show decode code 135 = .ok (.iaload, 1) by decide +kernel) ?_
  rw [show (nI i + 3).toNatClampNeg = i + 3 from (lw_in (i := i) (k := 3) (by omega) hL).2]
  refine lv_aload_n hx hb (show decode code 136 = .ok (.aload_n 0, 1) by decide +kernel) rfl (lv_at hl 5 rfl) ?_
  refine lv_iload hx hb (show decode code 137 = .ok (.iload 4, 2) by decide +kernel) (lv_at hl 1 rfl) ?_
  refine lv_iconst (v := 4) hx hb (show decode code 139 = .ok (.iconst 4, 1) by decide +kernel) (by decide) ?_
  refine lv_iadd hx hb (show decode code 140 = .ok (.iadd, 1) by decide +kernel) ?_
  refine va_sld hx hb hX hbl hbA hI.2.2.2 (lw_in (i := i) (k := 4) (by omega) hL).1 (show decode code 141 = .ok (.iaload, 1) by decide +kernel) ?_
  rw [show (nI i + 4).toNatClampNeg = i + 4 from (lw_in (i := i) (k := 4) (by omega) hL).2]
  refine lv_aload_n hx hb (show decode code 142 = .ok (.aload_n 0, 1) by decide +kernel) rfl (lv_at hl 5 rfl) ?_
  refine lv_iload hx hb (show decode code 143 = .ok (.iload 4, 2) by decide +kernel) (lv_at hl 1 rfl) ?_
  refine lv_iconst (v := 5) hx hb (show decode code 145 = .ok (.iconst 5, 1) by decide +kernel) (by decide) ?_
  refine lv_iadd hx hb (show decode code 146 = .ok (.iadd, 1) by decide +kernel) ?_
  refine va_sld hx hb hX hbl hbA hI.2.2.2 (lw_in (i := i) (k := 5) (by omega) hL).1 (show decode code 147 = .ok (.iaload, 1) by decide +kernel) ?_
  rw [show (nI i + 5).toNatClampNeg = i + 5 from (lw_in (i := i) (k := 5) (by omega) hL).2]
  have hcon : jm_Con (PRx l s DR adR aR) mt_M_feed 2 [.ref 0, .int (xs (i + 1)), .int (xs (i + 2)), .int (xs (i + 3)), .int (xs (i + 4)), .int (xs (i + 5))] xR (rI b2 yR) := by rw [← q3]; exact c_M_feed (d0 := 0) (K := 20000) (g := gR 20000 0) fx.okR (gR_ok 20000 fx.okR 0) _ _ _ _ _ xR
  refine lw_R (av := [.ref 0, .int (xs (i + 1)), .int (xs (i + 2)), .int (xs (i + 3)), .int (xs (i + 4)), .int (xs (i + 5))]) (rest := []) fx (lw_CR fx C0) hcon (jm_Inv.obj (o := 0) (ci := 0) (q := ("FilterReaderModel", T_M, 22)) (show decode code 148 = .ok (.invokevirtual 39, 3) by decide +kernel) (Or.inl mk_LM_feed) mn_M_feed ms_M_feed mw_M_feed mh_M_feed ml_M_feed rfl rfl) mw_M_feed mi_M (by decide) (by decide) (by decide) (by omega) (by omega) hl.1 hI (fun H locs hI => ?_)
  exact law_tail (B := 151) (off := 185) fx C0 hI q5 (fun z => hf b2 (q7 z)) (by omega) (by omega) hl (show decode code 151 = .ok (.istore 6, 2) by decide +kernel) (show decode code 153 = .ok (.aload_n 2, 1) by decide +kernel) (show decode code 154 = .ok (.invokevirtual 40, 3) by decide +kernel) (show decode code 157 = .ok (.iload 5, 2) by decide +kernel) (show decode code 159 = .ok (.if_icmp .eq 5, 3) by decide +kernel) (show decode code 164 = .ok (.iload 5, 2) by decide +kernel) (show decode code 166 = .ok (.ifCond .ne 15, 3) by decide +kernel) (show decode code 169 = .ok (.aload_n 3, 1) by decide +kernel) (show decode code 170 = .ok (.iconst 0, 1) by decide +kernel) (show decode code 171 = .ok (.laload, 1) by decide +kernel) (show decode code 172 = .ok (.iload 6, 2) by decide +kernel) (show decode code 174 = .ok (.i2l, 1) by decide +kernel) (show decode code 175 = .ok (.lcmp, 1) by decide +kernel) (show decode code 176 = .ok (.ifCond .eq 5, 3) by decide +kernel) (show decode code 181 = .ok (.goto 185, 3) by decide +kernel) (by decide) (fun H1 locs1 la1 hI1 hl1 => k H1 locs1 la1 f yC yR hI1 q4 hl1)

set_option maxRecDepth 100000 in
set_option maxHeartbeats 4000000 in
theorem law_end_ (fx : LwFX l s D DR adC adR aC aR cA) {b L : Nat} {xs : Nat → Int32} (hL : L ≤ 3072) (C0 : lw_At p s m meth c b L xs) {H : Heap} {locs : List Loc} {cells slots i : Nat} {Q : State → Prop} {f : Nat → Int64} {xC xR : jm_X} {la : Array Slot} (hI : LwI l s D DR adC adR aC aR cA H locs f xC xR) (hrel : Rel xC xR) (hi : i + 6 ≤ L) (hce : cells ≤ 10000) (hsl : slots ≤ 7000000)
    (hl : lv_has la 7 [(4, .int (nI i)), (3, .ref (adC 700)), (2, .ref (adR 0)), (1, .ref (adC 0)), (0, .ref b)])
    (k : ∀ (H1 : Heap) (locs1 : List Loc) (la' : Array Slot) (f1 : Nat → Int64) (yC yR : jm_X), LwI l s D DR adC adR aC aR cA H1 locs1 f1 yC yR → Rel yC yR → lv_has la' 7 [(4, .int (nI i)), (3, .ref (adC 700)), (2, .ref (adR 0)), (1, .ref (adC 0)), (0, .ref b)] → W p l e room_1 s m #[Value.ref b] below meth c H1 locs1 (cells + 1) (slots + 20) Q (F0 m 366 la' [])) :
    W p l e room_1 s m #[Value.ref b] below meth c H locs cells slots Q (F0 m 184 la []) := by
  obtain ⟨hx, hb, hr, hml, hown, hts, hX, hbl, hlocks, hgv⟩ := id C0
  have hbA : ¬ (fun q : Nat => s.heap.size ≤ q) b := Nat.not_le.mpr hbl
  obtain ⟨q0, yC, yR, b2, r, q1, q2, q3, q4, q5, q6, q7⟩ := ans_ok (p_end (K := 20000) (g := gC 20000 0) (g' := gR 20000 0) (xs (i + 1)) hrel)
  refine lv_aload_n hx hb (show decode code 184 = .ok (.aload_n 1, 1) by decide +kernel) rfl (lv_at hl 3 rfl) ?_
  refine lv_aload_n hx hb (show decode code 185 = .ok (.aload_n 0, 1) by decide +kernel) rfl (lv_at hl 4 rfl) ?_
  refine lv_iload hx hb (show decode code 186 = .ok (.iload 4, 2) by decide +kernel) (lv_at hl 0 rfl) ?_
  refine lv_iconst (v := 1) hx hb (show decode code 188 = .ok (.iconst 1, 1) by decide +kernel) (by decide) ?_
  refine lv_iadd hx hb (show decode code 189 = .ok (.iadd, 1) by decide +kernel) ?_
  refine va_sld hx hb hX hbl hbA hI.2.2.2 (lw_in (i := i) (k := 1) (by omega) hL).1 (show decode code 190 = .ok (.iaload, 1) by decide +kernel) ?_
  rw [show (nI i + 1).toNatClampNeg = i + 1 from (lw_in (i := i) (k := 1) (by omega) hL).2]
  refine lv_aload_n hx hb (show decode code 191 = .ok (.aload_n 3, 1) by decide +kernel) rfl (lv_at hl 1 rfl) ?_
  refine lw_H (av := [.ref 0, .int (xs (i + 1)), .ref 700]) (rest := []) (d := 7) fx (lw_CC fx C0) (h_end (K := 20000) fx.okC fx.outC (xs (i + 1)) xC q1 q2 cA) (jm_Inv.stat (show decode code 192 = .ok (.invokestatic 43, 3) by decide +kernel) (Or.inl mk_L_end) mq_L_end mi_L mw_L_end mh_L_end ml_L_end) mw_L_end mi_L (by decide) (by decide) (by decide) (by omega) (by omega) hl.1 hI q6 (fun H locs f hI hf => ?_)
  refine lv_istore (lv' := [(5, .int r), (4, .int (nI i)), (3, .ref (adC 700)), (2, .ref (adR 0)), (1, .ref (adC 0)), (0, .ref b)]) hx hb (show decode code 195 = .ok (.istore 5, 2) by decide +kernel) hl (by decide) rfl (fun la hl => ?_)
  refine lv_aload_n hx hb (show decode code 197 = .ok (.aload_n 2, 1) by decide +kernel) rfl (lv_at hl 3 rfl) ?_
  refine lv_aload_n hx hb (show decode code 198 = .ok (.aload_n 0, 1) by decide +kernel) rfl (lv_at hl 5 rfl) ?_
  refine lv_iload hx hb (show decode code 199 = .ok (.iload 4, 2) by decide +kernel) (lv_at hl 1 rfl) ?_
  refine lv_iconst (v := 1) hx hb (show decode code 201 = .ok (.iconst 1, 1) by decide +kernel) (by decide) ?_
  refine lv_iadd hx hb (show decode code 202 = .ok (.iadd, 1) by decide +kernel) ?_
  refine va_sld hx hb hX hbl hbA hI.2.2.2 (lw_in (i := i) (k := 1) (by omega) hL).1 (show decode code 203 = .ok (.iaload, 1) by decide +kernel) ?_
  rw [show (nI i + 1).toNatClampNeg = i + 1 from (lw_in (i := i) (k := 1) (by omega) hL).2]
  have hcon : jm_Con (PRx l s DR adR aR) mt_M_end 2 [.ref 0, .int (xs (i + 1))] xR (rI b2 yR) := by rw [← q3]; exact c_M_end (d0 := 0) (K := 20000) (g := gR 20000 0) fx.okR (gR_ok 20000 fx.okR 0) _ xR
  refine lw_R (av := [.ref 0, .int (xs (i + 1))]) (rest := []) fx (lw_CR fx C0) hcon (jm_Inv.obj (o := 0) (ci := 0) (q := ("FilterReaderModel", T_M, 22)) (show decode code 204 = .ok (.invokevirtual 46, 3) by decide +kernel) (Or.inl mk_LM_end) mn_M_end ms_M_end mw_M_end mh_M_end ml_M_end rfl rfl) mw_M_end mi_M (by decide) (by decide) (by decide) (by omega) (by omega) hl.1 hI (fun H locs hI => ?_)
  exact law_tail (B := 207) (off := 129) fx C0 hI q5 (fun z => hf b2 (q7 z)) (by omega) (by omega) hl (show decode code 207 = .ok (.istore 6, 2) by decide +kernel) (show decode code 209 = .ok (.aload_n 2, 1) by decide +kernel) (show decode code 210 = .ok (.invokevirtual 40, 3) by decide +kernel) (show decode code 213 = .ok (.iload 5, 2) by decide +kernel) (show decode code 215 = .ok (.if_icmp .eq 5, 3) by decide +kernel) (show decode code 220 = .ok (.iload 5, 2) by decide +kernel) (show decode code 222 = .ok (.ifCond .ne 15, 3) by decide +kernel) (show decode code 225 = .ok (.aload_n 3, 1) by decide +kernel) (show decode code 226 = .ok (.iconst 0, 1) by decide +kernel) (show decode code 227 = .ok (.laload, 1) by decide +kernel) (show decode code 228 = .ok (.iload 6, 2) by decide +kernel) (show decode code 230 = .ok (.i2l, 1) by decide +kernel) (show decode code 231 = .ok (.lcmp, 1) by decide +kernel) (show decode code 232 = .ok (.ifCond .eq 5, 3) by decide +kernel) (show decode code 237 = .ok (.goto 129, 3) by decide +kernel) (by decide) (fun H1 locs1 la1 hI1 hl1 => k H1 locs1 la1 f yC yR hI1 q4 hl1)

set_option maxRecDepth 100000 in
set_option maxHeartbeats 4000000 in
theorem law_read (fx : LwFX l s D DR adC adR aC aR cA) {b L : Nat} {xs : Nat → Int32} (hL : L ≤ 3072) (C0 : lw_At p s m meth c b L xs) {H : Heap} {locs : List Loc} {cells slots i : Nat} {Q : State → Prop} {f : Nat → Int64} {xC xR : jm_X} {la : Array Slot} (hI : LwI l s D DR adC adR aC aR cA H locs f xC xR) (hrel : Rel xC xR) (hi : i + 6 ≤ L) (hce : cells ≤ 10000) (hsl : slots ≤ 7000000)
    (hl : lv_has la 7 [(4, .int (nI i)), (3, .ref (adC 700)), (2, .ref (adR 0)), (1, .ref (adC 0)), (0, .ref b)])
    (k : ∀ (H1 : Heap) (locs1 : List Loc) (la' : Array Slot) (f1 : Nat → Int64) (yC yR : jm_X), LwI l s D DR adC adR aC aR cA H1 locs1 f1 yC yR → Rel yC yR → lv_has la' 7 [(4, .int (nI i)), (3, .ref (adC 700)), (2, .ref (adR 0)), (1, .ref (adC 0)), (0, .ref b)] → W p l e room_1 s m #[Value.ref b] below meth c H1 locs1 (cells + 1) (slots + 20) Q (F0 m 366 la' [])) :
    W p l e room_1 s m #[Value.ref b] below meth c H locs cells slots Q (F0 m 240 la []) := by
  obtain ⟨hx, hb, hr, hml, hown, hts, hX, hbl, hlocks, hgv⟩ := id C0
  have hbA : ¬ (fun q : Nat => s.heap.size ≤ q) b := Nat.not_le.mpr hbl
  obtain ⟨q0, yC, yR, b2, r, q1, q2, q3, q4, q5, q6, q7⟩ := ans_ok (p_read (K := 20000) (Nat.le_refl _) hrel)
  refine lv_aload_n hx hb (show decode code 240 = .ok (.aload_n 1, 1) by decide +kernel) rfl (lv_at hl 3 rfl) ?_
  refine lv_aload_n hx hb (show decode code 241 = .ok (.aload_n 3, 1) by decide +kernel) rfl (lv_at hl 1 rfl) ?_
  refine lw_H (av := [.ref 0, .ref 700]) (rest := []) (d := 932) fx (lw_CC fx C0) (h_read (K := 20000) fx.okC fx.outC  xC q1 q2 cA) (jm_Inv.stat (show decode code 242 = .ok (.invokestatic 47, 3) by decide +kernel) (Or.inl mk_L_read) mq_L_read mi_L mw_L_read mh_L_read ml_L_read) mw_L_read mi_L (by decide) (by decide) (by decide) (by omega) (by omega) hl.1 hI q6 (fun H locs f hI hf => ?_)
  refine lv_istore (lv' := [(5, .int r), (4, .int (nI i)), (3, .ref (adC 700)), (2, .ref (adR 0)), (1, .ref (adC 0)), (0, .ref b)]) hx hb (show decode code 245 = .ok (.istore 5, 2) by decide +kernel) hl (by decide) rfl (fun la hl => ?_)
  refine lv_aload_n hx hb (show decode code 247 = .ok (.aload_n 2, 1) by decide +kernel) rfl (lv_at hl 3 rfl) ?_
  have hcon : jm_Con (PRx l s DR adR aR) mt_M_read 1117 [.ref 0] xR (rI b2 yR) := by rw [← q3]; exact cR_read 20000 fx.okR xR
  refine lw_R (av := [.ref 0]) (rest := []) fx (lw_CR fx C0) hcon (jm_Inv.obj (o := 0) (ci := 0) (q := ("FilterReaderModel", T_M, 22)) (show decode code 248 = .ok (.invokevirtual 50, 3) by decide +kernel) (Or.inl mk_LM_read) mn_M_read ms_M_read mw_M_read mh_M_read ml_M_read rfl rfl) mw_M_read mi_M (by decide) (by decide) (by decide) (by omega) (by omega) hl.1 hI (fun H locs hI => ?_)
  exact law_tail (B := 251) (off := 85) fx C0 hI q5 (fun z => hf b2 (q7 z)) (by omega) (by omega) hl (show decode code 251 = .ok (.istore 6, 2) by decide +kernel) (show decode code 253 = .ok (.aload_n 2, 1) by decide +kernel) (show decode code 254 = .ok (.invokevirtual 40, 3) by decide +kernel) (show decode code 257 = .ok (.iload 5, 2) by decide +kernel) (show decode code 259 = .ok (.if_icmp .eq 5, 3) by decide +kernel) (show decode code 264 = .ok (.iload 5, 2) by decide +kernel) (show decode code 266 = .ok (.ifCond .ne 15, 3) by decide +kernel) (show decode code 269 = .ok (.aload_n 3, 1) by decide +kernel) (show decode code 270 = .ok (.iconst 0, 1) by decide +kernel) (show decode code 271 = .ok (.laload, 1) by decide +kernel) (show decode code 272 = .ok (.iload 6, 2) by decide +kernel) (show decode code 274 = .ok (.i2l, 1) by decide +kernel) (show decode code 275 = .ok (.lcmp, 1) by decide +kernel) (show decode code 276 = .ok (.ifCond .eq 5, 3) by decide +kernel) (show decode code 281 = .ok (.goto 85, 3) by decide +kernel) (by decide) (fun H1 locs1 la1 hI1 hl1 => k H1 locs1 la1 f yC yR hI1 q4 hl1)

set_option maxRecDepth 100000 in
set_option maxHeartbeats 4000000 in
theorem law_many (fx : LwFX l s D DR adC adR aC aR cA) {b L : Nat} {xs : Nat → Int32} (hL : L ≤ 3072) (C0 : lw_At p s m meth c b L xs) {H : Heap} {locs : List Loc} {cells slots i : Nat} {Q : State → Prop} {f : Nat → Int64} {xC xR : jm_X} {la : Array Slot} (hI : LwI l s D DR adC adR aC aR cA H locs f xC xR) (hrel : Rel xC xR) (hi : i + 6 ≤ L) (hce : cells ≤ 10000) (hsl : slots ≤ 7000000)
    (hl : lv_has la 7 [(4, .int (nI i)), (3, .ref (adC 700)), (2, .ref (adR 0)), (1, .ref (adC 0)), (0, .ref b)])
    (k : ∀ (H1 : Heap) (locs1 : List Loc) (la' : Array Slot) (f1 : Nat → Int64) (yC yR : jm_X), LwI l s D DR adC adR aC aR cA H1 locs1 f1 yC yR → Rel yC yR → lv_has la' 7 [(4, .int (nI i)), (3, .ref (adC 700)), (2, .ref (adR 0)), (1, .ref (adC 0)), (0, .ref b)] → W p l e room_1 s m #[Value.ref b] below meth c H1 locs1 (cells + 1) (slots + 20) Q (F0 m 366 la' [])) :
    W p l e room_1 s m #[Value.ref b] below meth c H locs cells slots Q (F0 m 284 la []) := by
  obtain ⟨hx, hb, hr, hml, hown, hts, hX, hbl, hlocks, hgv⟩ := id C0
  have hbA : ¬ (fun q : Nat => s.heap.size ≤ q) b := Nat.not_le.mpr hbl
  obtain ⟨q0, yC, yR, b2, r, q1, q2, q3, q4, q5, q6, q7⟩ := ans_ok (p_many (K := 20000) (g := gC 20000 0) (g' := gR 20000 0) (xs (i + 1)) hrel)
  refine lv_aload_n hx hb (show decode code 284 = .ok (.aload_n 1, 1) by decide +kernel) rfl (lv_at hl 3 rfl) ?_
  refine lv_aload_n hx hb (show decode code 285 = .ok (.aload_n 0, 1) by decide +kernel) rfl (lv_at hl 4 rfl) ?_
  refine lv_iload hx hb (show decode code 286 = .ok (.iload 4, 2) by decide +kernel) (lv_at hl 0 rfl) ?_
  refine lv_iconst (v := 1) hx hb (show decode code 288 = .ok (.iconst 1, 1) by decide +kernel) (by decide) ?_
  refine lv_iadd hx hb (show decode code 289 = .ok (.iadd, 1) by decide +kernel) ?_
  refine va_sld hx hb hX hbl hbA hI.2.2.2 (lw_in (i := i) (k := 1) (by omega) hL).1 (show decode code 290 = .ok (.iaload, 1) by decide +kernel) ?_
  rw [show (nI i + 1).toNatClampNeg = i + 1 from (lw_in (i := i) (k := 1) (by omega) hL).2]
  refine lv_aload_n hx hb (show decode code 291 = .ok (.aload_n 3, 1) by decide +kernel) rfl (lv_at hl 1 rfl) ?_
  refine lw_H (av := [.ref 0, .int (xs (i + 1)), .ref 700]) (rest := []) (d := 7) fx (lw_CC fx C0) (h_many (K := 20000) fx.okC fx.outC (xs (i + 1)) xC q1 q2 cA) (jm_Inv.stat (show decode code 292 = .ok (.invokestatic 51, 3) by decide +kernel) (Or.inl mk_L_many) mq_L_many mi_L mw_L_many mh_L_many ml_L_many) mw_L_many mi_L (by decide) (by decide) (by decide) (by omega) (by omega) hl.1 hI q6 (fun H locs f hI hf => ?_)
  refine lv_istore (lv' := [(5, .int r), (4, .int (nI i)), (3, .ref (adC 700)), (2, .ref (adR 0)), (1, .ref (adC 0)), (0, .ref b)]) hx hb (show decode code 295 = .ok (.istore 5, 2) by decide +kernel) hl (by decide) rfl (fun la hl => ?_)
  refine lv_aload_n hx hb (show decode code 297 = .ok (.aload_n 2, 1) by decide +kernel) rfl (lv_at hl 3 rfl) ?_
  refine lv_aload_n hx hb (show decode code 298 = .ok (.aload_n 0, 1) by decide +kernel) rfl (lv_at hl 5 rfl) ?_
  refine lv_iload hx hb (show decode code 299 = .ok (.iload 4, 2) by decide +kernel) (lv_at hl 1 rfl) ?_
  refine lv_iconst (v := 1) hx hb (show decode code 301 = .ok (.iconst 1, 1) by decide +kernel) (by decide) ?_
  refine lv_iadd hx hb (show decode code 302 = .ok (.iadd, 1) by decide +kernel) ?_
  refine va_sld hx hb hX hbl hbA hI.2.2.2 (lw_in (i := i) (k := 1) (by omega) hL).1 (show decode code 303 = .ok (.iaload, 1) by decide +kernel) ?_
  rw [show (nI i + 1).toNatClampNeg = i + 1 from (lw_in (i := i) (k := 1) (by omega) hL).2]
  have hcon : jm_Con (PRx l s DR adR aR) mt_M_many 2 [.ref 0, .int (xs (i + 1))] xR (rI b2 yR) := by rw [← q3]; exact c_M_many (d0 := 0) (K := 20000) (g := gR 20000 0) fx.okR (gR_ok 20000 fx.okR 0) _ xR
  refine lw_R (av := [.ref 0, .int (xs (i + 1))]) (rest := []) fx (lw_CR fx C0) hcon (jm_Inv.obj (o := 0) (ci := 0) (q := ("FilterReaderModel", T_M, 22)) (show decode code 304 = .ok (.invokevirtual 53, 3) by decide +kernel) (Or.inl mk_LM_many) mn_M_many ms_M_many mw_M_many mh_M_many ml_M_many rfl rfl) mw_M_many mi_M (by decide) (by decide) (by decide) (by omega) (by omega) hl.1 hI (fun H locs hI => ?_)
  exact law_tail (B := 307) (off := 29) fx C0 hI q5 (fun z => hf b2 (q7 z)) (by omega) (by omega) hl (show decode code 307 = .ok (.istore 6, 2) by decide +kernel) (show decode code 309 = .ok (.aload_n 2, 1) by decide +kernel) (show decode code 310 = .ok (.invokevirtual 40, 3) by decide +kernel) (show decode code 313 = .ok (.iload 5, 2) by decide +kernel) (show decode code 315 = .ok (.if_icmp .eq 5, 3) by decide +kernel) (show decode code 320 = .ok (.iload 5, 2) by decide +kernel) (show decode code 322 = .ok (.ifCond .ne 15, 3) by decide +kernel) (show decode code 325 = .ok (.aload_n 3, 1) by decide +kernel) (show decode code 326 = .ok (.iconst 0, 1) by decide +kernel) (show decode code 327 = .ok (.laload, 1) by decide +kernel) (show decode code 328 = .ok (.iload 6, 2) by decide +kernel) (show decode code 330 = .ok (.i2l, 1) by decide +kernel) (show decode code 331 = .ok (.lcmp, 1) by decide +kernel) (show decode code 332 = .ok (.ifCond .eq 5, 3) by decide +kernel) (show decode code 337 = .ok (.goto 29, 3) by decide +kernel) (by decide) (fun H1 locs1 la1 hI1 hl1 => k H1 locs1 la1 f yC yR hI1 q4 hl1)

set_option maxRecDepth 100000 in
theorem law_place (fx : LwFX l s D DR adC adR aC aR cA) {b L : Nat} {xs : Nat → Int32} (C0 : lw_At p s m meth c b L xs) {H : Heap} {locs : List Loc} {cells slots i : Nat} {Q : State → Prop} {f : Nat → Int64} {xC xR : jm_X} {la : Array Slot} (hI : LwI l s D DR adC adR aC aR cA H locs f xC xR) (hrel : Rel xC xR) (hce : cells ≤ 10000) (hsl : slots ≤ 7000000)
    (hl : lv_has la 7 [(4, .int (nI i)), (3, .ref (adC 700)), (2, .ref (adR 0)), (1, .ref (adC 0)), (0, .ref b)])
    (k : ∀ (H1 : Heap) (locs1 : List Loc) (la' : Array Slot) (f1 : Nat → Int64) (yC yR : jm_X), LwI l s D DR adC adR aC aR cA H1 locs1 f1 yC yR → Rel yC yR → lv_has la' 7 [(4, .int (nI i)), (3, .ref (adC 700)), (2, .ref (adR 0)), (1, .ref (adC 0)), (0, .ref b)] → W p l e room_1 s m #[Value.ref b] below meth c H1 locs1 (cells + 1) (slots + 20) Q (F0 m 366 la' [])) :
    W p l e room_1 s m #[Value.ref b] below meth c H locs cells slots Q (F0 m 340 la []) := by
  obtain ⟨hx, hb, hr, hml, hown, hts, hX, hbl, hlocks, hgv⟩ := id C0
  obtain ⟨yR, v, q1, q2, q3⟩ := p_place (K := 20000) (g := gC 20000 0) (g' := gR 20000 0) hrel
  have hconC : jm_Con (PCx l s D adC aC) mt_FR_place 2 [.ref 0] xC (rI v xC) := by rw [← q1]; exact c_FR_place (d0 := 0) (K := 20000) (g := gC 20000 0) fx.okC (gC_ok 20000 fx.okC 0) xC
  have hconR : jm_Con (PRx l s DR adR aR) mt_M_place 1 [.ref 0] xR (rI v yR) := by rw [← q2]; exact c_M_place (d0 := 0) (K := 20000) (g := gR 20000 0) fx.okR (gR_ok 20000 fx.okR 0) xR
  refine lv_aload_n hx hb (show decode code 340 = .ok (.aload_n 1, 1) by decide +kernel) rfl (lv_at hl 3 rfl) ?_
  refine lw_C (av := [.ref 0]) (rest := []) fx (lw_CC fx C0) hconC (jm_Inv.obj (o := 0) (ci := 0) (q := ("FilterReader", T_FR, 3)) (show decode code 341 = .ok (.invokevirtual 54, 3) by decide +kernel) (Or.inl mk_LF_place) mn_FR_place ms_FR_place mw_FR_place mh_FR_place ml_FR_place rfl rfl) mw_FR_place mi_FR (by decide) (by decide) (by decide) (by omega) (by omega) hl.1 hI (fun H locs hI => ?_)
  refine lv_aload_n hx hb (show decode code 344 = .ok (.aload_n 2, 1) by decide +kernel) rfl (lv_at hl 2 rfl) ?_
  refine lw_R (av := [.ref 0]) (rest := [.int v]) fx (lw_CR fx C0) hconR (jm_Inv.obj (o := 0) (ci := 0) (q := ("FilterReaderModel", T_M, 22)) (show decode code 345 = .ok (.invokevirtual 57, 3) by decide +kernel) (Or.inl mk_LM_place) mn_M_place ms_M_place mw_M_place mh_M_place ml_M_place rfl rfl) mw_M_place mi_M (Nat.le_of_ble_eq_true rfl) (by decide) (by decide) (by omega) (by omega) hl.1 hI (fun H locs hI => ?_)
  refine lv_icmp_eq (tgt := 366) hx hb (show decode code 348 = .ok (.if_icmp .eq 18, 3) by decide +kernel) (by decide) (fun _ => ?_) (fun hz => absurd rfl hz)
  refine W.widen (k := cells + 1) (n := slots + 20) (by omega) (by omega) ?_
  exact k H locs la f xC yR hI q3 hl

set_option maxRecDepth 100000 in
theorem law_taped (fx : LwFX l s D DR adC adR aC aR cA) {b L : Nat} {xs : Nat → Int32} (C0 : lw_At p s m meth c b L xs) {H : Heap} {locs : List Loc} {cells slots i : Nat} {Q : State → Prop} {f : Nat → Int64} {xC xR : jm_X} {la : Array Slot} (hI : LwI l s D DR adC adR aC aR cA H locs f xC xR) (hrel : Rel xC xR) (hce : cells ≤ 10000) (hsl : slots ≤ 7000000)
    (hl : lv_has la 7 [(4, .int (nI i)), (3, .ref (adC 700)), (2, .ref (adR 0)), (1, .ref (adC 0)), (0, .ref b)])
    (k : ∀ (H1 : Heap) (locs1 : List Loc) (la' : Array Slot) (f1 : Nat → Int64) (yC yR : jm_X), LwI l s D DR adC adR aC aR cA H1 locs1 f1 yC yR → Rel yC yR → lv_has la' 7 [(4, .int (nI i)), (3, .ref (adC 700)), (2, .ref (adR 0)), (1, .ref (adC 0)), (0, .ref b)] → W p l e room_1 s m #[Value.ref b] below meth c H1 locs1 (cells + 1) (slots + 20) Q (F0 m 366 la' [])) :
    W p l e room_1 s m #[Value.ref b] below meth c H locs cells slots Q (F0 m 353 la []) := by
  obtain ⟨hx, hb, hr, hml, hown, hts, hX, hbl, hlocks, hgv⟩ := id C0
  obtain ⟨yR, v, q1, q2, q3⟩ := p_taped (K := 20000) (g := gC 20000 0) (g' := gR 20000 0) hrel
  have hconC : jm_Con (PCx l s D adC aC) mt_FR_taped 1 [.ref 0] xC (rI v xC) := by rw [← q1]; exact c_FR_taped (d0 := 0) (K := 20000) (g := gC 20000 0) fx.okC (gC_ok 20000 fx.okC 0) xC
  have hconR : jm_Con (PRx l s DR adR aR) mt_M_taped 1 [.ref 0] xR (rI v yR) := by rw [← q2]; exact c_M_taped (d0 := 0) (K := 20000) (g := gR 20000 0) fx.okR (gR_ok 20000 fx.okR 0) xR
  refine lv_aload_n hx hb (show decode code 353 = .ok (.aload_n 1, 1) by decide +kernel) rfl (lv_at hl 3 rfl) ?_
  refine lw_C (av := [.ref 0]) (rest := []) fx (lw_CC fx C0) hconC (jm_Inv.obj (o := 0) (ci := 0) (q := ("FilterReader", T_FR, 3)) (show decode code 354 = .ok (.invokevirtual 58, 3) by decide +kernel) (Or.inl mk_LF_taped) mn_FR_taped ms_FR_taped mw_FR_taped mh_FR_taped ml_FR_taped rfl rfl) mw_FR_taped mi_FR (by decide) (by decide) (by decide) (by omega) (by omega) hl.1 hI (fun H locs hI => ?_)
  refine lv_aload_n hx hb (show decode code 357 = .ok (.aload_n 2, 1) by decide +kernel) rfl (lv_at hl 2 rfl) ?_
  refine lw_R (av := [.ref 0]) (rest := [.int v]) fx (lw_CR fx C0) hconR (jm_Inv.obj (o := 0) (ci := 0) (q := ("FilterReaderModel", T_M, 22)) (show decode code 358 = .ok (.invokevirtual 61, 3) by decide +kernel) (Or.inl mk_LM_taped) mn_M_taped ms_M_taped mw_M_taped mh_M_taped ml_M_taped rfl rfl) mw_M_taped mi_M (Nat.le_of_ble_eq_true rfl) (by decide) (by decide) (by omega) (by omega) hl.1 hI (fun H locs hI => ?_)
  refine lv_icmp_eq (tgt := 366) hx hb (show decode code 361 = .ok (.if_icmp .eq 5, 3) by decide +kernel) (by decide) (fun _ => ?_) (fun hz => absurd rfl hz)
  refine W.widen (k := cells + 1) (n := slots + 20) (by omega) (by omega) ?_
  exact k H locs la f xC yR hI q3 hl

theorem sub6 {L i : Nat} (hL : L ≤ 3072) (hi : i ≤ L) (h : ¬ (nI L - 6 : Int32) < nI i) : i + 6 ≤ L := by
  by_cases h6 : 6 ≤ L
  · rw [show (6 : Int32) = nI 6 from rfl, pu_sub h6] at h
    by_cases hz : L - 6 < i
    · exact absurd (nI_lt hz (by omega)) h
    · omega
  · exfalso
    apply h
    have : L = 0 ∨ L = 1 ∨ L = 2 ∨ L = 3 ∨ L = 4 ∨ L = 5 := by omega
    have hi5 : i = 0 ∨ i = 1 ∨ i = 2 ∨ i = 3 ∨ i = 4 ∨ i = 5 := by omega
    rcases this with rfl | rfl | rfl | rfl | rfl | rfl <;> rcases hi5 with rfl | rfl | rfl | rfl | rfl | rfl <;> first | decide | omega
set_option maxRecDepth 100000 in
set_option maxHeartbeats 4000000 in
theorem law_loop (fx : LwFX l s D DR adC adR aC aR cA) {b L : Nat} {xs : Nat → Int32} (hL : L ≤ 3072) (C0 : lw_At p s m meth c b L xs) : ∀ (n i : Nat) (H : Heap) (locs : List Loc) (cells slots : Nat) (f : Nat → Int64) (xC xR : jm_X) (la : Array Slot), i ≤ L → L < i + n → cells ≤ 100 + i → slots ≤ 200000 + 20 * i → LwI l s D DR adC adR aC aR cA H locs f xC xR → Rel xC xR →
    lv_has la 7 [(4, .int (nI i)), (3, .ref (adC 700)), (2, .ref (adR 0)), (1, .ref (adC 0)), (0, .ref b)] → W p l e room_1 s m #[Value.ref b] below meth c H locs cells slots (lw_Z below #[Value.ref b] s) (F0 m 23 la [])
  | 0, i, H, locs, cells, slots, f, xC, xR, la, hi, hn, _, _, _, _, _ => absurd hn (by omega)
  | n + 1, i, H, locs, cells, slots, f, xC, xR, la, hi, hn, hce, hsl, hI, hrel, hl => by
    obtain ⟨hx, hb, hr, hml, hown, hts, hX, hbl, hlocks, hgv⟩ := id C0
    have hbA : ¬ (fun q : Nat => s.heap.size ≤ q) b := Nat.not_le.mpr hbl
    refine lv_iload hx hb (show decode code 23 = .ok (.iload 4, 2) by decide +kernel) (lv_at hl 0 rfl) ?_
    refine lv_aload_n hx hb (show decode code 25 = .ok (.aload_n 0, 1) by decide +kernel) rfl (lv_at hl 4 rfl) ?_
    refine va_slen hx hb hX hbl hbA hI.2.2.2 (show decode code 26 = .ok (.arraylength, 1) by decide +kernel) ?_
    refine lv_bipush (v := 6) hx hb (show decode code 27 = .ok (.bipush 6, 2) by decide +kernel) (by decide) ?_
    refine lv_isub hx hb (show decode code 29 = .ok (.isub, 1) by decide +kernel) ?_
    refine lv_icmp_gt (tgt := 372) hx hb (show decode code 30 = .ok (.if_icmp .gt 342, 3) by decide +kernel) (by decide) (fun _ => law_end fx C0 hI.2.2.2 (by omega) (by omega)) (fun hge => ?_)
    have h6 : i + 6 ≤ L := sub6 hL hi hge
    have next : ∀ (H1 : Heap) (locs1 : List Loc) (la' : Array Slot) (f1 : Nat → Int64) (yC yR : jm_X), LwI l s D DR adC adR aC aR cA H1 locs1 f1 yC yR → Rel yC yR → lv_has la' 7 [(4, .int (nI i)), (3, .ref (adC 700)), (2, .ref (adR 0)), (1, .ref (adC 0)), (0, .ref b)] → W p l e room_1 s m #[Value.ref b] below meth c H1 locs1 (cells + 1) (slots + 20) (lw_Z below #[Value.ref b] s) (F0 m 366 la' []) := by
      intro H1 locs1 la' f1 yC yR hI1 hrel1 hl1
      refine lv_iinc (v := nI (i + 6)) (lv' := [(4, .int (nI (i + 6))), (3, .ref (adC 700)), (2, .ref (adR 0)), (1, .ref (adC 0)), (0, .ref b)]) hx hb (show decode code 366 = .ok (.iinc 4 6, 3) by decide +kernel) hl1 (k := 0) rfl (Int32.ofNat_add i 6).symm (by decide) rfl (fun la2 hl2 => ?_)
      refine lv_goto (tgt := 23) hx hb (show decode code 369 = .ok (.goto (-346), 3) by decide +kernel) (by decide) ?_
      exact law_loop fx hL C0 n (i + 6) H1 locs1 (cells + 1) (slots + 20) f1 yC yR la2 (by omega) (by omega) (by omega) (by omega) hI1 hrel1 hl2
    refine lv_aload_n hx hb (show decode code 33 = .ok (.aload_n 0, 1) by decide +kernel) rfl (lv_at hl 4 rfl) ?_
    refine lv_iload hx hb (show decode code 34 = .ok (.iload 4, 2) by decide +kernel) (lv_at hl 0 rfl) ?_
    refine va_sld hx hb hX hbl hbA hI.2.2.2 (vp_in_nI (show i < L by omega) (by omega)) (show decode code 36 = .ok (.iaload, 1) by decide +kernel) ?_
    refine lv_bipush (v := 7) hx hb (show decode code 37 = .ok (.bipush 7, 2) by decide +kernel) (by decide) ?_
    refine lv_iand hx hb (show decode code 39 = .ok (.iand, 1) by decide +kernel) ?_
    generalize xs (nI i).toNatClampNeg &&& 7 = v
    have hd40 : decode code 40 = .ok (.tableswitch 326 0 5 #[40, 144, 200, 244, 300, 313], 40) := by decide +kernel
    by_cases hout : v.toInt < 0 ∨ 5 < v.toInt
    · refine lv_tableOut (tgt := 366) hx hb hd40 hout (by decide) ?_
      refine W.widen (k := cells + 1) (n := slots + 20) (by omega) (by omega) ?_
      exact next H locs la f xC xR hI hrel hl
    · have h0 : ¬ v.toInt < 0 := fun z => hout (Or.inl z)
      have h5 : ¬ 5 < v.toInt := fun z => hout (Or.inr z)
      have hcases : v.toInt = 0 ∨ v.toInt = 1 ∨ v.toInt = 2 ∨ v.toInt = 3 ∨ v.toInt = 4 ∨ v.toInt = 5 := by omega
      rcases hcases with hv | hv | hv | hv | hv | hv
      · exact lv_tableIn (off := 40) (tgt := 80) hx hb hd40 h0 h5 (by rw [hv]; rfl) (by decide) (law_feed fx hL C0 hI hrel h6 (by omega) (by omega) hl next)
      · exact lv_tableIn (off := 144) (tgt := 184) hx hb hd40 h0 h5 (by rw [hv]; rfl) (by decide) (law_end_ fx hL C0 hI hrel h6 (by omega) (by omega) hl next)
      · exact lv_tableIn (off := 200) (tgt := 240) hx hb hd40 h0 h5 (by rw [hv]; rfl) (by decide) (law_read fx hL C0 hI hrel h6 (by omega) (by omega) hl next)
      · exact lv_tableIn (off := 244) (tgt := 284) hx hb hd40 h0 h5 (by rw [hv]; rfl) (by decide) (law_many fx hL C0 hI hrel h6 (by omega) (by omega) hl next)
      · exact lv_tableIn (off := 300) (tgt := 340) hx hb hd40 h0 h5 (by rw [hv]; rfl) (by decide) (law_place fx C0 hI hrel (by omega) (by omega) hl next)
      · exact lv_tableIn (off := 313) (tgt := 353) hx hb hd40 h0 h5 (by rw [hv]; rfl) (by decide) (law_taped fx C0 hI hrel (by omega) (by omega) hl next)
end LW3

/-! THE REFERENCE: classes, shapes, words, links. Printed by wip/whole/printR.py. -/
def T_M : u_T := fun k => match k with
  | 0 => ("FilterReaderModel", "words", "[Ljava/lang/String;", true)
  | 1 => ("FilterReaderModel", "none", "Ljava/lang/String;", true)
  | 2 => ("FilterReaderModel", "one", "Ljava/lang/String;", true)
  | 3 => ("FilterReaderModel", "two", "Ljava/lang/String;", true)
  | 4 => ("FilterReaderModel", "broken", "Ljava/lang/IllegalStateException;", true)
  | 5 => ("FilterReaderModel", "thrown", "I", false)
  | 6 => ("FilterReaderModel", "taped", "I", false)
  | 7 => ("FilterReaderModel", "place", "I", false)
  | 8 => ("FilterReaderModel", "n", "I", false)
  | 9 => ("FilterReaderModel", "at", "I", false)
  | 10 => ("FilterReaderModel", "behind", "I", false)
  | 11 => ("FilterReaderModel", "token", "I", false)
  | 12 => ("FilterReaderModel", "open", "I", false)
  | 13 => ("FilterReaderModel", "tape", "[B", true)
  | 14 => ("FilterReaderModel", "many", "[I", true)
  | 15 => ("FilterReaderModel", "known", "I", false)
  | 16 => ("FilterReaderModel", "what", "[I", true)
  | 17 => ("FilterReaderModel", "where", "[I", true)
  | 18 => ("FilterReaderModel", "size", "[I", true)
  | 19 => ("FilterReaderModel", "parameters", "[I", true)
  | 20 => ("FilterReaderModel", "later", "[Z", true)
  | _ => ("FilterReaderModel", "patterned", "I", false)
def ty_M : Nat → FieldType := fun k => match k with
  | 0 => (.array (.object "java/lang/String"))
  | 1 => (.object "java/lang/String")
  | 2 => (.object "java/lang/String")
  | 3 => (.object "java/lang/String")
  | 4 => (.object "java/lang/IllegalStateException")
  | 5 => .int
  | 6 => .int
  | 7 => .int
  | 8 => .int
  | 9 => .int
  | 10 => .int
  | 11 => .int
  | 12 => .int
  | 13 => (.array .byte)
  | 14 => (.array .int)
  | 15 => .int
  | 16 => (.array .int)
  | 17 => (.array .int)
  | 18 => (.array .int)
  | 19 => (.array .int)
  | 20 => (.array .boolean)
  | _ => .int
set_option maxRecDepth 100000 in
theorem tk_M_nm : ∀ a, a < 22 → ∀ b, b < 22 → a ≠ b → (T_M a).2.1 ≠ (T_M b).2.1 := by decide +kernel
theorem tk_M_ty : ∀ k, k < 22 → parseFieldDescriptor (T_M k).2.2.1 = some (ty_M k) := by decide +kernel
theorem wi_M : ∀ w ∈ u_ws "FilterReaderModel" T_M 22, w ∈ Tall := tl (by decide +kernel) (by decide +kernel)
def T_X : u_T := fun _ => ("", "", "", false)
def wdR : List Nat := [2003, 2004, 2005, 2006, 2007, 2008, 2009, 2010, 2011, 2012, 2013, 2014, 2015, 2016, 2017]
abbrev clR : List vw_C := [("FilterReaderModel", T_M, 22), ("java/lang/IllegalStateException", T_X, 0)]
abbrev shR : List jm_S := [.inr (.inr (0, [3, 2020, 2021, 2022, 4, 0, 0, 0, 0, 0, 0, 0, 0, 5, 6, 0, 7, 8, 9, 10, 11, 0])), .inr (.inl ("java/lang/String", wdR)), .inr (.inr (1, [])), .inl (.byte, 16384), .inl (.int, 34), .inl (.int, 17000), .inl (.int, 17000), .inl (.int, 17000), .inl (.int, 17000), .inl (.boolean, 17000)]
abbrev mt_M_thrown : jm_M := (⟨"FilterReaderModel", "thrown", "()I"⟩, prog_11_method_2_code, 1, (some .int), [])
theorem mw_M_thrown : jm_cw mt_M_thrown ∈ Tall := tw4 89 rfl rfl
theorem mh_M_thrown : mt_M_thrown.1.cls ≠ "java/lang/invoke/MethodHandle" ∧ mt_M_thrown.1.cls ≠ "java/lang/invoke/VarHandle" := by decide +kernel
theorem ml_M_thrown : (parseMethodDescriptor mt_M_thrown.1.desc).map (fun q => q.parameters.length) = some 0 := by decide +kernel
theorem mn_M_thrown : Cond.instanceMethod mt_M_thrown.1 ∈ Tall := tw4 87 rfl rfl
theorem ms_M_thrown : Cond.selects "FilterReaderModel" mt_M_thrown.1 mt_M_thrown.1 ∈ Tall := tw4 88 rfl rfl
abbrev mt_M_fail : jm_M := (⟨"FilterReaderModel", "fail", "(I)I"⟩, prog_11_method_3_code, 2, (some .int), [])
theorem mw_M_fail : jm_cw mt_M_fail ∈ Tall := tw4 97 rfl rfl
theorem mh_M_fail : mt_M_fail.1.cls ≠ "java/lang/invoke/MethodHandle" ∧ mt_M_fail.1.cls ≠ "java/lang/invoke/VarHandle" := by decide +kernel
theorem ml_M_fail : (parseMethodDescriptor mt_M_fail.1.desc).map (fun q => q.parameters.length) = some 1 := by decide +kernel
theorem mn_M_fail : Cond.instanceMethod mt_M_fail.1 ∈ Tall := tw4 96 rfl rfl
theorem ms_M_fail : Cond.selects "FilterReaderModel" mt_M_fail.1 mt_M_fail.1 ∈ Tall := tp 47 rfl rfl
abbrev mt_M_four : jm_M := (⟨"FilterReaderModel", "four", "(I)V"⟩, prog_11_method_4_code, 3, none, [])
theorem mw_M_four : jm_cw mt_M_four ∈ Tall := tw4 101 rfl rfl
theorem mh_M_four : mt_M_four.1.cls ≠ "java/lang/invoke/MethodHandle" ∧ mt_M_four.1.cls ≠ "java/lang/invoke/VarHandle" := by decide +kernel
theorem ml_M_four : (parseMethodDescriptor mt_M_four.1.desc).map (fun q => q.parameters.length) = some 1 := by decide +kernel
theorem mn_M_four : Cond.instanceMethod mt_M_four.1 ∈ Tall := tw4 100 rfl rfl
theorem ms_M_four : Cond.selects "FilterReaderModel" mt_M_four.1 mt_M_four.1 ∈ Tall := tp 48 rfl rfl
abbrev mt_M_feed : jm_M := (⟨"FilterReaderModel", "feed", "(IIIII)I"⟩, prog_11_method_5_code, 6, (some .int), [])
theorem mw_M_feed : jm_cw mt_M_feed ∈ Tall := tw4 93 rfl rfl
theorem mh_M_feed : mt_M_feed.1.cls ≠ "java/lang/invoke/MethodHandle" ∧ mt_M_feed.1.cls ≠ "java/lang/invoke/VarHandle" := by decide +kernel
theorem ml_M_feed : (parseMethodDescriptor mt_M_feed.1.desc).map (fun q => q.parameters.length) = some 5 := by decide +kernel
theorem mn_M_feed : Cond.instanceMethod mt_M_feed.1 ∈ Tall := tw4 91 rfl rfl
theorem ms_M_feed : Cond.selects "FilterReaderModel" mt_M_feed.1 mt_M_feed.1 ∈ Tall := tw4 92 rfl rfl
abbrev mt_M_end : jm_M := (⟨"FilterReaderModel", "end", "(I)I"⟩, prog_11_method_6_code, 2, (some .int), [])
theorem mw_M_end : jm_cw mt_M_end ∈ Tall := tw4 105 rfl rfl
theorem mh_M_end : mt_M_end.1.cls ≠ "java/lang/invoke/MethodHandle" ∧ mt_M_end.1.cls ≠ "java/lang/invoke/VarHandle" := by decide +kernel
theorem ml_M_end : (parseMethodDescriptor mt_M_end.1.desc).map (fun q => q.parameters.length) = some 1 := by decide +kernel
theorem mn_M_end : Cond.instanceMethod mt_M_end.1 ∈ Tall := tw4 103 rfl rfl
theorem ms_M_end : Cond.selects "FilterReaderModel" mt_M_end.1 mt_M_end.1 ∈ Tall := tw4 104 rfl rfl
abbrev mt_M_many : jm_M := (⟨"FilterReaderModel", "many", "(I)I"⟩, prog_11_method_7_code, 2, (some .int), [])
theorem mw_M_many : jm_cw mt_M_many ∈ Tall := tw4 109 rfl rfl
theorem mh_M_many : mt_M_many.1.cls ≠ "java/lang/invoke/MethodHandle" ∧ mt_M_many.1.cls ≠ "java/lang/invoke/VarHandle" := by decide +kernel
theorem ml_M_many : (parseMethodDescriptor mt_M_many.1.desc).map (fun q => q.parameters.length) = some 1 := by decide +kernel
theorem mn_M_many : Cond.instanceMethod mt_M_many.1 ∈ Tall := tw4 107 rfl rfl
theorem ms_M_many : Cond.selects "FilterReaderModel" mt_M_many.1 mt_M_many.1 ∈ Tall := tw4 108 rfl rfl
abbrev mt_M_place : jm_M := (⟨"FilterReaderModel", "place", "()I"⟩, prog_11_method_8_code, 1, (some .int), [])
theorem mw_M_place : jm_cw mt_M_place ∈ Tall := tw4 113 rfl rfl
theorem mh_M_place : mt_M_place.1.cls ≠ "java/lang/invoke/MethodHandle" ∧ mt_M_place.1.cls ≠ "java/lang/invoke/VarHandle" := by decide +kernel
theorem ml_M_place : (parseMethodDescriptor mt_M_place.1.desc).map (fun q => q.parameters.length) = some 0 := by decide +kernel
theorem mn_M_place : Cond.instanceMethod mt_M_place.1 ∈ Tall := tw4 111 rfl rfl
theorem ms_M_place : Cond.selects "FilterReaderModel" mt_M_place.1 mt_M_place.1 ∈ Tall := tw4 112 rfl rfl
abbrev mt_M_taped : jm_M := (⟨"FilterReaderModel", "taped", "()I"⟩, prog_11_method_9_code, 1, (some .int), [])
theorem mw_M_taped : jm_cw mt_M_taped ∈ Tall := tw4 117 rfl rfl
theorem mh_M_taped : mt_M_taped.1.cls ≠ "java/lang/invoke/MethodHandle" ∧ mt_M_taped.1.cls ≠ "java/lang/invoke/VarHandle" := by decide +kernel
theorem ml_M_taped : (parseMethodDescriptor mt_M_taped.1.desc).map (fun q => q.parameters.length) = some 0 := by decide +kernel
theorem mn_M_taped : Cond.instanceMethod mt_M_taped.1 ∈ Tall := tw4 115 rfl rfl
theorem ms_M_taped : Cond.selects "FilterReaderModel" mt_M_taped.1 mt_M_taped.1 ∈ Tall := tw4 116 rfl rfl
abbrev mt_M_bad : jm_M := (⟨"FilterReaderModel", "bad", "(I)Ljava/lang/IllegalStateException;"⟩, prog_11_method_11_code, 2, (some (.object "java/lang/IllegalStateException")), [])
theorem mw_M_bad : jm_cw mt_M_bad ∈ Tall := tw4 166 rfl rfl
theorem mh_M_bad : mt_M_bad.1.cls ≠ "java/lang/invoke/MethodHandle" ∧ mt_M_bad.1.cls ≠ "java/lang/invoke/VarHandle" := by decide +kernel
theorem ml_M_bad : (parseMethodDescriptor mt_M_bad.1.desc).map (fun q => q.parameters.length) = some 1 := by decide +kernel
theorem mn_M_bad : Cond.instanceMethod mt_M_bad.1 ∈ Tall := tw4 165 rfl rfl
theorem ms_M_bad : Cond.selects "FilterReaderModel" mt_M_bad.1 mt_M_bad.1 ∈ Tall := tp 57 rfl rfl
abbrev mt_M_enter : jm_M := (⟨"FilterReaderModel", "enter", "()V"⟩, prog_11_method_31_code, 1, none, [])
theorem mw_M_enter : jm_cw mt_M_enter ∈ Tall := tw4 162 rfl rfl
theorem mh_M_enter : mt_M_enter.1.cls ≠ "java/lang/invoke/MethodHandle" ∧ mt_M_enter.1.cls ≠ "java/lang/invoke/VarHandle" := by decide +kernel
theorem ml_M_enter : (parseMethodDescriptor mt_M_enter.1.desc).map (fun q => q.parameters.length) = some 0 := by decide +kernel
theorem mn_M_enter : Cond.instanceMethod mt_M_enter.1 ∈ Tall := tw4 161 rfl rfl
theorem ms_M_enter : Cond.selects "FilterReaderModel" mt_M_enter.1 mt_M_enter.1 ∈ Tall := tp 56 rfl rfl
abbrev mt_M_digit : jm_M := (⟨"FilterReaderModel", "digit", "(I)Z"⟩, prog_11_method_14_code, 1, (some .boolean), [])
theorem mw_M_digit : jm_cw mt_M_digit ∈ Tall := tw4 139 rfl rfl
theorem mh_M_digit : mt_M_digit.1.cls ≠ "java/lang/invoke/MethodHandle" ∧ mt_M_digit.1.cls ≠ "java/lang/invoke/VarHandle" := by decide +kernel
theorem ml_M_digit : (parseMethodDescriptor mt_M_digit.1.desc).map (fun q => q.parameters.length) = some 1 := by decide +kernel
theorem mq_M_digit : Cond.static mt_M_digit.1 ∈ Tall := tw4 138 rfl rfl
abbrev mt_M_look : jm_M := (⟨"FilterReaderModel", "look", "(I)I"⟩, prog_11_method_12_code, 2, (some .int), [])
theorem mw_M_look : jm_cw mt_M_look ∈ Tall := tw4 129 rfl rfl
theorem mh_M_look : mt_M_look.1.cls ≠ "java/lang/invoke/MethodHandle" ∧ mt_M_look.1.cls ≠ "java/lang/invoke/VarHandle" := by decide +kernel
theorem ml_M_look : (parseMethodDescriptor mt_M_look.1.desc).map (fun q => q.parameters.length) = some 1 := by decide +kernel
theorem mn_M_look : Cond.instanceMethod mt_M_look.1 ∈ Tall := tw4 128 rfl rfl
theorem ms_M_look : Cond.selects "FilterReaderModel" mt_M_look.1 mt_M_look.1 ∈ Tall := tp 50 rfl rfl
abbrev mt_M_take : jm_M := (⟨"FilterReaderModel", "take", "(II)V"⟩, prog_11_method_17_code, 3, none, [])
theorem mw_M_take : jm_cw mt_M_take ∈ Tall := tw4 143 rfl rfl
theorem mh_M_take : mt_M_take.1.cls ≠ "java/lang/invoke/MethodHandle" ∧ mt_M_take.1.cls ≠ "java/lang/invoke/VarHandle" := by decide +kernel
theorem ml_M_take : (parseMethodDescriptor mt_M_take.1.desc).map (fun q => q.parameters.length) = some 2 := by decide +kernel
theorem mn_M_take : Cond.instanceMethod mt_M_take.1 ∈ Tall := tw4 142 rfl rfl
theorem ms_M_take : Cond.selects "FilterReaderModel" mt_M_take.1 mt_M_take.1 ∈ Tall := tp 52 rfl rfl
abbrev mt_M_digits : jm_M := (⟨"FilterReaderModel", "digits", "()V"⟩, prog_11_method_18_code, 4, none, [])
theorem mw_M_digits : jm_cw mt_M_digits ∈ Tall := tw4 147 rfl rfl
theorem mh_M_digits : mt_M_digits.1.cls ≠ "java/lang/invoke/MethodHandle" ∧ mt_M_digits.1.cls ≠ "java/lang/invoke/VarHandle" := by decide +kernel
theorem ml_M_digits : (parseMethodDescriptor mt_M_digits.1.desc).map (fun q => q.parameters.length) = some 0 := by decide +kernel
theorem mn_M_digits : Cond.instanceMethod mt_M_digits.1 ∈ Tall := tw4 146 rfl rfl
theorem ms_M_digits : Cond.selects "FilterReaderModel" mt_M_digits.1 mt_M_digits.1 ∈ Tall := tp 53 rfl rfl
abbrev mt_M_first : jm_M := (⟨"FilterReaderModel", "first", "(I)Z"⟩, prog_11_method_13_code, 1, (some .boolean), [])
theorem mw_M_first : jm_cw mt_M_first ∈ Tall := tw4 132 rfl rfl
theorem mh_M_first : mt_M_first.1.cls ≠ "java/lang/invoke/MethodHandle" ∧ mt_M_first.1.cls ≠ "java/lang/invoke/VarHandle" := by decide +kernel
theorem ml_M_first : (parseMethodDescriptor mt_M_first.1.desc).map (fun q => q.parameters.length) = some 1 := by decide +kernel
theorem mq_M_first : Cond.static mt_M_first.1 ∈ Tall := tw4 131 rfl rfl
abbrev mt_M_nameFrom : jm_M := (⟨"FilterReaderModel", "nameFrom", "(I)I"⟩, prog_11_method_15_code, 3, (some .int), [])
theorem mw_M_nameFrom : jm_cw mt_M_nameFrom ∈ Tall := tw4 136 rfl rfl
theorem mh_M_nameFrom : mt_M_nameFrom.1.cls ≠ "java/lang/invoke/MethodHandle" ∧ mt_M_nameFrom.1.cls ≠ "java/lang/invoke/VarHandle" := by decide +kernel
theorem ml_M_nameFrom : (parseMethodDescriptor mt_M_nameFrom.1.desc).map (fun q => q.parameters.length) = some 1 := by decide +kernel
theorem mn_M_nameFrom : Cond.instanceMethod mt_M_nameFrom.1 ∈ Tall := tw4 135 rfl rfl
theorem ms_M_nameFrom : Cond.selects "FilterReaderModel" mt_M_nameFrom.1 mt_M_nameFrom.1 ∈ Tall := tp 51 rfl rfl
abbrev mt_M_sign : jm_M := (⟨"FilterReaderModel", "sign", "(III)V"⟩, prog_11_method_19_code, 4, none, [])
theorem mw_M_sign : jm_cw mt_M_sign ∈ Tall := tw4 154 rfl rfl
theorem mh_M_sign : mt_M_sign.1.cls ≠ "java/lang/invoke/MethodHandle" ∧ mt_M_sign.1.cls ≠ "java/lang/invoke/VarHandle" := by decide +kernel
theorem ml_M_sign : (parseMethodDescriptor mt_M_sign.1.desc).map (fun q => q.parameters.length) = some 3 := by decide +kernel
theorem mn_M_sign : Cond.instanceMethod mt_M_sign.1 ∈ Tall := tw4 153 rfl rfl
theorem ms_M_sign : Cond.selects "FilterReaderModel" mt_M_sign.1 mt_M_sign.1 ∈ Tall := tp 54 rfl rfl
abbrev mt_M_scan : jm_M := (⟨"FilterReaderModel", "scan", "()V"⟩, prog_11_method_16_code, 3, none, [])
theorem mw_M_scan : jm_cw mt_M_scan ∈ Tall := tw4 125 rfl rfl
theorem mh_M_scan : mt_M_scan.1.cls ≠ "java/lang/invoke/MethodHandle" ∧ mt_M_scan.1.cls ≠ "java/lang/invoke/VarHandle" := by decide +kernel
theorem ml_M_scan : (parseMethodDescriptor mt_M_scan.1.desc).map (fun q => q.parameters.length) = some 0 := by decide +kernel
theorem mn_M_scan : Cond.instanceMethod mt_M_scan.1 ∈ Tall := tw4 124 rfl rfl
theorem ms_M_scan : Cond.selects "FilterReaderModel" mt_M_scan.1 mt_M_scan.1 ∈ Tall := tp 49 rfl rfl
abbrev mt_M_spells : jm_M := (⟨"FilterReaderModel", "spells", "(IILjava/lang/String;)Z"⟩, prog_11_method_20_code, 5, (some .boolean), [])
theorem mw_M_spells : jm_cw mt_M_spells ∈ Tall := tw4 178 rfl rfl
theorem mh_M_spells : mt_M_spells.1.cls ≠ "java/lang/invoke/MethodHandle" ∧ mt_M_spells.1.cls ≠ "java/lang/invoke/VarHandle" := by decide +kernel
theorem ml_M_spells : (parseMethodDescriptor mt_M_spells.1.desc).map (fun q => q.parameters.length) = some 3 := by decide +kernel
theorem mn_M_spells : Cond.instanceMethod mt_M_spells.1 ∈ Tall := tw4 177 rfl rfl
theorem ms_M_spells : Cond.selects "FilterReaderModel" mt_M_spells.1 mt_M_spells.1 ∈ Tall := tp 60 rfl rfl
abbrev mt_M_is : jm_M := (⟨"FilterReaderModel", "is", "(Ljava/lang/String;)Z"⟩, prog_11_method_22_code, 2, (some .boolean), [])
theorem mw_M_is : jm_cw mt_M_is ∈ Tall := tw4 174 rfl rfl
theorem mh_M_is : mt_M_is.1.cls ≠ "java/lang/invoke/MethodHandle" ∧ mt_M_is.1.cls ≠ "java/lang/invoke/VarHandle" := by decide +kernel
theorem ml_M_is : (parseMethodDescriptor mt_M_is.1.desc).map (fun q => q.parameters.length) = some 1 := by decide +kernel
theorem mn_M_is : Cond.instanceMethod mt_M_is.1 ∈ Tall := tw4 173 rfl rfl
theorem ms_M_is : Cond.selects "FilterReaderModel" mt_M_is.1 mt_M_is.1 ∈ Tall := tp 59 rfl rfl
abbrev mt_M_skip_s : jm_M := (⟨"FilterReaderModel", "skip", "(Ljava/lang/String;)Z"⟩, prog_11_method_24_code, 2, (some .boolean), [])
theorem mw_M_skip_s : jm_cw mt_M_skip_s ∈ Tall := tw4 170 rfl rfl
theorem mh_M_skip_s : mt_M_skip_s.1.cls ≠ "java/lang/invoke/MethodHandle" ∧ mt_M_skip_s.1.cls ≠ "java/lang/invoke/VarHandle" := by decide +kernel
theorem ml_M_skip_s : (parseMethodDescriptor mt_M_skip_s.1.desc).map (fun q => q.parameters.length) = some 1 := by decide +kernel
theorem mn_M_skip_s : Cond.instanceMethod mt_M_skip_s.1 ∈ Tall := tw4 169 rfl rfl
theorem ms_M_skip_s : Cond.selects "FilterReaderModel" mt_M_skip_s.1 mt_M_skip_s.1 ∈ Tall := tp 58 rfl rfl
abbrev mt_M_need_s : jm_M := (⟨"FilterReaderModel", "need", "(Ljava/lang/String;)V"⟩, prog_11_method_26_code, 2, none, [])
theorem mw_M_need_s : jm_cw mt_M_need_s ∈ Tall := tw5 100 rfl rfl
theorem mh_M_need_s : mt_M_need_s.1.cls ≠ "java/lang/invoke/MethodHandle" ∧ mt_M_need_s.1.cls ≠ "java/lang/invoke/VarHandle" := by decide +kernel
theorem ml_M_need_s : (parseMethodDescriptor mt_M_need_s.1.desc).map (fun q => q.parameters.length) = some 1 := by decide +kernel
theorem mn_M_need_s : Cond.instanceMethod mt_M_need_s.1 ∈ Tall := tw5 99 rfl rfl
theorem ms_M_need_s : Cond.selects "FilterReaderModel" mt_M_need_s.1 mt_M_need_s.1 ∈ Tall := tp 85 rfl rfl
abbrev mt_M_condition : jm_M := (⟨"FilterReaderModel", "condition", "()V"⟩, prog_11_method_42_code, 2, none, [])
theorem mw_M_condition : jm_cw mt_M_condition ∈ Tall := tw5 124 rfl rfl
theorem mh_M_condition : mt_M_condition.1.cls ≠ "java/lang/invoke/MethodHandle" ∧ mt_M_condition.1.cls ≠ "java/lang/invoke/VarHandle" := by decide +kernel
theorem ml_M_condition : (parseMethodDescriptor mt_M_condition.1.desc).map (fun q => q.parameters.length) = some 0 := by decide +kernel
theorem mn_M_condition : Cond.instanceMethod mt_M_condition.1 ∈ Tall := tw5 123 rfl rfl
theorem ms_M_condition : Cond.selects "FilterReaderModel" mt_M_condition.1 mt_M_condition.1 ∈ Tall := tp 91 rfl rfl
abbrev mt_M_hide : jm_M := (⟨"FilterReaderModel", "hide", "(IZ)V"⟩, prog_11_method_30_code, 4, none, [])
theorem mw_M_hide : jm_cw mt_M_hide ∈ Tall := tw5 120 rfl rfl
theorem mh_M_hide : mt_M_hide.1.cls ≠ "java/lang/invoke/MethodHandle" ∧ mt_M_hide.1.cls ≠ "java/lang/invoke/VarHandle" := by decide +kernel
theorem ml_M_hide : (parseMethodDescriptor mt_M_hide.1.desc).map (fun q => q.parameters.length) = some 2 := by decide +kernel
theorem mn_M_hide : Cond.instanceMethod mt_M_hide.1 ∈ Tall := tw5 119 rfl rfl
theorem ms_M_hide : Cond.selects "FilterReaderModel" mt_M_hide.1 mt_M_hide.1 ∈ Tall := tp 90 rfl rfl
abbrev mt_M_skip_i : jm_M := (⟨"FilterReaderModel", "skip", "(I)Z"⟩, prog_11_method_23_code, 2, (some .boolean), [])
theorem mw_M_skip_i : jm_cw mt_M_skip_i ∈ Tall := tw4 196 rfl rfl
theorem mh_M_skip_i : mt_M_skip_i.1.cls ≠ "java/lang/invoke/MethodHandle" ∧ mt_M_skip_i.1.cls ≠ "java/lang/invoke/VarHandle" := by decide +kernel
theorem ml_M_skip_i : (parseMethodDescriptor mt_M_skip_i.1.desc).map (fun q => q.parameters.length) = some 1 := by decide +kernel
theorem mn_M_skip_i : Cond.instanceMethod mt_M_skip_i.1 ∈ Tall := tw4 195 rfl rfl
theorem ms_M_skip_i : Cond.selects "FilterReaderModel" mt_M_skip_i.1 mt_M_skip_i.1 ∈ Tall := tp 64 rfl rfl
abbrev mt_M_need_i : jm_M := (⟨"FilterReaderModel", "need", "(I)V"⟩, prog_11_method_25_code, 2, none, [])
theorem mw_M_need_i : jm_cw mt_M_need_i ∈ Tall := tw4 200 rfl rfl
theorem mh_M_need_i : mt_M_need_i.1.cls ≠ "java/lang/invoke/MethodHandle" ∧ mt_M_need_i.1.cls ≠ "java/lang/invoke/VarHandle" := by decide +kernel
theorem ml_M_need_i : (parseMethodDescriptor mt_M_need_i.1.desc).map (fun q => q.parameters.length) = some 1 := by decide +kernel
theorem mn_M_need_i : Cond.instanceMethod mt_M_need_i.1 ∈ Tall := tw4 199 rfl rfl
theorem ms_M_need_i : Cond.selects "FilterReaderModel" mt_M_need_i.1 mt_M_need_i.1 ∈ Tall := tp 65 rfl rfl
abbrev mt_M_field : jm_M := (⟨"FilterReaderModel", "field", "()V"⟩, prog_11_method_44_code, 1, none, [])
theorem mw_M_field : jm_cw mt_M_field ∈ Tall := tw5 59 rfl rfl
theorem mh_M_field : mt_M_field.1.cls ≠ "java/lang/invoke/MethodHandle" ∧ mt_M_field.1.cls ≠ "java/lang/invoke/VarHandle" := by decide +kernel
theorem ml_M_field : (parseMethodDescriptor mt_M_field.1.desc).map (fun q => q.parameters.length) = some 0 := by decide +kernel
theorem mn_M_field : Cond.instanceMethod mt_M_field.1 ∈ Tall := tw5 58 rfl rfl
theorem ms_M_field : Cond.selects "FilterReaderModel" mt_M_field.1 mt_M_field.1 ∈ Tall := tp 75 rfl rfl
abbrev mt_M_hex : jm_M := (⟨"FilterReaderModel", "hex", "(I)I"⟩, prog_11_method_56_code, 1, (some .int), [])
theorem mw_M_hex : jm_cw mt_M_hex ∈ Tall := tw4 239 rfl rfl
theorem mh_M_hex : mt_M_hex.1.cls ≠ "java/lang/invoke/MethodHandle" ∧ mt_M_hex.1.cls ≠ "java/lang/invoke/VarHandle" := by decide +kernel
theorem ml_M_hex : (parseMethodDescriptor mt_M_hex.1.desc).map (fun q => q.parameters.length) = some 1 := by decide +kernel
theorem mq_M_hex : Cond.static mt_M_hex.1 ∈ Tall := tw4 238 rfl rfl
abbrev mt_M_string : jm_M := (⟨"FilterReaderModel", "string", "(Z)V"⟩, prog_11_method_55_code, 8, none, [])
theorem mw_M_string : jm_cw mt_M_string ∈ Tall := tw4 236 rfl rfl
theorem mh_M_string : mt_M_string.1.cls ≠ "java/lang/invoke/MethodHandle" ∧ mt_M_string.1.cls ≠ "java/lang/invoke/VarHandle" := by decide +kernel
theorem ml_M_string : (parseMethodDescriptor mt_M_string.1.desc).map (fun q => q.parameters.length) = some 1 := by decide +kernel
theorem mn_M_string : Cond.instanceMethod mt_M_string.1 ∈ Tall := tw4 235 rfl rfl
theorem ms_M_string : Cond.selects "FilterReaderModel" mt_M_string.1 mt_M_string.1 ∈ Tall := tp 74 rfl rfl
abbrev mt_M_behindTerm : jm_M := (⟨"FilterReaderModel", "behindTerm", "()Z"⟩, prog_11_method_48_code, 3, (some .boolean), [])
theorem mw_M_behindTerm : jm_cw mt_M_behindTerm ∈ Tall := tw5 92 rfl rfl
theorem mh_M_behindTerm : mt_M_behindTerm.1.cls ≠ "java/lang/invoke/MethodHandle" ∧ mt_M_behindTerm.1.cls ≠ "java/lang/invoke/VarHandle" := by decide +kernel
theorem ml_M_behindTerm : (parseMethodDescriptor mt_M_behindTerm.1.desc).map (fun q => q.parameters.length) = some 0 := by decide +kernel
theorem mn_M_behindTerm : Cond.instanceMethod mt_M_behindTerm.1 ∈ Tall := tw5 91 rfl rfl
theorem ms_M_behindTerm : Cond.selects "FilterReaderModel" mt_M_behindTerm.1 mt_M_behindTerm.1 ∈ Tall := tp 83 rfl rfl
abbrev mt_M_sameName : jm_M := (⟨"FilterReaderModel", "sameName", "(III)Z"⟩, prog_11_method_28_code, 5, (some .boolean), [])
theorem mw_M_sameName : jm_cw mt_M_sameName ∈ Tall := tw5 79 rfl rfl
theorem mh_M_sameName : mt_M_sameName.1.cls ≠ "java/lang/invoke/MethodHandle" ∧ mt_M_sameName.1.cls ≠ "java/lang/invoke/VarHandle" := by decide +kernel
theorem ml_M_sameName : (parseMethodDescriptor mt_M_sameName.1.desc).map (fun q => q.parameters.length) = some 3 := by decide +kernel
theorem mn_M_sameName : Cond.instanceMethod mt_M_sameName.1 ∈ Tall := tw5 78 rfl rfl
theorem ms_M_sameName : Cond.selects "FilterReaderModel" mt_M_sameName.1 mt_M_sameName.1 ∈ Tall := tp 80 rfl rfl
abbrev mt_M_has : jm_M := (⟨"FilterReaderModel", "has", "(III)Z"⟩, prog_11_method_29_code, 5, (some .boolean), [])
theorem mw_M_has : jm_cw mt_M_has ∈ Tall := tw5 75 rfl rfl
theorem mh_M_has : mt_M_has.1.cls ≠ "java/lang/invoke/MethodHandle" ∧ mt_M_has.1.cls ≠ "java/lang/invoke/VarHandle" := by decide +kernel
theorem ml_M_has : (parseMethodDescriptor mt_M_has.1.desc).map (fun q => q.parameters.length) = some 3 := by decide +kernel
theorem mn_M_has : Cond.instanceMethod mt_M_has.1 ∈ Tall := tw5 74 rfl rfl
theorem ms_M_has : Cond.selects "FilterReaderModel" mt_M_has.1 mt_M_has.1 ∈ Tall := tp 79 rfl rfl
abbrev mt_M_isWord : jm_M := (⟨"FilterReaderModel", "isWord", "()Z"⟩, prog_11_method_21_code, 5, (some .boolean), [])
theorem mw_M_isWord : jm_cw mt_M_isWord ∈ Tall := tw4 188 rfl rfl
theorem mh_M_isWord : mt_M_isWord.1.cls ≠ "java/lang/invoke/MethodHandle" ∧ mt_M_isWord.1.cls ≠ "java/lang/invoke/VarHandle" := by decide +kernel
theorem ml_M_isWord : (parseMethodDescriptor mt_M_isWord.1.desc).map (fun q => q.parameters.length) = some 0 := by decide +kernel
theorem mn_M_isWord : Cond.instanceMethod mt_M_isWord.1 ∈ Tall := tw4 187 rfl rfl
theorem ms_M_isWord : Cond.selects "FilterReaderModel" mt_M_isWord.1 mt_M_isWord.1 ∈ Tall := tp 62 rfl rfl
abbrev mt_M_kindOf : jm_M := (⟨"FilterReaderModel", "kindOf", "(III)I"⟩, prog_11_method_47_code, 8, (some .int), [])
theorem mw_M_kindOf : jm_cw mt_M_kindOf ∈ Tall := tw5 87 rfl rfl
theorem mh_M_kindOf : mt_M_kindOf.1.cls ≠ "java/lang/invoke/MethodHandle" ∧ mt_M_kindOf.1.cls ≠ "java/lang/invoke/VarHandle" := by decide +kernel
theorem ml_M_kindOf : (parseMethodDescriptor mt_M_kindOf.1.desc).map (fun q => q.parameters.length) = some 3 := by decide +kernel
theorem mn_M_kindOf : Cond.instanceMethod mt_M_kindOf.1 ∈ Tall := tw5 86 rfl rfl
theorem ms_M_kindOf : Cond.selects "FilterReaderModel" mt_M_kindOf.1 mt_M_kindOf.1 ∈ Tall := tp 82 rfl rfl
abbrev mt_M_named : jm_M := (⟨"FilterReaderModel", "named", "()V"⟩, prog_11_method_46_code, 4, none, [])
theorem mw_M_named : jm_cw mt_M_named ∈ Tall := tw5 83 rfl rfl
theorem mh_M_named : mt_M_named.1.cls ≠ "java/lang/invoke/MethodHandle" ∧ mt_M_named.1.cls ≠ "java/lang/invoke/VarHandle" := by decide +kernel
theorem ml_M_named : (parseMethodDescriptor mt_M_named.1.desc).map (fun q => q.parameters.length) = some 0 := by decide +kernel
theorem mn_M_named : Cond.instanceMethod mt_M_named.1 ∈ Tall := tw5 82 rfl rfl
theorem ms_M_named : Cond.selects "FilterReaderModel" mt_M_named.1 mt_M_named.1 ∈ Tall := tp 81 rfl rfl
abbrev mt_M_variable : jm_M := (⟨"FilterReaderModel", "variable", "()V"⟩, prog_11_method_45_code, 1, none, [])
theorem mw_M_variable : jm_cw mt_M_variable ∈ Tall := tw5 71 rfl rfl
theorem mh_M_variable : mt_M_variable.1.cls ≠ "java/lang/invoke/MethodHandle" ∧ mt_M_variable.1.cls ≠ "java/lang/invoke/VarHandle" := by decide +kernel
theorem ml_M_variable : (parseMethodDescriptor mt_M_variable.1.desc).map (fun q => q.parameters.length) = some 0 := by decide +kernel
theorem mn_M_variable : Cond.instanceMethod mt_M_variable.1 ∈ Tall := tw5 70 rfl rfl
theorem ms_M_variable : Cond.selects "FilterReaderModel" mt_M_variable.1 mt_M_variable.1 ∈ Tall := tp 78 rfl rfl
abbrev mt_M_entry : jm_M := (⟨"FilterReaderModel", "entry", "()V"⟩, prog_11_method_50_code, 3, none, [])
theorem mw_M_entry : jm_cw mt_M_entry ∈ Tall := tw5 67 rfl rfl
theorem mh_M_entry : mt_M_entry.1.cls ≠ "java/lang/invoke/MethodHandle" ∧ mt_M_entry.1.cls ≠ "java/lang/invoke/VarHandle" := by decide +kernel
theorem ml_M_entry : (parseMethodDescriptor mt_M_entry.1.desc).map (fun q => q.parameters.length) = some 0 := by decide +kernel
theorem mn_M_entry : Cond.instanceMethod mt_M_entry.1 ∈ Tall := tw5 66 rfl rfl
theorem ms_M_entry : Cond.selects "FilterReaderModel" mt_M_entry.1 mt_M_entry.1 ∈ Tall := tp 77 rfl rfl
abbrev mt_M_object : jm_M := (⟨"FilterReaderModel", "object", "()V"⟩, prog_11_method_49_code, 1, none, [])
theorem mw_M_object : jm_cw mt_M_object ∈ Tall := tw5 63 rfl rfl
theorem mh_M_object : mt_M_object.1.cls ≠ "java/lang/invoke/MethodHandle" ∧ mt_M_object.1.cls ≠ "java/lang/invoke/VarHandle" := by decide +kernel
theorem ml_M_object : (parseMethodDescriptor mt_M_object.1.desc).map (fun q => q.parameters.length) = some 0 := by decide +kernel
theorem mn_M_object : Cond.instanceMethod mt_M_object.1 ∈ Tall := tw5 62 rfl rfl
theorem ms_M_object : Cond.selects "FilterReaderModel" mt_M_object.1 mt_M_object.1 ∈ Tall := tp 76 rfl rfl
abbrev mt_M_term : jm_M := (⟨"FilterReaderModel", "term", "()V"⟩, prog_11_method_43_code, 1, none, [])
theorem mw_M_term : jm_cw mt_M_term ∈ Tall := tw4 232 rfl rfl
theorem mh_M_term : mt_M_term.1.cls ≠ "java/lang/invoke/MethodHandle" ∧ mt_M_term.1.cls ≠ "java/lang/invoke/VarHandle" := by decide +kernel
theorem ml_M_term : (parseMethodDescriptor mt_M_term.1.desc).map (fun q => q.parameters.length) = some 0 := by decide +kernel
theorem mn_M_term : Cond.instanceMethod mt_M_term.1 ∈ Tall := tw4 231 rfl rfl
theorem ms_M_term : Cond.selects "FilterReaderModel" mt_M_term.1 mt_M_term.1 ∈ Tall := tp 73 rfl rfl
abbrev mt_M_another : jm_M := (⟨"FilterReaderModel", "another", "()V"⟩, prog_11_method_52_code, 1, none, [])
theorem mw_M_another : jm_cw mt_M_another ∈ Tall := tw5 112 rfl rfl
theorem mh_M_another : mt_M_another.1.cls ≠ "java/lang/invoke/MethodHandle" ∧ mt_M_another.1.cls ≠ "java/lang/invoke/VarHandle" := by decide +kernel
theorem ml_M_another : (parseMethodDescriptor mt_M_another.1.desc).map (fun q => q.parameters.length) = some 0 := by decide +kernel
theorem mn_M_another : Cond.instanceMethod mt_M_another.1 ∈ Tall := tw5 111 rfl rfl
theorem ms_M_another : Cond.selects "FilterReaderModel" mt_M_another.1 mt_M_another.1 ∈ Tall := tp 88 rfl rfl
abbrev mt_M_know : jm_M := (⟨"FilterReaderModel", "know", "(IIIIZ)V"⟩, prog_11_method_27_code, 6, none, [])
theorem mw_M_know : jm_cw mt_M_know ∈ Tall := tw4 192 rfl rfl
theorem mh_M_know : mt_M_know.1.cls ≠ "java/lang/invoke/MethodHandle" ∧ mt_M_know.1.cls ≠ "java/lang/invoke/VarHandle" := by decide +kernel
theorem ml_M_know : (parseMethodDescriptor mt_M_know.1.desc).map (fun q => q.parameters.length) = some 5 := by decide +kernel
theorem mn_M_know : Cond.instanceMethod mt_M_know.1 ∈ Tall := tw4 191 rfl rfl
theorem ms_M_know : Cond.selects "FilterReaderModel" mt_M_know.1 mt_M_know.1 ∈ Tall := tp 63 rfl rfl
abbrev mt_M_entryOfPattern : jm_M := (⟨"FilterReaderModel", "entryOfPattern", "()V"⟩, prog_11_method_54_code, 1, none, [])
theorem mw_M_entryOfPattern : jm_cw mt_M_entryOfPattern ∈ Tall := tw5 116 rfl rfl
theorem mh_M_entryOfPattern : mt_M_entryOfPattern.1.cls ≠ "java/lang/invoke/MethodHandle" ∧ mt_M_entryOfPattern.1.cls ≠ "java/lang/invoke/VarHandle" := by decide +kernel
theorem ml_M_entryOfPattern : (parseMethodDescriptor mt_M_entryOfPattern.1.desc).map (fun q => q.parameters.length) = some 0 := by decide +kernel
theorem mn_M_entryOfPattern : Cond.instanceMethod mt_M_entryOfPattern.1 ∈ Tall := tw5 115 rfl rfl
theorem ms_M_entryOfPattern : Cond.selects "FilterReaderModel" mt_M_entryOfPattern.1 mt_M_entryOfPattern.1 ∈ Tall := tp 89 rfl rfl
abbrev mt_M_pattern : jm_M := (⟨"FilterReaderModel", "pattern", "()V"⟩, prog_11_method_53_code, 1, none, [])
theorem mw_M_pattern : jm_cw mt_M_pattern ∈ Tall := tw5 108 rfl rfl
theorem mh_M_pattern : mt_M_pattern.1.cls ≠ "java/lang/invoke/MethodHandle" ∧ mt_M_pattern.1.cls ≠ "java/lang/invoke/VarHandle" := by decide +kernel
theorem ml_M_pattern : (parseMethodDescriptor mt_M_pattern.1.desc).map (fun q => q.parameters.length) = some 0 := by decide +kernel
theorem mn_M_pattern : Cond.instanceMethod mt_M_pattern.1 ∈ Tall := tw5 107 rfl rfl
theorem ms_M_pattern : Cond.selects "FilterReaderModel" mt_M_pattern.1 mt_M_pattern.1 ∈ Tall := tp 87 rfl rfl
abbrev mt_M_whole : jm_M := (⟨"FilterReaderModel", "whole", "()V"⟩, prog_11_method_51_code, 2, none, [])
theorem mw_M_whole : jm_cw mt_M_whole ∈ Tall := tw5 104 rfl rfl
theorem mh_M_whole : mt_M_whole.1.cls ≠ "java/lang/invoke/MethodHandle" ∧ mt_M_whole.1.cls ≠ "java/lang/invoke/VarHandle" := by decide +kernel
theorem ml_M_whole : (parseMethodDescriptor mt_M_whole.1.desc).map (fun q => q.parameters.length) = some 0 := by decide +kernel
theorem mn_M_whole : Cond.instanceMethod mt_M_whole.1 ∈ Tall := tw5 103 rfl rfl
theorem ms_M_whole : Cond.selects "FilterReaderModel" mt_M_whole.1 mt_M_whole.1 ∈ Tall := tp 86 rfl rfl
abbrev mt_M_folded : jm_M := (⟨"FilterReaderModel", "folded", "()V"⟩, prog_11_method_41_code, 3, none, [])
theorem mw_M_folded : jm_cw mt_M_folded ∈ Tall := tw5 96 rfl rfl
theorem mh_M_folded : mt_M_folded.1.cls ≠ "java/lang/invoke/MethodHandle" ∧ mt_M_folded.1.cls ≠ "java/lang/invoke/VarHandle" := by decide +kernel
theorem ml_M_folded : (parseMethodDescriptor mt_M_folded.1.desc).map (fun q => q.parameters.length) = some 0 := by decide +kernel
theorem mn_M_folded : Cond.instanceMethod mt_M_folded.1 ∈ Tall := tw5 95 rfl rfl
theorem ms_M_folded : Cond.selects "FilterReaderModel" mt_M_folded.1 mt_M_folded.1 ∈ Tall := tp 84 rfl rfl
abbrev mt_M_part : jm_M := (⟨"FilterReaderModel", "part", "()V"⟩, prog_11_method_40_code, 2, none, [])
theorem mw_M_part : jm_cw mt_M_part ∈ Tall := tw4 228 rfl rfl
theorem mh_M_part : mt_M_part.1.cls ≠ "java/lang/invoke/MethodHandle" ∧ mt_M_part.1.cls ≠ "java/lang/invoke/VarHandle" := by decide +kernel
theorem ml_M_part : (parseMethodDescriptor mt_M_part.1.desc).map (fun q => q.parameters.length) = some 0 := by decide +kernel
theorem mn_M_part : Cond.instanceMethod mt_M_part.1 ∈ Tall := tw4 227 rfl rfl
theorem ms_M_part : Cond.selects "FilterReaderModel" mt_M_part.1 mt_M_part.1 ∈ Tall := tp 72 rfl rfl
abbrev mt_M_product : jm_M := (⟨"FilterReaderModel", "product", "()V"⟩, prog_11_method_39_code, 1, none, [])
theorem mw_M_product : jm_cw mt_M_product ∈ Tall := tw4 224 rfl rfl
theorem mh_M_product : mt_M_product.1.cls ≠ "java/lang/invoke/MethodHandle" ∧ mt_M_product.1.cls ≠ "java/lang/invoke/VarHandle" := by decide +kernel
theorem ml_M_product : (parseMethodDescriptor mt_M_product.1.desc).map (fun q => q.parameters.length) = some 0 := by decide +kernel
theorem mn_M_product : Cond.instanceMethod mt_M_product.1 ∈ Tall := tw4 223 rfl rfl
theorem ms_M_product : Cond.selects "FilterReaderModel" mt_M_product.1 mt_M_product.1 ∈ Tall := tp 71 rfl rfl
abbrev mt_M_sum : jm_M := (⟨"FilterReaderModel", "sum", "()V"⟩, prog_11_method_38_code, 1, none, [])
theorem mw_M_sum : jm_cw mt_M_sum ∈ Tall := tw4 220 rfl rfl
theorem mh_M_sum : mt_M_sum.1.cls ≠ "java/lang/invoke/MethodHandle" ∧ mt_M_sum.1.cls ≠ "java/lang/invoke/VarHandle" := by decide +kernel
theorem ml_M_sum : (parseMethodDescriptor mt_M_sum.1.desc).map (fun q => q.parameters.length) = some 0 := by decide +kernel
theorem mn_M_sum : Cond.instanceMethod mt_M_sum.1 ∈ Tall := tw4 219 rfl rfl
theorem ms_M_sum : Cond.selects "FilterReaderModel" mt_M_sum.1 mt_M_sum.1 ∈ Tall := tp 70 rfl rfl
abbrev mt_M_compared : jm_M := (⟨"FilterReaderModel", "compared", "()V"⟩, prog_11_method_37_code, 1, none, [])
theorem mw_M_compared : jm_cw mt_M_compared ∈ Tall := tw4 216 rfl rfl
theorem mh_M_compared : mt_M_compared.1.cls ≠ "java/lang/invoke/MethodHandle" ∧ mt_M_compared.1.cls ≠ "java/lang/invoke/VarHandle" := by decide +kernel
theorem ml_M_compared : (parseMethodDescriptor mt_M_compared.1.desc).map (fun q => q.parameters.length) = some 0 := by decide +kernel
theorem mn_M_compared : Cond.instanceMethod mt_M_compared.1 ∈ Tall := tw4 215 rfl rfl
theorem ms_M_compared : Cond.selects "FilterReaderModel" mt_M_compared.1 mt_M_compared.1 ∈ Tall := tp 69 rfl rfl
abbrev mt_M_ands : jm_M := (⟨"FilterReaderModel", "ands", "()V"⟩, prog_11_method_36_code, 1, none, [])
theorem mw_M_ands : jm_cw mt_M_ands ∈ Tall := tw4 212 rfl rfl
theorem mh_M_ands : mt_M_ands.1.cls ≠ "java/lang/invoke/MethodHandle" ∧ mt_M_ands.1.cls ≠ "java/lang/invoke/VarHandle" := by decide +kernel
theorem ml_M_ands : (parseMethodDescriptor mt_M_ands.1.desc).map (fun q => q.parameters.length) = some 0 := by decide +kernel
theorem mn_M_ands : Cond.instanceMethod mt_M_ands.1 ∈ Tall := tw4 211 rfl rfl
theorem ms_M_ands : Cond.selects "FilterReaderModel" mt_M_ands.1 mt_M_ands.1 ∈ Tall := tp 68 rfl rfl
abbrev mt_M_ors : jm_M := (⟨"FilterReaderModel", "ors", "()V"⟩, prog_11_method_35_code, 1, none, [])
theorem mw_M_ors : jm_cw mt_M_ors ∈ Tall := tw4 208 rfl rfl
theorem mh_M_ors : mt_M_ors.1.cls ≠ "java/lang/invoke/MethodHandle" ∧ mt_M_ors.1.cls ≠ "java/lang/invoke/VarHandle" := by decide +kernel
theorem ml_M_ors : (parseMethodDescriptor mt_M_ors.1.desc).map (fun q => q.parameters.length) = some 0 := by decide +kernel
theorem mn_M_ors : Cond.instanceMethod mt_M_ors.1 ∈ Tall := tw4 207 rfl rfl
theorem ms_M_ors : Cond.selects "FilterReaderModel" mt_M_ors.1 mt_M_ors.1 ∈ Tall := tp 67 rfl rfl
abbrev mt_M_choices : jm_M := (⟨"FilterReaderModel", "choices", "()V"⟩, prog_11_method_34_code, 2, none, [])
theorem mw_M_choices : jm_cw mt_M_choices ∈ Tall := tw4 204 rfl rfl
theorem mh_M_choices : mt_M_choices.1.cls ≠ "java/lang/invoke/MethodHandle" ∧ mt_M_choices.1.cls ≠ "java/lang/invoke/VarHandle" := by decide +kernel
theorem ml_M_choices : (parseMethodDescriptor mt_M_choices.1.desc).map (fun q => q.parameters.length) = some 0 := by decide +kernel
theorem mn_M_choices : Cond.instanceMethod mt_M_choices.1 ∈ Tall := tw4 203 rfl rfl
theorem ms_M_choices : Cond.selects "FilterReaderModel" mt_M_choices.1 mt_M_choices.1 ∈ Tall := tp 66 rfl rfl
abbrev mt_M_definition : jm_M := (⟨"FilterReaderModel", "definition", "()V"⟩, prog_11_method_33_code, 2, none, [])
theorem mw_M_definition : jm_cw mt_M_definition ∈ Tall := tw4 184 rfl rfl
theorem mh_M_definition : mt_M_definition.1.cls ≠ "java/lang/invoke/MethodHandle" ∧ mt_M_definition.1.cls ≠ "java/lang/invoke/VarHandle" := by decide +kernel
theorem ml_M_definition : (parseMethodDescriptor mt_M_definition.1.desc).map (fun q => q.parameters.length) = some 0 := by decide +kernel
theorem mn_M_definition : Cond.instanceMethod mt_M_definition.1 ∈ Tall := tw4 183 rfl rfl
theorem ms_M_definition : Cond.selects "FilterReaderModel" mt_M_definition.1 mt_M_definition.1 ∈ Tall := tp 61 rfl rfl
abbrev mt_M_program : jm_M := (⟨"FilterReaderModel", "program", "()V"⟩, prog_11_method_32_code, 2, none, [])
theorem mw_M_program : jm_cw mt_M_program ∈ Tall := tw4 158 rfl rfl
theorem mh_M_program : mt_M_program.1.cls ≠ "java/lang/invoke/MethodHandle" ∧ mt_M_program.1.cls ≠ "java/lang/invoke/VarHandle" := by decide +kernel
theorem ml_M_program : (parseMethodDescriptor mt_M_program.1.desc).map (fun q => q.parameters.length) = some 0 := by decide +kernel
theorem mn_M_program : Cond.instanceMethod mt_M_program.1 ∈ Tall := tw4 157 rfl rfl
theorem ms_M_program : Cond.selects "FilterReaderModel" mt_M_program.1 mt_M_program.1 ∈ Tall := tp 55 rfl rfl
abbrev mt_M_read : jm_M := (⟨"FilterReaderModel", "read", "()I"⟩, prog_11_method_10_code, 3, (some .int), [(59, 83, 86, 61)])
theorem mw_M_read : jm_cw mt_M_read ∈ Tall := tw4 121 rfl rfl
theorem mh_M_read : mt_M_read.1.cls ≠ "java/lang/invoke/MethodHandle" ∧ mt_M_read.1.cls ≠ "java/lang/invoke/VarHandle" := by decide +kernel
theorem ml_M_read : (parseMethodDescriptor mt_M_read.1.desc).map (fun q => q.parameters.length) = some 0 := by decide +kernel
theorem mn_M_read : Cond.instanceMethod mt_M_read.1 ∈ Tall := tw4 119 rfl rfl
theorem ms_M_read : Cond.selects "FilterReaderModel" mt_M_read.1 mt_M_read.1 ∈ Tall := tw4 120 rfl rfl
theorem rc_l : Cond.classLink "FilterReaderModel" 61 "java/lang/IllegalStateException" ∈ Tall := tw4 3 rfl rfl
theorem rc_c : Cond.castable "java/lang/IllegalStateException" "java/lang/IllegalStateException" ∈ Tall := tw4 5 rfl rfl
theorem rc_d : decode mt_M_read.2.1 86 = .ok (.astore_n 1, 1) := by decide +kernel
theorem mi_M : Cond.initialized "FilterReaderModel" ∈ Tall := tw1 7 rfl rfl
def rcR : Nat → jm_M := fun t => match t with
  | 0 => mt_M_program
  | 1 => mt_M_term
  | _ => mt_M_pattern
theorem lk_M_102 : Cond.methodLink "FilterReaderModel" 102 ⟨"FilterReaderModel", "fail", "(I)I"⟩ ∈ Tall := tw4 94 rfl rfl
theorem lk_M_106 : Cond.methodLink "FilterReaderModel" 106 ⟨"FilterReaderModel", "four", "(I)V"⟩ ∈ Tall := tw4 98 rfl rfl
theorem lk_M_122 : Cond.methodLink "FilterReaderModel" 122 ⟨"FilterReaderModel", "scan", "()V"⟩ ∈ Tall := tw4 122 rfl rfl
theorem lk_M_125 : Cond.methodLink "FilterReaderModel" 125 ⟨"FilterReaderModel", "program", "()V"⟩ ∈ Tall := tw4 155 rfl rfl
theorem lk_M_134 : Cond.methodLink "FilterReaderModel" 134 ⟨"FilterReaderModel", "bad", "(I)Ljava/lang/IllegalStateException;"⟩ ∈ Tall := tw4 163 rfl rfl
theorem lk_M_138 : Cond.methodLink "FilterReaderModel" 138 ⟨"FilterReaderModel", "look", "(I)I"⟩ ∈ Tall := tw4 126 rfl rfl
theorem lk_M_141 : Cond.methodLink "FilterReaderModel" 141 ⟨"FilterReaderModel", "first", "(I)Z"⟩ ∈ Tall := tw4 130 rfl rfl
theorem lk_M_145 : Cond.methodLink "FilterReaderModel" 145 ⟨"FilterReaderModel", "digit", "(I)Z"⟩ ∈ Tall := tw4 137 rfl rfl
theorem lk_M_148 : Cond.methodLink "FilterReaderModel" 148 ⟨"FilterReaderModel", "nameFrom", "(I)I"⟩ ∈ Tall := tw4 133 rfl rfl
theorem lk_M_151 : Cond.methodLink "FilterReaderModel" 151 ⟨"FilterReaderModel", "take", "(II)V"⟩ ∈ Tall := tw4 140 rfl rfl
theorem lk_M_155 : Cond.methodLink "FilterReaderModel" 155 ⟨"FilterReaderModel", "digits", "()V"⟩ ∈ Tall := tw4 144 rfl rfl
theorem lk_M_158 : Cond.methodLink "FilterReaderModel" 158 ⟨"FilterReaderModel", "sign", "(III)V"⟩ ∈ Tall := tw4 151 rfl rfl
theorem lk_M_168 : Cond.methodLink "FilterReaderModel" 168 ⟨"java/lang/String", "length", "()I"⟩ ∈ Tall := tw4 179 rfl rfl
theorem lk_M_172 : Cond.methodLink "FilterReaderModel" 172 ⟨"java/lang/String", "charAt", "(I)C"⟩ ∈ Tall := tw4 180 rfl rfl
theorem lk_M_176 : Cond.methodLink "FilterReaderModel" 176 ⟨"FilterReaderModel", "spells", "(IILjava/lang/String;)Z"⟩ ∈ Tall := tw4 175 rfl rfl
theorem lk_M_180 : Cond.methodLink "FilterReaderModel" 180 ⟨"FilterReaderModel", "is", "(Ljava/lang/String;)Z"⟩ ∈ Tall := tw4 171 rfl rfl
theorem lk_M_184 : Cond.methodLink "FilterReaderModel" 184 ⟨"FilterReaderModel", "skip", "(I)Z"⟩ ∈ Tall := tw4 193 rfl rfl
theorem lk_M_187 : Cond.methodLink "FilterReaderModel" 187 ⟨"FilterReaderModel", "skip", "(Ljava/lang/String;)Z"⟩ ∈ Tall := tw4 167 rfl rfl
theorem lk_M_189 : Cond.methodLink "FilterReaderModel" 189 ⟨"FilterReaderModel", "sameName", "(III)Z"⟩ ∈ Tall := tw5 76 rfl rfl
theorem lk_M_193 : Cond.methodLink "FilterReaderModel" 193 ⟨"FilterReaderModel", "enter", "()V"⟩ ∈ Tall := tw4 159 rfl rfl
theorem lk_M_196 : Cond.methodLink "FilterReaderModel" 196 ⟨"FilterReaderModel", "definition", "()V"⟩ ∈ Tall := tw4 181 rfl rfl
theorem lk_M_199 : Cond.methodLink "FilterReaderModel" 199 ⟨"FilterReaderModel", "need", "(I)V"⟩ ∈ Tall := tw4 197 rfl rfl
theorem lk_M_202 : Cond.methodLink "FilterReaderModel" 202 ⟨"FilterReaderModel", "know", "(IIIIZ)V"⟩ ∈ Tall := tw4 189 rfl rfl
theorem lk_M_206 : Cond.methodLink "FilterReaderModel" 206 ⟨"FilterReaderModel", "choices", "()V"⟩ ∈ Tall := tw4 201 rfl rfl
theorem lk_M_209 : Cond.methodLink "FilterReaderModel" 209 ⟨"FilterReaderModel", "isWord", "()Z"⟩ ∈ Tall := tw4 185 rfl rfl
theorem lk_M_213 : Cond.methodLink "FilterReaderModel" 213 ⟨"FilterReaderModel", "ors", "()V"⟩ ∈ Tall := tw4 205 rfl rfl
theorem lk_M_216 : Cond.methodLink "FilterReaderModel" 216 ⟨"FilterReaderModel", "ands", "()V"⟩ ∈ Tall := tw4 209 rfl rfl
theorem lk_M_219 : Cond.methodLink "FilterReaderModel" 219 ⟨"FilterReaderModel", "compared", "()V"⟩ ∈ Tall := tw4 213 rfl rfl
theorem lk_M_222 : Cond.methodLink "FilterReaderModel" 222 ⟨"FilterReaderModel", "sum", "()V"⟩ ∈ Tall := tw4 217 rfl rfl
theorem lk_M_225 : Cond.methodLink "FilterReaderModel" 225 ⟨"FilterReaderModel", "product", "()V"⟩ ∈ Tall := tw4 221 rfl rfl
theorem lk_M_228 : Cond.methodLink "FilterReaderModel" 228 ⟨"FilterReaderModel", "part", "()V"⟩ ∈ Tall := tw4 225 rfl rfl
theorem lk_M_231 : Cond.methodLink "FilterReaderModel" 231 ⟨"FilterReaderModel", "term", "()V"⟩ ∈ Tall := tw4 229 rfl rfl
theorem lk_M_234 : Cond.methodLink "FilterReaderModel" 234 ⟨"FilterReaderModel", "folded", "()V"⟩ ∈ Tall := tw5 93 rfl rfl
theorem lk_M_237 : Cond.methodLink "FilterReaderModel" 237 ⟨"FilterReaderModel", "condition", "()V"⟩ ∈ Tall := tw5 121 rfl rfl
theorem lk_M_240 : Cond.methodLink "FilterReaderModel" 240 ⟨"FilterReaderModel", "whole", "()V"⟩ ∈ Tall := tw5 101 rfl rfl
theorem lk_M_243 : Cond.methodLink "FilterReaderModel" 243 ⟨"FilterReaderModel", "need", "(Ljava/lang/String;)V"⟩ ∈ Tall := tw5 97 rfl rfl
theorem lk_M_246 : Cond.methodLink "FilterReaderModel" 246 ⟨"FilterReaderModel", "hide", "(IZ)V"⟩ ∈ Tall := tw5 117 rfl rfl
theorem lk_M_250 : Cond.methodLink "FilterReaderModel" 250 ⟨"FilterReaderModel", "string", "(Z)V"⟩ ∈ Tall := tw4 233 rfl rfl
theorem lk_M_254 : Cond.methodLink "FilterReaderModel" 254 ⟨"FilterReaderModel", "field", "()V"⟩ ∈ Tall := tw5 56 rfl rfl
theorem lk_M_257 : Cond.methodLink "FilterReaderModel" 257 ⟨"FilterReaderModel", "object", "()V"⟩ ∈ Tall := tw5 60 rfl rfl
theorem lk_M_260 : Cond.methodLink "FilterReaderModel" 260 ⟨"FilterReaderModel", "variable", "()V"⟩ ∈ Tall := tw5 68 rfl rfl
theorem lk_M_263 : Cond.methodLink "FilterReaderModel" 263 ⟨"FilterReaderModel", "named", "()V"⟩ ∈ Tall := tw5 80 rfl rfl
theorem lk_M_266 : Cond.methodLink "FilterReaderModel" 266 ⟨"FilterReaderModel", "behindTerm", "()Z"⟩ ∈ Tall := tw5 89 rfl rfl
theorem lk_M_269 : Cond.methodLink "FilterReaderModel" 269 ⟨"FilterReaderModel", "has", "(III)Z"⟩ ∈ Tall := tw5 72 rfl rfl
theorem lk_M_272 : Cond.methodLink "FilterReaderModel" 272 ⟨"FilterReaderModel", "kindOf", "(III)I"⟩ ∈ Tall := tw5 84 rfl rfl
theorem lk_M_278 : Cond.methodLink "FilterReaderModel" 278 ⟨"FilterReaderModel", "entry", "()V"⟩ ∈ Tall := tw5 64 rfl rfl
theorem lk_M_284 : Cond.methodLink "FilterReaderModel" 284 ⟨"FilterReaderModel", "pattern", "()V"⟩ ∈ Tall := tw5 105 rfl rfl
theorem lk_M_287 : Cond.methodLink "FilterReaderModel" 287 ⟨"FilterReaderModel", "another", "()V"⟩ ∈ Tall := tw5 109 rfl rfl
theorem lk_M_290 : Cond.methodLink "FilterReaderModel" 290 ⟨"FilterReaderModel", "entryOfPattern", "()V"⟩ ∈ Tall := tw5 113 rfl rfl
theorem lk_M_293 : Cond.methodLink "FilterReaderModel" 293 ⟨"FilterReaderModel", "hex", "(I)I"⟩ ∈ Tall := tw4 237 rfl rfl
theorem lk_M_298 : Cond.methodLink "FilterReaderModel" 298 ⟨"java/lang/String", "indexOf", "(I)I"⟩ ∈ Tall := tw5 1 rfl rfl
theorem lf_M_110 : Cond.fieldLink "FilterReaderModel" 110 "FilterReaderModel" "n" "I" ∈ Tall := tw4 26 rfl rfl
theorem lf_M_113 : Cond.fieldLink "FilterReaderModel" 113 "FilterReaderModel" "known" "I" ∈ Tall := tw4 33 rfl rfl
theorem lf_M_116 : Cond.fieldLink "FilterReaderModel" 116 "FilterReaderModel" "open" "I" ∈ Tall := tw4 30 rfl rfl
theorem lf_M_119 : Cond.fieldLink "FilterReaderModel" 119 "FilterReaderModel" "behind" "I" ∈ Tall := tw4 28 rfl rfl
theorem lf_M_128 : Cond.fieldLink "FilterReaderModel" 128 "FilterReaderModel" "token" "I" ∈ Tall := tw4 29 rfl rfl
theorem lf_M_131 : Cond.fieldLink "FilterReaderModel" 131 "FilterReaderModel" "at" "I" ∈ Tall := tw4 27 rfl rfl
theorem lf_M_281 : Cond.fieldLink "FilterReaderModel" 281 "FilterReaderModel" "patterned" "I" ∈ Tall := tw4 39 rfl rfl
theorem lf_M_39 : Cond.fieldLink "FilterReaderModel" 39 "FilterReaderModel" "words" "[Ljava/lang/String;" ∈ Tall := tw4 18 rfl rfl
theorem lf_M_64 : Cond.fieldLink "FilterReaderModel" 64 "FilterReaderModel" "broken" "Ljava/lang/IllegalStateException;" ∈ Tall := tw4 22 rfl rfl
theorem lf_M_68 : Cond.fieldLink "FilterReaderModel" 68 "FilterReaderModel" "place" "I" ∈ Tall := tw4 25 rfl rfl
theorem lf_M_72 : Cond.fieldLink "FilterReaderModel" 72 "FilterReaderModel" "tape" "[B" ∈ Tall := tw4 31 rfl rfl
theorem lf_M_76 : Cond.fieldLink "FilterReaderModel" 76 "FilterReaderModel" "many" "[I" ∈ Tall := tw4 32 rfl rfl
theorem lf_M_80 : Cond.fieldLink "FilterReaderModel" 80 "FilterReaderModel" "what" "[I" ∈ Tall := tw4 34 rfl rfl
theorem lf_M_83 : Cond.fieldLink "FilterReaderModel" 83 "FilterReaderModel" "where" "[I" ∈ Tall := tw4 35 rfl rfl
theorem lf_M_86 : Cond.fieldLink "FilterReaderModel" 86 "FilterReaderModel" "size" "[I" ∈ Tall := tw4 36 rfl rfl
theorem lf_M_89 : Cond.fieldLink "FilterReaderModel" 89 "FilterReaderModel" "parameters" "[I" ∈ Tall := tw4 37 rfl rfl
theorem lf_M_92 : Cond.fieldLink "FilterReaderModel" 92 "FilterReaderModel" "later" "[Z" ∈ Tall := tw4 38 rfl rfl
theorem lf_M_96 : Cond.fieldLink "FilterReaderModel" 96 "FilterReaderModel" "thrown" "I" ∈ Tall := tw4 23 rfl rfl
theorem lf_M_99 : Cond.fieldLink "FilterReaderModel" 99 "FilterReaderModel" "taped" "I" ∈ Tall := tw4 24 rfl rfl
abbrev tb_M : jm_T := ([(39, 0, 0), (64, 0, 4), (68, 0, 7), (72, 0, 13), (76, 0, 14), (80, 0, 16), (83, 0, 17), (86, 0, 18), (89, 0, 19), (92, 0, 20), (96, 0, 5), (99, 0, 6), (110, 0, 8), (113, 0, 15), (116, 0, 12), (119, 0, 10), (128, 0, 11), (131, 0, 9), (281, 0, 21)], [], [(162, .long 9007199254740992), (164, .long 10), (166, .long 48)])
set_option maxRecDepth 100000 in
theorem tk_M {l : Launch} {D : va_G} {ad : Nat → Nat} {aC : Nat → ClassId} {b0 : Nat} : jm_TOk (jm_PP l D clR ad aC shR b0 0) "FilterReaderModel" tb_M := ⟨List.forall_mem_cons.mpr ⟨jm_FOk.mk (C := "FilterReaderModel") (T := T_M) (N := 22) (ty := ty_M) rfl (by decide) rfl wi_M tk_M_ty tk_M_nm lf_M_39 (by decide +kernel), List.forall_mem_cons.mpr ⟨jm_FOk.mk (C := "FilterReaderModel") (T := T_M) (N := 22) (ty := ty_M) rfl (by decide) rfl wi_M tk_M_ty tk_M_nm lf_M_64 (by decide +kernel), List.forall_mem_cons.mpr ⟨jm_FOk.mk (C := "FilterReaderModel") (T := T_M) (N := 22) (ty := ty_M) rfl (by decide) rfl wi_M tk_M_ty tk_M_nm lf_M_68 (by decide +kernel), List.forall_mem_cons.mpr ⟨jm_FOk.mk (C := "FilterReaderModel") (T := T_M) (N := 22) (ty := ty_M) rfl (by decide) rfl wi_M tk_M_ty tk_M_nm lf_M_72 (by decide +kernel), List.forall_mem_cons.mpr ⟨jm_FOk.mk (C := "FilterReaderModel") (T := T_M) (N := 22) (ty := ty_M) rfl (by decide) rfl wi_M tk_M_ty tk_M_nm lf_M_76 (by decide +kernel), List.forall_mem_cons.mpr ⟨jm_FOk.mk (C := "FilterReaderModel") (T := T_M) (N := 22) (ty := ty_M) rfl (by decide) rfl wi_M tk_M_ty tk_M_nm lf_M_80 (by decide +kernel), List.forall_mem_cons.mpr ⟨jm_FOk.mk (C := "FilterReaderModel") (T := T_M) (N := 22) (ty := ty_M) rfl (by decide) rfl wi_M tk_M_ty tk_M_nm lf_M_83 (by decide +kernel), List.forall_mem_cons.mpr ⟨jm_FOk.mk (C := "FilterReaderModel") (T := T_M) (N := 22) (ty := ty_M) rfl (by decide) rfl wi_M tk_M_ty tk_M_nm lf_M_86 (by decide +kernel), List.forall_mem_cons.mpr ⟨jm_FOk.mk (C := "FilterReaderModel") (T := T_M) (N := 22) (ty := ty_M) rfl (by decide) rfl wi_M tk_M_ty tk_M_nm lf_M_89 (by decide +kernel), List.forall_mem_cons.mpr ⟨jm_FOk.mk (C := "FilterReaderModel") (T := T_M) (N := 22) (ty := ty_M) rfl (by decide) rfl wi_M tk_M_ty tk_M_nm lf_M_92 (by decide +kernel), List.forall_mem_cons.mpr ⟨jm_FOk.mk (C := "FilterReaderModel") (T := T_M) (N := 22) (ty := ty_M) rfl (by decide) rfl wi_M tk_M_ty tk_M_nm lf_M_96 (by decide +kernel), List.forall_mem_cons.mpr ⟨jm_FOk.mk (C := "FilterReaderModel") (T := T_M) (N := 22) (ty := ty_M) rfl (by decide) rfl wi_M tk_M_ty tk_M_nm lf_M_99 (by decide +kernel), List.forall_mem_cons.mpr ⟨jm_FOk.mk (C := "FilterReaderModel") (T := T_M) (N := 22) (ty := ty_M) rfl (by decide) rfl wi_M tk_M_ty tk_M_nm lf_M_110 (by decide +kernel), List.forall_mem_cons.mpr ⟨jm_FOk.mk (C := "FilterReaderModel") (T := T_M) (N := 22) (ty := ty_M) rfl (by decide) rfl wi_M tk_M_ty tk_M_nm lf_M_113 (by decide +kernel), List.forall_mem_cons.mpr ⟨jm_FOk.mk (C := "FilterReaderModel") (T := T_M) (N := 22) (ty := ty_M) rfl (by decide) rfl wi_M tk_M_ty tk_M_nm lf_M_116 (by decide +kernel), List.forall_mem_cons.mpr ⟨jm_FOk.mk (C := "FilterReaderModel") (T := T_M) (N := 22) (ty := ty_M) rfl (by decide) rfl wi_M tk_M_ty tk_M_nm lf_M_119 (by decide +kernel), List.forall_mem_cons.mpr ⟨jm_FOk.mk (C := "FilterReaderModel") (T := T_M) (N := 22) (ty := ty_M) rfl (by decide) rfl wi_M tk_M_ty tk_M_nm lf_M_128 (by decide +kernel), List.forall_mem_cons.mpr ⟨jm_FOk.mk (C := "FilterReaderModel") (T := T_M) (N := 22) (ty := ty_M) rfl (by decide) rfl wi_M tk_M_ty tk_M_nm lf_M_131 (by decide +kernel), List.forall_mem_cons.mpr ⟨jm_FOk.mk (C := "FilterReaderModel") (T := T_M) (N := 22) (ty := ty_M) rfl (by decide) rfl wi_M tk_M_ty tk_M_nm lf_M_281 (by decide +kernel), fun _ h => absurd h List.not_mem_nil⟩⟩⟩⟩⟩⟩⟩⟩⟩⟩⟩⟩⟩⟩⟩⟩⟩⟩⟩, fun _ h => absurd h List.not_mem_nil, List.forall_mem_cons.mpr ⟨Or.inr ⟨9007199254740992, rfl, tw4 148 rfl rfl⟩, List.forall_mem_cons.mpr ⟨Or.inr ⟨10, rfl, tw4 149 rfl rfl⟩, List.forall_mem_cons.mpr ⟨Or.inr ⟨48, rfl, tw4 150 rfl rfl⟩, fun _ h => absurd h List.not_mem_nil⟩⟩⟩⟩
def jm_oV (v : Option Value) (r : Option jm_R) : Option jm_R := match v with
  | none => r
  | _ => none
def jm_oA (v : Option Value) (f : Nat → Option jm_R) : Option jm_R := match v with
  | some (.ref b) => f b
  | _ => none
theorem jm_V.oV {P : jm_P} {M : jm_M} {d pc : Nat} {ls : List (Nat × Value)} {rest : List Value} {x : jm_X} {v : Option Value} {r : Option jm_R} (k : jm_V P M d pc ls rest x r) : jm_V P M d pc ls (v.toList ++ rest) x (jm_oV v r) := by
  match v with
  | none => exact k
  | some _ => exact jm_V.stuck
theorem jm_V.oA {P : jm_P} {M : jm_M} {d pc : Nat} {ls : List (Nat × Value)} {rest : List Value} {x : jm_X} {v : Option Value} {f : Nat → Option jm_R} (k : ∀ b, jm_V P M d pc ls (.ref b :: rest) x (f b)) : jm_V P M d pc ls (v.toList ++ rest) x (jm_oA v f) := by
  match v with
  | some (.ref b) => exact k b
  | none => exact jm_V.stuck
  | some (.int _) => exact jm_V.stuck
  | some (.long _) => exact jm_V.stuck
  | some (.float _) => exact jm_V.stuck
  | some (.double _) => exact jm_V.stuck
  | some .null => exact jm_V.stuck
  | some (.retAddr _) => exact jm_V.stuck
theorem jm_V.iteS {P : jm_P} {M : jm_M} {d pc : Nat} {ls : List (Nat × Value)} {st : List Value} {x : jm_X} {C : Prop} {dc : Decidable C} {r : Option jm_R} (k : C → jm_V P M d pc ls st x r) : jm_V P M d pc ls st x (@_root_.ite _ C dc r none) := by
  by_cases h : C
  · rw [if_pos h]; exact k h
  · rw [if_neg h]; exact jm_V.stuck
/-- a String constant behind ldc_w -/
theorem jm_V.ldsw {P : jm_P} {M : jm_M} {d pc idx o : Nat} {ls : List (Nat × Value)} {st : List Value} {x : jm_X} {r : Option jm_R} {tx : String} (hF : ∀ (s : State) (H : Heap), jm_sg P s H → vk_R M.1.cls idx tx (jm_a P o) s) (hd : decode M.2.1 pc = .ok (.ldc_w idx, 3)) (k : jm_V P M d (pc + 3) ls (.ref o :: st) x r) : jm_V P M d pc ls st x r := by
  intro q hq p e s m args below meth c H locs la hC hl hP hS T hT X
  obtain ⟨hx, hb, hml, hret, hlocks, hown, hno, hG⟩ := id hC
  obtain ⟨hZ1, hZ2⟩ := hF s s.heap hG.2.2.2.2.2.2
  obtain ⟨t, a1, b1⟩ := k q hq p e s m args below meth c H locs la hC hl hP hS T hT X
  refine ⟨t, ?_, b1⟩
  obtain ⟨kc, cf, i, a', hk, hcf, hcp, -, hr, hev'⟩ := Cond.stringRef_spec hown hZ1
  cases hZ2.symm.trans hev'
  have hd' : decode c.code pc = .ok (.ldc_w idx, 3) := by rw [hb]; exact hd
  obtain ⟨k', hk', he⟩ := X.warmed.alike.2.2 _ _ hk
  have hr' : k'.resolved[idx]? = some (some (.string (jm_a P o))) := by
    rcases X.warmed.entry hk hk' idx with h | ⟨h, -⟩
    · rw [h]; exact hr
    · rw [hr] at h; cases h
  jvm_step X.here [hx, hd', ldc_w.wp_string (s := T) (f := F0 m pc la (jm_st (jm_a P) st)) X.here.top hk' (by rw [he]; exact hcf) hcp hr']
  exact a1
/-- a thrown object that comes out of a call -/
theorem jm_V.athrowS {P : jm_P} {M : jm_M} {d pc o b ci : Nat} {ls : List (Nat × Value)} {st : List Value} {x : jm_X} {fs : List Nat} {q : vw_C} (hs : (jm_h P)[o]? = some (.inr (.inr (ci, fs)))) (hc : (jm_c P)[ci]? = some q) (hd : decode M.2.1 pc = .ok (.athrow, 1)) (hu : jm_unc M.2.2.2.2 pc = true := by rfl) :
    jm_V P M d pc ls (.ref b :: st) x (if b = o then some (.inr (q.1, x)) else none) := by
  split
  · rename_i h; subst h; exact jm_V.athrow hs hc hd hu
  · exact jm_V.stuck

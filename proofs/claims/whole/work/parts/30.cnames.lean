/-! THE CLASS: classes, shapes, words, links. Printed by wip/whole/printC.py. -/
def T_FR : u_T := fun k => match k with
  | 0 => ("FilterReader", "tape", "[B", true)
  | 1 => ("FilterReader", "grammar", "LFilterReader$Grammar;", true)
  | _ => ("FilterReader", "length", "I", false)
def ty_FR : Nat → FieldType := fun k => match k with
  | 0 => (.array .byte)
  | 1 => (.object "FilterReader$Grammar")
  | _ => .int
theorem tk_FR_nm : ∀ a, a < 3 → ∀ b, b < 3 → a ≠ b → (T_FR a).2.1 ≠ (T_FR b).2.1 := by decide +kernel
theorem tk_FR_ty : ∀ k, k < 3 → parseFieldDescriptor (T_FR k).2.2.1 = some (ty_FR k) := by decide +kernel
theorem wi_FR : ∀ w ∈ u_ws "FilterReader" T_FR 3, w ∈ Tall := tl (by decide +kernel) (by decide +kernel)
def T_G : u_T := fun k => match k with
  | 0 => ("FilterReader$Grammar", "counts", "[I", true)
  | 1 => ("FilterReader$Grammar", "signs", "LFilterReader$Signs;", true)
  | 2 => ("FilterReader$Grammar", "names", "LFilterReader$Names;", true)
  | 3 => ("FilterReader$Grammar", "total", "I", false)
  | _ => ("FilterReader$Grammar", "brokenPlace", "I", false)
def ty_G : Nat → FieldType := fun k => match k with
  | 0 => (.array .int)
  | 1 => (.object "FilterReader$Signs")
  | 2 => (.object "FilterReader$Names")
  | 3 => .int
  | _ => .int
theorem tk_G_nm : ∀ a, a < 5 → ∀ b, b < 5 → a ≠ b → (T_G a).2.1 ≠ (T_G b).2.1 := by decide +kernel
theorem tk_G_ty : ∀ k, k < 5 → parseFieldDescriptor (T_G k).2.2.1 = some (ty_G k) := by decide +kernel
theorem wi_G : ∀ w ∈ u_ws "FilterReader$Grammar" T_G 5, w ∈ Tall := tl (by decide +kernel) (by decide +kernel)
def T_S : u_T := fun k => match k with
  | 0 => ("FilterReader$Signs", "tape", "[B", false)
  | 1 => ("FilterReader$Signs", "length", "I", false)
  | 2 => ("FilterReader$Signs", "start", "I", false)
  | 3 => ("FilterReader$Signs", "behind", "I", false)
  | _ => ("FilterReader$Signs", "sign", "LFilterReader$Sign;", false)
def ty_S : Nat → FieldType := fun k => match k with
  | 0 => (.array .byte)
  | 1 => .int
  | 2 => .int
  | 3 => .int
  | _ => (.object "FilterReader$Sign")
theorem tk_S_nm : ∀ a, a < 5 → ∀ b, b < 5 → a ≠ b → (T_S a).2.1 ≠ (T_S b).2.1 := by decide +kernel
theorem tk_S_ty : ∀ k, k < 5 → parseFieldDescriptor (T_S k).2.2.1 = some (ty_S k) := by decide +kernel
theorem wi_S : ∀ w ∈ u_ws "FilterReader$Signs" T_S 5, w ∈ Tall := tl (by decide +kernel) (by decide +kernel)
def T_N : u_T := fun k => match k with
  | 0 => ("FilterReader$Names", "sorts", "[I", true)
  | 1 => ("FilterReader$Names", "starts", "[I", true)
  | 2 => ("FilterReader$Names", "sizes", "[I", true)
  | 3 => ("FilterReader$Names", "parameters", "[I", true)
  | 4 => ("FilterReader$Names", "tape", "[B", false)
  | _ => ("FilterReader$Names", "size", "I", false)
def ty_N : Nat → FieldType := fun k => match k with
  | 0 => (.array .int)
  | 1 => (.array .int)
  | 2 => (.array .int)
  | 3 => (.array .int)
  | 4 => (.array .byte)
  | _ => .int
theorem tk_N_nm : ∀ a, a < 6 → ∀ b, b < 6 → a ≠ b → (T_N a).2.1 ≠ (T_N b).2.1 := by decide +kernel
theorem tk_N_ty : ∀ k, k < 6 → parseFieldDescriptor (T_N k).2.2.1 = some (ty_N k) := by decide +kernel
theorem wi_N : ∀ w ∈ u_ws "FilterReader$Names" T_N 6, w ∈ Tall := tl (by decide +kernel) (by decide +kernel)
abbrev clC : List vw_C := [("FilterReader", T_FR, 3), ("FilterReader$Grammar", T_G, 5), ("FilterReader$Signs", T_S, 5), ("FilterReader$Names", T_N, 6)]
abbrev shC : List jm_S := [.inr (.inr (0, [3, 4, 0])), .inl (.byte, 16384), .inr (.inr (1, [5, 6, 8, 0, 0])), .inl (.int, 34), .inr (.inr (2, [1, 0, 0, 0, 1])), .inl (.byte, 0), .inr (.inr (3, [9, 10, 11, 12, 1, 0])), .inl (.int, 1400), .inl (.int, 1400), .inl (.int, 1400), .inl (.int, 1400), .inl (.byte, 0)]
abbrev mt_JA_fill : jm_M := (⟨"java/util/Arrays", "fill", "([II)V"⟩, prog_25_method_103_code, 4, none, [])
theorem mw_JA_fill : jm_cw mt_JA_fill ∈ Tall := tw2 5 rfl rfl
theorem mh_JA_fill : mt_JA_fill.1.cls ≠ "java/lang/invoke/MethodHandle" ∧ mt_JA_fill.1.cls ≠ "java/lang/invoke/VarHandle" := by decide +kernel
theorem ml_JA_fill : (parseMethodDescriptor mt_JA_fill.1.desc).map (fun q => q.parameters.length) = some 2 := by decide +kernel
theorem mq_JA_fill : Cond.static mt_JA_fill.1 ∈ Tall := tw2 4 rfl rfl
abbrev mt_B_isBlank : jm_M := (⟨"FilterReader$Bytes", "isBlank", "(I)Z"⟩, prog_3_method_2_code, 1, (some .boolean), [])
theorem mw_B_isBlank : jm_cw mt_B_isBlank ∈ Tall := tw2 32 rfl rfl
theorem mh_B_isBlank : mt_B_isBlank.1.cls ≠ "java/lang/invoke/MethodHandle" ∧ mt_B_isBlank.1.cls ≠ "java/lang/invoke/VarHandle" := by decide +kernel
theorem ml_B_isBlank : (parseMethodDescriptor mt_B_isBlank.1.desc).map (fun q => q.parameters.length) = some 1 := by decide +kernel
theorem mq_B_isBlank : Cond.static mt_B_isBlank.1 ∈ Tall := tw2 31 rfl rfl
abbrev mt_B_isDigit : jm_M := (⟨"FilterReader$Bytes", "isDigit", "(I)Z"⟩, prog_3_method_3_code, 1, (some .boolean), [])
theorem mw_B_isDigit : jm_cw mt_B_isDigit ∈ Tall := tw2 35 rfl rfl
theorem mh_B_isDigit : mt_B_isDigit.1.cls ≠ "java/lang/invoke/MethodHandle" ∧ mt_B_isDigit.1.cls ≠ "java/lang/invoke/VarHandle" := by decide +kernel
theorem ml_B_isDigit : (parseMethodDescriptor mt_B_isDigit.1.desc).map (fun q => q.parameters.length) = some 1 := by decide +kernel
theorem mq_B_isDigit : Cond.static mt_B_isDigit.1 ∈ Tall := tw2 34 rfl rfl
abbrev mt_B_startsName : jm_M := (⟨"FilterReader$Bytes", "startsName", "(I)Z"⟩, prog_3_method_4_code, 1, (some .boolean), [])
theorem mw_B_startsName : jm_cw mt_B_startsName ∈ Tall := tw2 52 rfl rfl
theorem mh_B_startsName : mt_B_startsName.1.cls ≠ "java/lang/invoke/MethodHandle" ∧ mt_B_startsName.1.cls ≠ "java/lang/invoke/VarHandle" := by decide +kernel
theorem ml_B_startsName : (parseMethodDescriptor mt_B_startsName.1.desc).map (fun q => q.parameters.length) = some 1 := by decide +kernel
theorem mq_B_startsName : Cond.static mt_B_startsName.1 ∈ Tall := tw2 51 rfl rfl
abbrev mt_B_isOfName : jm_M := (⟨"FilterReader$Bytes", "isOfName", "(I)Z"⟩, prog_3_method_5_code, 1, (some .boolean), [])
theorem mw_B_isOfName : jm_cw mt_B_isOfName ∈ Tall := tw2 59 rfl rfl
theorem mh_B_isOfName : mt_B_isOfName.1.cls ≠ "java/lang/invoke/MethodHandle" ∧ mt_B_isOfName.1.cls ≠ "java/lang/invoke/VarHandle" := by decide +kernel
theorem ml_B_isOfName : (parseMethodDescriptor mt_B_isOfName.1.desc).map (fun q => q.parameters.length) = some 1 := by decide +kernel
theorem mq_B_isOfName : Cond.static mt_B_isOfName.1 ∈ Tall := tw2 58 rfl rfl
abbrev mt_B_isEscaped : jm_M := (⟨"FilterReader$Bytes", "isEscaped", "(I)Z"⟩, prog_3_method_6_code, 1, (some .boolean), [])
theorem mw_B_isEscaped : jm_cw mt_B_isEscaped ∈ Tall := tw3 51 rfl rfl
theorem mh_B_isEscaped : mt_B_isEscaped.1.cls ≠ "java/lang/invoke/MethodHandle" ∧ mt_B_isEscaped.1.cls ≠ "java/lang/invoke/VarHandle" := by decide +kernel
theorem ml_B_isEscaped : (parseMethodDescriptor mt_B_isEscaped.1.desc).map (fun q => q.parameters.length) = some 1 := by decide +kernel
theorem mq_B_isEscaped : Cond.static mt_B_isEscaped.1 ∈ Tall := tw3 50 rfl rfl
abbrev mt_B_hexDigit : jm_M := (⟨"FilterReader$Bytes", "hexDigit", "(I)I"⟩, prog_3_method_7_code, 1, (some .int), [])
theorem mw_B_hexDigit : jm_cw mt_B_hexDigit ∈ Tall := tw3 47 rfl rfl
theorem mh_B_hexDigit : mt_B_hexDigit.1.cls ≠ "java/lang/invoke/MethodHandle" ∧ mt_B_hexDigit.1.cls ≠ "java/lang/invoke/VarHandle" := by decide +kernel
theorem ml_B_hexDigit : (parseMethodDescriptor mt_B_hexDigit.1.desc).map (fun q => q.parameters.length) = some 1 := by decide +kernel
theorem mq_B_hexDigit : Cond.static mt_B_hexDigit.1 ∈ Tall := tw3 46 rfl rfl
abbrev mt_B_isText : jm_M := (⟨"FilterReader$Bytes", "isText", "([BIILjava/lang/String;I)Z"⟩, prog_3_method_8_code, 6, (some .boolean), [])
theorem mw_B_isText : jm_cw mt_B_isText ∈ Tall := tw2 77 rfl rfl
theorem mh_B_isText : mt_B_isText.1.cls ≠ "java/lang/invoke/MethodHandle" ∧ mt_B_isText.1.cls ≠ "java/lang/invoke/VarHandle" := by decide +kernel
theorem ml_B_isText : (parseMethodDescriptor mt_B_isText.1.desc).map (fun q => q.parameters.length) = some 5 := by decide +kernel
theorem mq_B_isText : Cond.static mt_B_isText.1 ∈ Tall := tw2 76 rfl rfl
abbrev mt_B_same : jm_M := (⟨"FilterReader$Bytes", "same", "([BIII)Z"⟩, prog_3_method_9_code, 5, (some .boolean), [])
theorem mw_B_same : jm_cw mt_B_same ∈ Tall := tw3 96 rfl rfl
theorem mh_B_same : mt_B_same.1.cls ≠ "java/lang/invoke/MethodHandle" ∧ mt_B_same.1.cls ≠ "java/lang/invoke/VarHandle" := by decide +kernel
theorem ml_B_same : (parseMethodDescriptor mt_B_same.1.desc).map (fun q => q.parameters.length) = some 4 := by decide +kernel
theorem mq_B_same : Cond.static mt_B_same.1 ∈ Tall := tw3 95 rfl rfl
abbrev mt_K_isKind : jm_M := (⟨"FilterReader$Kind", "isKind", "(I)Z"⟩, prog_5_method_2_code, 1, (some .boolean), [])
theorem mw_K_isKind : jm_cw mt_K_isKind ∈ Tall := tw3 212 rfl rfl
theorem mh_K_isKind : mt_K_isKind.1.cls ≠ "java/lang/invoke/MethodHandle" ∧ mt_K_isKind.1.cls ≠ "java/lang/invoke/VarHandle" := by decide +kernel
theorem ml_K_isKind : (parseMethodDescriptor mt_K_isKind.1.desc).map (fun q => q.parameters.length) = some 1 := by decide +kernel
theorem mq_K_isKind : Cond.static mt_K_isKind.1 ∈ Tall := tw3 211 rfl rfl
abbrev mt_E_ofName : jm_M := (⟨"FilterReader$Sign", "ofName", "([BII)LFilterReader$Sign;"⟩, prog_8_method_5_code, 5, (some (.object "FilterReader$Sign")), [])
theorem mw_E_ofName : jm_cw mt_E_ofName ∈ Tall := tw2 62 rfl rfl
theorem mh_E_ofName : mt_E_ofName.1.cls ≠ "java/lang/invoke/MethodHandle" ∧ mt_E_ofName.1.cls ≠ "java/lang/invoke/VarHandle" := by decide +kernel
theorem ml_E_ofName : (parseMethodDescriptor mt_E_ofName.1.desc).map (fun q => q.parameters.length) = some 3 := by decide +kernel
theorem mq_E_ofName : Cond.static mt_E_ofName.1 ∈ Tall := tw2 61 rfl rfl
abbrev mt_E_ofSymbol : jm_M := (⟨"FilterReader$Sign", "ofSymbol", "([BII)LFilterReader$Sign;"⟩, prog_8_method_6_code, 7, (some (.object "FilterReader$Sign")), [])
theorem mw_E_ofSymbol : jm_cw mt_E_ofSymbol ∈ Tall := tw2 125 rfl rfl
theorem mh_E_ofSymbol : mt_E_ofSymbol.1.cls ≠ "java/lang/invoke/MethodHandle" ∧ mt_E_ofSymbol.1.cls ≠ "java/lang/invoke/VarHandle" := by decide +kernel
theorem ml_E_ofSymbol : (parseMethodDescriptor mt_E_ofSymbol.1.desc).map (fun q => q.parameters.length) = some 3 := by decide +kernel
theorem mq_E_ofSymbol : Cond.static mt_E_ofSymbol.1 ∈ Tall := tw2 124 rfl rfl
abbrev mt_S_byteAt : jm_M := (⟨"FilterReader$Signs", "byteAt", "(I)I"⟩, prog_9_method_13_code, 2, (some .int), [])
theorem mw_S_byteAt : jm_cw mt_S_byteAt ∈ Tall := tw2 29 rfl rfl
theorem mh_S_byteAt : mt_S_byteAt.1.cls ≠ "java/lang/invoke/MethodHandle" ∧ mt_S_byteAt.1.cls ≠ "java/lang/invoke/VarHandle" := by decide +kernel
theorem ml_S_byteAt : (parseMethodDescriptor mt_S_byteAt.1.desc).map (fun q => q.parameters.length) = some 1 := by decide +kernel
theorem mn_S_byteAt : Cond.instanceMethod mt_S_byteAt.1 ∈ Tall := tw2 28 rfl rfl
theorem ms_S_byteAt : Cond.selects "FilterReader$Signs" mt_S_byteAt.1 mt_S_byteAt.1 ∈ Tall := tp 4 rfl rfl
abbrev mt_S_nameEnd : jm_M := (⟨"FilterReader$Signs", "nameEnd", "(I)I"⟩, prog_9_method_15_code, 3, (some .int), [])
theorem mw_S_nameEnd : jm_cw mt_S_nameEnd ∈ Tall := tw2 56 rfl rfl
theorem mh_S_nameEnd : mt_S_nameEnd.1.cls ≠ "java/lang/invoke/MethodHandle" ∧ mt_S_nameEnd.1.cls ≠ "java/lang/invoke/VarHandle" := by decide +kernel
theorem ml_S_nameEnd : (parseMethodDescriptor mt_S_nameEnd.1.desc).map (fun q => q.parameters.length) = some 1 := by decide +kernel
theorem mn_S_nameEnd : Cond.instanceMethod mt_S_nameEnd.1 ∈ Tall := tw2 55 rfl rfl
theorem ms_S_nameEnd : Cond.selects "FilterReader$Signs" mt_S_nameEnd.1 mt_S_nameEnd.1 ∈ Tall := tp 6 rfl rfl
abbrev mt_S_number : jm_M := (⟨"FilterReader$Signs", "number", "()V"⟩, prog_9_method_16_code, 3, none, [])
theorem mw_S_number : jm_cw mt_S_number ∈ Tall := tw2 39 rfl rfl
theorem mh_S_number : mt_S_number.1.cls ≠ "java/lang/invoke/MethodHandle" ∧ mt_S_number.1.cls ≠ "java/lang/invoke/VarHandle" := by decide +kernel
theorem ml_S_number : (parseMethodDescriptor mt_S_number.1.desc).map (fun q => q.parameters.length) = some 0 := by decide +kernel
theorem mn_S_number : Cond.instanceMethod mt_S_number.1 ∈ Tall := tw2 38 rfl rfl
theorem ms_S_number : Cond.selects "FilterReader$Signs" mt_S_number.1 mt_S_number.1 ∈ Tall := tp 5 rfl rfl
abbrev mt_S_skipBlanks : jm_M := (⟨"FilterReader$Signs", "skipBlanks", "(I)I"⟩, prog_9_method_14_code, 5, (some .int), [])
theorem mw_S_skipBlanks : jm_cw mt_S_skipBlanks ∈ Tall := tw2 25 rfl rfl
theorem mh_S_skipBlanks : mt_S_skipBlanks.1.cls ≠ "java/lang/invoke/MethodHandle" ∧ mt_S_skipBlanks.1.cls ≠ "java/lang/invoke/VarHandle" := by decide +kernel
theorem ml_S_skipBlanks : (parseMethodDescriptor mt_S_skipBlanks.1.desc).map (fun q => q.parameters.length) = some 1 := by decide +kernel
theorem mn_S_skipBlanks : Cond.instanceMethod mt_S_skipBlanks.1 ∈ Tall := tw2 24 rfl rfl
theorem ms_S_skipBlanks : Cond.selects "FilterReader$Signs" mt_S_skipBlanks.1 mt_S_skipBlanks.1 ∈ Tall := tp 3 rfl rfl
abbrev mt_S_next : jm_M := (⟨"FilterReader$Signs", "next", "()V"⟩, prog_9_method_10_code, 2, none, [])
theorem mw_S_next : jm_cw mt_S_next ∈ Tall := tw2 21 rfl rfl
theorem mh_S_next : mt_S_next.1.cls ≠ "java/lang/invoke/MethodHandle" ∧ mt_S_next.1.cls ≠ "java/lang/invoke/VarHandle" := by decide +kernel
theorem ml_S_next : (parseMethodDescriptor mt_S_next.1.desc).map (fun q => q.parameters.length) = some 0 := by decide +kernel
theorem mn_S_next : Cond.instanceMethod mt_S_next.1 ∈ Tall := tw2 19 rfl rfl
theorem ms_S_next : Cond.selects "FilterReader$Signs" mt_S_next.1 mt_S_next.1 ∈ Tall := tw2 20 rfl rfl
abbrev mt_S_goTo : jm_M := (⟨"FilterReader$Signs", "goTo", "(I)V"⟩, prog_9_method_9_code, 2, none, [])
theorem mw_S_goTo : jm_cw mt_S_goTo ∈ Tall := tw2 17 rfl rfl
theorem mh_S_goTo : mt_S_goTo.1.cls ≠ "java/lang/invoke/MethodHandle" ∧ mt_S_goTo.1.cls ≠ "java/lang/invoke/VarHandle" := by decide +kernel
theorem ml_S_goTo : (parseMethodDescriptor mt_S_goTo.1.desc).map (fun q => q.parameters.length) = some 1 := by decide +kernel
theorem mn_S_goTo : Cond.instanceMethod mt_S_goTo.1 ∈ Tall := tw2 15 rfl rfl
theorem ms_S_goTo : Cond.selects "FilterReader$Signs" mt_S_goTo.1 mt_S_goTo.1 ∈ Tall := tw2 16 rfl rfl
abbrev mt_S_begin : jm_M := (⟨"FilterReader$Signs", "begin", "([BI)V"⟩, prog_9_method_2_code, 3, none, [])
theorem mw_S_begin : jm_cw mt_S_begin ∈ Tall := tw2 13 rfl rfl
theorem mh_S_begin : mt_S_begin.1.cls ≠ "java/lang/invoke/MethodHandle" ∧ mt_S_begin.1.cls ≠ "java/lang/invoke/VarHandle" := by decide +kernel
theorem ml_S_begin : (parseMethodDescriptor mt_S_begin.1.desc).map (fun q => q.parameters.length) = some 2 := by decide +kernel
theorem mn_S_begin : Cond.instanceMethod mt_S_begin.1 ∈ Tall := tw2 11 rfl rfl
theorem ms_S_begin : Cond.selects "FilterReader$Signs" mt_S_begin.1 mt_S_begin.1 ∈ Tall := tw2 12 rfl rfl
abbrev mt_S_sign : jm_M := (⟨"FilterReader$Signs", "sign", "()LFilterReader$Sign;"⟩, prog_9_method_3_code, 1, (some (.object "FilterReader$Sign")), [])
theorem mw_S_sign : jm_cw mt_S_sign ∈ Tall := tw3 12 rfl rfl
theorem mh_S_sign : mt_S_sign.1.cls ≠ "java/lang/invoke/MethodHandle" ∧ mt_S_sign.1.cls ≠ "java/lang/invoke/VarHandle" := by decide +kernel
theorem ml_S_sign : (parseMethodDescriptor mt_S_sign.1.desc).map (fun q => q.parameters.length) = some 0 := by decide +kernel
theorem mn_S_sign : Cond.instanceMethod mt_S_sign.1 ∈ Tall := tw3 10 rfl rfl
theorem ms_S_sign : Cond.selects "FilterReader$Signs" mt_S_sign.1 mt_S_sign.1 ∈ Tall := tw3 11 rfl rfl
abbrev mt_S_is : jm_M := (⟨"FilterReader$Signs", "is", "(LFilterReader$Sign;)Z"⟩, prog_9_method_4_code, 2, (some .boolean), [])
theorem mw_S_is : jm_cw mt_S_is ∈ Tall := tw2 145 rfl rfl
theorem mh_S_is : mt_S_is.1.cls ≠ "java/lang/invoke/MethodHandle" ∧ mt_S_is.1.cls ≠ "java/lang/invoke/VarHandle" := by decide +kernel
theorem ml_S_is : (parseMethodDescriptor mt_S_is.1.desc).map (fun q => q.parameters.length) = some 1 := by decide +kernel
theorem mn_S_is : Cond.instanceMethod mt_S_is.1 ∈ Tall := tw2 143 rfl rfl
theorem ms_S_is : Cond.selects "FilterReader$Signs" mt_S_is.1 mt_S_is.1 ∈ Tall := tw2 144 rfl rfl
abbrev mt_S_isNameOrWord : jm_M := (⟨"FilterReader$Signs", "isNameOrWord", "()Z"⟩, prog_9_method_5_code, 1, (some .boolean), [])
theorem mw_S_isNameOrWord : jm_cw mt_S_isNameOrWord ∈ Tall := tw3 104 rfl rfl
theorem mh_S_isNameOrWord : mt_S_isNameOrWord.1.cls ≠ "java/lang/invoke/MethodHandle" ∧ mt_S_isNameOrWord.1.cls ≠ "java/lang/invoke/VarHandle" := by decide +kernel
theorem ml_S_isNameOrWord : (parseMethodDescriptor mt_S_isNameOrWord.1.desc).map (fun q => q.parameters.length) = some 0 := by decide +kernel
theorem mn_S_isNameOrWord : Cond.instanceMethod mt_S_isNameOrWord.1 ∈ Tall := tw3 102 rfl rfl
theorem ms_S_isNameOrWord : Cond.selects "FilterReader$Signs" mt_S_isNameOrWord.1 mt_S_isNameOrWord.1 ∈ Tall := tw3 103 rfl rfl
abbrev mt_S_start : jm_M := (⟨"FilterReader$Signs", "start", "()I"⟩, prog_9_method_6_code, 1, (some .int), [])
theorem mw_S_start : jm_cw mt_S_start ∈ Tall := tw2 167 rfl rfl
theorem mh_S_start : mt_S_start.1.cls ≠ "java/lang/invoke/MethodHandle" ∧ mt_S_start.1.cls ≠ "java/lang/invoke/VarHandle" := by decide +kernel
theorem ml_S_start : (parseMethodDescriptor mt_S_start.1.desc).map (fun q => q.parameters.length) = some 0 := by decide +kernel
theorem mn_S_start : Cond.instanceMethod mt_S_start.1 ∈ Tall := tw2 165 rfl rfl
theorem ms_S_start : Cond.selects "FilterReader$Signs" mt_S_start.1 mt_S_start.1 ∈ Tall := tw2 166 rfl rfl
abbrev mt_S_behind : jm_M := (⟨"FilterReader$Signs", "behind", "()I"⟩, prog_9_method_7_code, 1, (some .int), [])
theorem mw_S_behind : jm_cw mt_S_behind ∈ Tall := tw2 198 rfl rfl
theorem mh_S_behind : mt_S_behind.1.cls ≠ "java/lang/invoke/MethodHandle" ∧ mt_S_behind.1.cls ≠ "java/lang/invoke/VarHandle" := by decide +kernel
theorem ml_S_behind : (parseMethodDescriptor mt_S_behind.1.desc).map (fun q => q.parameters.length) = some 0 := by decide +kernel
theorem mn_S_behind : Cond.instanceMethod mt_S_behind.1 ∈ Tall := tw2 196 rfl rfl
theorem ms_S_behind : Cond.selects "FilterReader$Signs" mt_S_behind.1 mt_S_behind.1 ∈ Tall := tw2 197 rfl rfl
abbrev mt_S_nameStart : jm_M := (⟨"FilterReader$Signs", "nameStart", "()I"⟩, prog_9_method_8_code, 1, (some .int), [])
theorem mw_S_nameStart : jm_cw mt_S_nameStart ∈ Tall := tw2 194 rfl rfl
theorem mh_S_nameStart : mt_S_nameStart.1.cls ≠ "java/lang/invoke/MethodHandle" ∧ mt_S_nameStart.1.cls ≠ "java/lang/invoke/VarHandle" := by decide +kernel
theorem ml_S_nameStart : (parseMethodDescriptor mt_S_nameStart.1.desc).map (fun q => q.parameters.length) = some 0 := by decide +kernel
theorem mn_S_nameStart : Cond.instanceMethod mt_S_nameStart.1 ∈ Tall := tw2 192 rfl rfl
theorem ms_S_nameStart : Cond.selects "FilterReader$Signs" mt_S_nameStart.1 mt_S_nameStart.1 ∈ Tall := tw2 193 rfl rfl
abbrev mt_S_isNarrowCode : jm_M := (⟨"FilterReader$Signs", "isNarrowCode", "(I)Z"⟩, prog_9_method_18_code, 5, (some .boolean), [])
theorem mw_S_isNarrowCode : jm_cw mt_S_isNarrowCode ∈ Tall := tw3 44 rfl rfl
theorem mh_S_isNarrowCode : mt_S_isNarrowCode.1.cls ≠ "java/lang/invoke/MethodHandle" ∧ mt_S_isNarrowCode.1.cls ≠ "java/lang/invoke/VarHandle" := by decide +kernel
theorem ml_S_isNarrowCode : (parseMethodDescriptor mt_S_isNarrowCode.1.desc).map (fun q => q.parameters.length) = some 1 := by decide +kernel
theorem mn_S_isNarrowCode : Cond.instanceMethod mt_S_isNarrowCode.1 ∈ Tall := tw3 43 rfl rfl
theorem ms_S_isNarrowCode : Cond.selects "FilterReader$Signs" mt_S_isNarrowCode.1 mt_S_isNarrowCode.1 ∈ Tall := tp 23 rfl rfl
abbrev mt_S_characterSize : jm_M := (⟨"FilterReader$Signs", "characterSize", "(I)I"⟩, prog_9_method_17_code, 4, (some .int), [])
theorem mw_S_characterSize : jm_cw mt_S_characterSize ∈ Tall := tw3 40 rfl rfl
theorem mh_S_characterSize : mt_S_characterSize.1.cls ≠ "java/lang/invoke/MethodHandle" ∧ mt_S_characterSize.1.cls ≠ "java/lang/invoke/VarHandle" := by decide +kernel
theorem ml_S_characterSize : (parseMethodDescriptor mt_S_characterSize.1.desc).map (fun q => q.parameters.length) = some 1 := by decide +kernel
theorem mn_S_characterSize : Cond.instanceMethod mt_S_characterSize.1 ∈ Tall := tw3 39 rfl rfl
theorem ms_S_characterSize : Cond.selects "FilterReader$Signs" mt_S_characterSize.1 mt_S_characterSize.1 ∈ Tall := tp 22 rfl rfl
abbrev mt_S_opensProgram : jm_M := (⟨"FilterReader$Signs", "opensProgram", "(I)Z"⟩, prog_9_method_12_code, 2, (some .boolean), [])
theorem mw_S_opensProgram : jm_cw mt_S_opensProgram ∈ Tall := tw3 36 rfl rfl
theorem mh_S_opensProgram : mt_S_opensProgram.1.cls ≠ "java/lang/invoke/MethodHandle" ∧ mt_S_opensProgram.1.cls ≠ "java/lang/invoke/VarHandle" := by decide +kernel
theorem ml_S_opensProgram : (parseMethodDescriptor mt_S_opensProgram.1.desc).map (fun q => q.parameters.length) = some 1 := by decide +kernel
theorem mn_S_opensProgram : Cond.instanceMethod mt_S_opensProgram.1 ∈ Tall := tw3 34 rfl rfl
theorem ms_S_opensProgram : Cond.selects "FilterReader$Signs" mt_S_opensProgram.1 mt_S_opensProgram.1 ∈ Tall := tw3 35 rfl rfl
abbrev mt_S_pieceEnd : jm_M := (⟨"FilterReader$Signs", "pieceEnd", "(I)I"⟩, prog_9_method_11_code, 5, (some .int), [])
theorem mw_S_pieceEnd : jm_cw mt_S_pieceEnd ∈ Tall := tw3 32 rfl rfl
theorem mh_S_pieceEnd : mt_S_pieceEnd.1.cls ≠ "java/lang/invoke/MethodHandle" ∧ mt_S_pieceEnd.1.cls ≠ "java/lang/invoke/VarHandle" := by decide +kernel
theorem ml_S_pieceEnd : (parseMethodDescriptor mt_S_pieceEnd.1.desc).map (fun q => q.parameters.length) = some 1 := by decide +kernel
theorem mn_S_pieceEnd : Cond.instanceMethod mt_S_pieceEnd.1 ∈ Tall := tw3 30 rfl rfl
theorem ms_S_pieceEnd : Cond.selects "FilterReader$Signs" mt_S_pieceEnd.1 mt_S_pieceEnd.1 ∈ Tall := tw3 31 rfl rfl
abbrev mt_N_begin : jm_M := (⟨"FilterReader$Names", "begin", "([B)V"⟩, prog_7_method_2_code, 2, none, [])
theorem mw_N_begin : jm_cw mt_N_begin ∈ Tall := tw2 9 rfl rfl
theorem mh_N_begin : mt_N_begin.1.cls ≠ "java/lang/invoke/MethodHandle" ∧ mt_N_begin.1.cls ≠ "java/lang/invoke/VarHandle" := by decide +kernel
theorem ml_N_begin : (parseMethodDescriptor mt_N_begin.1.desc).map (fun q => q.parameters.length) = some 1 := by decide +kernel
theorem mn_N_begin : Cond.instanceMethod mt_N_begin.1 ∈ Tall := tw2 7 rfl rfl
theorem ms_N_begin : Cond.selects "FilterReader$Names" mt_N_begin.1 mt_N_begin.1 ∈ Tall := tw2 8 rfl rfl
abbrev mt_N_size : jm_M := (⟨"FilterReader$Names", "size", "()I"⟩, prog_7_method_3_code, 1, (some .int), [])
theorem mw_N_size : jm_cw mt_N_size ∈ Tall := tw2 135 rfl rfl
theorem mh_N_size : mt_N_size.1.cls ≠ "java/lang/invoke/MethodHandle" ∧ mt_N_size.1.cls ≠ "java/lang/invoke/VarHandle" := by decide +kernel
theorem ml_N_size : (parseMethodDescriptor mt_N_size.1.desc).map (fun q => q.parameters.length) = some 0 := by decide +kernel
theorem mn_N_size : Cond.instanceMethod mt_N_size.1 ∈ Tall := tw2 133 rfl rfl
theorem ms_N_size : Cond.selects "FilterReader$Names" mt_N_size.1 mt_N_size.1 ∈ Tall := tw2 134 rfl rfl
abbrev mt_N_add : jm_M := (⟨"FilterReader$Names", "add", "(III)V"⟩, prog_7_method_4_code, 4, none, [])
theorem mw_N_add : jm_cw mt_N_add ∈ Tall := tw2 202 rfl rfl
theorem mh_N_add : mt_N_add.1.cls ≠ "java/lang/invoke/MethodHandle" ∧ mt_N_add.1.cls ≠ "java/lang/invoke/VarHandle" := by decide +kernel
theorem ml_N_add : (parseMethodDescriptor mt_N_add.1.desc).map (fun q => q.parameters.length) = some 3 := by decide +kernel
theorem mn_N_add : Cond.instanceMethod mt_N_add.1 ∈ Tall := tw2 200 rfl rfl
theorem ms_N_add : Cond.selects "FilterReader$Names" mt_N_add.1 mt_N_add.1 ∈ Tall := tw2 201 rfl rfl
abbrev mt_N_setParameters : jm_M := (⟨"FilterReader$Names", "setParameters", "(II)V"⟩, prog_7_method_5_code, 3, none, [])
theorem mw_N_setParameters : jm_cw mt_N_setParameters ∈ Tall := tw2 219 rfl rfl
theorem mh_N_setParameters : mt_N_setParameters.1.cls ≠ "java/lang/invoke/MethodHandle" ∧ mt_N_setParameters.1.cls ≠ "java/lang/invoke/VarHandle" := by decide +kernel
theorem ml_N_setParameters : (parseMethodDescriptor mt_N_setParameters.1.desc).map (fun q => q.parameters.length) = some 2 := by decide +kernel
theorem mn_N_setParameters : Cond.instanceMethod mt_N_setParameters.1 ∈ Tall := tw2 217 rfl rfl
theorem ms_N_setParameters : Cond.selects "FilterReader$Names" mt_N_setParameters.1 mt_N_setParameters.1 ∈ Tall := tw2 218 rfl rfl
abbrev mt_N_forgetFrom : jm_M := (⟨"FilterReader$Names", "forgetFrom", "(I)V"⟩, prog_7_method_6_code, 2, none, [])
theorem mw_N_forgetFrom : jm_cw mt_N_forgetFrom ∈ Tall := tw2 231 rfl rfl
theorem mh_N_forgetFrom : mt_N_forgetFrom.1.cls ≠ "java/lang/invoke/MethodHandle" ∧ mt_N_forgetFrom.1.cls ≠ "java/lang/invoke/VarHandle" := by decide +kernel
theorem ml_N_forgetFrom : (parseMethodDescriptor mt_N_forgetFrom.1.desc).map (fun q => q.parameters.length) = some 1 := by decide +kernel
theorem mn_N_forgetFrom : Cond.instanceMethod mt_N_forgetFrom.1 ∈ Tall := tw2 229 rfl rfl
theorem ms_N_forgetFrom : Cond.selects "FilterReader$Names" mt_N_forgetFrom.1 mt_N_forgetFrom.1 ∈ Tall := tw2 230 rfl rfl
abbrev mt_N_setSorts : jm_M := (⟨"FilterReader$Names", "setSorts", "(III)V"⟩, prog_7_method_7_code, 5, none, [])
theorem mw_N_setSorts : jm_cw mt_N_setSorts ∈ Tall := tw3 176 rfl rfl
theorem mh_N_setSorts : mt_N_setSorts.1.cls ≠ "java/lang/invoke/MethodHandle" ∧ mt_N_setSorts.1.cls ≠ "java/lang/invoke/VarHandle" := by decide +kernel
theorem ml_N_setSorts : (parseMethodDescriptor mt_N_setSorts.1.desc).map (fun q => q.parameters.length) = some 3 := by decide +kernel
theorem mn_N_setSorts : Cond.instanceMethod mt_N_setSorts.1 ∈ Tall := tw3 174 rfl rfl
theorem ms_N_setSorts : Cond.selects "FilterReader$Names" mt_N_setSorts.1 mt_N_setSorts.1 ∈ Tall := tw3 175 rfl rfl
abbrev mt_N_isNamed : jm_M := (⟨"FilterReader$Names", "isNamed", "(III)Z"⟩, prog_7_method_10_code, 4, (some .boolean), [])
theorem mw_N_isNamed : jm_cw mt_N_isNamed ∈ Tall := tw3 93 rfl rfl
theorem mh_N_isNamed : mt_N_isNamed.1.cls ≠ "java/lang/invoke/MethodHandle" ∧ mt_N_isNamed.1.cls ≠ "java/lang/invoke/VarHandle" := by decide +kernel
theorem ml_N_isNamed : (parseMethodDescriptor mt_N_isNamed.1.desc).map (fun q => q.parameters.length) = some 3 := by decide +kernel
theorem mn_N_isNamed : Cond.instanceMethod mt_N_isNamed.1 ∈ Tall := tw3 92 rfl rfl
theorem ms_N_isNamed : Cond.selects "FilterReader$Names" mt_N_isNamed.1 mt_N_isNamed.1 ∈ Tall := tp 31 rfl rfl
abbrev mt_N_has : jm_M := (⟨"FilterReader$Names", "has", "(III)Z"⟩, prog_7_method_8_code, 5, (some .boolean), [])
theorem mw_N_has : jm_cw mt_N_has ∈ Tall := tw3 89 rfl rfl
theorem mh_N_has : mt_N_has.1.cls ≠ "java/lang/invoke/MethodHandle" ∧ mt_N_has.1.cls ≠ "java/lang/invoke/VarHandle" := by decide +kernel
theorem ml_N_has : (parseMethodDescriptor mt_N_has.1.desc).map (fun q => q.parameters.length) = some 3 := by decide +kernel
theorem mn_N_has : Cond.instanceMethod mt_N_has.1 ∈ Tall := tw3 87 rfl rfl
theorem ms_N_has : Cond.selects "FilterReader$Names" mt_N_has.1 mt_N_has.1 ∈ Tall := tw3 88 rfl rfl
abbrev mt_N_isListed : jm_M := (⟨"FilterReader$Names", "isListed", "(Ljava/lang/String;II)Z"⟩, prog_7_method_12_code, 6, (some .boolean), [])
theorem mw_N_isListed : jm_cw mt_N_isListed ∈ Tall := tw3 128 rfl rfl
theorem mh_N_isListed : mt_N_isListed.1.cls ≠ "java/lang/invoke/MethodHandle" ∧ mt_N_isListed.1.cls ≠ "java/lang/invoke/VarHandle" := by decide +kernel
theorem ml_N_isListed : (parseMethodDescriptor mt_N_isListed.1.desc).map (fun q => q.parameters.length) = some 3 := by decide +kernel
theorem mn_N_isListed : Cond.instanceMethod mt_N_isListed.1 ∈ Tall := tw3 127 rfl rfl
theorem ms_N_isListed : Cond.selects "FilterReader$Names" mt_N_isListed.1 mt_N_isListed.1 ∈ Tall := tp 36 rfl rfl
abbrev mt_N_isKnownAnywhere : jm_M := (⟨"FilterReader$Names", "isKnownAnywhere", "(III)Z"⟩, prog_7_method_11_code, 4, (some .boolean), [])
theorem mw_N_isKnownAnywhere : jm_cw mt_N_isKnownAnywhere ∈ Tall := tw3 123 rfl rfl
theorem mh_N_isKnownAnywhere : mt_N_isKnownAnywhere.1.cls ≠ "java/lang/invoke/MethodHandle" ∧ mt_N_isKnownAnywhere.1.cls ≠ "java/lang/invoke/VarHandle" := by decide +kernel
theorem ml_N_isKnownAnywhere : (parseMethodDescriptor mt_N_isKnownAnywhere.1.desc).map (fun q => q.parameters.length) = some 3 := by decide +kernel
theorem mn_N_isKnownAnywhere : Cond.instanceMethod mt_N_isKnownAnywhere.1 ∈ Tall := tw3 122 rfl rfl
theorem ms_N_isKnownAnywhere : Cond.selects "FilterReader$Names" mt_N_isKnownAnywhere.1 mt_N_isKnownAnywhere.1 ∈ Tall := tp 35 rfl rfl
abbrev mt_N_callKind : jm_M := (⟨"FilterReader$Names", "callKind", "(III)I"⟩, prog_7_method_9_code, 5, (some .int), [])
theorem mw_N_callKind : jm_cw mt_N_callKind ∈ Tall := tw3 119 rfl rfl
theorem mh_N_callKind : mt_N_callKind.1.cls ≠ "java/lang/invoke/MethodHandle" ∧ mt_N_callKind.1.cls ≠ "java/lang/invoke/VarHandle" := by decide +kernel
theorem ml_N_callKind : (parseMethodDescriptor mt_N_callKind.1.desc).map (fun q => q.parameters.length) = some 3 := by decide +kernel
theorem mn_N_callKind : Cond.instanceMethod mt_N_callKind.1 ∈ Tall := tw3 117 rfl rfl
theorem ms_N_callKind : Cond.selects "FilterReader$Names" mt_N_callKind.1 mt_N_callKind.1 ∈ Tall := tw3 118 rfl rfl
abbrev mt_G_countOf : jm_M := (⟨"FilterReader$Grammar", "countOf", "(I)I"⟩, prog_4_method_2_code, 2, (some .int), [])
theorem mw_G_countOf : jm_cw mt_G_countOf ∈ Tall := tw3 216 rfl rfl
theorem mh_G_countOf : mt_G_countOf.1.cls ≠ "java/lang/invoke/MethodHandle" ∧ mt_G_countOf.1.cls ≠ "java/lang/invoke/VarHandle" := by decide +kernel
theorem ml_G_countOf : (parseMethodDescriptor mt_G_countOf.1.desc).map (fun q => q.parameters.length) = some 1 := by decide +kernel
theorem mn_G_countOf : Cond.instanceMethod mt_G_countOf.1 ∈ Tall := tw3 214 rfl rfl
theorem ms_G_countOf : Cond.selects "FilterReader$Grammar" mt_G_countOf.1 mt_G_countOf.1 ∈ Tall := tw3 215 rfl rfl
abbrev mt_G_brokenPlace : jm_M := (⟨"FilterReader$Grammar", "brokenPlace", "()I"⟩, prog_4_method_3_code, 1, (some .int), [])
theorem mw_G_brokenPlace : jm_cw mt_G_brokenPlace ∈ Tall := tw1 123 rfl rfl
theorem mh_G_brokenPlace : mt_G_brokenPlace.1.cls ≠ "java/lang/invoke/MethodHandle" ∧ mt_G_brokenPlace.1.cls ≠ "java/lang/invoke/VarHandle" := by decide +kernel
theorem ml_G_brokenPlace : (parseMethodDescriptor mt_G_brokenPlace.1.desc).map (fun q => q.parameters.length) = some 0 := by decide +kernel
theorem mn_G_brokenPlace : Cond.instanceMethod mt_G_brokenPlace.1 ∈ Tall := tw1 121 rfl rfl
theorem ms_G_brokenPlace : Cond.selects "FilterReader$Grammar" mt_G_brokenPlace.1 mt_G_brokenPlace.1 ∈ Tall := tw1 122 rfl rfl
abbrev mt_G_forgetProgram : jm_M := (⟨"FilterReader$Grammar", "forgetProgram", "()V"⟩, prog_4_method_5_code, 1, none, [])
theorem mw_G_forgetProgram : jm_cw mt_G_forgetProgram ∈ Tall := tw2 2 rfl rfl
theorem mh_G_forgetProgram : mt_G_forgetProgram.1.cls ≠ "java/lang/invoke/MethodHandle" ∧ mt_G_forgetProgram.1.cls ≠ "java/lang/invoke/VarHandle" := by decide +kernel
theorem ml_G_forgetProgram : (parseMethodDescriptor mt_G_forgetProgram.1.desc).map (fun q => q.parameters.length) = some 0 := by decide +kernel
theorem mn_G_forgetProgram : Cond.instanceMethod mt_G_forgetProgram.1 ∈ Tall := tw2 1 rfl rfl
theorem ms_G_forgetProgram : Cond.selects "FilterReader$Grammar" mt_G_forgetProgram.1 mt_G_forgetProgram.1 ∈ Tall := tp 2 rfl rfl
abbrev mt_G_broken : jm_M := (⟨"FilterReader$Grammar", "broken", "(I)V"⟩, prog_4_method_7_code, 2, none, [])
theorem mw_G_broken : jm_cw mt_G_broken ∈ Tall := tw2 171 rfl rfl
theorem mh_G_broken : mt_G_broken.1.cls ≠ "java/lang/invoke/MethodHandle" ∧ mt_G_broken.1.cls ≠ "java/lang/invoke/VarHandle" := by decide +kernel
theorem ml_G_broken : (parseMethodDescriptor mt_G_broken.1.desc).map (fun q => q.parameters.length) = some 1 := by decide +kernel
theorem mn_G_broken : Cond.instanceMethod mt_G_broken.1 ∈ Tall := tw2 170 rfl rfl
theorem ms_G_broken : Cond.selects "FilterReader$Grammar" mt_G_broken.1 mt_G_broken.1 ∈ Tall := tp 13 rfl rfl
abbrev mt_G_need : jm_M := (⟨"FilterReader$Grammar", "need", "(LFilterReader$Sign;)V"⟩, prog_4_method_8_code, 2, none, [])
theorem mw_G_need : jm_cw mt_G_need ∈ Tall := tw2 163 rfl rfl
theorem mh_G_need : mt_G_need.1.cls ≠ "java/lang/invoke/MethodHandle" ∧ mt_G_need.1.cls ≠ "java/lang/invoke/VarHandle" := by decide +kernel
theorem ml_G_need : (parseMethodDescriptor mt_G_need.1.desc).map (fun q => q.parameters.length) = some 1 := by decide +kernel
theorem mn_G_need : Cond.instanceMethod mt_G_need.1 ∈ Tall := tw2 162 rfl rfl
theorem ms_G_need : Cond.selects "FilterReader$Grammar" mt_G_need.1 mt_G_need.1 ∈ Tall := tp 12 rfl rfl
abbrev mt_G_learn : jm_M := (⟨"FilterReader$Grammar", "learn", "(I)V"⟩, prog_4_method_13_code, 2, none, [])
theorem mw_G_learn : jm_cw mt_G_learn ∈ Tall := tw2 190 rfl rfl
theorem mh_G_learn : mt_G_learn.1.cls ≠ "java/lang/invoke/MethodHandle" ∧ mt_G_learn.1.cls ≠ "java/lang/invoke/VarHandle" := by decide +kernel
theorem ml_G_learn : (parseMethodDescriptor mt_G_learn.1.desc).map (fun q => q.parameters.length) = some 1 := by decide +kernel
theorem mn_G_learn : Cond.instanceMethod mt_G_learn.1 ∈ Tall := tw2 189 rfl rfl
theorem ms_G_learn : Cond.selects "FilterReader$Grammar" mt_G_learn.1 mt_G_learn.1 ∈ Tall := tp 14 rfl rfl
abbrev mt_G_learnParameter : jm_M := (⟨"FilterReader$Grammar", "learnParameter", "(I)V"⟩, prog_4_method_18_code, 2, none, [])
theorem mw_G_learnParameter : jm_cw mt_G_learnParameter ∈ Tall := tw2 212 rfl rfl
theorem mh_G_learnParameter : mt_G_learnParameter.1.cls ≠ "java/lang/invoke/MethodHandle" ∧ mt_G_learnParameter.1.cls ≠ "java/lang/invoke/VarHandle" := by decide +kernel
theorem ml_G_learnParameter : (parseMethodDescriptor mt_G_learnParameter.1.desc).map (fun q => q.parameters.length) = some 1 := by decide +kernel
theorem mn_G_learnParameter : Cond.instanceMethod mt_G_learnParameter.1 ∈ Tall := tw2 211 rfl rfl
theorem ms_G_learnParameter : Cond.selects "FilterReader$Grammar" mt_G_learnParameter.1 mt_G_learnParameter.1 ∈ Tall := tp 16 rfl rfl
abbrev mt_G_take : jm_M := (⟨"FilterReader$Grammar", "take", "(LFilterReader$Sign;)V"⟩, prog_4_method_9_code, 2, none, [])
theorem mw_G_take : jm_cw mt_G_take ∈ Tall := tw2 225 rfl rfl
theorem mh_G_take : mt_G_take.1.cls ≠ "java/lang/invoke/MethodHandle" ∧ mt_G_take.1.cls ≠ "java/lang/invoke/VarHandle" := by decide +kernel
theorem ml_G_take : (parseMethodDescriptor mt_G_take.1.desc).map (fun q => q.parameters.length) = some 1 := by decide +kernel
theorem mn_G_take : Cond.instanceMethod mt_G_take.1 ∈ Tall := tw2 224 rfl rfl
theorem ms_G_take : Cond.selects "FilterReader$Grammar" mt_G_take.1 mt_G_take.1 ∈ Tall := tp 17 rfl rfl
abbrev mt_G_count : jm_M := (⟨"FilterReader$Grammar", "count", "(I)V"⟩, prog_4_method_6_code, 2, none, [])
theorem mw_G_count : jm_cw mt_G_count ∈ Tall := tw2 157 rfl rfl
theorem mh_G_count : mt_G_count.1.cls ≠ "java/lang/invoke/MethodHandle" ∧ mt_G_count.1.cls ≠ "java/lang/invoke/VarHandle" := by decide +kernel
theorem ml_G_count : (parseMethodDescriptor mt_G_count.1.desc).map (fun q => q.parameters.length) = some 1 := by decide +kernel
theorem mn_G_count : Cond.instanceMethod mt_G_count.1 ∈ Tall := tw2 156 rfl rfl
theorem ms_G_count : Cond.selects "FilterReader$Grammar" mt_G_count.1 mt_G_count.1 ∈ Tall := tp 11 rfl rfl
abbrev mt_G_takeAs : jm_M := (⟨"FilterReader$Grammar", "takeAs", "(I)V"⟩, prog_4_method_10_code, 2, none, [])
theorem mw_G_takeAs : jm_cw mt_G_takeAs ∈ Tall := tw2 153 rfl rfl
theorem mh_G_takeAs : mt_G_takeAs.1.cls ≠ "java/lang/invoke/MethodHandle" ∧ mt_G_takeAs.1.cls ≠ "java/lang/invoke/VarHandle" := by decide +kernel
theorem ml_G_takeAs : (parseMethodDescriptor mt_G_takeAs.1.desc).map (fun q => q.parameters.length) = some 1 := by decide +kernel
theorem mn_G_takeAs : Cond.instanceMethod mt_G_takeAs.1 ∈ Tall := tw2 152 rfl rfl
theorem ms_G_takeAs : Cond.selects "FilterReader$Grammar" mt_G_takeAs.1 mt_G_takeAs.1 ∈ Tall := tp 10 rfl rfl
abbrev mt_G_takes : jm_M := (⟨"FilterReader$Grammar", "takes", "(LFilterReader$Sign;)Z"⟩, prog_4_method_11_code, 3, (some .boolean), [])
theorem mw_G_takes : jm_cw mt_G_takes ∈ Tall := tw2 208 rfl rfl
theorem mh_G_takes : mt_G_takes.1.cls ≠ "java/lang/invoke/MethodHandle" ∧ mt_G_takes.1.cls ≠ "java/lang/invoke/VarHandle" := by decide +kernel
theorem ml_G_takes : (parseMethodDescriptor mt_G_takes.1.desc).map (fun q => q.parameters.length) = some 1 := by decide +kernel
theorem mn_G_takes : Cond.instanceMethod mt_G_takes.1 ∈ Tall := tw2 207 rfl rfl
theorem ms_G_takes : Cond.selects "FilterReader$Grammar" mt_G_takes.1 mt_G_takes.1 ∈ Tall := tp 15 rfl rfl
abbrev mt_G_define : jm_M := (⟨"FilterReader$Grammar", "define", "(I)V"⟩, prog_4_method_17_code, 4, none, [])
theorem mw_G_define : jm_cw mt_G_define ∈ Tall := tw2 149 rfl rfl
theorem mh_G_define : mt_G_define.1.cls ≠ "java/lang/invoke/MethodHandle" ∧ mt_G_define.1.cls ≠ "java/lang/invoke/VarHandle" := by decide +kernel
theorem ml_G_define : (parseMethodDescriptor mt_G_define.1.desc).map (fun q => q.parameters.length) = some 1 := by decide +kernel
theorem mn_G_define : Cond.instanceMethod mt_G_define.1 ∈ Tall := tw2 148 rfl rfl
theorem ms_G_define : Cond.selects "FilterReader$Grammar" mt_G_define.1 mt_G_define.1 ∈ Tall := tp 9 rfl rfl
abbrev mt_G_label : jm_M := (⟨"FilterReader$Grammar", "label", "()V"⟩, prog_4_method_19_code, 1, none, [])
theorem mw_G_label : jm_cw mt_G_label ∈ Tall := tw3 0 rfl rfl
theorem mh_G_label : mt_G_label.1.cls ≠ "java/lang/invoke/MethodHandle" ∧ mt_G_label.1.cls ≠ "java/lang/invoke/VarHandle" := by decide +kernel
theorem ml_G_label : (parseMethodDescriptor mt_G_label.1.desc).map (fun q => q.parameters.length) = some 0 := by decide +kernel
theorem mn_G_label : Cond.instanceMethod mt_G_label.1 ∈ Tall := tw2 239 rfl rfl
theorem ms_G_label : Cond.selects "FilterReader$Grammar" mt_G_label.1 mt_G_label.1 ∈ Tall := tp 18 rfl rfl
abbrev mt_G_heads : jm_M := (⟨"FilterReader$Grammar", "heads", "(I)I"⟩, prog_4_method_16_code, 3, (some .int), [])
theorem mw_G_heads : jm_cw mt_G_heads ∈ Tall := tw2 139 rfl rfl
theorem mh_G_heads : mt_G_heads.1.cls ≠ "java/lang/invoke/MethodHandle" ∧ mt_G_heads.1.cls ≠ "java/lang/invoke/VarHandle" := by decide +kernel
theorem ml_G_heads : (parseMethodDescriptor mt_G_heads.1.desc).map (fun q => q.parameters.length) = some 1 := by decide +kernel
theorem mn_G_heads : Cond.instanceMethod mt_G_heads.1 ∈ Tall := tw2 138 rfl rfl
theorem ms_G_heads : Cond.selects "FilterReader$Grammar" mt_G_heads.1 mt_G_heads.1 ∈ Tall := tp 8 rfl rfl
abbrev mt_G_opened : jm_M := (⟨"FilterReader$Grammar", "opened", "(I)I"⟩, prog_4_method_12_code, 2, (some .int), [])
theorem mw_G_opened : jm_cw mt_G_opened ∈ Tall := tw3 75 rfl rfl
theorem mh_G_opened : mt_G_opened.1.cls ≠ "java/lang/invoke/MethodHandle" ∧ mt_G_opened.1.cls ≠ "java/lang/invoke/VarHandle" := by decide +kernel
theorem ml_G_opened : (parseMethodDescriptor mt_G_opened.1.desc).map (fun q => q.parameters.length) = some 1 := by decide +kernel
theorem mn_G_opened : Cond.instanceMethod mt_G_opened.1 ∈ Tall := tw3 74 rfl rfl
theorem ms_G_opened : Cond.selects "FilterReader$Grammar" mt_G_opened.1 mt_G_opened.1 ∈ Tall := tp 28 rfl rfl
abbrev mt_G_entryName : jm_M := (⟨"FilterReader$Grammar", "entryName", "()V"⟩, prog_4_method_36_code, 1, none, [])
theorem mw_G_entryName : jm_cw mt_G_entryName ∈ Tall := tw3 100 rfl rfl
theorem mh_G_entryName : mt_G_entryName.1.cls ≠ "java/lang/invoke/MethodHandle" ∧ mt_G_entryName.1.cls ≠ "java/lang/invoke/VarHandle" := by decide +kernel
theorem ml_G_entryName : (parseMethodDescriptor mt_G_entryName.1.desc).map (fun q => q.parameters.length) = some 0 := by decide +kernel
theorem mn_G_entryName : Cond.instanceMethod mt_G_entryName.1 ∈ Tall := tw3 99 rfl rfl
theorem ms_G_entryName : Cond.selects "FilterReader$Grammar" mt_G_entryName.1 mt_G_entryName.1 ∈ Tall := tp 32 rfl rfl
abbrev mt_G_group : jm_M := (⟨"FilterReader$Grammar", "group", "(I)V"⟩, prog_4_method_30_code, 2, none, [])
theorem mw_G_group : jm_cw mt_G_group ∈ Tall := tw3 61 rfl rfl
theorem mh_G_group : mt_G_group.1.cls ≠ "java/lang/invoke/MethodHandle" ∧ mt_G_group.1.cls ≠ "java/lang/invoke/VarHandle" := by decide +kernel
theorem ml_G_group : (parseMethodDescriptor mt_G_group.1.desc).map (fun q => q.parameters.length) = some 1 := by decide +kernel
theorem mn_G_group : Cond.instanceMethod mt_G_group.1 ∈ Tall := tw3 60 rfl rfl
theorem ms_G_group : Cond.selects "FilterReader$Grammar" mt_G_group.1 mt_G_group.1 ∈ Tall := tp 25 rfl rfl
abbrev mt_G_patternName : jm_M := (⟨"FilterReader$Grammar", "patternName", "(I)I"⟩, prog_4_method_39_code, 2, (some .int), [])
theorem mw_G_patternName : jm_cw mt_G_patternName ∈ Tall := tw3 162 rfl rfl
theorem mh_G_patternName : mt_G_patternName.1.cls ≠ "java/lang/invoke/MethodHandle" ∧ mt_G_patternName.1.cls ≠ "java/lang/invoke/VarHandle" := by decide +kernel
theorem ml_G_patternName : (parseMethodDescriptor mt_G_patternName.1.desc).map (fun q => q.parameters.length) = some 1 := by decide +kernel
theorem mn_G_patternName : Cond.instanceMethod mt_G_patternName.1 ∈ Tall := tw3 161 rfl rfl
theorem ms_G_patternName : Cond.selects "FilterReader$Grammar" mt_G_patternName.1 mt_G_patternName.1 ∈ Tall := tp 41 rfl rfl
abbrev mt_G_stringWithoutPrograms : jm_M := (⟨"FilterReader$Grammar", "stringWithoutPrograms", "()V"⟩, prog_4_method_29_code, 2, none, [])
theorem mw_G_stringWithoutPrograms : jm_cw mt_G_stringWithoutPrograms ∈ Tall := tw3 172 rfl rfl
theorem mh_G_stringWithoutPrograms : mt_G_stringWithoutPrograms.1.cls ≠ "java/lang/invoke/MethodHandle" ∧ mt_G_stringWithoutPrograms.1.cls ≠ "java/lang/invoke/VarHandle" := by decide +kernel
theorem ml_G_stringWithoutPrograms : (parseMethodDescriptor mt_G_stringWithoutPrograms.1.desc).map (fun q => q.parameters.length) = some 0 := by decide +kernel
theorem mn_G_stringWithoutPrograms : Cond.instanceMethod mt_G_stringWithoutPrograms.1 ∈ Tall := tw3 171 rfl rfl
theorem ms_G_stringWithoutPrograms : Cond.selects "FilterReader$Grammar" mt_G_stringWithoutPrograms.1 mt_G_stringWithoutPrograms.1 ∈ Tall := tp 43 rfl rfl
abbrev mt_G_patternEntry : jm_M := (⟨"FilterReader$Grammar", "patternEntry", "(II)I"⟩, prog_4_method_40_code, 4, (some .int), [])
theorem mw_G_patternEntry : jm_cw mt_G_patternEntry ∈ Tall := tw3 168 rfl rfl
theorem mh_G_patternEntry : mt_G_patternEntry.1.cls ≠ "java/lang/invoke/MethodHandle" ∧ mt_G_patternEntry.1.cls ≠ "java/lang/invoke/VarHandle" := by decide +kernel
theorem ml_G_patternEntry : (parseMethodDescriptor mt_G_patternEntry.1.desc).map (fun q => q.parameters.length) = some 2 := by decide +kernel
theorem mn_G_patternEntry : Cond.instanceMethod mt_G_patternEntry.1 ∈ Tall := tw3 167 rfl rfl
theorem ms_G_patternEntry : Cond.selects "FilterReader$Grammar" mt_G_patternEntry.1 mt_G_patternEntry.1 ∈ Tall := tp 42 rfl rfl
abbrev mt_G_pattern : jm_M := (⟨"FilterReader$Grammar", "pattern", "(II)I"⟩, prog_4_method_38_code, 7, (some .int), [])
theorem mw_G_pattern : jm_cw mt_G_pattern ∈ Tall := tw3 158 rfl rfl
theorem mh_G_pattern : mt_G_pattern.1.cls ≠ "java/lang/invoke/MethodHandle" ∧ mt_G_pattern.1.cls ≠ "java/lang/invoke/VarHandle" := by decide +kernel
theorem ml_G_pattern : (parseMethodDescriptor mt_G_pattern.1.desc).map (fun q => q.parameters.length) = some 2 := by decide +kernel
theorem mn_G_pattern : Cond.instanceMethod mt_G_pattern.1 ∈ Tall := tw3 157 rfl rfl
theorem ms_G_pattern : Cond.selects "FilterReader$Grammar" mt_G_pattern.1 mt_G_pattern.1 ∈ Tall := tp 40 rfl rfl
abbrev mt_G_bind : jm_M := (⟨"FilterReader$Grammar", "bind", "(I)V"⟩, prog_4_method_21_code, 3, none, [])
theorem mw_G_bind : jm_cw mt_G_bind ∈ Tall := tw3 201 rfl rfl
theorem mh_G_bind : mt_G_bind.1.cls ≠ "java/lang/invoke/MethodHandle" ∧ mt_G_bind.1.cls ≠ "java/lang/invoke/VarHandle" := by decide +kernel
theorem ml_G_bind : (parseMethodDescriptor mt_G_bind.1.desc).map (fun q => q.parameters.length) = some 1 := by decide +kernel
theorem mn_G_bind : Cond.instanceMethod mt_G_bind.1 ∈ Tall := tw3 200 rfl rfl
theorem ms_G_bind : Cond.selects "FilterReader$Grammar" mt_G_bind.1 mt_G_bind.1 ∈ Tall := tp 46 rfl rfl
abbrev mt_G_branch : jm_M := (⟨"FilterReader$Grammar", "branch", "(I)V"⟩, prog_4_method_24_code, 2, none, [])
theorem mw_G_branch : jm_cw mt_G_branch ∈ Tall := tw3 187 rfl rfl
theorem mh_G_branch : mt_G_branch.1.cls ≠ "java/lang/invoke/MethodHandle" ∧ mt_G_branch.1.cls ≠ "java/lang/invoke/VarHandle" := by decide +kernel
theorem ml_G_branch : (parseMethodDescriptor mt_G_branch.1.desc).map (fun q => q.parameters.length) = some 1 := by decide +kernel
theorem mn_G_branch : Cond.instanceMethod mt_G_branch.1 ∈ Tall := tw3 186 rfl rfl
theorem ms_G_branch : Cond.selects "FilterReader$Grammar" mt_G_branch.1 mt_G_branch.1 ∈ Tall := tp 45 rfl rfl
abbrev mt_G_condition : jm_M := (⟨"FilterReader$Grammar", "condition", "(I)V"⟩, prog_4_method_23_code, 4, none, [])
theorem mw_G_condition : jm_cw mt_G_condition ∈ Tall := tw3 183 rfl rfl
theorem mh_G_condition : mt_G_condition.1.cls ≠ "java/lang/invoke/MethodHandle" ∧ mt_G_condition.1.cls ≠ "java/lang/invoke/VarHandle" := by decide +kernel
theorem ml_G_condition : (parseMethodDescriptor mt_G_condition.1.desc).map (fun q => q.parameters.length) = some 1 := by decide +kernel
theorem mn_G_condition : Cond.instanceMethod mt_G_condition.1 ∈ Tall := tw3 182 rfl rfl
theorem ms_G_condition : Cond.selects "FilterReader$Grammar" mt_G_condition.1 mt_G_condition.1 ∈ Tall := tp 44 rfl rfl
abbrev mt_G_fold : jm_M := (⟨"FilterReader$Grammar", "fold", "(IZ)V"⟩, prog_4_method_22_code, 5, none, [])
theorem mw_G_fold : jm_cw mt_G_fold ∈ Tall := tw3 152 rfl rfl
theorem mh_G_fold : mt_G_fold.1.cls ≠ "java/lang/invoke/MethodHandle" ∧ mt_G_fold.1.cls ≠ "java/lang/invoke/VarHandle" := by decide +kernel
theorem ml_G_fold : (parseMethodDescriptor mt_G_fold.1.desc).map (fun q => q.parameters.length) = some 2 := by decide +kernel
theorem mn_G_fold : Cond.instanceMethod mt_G_fold.1 ∈ Tall := tw3 151 rfl rfl
theorem ms_G_fold : Cond.selects "FilterReader$Grammar" mt_G_fold.1 mt_G_fold.1 ∈ Tall := tp 39 rfl rfl
abbrev mt_G_array : jm_M := (⟨"FilterReader$Grammar", "array", "(I)V"⟩, prog_4_method_31_code, 2, none, [])
theorem mw_G_array : jm_cw mt_G_array ∈ Tall := tw3 65 rfl rfl
theorem mh_G_array : mt_G_array.1.cls ≠ "java/lang/invoke/MethodHandle" ∧ mt_G_array.1.cls ≠ "java/lang/invoke/VarHandle" := by decide +kernel
theorem ml_G_array : (parseMethodDescriptor mt_G_array.1.desc).map (fun q => q.parameters.length) = some 1 := by decide +kernel
theorem mn_G_array : Cond.instanceMethod mt_G_array.1 ∈ Tall := tw3 64 rfl rfl
theorem ms_G_array : Cond.selects "FilterReader$Grammar" mt_G_array.1 mt_G_array.1 ∈ Tall := tp 26 rfl rfl
abbrev mt_G_brackets : jm_M := (⟨"FilterReader$Grammar", "brackets", "(I)V"⟩, prog_4_method_27_code, 3, none, [])
theorem mw_G_brackets : jm_cw mt_G_brackets ∈ Tall := tw3 145 rfl rfl
theorem mh_G_brackets : mt_G_brackets.1.cls ≠ "java/lang/invoke/MethodHandle" ∧ mt_G_brackets.1.cls ≠ "java/lang/invoke/VarHandle" := by decide +kernel
theorem ml_G_brackets : (parseMethodDescriptor mt_G_brackets.1.desc).map (fun q => q.parameters.length) = some 1 := by decide +kernel
theorem mn_G_brackets : Cond.instanceMethod mt_G_brackets.1 ∈ Tall := tw3 144 rfl rfl
theorem ms_G_brackets : Cond.selects "FilterReader$Grammar" mt_G_brackets.1 mt_G_brackets.1 ∈ Tall := tp 38 rfl rfl
abbrev mt_G_call : jm_M := (⟨"FilterReader$Grammar", "call", "(I)V"⟩, prog_4_method_32_code, 6, none, [])
theorem mw_G_call : jm_cw mt_G_call ∈ Tall := tw3 115 rfl rfl
theorem mh_G_call : mt_G_call.1.cls ≠ "java/lang/invoke/MethodHandle" ∧ mt_G_call.1.cls ≠ "java/lang/invoke/VarHandle" := by decide +kernel
theorem ml_G_call : (parseMethodDescriptor mt_G_call.1.desc).map (fun q => q.parameters.length) = some 1 := by decide +kernel
theorem mn_G_call : Cond.instanceMethod mt_G_call.1 ∈ Tall := tw3 114 rfl rfl
theorem ms_G_call : Cond.selects "FilterReader$Grammar" mt_G_call.1 mt_G_call.1 ∈ Tall := tp 34 rfl rfl
abbrev mt_G_field : jm_M := (⟨"FilterReader$Grammar", "field", "()V"⟩, prog_4_method_26_code, 1, none, [])
theorem mw_G_field : jm_cw mt_G_field ∈ Tall := tw3 57 rfl rfl
theorem mh_G_field : mt_G_field.1.cls ≠ "java/lang/invoke/MethodHandle" ∧ mt_G_field.1.cls ≠ "java/lang/invoke/VarHandle" := by decide +kernel
theorem ml_G_field : (parseMethodDescriptor mt_G_field.1.desc).map (fun q => q.parameters.length) = some 0 := by decide +kernel
theorem mn_G_field : Cond.instanceMethod mt_G_field.1 ∈ Tall := tw3 56 rfl rfl
theorem ms_G_field : Cond.selects "FilterReader$Grammar" mt_G_field.1 mt_G_field.1 ∈ Tall := tp 24 rfl rfl
abbrev mt_G_needKnown : jm_M := (⟨"FilterReader$Grammar", "needKnown", "(I)V"⟩, prog_4_method_14_code, 2, none, [])
theorem mw_G_needKnown : jm_cw mt_G_needKnown ∈ Tall := tw3 85 rfl rfl
theorem mh_G_needKnown : mt_G_needKnown.1.cls ≠ "java/lang/invoke/MethodHandle" ∧ mt_G_needKnown.1.cls ≠ "java/lang/invoke/VarHandle" := by decide +kernel
theorem ml_G_needKnown : (parseMethodDescriptor mt_G_needKnown.1.desc).map (fun q => q.parameters.length) = some 1 := by decide +kernel
theorem mn_G_needKnown : Cond.instanceMethod mt_G_needKnown.1 ∈ Tall := tw3 84 rfl rfl
theorem ms_G_needKnown : Cond.selects "FilterReader$Grammar" mt_G_needKnown.1 mt_G_needKnown.1 ∈ Tall := tp 30 rfl rfl
abbrev mt_G_leave : jm_M := (⟨"FilterReader$Grammar", "leave", "()V"⟩, prog_4_method_33_code, 1, none, [])
theorem mw_G_leave : jm_cw mt_G_leave ∈ Tall := tw3 137 rfl rfl
theorem mh_G_leave : mt_G_leave.1.cls ≠ "java/lang/invoke/MethodHandle" ∧ mt_G_leave.1.cls ≠ "java/lang/invoke/VarHandle" := by decide +kernel
theorem ml_G_leave : (parseMethodDescriptor mt_G_leave.1.desc).map (fun q => q.parameters.length) = some 0 := by decide +kernel
theorem mn_G_leave : Cond.instanceMethod mt_G_leave.1 ∈ Tall := tw3 136 rfl rfl
theorem ms_G_leave : Cond.selects "FilterReader$Grammar" mt_G_leave.1 mt_G_leave.1 ∈ Tall := tp 37 rfl rfl
abbrev mt_G_string : jm_M := (⟨"FilterReader$Grammar", "string", "(I)V"⟩, prog_4_method_28_code, 6, none, [])
theorem mw_G_string : jm_cw mt_G_string ∈ Tall := tw3 28 rfl rfl
theorem mh_G_string : mt_G_string.1.cls ≠ "java/lang/invoke/MethodHandle" ∧ mt_G_string.1.cls ≠ "java/lang/invoke/VarHandle" := by decide +kernel
theorem ml_G_string : (parseMethodDescriptor mt_G_string.1.desc).map (fun q => q.parameters.length) = some 1 := by decide +kernel
theorem mn_G_string : Cond.instanceMethod mt_G_string.1 ∈ Tall := tw3 27 rfl rfl
theorem ms_G_string : Cond.selects "FilterReader$Grammar" mt_G_string.1 mt_G_string.1 ∈ Tall := tp 21 rfl rfl
abbrev mt_G_value : jm_M := (⟨"FilterReader$Grammar", "value", "(I)V"⟩, prog_4_method_37_code, 3, none, [])
theorem mw_G_value : jm_cw mt_G_value ∈ Tall := tw3 109 rfl rfl
theorem mh_G_value : mt_G_value.1.cls ≠ "java/lang/invoke/MethodHandle" ∧ mt_G_value.1.cls ≠ "java/lang/invoke/VarHandle" := by decide +kernel
theorem ml_G_value : (parseMethodDescriptor mt_G_value.1.desc).map (fun q => q.parameters.length) = some 1 := by decide +kernel
theorem mn_G_value : Cond.instanceMethod mt_G_value.1 ∈ Tall := tw3 108 rfl rfl
theorem ms_G_value : Cond.selects "FilterReader$Grammar" mt_G_value.1 mt_G_value.1 ∈ Tall := tp 33 rfl rfl
abbrev mt_G_entry : jm_M := (⟨"FilterReader$Grammar", "entry", "(I)V"⟩, prog_4_method_35_code, 4, none, [])
theorem mw_G_entry : jm_cw mt_G_entry ∈ Tall := tw3 81 rfl rfl
theorem mh_G_entry : mt_G_entry.1.cls ≠ "java/lang/invoke/MethodHandle" ∧ mt_G_entry.1.cls ≠ "java/lang/invoke/VarHandle" := by decide +kernel
theorem ml_G_entry : (parseMethodDescriptor mt_G_entry.1.desc).map (fun q => q.parameters.length) = some 1 := by decide +kernel
theorem mn_G_entry : Cond.instanceMethod mt_G_entry.1 ∈ Tall := tw3 80 rfl rfl
theorem ms_G_entry : Cond.selects "FilterReader$Grammar" mt_G_entry.1 mt_G_entry.1 ∈ Tall := tp 29 rfl rfl
abbrev mt_G_object : jm_M := (⟨"FilterReader$Grammar", "object", "(I)V"⟩, prog_4_method_34_code, 4, none, [])
theorem mw_G_object : jm_cw mt_G_object ∈ Tall := tw3 71 rfl rfl
theorem mh_G_object : mt_G_object.1.cls ≠ "java/lang/invoke/MethodHandle" ∧ mt_G_object.1.cls ≠ "java/lang/invoke/VarHandle" := by decide +kernel
theorem ml_G_object : (parseMethodDescriptor mt_G_object.1.desc).map (fun q => q.parameters.length) = some 1 := by decide +kernel
theorem mn_G_object : Cond.instanceMethod mt_G_object.1 ∈ Tall := tw3 70 rfl rfl
theorem ms_G_object : Cond.selects "FilterReader$Grammar" mt_G_object.1 mt_G_object.1 ∈ Tall := tp 27 rfl rfl
abbrev mt_G_term : jm_M := (⟨"FilterReader$Grammar", "term", "(I)V"⟩, prog_4_method_25_code, 4, none, [])
theorem mw_G_term : jm_cw mt_G_term ∈ Tall := tw3 22 rfl rfl
theorem mh_G_term : mt_G_term.1.cls ≠ "java/lang/invoke/MethodHandle" ∧ mt_G_term.1.cls ≠ "java/lang/invoke/VarHandle" := by decide +kernel
theorem ml_G_term : (parseMethodDescriptor mt_G_term.1.desc).map (fun q => q.parameters.length) = some 1 := by decide +kernel
theorem mn_G_term : Cond.instanceMethod mt_G_term.1 ∈ Tall := tw3 21 rfl rfl
theorem ms_G_term : Cond.selects "FilterReader$Grammar" mt_G_term.1 mt_G_term.1 ∈ Tall := tp 20 rfl rfl
abbrev mt_G_operand : jm_M := (⟨"FilterReader$Grammar", "operand", "(I)V"⟩, prog_4_method_20_code, 2, none, [])
theorem mw_G_operand : jm_cw mt_G_operand ∈ Tall := tw3 6 rfl rfl
theorem mh_G_operand : mt_G_operand.1.cls ≠ "java/lang/invoke/MethodHandle" ∧ mt_G_operand.1.cls ≠ "java/lang/invoke/VarHandle" := by decide +kernel
theorem ml_G_operand : (parseMethodDescriptor mt_G_operand.1.desc).map (fun q => q.parameters.length) = some 1 := by decide +kernel
theorem mn_G_operand : Cond.instanceMethod mt_G_operand.1 ∈ Tall := tw3 5 rfl rfl
theorem ms_G_operand : Cond.selects "FilterReader$Grammar" mt_G_operand.1 mt_G_operand.1 ∈ Tall := tp 19 rfl rfl
abbrev mt_G_program : jm_M := (⟨"FilterReader$Grammar", "program", "(I)V"⟩, prog_4_method_15_code, 9, none, [])
theorem mw_G_program : jm_cw mt_G_program ∈ Tall := tw2 131 rfl rfl
theorem mh_G_program : mt_G_program.1.cls ≠ "java/lang/invoke/MethodHandle" ∧ mt_G_program.1.cls ≠ "java/lang/invoke/VarHandle" := by decide +kernel
theorem ml_G_program : (parseMethodDescriptor mt_G_program.1.desc).map (fun q => q.parameters.length) = some 1 := by decide +kernel
theorem mn_G_program : Cond.instanceMethod mt_G_program.1 ∈ Tall := tw2 130 rfl rfl
theorem ms_G_program : Cond.selects "FilterReader$Grammar" mt_G_program.1 mt_G_program.1 ∈ Tall := tp 7 rfl rfl
abbrev mt_G_readProgram : jm_M := (⟨"FilterReader$Grammar", "readProgram", "([BI)I"⟩, prog_4_method_4_code, 3, (some .int), [])
theorem mw_G_readProgram : jm_cw mt_G_readProgram ∈ Tall := tw1 238 rfl rfl
theorem mh_G_readProgram : mt_G_readProgram.1.cls ≠ "java/lang/invoke/MethodHandle" ∧ mt_G_readProgram.1.cls ≠ "java/lang/invoke/VarHandle" := by decide +kernel
theorem ml_G_readProgram : (parseMethodDescriptor mt_G_readProgram.1.desc).map (fun q => q.parameters.length) = some 2 := by decide +kernel
theorem mn_G_readProgram : Cond.instanceMethod mt_G_readProgram.1 ∈ Tall := tw1 236 rfl rfl
theorem ms_G_readProgram : Cond.selects "FilterReader$Grammar" mt_G_readProgram.1 mt_G_readProgram.1 ∈ Tall := tw1 237 rfl rfl
abbrev mt_FR_append : jm_M := (⟨"FilterReader", "append", "(I)V"⟩, prog_1_method_8_code, 3, none, [])
theorem mw_FR_append : jm_cw mt_FR_append ∈ Tall := tw1 203 rfl rfl
theorem mh_FR_append : mt_FR_append.1.cls ≠ "java/lang/invoke/MethodHandle" ∧ mt_FR_append.1.cls ≠ "java/lang/invoke/VarHandle" := by decide +kernel
theorem ml_FR_append : (parseMethodDescriptor mt_FR_append.1.desc).map (fun q => q.parameters.length) = some 1 := by decide +kernel
theorem mn_FR_append : Cond.instanceMethod mt_FR_append.1 ∈ Tall := tw1 202 rfl rfl
theorem ms_FR_append : Cond.selects "FilterReader" mt_FR_append.1 mt_FR_append.1 ∈ Tall := tp 1 rfl rfl
abbrev mt_FR_feed : jm_M := (⟨"FilterReader", "feed", "(IIIII)I"⟩, prog_1_method_2_code, 6, (some .int), [])
theorem mw_FR_feed : jm_cw mt_FR_feed ∈ Tall := tw1 135 rfl rfl
theorem mh_FR_feed : mt_FR_feed.1.cls ≠ "java/lang/invoke/MethodHandle" ∧ mt_FR_feed.1.cls ≠ "java/lang/invoke/VarHandle" := by decide +kernel
theorem ml_FR_feed : (parseMethodDescriptor mt_FR_feed.1.desc).map (fun q => q.parameters.length) = some 5 := by decide +kernel
theorem mn_FR_feed : Cond.instanceMethod mt_FR_feed.1 ∈ Tall := tw1 133 rfl rfl
theorem ms_FR_feed : Cond.selects "FilterReader" mt_FR_feed.1 mt_FR_feed.1 ∈ Tall := tw1 134 rfl rfl
abbrev mt_FR_end : jm_M := (⟨"FilterReader", "end", "(I)I"⟩, prog_1_method_3_code, 2, (some .int), [])
theorem mw_FR_end : jm_cw mt_FR_end ∈ Tall := tw1 211 rfl rfl
theorem mh_FR_end : mt_FR_end.1.cls ≠ "java/lang/invoke/MethodHandle" ∧ mt_FR_end.1.cls ≠ "java/lang/invoke/VarHandle" := by decide +kernel
theorem ml_FR_end : (parseMethodDescriptor mt_FR_end.1.desc).map (fun q => q.parameters.length) = some 1 := by decide +kernel
theorem mn_FR_end : Cond.instanceMethod mt_FR_end.1 ∈ Tall := tw1 209 rfl rfl
theorem ms_FR_end : Cond.selects "FilterReader" mt_FR_end.1 mt_FR_end.1 ∈ Tall := tw1 210 rfl rfl
abbrev mt_FR_read : jm_M := (⟨"FilterReader", "read", "()I"⟩, prog_1_method_4_code, 2, (some .int), [])
theorem mw_FR_read : jm_cw mt_FR_read ∈ Tall := tw1 234 rfl rfl
theorem mh_FR_read : mt_FR_read.1.cls ≠ "java/lang/invoke/MethodHandle" ∧ mt_FR_read.1.cls ≠ "java/lang/invoke/VarHandle" := by decide +kernel
theorem ml_FR_read : (parseMethodDescriptor mt_FR_read.1.desc).map (fun q => q.parameters.length) = some 0 := by decide +kernel
theorem mn_FR_read : Cond.instanceMethod mt_FR_read.1 ∈ Tall := tw1 232 rfl rfl
theorem ms_FR_read : Cond.selects "FilterReader" mt_FR_read.1 mt_FR_read.1 ∈ Tall := tw1 233 rfl rfl
abbrev mt_FR_many : jm_M := (⟨"FilterReader", "many", "(I)I"⟩, prog_1_method_5_code, 2, (some .int), [])
theorem mw_FR_many : jm_cw mt_FR_many ∈ Tall := tw3 209 rfl rfl
theorem mh_FR_many : mt_FR_many.1.cls ≠ "java/lang/invoke/MethodHandle" ∧ mt_FR_many.1.cls ≠ "java/lang/invoke/VarHandle" := by decide +kernel
theorem ml_FR_many : (parseMethodDescriptor mt_FR_many.1.desc).map (fun q => q.parameters.length) = some 1 := by decide +kernel
theorem mn_FR_many : Cond.instanceMethod mt_FR_many.1 ∈ Tall := tw3 207 rfl rfl
theorem ms_FR_many : Cond.selects "FilterReader" mt_FR_many.1 mt_FR_many.1 ∈ Tall := tw3 208 rfl rfl
abbrev mt_FR_place : jm_M := (⟨"FilterReader", "place", "()I"⟩, prog_1_method_6_code, 1, (some .int), [])
theorem mw_FR_place : jm_cw mt_FR_place ∈ Tall := tw1 119 rfl rfl
theorem mh_FR_place : mt_FR_place.1.cls ≠ "java/lang/invoke/MethodHandle" ∧ mt_FR_place.1.cls ≠ "java/lang/invoke/VarHandle" := by decide +kernel
theorem ml_FR_place : (parseMethodDescriptor mt_FR_place.1.desc).map (fun q => q.parameters.length) = some 0 := by decide +kernel
theorem mn_FR_place : Cond.instanceMethod mt_FR_place.1 ∈ Tall := tw1 117 rfl rfl
theorem ms_FR_place : Cond.selects "FilterReader" mt_FR_place.1 mt_FR_place.1 ∈ Tall := tw1 118 rfl rfl
abbrev mt_FR_taped : jm_M := (⟨"FilterReader", "taped", "()I"⟩, prog_1_method_7_code, 1, (some .int), [])
theorem mw_FR_taped : jm_cw mt_FR_taped ∈ Tall := tw1 127 rfl rfl
theorem mh_FR_taped : mt_FR_taped.1.cls ≠ "java/lang/invoke/MethodHandle" ∧ mt_FR_taped.1.cls ≠ "java/lang/invoke/VarHandle" := by decide +kernel
theorem ml_FR_taped : (parseMethodDescriptor mt_FR_taped.1.desc).map (fun q => q.parameters.length) = some 0 := by decide +kernel
theorem mn_FR_taped : Cond.instanceMethod mt_FR_taped.1 ∈ Tall := tw1 125 rfl rfl
theorem ms_FR_taped : Cond.selects "FilterReader" mt_FR_taped.1 mt_FR_taped.1 ∈ Tall := tw1 126 rfl rfl
theorem mi_FR : Cond.initialized "FilterReader" ∈ Tall := tw1 1 rfl rfl
theorem mi_B : Cond.initialized "FilterReader$Bytes" ∈ Tall := tw1 15 rfl rfl
theorem mi_G : Cond.initialized "FilterReader$Grammar" ∈ Tall := tw1 2 rfl rfl
theorem mi_K : Cond.initialized "FilterReader$Kind" ∈ Tall := tw1 24 rfl rfl
theorem mi_N : Cond.initialized "FilterReader$Names" ∈ Tall := tw1 6 rfl rfl
theorem mi_E : Cond.initialized "FilterReader$Sign" ∈ Tall := tw1 5 rfl rfl
theorem mi_S : Cond.initialized "FilterReader$Signs" ∈ Tall := tw1 3 rfl rfl
theorem mi_JA : Cond.initialized "java/util/Arrays" ∈ Tall := tw1 14 rfl rfl
def rcC : Nat → jm_M := fun t => match t with
  | 0 => mt_G_program
  | 1 => mt_G_term
  | _ => mt_G_pattern
theorem lk_B_13 : Cond.methodLink "FilterReader$Bytes" 13 ⟨"java/lang/String", "length", "()I"⟩ ∈ Tall := tw2 78 rfl rfl
theorem lk_B_19 : Cond.methodLink "FilterReader$Bytes" 19 ⟨"java/lang/String", "charAt", "(I)C"⟩ ∈ Tall := tw2 79 rfl rfl
theorem lk_B_7 : Cond.methodLink "FilterReader$Bytes" 7 ⟨"FilterReader$Bytes", "isDigit", "(I)Z"⟩ ∈ Tall := tw3 48 rfl rfl
theorem lk_E_229 : Cond.methodLink "FilterReader$Sign" 229 ⟨"java/lang/String", "length", "()I"⟩ ∈ Tall := tw2 65 rfl rfl
theorem lk_E_233 : Cond.methodLink "FilterReader$Sign" 233 ⟨"FilterReader$Bytes", "isText", "([BIILjava/lang/String;I)Z"⟩ ∈ Tall := tw2 75 rfl rfl
theorem lk_FR_27 : Cond.methodLink "FilterReader" 27 ⟨"FilterReader", "append", "(I)V"⟩ ∈ Tall := tw1 200 rfl rfl
theorem lk_FR_34 : Cond.methodLink "FilterReader" 34 ⟨"FilterReader$Grammar", "readProgram", "([BI)I"⟩ ∈ Tall := tw1 235 rfl rfl
theorem lk_FR_38 : Cond.methodLink "FilterReader" 38 ⟨"FilterReader$Kind", "isKind", "(I)Z"⟩ ∈ Tall := tw3 210 rfl rfl
theorem lk_FR_44 : Cond.methodLink "FilterReader" 44 ⟨"FilterReader$Grammar", "countOf", "(I)I"⟩ ∈ Tall := tw3 213 rfl rfl
theorem lk_FR_48 : Cond.methodLink "FilterReader" 48 ⟨"FilterReader$Grammar", "brokenPlace", "()I"⟩ ∈ Tall := tw1 120 rfl rfl
theorem lk_G_102 : Cond.methodLink "FilterReader$Grammar" 102 ⟨"FilterReader$Names", "size", "()I"⟩ ∈ Tall := tw2 132 rfl rfl
theorem lk_G_105 : Cond.methodLink "FilterReader$Grammar" 105 ⟨"FilterReader$Grammar", "heads", "(I)I"⟩ ∈ Tall := tw2 136 rfl rfl
theorem lk_G_109 : Cond.methodLink "FilterReader$Grammar" 109 ⟨"FilterReader$Grammar", "operand", "(I)V"⟩ ∈ Tall := tw3 3 rfl rfl
theorem lk_G_112 : Cond.methodLink "FilterReader$Grammar" 112 ⟨"FilterReader$Signs", "sign", "()LFilterReader$Sign;"⟩ ∈ Tall := tw3 9 rfl rfl
theorem lk_G_124 : Cond.methodLink "FilterReader$Grammar" 124 ⟨"FilterReader$Grammar", "takeAs", "(I)V"⟩ ∈ Tall := tw2 150 rfl rfl
theorem lk_G_127 : Cond.methodLink "FilterReader$Grammar" 127 ⟨"FilterReader$Grammar", "opened", "(I)I"⟩ ∈ Tall := tw3 72 rfl rfl
theorem lk_G_130 : Cond.methodLink "FilterReader$Grammar" 130 ⟨"FilterReader$Names", "forgetFrom", "(I)V"⟩ ∈ Tall := tw2 228 rfl rfl
theorem lk_G_136 : Cond.methodLink "FilterReader$Grammar" 136 ⟨"FilterReader$Grammar", "define", "(I)V"⟩ ∈ Tall := tw2 146 rfl rfl
theorem lk_G_142 : Cond.methodLink "FilterReader$Grammar" 142 ⟨"FilterReader$Grammar", "label", "()V"⟩ ∈ Tall := tw2 237 rfl rfl
theorem lk_G_148 : Cond.methodLink "FilterReader$Grammar" 148 ⟨"FilterReader$Grammar", "learn", "(I)V"⟩ ∈ Tall := tw2 187 rfl rfl
theorem lk_G_154 : Cond.methodLink "FilterReader$Grammar" 154 ⟨"FilterReader$Grammar", "takes", "(LFilterReader$Sign;)Z"⟩ ∈ Tall := tw2 205 rfl rfl
theorem lk_G_157 : Cond.methodLink "FilterReader$Grammar" 157 ⟨"FilterReader$Grammar", "learnParameter", "(I)V"⟩ ∈ Tall := tw2 209 rfl rfl
theorem lk_G_163 : Cond.methodLink "FilterReader$Grammar" 163 ⟨"FilterReader$Names", "setParameters", "(II)V"⟩ ∈ Tall := tw2 216 rfl rfl
theorem lk_G_170 : Cond.methodLink "FilterReader$Grammar" 170 ⟨"FilterReader$Grammar", "take", "(LFilterReader$Sign;)V"⟩ ∈ Tall := tw2 222 rfl rfl
theorem lk_G_187 : Cond.methodLink "FilterReader$Grammar" 187 ⟨"FilterReader$Sign", "ordinal", "()I"⟩ ∈ Tall := tw3 13 rfl rfl
theorem lk_G_190 : Cond.methodLink "FilterReader$Grammar" 190 ⟨"FilterReader$Grammar", "term", "(I)V"⟩ ∈ Tall := tw3 19 rfl rfl
theorem lk_G_193 : Cond.methodLink "FilterReader$Grammar" 193 ⟨"FilterReader$Grammar", "fold", "(IZ)V"⟩ ∈ Tall := tw3 149 rfl rfl
theorem lk_G_197 : Cond.methodLink "FilterReader$Grammar" 197 ⟨"FilterReader$Grammar", "condition", "(I)V"⟩ ∈ Tall := tw3 180 rfl rfl
theorem lk_G_206 : Cond.methodLink "FilterReader$Grammar" 206 ⟨"FilterReader$Grammar", "bind", "(I)V"⟩ ∈ Tall := tw3 198 rfl rfl
theorem lk_G_209 : Cond.methodLink "FilterReader$Grammar" 209 ⟨"FilterReader$Grammar", "pattern", "(II)I"⟩ ∈ Tall := tw3 155 rfl rfl
theorem lk_G_213 : Cond.methodLink "FilterReader$Grammar" 213 ⟨"FilterReader$Names", "setSorts", "(III)V"⟩ ∈ Tall := tw3 173 rfl rfl
theorem lk_G_216 : Cond.methodLink "FilterReader$Grammar" 216 ⟨"FilterReader$Grammar", "branch", "(I)V"⟩ ∈ Tall := tw3 184 rfl rfl
theorem lk_G_234 : Cond.methodLink "FilterReader$Grammar" 234 ⟨"FilterReader$Grammar", "string", "(I)V"⟩ ∈ Tall := tw3 25 rfl rfl
theorem lk_G_237 : Cond.methodLink "FilterReader$Grammar" 237 ⟨"FilterReader$Grammar", "field", "()V"⟩ ∈ Tall := tw3 54 rfl rfl
theorem lk_G_240 : Cond.methodLink "FilterReader$Grammar" 240 ⟨"FilterReader$Grammar", "group", "(I)V"⟩ ∈ Tall := tw3 58 rfl rfl
theorem lk_G_243 : Cond.methodLink "FilterReader$Grammar" 243 ⟨"FilterReader$Grammar", "array", "(I)V"⟩ ∈ Tall := tw3 62 rfl rfl
theorem lk_G_246 : Cond.methodLink "FilterReader$Grammar" 246 ⟨"FilterReader$Grammar", "object", "(I)V"⟩ ∈ Tall := tw3 68 rfl rfl
theorem lk_G_249 : Cond.methodLink "FilterReader$Grammar" 249 ⟨"FilterReader$Grammar", "call", "(I)V"⟩ ∈ Tall := tw3 112 rfl rfl
theorem lk_G_252 : Cond.methodLink "FilterReader$Grammar" 252 ⟨"FilterReader$Grammar", "leave", "()V"⟩ ∈ Tall := tw3 134 rfl rfl
theorem lk_G_255 : Cond.methodLink "FilterReader$Grammar" 255 ⟨"FilterReader$Grammar", "needKnown", "(I)V"⟩ ∈ Tall := tw3 82 rfl rfl
theorem lk_G_264 : Cond.methodLink "FilterReader$Grammar" 264 ⟨"FilterReader$Grammar", "brackets", "(I)V"⟩ ∈ Tall := tw3 142 rfl rfl
theorem lk_G_276 : Cond.methodLink "FilterReader$Grammar" 276 ⟨"FilterReader$Signs", "pieceEnd", "(I)I"⟩ ∈ Tall := tw3 29 rfl rfl
theorem lk_G_279 : Cond.methodLink "FilterReader$Grammar" 279 ⟨"FilterReader$Signs", "opensProgram", "(I)Z"⟩ ∈ Tall := tw3 52 rfl rfl
theorem lk_G_283 : Cond.methodLink "FilterReader$Grammar" 283 ⟨"FilterReader$Signs", "goTo", "(I)V"⟩ ∈ Tall := tw3 53 rfl rfl
theorem lk_G_286 : Cond.methodLink "FilterReader$Grammar" 286 ⟨"FilterReader$Names", "callKind", "(III)I"⟩ ∈ Tall := tw3 116 rfl rfl
theorem lk_G_293 : Cond.methodLink "FilterReader$Grammar" 293 ⟨"FilterReader$Grammar", "entry", "(I)V"⟩ ∈ Tall := tw3 78 rfl rfl
theorem lk_G_299 : Cond.methodLink "FilterReader$Grammar" 299 ⟨"FilterReader$Grammar", "entryName", "()V"⟩ ∈ Tall := tw3 97 rfl rfl
theorem lk_G_302 : Cond.methodLink "FilterReader$Grammar" 302 ⟨"FilterReader$Grammar", "value", "(I)V"⟩ ∈ Tall := tw3 106 rfl rfl
theorem lk_G_305 : Cond.methodLink "FilterReader$Grammar" 305 ⟨"FilterReader$Signs", "isNameOrWord", "()Z"⟩ ∈ Tall := tw3 101 rfl rfl
theorem lk_G_309 : Cond.methodLink "FilterReader$Grammar" 309 ⟨"FilterReader$Grammar", "patternName", "(I)I"⟩ ∈ Tall := tw3 159 rfl rfl
theorem lk_G_315 : Cond.methodLink "FilterReader$Grammar" 315 ⟨"FilterReader$Grammar", "patternEntry", "(II)I"⟩ ∈ Tall := tw3 165 rfl rfl
theorem lk_G_318 : Cond.methodLink "FilterReader$Grammar" 318 ⟨"FilterReader$Grammar", "stringWithoutPrograms", "()V"⟩ ∈ Tall := tw3 169 rfl rfl
theorem lk_G_35 : Cond.methodLink "FilterReader$Grammar" 35 ⟨"FilterReader$Grammar", "forgetProgram", "()V"⟩ ∈ Tall := tw1 239 rfl rfl
theorem lk_G_38 : Cond.methodLink "FilterReader$Grammar" 38 ⟨"FilterReader$Names", "begin", "([B)V"⟩ ∈ Tall := tw2 6 rfl rfl
theorem lk_G_42 : Cond.methodLink "FilterReader$Grammar" 42 ⟨"FilterReader$Signs", "begin", "([BI)V"⟩ ∈ Tall := tw2 10 rfl rfl
theorem lk_G_45 : Cond.methodLink "FilterReader$Grammar" 45 ⟨"FilterReader$Grammar", "program", "(I)V"⟩ ∈ Tall := tw2 128 rfl rfl
theorem lk_G_55 : Cond.methodLink "FilterReader$Grammar" 55 ⟨"FilterReader$Grammar", "need", "(LFilterReader$Sign;)V"⟩ ∈ Tall := tw2 160 rfl rfl
theorem lk_G_62 : Cond.methodLink "FilterReader$Grammar" 62 ⟨"java/util/Arrays", "fill", "([II)V"⟩ ∈ Tall := tw2 3 rfl rfl
theorem lk_G_71 : Cond.methodLink "FilterReader$Grammar" 71 ⟨"FilterReader$Signs", "is", "(LFilterReader$Sign;)Z"⟩ ∈ Tall := tw2 142 rfl rfl
theorem lk_G_75 : Cond.methodLink "FilterReader$Grammar" 75 ⟨"FilterReader$Signs", "start", "()I"⟩ ∈ Tall := tw2 164 rfl rfl
theorem lk_G_79 : Cond.methodLink "FilterReader$Grammar" 79 ⟨"FilterReader$Grammar", "broken", "(I)V"⟩ ∈ Tall := tw2 168 rfl rfl
theorem lk_G_82 : Cond.methodLink "FilterReader$Grammar" 82 ⟨"FilterReader$Signs", "next", "()V"⟩ ∈ Tall := tw2 158 rfl rfl
theorem lk_G_85 : Cond.methodLink "FilterReader$Grammar" 85 ⟨"FilterReader$Grammar", "count", "(I)V"⟩ ∈ Tall := tw2 154 rfl rfl
theorem lk_G_88 : Cond.methodLink "FilterReader$Grammar" 88 ⟨"FilterReader$Signs", "nameStart", "()I"⟩ ∈ Tall := tw2 191 rfl rfl
theorem lk_G_91 : Cond.methodLink "FilterReader$Grammar" 91 ⟨"FilterReader$Signs", "behind", "()I"⟩ ∈ Tall := tw2 195 rfl rfl
theorem lk_G_94 : Cond.methodLink "FilterReader$Grammar" 94 ⟨"FilterReader$Names", "add", "(III)V"⟩ ∈ Tall := tw2 199 rfl rfl
theorem lk_G_98 : Cond.methodLink "FilterReader$Grammar" 98 ⟨"FilterReader$Names", "has", "(III)Z"⟩ ∈ Tall := tw3 86 rfl rfl
theorem lk_N_30 : Cond.methodLink "FilterReader$Names" 30 ⟨"java/lang/Math", "min", "(II)I"⟩ ∈ Tall := tw2 232 rfl rfl
theorem lk_N_36 : Cond.methodLink "FilterReader$Names" 36 ⟨"java/lang/Math", "max", "(II)I"⟩ ∈ Tall := tw3 177 rfl rfl
theorem lk_N_39 : Cond.methodLink "FilterReader$Names" 39 ⟨"FilterReader$Names", "isNamed", "(III)Z"⟩ ∈ Tall := tw3 90 rfl rfl
theorem lk_N_43 : Cond.methodLink "FilterReader$Names" 43 ⟨"FilterReader$Names", "isKnownAnywhere", "(III)Z"⟩ ∈ Tall := tw3 120 rfl rfl
theorem lk_N_48 : Cond.methodLink "FilterReader$Names" 48 ⟨"FilterReader$Bytes", "same", "([BIII)Z"⟩ ∈ Tall := tw3 94 rfl rfl
theorem lk_N_56 : Cond.methodLink "FilterReader$Names" 56 ⟨"FilterReader$Names", "isListed", "(Ljava/lang/String;II)Z"⟩ ∈ Tall := tw3 125 rfl rfl
theorem lk_N_64 : Cond.methodLink "FilterReader$Names" 64 ⟨"java/lang/String", "length", "()I"⟩ ∈ Tall := tw3 129 rfl rfl
theorem lk_N_70 : Cond.methodLink "FilterReader$Names" 70 ⟨"java/lang/String", "charAt", "(I)C"⟩ ∈ Tall := tw3 130 rfl rfl
theorem lk_N_74 : Cond.methodLink "FilterReader$Names" 74 ⟨"FilterReader$Bytes", "isText", "([BIILjava/lang/String;I)Z"⟩ ∈ Tall := tw3 131 rfl rfl
theorem lk_S_108 : Cond.methodLink "FilterReader$Signs" 108 ⟨"java/lang/Math", "min", "(JJ)J"⟩ ∈ Tall := tw2 43 rfl rfl
theorem lk_S_120 : Cond.methodLink "FilterReader$Signs" 120 ⟨"FilterReader$Signs", "isNarrowCode", "(I)Z"⟩ ∈ Tall := tw3 41 rfl rfl
theorem lk_S_123 : Cond.methodLink "FilterReader$Signs" 123 ⟨"FilterReader$Bytes", "isEscaped", "(I)Z"⟩ ∈ Tall := tw3 49 rfl rfl
theorem lk_S_126 : Cond.methodLink "FilterReader$Signs" 126 ⟨"FilterReader$Bytes", "hexDigit", "(I)I"⟩ ∈ Tall := tw3 45 rfl rfl
theorem lk_S_26 : Cond.methodLink "FilterReader$Signs" 26 ⟨"FilterReader$Signs", "goTo", "(I)V"⟩ ∈ Tall := tw2 14 rfl rfl
theorem lk_S_49 : Cond.methodLink "FilterReader$Signs" 49 ⟨"FilterReader$Signs", "next", "()V"⟩ ∈ Tall := tw2 18 rfl rfl
theorem lk_S_52 : Cond.methodLink "FilterReader$Signs" 52 ⟨"FilterReader$Signs", "skipBlanks", "(I)I"⟩ ∈ Tall := tw2 22 rfl rfl
theorem lk_S_56 : Cond.methodLink "FilterReader$Signs" 56 ⟨"FilterReader$Signs", "byteAt", "(I)I"⟩ ∈ Tall := tw2 26 rfl rfl
theorem lk_S_59 : Cond.methodLink "FilterReader$Signs" 59 ⟨"FilterReader$Bytes", "isDigit", "(I)Z"⟩ ∈ Tall := tw2 33 rfl rfl
theorem lk_S_65 : Cond.methodLink "FilterReader$Signs" 65 ⟨"FilterReader$Signs", "number", "()V"⟩ ∈ Tall := tw2 36 rfl rfl
theorem lk_S_68 : Cond.methodLink "FilterReader$Signs" 68 ⟨"FilterReader$Bytes", "startsName", "(I)Z"⟩ ∈ Tall := tw2 50 rfl rfl
theorem lk_S_71 : Cond.methodLink "FilterReader$Signs" 71 ⟨"FilterReader$Signs", "nameEnd", "(I)I"⟩ ∈ Tall := tw2 53 rfl rfl
theorem lk_S_74 : Cond.methodLink "FilterReader$Signs" 74 ⟨"FilterReader$Sign", "ofName", "([BII)LFilterReader$Sign;"⟩ ∈ Tall := tw2 60 rfl rfl
theorem lk_S_78 : Cond.methodLink "FilterReader$Signs" 78 ⟨"FilterReader$Sign", "ofSymbol", "([BII)LFilterReader$Sign;"⟩ ∈ Tall := tw2 123 rfl rfl
theorem lk_S_85 : Cond.methodLink "FilterReader$Signs" 85 ⟨"java/lang/String", "length", "()I"⟩ ∈ Tall := tw2 127 rfl rfl
theorem lk_S_90 : Cond.methodLink "FilterReader$Signs" 90 ⟨"FilterReader$Signs", "opensProgram", "(I)Z"⟩ ∈ Tall := tw3 33 rfl rfl
theorem lk_S_93 : Cond.methodLink "FilterReader$Signs" 93 ⟨"FilterReader$Signs", "characterSize", "(I)I"⟩ ∈ Tall := tw3 37 rfl rfl
theorem lk_S_96 : Cond.methodLink "FilterReader$Signs" 96 ⟨"FilterReader$Bytes", "isBlank", "(I)Z"⟩ ∈ Tall := tw2 30 rfl rfl
theorem lk_S_99 : Cond.methodLink "FilterReader$Signs" 99 ⟨"FilterReader$Bytes", "isOfName", "(I)Z"⟩ ∈ Tall := tw2 57 rfl rfl
theorem lf_E_195 : Cond.fieldLink "FilterReader$Sign" 195 "FilterReader$Sign" "text" "Ljava/lang/String;" ∈ Tall := tw5 128 rfl rfl
theorem lf_E_222 : Cond.fieldLink "FilterReader$Sign" 222 "FilterReader$Sign" "word" "Z" ∈ Tall := tw5 127 rfl rfl
theorem ln_G_116 : ("FilterReader$Grammar", 116, "FilterReader$Sign", "level", "I", "FilterReader") ∈ fnA := by decide +kernel
theorem ln_G_121 : ("FilterReader$Grammar", 121, "FilterReader$Sign", "kind", "I", "FilterReader") ∈ fnA := by decide +kernel
theorem ln_S_33 : ("FilterReader$Signs", 33, "FilterReader$Sign", "word", "Z", "FilterReader") ∈ fnA := by decide +kernel
theorem ln_S_81 : ("FilterReader$Signs", 81, "FilterReader$Sign", "text", "Ljava/lang/String;", "FilterReader") ∈ fnA := by decide +kernel
abbrev tb_JA : jm_T := ([], [], [])
set_option maxRecDepth 100000 in
theorem tk_JA {l : Launch} {D : va_G} {ad : Nat → Nat} {aC : Nat → ClassId} {b0 : Nat} : jm_TOk (jm_PP l D clC ad aC shC b0 1) "java/util/Arrays" tb_JA := ⟨fun _ h => absurd h List.not_mem_nil, fun _ h => absurd h List.not_mem_nil, fun _ h => absurd h List.not_mem_nil⟩
abbrev tb_B : jm_T := ([], [], [])
set_option maxRecDepth 100000 in
theorem tk_B {l : Launch} {D : va_G} {ad : Nat → Nat} {aC : Nat → ClassId} {b0 : Nat} : jm_TOk (jm_PP l D clC ad aC shC b0 1) "FilterReader$Bytes" tb_B := ⟨fun _ h => absurd h List.not_mem_nil, fun _ h => absurd h List.not_mem_nil, fun _ h => absurd h List.not_mem_nil⟩
abbrev tb_K : jm_T := ([], [], [])
set_option maxRecDepth 100000 in
theorem tk_K {l : Launch} {D : va_G} {ad : Nat → Nat} {aC : Nat → ClassId} {b0 : Nat} : jm_TOk (jm_PP l D clC ad aC shC b0 1) "FilterReader$Kind" tb_K := ⟨fun _ h => absurd h List.not_mem_nil, fun _ h => absurd h List.not_mem_nil, fun _ h => absurd h List.not_mem_nil⟩
theorem lf_E_10 : Cond.fieldLink "FilterReader$Sign" 10 "FilterReader$Sign" "NAME" "LFilterReader$Sign;" ∈ Tall := tw2 117 rfl rfl
theorem lf_E_226 : Cond.fieldLink "FilterReader$Sign" 226 "FilterReader$Sign" "ALL" "[LFilterReader$Sign;" ∈ Tall := tw2 63 rfl rfl
theorem lf_E_7 : Cond.fieldLink "FilterReader$Sign" 7 "FilterReader$Sign" "NO_SIGN" "LFilterReader$Sign;" ∈ Tall := tw2 126 rfl rfl
abbrev tb_E : jm_T := ([], [(7, .ref 1001), (10, .ref 1002), (226, .ref 900)], [])
set_option maxRecDepth 100000 in
theorem tk_E {l : Launch} {D : va_G} {ad : Nat → Nat} {aC : Nat → ClassId} {b0 : Nat} : jm_TOk (jm_PP l D clC ad aC shC b0 1) "FilterReader$Sign" tb_E := ⟨fun _ h => absurd h List.not_mem_nil, List.forall_mem_cons.mpr ⟨jm_SOk.mk (i := 1) lf_E_7 rfl, List.forall_mem_cons.mpr ⟨jm_SOk.mk (i := 2) lf_E_10 rfl, List.forall_mem_cons.mpr ⟨jm_SOk.mk (i := 55) lf_E_226 rfl, fun _ h => absurd h List.not_mem_nil⟩⟩⟩, fun _ h => absurd h List.not_mem_nil⟩
theorem lf_S_114 : Cond.fieldLink "FilterReader$Signs" 114 "FilterReader$Sign" "NUMBER" "LFilterReader$Sign;" ∈ Tall := tw2 46 rfl rfl
theorem lf_S_117 : Cond.fieldLink "FilterReader$Signs" 117 "FilterReader$Sign" "NO_SIGN" "LFilterReader$Sign;" ∈ Tall := tw2 48 rfl rfl
theorem lf_S_13 : Cond.fieldLink "FilterReader$Signs" 13 "FilterReader$Sign" "END" "LFilterReader$Sign;" ∈ Tall := tw1 45 rfl rfl
theorem lf_S_19 : Cond.fieldLink "FilterReader$Signs" 19 "FilterReader$Signs" "sign" "LFilterReader$Sign;" ∈ Tall := tw1 51 rfl rfl
theorem lf_S_22 : Cond.fieldLink "FilterReader$Signs" 22 "FilterReader$Signs" "length" "I" ∈ Tall := tw1 48 rfl rfl
theorem lf_S_30 : Cond.fieldLink "FilterReader$Signs" 30 "FilterReader$Sign" "NAME" "LFilterReader$Sign;" ∈ Tall := tw3 105 rfl rfl
theorem lf_S_37 : Cond.fieldLink "FilterReader$Signs" 37 "FilterReader$Signs" "start" "I" ∈ Tall := tw1 49 rfl rfl
theorem lf_S_40 : Cond.fieldLink "FilterReader$Signs" 40 "FilterReader$Signs" "behind" "I" ∈ Tall := tw1 50 rfl rfl
theorem lf_S_43 : Cond.fieldLink "FilterReader$Signs" 43 "FilterReader$Sign" "VARIABLE" "LFilterReader$Sign;" ∈ Tall := tw2 121 rfl rfl
theorem lf_S_46 : Cond.fieldLink "FilterReader$Signs" 46 "FilterReader$Sign" "FIELD" "LFilterReader$Sign;" ∈ Tall := tw2 119 rfl rfl
theorem lf_S_7 : Cond.fieldLink "FilterReader$Signs" 7 "FilterReader$Signs" "tape" "[B" ∈ Tall := tw1 47 rfl rfl
abbrev tb_S : jm_T := ([(7, 2, 0), (19, 2, 4), (22, 2, 1), (37, 2, 2), (40, 2, 3)], [(13, .ref 1000), (30, .ref 1002), (43, .ref 1004), (46, .ref 1003), (114, .ref 1005), (117, .ref 1001)], [(102, .long 10), (104, .long 48), (106, .long 9007199254740992)])
set_option maxRecDepth 100000 in
theorem tk_S {l : Launch} {D : va_G} {ad : Nat → Nat} {aC : Nat → ClassId} {b0 : Nat} : jm_TOk (jm_PP l D clC ad aC shC b0 1) "FilterReader$Signs" tb_S := ⟨List.forall_mem_cons.mpr ⟨jm_FOk.mk (C := "FilterReader$Signs") (T := T_S) (N := 5) (ty := ty_S) rfl (by decide) rfl wi_S tk_S_ty tk_S_nm lf_S_7 (by decide +kernel), List.forall_mem_cons.mpr ⟨jm_FOk.mk (C := "FilterReader$Signs") (T := T_S) (N := 5) (ty := ty_S) rfl (by decide) rfl wi_S tk_S_ty tk_S_nm lf_S_19 (by decide +kernel), List.forall_mem_cons.mpr ⟨jm_FOk.mk (C := "FilterReader$Signs") (T := T_S) (N := 5) (ty := ty_S) rfl (by decide) rfl wi_S tk_S_ty tk_S_nm lf_S_22 (by decide +kernel), List.forall_mem_cons.mpr ⟨jm_FOk.mk (C := "FilterReader$Signs") (T := T_S) (N := 5) (ty := ty_S) rfl (by decide) rfl wi_S tk_S_ty tk_S_nm lf_S_37 (by decide +kernel), List.forall_mem_cons.mpr ⟨jm_FOk.mk (C := "FilterReader$Signs") (T := T_S) (N := 5) (ty := ty_S) rfl (by decide) rfl wi_S tk_S_ty tk_S_nm lf_S_40 (by decide +kernel), fun _ h => absurd h List.not_mem_nil⟩⟩⟩⟩⟩, List.forall_mem_cons.mpr ⟨jm_SOk.mk (i := 0) lf_S_13 rfl, List.forall_mem_cons.mpr ⟨jm_SOk.mk (i := 2) lf_S_30 rfl, List.forall_mem_cons.mpr ⟨jm_SOk.mk (i := 4) lf_S_43 rfl, List.forall_mem_cons.mpr ⟨jm_SOk.mk (i := 3) lf_S_46 rfl, List.forall_mem_cons.mpr ⟨jm_SOk.mk (i := 5) lf_S_114 rfl, List.forall_mem_cons.mpr ⟨jm_SOk.mk (i := 1) lf_S_117 rfl, fun _ h => absurd h List.not_mem_nil⟩⟩⟩⟩⟩⟩, List.forall_mem_cons.mpr ⟨Or.inr ⟨10, rfl, tw2 40 rfl rfl⟩, List.forall_mem_cons.mpr ⟨Or.inr ⟨48, rfl, tw2 41 rfl rfl⟩, List.forall_mem_cons.mpr ⟨Or.inr ⟨9007199254740992, rfl, tw2 42 rfl rfl⟩, fun _ h => absurd h List.not_mem_nil⟩⟩⟩⟩
theorem lf_N_13 : Cond.fieldLink "FilterReader$Names" 13 "FilterReader$Names" "starts" "[I" ∈ Tall := tw1 72 rfl rfl
theorem lf_N_16 : Cond.fieldLink "FilterReader$Names" 16 "FilterReader$Names" "sizes" "[I" ∈ Tall := tw1 73 rfl rfl
theorem lf_N_19 : Cond.fieldLink "FilterReader$Names" 19 "FilterReader$Names" "parameters" "[I" ∈ Tall := tw1 74 rfl rfl
theorem lf_N_22 : Cond.fieldLink "FilterReader$Names" 22 "FilterReader$Names" "tape" "[B" ∈ Tall := tw1 75 rfl rfl
theorem lf_N_26 : Cond.fieldLink "FilterReader$Names" 26 "FilterReader$Names" "size" "I" ∈ Tall := tw1 76 rfl rfl
theorem lf_N_9 : Cond.fieldLink "FilterReader$Names" 9 "FilterReader$Names" "sorts" "[I" ∈ Tall := tw1 71 rfl rfl
abbrev tb_N : jm_T := ([(9, 3, 0), (13, 3, 1), (16, 3, 2), (19, 3, 3), (22, 3, 4), (26, 3, 5)], [], [])
set_option maxRecDepth 100000 in
theorem tk_N {l : Launch} {D : va_G} {ad : Nat → Nat} {aC : Nat → ClassId} {b0 : Nat} : jm_TOk (jm_PP l D clC ad aC shC b0 1) "FilterReader$Names" tb_N := ⟨List.forall_mem_cons.mpr ⟨jm_FOk.mk (C := "FilterReader$Names") (T := T_N) (N := 6) (ty := ty_N) rfl (by decide) rfl wi_N tk_N_ty tk_N_nm lf_N_9 (by decide +kernel), List.forall_mem_cons.mpr ⟨jm_FOk.mk (C := "FilterReader$Names") (T := T_N) (N := 6) (ty := ty_N) rfl (by decide) rfl wi_N tk_N_ty tk_N_nm lf_N_13 (by decide +kernel), List.forall_mem_cons.mpr ⟨jm_FOk.mk (C := "FilterReader$Names") (T := T_N) (N := 6) (ty := ty_N) rfl (by decide) rfl wi_N tk_N_ty tk_N_nm lf_N_16 (by decide +kernel), List.forall_mem_cons.mpr ⟨jm_FOk.mk (C := "FilterReader$Names") (T := T_N) (N := 6) (ty := ty_N) rfl (by decide) rfl wi_N tk_N_ty tk_N_nm lf_N_19 (by decide +kernel), List.forall_mem_cons.mpr ⟨jm_FOk.mk (C := "FilterReader$Names") (T := T_N) (N := 6) (ty := ty_N) rfl (by decide) rfl wi_N tk_N_ty tk_N_nm lf_N_22 (by decide +kernel), List.forall_mem_cons.mpr ⟨jm_FOk.mk (C := "FilterReader$Names") (T := T_N) (N := 6) (ty := ty_N) rfl (by decide) rfl wi_N tk_N_ty tk_N_nm lf_N_26 (by decide +kernel), fun _ h => absurd h List.not_mem_nil⟩⟩⟩⟩⟩⟩, fun _ h => absurd h List.not_mem_nil, fun _ h => absurd h List.not_mem_nil⟩
theorem lf_G_11 : Cond.fieldLink "FilterReader$Grammar" 11 "FilterReader$Grammar" "counts" "[I" ∈ Tall := tw1 90 rfl rfl
theorem lf_G_133 : Cond.fieldLink "FilterReader$Grammar" 133 "FilterReader$Sign" "DEF" "LFilterReader$Sign;" ∈ Tall := tw2 140 rfl rfl
theorem lf_G_139 : Cond.fieldLink "FilterReader$Grammar" 139 "FilterReader$Sign" "LABEL" "LFilterReader$Sign;" ∈ Tall := tw2 235 rfl rfl
theorem lf_G_145 : Cond.fieldLink "FilterReader$Grammar" 145 "FilterReader$Sign" "NAME" "LFilterReader$Sign;" ∈ Tall := tw2 159 rfl rfl
theorem lf_G_151 : Cond.fieldLink "FilterReader$Grammar" 151 "FilterReader$Sign" "ROUND_OPEN" "LFilterReader$Sign;" ∈ Tall := tw2 203 rfl rfl
theorem lf_G_160 : Cond.fieldLink "FilterReader$Grammar" 160 "FilterReader$Sign" "SEMICOLON" "LFilterReader$Sign;" ∈ Tall := tw2 214 rfl rfl
theorem lf_G_167 : Cond.fieldLink "FilterReader$Grammar" 167 "FilterReader$Sign" "ROUND_CLOSE" "LFilterReader$Sign;" ∈ Tall := tw2 220 rfl rfl
theorem lf_G_173 : Cond.fieldLink "FilterReader$Grammar" 173 "FilterReader$Sign" "COLON" "LFilterReader$Sign;" ∈ Tall := tw2 226 rfl rfl
theorem lf_G_176 : Cond.fieldLink "FilterReader$Grammar" 176 "FilterReader$Sign" "VARIABLE" "LFilterReader$Sign;" ∈ Tall := tw2 213 rfl rfl
theorem lf_G_179 : Cond.fieldLink "FilterReader$Grammar" 179 "FilterReader$Sign" "PIPE" "LFilterReader$Sign;" ∈ Tall := tw3 1 rfl rfl
theorem lf_G_182 : Cond.fieldLink "FilterReader$Grammar" 182 "FilterReader$1" "$SwitchMap$FilterReader$Sign" "[I" ∈ Tall := tw3 7 rfl rfl
theorem lf_G_20 : Cond.fieldLink "FilterReader$Grammar" 20 "FilterReader$Grammar" "signs" "LFilterReader$Signs;" ∈ Tall := tw1 91 rfl rfl
theorem lf_G_200 : Cond.fieldLink "FilterReader$Grammar" 200 "FilterReader$Sign" "CATCH" "LFilterReader$Sign;" ∈ Tall := tw3 196 rfl rfl
theorem lf_G_203 : Cond.fieldLink "FilterReader$Grammar" 203 "FilterReader$Sign" "AS" "LFilterReader$Sign;" ∈ Tall := tw3 153 rfl rfl
theorem lf_G_219 : Cond.fieldLink "FilterReader$Grammar" 219 "FilterReader$Sign" "ELIF" "LFilterReader$Sign;" ∈ Tall := tw3 190 rfl rfl
theorem lf_G_222 : Cond.fieldLink "FilterReader$Grammar" 222 "FilterReader$Sign" "ELSE" "LFilterReader$Sign;" ∈ Tall := tw3 192 rfl rfl
theorem lf_G_225 : Cond.fieldLink "FilterReader$Grammar" 225 "FilterReader$Sign" "END_WORD" "LFilterReader$Sign;" ∈ Tall := tw3 194 rfl rfl
theorem lf_G_228 : Cond.fieldLink "FilterReader$Grammar" 228 "FilterReader$Sign" "THEN" "LFilterReader$Sign;" ∈ Tall := tw3 188 rfl rfl
theorem lf_G_231 : Cond.fieldLink "FilterReader$Grammar" 231 "FilterReader$Sign" "STRING" "LFilterReader$Sign;" ∈ Tall := tw3 23 rfl rfl
theorem lf_G_258 : Cond.fieldLink "FilterReader$Grammar" 258 "FilterReader$Sign" "DOT" "LFilterReader$Sign;" ∈ Tall := tw3 138 rfl rfl
theorem lf_G_261 : Cond.fieldLink "FilterReader$Grammar" 261 "FilterReader$Sign" "SQUARE_OPEN" "LFilterReader$Sign;" ∈ Tall := tw3 140 rfl rfl
theorem lf_G_267 : Cond.fieldLink "FilterReader$Grammar" 267 "FilterReader$Sign" "FIELD" "LFilterReader$Sign;" ∈ Tall := tw3 146 rfl rfl
theorem lf_G_27 : Cond.fieldLink "FilterReader$Grammar" 27 "FilterReader$Grammar" "names" "LFilterReader$Names;" ∈ Tall := tw1 92 rfl rfl
theorem lf_G_270 : Cond.fieldLink "FilterReader$Grammar" 270 "FilterReader$Sign" "QUESTION" "LFilterReader$Sign;" ∈ Tall := tw3 147 rfl rfl
theorem lf_G_273 : Cond.fieldLink "FilterReader$Grammar" 273 "FilterReader$Sign" "SQUARE_CLOSE" "LFilterReader$Sign;" ∈ Tall := tw3 66 rfl rfl
theorem lf_G_290 : Cond.fieldLink "FilterReader$Grammar" 290 "FilterReader$Sign" "CURLY_CLOSE" "LFilterReader$Sign;" ∈ Tall := tw3 76 rfl rfl
theorem lf_G_296 : Cond.fieldLink "FilterReader$Grammar" 296 "FilterReader$Sign" "COMMA" "LFilterReader$Sign;" ∈ Tall := tw3 110 rfl rfl
theorem lf_G_31 : Cond.fieldLink "FilterReader$Grammar" 31 "FilterReader$Grammar" "brokenPlace" "I" ∈ Tall := tw1 94 rfl rfl
theorem lf_G_312 : Cond.fieldLink "FilterReader$Grammar" 312 "FilterReader$Sign" "CURLY_OPEN" "LFilterReader$Sign;" ∈ Tall := tw3 163 rfl rfl
theorem lf_G_49 : Cond.fieldLink "FilterReader$Grammar" 49 "FilterReader$Sign" "END" "LFilterReader$Sign;" ∈ Tall := tw3 202 rfl rfl
theorem lf_G_59 : Cond.fieldLink "FilterReader$Grammar" 59 "FilterReader$Grammar" "total" "I" ∈ Tall := tw1 93 rfl rfl
abbrev tb_G : jm_T := ([(11, 1, 0), (20, 1, 1), (27, 1, 2), (31, 1, 4), (59, 1, 3)], [(49, .ref 1000), (133, .ref 1021), (139, .ref 1027), (145, .ref 1002), (151, .ref 1012), (160, .ref 1011), (167, .ref 1013), (173, .ref 1010), (176, .ref 1004), (179, .ref 1031), (182, .ref 901), (200, .ref 1020), (203, .ref 1018), (219, .ref 1022), (222, .ref 1023), (225, .ref 1024), (228, .ref 1029), (231, .ref 1006), (258, .ref 1007), (261, .ref 1014), (267, .ref 1003), (270, .ref 1009), (273, .ref 1015), (290, .ref 1017), (296, .ref 1032), (312, .ref 1016)], [])
set_option maxRecDepth 100000 in
theorem tk_G {l : Launch} {D : va_G} {ad : Nat → Nat} {aC : Nat → ClassId} {b0 : Nat} : jm_TOk (jm_PP l D clC ad aC shC b0 1) "FilterReader$Grammar" tb_G := ⟨List.forall_mem_cons.mpr ⟨jm_FOk.mk (C := "FilterReader$Grammar") (T := T_G) (N := 5) (ty := ty_G) rfl (by decide) rfl wi_G tk_G_ty tk_G_nm lf_G_11 (by decide +kernel), List.forall_mem_cons.mpr ⟨jm_FOk.mk (C := "FilterReader$Grammar") (T := T_G) (N := 5) (ty := ty_G) rfl (by decide) rfl wi_G tk_G_ty tk_G_nm lf_G_20 (by decide +kernel), List.forall_mem_cons.mpr ⟨jm_FOk.mk (C := "FilterReader$Grammar") (T := T_G) (N := 5) (ty := ty_G) rfl (by decide) rfl wi_G tk_G_ty tk_G_nm lf_G_27 (by decide +kernel), List.forall_mem_cons.mpr ⟨jm_FOk.mk (C := "FilterReader$Grammar") (T := T_G) (N := 5) (ty := ty_G) rfl (by decide) rfl wi_G tk_G_ty tk_G_nm lf_G_31 (by decide +kernel), List.forall_mem_cons.mpr ⟨jm_FOk.mk (C := "FilterReader$Grammar") (T := T_G) (N := 5) (ty := ty_G) rfl (by decide) rfl wi_G tk_G_ty tk_G_nm lf_G_59 (by decide +kernel), fun _ h => absurd h List.not_mem_nil⟩⟩⟩⟩⟩, List.forall_mem_cons.mpr ⟨jm_SOk.mk (i := 0) lf_G_49 rfl, List.forall_mem_cons.mpr ⟨jm_SOk.mk (i := 21) lf_G_133 rfl, List.forall_mem_cons.mpr ⟨jm_SOk.mk (i := 27) lf_G_139 rfl, List.forall_mem_cons.mpr ⟨jm_SOk.mk (i := 2) lf_G_145 rfl, List.forall_mem_cons.mpr ⟨jm_SOk.mk (i := 12) lf_G_151 rfl, List.forall_mem_cons.mpr ⟨jm_SOk.mk (i := 11) lf_G_160 rfl, List.forall_mem_cons.mpr ⟨jm_SOk.mk (i := 13) lf_G_167 rfl, List.forall_mem_cons.mpr ⟨jm_SOk.mk (i := 10) lf_G_173 rfl, List.forall_mem_cons.mpr ⟨jm_SOk.mk (i := 4) lf_G_176 rfl, List.forall_mem_cons.mpr ⟨jm_SOk.mk (i := 31) lf_G_179 rfl, List.forall_mem_cons.mpr ⟨jm_SOk.mk (i := 56) lf_G_182 rfl, List.forall_mem_cons.mpr ⟨jm_SOk.mk (i := 20) lf_G_200 rfl, List.forall_mem_cons.mpr ⟨jm_SOk.mk (i := 18) lf_G_203 rfl, List.forall_mem_cons.mpr ⟨jm_SOk.mk (i := 22) lf_G_219 rfl, List.forall_mem_cons.mpr ⟨jm_SOk.mk (i := 23) lf_G_222 rfl, List.forall_mem_cons.mpr ⟨jm_SOk.mk (i := 24) lf_G_225 rfl, List.forall_mem_cons.mpr ⟨jm_SOk.mk (i := 29) lf_G_228 rfl, List.forall_mem_cons.mpr ⟨jm_SOk.mk (i := 6) lf_G_231 rfl, List.forall_mem_cons.mpr ⟨jm_SOk.mk (i := 7) lf_G_258 rfl, List.forall_mem_cons.mpr ⟨jm_SOk.mk (i := 14) lf_G_261 rfl, List.forall_mem_cons.mpr ⟨jm_SOk.mk (i := 3) lf_G_267 rfl, List.forall_mem_cons.mpr ⟨jm_SOk.mk (i := 9) lf_G_270 rfl, List.forall_mem_cons.mpr ⟨jm_SOk.mk (i := 15) lf_G_273 rfl, List.forall_mem_cons.mpr ⟨jm_SOk.mk (i := 17) lf_G_290 rfl, List.forall_mem_cons.mpr ⟨jm_SOk.mk (i := 32) lf_G_296 rfl, List.forall_mem_cons.mpr ⟨jm_SOk.mk (i := 16) lf_G_312 rfl, fun _ h => absurd h List.not_mem_nil⟩⟩⟩⟩⟩⟩⟩⟩⟩⟩⟩⟩⟩⟩⟩⟩⟩⟩⟩⟩⟩⟩⟩⟩⟩⟩, fun _ h => absurd h List.not_mem_nil⟩
theorem lf_FR_16 : Cond.fieldLink "FilterReader" 16 "FilterReader" "grammar" "LFilterReader$Grammar;" ∈ Tall := tw1 107 rfl rfl
theorem lf_FR_20 : Cond.fieldLink "FilterReader" 20 "FilterReader" "length" "I" ∈ Tall := tw1 108 rfl rfl
theorem lf_FR_9 : Cond.fieldLink "FilterReader" 9 "FilterReader" "tape" "[B" ∈ Tall := tw1 106 rfl rfl
abbrev tb_FR : jm_T := ([(9, 0, 0), (16, 0, 1), (20, 0, 2)], [], [])
set_option maxRecDepth 100000 in
theorem tk_FR {l : Launch} {D : va_G} {ad : Nat → Nat} {aC : Nat → ClassId} {b0 : Nat} : jm_TOk (jm_PP l D clC ad aC shC b0 1) "FilterReader" tb_FR := ⟨List.forall_mem_cons.mpr ⟨jm_FOk.mk (C := "FilterReader") (T := T_FR) (N := 3) (ty := ty_FR) rfl (by decide) rfl wi_FR tk_FR_ty tk_FR_nm lf_FR_9 (by decide +kernel), List.forall_mem_cons.mpr ⟨jm_FOk.mk (C := "FilterReader") (T := T_FR) (N := 3) (ty := ty_FR) rfl (by decide) rfl wi_FR tk_FR_ty tk_FR_nm lf_FR_16 (by decide +kernel), List.forall_mem_cons.mpr ⟨jm_FOk.mk (C := "FilterReader") (T := T_FR) (N := 3) (ty := ty_FR) rfl (by decide) rfl wi_FR tk_FR_ty tk_FR_nm lf_FR_20 (by decide +kernel), fun _ h => absurd h List.not_mem_nil⟩⟩⟩, fun _ h => absurd h List.not_mem_nil, fun _ h => absurd h List.not_mem_nil⟩
theorem tn_FR_24_a : Bundle.fit "java/lang/IndexOutOfBoundsException" = true := by decide +kernel
theorem tn_FR_24_b : ∀ n ∈ (["java/lang/RuntimeException", "java/lang/Exception"] : List String), Bundle.fit n = true := by decide +kernel
theorem tn_FR_24_c : Cond.classLink "FilterReader" 24 "java/lang/IndexOutOfBoundsException" ∈ Tall := tw1 136 rfl rfl
theorem tn_FR_24_d : Cond.initialized "java/lang/IndexOutOfBoundsException" ∈ Tall := tw1 12 rfl rfl
theorem tn_FR_24_e : ∀ w ∈ vx_at0 "FilterReader" 26 "java/lang/IndexOutOfBoundsException" ["java/lang/RuntimeException", "java/lang/Exception"], w ∈ Tall := tl (by decide +kernel) (by decide +kernel)
theorem tn_FR_24_f : ∀ w ∈ Cond.classLink "FilterReader" 24 "java/lang/IndexOutOfBoundsException" :: Cond.initialized "java/lang/IndexOutOfBoundsException" :: vx_at0 "FilterReader" 26 "java/lang/IndexOutOfBoundsException" ["java/lang/RuntimeException", "java/lang/Exception"], vx_ot w = true := by decide +kernel
theorem tn_FR_31_a : Bundle.fit "java/lang/IllegalArgumentException" = true := by decide +kernel
theorem tn_FR_31_b : ∀ n ∈ (["java/lang/RuntimeException", "java/lang/Exception"] : List String), Bundle.fit n = true := by decide +kernel
theorem tn_FR_31_c : Cond.classLink "FilterReader" 31 "java/lang/IllegalArgumentException" ∈ Tall := tw1 212 rfl rfl
theorem tn_FR_31_d : Cond.initialized "java/lang/IllegalArgumentException" ∈ Tall := tw1 13 rfl rfl
theorem tn_FR_31_e : ∀ w ∈ vx_at0 "FilterReader" 33 "java/lang/IllegalArgumentException" ["java/lang/RuntimeException", "java/lang/Exception"], w ∈ Tall := tl (by decide +kernel) (by decide +kernel)
theorem tn_FR_31_f : ∀ w ∈ Cond.classLink "FilterReader" 31 "java/lang/IllegalArgumentException" :: Cond.initialized "java/lang/IllegalArgumentException" :: vx_at0 "FilterReader" 33 "java/lang/IllegalArgumentException" ["java/lang/RuntimeException", "java/lang/Exception"], vx_ot w = true := by decide +kernel
theorem tn_G_68_a : Bundle.fit "java/lang/UnsupportedOperationException" = true := by decide +kernel
theorem tn_G_68_b : ∀ n ∈ (["java/lang/RuntimeException", "java/lang/Exception"] : List String), Bundle.fit n = true := by decide +kernel
theorem tn_G_68_c : Cond.classLink "FilterReader$Grammar" 68 "java/lang/UnsupportedOperationException" ∈ Tall := tw2 172 rfl rfl
theorem tn_G_68_d : Cond.initialized "java/lang/UnsupportedOperationException" ∈ Tall := tw1 21 rfl rfl
theorem tn_G_68_e : ∀ w ∈ vx_at0 "FilterReader$Grammar" 70 "java/lang/UnsupportedOperationException" ["java/lang/RuntimeException", "java/lang/Exception"], w ∈ Tall := tl (by decide +kernel) (by decide +kernel)
theorem tn_G_68_f : ∀ w ∈ Cond.classLink "FilterReader$Grammar" 68 "java/lang/UnsupportedOperationException" :: Cond.initialized "java/lang/UnsupportedOperationException" :: vx_at0 "FilterReader$Grammar" 70 "java/lang/UnsupportedOperationException" ["java/lang/RuntimeException", "java/lang/Exception"], vx_ot w = true := by decide +kernel

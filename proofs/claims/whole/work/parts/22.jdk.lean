/-! JDK methods that are walked like ours: contracts. Printed by wip/whole/printJ.py. -/
abbrev mt_JS_coder : jm_M := (⟨"java/lang/String", "coder", "()B"⟩, prog_20_method_152_code, 1, (some .byte), [])
theorem mw_JS_coder : jm_cw mt_JS_coder ∈ Tall := tw2 72 rfl rfl
theorem mh_JS_coder : mt_JS_coder.1.cls ≠ "java/lang/invoke/MethodHandle" ∧ mt_JS_coder.1.cls ≠ "java/lang/invoke/VarHandle" := by decide +kernel
theorem ml_JS_coder : (parseMethodDescriptor mt_JS_coder.1.desc).map (fun q => q.parameters.length) = some 0 := by decide +kernel
theorem mn_JS_coder : Cond.instanceMethod mt_JS_coder.1 ∈ Tall := tw2 70 rfl rfl
theorem ms_JS_coder : Cond.selects "java/lang/String" mt_JS_coder.1 mt_JS_coder.1 ∈ Tall := tw2 71 rfl rfl
abbrev mt_JS_length : jm_M := (⟨"java/lang/String", "length", "()I"⟩, prog_20_method_54_code, 1, (some .int), [])
theorem mw_JS_length : jm_cw mt_JS_length ∈ Tall := tw2 68 rfl rfl
theorem mh_JS_length : mt_JS_length.1.cls ≠ "java/lang/invoke/MethodHandle" ∧ mt_JS_length.1.cls ≠ "java/lang/invoke/VarHandle" := by decide +kernel
theorem ml_JS_length : (parseMethodDescriptor mt_JS_length.1.desc).map (fun q => q.parameters.length) = some 0 := by decide +kernel
theorem mn_JS_length : Cond.instanceMethod mt_JS_length.1 ∈ Tall := tw2 66 rfl rfl
theorem ms_JS_length : Cond.selects "java/lang/String" mt_JS_length.1 mt_JS_length.1 ∈ Tall := tw2 67 rfl rfl
abbrev mt_JS_isLatin1 : jm_M := (⟨"java/lang/String", "isLatin1", "()Z"⟩, prog_20_method_154_code, 1, (some .boolean), [])
theorem mw_JS_isLatin1 : jm_cw mt_JS_isLatin1 ∈ Tall := tw2 86 rfl rfl
theorem mh_JS_isLatin1 : mt_JS_isLatin1.1.cls ≠ "java/lang/invoke/MethodHandle" ∧ mt_JS_isLatin1.1.cls ≠ "java/lang/invoke/VarHandle" := by decide +kernel
theorem ml_JS_isLatin1 : (parseMethodDescriptor mt_JS_isLatin1.1.desc).map (fun q => q.parameters.length) = some 0 := by decide +kernel
theorem mn_JS_isLatin1 : Cond.instanceMethod mt_JS_isLatin1.1 ∈ Tall := tw2 84 rfl rfl
theorem ms_JS_isLatin1 : Cond.selects "java/lang/String" mt_JS_isLatin1.1 mt_JS_isLatin1.1 ∈ Tall := tw2 85 rfl rfl
abbrev mt_JL_charAt : jm_M := (⟨"java/lang/StringLatin1", "charAt", "([BI)C"⟩, prog_21_method_2_code, 2, (some .char), [])
theorem mw_JL_charAt : jm_cw mt_JL_charAt ∈ Tall := tw2 89 rfl rfl
theorem mh_JL_charAt : mt_JL_charAt.1.cls ≠ "java/lang/invoke/MethodHandle" ∧ mt_JL_charAt.1.cls ≠ "java/lang/invoke/VarHandle" := by decide +kernel
theorem ml_JL_charAt : (parseMethodDescriptor mt_JL_charAt.1.desc).map (fun q => q.parameters.length) = some 2 := by decide +kernel
theorem mq_JL_charAt : Cond.static mt_JL_charAt.1 ∈ Tall := tw2 88 rfl rfl
abbrev mt_JS_charAt : jm_M := (⟨"java/lang/String", "charAt", "(I)C"⟩, prog_20_method_56_code, 2, (some .char), [])
theorem mw_JS_charAt : jm_cw mt_JS_charAt ∈ Tall := tw2 82 rfl rfl
theorem mh_JS_charAt : mt_JS_charAt.1.cls ≠ "java/lang/invoke/MethodHandle" ∧ mt_JS_charAt.1.cls ≠ "java/lang/invoke/VarHandle" := by decide +kernel
theorem ml_JS_charAt : (parseMethodDescriptor mt_JS_charAt.1.desc).map (fun q => q.parameters.length) = some 1 := by decide +kernel
theorem mn_JS_charAt : Cond.instanceMethod mt_JS_charAt.1 ∈ Tall := tw2 80 rfl rfl
theorem ms_JS_charAt : Cond.selects "java/lang/String" mt_JS_charAt.1 mt_JS_charAt.1 ∈ Tall := tw2 81 rfl rfl
abbrev mt_JM_min_ii : jm_M := (⟨"java/lang/Math", "min", "(II)I"⟩, prog_18_method_69_code, 2, (some .int), [])
theorem mw_JM_min_ii : jm_cw mt_JM_min_ii ∈ Tall := tw2 234 rfl rfl
theorem mh_JM_min_ii : mt_JM_min_ii.1.cls ≠ "java/lang/invoke/MethodHandle" ∧ mt_JM_min_ii.1.cls ≠ "java/lang/invoke/VarHandle" := by decide +kernel
theorem ml_JM_min_ii : (parseMethodDescriptor mt_JM_min_ii.1.desc).map (fun q => q.parameters.length) = some 2 := by decide +kernel
theorem mq_JM_min_ii : Cond.static mt_JM_min_ii.1 ∈ Tall := tw2 233 rfl rfl
abbrev mt_JM_max : jm_M := (⟨"java/lang/Math", "max", "(II)I"⟩, prog_18_method_65_code, 2, (some .int), [])
theorem mw_JM_max : jm_cw mt_JM_max ∈ Tall := tw3 179 rfl rfl
theorem mh_JM_max : mt_JM_max.1.cls ≠ "java/lang/invoke/MethodHandle" ∧ mt_JM_max.1.cls ≠ "java/lang/invoke/VarHandle" := by decide +kernel
theorem ml_JM_max : (parseMethodDescriptor mt_JM_max.1.desc).map (fun q => q.parameters.length) = some 2 := by decide +kernel
theorem mq_JM_max : Cond.static mt_JM_max.1 ∈ Tall := tw3 178 rfl rfl
abbrev mt_JM_min_ll : jm_M := (⟨"java/lang/Math", "min", "(JJ)J"⟩, prog_18_method_70_code, 4, (some .long), [])
theorem mw_JM_min_ll : jm_cw mt_JM_min_ll ∈ Tall := tw2 45 rfl rfl
theorem mh_JM_min_ll : mt_JM_min_ll.1.cls ≠ "java/lang/invoke/MethodHandle" ∧ mt_JM_min_ll.1.cls ≠ "java/lang/invoke/VarHandle" := by decide +kernel
theorem ml_JM_min_ll : (parseMethodDescriptor mt_JM_min_ll.1.desc).map (fun q => q.parameters.length) = some 2 := by decide +kernel
theorem mq_JM_min_ll : Cond.static mt_JM_min_ll.1 ∈ Tall := tw2 44 rfl rfl
abbrev mt_JE_ordinal : jm_M := (⟨"java/lang/Enum", "ordinal", "()I"⟩, prog_13_method_2_code, 1, (some .int), [])
theorem mw_JE_ordinal : jm_cw mt_JE_ordinal ∈ Tall := tw3 18 rfl rfl
theorem mh_JE_ordinal : mt_JE_ordinal.1.cls ≠ "java/lang/invoke/MethodHandle" ∧ mt_JE_ordinal.1.cls ≠ "java/lang/invoke/VarHandle" := by decide +kernel
theorem ml_JE_ordinal : (parseMethodDescriptor mt_JE_ordinal.1.desc).map (fun q => q.parameters.length) = some 0 := by decide +kernel
theorem mn_JE_ordinal : Cond.instanceMethod mt_JE_ordinal.1 ∈ Tall := tw3 17 rfl rfl
abbrev mt_JL_canEncode : jm_M := (⟨"java/lang/StringLatin1", "canEncode", "(I)Z"⟩, prog_21_method_4_code, 1, (some .boolean), [])
theorem mw_JL_canEncode : jm_cw mt_JL_canEncode ∈ Tall := tw5 15 rfl rfl
theorem mh_JL_canEncode : mt_JL_canEncode.1.cls ≠ "java/lang/invoke/MethodHandle" ∧ mt_JL_canEncode.1.cls ≠ "java/lang/invoke/VarHandle" := by decide +kernel
theorem ml_JL_canEncode : (parseMethodDescriptor mt_JL_canEncode.1.desc).map (fun q => q.parameters.length) = some 1 := by decide +kernel
theorem mq_JL_canEncode : Cond.static mt_JL_canEncode.1 ∈ Tall := tw5 14 rfl rfl
abbrev mt_JL_indexOfChar : jm_M := (⟨"java/lang/StringLatin1", "indexOfChar", "([BIII)I"⟩, prog_21_method_23_code, 6, (some .int), [])
theorem mw_JL_indexOfChar : jm_cw mt_JL_indexOfChar ∈ Tall := tw5 20 rfl rfl
theorem mh_JL_indexOfChar : mt_JL_indexOfChar.1.cls ≠ "java/lang/invoke/MethodHandle" ∧ mt_JL_indexOfChar.1.cls ≠ "java/lang/invoke/VarHandle" := by decide +kernel
theorem ml_JL_indexOfChar : (parseMethodDescriptor mt_JL_indexOfChar.1.desc).map (fun q => q.parameters.length) = some 4 := by decide +kernel
theorem mq_JL_indexOfChar : Cond.static mt_JL_indexOfChar.1 ∈ Tall := tw5 19 rfl rfl
abbrev mt_JL_indexOf : jm_M := (⟨"java/lang/StringLatin1", "indexOf", "([BIII)I"⟩, prog_21_method_22_code, 4, (some .int), [])
theorem mw_JL_indexOf : jm_cw mt_JL_indexOf ∈ Tall := tw5 12 rfl rfl
theorem mh_JL_indexOf : mt_JL_indexOf.1.cls ≠ "java/lang/invoke/MethodHandle" ∧ mt_JL_indexOf.1.cls ≠ "java/lang/invoke/VarHandle" := by decide +kernel
theorem ml_JL_indexOf : (parseMethodDescriptor mt_JL_indexOf.1.desc).map (fun q => q.parameters.length) = some 4 := by decide +kernel
theorem mq_JL_indexOf : Cond.static mt_JL_indexOf.1 ∈ Tall := tw5 11 rfl rfl
abbrev mt_JS_indexOf_ii : jm_M := (⟨"java/lang/String", "indexOf", "(II)I"⟩, prog_20_method_80_code, 3, (some .int), [])
theorem mw_JS_indexOf_ii : jm_cw mt_JS_indexOf_ii ∈ Tall := tw5 8 rfl rfl
theorem mh_JS_indexOf_ii : mt_JS_indexOf_ii.1.cls ≠ "java/lang/invoke/MethodHandle" ∧ mt_JS_indexOf_ii.1.cls ≠ "java/lang/invoke/VarHandle" := by decide +kernel
theorem ml_JS_indexOf_ii : (parseMethodDescriptor mt_JS_indexOf_ii.1.desc).map (fun q => q.parameters.length) = some 2 := by decide +kernel
theorem mn_JS_indexOf_ii : Cond.instanceMethod mt_JS_indexOf_ii.1 ∈ Tall := tw5 6 rfl rfl
theorem ms_JS_indexOf_ii : Cond.selects "java/lang/String" mt_JS_indexOf_ii.1 mt_JS_indexOf_ii.1 ∈ Tall := tw5 7 rfl rfl
abbrev mt_JS_indexOf_i : jm_M := (⟨"java/lang/String", "indexOf", "(I)I"⟩, prog_20_method_79_code, 2, (some .int), [])
theorem mw_JS_indexOf_i : jm_cw mt_JS_indexOf_i ∈ Tall := tw5 4 rfl rfl
theorem mh_JS_indexOf_i : mt_JS_indexOf_i.1.cls ≠ "java/lang/invoke/MethodHandle" ∧ mt_JS_indexOf_i.1.cls ≠ "java/lang/invoke/VarHandle" := by decide +kernel
theorem ml_JS_indexOf_i : (parseMethodDescriptor mt_JS_indexOf_i.1.desc).map (fun q => q.parameters.length) = some 1 := by decide +kernel
theorem mn_JS_indexOf_i : Cond.instanceMethod mt_JS_indexOf_i.1 ∈ Tall := tw5 2 rfl rfl
theorem ms_JS_indexOf_i : Cond.selects "java/lang/String" mt_JS_indexOf_i.1 mt_JS_indexOf_i.1 ∈ Tall := tw5 3 rfl rfl
abbrev mt_JP_checkIndex : jm_M := (⟨"jdk/internal/util/Preconditions", "checkIndex", "(IILjava/util/function/BiFunction;)I"⟩, prog_26_method_11_code, 3, (some .int), [])
theorem mw_JP_checkIndex : jm_cw mt_JP_checkIndex ∈ Tall := tw2 97 rfl rfl
theorem mh_JP_checkIndex : mt_JP_checkIndex.1.cls ≠ "java/lang/invoke/MethodHandle" ∧ mt_JP_checkIndex.1.cls ≠ "java/lang/invoke/VarHandle" := by decide +kernel
theorem ml_JP_checkIndex : (parseMethodDescriptor mt_JP_checkIndex.1.desc).map (fun q => q.parameters.length) = some 3 := by decide +kernel
theorem mq_JP_checkIndex : Cond.static mt_JP_checkIndex.1 ∈ Tall := tw2 96 rfl rfl
abbrev mt_JS_checkIndex : jm_M := (⟨"java/lang/String", "checkIndex", "(II)V"⟩, prog_20_method_155_code, 2, none, [])
theorem mw_JS_checkIndex : jm_cw mt_JS_checkIndex ∈ Tall := tw2 92 rfl rfl
theorem mh_JS_checkIndex : mt_JS_checkIndex.1.cls ≠ "java/lang/invoke/MethodHandle" ∧ mt_JS_checkIndex.1.cls ≠ "java/lang/invoke/VarHandle" := by decide +kernel
theorem ml_JS_checkIndex : (parseMethodDescriptor mt_JS_checkIndex.1.desc).map (fun q => q.parameters.length) = some 2 := by decide +kernel
theorem mq_JS_checkIndex : Cond.static mt_JS_checkIndex.1 ∈ Tall := tw2 91 rfl rfl
theorem mi_JE : Cond.initialized "java/lang/Enum" ∈ Tall := tw1 4 rfl rfl
theorem mi_JM : Cond.initialized "java/lang/Math" ∈ Tall := tw1 16 rfl rfl
theorem mi_JS : Cond.initialized "java/lang/String" ∈ Tall := tw1 17 rfl rfl
theorem mi_JL : Cond.initialized "java/lang/StringLatin1" ∈ Tall := tw1 18 rfl rfl
theorem mi_JP : Cond.initialized "jdk/internal/util/Preconditions" ∈ Tall := tw1 19 rfl rfl
theorem mo_ord : Cond.sameMethod "FilterReader$Sign" "java/lang/Enum" "ordinal" "()I" ∈ Tall := tw3 14 rfl rfl
theorem mp_ord : Cond.selects "FilterReader$Sign" ⟨"FilterReader$Sign", "ordinal", "()I"⟩ mt_JE_ordinal.1 ∈ Tall := tw3 16 rfl rfl
theorem lk_JL_38 : Cond.methodLink "java/lang/StringLatin1" 38 ⟨"java/lang/Math", "min", "(II)I"⟩ ∈ Tall := tw5 17 rfl rfl
theorem lk_JL_88 : Cond.methodLink "java/lang/StringLatin1" 88 ⟨"java/lang/StringLatin1", "canEncode", "(I)Z"⟩ ∈ Tall := tw5 13 rfl rfl
theorem lk_JL_9 : Cond.methodLink "java/lang/StringLatin1" 9 ⟨"java/lang/String", "checkIndex", "(II)V"⟩ ∈ Tall := tw2 90 rfl rfl
theorem lk_JL_92 : Cond.methodLink "java/lang/StringLatin1" 92 ⟨"java/lang/Math", "max", "(II)I"⟩ ∈ Tall := tw5 16 rfl rfl
theorem lk_JL_95 : Cond.methodLink "java/lang/StringLatin1" 95 ⟨"java/lang/StringLatin1", "indexOfChar", "([BIII)I"⟩ ∈ Tall := tw5 18 rfl rfl
theorem lk_JS_335 : Cond.methodLink "java/lang/String" 335 ⟨"java/lang/String", "coder", "()B"⟩ ∈ Tall := tw2 69 rfl rfl
theorem lk_JS_492 : Cond.methodLink "java/lang/String" 492 ⟨"java/lang/String", "isLatin1", "()Z"⟩ ∈ Tall := tw2 83 rfl rfl
theorem lk_JS_495 : Cond.methodLink "java/lang/String" 495 ⟨"java/lang/StringLatin1", "charAt", "([BI)C"⟩ ∈ Tall := tw2 87 rfl rfl
theorem lk_JS_505 : Cond.methodLink "java/lang/String" 505 ⟨"java/lang/String", "length", "()I"⟩ ∈ Tall := tw5 9 rfl rfl
theorem lk_JS_633 : Cond.methodLink "java/lang/String" 633 ⟨"java/lang/String", "indexOf", "(II)I"⟩ ∈ Tall := tw5 5 rfl rfl
theorem lk_JS_637 : Cond.methodLink "java/lang/String" 637 ⟨"java/lang/StringLatin1", "indexOf", "([BIII)I"⟩ ∈ Tall := tw5 10 rfl rfl
theorem lf_JE_7 : Cond.fieldLink "java/lang/Enum" 7 "java/lang/Enum" "ordinal" "I" ∈ Tall := tw5 132 rfl rfl
theorem lf_JS_15 : Cond.fieldLink "java/lang/String" 15 "java/lang/String" "coder" "B" ∈ Tall := tw5 130 rfl rfl
theorem lf_JS_9 : Cond.fieldLink "java/lang/String" 9 "java/lang/String" "value" "[B" ∈ Tall := tw5 129 rfl rfl
abbrev tb_JE : jm_T := ([], [], [])
set_option maxRecDepth 100000 in
theorem tk_JE {l : Launch} {D : va_G} {cl : List vw_C} {ad : Nat → Nat} {aC : Nat → ClassId} {sh : List jm_S} {b0 ec : Nat} : jm_TOk (jm_PP l D cl ad aC sh b0 ec) "java/lang/Enum" tb_JE := ⟨fun _ h => absurd h List.not_mem_nil, fun _ h => absurd h List.not_mem_nil, fun _ h => absurd h List.not_mem_nil⟩
abbrev tb_JM : jm_T := ([], [], [])
set_option maxRecDepth 100000 in
theorem tk_JM {l : Launch} {D : va_G} {cl : List vw_C} {ad : Nat → Nat} {aC : Nat → ClassId} {sh : List jm_S} {b0 ec : Nat} : jm_TOk (jm_PP l D cl ad aC sh b0 ec) "java/lang/Math" tb_JM := ⟨fun _ h => absurd h List.not_mem_nil, fun _ h => absurd h List.not_mem_nil, fun _ h => absurd h List.not_mem_nil⟩
theorem lf_JS_38 : Cond.fieldLink "java/lang/String" 38 "java/lang/String" "COMPACT_STRINGS" "Z" ∈ Tall := tw2 73 rfl rfl
abbrev tb_JS : jm_T := ([], [(38, .int 1)], [])
set_option maxRecDepth 100000 in
theorem tk_JS {l : Launch} {D : va_G} {cl : List vw_C} {ad : Nat → Nat} {aC : Nat → ClassId} {sh : List jm_S} {b0 ec : Nat} : jm_TOk (jm_PP l D cl ad aC sh b0 ec) "java/lang/String" tb_JS := ⟨fun _ h => absurd h List.not_mem_nil, List.forall_mem_cons.mpr ⟨jm_SOk.mk (i := 57) lf_JS_38 rfl, fun _ h => absurd h List.not_mem_nil⟩, fun _ h => absurd h List.not_mem_nil⟩
abbrev tb_JL : jm_T := ([], [], [])
set_option maxRecDepth 100000 in
theorem tk_JL {l : Launch} {D : va_G} {cl : List vw_C} {ad : Nat → Nat} {aC : Nat → ClassId} {sh : List jm_S} {b0 ec : Nat} : jm_TOk (jm_PP l D cl ad aC sh b0 ec) "java/lang/StringLatin1" tb_JL := ⟨fun _ h => absurd h List.not_mem_nil, fun _ h => absurd h List.not_mem_nil, fun _ h => absurd h List.not_mem_nil⟩
abbrev bk_JS_coder_0_2 : List (Nat × Instr × Nat) := [(0, .getstatic 38, 3), (3, .ifCond .eq 10, 3)]
theorem bk_JS_coder_0_2_ok : jm_at mt_JS_coder.2.1 bk_JS_coder_0_2 = true := by decide +kernel
abbrev bk_JS_coder_13_1 : List (Nat × Instr × Nat) := [(13, .iconst 1, 1)]
theorem bk_JS_coder_13_1_ok : jm_at mt_JS_coder.2.1 bk_JS_coder_13_1 = true := by decide +kernel
abbrev bk_JS_coder_6_1 : List (Nat × Instr × Nat) := [(6, .aload_n 0, 1)]
theorem bk_JS_coder_6_1_ok : jm_at mt_JS_coder.2.1 bk_JS_coder_6_1 = true := by decide +kernel
abbrev bk_JS_coder_10_1 : List (Nat × Instr × Nat) := [(10, .goto 4, 3)]
theorem bk_JS_coder_10_1_ok : jm_at mt_JS_coder.2.1 bk_JS_coder_10_1 = true := by decide +kernel
abbrev bk_JS_length_0_1 : List (Nat × Instr × Nat) := [(0, .aload_n 0, 1)]
theorem bk_JS_length_0_1_ok : jm_at mt_JS_length.2.1 bk_JS_length_0_1 = true := by decide +kernel
abbrev bk_JS_length_5_1 : List (Nat × Instr × Nat) := [(5, .aload_n 0, 1)]
theorem bk_JS_length_5_1_ok : jm_at mt_JS_length.2.1 bk_JS_length_5_1 = true := by decide +kernel
abbrev bk_JS_length_9_1 : List (Nat × Instr × Nat) := [(9, .ishr, 1)]
theorem bk_JS_length_9_1_ok : jm_at mt_JS_length.2.1 bk_JS_length_9_1 = true := by decide +kernel
abbrev bk_JS_isLatin1_0_2 : List (Nat × Instr × Nat) := [(0, .getstatic 38, 3), (3, .ifCond .eq 14, 3)]
theorem bk_JS_isLatin1_0_2_ok : jm_at mt_JS_isLatin1.2.1 bk_JS_isLatin1_0_2 = true := by decide +kernel
abbrev bk_JS_isLatin1_6_1 : List (Nat × Instr × Nat) := [(6, .aload_n 0, 1)]
theorem bk_JS_isLatin1_6_1_ok : jm_at mt_JS_isLatin1.2.1 bk_JS_isLatin1_6_1 = true := by decide +kernel
abbrev bk_JS_isLatin1_10_1 : List (Nat × Instr × Nat) := [(10, .ifCond .ne 7, 3)]
theorem bk_JS_isLatin1_10_1_ok : jm_at mt_JS_isLatin1.2.1 bk_JS_isLatin1_10_1 = true := by decide +kernel
abbrev bk_JS_isLatin1_13_2 : List (Nat × Instr × Nat) := [(13, .iconst 1, 1), (14, .goto 4, 3)]
theorem bk_JS_isLatin1_13_2_ok : jm_at mt_JS_isLatin1.2.1 bk_JS_isLatin1_13_2 = true := by decide +kernel
abbrev bk_JS_isLatin1_17_1 : List (Nat × Instr × Nat) := [(17, .iconst 0, 1)]
theorem bk_JS_isLatin1_17_1_ok : jm_at mt_JS_isLatin1.2.1 bk_JS_isLatin1_17_1 = true := by decide +kernel
abbrev bk_JL_charAt_0_2 : List (Nat × Instr × Nat) := [(0, .iload_n 1, 1), (1, .aload_n 0, 1)]
theorem bk_JL_charAt_0_2_ok : jm_at mt_JL_charAt.2.1 bk_JL_charAt_0_2 = true := by decide +kernel
abbrev bk_JL_charAt_6_2 : List (Nat × Instr × Nat) := [(6, .aload_n 0, 1), (7, .iload_n 1, 1)]
theorem bk_JL_charAt_6_2_ok : jm_at mt_JL_charAt.2.1 bk_JL_charAt_6_2 = true := by decide +kernel
abbrev bk_JL_charAt_9_3 : List (Nat × Instr × Nat) := [(9, .sipush 255, 3), (12, .iand, 1), (13, .i2c, 1)]
theorem bk_JL_charAt_9_3_ok : jm_at mt_JL_charAt.2.1 bk_JL_charAt_9_3 = true := by decide +kernel
abbrev bk_JS_charAt_0_1 : List (Nat × Instr × Nat) := [(0, .aload_n 0, 1)]
theorem bk_JS_charAt_0_1_ok : jm_at mt_JS_charAt.2.1 bk_JS_charAt_0_1 = true := by decide +kernel
abbrev bk_JS_charAt_4_1 : List (Nat × Instr × Nat) := [(4, .ifCond .eq 12, 3)]
theorem bk_JS_charAt_4_1_ok : jm_at mt_JS_charAt.2.1 bk_JS_charAt_4_1 = true := by decide +kernel
abbrev bk_JS_charAt_16_1 : List (Nat × Instr × Nat) := [(16, .aload_n 0, 1)]
theorem bk_JS_charAt_16_1_ok : jm_at mt_JS_charAt.2.1 bk_JS_charAt_16_1 = true := by decide +kernel
abbrev bk_JS_charAt_20_1 : List (Nat × Instr × Nat) := [(20, .iload_n 1, 1)]
theorem bk_JS_charAt_20_1_ok : jm_at mt_JS_charAt.2.1 bk_JS_charAt_20_1 = true := by decide +kernel
abbrev bk_JS_charAt_7_1 : List (Nat × Instr × Nat) := [(7, .aload_n 0, 1)]
theorem bk_JS_charAt_7_1_ok : jm_at mt_JS_charAt.2.1 bk_JS_charAt_7_1 = true := by decide +kernel
abbrev bk_JS_charAt_11_1 : List (Nat × Instr × Nat) := [(11, .iload_n 1, 1)]
theorem bk_JS_charAt_11_1_ok : jm_at mt_JS_charAt.2.1 bk_JS_charAt_11_1 = true := by decide +kernel
abbrev bk_JM_min_ii_0_3 : List (Nat × Instr × Nat) := [(0, .iload_n 0, 1), (1, .iload_n 1, 1), (2, .if_icmp .gt 7, 3)]
theorem bk_JM_min_ii_0_3_ok : jm_at mt_JM_min_ii.2.1 bk_JM_min_ii_0_3 = true := by decide +kernel
abbrev bk_JM_min_ii_9_1 : List (Nat × Instr × Nat) := [(9, .iload_n 1, 1)]
theorem bk_JM_min_ii_9_1_ok : jm_at mt_JM_min_ii.2.1 bk_JM_min_ii_9_1 = true := by decide +kernel
abbrev bk_JM_min_ii_5_2 : List (Nat × Instr × Nat) := [(5, .iload_n 0, 1), (6, .goto 4, 3)]
theorem bk_JM_min_ii_5_2_ok : jm_at mt_JM_min_ii.2.1 bk_JM_min_ii_5_2 = true := by decide +kernel
abbrev bk_JM_max_0_3 : List (Nat × Instr × Nat) := [(0, .iload_n 0, 1), (1, .iload_n 1, 1), (2, .if_icmp .lt 7, 3)]
theorem bk_JM_max_0_3_ok : jm_at mt_JM_max.2.1 bk_JM_max_0_3 = true := by decide +kernel
abbrev bk_JM_max_9_1 : List (Nat × Instr × Nat) := [(9, .iload_n 1, 1)]
theorem bk_JM_max_9_1_ok : jm_at mt_JM_max.2.1 bk_JM_max_9_1 = true := by decide +kernel
abbrev bk_JM_max_5_2 : List (Nat × Instr × Nat) := [(5, .iload_n 0, 1), (6, .goto 4, 3)]
theorem bk_JM_max_5_2_ok : jm_at mt_JM_max.2.1 bk_JM_max_5_2 = true := by decide +kernel
abbrev bk_JM_min_ll_0_4 : List (Nat × Instr × Nat) := [(0, .lload_n 0, 1), (1, .lload_n 2, 1), (2, .lcmp, 1), (3, .ifCond .gt 7, 3)]
theorem bk_JM_min_ll_0_4_ok : jm_at mt_JM_min_ll.2.1 bk_JM_min_ll_0_4 = true := by decide +kernel
abbrev bk_JM_min_ll_10_1 : List (Nat × Instr × Nat) := [(10, .lload_n 2, 1)]
theorem bk_JM_min_ll_10_1_ok : jm_at mt_JM_min_ll.2.1 bk_JM_min_ll_10_1 = true := by decide +kernel
abbrev bk_JM_min_ll_6_2 : List (Nat × Instr × Nat) := [(6, .lload_n 0, 1), (7, .goto 4, 3)]
theorem bk_JM_min_ll_6_2_ok : jm_at mt_JM_min_ll.2.1 bk_JM_min_ll_6_2 = true := by decide +kernel
abbrev bk_JE_ordinal_0_1 : List (Nat × Instr × Nat) := [(0, .aload_n 0, 1)]
theorem bk_JE_ordinal_0_1_ok : jm_at mt_JE_ordinal.2.1 bk_JE_ordinal_0_1 = true := by decide +kernel
abbrev bk_JL_canEncode_0_2 : List (Nat × Instr × Nat) := [(0, .iload_n 0, 1), (1, .ifCond .lt 14, 3)]
theorem bk_JL_canEncode_0_2_ok : jm_at mt_JL_canEncode.2.1 bk_JL_canEncode_0_2 = true := by decide +kernel
abbrev bk_JL_canEncode_4_3 : List (Nat × Instr × Nat) := [(4, .iload_n 0, 1), (5, .sipush 255, 3), (8, .if_icmp .gt 7, 3)]
theorem bk_JL_canEncode_4_3_ok : jm_at mt_JL_canEncode.2.1 bk_JL_canEncode_4_3 = true := by decide +kernel
abbrev bk_JL_canEncode_11_2 : List (Nat × Instr × Nat) := [(11, .iconst 1, 1), (12, .goto 4, 3)]
theorem bk_JL_canEncode_11_2_ok : jm_at mt_JL_canEncode.2.1 bk_JL_canEncode_11_2 = true := by decide +kernel
abbrev bk_JL_canEncode_15_1 : List (Nat × Instr × Nat) := [(15, .iconst 0, 1)]
theorem bk_JL_canEncode_15_1_ok : jm_at mt_JL_canEncode.2.1 bk_JL_canEncode_15_1 = true := by decide +kernel
abbrev bk_JL_indexOfChar_0_5 : List (Nat × Instr × Nat) := [(0, .iload_n 1, 1), (1, .i2b, 1), (2, .istore 4, 2), (4, .iload_n 2, 1), (5, .istore 5, 2)]
theorem bk_JL_indexOfChar_0_5_ok : jm_at mt_JL_indexOfChar.2.1 bk_JL_indexOfChar_0_5 = true := by decide +kernel
abbrev bk_JL_indexOfChar_7_3 : List (Nat × Instr × Nat) := [(7, .iload 5, 2), (9, .iload_n 3, 1), (10, .if_icmp .ge 21, 3)]
theorem bk_JL_indexOfChar_7_3_ok : jm_at mt_JL_indexOfChar.2.1 bk_JL_indexOfChar_7_3 = true := by decide +kernel
abbrev bk_JL_indexOfChar_31_1 : List (Nat × Instr × Nat) := [(31, .iconst (-1), 1)]
theorem bk_JL_indexOfChar_31_1_ok : jm_at mt_JL_indexOfChar.2.1 bk_JL_indexOfChar_31_1 = true := by decide +kernel
abbrev bk_JL_indexOfChar_13_2 : List (Nat × Instr × Nat) := [(13, .aload_n 0, 1), (14, .iload 5, 2)]
theorem bk_JL_indexOfChar_13_2_ok : jm_at mt_JL_indexOfChar.2.1 bk_JL_indexOfChar_13_2 = true := by decide +kernel
abbrev bk_JL_indexOfChar_17_2 : List (Nat × Instr × Nat) := [(17, .iload 4, 2), (19, .if_icmp .ne 6, 3)]
theorem bk_JL_indexOfChar_17_2_ok : jm_at mt_JL_indexOfChar.2.1 bk_JL_indexOfChar_17_2 = true := by decide +kernel
abbrev bk_JL_indexOfChar_22_1 : List (Nat × Instr × Nat) := [(22, .iload 5, 2)]
theorem bk_JL_indexOfChar_22_1_ok : jm_at mt_JL_indexOfChar.2.1 bk_JL_indexOfChar_22_1 = true := by decide +kernel
abbrev bk_JL_indexOfChar_25_2 : List (Nat × Instr × Nat) := [(25, .iinc 5 1, 3), (28, .goto (-21), 3)]
theorem bk_JL_indexOfChar_25_2_ok : jm_at mt_JL_indexOfChar.2.1 bk_JL_indexOfChar_25_2 = true := by decide +kernel
abbrev bk_JL_indexOf_0_1 : List (Nat × Instr × Nat) := [(0, .iload_n 1, 1)]
theorem bk_JL_indexOf_0_1_ok : jm_at mt_JL_indexOf.2.1 bk_JL_indexOf_0_1 = true := by decide +kernel
abbrev bk_JL_indexOf_4_1 : List (Nat × Instr × Nat) := [(4, .ifCond .ne 5, 3)]
theorem bk_JL_indexOf_4_1_ok : jm_at mt_JL_indexOf.2.1 bk_JL_indexOf_4_1 = true := by decide +kernel
abbrev bk_JL_indexOf_7_1 : List (Nat × Instr × Nat) := [(7, .iconst (-1), 1)]
theorem bk_JL_indexOf_7_1_ok : jm_at mt_JL_indexOf.2.1 bk_JL_indexOf_7_1 = true := by decide +kernel
abbrev bk_JL_indexOf_9_2 : List (Nat × Instr × Nat) := [(9, .iload_n 2, 1), (10, .iconst 0, 1)]
theorem bk_JL_indexOf_9_2_ok : jm_at mt_JL_indexOf.2.1 bk_JL_indexOf_9_2 = true := by decide +kernel
abbrev bk_JL_indexOf_14_3 : List (Nat × Instr × Nat) := [(14, .istore_n 2, 1), (15, .iload_n 3, 1), (16, .aload_n 0, 1)]
theorem bk_JL_indexOf_14_3_ok : jm_at mt_JL_indexOf.2.1 bk_JL_indexOf_14_3 = true := by decide +kernel
abbrev bk_JL_indexOf_21_4 : List (Nat × Instr × Nat) := [(21, .istore_n 3, 1), (22, .iload_n 2, 1), (23, .iload_n 3, 1), (24, .if_icmp .lt 5, 3)]
theorem bk_JL_indexOf_21_4_ok : jm_at mt_JL_indexOf.2.1 bk_JL_indexOf_21_4 = true := by decide +kernel
abbrev bk_JL_indexOf_29_4 : List (Nat × Instr × Nat) := [(29, .aload_n 0, 1), (30, .iload_n 1, 1), (31, .iload_n 2, 1), (32, .iload_n 3, 1)]
theorem bk_JL_indexOf_29_4_ok : jm_at mt_JL_indexOf.2.1 bk_JL_indexOf_29_4 = true := by decide +kernel
abbrev bk_JL_indexOf_27_1 : List (Nat × Instr × Nat) := [(27, .iconst (-1), 1)]
theorem bk_JL_indexOf_27_1_ok : jm_at mt_JL_indexOf.2.1 bk_JL_indexOf_27_1 = true := by decide +kernel
abbrev bk_JS_indexOf_ii_0_1 : List (Nat × Instr × Nat) := [(0, .aload_n 0, 1)]
theorem bk_JS_indexOf_ii_0_1_ok : jm_at mt_JS_indexOf_ii.2.1 bk_JS_indexOf_ii_0_1 = true := by decide +kernel
abbrev bk_JS_indexOf_ii_4_1 : List (Nat × Instr × Nat) := [(4, .ifCond .eq 19, 3)]
theorem bk_JS_indexOf_ii_4_1_ok : jm_at mt_JS_indexOf_ii.2.1 bk_JS_indexOf_ii_4_1 = true := by decide +kernel
abbrev bk_JS_indexOf_ii_23_1 : List (Nat × Instr × Nat) := [(23, .aload_n 0, 1)]
theorem bk_JS_indexOf_ii_23_1_ok : jm_at mt_JS_indexOf_ii.2.1 bk_JS_indexOf_ii_23_1 = true := by decide +kernel
abbrev bk_JS_indexOf_ii_27_3 : List (Nat × Instr × Nat) := [(27, .iload_n 1, 1), (28, .iload_n 2, 1), (29, .aload_n 0, 1)]
theorem bk_JS_indexOf_ii_27_3_ok : jm_at mt_JS_indexOf_ii.2.1 bk_JS_indexOf_ii_27_3 = true := by decide +kernel
abbrev bk_JS_indexOf_ii_7_1 : List (Nat × Instr × Nat) := [(7, .aload_n 0, 1)]
theorem bk_JS_indexOf_ii_7_1_ok : jm_at mt_JS_indexOf_ii.2.1 bk_JS_indexOf_ii_7_1 = true := by decide +kernel
abbrev bk_JS_indexOf_ii_11_3 : List (Nat × Instr × Nat) := [(11, .iload_n 1, 1), (12, .iload_n 2, 1), (13, .aload_n 0, 1)]
theorem bk_JS_indexOf_ii_11_3_ok : jm_at mt_JS_indexOf_ii.2.1 bk_JS_indexOf_ii_11_3 = true := by decide +kernel
abbrev bk_JS_indexOf_ii_20_1 : List (Nat × Instr × Nat) := [(20, .goto 16, 3)]
theorem bk_JS_indexOf_ii_20_1_ok : jm_at mt_JS_indexOf_ii.2.1 bk_JS_indexOf_ii_20_1 = true := by decide +kernel
abbrev bk_JS_indexOf_i_0_3 : List (Nat × Instr × Nat) := [(0, .aload_n 0, 1), (1, .iload_n 1, 1), (2, .iconst 0, 1)]
theorem bk_JS_indexOf_i_0_3_ok : jm_at mt_JS_indexOf_i.2.1 bk_JS_indexOf_i_0_3 = true := by decide +kernel
theorem dd_JS_coder_7 : decode mt_JS_coder.2.1 7 = .ok (.getfield 15, 3) := by decide +kernel
theorem dd_JS_coder_14 : decode mt_JS_coder.2.1 14 = .ok (.ireturn, 1) := by decide +kernel
theorem dd_JS_length_6 : decode mt_JS_length.2.1 6 = .ok (.invokevirtual 335, 3) := by decide +kernel
theorem dd_JS_length_10 : decode mt_JS_length.2.1 10 = .ok (.ireturn, 1) := by decide +kernel
theorem dd_JS_length_4 : decode mt_JS_length.2.1 4 = .ok (.arraylength, 1) := by decide +kernel
theorem dd_JS_length_1 : decode mt_JS_length.2.1 1 = .ok (.getfield 9, 3) := by decide +kernel
theorem dd_JS_isLatin1_7 : decode mt_JS_isLatin1.2.1 7 = .ok (.getfield 15, 3) := by decide +kernel
theorem dd_JS_isLatin1_18 : decode mt_JS_isLatin1.2.1 18 = .ok (.ireturn, 1) := by decide +kernel
theorem dd_JL_charAt_3 : decode mt_JL_charAt.2.1 3 = .ok (.invokestatic 9, 3) := by decide +kernel
theorem dd_JL_charAt_14 : decode mt_JL_charAt.2.1 14 = .ok (.ireturn, 1) := by decide +kernel
theorem dd_JL_charAt_8 : decode mt_JL_charAt.2.1 8 = .ok (.baload, 1) := by decide +kernel
theorem dd_JL_charAt_2 : decode mt_JL_charAt.2.1 2 = .ok (.arraylength, 1) := by decide +kernel
theorem dd_JS_charAt_1 : decode mt_JS_charAt.2.1 1 = .ok (.invokevirtual 492, 3) := by decide +kernel
theorem dd_JS_charAt_17 : decode mt_JS_charAt.2.1 17 = .ok (.getfield 9, 3) := by decide +kernel
theorem dd_JS_charAt_12 : decode mt_JS_charAt.2.1 12 = .ok (.invokestatic 495, 3) := by decide +kernel
theorem dd_JS_charAt_15 : decode mt_JS_charAt.2.1 15 = .ok (.ireturn, 1) := by decide +kernel
theorem dd_JS_charAt_8 : decode mt_JS_charAt.2.1 8 = .ok (.getfield 9, 3) := by decide +kernel
theorem dd_JM_min_ii_10 : decode mt_JM_min_ii.2.1 10 = .ok (.ireturn, 1) := by decide +kernel
theorem dd_JM_max_10 : decode mt_JM_max.2.1 10 = .ok (.ireturn, 1) := by decide +kernel
theorem dd_JM_min_ll_11 : decode mt_JM_min_ll.2.1 11 = .ok (.lreturn, 1) := by decide +kernel
theorem dd_JE_ordinal_4 : decode mt_JE_ordinal.2.1 4 = .ok (.ireturn, 1) := by decide +kernel
theorem dd_JE_ordinal_1 : decode mt_JE_ordinal.2.1 1 = .ok (.getfield 7, 3) := by decide +kernel
theorem dd_JL_canEncode_16 : decode mt_JL_canEncode.2.1 16 = .ok (.ireturn, 1) := by decide +kernel
theorem dd_JL_indexOfChar_32 : decode mt_JL_indexOfChar.2.1 32 = .ok (.ireturn, 1) := by decide +kernel
theorem dd_JL_indexOfChar_24 : decode mt_JL_indexOfChar.2.1 24 = .ok (.ireturn, 1) := by decide +kernel
theorem dd_JL_indexOfChar_16 : decode mt_JL_indexOfChar.2.1 16 = .ok (.baload, 1) := by decide +kernel
theorem dd_JL_indexOf_1 : decode mt_JL_indexOf.2.1 1 = .ok (.invokestatic 88, 3) := by decide +kernel
theorem dd_JL_indexOf_8 : decode mt_JL_indexOf.2.1 8 = .ok (.ireturn, 1) := by decide +kernel
theorem dd_JL_indexOf_11 : decode mt_JL_indexOf.2.1 11 = .ok (.invokestatic 92, 3) := by decide +kernel
theorem dd_JL_indexOf_18 : decode mt_JL_indexOf.2.1 18 = .ok (.invokestatic 38, 3) := by decide +kernel
theorem dd_JL_indexOf_33 : decode mt_JL_indexOf.2.1 33 = .ok (.invokestatic 95, 3) := by decide +kernel
theorem dd_JL_indexOf_36 : decode mt_JL_indexOf.2.1 36 = .ok (.ireturn, 1) := by decide +kernel
theorem dd_JL_indexOf_28 : decode mt_JL_indexOf.2.1 28 = .ok (.ireturn, 1) := by decide +kernel
theorem dd_JL_indexOf_17 : decode mt_JL_indexOf.2.1 17 = .ok (.arraylength, 1) := by decide +kernel
theorem dd_JS_indexOf_ii_1 : decode mt_JS_indexOf_ii.2.1 1 = .ok (.invokevirtual 492, 3) := by decide +kernel
theorem dd_JS_indexOf_ii_30 : decode mt_JS_indexOf_ii.2.1 30 = .ok (.invokevirtual 505, 3) := by decide +kernel
theorem dd_JS_indexOf_ii_24 : decode mt_JS_indexOf_ii.2.1 24 = .ok (.getfield 9, 3) := by decide +kernel
theorem dd_JS_indexOf_ii_14 : decode mt_JS_indexOf_ii.2.1 14 = .ok (.invokevirtual 505, 3) := by decide +kernel
theorem dd_JS_indexOf_ii_17 : decode mt_JS_indexOf_ii.2.1 17 = .ok (.invokestatic 637, 3) := by decide +kernel
theorem dd_JS_indexOf_ii_8 : decode mt_JS_indexOf_ii.2.1 8 = .ok (.getfield 9, 3) := by decide +kernel
theorem dd_JS_indexOf_ii_36 : decode mt_JS_indexOf_ii.2.1 36 = .ok (.ireturn, 1) := by decide +kernel
theorem dd_JS_indexOf_i_3 : decode mt_JS_indexOf_i.2.1 3 = .ok (.invokevirtual 633, 3) := by decide +kernel
theorem dd_JS_indexOf_i_6 : decode mt_JS_indexOf_i.2.1 6 = .ok (.ireturn, 1) := by decide +kernel
theorem jp_0 : jm_at mt_JP_checkIndex.2.1 [(0, .iload_n 0, 1), (1, .ifCond .lt 8, 3)] = true := by decide +kernel
theorem jp_4 : jm_at mt_JP_checkIndex.2.1 [(4, .iload_n 0, 1), (5, .iload_n 1, 1), (6, .if_icmp .lt 10, 3)] = true := by decide +kernel
theorem jp_16 : jm_at mt_JP_checkIndex.2.1 [(16, .iload_n 0, 1)] = true := by decide +kernel
theorem jp_17 : decode mt_JP_checkIndex.2.1 17 = .ok (.ireturn, 1) := by decide +kernel
theorem tn_JP {l : Launch} {D : va_G} {cl : List vw_C} {ad : Nat → Nat} {aC : Nat → ClassId} {sh : List jm_S} {b0 ec : Nat} : jm_TOk (jm_PP l D cl ad aC sh b0 ec) "jdk/internal/util/Preconditions" ([], [], []) := ⟨fun _ h => absurd h List.not_mem_nil, fun _ h => absurd h List.not_mem_nil, fun _ h => absurd h List.not_mem_nil⟩
theorem c_JP_checkIndex {l : Launch} {D : va_G} {cl : List vw_C} {ad : Nat → Nat} {aC : Nat → ClassId} {sh : List jm_S} {b0 ec : Nat} {d0 : Nat} (hok : jm_Ok (jm_PP l D cl ad aC sh b0 ec)) (i n : Int32) (v : Value) (hv : v = .null ∨ v = .ref 950) (x : jm_X) : jm_Con (jm_PP l D cl ad aC sh b0 ec) mt_JP_checkIndex (d0 + 1) [.int i, .int n, v] x (if i < 0 then none else (if i < n then some (.inl (some (.int i), x)) else none)) := by
  have hT := tn_JP (l := l) (D := D) (ad := ad) (aC := aC) (b0 := b0) (cl := cl) (sh := sh) (ec := ec)
  rcases hv with rfl | rfl
  · refine jm_Con.of (plainFor_of_name (by decide +kernel)) (Nat.le_of_ble_eq_true rfl) ?_
    show jm_V _ _ _ 0 [(0, .int i), (1, .int n), (2, .null)] [] x _
    refine jm_V.run (pc' := (if i < 0 then 9 else 4)) (ls' := [(0, .int i), (1, .int n), (2, .null)]) (st' := []) (x' := x) hok hT jp_0 rfl ?_
    refine jm_V.ite (fun _ => jm_V.stuck) (fun _ => ?_)
    refine jm_V.run (pc' := (if i < n then 16 else 9)) (ls' := [(0, .int i), (1, .int n), (2, .null)]) (st' := []) (x' := x) hok hT jp_4 rfl ?_
    refine jm_V.ite (fun _ => ?_) (fun _ => jm_V.stuck)
    refine jm_V.run (pc' := 17) (ls' := [(0, .int i), (1, .int n), (2, .null)]) (st' := [.int i]) (x' := x) hok hT jp_16 rfl ?_
    exact jm_V.iret rfl jp_17
  · refine jm_Con.of (plainFor_of_name (by decide +kernel)) (Nat.le_of_ble_eq_true rfl) ?_
    show jm_V _ _ _ 0 [(0, .int i), (1, .int n), (2, .ref 950)] [] x _
    refine jm_V.run (pc' := (if i < 0 then 9 else 4)) (ls' := [(0, .int i), (1, .int n), (2, .ref 950)]) (st' := []) (x' := x) hok hT jp_0 rfl ?_
    refine jm_V.ite (fun _ => jm_V.stuck) (fun _ => ?_)
    refine jm_V.run (pc' := (if i < n then 16 else 9)) (ls' := [(0, .int i), (1, .int n), (2, .ref 950)]) (st' := []) (x' := x) hok hT jp_4 rfl ?_
    refine jm_V.ite (fun _ => ?_) (fun _ => jm_V.stuck)
    refine jm_V.run (pc' := 17) (ls' := [(0, .int i), (1, .int n), (2, .ref 950)]) (st' := [.int i]) (x' := x) hok hT jp_16 rfl ?_
    exact jm_V.iret rfl jp_17
theorem jq_0 : jm_at mt_JS_checkIndex.2.1 [(0, .iload_n 0, 1), (1, .iload_n 1, 1)] = true := by decide +kernel
theorem jq_2 : decode mt_JS_checkIndex.2.1 2 = .ok (.getstatic 1053, 3) := by decide +kernel
theorem jq_5 : decode mt_JS_checkIndex.2.1 5 = .ok (.invokestatic 1059, 3) := by decide +kernel
theorem jq_8 : jm_at mt_JS_checkIndex.2.1 [(8, .pop, 1)] = true := by decide +kernel
theorem jq_9 : decode mt_JS_checkIndex.2.1 9 = .ok (.return_, 1) := by decide +kernel
theorem jq_f : Cond.fieldLink "java/lang/String" 1053 "jdk/internal/util/Preconditions" "SIOOBE_FORMATTER" "Ljava/util/function/BiFunction;" ∈ Tall := tw2 93 rfl rfl
theorem jq_m : Cond.methodLink "java/lang/String" 1059 mt_JP_checkIndex.1 ∈ Tall := tw2 95 rfl rfl
def f_JS_checkIndex (K : Nat) (g : jm_Rec) (i n : Int32) (x : jm_X) : Option jm_R := jm_bI (if i < 0 then none else (if i < n then some (.inl (some (.int i), x)) else none)) (fun _ x => some (.inl (none, x)))
set_option maxHeartbeats 4000000 in
theorem c_JS_checkIndex {l : Launch} {D : va_G} {cl : List vw_C} {ad : Nat → Nat} {aC : Nat → ClassId} {sh : List jm_S} {b0 ec : Nat} {K d0 : Nat} {g : jm_Rec} (hok : jm_Ok (jm_PP l D cl ad aC sh b0 ec)) {QQ : Prop} (hrec : QQ) (i n : Int32) (x : jm_X) : jm_Con (jm_PP l D cl ad aC sh b0 ec) mt_JS_checkIndex (d0 + 2) [.int i, .int n] x (f_JS_checkIndex K g i n x) := by
  have hT := tk_JS (l := l) (D := D) (ad := ad) (aC := aC) (b0 := b0) (cl := cl) (sh := sh) (ec := ec)
  refine jm_Con.of (plainFor_of_name (by decide +kernel)) (Nat.le_of_ble_eq_true rfl) ?_
  show jm_V _ _ _ 0 [(0, .int i), (1, .int n)] [] x _
  unfold f_JS_checkIndex
  refine jm_V.run (pc' := 2) (ls' := [(0, .int i), (1, .int n)]) (st' := [.int n, .int i]) (x' := x) hok hT jq_0 rfl ?_
  refine jm_V.getsq hok jq_f jq_2 (fun v hv => ?_)
  refine jm_V.callI (av := [.int i, .int n, v]) (rest := []) hok (jm_Con.mono (c_JP_checkIndex (d0 := d0) hok i n v hv x) (by omega)) (jm_Inv.stat jq_5 (Or.inl jq_m) mq_JP_checkIndex mi_JP mw_JP_checkIndex mh_JP_checkIndex ml_JP_checkIndex) mw_JP_checkIndex mi_JP (Nat.le_of_ble_eq_true rfl) (Nat.le_of_ble_eq_true rfl) (fun b x1 => ?_)
  refine jm_V.run (pc' := 9) (ls' := [(0, .int i), (1, .int n)]) (st' := []) (x' := x1) hok hT jq_8 rfl ?_
  exact jm_V.vret rfl jq_9
def J_JS_coder_14 (K : Nat) (g : jm_Rec) (s0 : Int32) (x : jm_X) : Option jm_R := some (.inl (some (.int (vp_nar .byte s0)), x))
set_option maxRecDepth 100000 in
set_option maxHeartbeats 4000000 in
theorem jj_JS_coder_14 {l : Launch} {D : va_G} {cl : List vw_C} {ad : Nat → Nat} {aC : Nat → ClassId} {sh : List jm_S} {b0 ec : Nat} {K d0 : Nat} {g : jm_Rec} (hok : jm_Ok (jm_PP l D cl ad aC sh b0 ec)) {QQ : Prop} (hrec : QQ) (s0 : Int32) (x : jm_X) : jm_V (jm_PP l D cl ad aC sh b0 ec) mt_JS_coder (d0 + 1) 14 [] [.int s0] x (J_JS_coder_14 K g s0 x) := by
  have hT := tk_JS (l := l) (D := D) (ad := ad) (aC := aC) (b0 := b0) (cl := cl) (sh := sh) (ec := ec)
  unfold J_JS_coder_14
  exact jm_V.nret (t := .byte) rfl rfl dd_JS_coder_14
def f_JS_coder (K : Nat) (g : jm_Rec) (a0 : Nat) (x : jm_X) : Option jm_R := (if (1 : Int32) = 0 then J_JS_coder_14 K g 1 x else (if jm_cn 2000 73 a0 then J_JS_coder_14 K g 0 x else none))
set_option maxRecDepth 100000 in
set_option maxHeartbeats 4000000 in
theorem c_JS_coder {l : Launch} {D : va_G} {cl : List vw_C} {ad : Nat → Nat} {aC : Nat → ClassId} {sh : List jm_S} {b0 ec : Nat} {K d0 : Nat} {g : jm_Rec} (hok : jm_Ok (jm_PP l D cl ad aC sh b0 ec)) {QQ : Prop} (hrec : QQ) (a0 : Nat) (x : jm_X) : jm_Con (jm_PP l D cl ad aC sh b0 ec) mt_JS_coder (d0 + 1) [.ref a0] x (f_JS_coder K g a0 x) := by
  refine jm_Con.of (plainFor_of_name (by decide +kernel)) (Nat.le_of_ble_eq_true rfl) ?_
  have hT := tk_JS (l := l) (D := D) (ad := ad) (aC := aC) (b0 := b0) (cl := cl) (sh := sh) (ec := ec)
  unfold f_JS_coder
  show jm_V _ _ _ 0 [(0, .ref a0)] [] x _
  refine jm_V.run (is := bk_JS_coder_0_2) (pc' := (if (1 : Int32) = 0 then 13 else 6)) (ls' := [(0, .ref a0)]) (st' := []) (x' := x) hok hT bk_JS_coder_0_2_ok rfl ?_
  refine jm_V.ite (fun _ => ?_) (fun _ => ?_)
  · refine jm_V.run (is := bk_JS_coder_13_1) (pc' := 14) (ls' := [(0, .ref a0)]) (st' := [.int 1]) (x' := x) hok hT bk_JS_coder_13_1_ok rfl ?_
    refine jm_V.sub (ls' := []) [] rfl ?_
    exact jj_JS_coder_14 hok hrec 1 x
  · refine jm_V.run (is := bk_JS_coder_6_1) (pc' := 7) (ls' := [(0, .ref a0)]) (st' := [.ref a0]) (x' := x) hok hT bk_JS_coder_6_1_ok rfl ?_
    refine jm_V.getC (v := fun i => .int (0)) hok cs_coder (Or.inl lf_JS_15) dd_JS_coder_7 ?_
    refine jm_V.run (is := bk_JS_coder_10_1) (pc' := 14) (ls' := [(0, .ref a0)]) (st' := [.int 0]) (x' := x) hok hT bk_JS_coder_10_1_ok rfl ?_
    refine jm_V.sub (ls' := []) [] rfl ?_
    exact jj_JS_coder_14 hok hrec 0 x
def f_JS_length (K : Nat) (g : jm_Rec) (a0 : Nat) (x : jm_X) : Option jm_R := (if jm_cn 2000 73 a0 then (if jm_cn 3000 73 (3000 + (a0 - 2000)) then (if jm_cn 2000 73 a0 then jm_bI (f_JS_coder K g a0 x) (fun b2 x1 => some (.inl (some (.int ((Int32.ofNat (st_b.getD ((3000 + (a0 - 2000)) - 3000) []).length) >>> (b2 &&& 31))), x1))) else none) else none) else none)
set_option maxRecDepth 100000 in
set_option maxHeartbeats 4000000 in
theorem c_JS_length {l : Launch} {D : va_G} {cl : List vw_C} {ad : Nat → Nat} {aC : Nat → ClassId} {sh : List jm_S} {b0 ec : Nat} {K d0 : Nat} {g : jm_Rec} (hok : jm_Ok (jm_PP l D cl ad aC sh b0 ec)) {QQ : Prop} (hrec : QQ) (a0 : Nat) (x : jm_X) : jm_Con (jm_PP l D cl ad aC sh b0 ec) mt_JS_length (d0 + 2) [.ref a0] x (f_JS_length K g a0 x) := by
  refine jm_Con.of (plainFor_of_name (by decide +kernel)) (Nat.le_of_ble_eq_true rfl) ?_
  have hT := tk_JS (l := l) (D := D) (ad := ad) (aC := aC) (b0 := b0) (cl := cl) (sh := sh) (ec := ec)
  unfold f_JS_length
  show jm_V _ _ _ 0 [(0, .ref a0)] [] x _
  refine jm_V.run (is := bk_JS_length_0_1) (pc' := 1) (ls' := [(0, .ref a0)]) (st' := [.ref a0]) (x' := x) hok hT bk_JS_length_0_1_ok rfl ?_
  refine jm_V.getC (v := fun i => .ref (3000 + i)) hok cs_value (Or.inl lf_JS_9) dd_JS_length_1 ?_
  refine jm_V.tlen (lo := 3000) (N := 73) (len := fun i => (st_b.getD i []).length) (f := fun i j => .int ((st_b.getD i []).getD j 0)) hok cs_bytes dd_JS_length_4 ?_
  refine jm_V.run (is := bk_JS_length_5_1) (pc' := 6) (ls' := [(0, .ref a0)]) (st' := [.ref a0, .int (Int32.ofNat (st_b.getD ((3000 + (a0 - 2000)) - 3000) []).length)]) (x' := x) hok hT bk_JS_length_5_1_ok rfl ?_
  refine jm_V.guard (fun hg => ?_)
  refine jm_V.callI (av := [.ref a0]) (rest := [.int (Int32.ofNat (st_b.getD ((3000 + (a0 - 2000)) - 3000) []).length)]) hok (jm_Con.mono (c_JS_coder (d0 := d0) hok hrec a0 x) (by omega)) (iv_str hok hg dd_JS_length_6 lk_JS_335 mn_JS_coder ms_JS_coder mw_JS_coder mh_JS_coder ml_JS_coder) mw_JS_coder mi_JS (Nat.le_of_ble_eq_true rfl) (Nat.le_of_ble_eq_true rfl) (fun b2 x1 => ?_)
  refine jm_V.run (is := bk_JS_length_9_1) (pc' := 10) (ls' := [(0, .ref a0)]) (st' := [.int ((Int32.ofNat (st_b.getD ((3000 + (a0 - 2000)) - 3000) []).length) >>> (b2 &&& 31))]) (x' := x1) hok hT bk_JS_length_9_1_ok rfl ?_
  exact jm_V.iret rfl dd_JS_length_10
def J_JS_isLatin1_18 (K : Nat) (g : jm_Rec) (s0 : Int32) (x : jm_X) : Option jm_R := some (.inl (some (.int (vp_nar .boolean s0)), x))
set_option maxRecDepth 100000 in
set_option maxHeartbeats 4000000 in
theorem jj_JS_isLatin1_18 {l : Launch} {D : va_G} {cl : List vw_C} {ad : Nat → Nat} {aC : Nat → ClassId} {sh : List jm_S} {b0 ec : Nat} {K d0 : Nat} {g : jm_Rec} (hok : jm_Ok (jm_PP l D cl ad aC sh b0 ec)) {QQ : Prop} (hrec : QQ) (s0 : Int32) (x : jm_X) : jm_V (jm_PP l D cl ad aC sh b0 ec) mt_JS_isLatin1 (d0 + 1) 18 [] [.int s0] x (J_JS_isLatin1_18 K g s0 x) := by
  have hT := tk_JS (l := l) (D := D) (ad := ad) (aC := aC) (b0 := b0) (cl := cl) (sh := sh) (ec := ec)
  unfold J_JS_isLatin1_18
  exact jm_V.nret (t := .boolean) rfl rfl dd_JS_isLatin1_18
def J_JS_isLatin1_17 (K : Nat) (g : jm_Rec)  (x : jm_X) : Option jm_R := J_JS_isLatin1_18 K g 0 x
set_option maxRecDepth 100000 in
set_option maxHeartbeats 4000000 in
theorem jj_JS_isLatin1_17 {l : Launch} {D : va_G} {cl : List vw_C} {ad : Nat → Nat} {aC : Nat → ClassId} {sh : List jm_S} {b0 ec : Nat} {K d0 : Nat} {g : jm_Rec} (hok : jm_Ok (jm_PP l D cl ad aC sh b0 ec)) {QQ : Prop} (hrec : QQ)  (x : jm_X) : jm_V (jm_PP l D cl ad aC sh b0 ec) mt_JS_isLatin1 (d0 + 1) 17 [] [] x (J_JS_isLatin1_17 K g  x) := by
  have hT := tk_JS (l := l) (D := D) (ad := ad) (aC := aC) (b0 := b0) (cl := cl) (sh := sh) (ec := ec)
  unfold J_JS_isLatin1_17
  refine jm_V.run (is := bk_JS_isLatin1_17_1) (pc' := 18) (ls' := []) (st' := [.int 0]) (x' := x) hok hT bk_JS_isLatin1_17_1_ok rfl ?_
  exact jj_JS_isLatin1_18 hok hrec 0 x
def f_JS_isLatin1 (K : Nat) (g : jm_Rec) (a0 : Nat) (x : jm_X) : Option jm_R := (if (1 : Int32) = 0 then J_JS_isLatin1_17 K g x else (if jm_cn 2000 73 a0 then (if (0 : Int32) = 0 then J_JS_isLatin1_18 K g 1 x else J_JS_isLatin1_17 K g x) else none))
set_option maxRecDepth 100000 in
set_option maxHeartbeats 4000000 in
theorem c_JS_isLatin1 {l : Launch} {D : va_G} {cl : List vw_C} {ad : Nat → Nat} {aC : Nat → ClassId} {sh : List jm_S} {b0 ec : Nat} {K d0 : Nat} {g : jm_Rec} (hok : jm_Ok (jm_PP l D cl ad aC sh b0 ec)) {QQ : Prop} (hrec : QQ) (a0 : Nat) (x : jm_X) : jm_Con (jm_PP l D cl ad aC sh b0 ec) mt_JS_isLatin1 (d0 + 1) [.ref a0] x (f_JS_isLatin1 K g a0 x) := by
  refine jm_Con.of (plainFor_of_name (by decide +kernel)) (Nat.le_of_ble_eq_true rfl) ?_
  have hT := tk_JS (l := l) (D := D) (ad := ad) (aC := aC) (b0 := b0) (cl := cl) (sh := sh) (ec := ec)
  unfold f_JS_isLatin1
  show jm_V _ _ _ 0 [(0, .ref a0)] [] x _
  refine jm_V.run (is := bk_JS_isLatin1_0_2) (pc' := (if (1 : Int32) = 0 then 17 else 6)) (ls' := [(0, .ref a0)]) (st' := []) (x' := x) hok hT bk_JS_isLatin1_0_2_ok rfl ?_
  refine jm_V.ite (fun _ => ?_) (fun _ => ?_)
  · refine jm_V.sub (ls' := []) [] rfl ?_
    exact jj_JS_isLatin1_17 hok hrec x
  · refine jm_V.run (is := bk_JS_isLatin1_6_1) (pc' := 7) (ls' := [(0, .ref a0)]) (st' := [.ref a0]) (x' := x) hok hT bk_JS_isLatin1_6_1_ok rfl ?_
    refine jm_V.getC (v := fun i => .int (0)) hok cs_coder (Or.inl lf_JS_15) dd_JS_isLatin1_7 ?_
    refine jm_V.run (is := bk_JS_isLatin1_10_1) (pc' := (if (0 : Int32) = 0 then 13 else 17)) (ls' := [(0, .ref a0)]) (st' := []) (x' := x) hok hT bk_JS_isLatin1_10_1_ok rfl ?_
    refine jm_V.ite (fun _ => ?_) (fun _ => ?_)
    · refine jm_V.run (is := bk_JS_isLatin1_13_2) (pc' := 18) (ls' := [(0, .ref a0)]) (st' := [.int 1]) (x' := x) hok hT bk_JS_isLatin1_13_2_ok rfl ?_
      refine jm_V.sub (ls' := []) [] rfl ?_
      exact jj_JS_isLatin1_18 hok hrec 1 x
    · refine jm_V.sub (ls' := []) [] rfl ?_
      exact jj_JS_isLatin1_17 hok hrec x
def f_JL_charAt (K : Nat) (g : jm_Rec) (a1 : Nat) (a2 : Int32) (x : jm_X) : Option jm_R := (if jm_cn 3000 73 a1 then jm_bV (f_JS_checkIndex K g a2 (Int32.ofNat (st_b.getD (a1 - 3000) []).length) x) (fun x1 => (if jm_cn 3000 73 a1 then (if jm_ix (st_b.getD (a1 - 3000) []).length a2 then some (.inl (some (.int (vp_nar .char (UInt32.toInt32 (Int32.toUInt32 (((st_b.getD (a1 - 3000) []).getD (Int32.toNatClampNeg a2) 0) &&& 255) % 65536)))), x1)) else none) else none)) else none)
set_option maxRecDepth 100000 in
set_option maxHeartbeats 4000000 in
theorem c_JL_charAt {l : Launch} {D : va_G} {cl : List vw_C} {ad : Nat → Nat} {aC : Nat → ClassId} {sh : List jm_S} {b0 ec : Nat} {K d0 : Nat} {g : jm_Rec} (hok : jm_Ok (jm_PP l D cl ad aC sh b0 ec)) {QQ : Prop} (hrec : QQ) (a1 : Nat) (a2 : Int32) (x : jm_X) : jm_Con (jm_PP l D cl ad aC sh b0 ec) mt_JL_charAt (d0 + 3) [.ref a1, .int a2] x (f_JL_charAt K g a1 a2 x) := by
  refine jm_Con.of (plainFor_of_name (by decide +kernel)) (Nat.le_of_ble_eq_true rfl) ?_
  have hT := tk_JL (l := l) (D := D) (ad := ad) (aC := aC) (b0 := b0) (cl := cl) (sh := sh) (ec := ec)
  unfold f_JL_charAt
  show jm_V _ _ _ 0 [(0, .ref a1), (1, .int a2)] [] x _
  refine jm_V.run (is := bk_JL_charAt_0_2) (pc' := 2) (ls' := [(0, .ref a1), (1, .int a2)]) (st' := [.ref a1, .int a2]) (x' := x) hok hT bk_JL_charAt_0_2_ok rfl ?_
  refine jm_V.tlen (lo := 3000) (N := 73) (len := fun i => (st_b.getD i []).length) (f := fun i j => .int ((st_b.getD i []).getD j 0)) hok cs_bytes dd_JL_charAt_2 ?_
  refine jm_V.callV (av := [.int a2, .int (Int32.ofNat (st_b.getD (a1 - 3000) []).length)]) (rest := []) hok (jm_Con.mono (c_JS_checkIndex (d0 := d0) hok hrec a2 (Int32.ofNat (st_b.getD (a1 - 3000) []).length) x) (by omega)) (jm_Inv.stat dd_JL_charAt_3 (Or.inl lk_JL_9) mq_JS_checkIndex mi_JS mw_JS_checkIndex mh_JS_checkIndex ml_JS_checkIndex) mw_JS_checkIndex mi_JS (Nat.le_of_ble_eq_true rfl) (Nat.le_of_ble_eq_true rfl) (fun x1 => ?_)
  refine jm_V.run (is := bk_JL_charAt_6_2) (pc' := 8) (ls' := [(0, .ref a1), (1, .int a2)]) (st' := [.int a2, .ref a1]) (x' := x1) hok hT bk_JL_charAt_6_2_ok rfl ?_
  refine jm_V.tbald (lo := 3000) (N := 73) (len := fun i => (st_b.getD i []).length) (f := fun i j => (st_b.getD i []).getD j 0) hok cs_bytes dd_JL_charAt_8 ?_
  refine jm_V.run (is := bk_JL_charAt_9_3) (pc' := 14) (ls' := [(0, .ref a1), (1, .int a2)]) (st' := [.int (UInt32.toInt32 (Int32.toUInt32 (((st_b.getD (a1 - 3000) []).getD (Int32.toNatClampNeg a2) 0) &&& 255) % 65536))]) (x' := x1) hok hT bk_JL_charAt_9_3_ok rfl ?_
  exact jm_V.nret (t := .char) rfl rfl dd_JL_charAt_14
def f_JS_charAt (K : Nat) (g : jm_Rec) (a0 : Nat) (a1 : Int32) (x : jm_X) : Option jm_R := (if jm_cn 2000 73 a0 then jm_bI (f_JS_isLatin1 K g a0 x) (fun b2 x1 => (if b2 = 0 then (if jm_cn 2000 73 a0 then none else none) else (if jm_cn 2000 73 a0 then jm_bI (f_JL_charAt K g (3000 + (a0 - 2000)) a1 x1) (fun b4 x3 => some (.inl (some (.int (vp_nar .char b4)), x3))) else none))) else none)
set_option maxRecDepth 100000 in
set_option maxHeartbeats 4000000 in
theorem c_JS_charAt {l : Launch} {D : va_G} {cl : List vw_C} {ad : Nat → Nat} {aC : Nat → ClassId} {sh : List jm_S} {b0 ec : Nat} {K d0 : Nat} {g : jm_Rec} (hok : jm_Ok (jm_PP l D cl ad aC sh b0 ec)) {QQ : Prop} (hrec : QQ) (a0 : Nat) (a1 : Int32) (x : jm_X) : jm_Con (jm_PP l D cl ad aC sh b0 ec) mt_JS_charAt (d0 + 4) [.ref a0, .int a1] x (f_JS_charAt K g a0 a1 x) := by
  refine jm_Con.of (plainFor_of_name (by decide +kernel)) (Nat.le_of_ble_eq_true rfl) ?_
  have hT := tk_JS (l := l) (D := D) (ad := ad) (aC := aC) (b0 := b0) (cl := cl) (sh := sh) (ec := ec)
  unfold f_JS_charAt
  show jm_V _ _ _ 0 [(0, .ref a0), (1, .int a1)] [] x _
  refine jm_V.run (is := bk_JS_charAt_0_1) (pc' := 1) (ls' := [(0, .ref a0), (1, .int a1)]) (st' := [.ref a0]) (x' := x) hok hT bk_JS_charAt_0_1_ok rfl ?_
  refine jm_V.guard (fun hg => ?_)
  refine jm_V.callI (av := [.ref a0]) (rest := []) hok (jm_Con.mono (c_JS_isLatin1 (d0 := d0) hok hrec a0 x) (by omega)) (iv_str hok hg dd_JS_charAt_1 lk_JS_492 mn_JS_isLatin1 ms_JS_isLatin1 mw_JS_isLatin1 mh_JS_isLatin1 ml_JS_isLatin1) mw_JS_isLatin1 mi_JS (Nat.le_of_ble_eq_true rfl) (Nat.le_of_ble_eq_true rfl) (fun b2 x1 => ?_)
  refine jm_V.run (is := bk_JS_charAt_4_1) (pc' := (if b2 = 0 then 16 else 7)) (ls' := [(0, .ref a0), (1, .int a1)]) (st' := []) (x' := x1) hok hT bk_JS_charAt_4_1_ok rfl ?_
  refine jm_V.ite (fun _ => ?_) (fun _ => ?_)
  · refine jm_V.run (is := bk_JS_charAt_16_1) (pc' := 17) (ls' := [(0, .ref a0), (1, .int a1)]) (st' := [.ref a0]) (x' := x1) hok hT bk_JS_charAt_16_1_ok rfl ?_
    refine jm_V.getC (v := fun i => .ref (3000 + i)) hok cs_value (Or.inl lf_JS_9) dd_JS_charAt_17 ?_
    refine jm_V.run (is := bk_JS_charAt_20_1) (pc' := 21) (ls' := [(0, .ref a0), (1, .int a1)]) (st' := [.int a1, .ref (3000 + (a0 - 2000))]) (x' := x1) hok hT bk_JS_charAt_20_1_ok rfl ?_
    exact jm_V.stuck
  · refine jm_V.run (is := bk_JS_charAt_7_1) (pc' := 8) (ls' := [(0, .ref a0), (1, .int a1)]) (st' := [.ref a0]) (x' := x1) hok hT bk_JS_charAt_7_1_ok rfl ?_
    refine jm_V.getC (v := fun i => .ref (3000 + i)) hok cs_value (Or.inl lf_JS_9) dd_JS_charAt_8 ?_
    refine jm_V.run (is := bk_JS_charAt_11_1) (pc' := 12) (ls' := [(0, .ref a0), (1, .int a1)]) (st' := [.int a1, .ref (3000 + (a0 - 2000))]) (x' := x1) hok hT bk_JS_charAt_11_1_ok rfl ?_
    refine jm_V.callI (av := [.ref (3000 + (a0 - 2000)), .int a1]) (rest := []) hok (jm_Con.mono (c_JL_charAt (d0 := d0) hok hrec (3000 + (a0 - 2000)) a1 x1) (by omega)) (jm_Inv.stat dd_JS_charAt_12 (Or.inl lk_JS_495) mq_JL_charAt mi_JL mw_JL_charAt mh_JL_charAt ml_JL_charAt) mw_JL_charAt mi_JL (Nat.le_of_ble_eq_true rfl) (Nat.le_of_ble_eq_true rfl) (fun b4 x3 => ?_)
    exact jm_V.nret (t := .char) rfl rfl dd_JS_charAt_15
def J_JM_min_ii_10 (K : Nat) (g : jm_Rec) (s0 : Int32) (x : jm_X) : Option jm_R := some (.inl (some (.int s0), x))
set_option maxRecDepth 100000 in
set_option maxHeartbeats 4000000 in
theorem jj_JM_min_ii_10 {l : Launch} {D : va_G} {cl : List vw_C} {ad : Nat → Nat} {aC : Nat → ClassId} {sh : List jm_S} {b0 ec : Nat} {K d0 : Nat} {g : jm_Rec} (hok : jm_Ok (jm_PP l D cl ad aC sh b0 ec)) {QQ : Prop} (hrec : QQ) (s0 : Int32) (x : jm_X) : jm_V (jm_PP l D cl ad aC sh b0 ec) mt_JM_min_ii (d0 + 1) 10 [] [.int s0] x (J_JM_min_ii_10 K g s0 x) := by
  have hT := tk_JM (l := l) (D := D) (ad := ad) (aC := aC) (b0 := b0) (cl := cl) (sh := sh) (ec := ec)
  unfold J_JM_min_ii_10
  exact jm_V.iret rfl dd_JM_min_ii_10
def f_JM_min_ii (K : Nat) (g : jm_Rec) (a1 : Int32) (a2 : Int32) (x : jm_X) : Option jm_R := (if a2 < a1 then J_JM_min_ii_10 K g a2 x else J_JM_min_ii_10 K g a1 x)
set_option maxRecDepth 100000 in
set_option maxHeartbeats 4000000 in
theorem c_JM_min_ii {l : Launch} {D : va_G} {cl : List vw_C} {ad : Nat → Nat} {aC : Nat → ClassId} {sh : List jm_S} {b0 ec : Nat} {K d0 : Nat} {g : jm_Rec} (hok : jm_Ok (jm_PP l D cl ad aC sh b0 ec)) {QQ : Prop} (hrec : QQ) (a1 : Int32) (a2 : Int32) (x : jm_X) : jm_Con (jm_PP l D cl ad aC sh b0 ec) mt_JM_min_ii (d0 + 1) [.int a1, .int a2] x (f_JM_min_ii K g a1 a2 x) := by
  refine jm_Con.of (by decide +kernel) (Nat.le_of_ble_eq_true rfl) ?_
  have hT := tk_JM (l := l) (D := D) (ad := ad) (aC := aC) (b0 := b0) (cl := cl) (sh := sh) (ec := ec)
  unfold f_JM_min_ii
  show jm_V _ _ _ 0 [(0, .int a1), (1, .int a2)] [] x _
  refine jm_V.run (is := bk_JM_min_ii_0_3) (pc' := (if a2 < a1 then 9 else 5)) (ls' := [(0, .int a1), (1, .int a2)]) (st' := []) (x' := x) hok hT bk_JM_min_ii_0_3_ok rfl ?_
  refine jm_V.ite (fun _ => ?_) (fun _ => ?_)
  · refine jm_V.run (is := bk_JM_min_ii_9_1) (pc' := 10) (ls' := [(0, .int a1), (1, .int a2)]) (st' := [.int a2]) (x' := x) hok hT bk_JM_min_ii_9_1_ok rfl ?_
    refine jm_V.sub (ls' := []) [] rfl ?_
    exact jj_JM_min_ii_10 hok hrec a2 x
  · refine jm_V.run (is := bk_JM_min_ii_5_2) (pc' := 10) (ls' := [(0, .int a1), (1, .int a2)]) (st' := [.int a1]) (x' := x) hok hT bk_JM_min_ii_5_2_ok rfl ?_
    refine jm_V.sub (ls' := []) [] rfl ?_
    exact jj_JM_min_ii_10 hok hrec a1 x
def J_JM_max_10 (K : Nat) (g : jm_Rec) (s0 : Int32) (x : jm_X) : Option jm_R := some (.inl (some (.int s0), x))
set_option maxRecDepth 100000 in
set_option maxHeartbeats 4000000 in
theorem jj_JM_max_10 {l : Launch} {D : va_G} {cl : List vw_C} {ad : Nat → Nat} {aC : Nat → ClassId} {sh : List jm_S} {b0 ec : Nat} {K d0 : Nat} {g : jm_Rec} (hok : jm_Ok (jm_PP l D cl ad aC sh b0 ec)) {QQ : Prop} (hrec : QQ) (s0 : Int32) (x : jm_X) : jm_V (jm_PP l D cl ad aC sh b0 ec) mt_JM_max (d0 + 1) 10 [] [.int s0] x (J_JM_max_10 K g s0 x) := by
  have hT := tk_JM (l := l) (D := D) (ad := ad) (aC := aC) (b0 := b0) (cl := cl) (sh := sh) (ec := ec)
  unfold J_JM_max_10
  exact jm_V.iret rfl dd_JM_max_10
def f_JM_max (K : Nat) (g : jm_Rec) (a1 : Int32) (a2 : Int32) (x : jm_X) : Option jm_R := (if a1 < a2 then J_JM_max_10 K g a2 x else J_JM_max_10 K g a1 x)
set_option maxRecDepth 100000 in
set_option maxHeartbeats 4000000 in
theorem c_JM_max {l : Launch} {D : va_G} {cl : List vw_C} {ad : Nat → Nat} {aC : Nat → ClassId} {sh : List jm_S} {b0 ec : Nat} {K d0 : Nat} {g : jm_Rec} (hok : jm_Ok (jm_PP l D cl ad aC sh b0 ec)) {QQ : Prop} (hrec : QQ) (a1 : Int32) (a2 : Int32) (x : jm_X) : jm_Con (jm_PP l D cl ad aC sh b0 ec) mt_JM_max (d0 + 1) [.int a1, .int a2] x (f_JM_max K g a1 a2 x) := by
  refine jm_Con.of (by decide +kernel) (Nat.le_of_ble_eq_true rfl) ?_
  have hT := tk_JM (l := l) (D := D) (ad := ad) (aC := aC) (b0 := b0) (cl := cl) (sh := sh) (ec := ec)
  unfold f_JM_max
  show jm_V _ _ _ 0 [(0, .int a1), (1, .int a2)] [] x _
  refine jm_V.run (is := bk_JM_max_0_3) (pc' := (if a1 < a2 then 9 else 5)) (ls' := [(0, .int a1), (1, .int a2)]) (st' := []) (x' := x) hok hT bk_JM_max_0_3_ok rfl ?_
  refine jm_V.ite (fun _ => ?_) (fun _ => ?_)
  · refine jm_V.run (is := bk_JM_max_9_1) (pc' := 10) (ls' := [(0, .int a1), (1, .int a2)]) (st' := [.int a2]) (x' := x) hok hT bk_JM_max_9_1_ok rfl ?_
    refine jm_V.sub (ls' := []) [] rfl ?_
    exact jj_JM_max_10 hok hrec a2 x
  · refine jm_V.run (is := bk_JM_max_5_2) (pc' := 10) (ls' := [(0, .int a1), (1, .int a2)]) (st' := [.int a1]) (x' := x) hok hT bk_JM_max_5_2_ok rfl ?_
    refine jm_V.sub (ls' := []) [] rfl ?_
    exact jj_JM_max_10 hok hrec a1 x
def J_JM_min_ll_11 (K : Nat) (g : jm_Rec) (s0 : Int64) (x : jm_X) : Option jm_R := some (.inl (some (.long s0), x))
set_option maxRecDepth 100000 in
set_option maxHeartbeats 4000000 in
theorem jj_JM_min_ll_11 {l : Launch} {D : va_G} {cl : List vw_C} {ad : Nat → Nat} {aC : Nat → ClassId} {sh : List jm_S} {b0 ec : Nat} {K d0 : Nat} {g : jm_Rec} (hok : jm_Ok (jm_PP l D cl ad aC sh b0 ec)) {QQ : Prop} (hrec : QQ) (s0 : Int64) (x : jm_X) : jm_V (jm_PP l D cl ad aC sh b0 ec) mt_JM_min_ll (d0 + 1) 11 [] [.long s0] x (J_JM_min_ll_11 K g s0 x) := by
  have hT := tk_JM (l := l) (D := D) (ad := ad) (aC := aC) (b0 := b0) (cl := cl) (sh := sh) (ec := ec)
  unfold J_JM_min_ll_11
  exact jm_V.lret rfl dd_JM_min_ll_11
def f_JM_min_ll (K : Nat) (g : jm_Rec) (a1 : Int64) (a2 : Int64) (x : jm_X) : Option jm_R := (if 0 < (lg_cmp a1 a2) then J_JM_min_ll_11 K g a2 x else J_JM_min_ll_11 K g a1 x)
set_option maxRecDepth 100000 in
set_option maxHeartbeats 4000000 in
theorem c_JM_min_ll {l : Launch} {D : va_G} {cl : List vw_C} {ad : Nat → Nat} {aC : Nat → ClassId} {sh : List jm_S} {b0 ec : Nat} {K d0 : Nat} {g : jm_Rec} (hok : jm_Ok (jm_PP l D cl ad aC sh b0 ec)) {QQ : Prop} (hrec : QQ) (a1 : Int64) (a2 : Int64) (x : jm_X) : jm_Con (jm_PP l D cl ad aC sh b0 ec) mt_JM_min_ll (d0 + 1) [.long a1, .long a2] x (f_JM_min_ll K g a1 a2 x) := by
  refine jm_Con.of (by decide +kernel) (Nat.le_of_ble_eq_true rfl) ?_
  have hT := tk_JM (l := l) (D := D) (ad := ad) (aC := aC) (b0 := b0) (cl := cl) (sh := sh) (ec := ec)
  unfold f_JM_min_ll
  show jm_V _ _ _ 0 [(0, .long a1), (2, .long a2)] [] x _
  refine jm_V.run (is := bk_JM_min_ll_0_4) (pc' := (if 0 < (lg_cmp a1 a2) then 10 else 6)) (ls' := [(0, .long a1), (2, .long a2)]) (st' := []) (x' := x) hok hT bk_JM_min_ll_0_4_ok rfl ?_
  refine jm_V.ite (fun _ => ?_) (fun _ => ?_)
  · refine jm_V.run (is := bk_JM_min_ll_10_1) (pc' := 11) (ls' := [(0, .long a1), (2, .long a2)]) (st' := [.long a2]) (x' := x) hok hT bk_JM_min_ll_10_1_ok rfl ?_
    refine jm_V.sub (ls' := []) [] rfl ?_
    exact jj_JM_min_ll_11 hok hrec a2 x
  · refine jm_V.run (is := bk_JM_min_ll_6_2) (pc' := 11) (ls' := [(0, .long a1), (2, .long a2)]) (st' := [.long a1]) (x' := x) hok hT bk_JM_min_ll_6_2_ok rfl ?_
    refine jm_V.sub (ls' := []) [] rfl ?_
    exact jj_JM_min_ll_11 hok hrec a1 x
def f_JE_ordinal (K : Nat) (g : jm_Rec) (a0 : Nat) (x : jm_X) : Option jm_R := (if jm_cn 1000 55 a0 then some (.inl (some (.int (Int32.ofNat (a0 - 1000))), x)) else none)
set_option maxRecDepth 100000 in
set_option maxHeartbeats 4000000 in
theorem c_JE_ordinal {l : Launch} {D : va_G} {cl : List vw_C} {ad : Nat → Nat} {aC : Nat → ClassId} {sh : List jm_S} {b0 ec : Nat} {K d0 : Nat} {g : jm_Rec} (hok : jm_Ok (jm_PP l D cl ad aC sh b0 ec)) {QQ : Prop} (hrec : QQ) (a0 : Nat) (x : jm_X) : jm_Con (jm_PP l D cl ad aC sh b0 ec) mt_JE_ordinal (d0 + 1) [.ref a0] x (f_JE_ordinal K g a0 x) := by
  refine jm_Con.of (plainFor_of_name (by decide +kernel)) (Nat.le_of_ble_eq_true rfl) ?_
  have hT := tk_JE (l := l) (D := D) (ad := ad) (aC := aC) (b0 := b0) (cl := cl) (sh := sh) (ec := ec)
  unfold f_JE_ordinal
  show jm_V _ _ _ 0 [(0, .ref a0)] [] x _
  refine jm_V.run (is := bk_JE_ordinal_0_1) (pc' := 1) (ls' := [(0, .ref a0)]) (st' := [.ref a0]) (x' := x) hok hT bk_JE_ordinal_0_1_ok rfl ?_
  refine jm_V.getC (v := fun i => .int (Int32.ofNat i)) hok cs_ord (Or.inl lf_JE_7) dd_JE_ordinal_1 ?_
  exact jm_V.iret rfl dd_JE_ordinal_4
def J_JL_canEncode_16 (K : Nat) (g : jm_Rec) (s0 : Int32) (x : jm_X) : Option jm_R := some (.inl (some (.int (vp_nar .boolean s0)), x))
set_option maxRecDepth 100000 in
set_option maxHeartbeats 4000000 in
theorem jj_JL_canEncode_16 {l : Launch} {D : va_G} {cl : List vw_C} {ad : Nat → Nat} {aC : Nat → ClassId} {sh : List jm_S} {b0 ec : Nat} {K d0 : Nat} {g : jm_Rec} (hok : jm_Ok (jm_PP l D cl ad aC sh b0 ec)) {QQ : Prop} (hrec : QQ) (s0 : Int32) (x : jm_X) : jm_V (jm_PP l D cl ad aC sh b0 ec) mt_JL_canEncode (d0 + 1) 16 [] [.int s0] x (J_JL_canEncode_16 K g s0 x) := by
  have hT := tk_JL (l := l) (D := D) (ad := ad) (aC := aC) (b0 := b0) (cl := cl) (sh := sh) (ec := ec)
  unfold J_JL_canEncode_16
  exact jm_V.nret (t := .boolean) rfl rfl dd_JL_canEncode_16
def J_JL_canEncode_15 (K : Nat) (g : jm_Rec)  (x : jm_X) : Option jm_R := J_JL_canEncode_16 K g 0 x
set_option maxRecDepth 100000 in
set_option maxHeartbeats 4000000 in
theorem jj_JL_canEncode_15 {l : Launch} {D : va_G} {cl : List vw_C} {ad : Nat → Nat} {aC : Nat → ClassId} {sh : List jm_S} {b0 ec : Nat} {K d0 : Nat} {g : jm_Rec} (hok : jm_Ok (jm_PP l D cl ad aC sh b0 ec)) {QQ : Prop} (hrec : QQ)  (x : jm_X) : jm_V (jm_PP l D cl ad aC sh b0 ec) mt_JL_canEncode (d0 + 1) 15 [] [] x (J_JL_canEncode_15 K g  x) := by
  have hT := tk_JL (l := l) (D := D) (ad := ad) (aC := aC) (b0 := b0) (cl := cl) (sh := sh) (ec := ec)
  unfold J_JL_canEncode_15
  refine jm_V.run (is := bk_JL_canEncode_15_1) (pc' := 16) (ls' := []) (st' := [.int 0]) (x' := x) hok hT bk_JL_canEncode_15_1_ok rfl ?_
  exact jj_JL_canEncode_16 hok hrec 0 x
def f_JL_canEncode (K : Nat) (g : jm_Rec) (a1 : Int32) (x : jm_X) : Option jm_R := (if a1 < 0 then J_JL_canEncode_15 K g x else (if 255 < a1 then J_JL_canEncode_15 K g x else J_JL_canEncode_16 K g 1 x))
set_option maxRecDepth 100000 in
set_option maxHeartbeats 4000000 in
theorem c_JL_canEncode {l : Launch} {D : va_G} {cl : List vw_C} {ad : Nat → Nat} {aC : Nat → ClassId} {sh : List jm_S} {b0 ec : Nat} {K d0 : Nat} {g : jm_Rec} (hok : jm_Ok (jm_PP l D cl ad aC sh b0 ec)) {QQ : Prop} (hrec : QQ) (a1 : Int32) (x : jm_X) : jm_Con (jm_PP l D cl ad aC sh b0 ec) mt_JL_canEncode (d0 + 1) [.int a1] x (f_JL_canEncode K g a1 x) := by
  refine jm_Con.of (plainFor_of_name (by decide +kernel)) (Nat.le_of_ble_eq_true rfl) ?_
  have hT := tk_JL (l := l) (D := D) (ad := ad) (aC := aC) (b0 := b0) (cl := cl) (sh := sh) (ec := ec)
  unfold f_JL_canEncode
  show jm_V _ _ _ 0 [(0, .int a1)] [] x _
  refine jm_V.run (is := bk_JL_canEncode_0_2) (pc' := (if a1 < 0 then 15 else 4)) (ls' := [(0, .int a1)]) (st' := []) (x' := x) hok hT bk_JL_canEncode_0_2_ok rfl ?_
  refine jm_V.ite (fun _ => ?_) (fun _ => ?_)
  · refine jm_V.sub (ls' := []) [] rfl ?_
    exact jj_JL_canEncode_15 hok hrec x
  · refine jm_V.run (is := bk_JL_canEncode_4_3) (pc' := (if 255 < a1 then 15 else 11)) (ls' := [(0, .int a1)]) (st' := []) (x' := x) hok hT bk_JL_canEncode_4_3_ok rfl ?_
    refine jm_V.ite (fun _ => ?_) (fun _ => ?_)
    · refine jm_V.sub (ls' := []) [] rfl ?_
      exact jj_JL_canEncode_15 hok hrec x
    · refine jm_V.run (is := bk_JL_canEncode_11_2) (pc' := 16) (ls' := [(0, .int a1)]) (st' := [.int 1]) (x' := x) hok hT bk_JL_canEncode_11_2_ok rfl ?_
      refine jm_V.sub (ls' := []) [] rfl ?_
      exact jj_JL_canEncode_16 hok hrec 1 x
def B_JL_indexOfChar_7 (K : Nat) (g : jm_Rec) (self : Nat → Int32 → Int32 → Int32 → jm_X → Option jm_R) (v0 : Nat) (v3 : Int32) (v4 : Int32) (v5 : Int32) (x : jm_X) : Option jm_R := (if v3 ≤ v5 then some (.inl (some (.int (-1)), x)) else (if jm_cn 3000 73 v0 then (if jm_ix (st_b.getD (v0 - 3000) []).length v5 then (if ((st_b.getD (v0 - 3000) []).getD (Int32.toNatClampNeg v5) 0) = v4 then some (.inl (some (.int v5), x)) else self v0 v3 v4 (v5 + 1) x) else none) else none))
def L_JL_indexOfChar_7 (K : Nat) (g : jm_Rec) : Nat → Nat → Int32 → Int32 → Int32 → jm_X → Option jm_R
  | 0, _, _, _, _, _ => none
  | k + 1, v0, v3, v4, v5, x => B_JL_indexOfChar_7 K g (L_JL_indexOfChar_7 K g k) v0 v3 v4 v5 x
set_option maxRecDepth 100000 in
set_option maxHeartbeats 4000000 in
theorem jb_JL_indexOfChar_7 {l : Launch} {D : va_G} {cl : List vw_C} {ad : Nat → Nat} {aC : Nat → ClassId} {sh : List jm_S} {b0 ec : Nat} {K d0 : Nat} {g : jm_Rec} (hok : jm_Ok (jm_PP l D cl ad aC sh b0 ec)) {QQ : Prop} (hrec : QQ) {self : Nat → Int32 → Int32 → Int32 → jm_X → Option jm_R} (hself : ∀ (v0 : Nat) (v3 : Int32) (v4 : Int32) (v5 : Int32) (x : jm_X), jm_V (jm_PP l D cl ad aC sh b0 ec) mt_JL_indexOfChar (d0 + 1) 7 [(0, .ref v0), (3, .int v3), (4, .int v4), (5, .int v5)] [] x (self v0 v3 v4 v5 x)) (v0 : Nat) (v3 : Int32) (v4 : Int32) (v5 : Int32) (x : jm_X) : jm_V (jm_PP l D cl ad aC sh b0 ec) mt_JL_indexOfChar (d0 + 1) 7 [(0, .ref v0), (3, .int v3), (4, .int v4), (5, .int v5)] [] x (B_JL_indexOfChar_7 K g self v0 v3 v4 v5 x) := by
  have hT := tk_JL (l := l) (D := D) (ad := ad) (aC := aC) (b0 := b0) (cl := cl) (sh := sh) (ec := ec)
  unfold B_JL_indexOfChar_7
  refine jm_V.run (is := bk_JL_indexOfChar_7_3) (pc' := (if v3 ≤ v5 then 31 else 13)) (ls' := [(0, .ref v0), (3, .int v3), (4, .int v4), (5, .int v5)]) (st' := []) (x' := x) hok hT bk_JL_indexOfChar_7_3_ok rfl ?_
  refine jm_V.ite (fun _ => ?_) (fun _ => ?_)
  · refine jm_V.run (is := bk_JL_indexOfChar_31_1) (pc' := 32) (ls' := [(0, .ref v0), (3, .int v3), (4, .int v4), (5, .int v5)]) (st' := [.int (-1)]) (x' := x) hok hT bk_JL_indexOfChar_31_1_ok rfl ?_
    exact jm_V.iret rfl dd_JL_indexOfChar_32
  · refine jm_V.run (is := bk_JL_indexOfChar_13_2) (pc' := 16) (ls' := [(0, .ref v0), (3, .int v3), (4, .int v4), (5, .int v5)]) (st' := [.int v5, .ref v0]) (x' := x) hok hT bk_JL_indexOfChar_13_2_ok rfl ?_
    refine jm_V.tbald (lo := 3000) (N := 73) (len := fun i => (st_b.getD i []).length) (f := fun i j => (st_b.getD i []).getD j 0) hok cs_bytes dd_JL_indexOfChar_16 ?_
    refine jm_V.run (is := bk_JL_indexOfChar_17_2) (pc' := (if ((st_b.getD (v0 - 3000) []).getD (Int32.toNatClampNeg v5) 0) = v4 then 22 else 25)) (ls' := [(0, .ref v0), (3, .int v3), (4, .int v4), (5, .int v5)]) (st' := []) (x' := x) hok hT bk_JL_indexOfChar_17_2_ok rfl ?_
    refine jm_V.ite (fun _ => ?_) (fun _ => ?_)
    · refine jm_V.run (is := bk_JL_indexOfChar_22_1) (pc' := 24) (ls' := [(0, .ref v0), (3, .int v3), (4, .int v4), (5, .int v5)]) (st' := [.int v5]) (x' := x) hok hT bk_JL_indexOfChar_22_1_ok rfl ?_
      exact jm_V.iret rfl dd_JL_indexOfChar_24
    · refine jm_V.run (is := bk_JL_indexOfChar_25_2) (pc' := 7) (ls' := [(5, .int (v5 + 1)), (0, .ref v0), (3, .int v3), (4, .int v4)]) (st' := []) (x' := x) hok hT bk_JL_indexOfChar_25_2_ok rfl ?_
      refine jm_V.sub (ls' := [(0, .ref v0), (3, .int v3), (4, .int v4), (5, .int (v5 + 1))]) [1, 2, 3, 0] rfl ?_
      exact hself v0 v3 v4 (v5 + 1) x
theorem jl_JL_indexOfChar_7 {l : Launch} {D : va_G} {cl : List vw_C} {ad : Nat → Nat} {aC : Nat → ClassId} {sh : List jm_S} {b0 ec : Nat} {K d0 : Nat} {g : jm_Rec} (hok : jm_Ok (jm_PP l D cl ad aC sh b0 ec)) {QQ : Prop} (hrec : QQ) : ∀ (k : Nat) (v0 : Nat) (v3 : Int32) (v4 : Int32) (v5 : Int32) (x : jm_X), jm_V (jm_PP l D cl ad aC sh b0 ec) mt_JL_indexOfChar (d0 + 1) 7 [(0, .ref v0), (3, .int v3), (4, .int v4), (5, .int v5)] [] x (L_JL_indexOfChar_7 K g k v0 v3 v4 v5 x)
  | 0, _, _, _, _, _ => jm_V.stuck
  | k + 1, v0, v3, v4, v5, x => jb_JL_indexOfChar_7 hok hrec (fun v0 v3 v4 v5 x => jl_JL_indexOfChar_7 hok hrec k v0 v3 v4 v5 x) v0 v3 v4 v5 x
def f_JL_indexOfChar (K : Nat) (g : jm_Rec) (a1 : Nat) (a2 : Int32) (a3 : Int32) (a4 : Int32) (x : jm_X) : Option jm_R := L_JL_indexOfChar_7 K g K a1 a4 (Int8.toInt32 (Int32.toInt8 a2)) a3 x
set_option maxRecDepth 100000 in
set_option maxHeartbeats 4000000 in
theorem c_JL_indexOfChar {l : Launch} {D : va_G} {cl : List vw_C} {ad : Nat → Nat} {aC : Nat → ClassId} {sh : List jm_S} {b0 ec : Nat} {K d0 : Nat} {g : jm_Rec} (hok : jm_Ok (jm_PP l D cl ad aC sh b0 ec)) {QQ : Prop} (hrec : QQ) (a1 : Nat) (a2 : Int32) (a3 : Int32) (a4 : Int32) (x : jm_X) : jm_Con (jm_PP l D cl ad aC sh b0 ec) mt_JL_indexOfChar (d0 + 1) [.ref a1, .int a2, .int a3, .int a4] x (f_JL_indexOfChar K g a1 a2 a3 a4 x) := by
  refine jm_Con.of (plainFor_of_name (by decide +kernel)) (Nat.le_of_ble_eq_true rfl) ?_
  have hT := tk_JL (l := l) (D := D) (ad := ad) (aC := aC) (b0 := b0) (cl := cl) (sh := sh) (ec := ec)
  unfold f_JL_indexOfChar
  show jm_V _ _ _ 0 [(0, .ref a1), (1, .int a2), (2, .int a3), (3, .int a4)] [] x _
  refine jm_V.run (is := bk_JL_indexOfChar_0_5) (pc' := 7) (ls' := [(5, .int a3), (4, .int (Int8.toInt32 (Int32.toInt8 a2))), (0, .ref a1), (1, .int a2), (2, .int a3), (3, .int a4)]) (st' := []) (x' := x) hok hT bk_JL_indexOfChar_0_5_ok rfl ?_
  refine jm_V.sub (ls' := [(0, .ref a1), (3, .int a4), (4, .int (Int8.toInt32 (Int32.toInt8 a2))), (5, .int a3)]) [2, 5, 1, 0] rfl ?_
  exact jl_JL_indexOfChar_7 hok hrec K a1 a4 (Int8.toInt32 (Int32.toInt8 a2)) a3 x
def f_JL_indexOf (K : Nat) (g : jm_Rec) (a1 : Nat) (a2 : Int32) (a3 : Int32) (a4 : Int32) (x : jm_X) : Option jm_R := jm_bI (f_JL_canEncode K g a2 x) (fun b2 x1 => (if b2 = 0 then some (.inl (some (.int (-1)), x1)) else jm_bI (f_JM_max K g a3 0 x1) (fun b4 x3 => (if jm_cn 3000 73 a1 then jm_bI (f_JM_min_ii K g a4 (Int32.ofNat (st_b.getD (a1 - 3000) []).length) x3) (fun b6 x5 => (if b4 < b6 then jm_bI (f_JL_indexOfChar K g a1 a2 b4 b6 x5) (fun b8 x7 => some (.inl (some (.int b8), x7))) else some (.inl (some (.int (-1)), x5)))) else none))))
set_option maxRecDepth 100000 in
set_option maxHeartbeats 4000000 in
theorem c_JL_indexOf {l : Launch} {D : va_G} {cl : List vw_C} {ad : Nat → Nat} {aC : Nat → ClassId} {sh : List jm_S} {b0 ec : Nat} {K d0 : Nat} {g : jm_Rec} (hok : jm_Ok (jm_PP l D cl ad aC sh b0 ec)) {QQ : Prop} (hrec : QQ) (a1 : Nat) (a2 : Int32) (a3 : Int32) (a4 : Int32) (x : jm_X) : jm_Con (jm_PP l D cl ad aC sh b0 ec) mt_JL_indexOf (d0 + 2) [.ref a1, .int a2, .int a3, .int a4] x (f_JL_indexOf K g a1 a2 a3 a4 x) := by
  refine jm_Con.of (plainFor_of_name (by decide +kernel)) (Nat.le_of_ble_eq_true rfl) ?_
  have hT := tk_JL (l := l) (D := D) (ad := ad) (aC := aC) (b0 := b0) (cl := cl) (sh := sh) (ec := ec)
  unfold f_JL_indexOf
  show jm_V _ _ _ 0 [(0, .ref a1), (1, .int a2), (2, .int a3), (3, .int a4)] [] x _
  refine jm_V.run (is := bk_JL_indexOf_0_1) (pc' := 1) (ls' := [(0, .ref a1), (1, .int a2), (2, .int a3), (3, .int a4)]) (st' := [.int a2]) (x' := x) hok hT bk_JL_indexOf_0_1_ok rfl ?_
  refine jm_V.callI (av := [.int a2]) (rest := []) hok (jm_Con.mono (c_JL_canEncode (d0 := d0) hok hrec a2 x) (by omega)) (jm_Inv.stat dd_JL_indexOf_1 (Or.inl lk_JL_88) mq_JL_canEncode mi_JL mw_JL_canEncode mh_JL_canEncode ml_JL_canEncode) mw_JL_canEncode mi_JL (Nat.le_of_ble_eq_true rfl) (Nat.le_of_ble_eq_true rfl) (fun b2 x1 => ?_)
  refine jm_V.run (is := bk_JL_indexOf_4_1) (pc' := (if b2 = 0 then 7 else 9)) (ls' := [(0, .ref a1), (1, .int a2), (2, .int a3), (3, .int a4)]) (st' := []) (x' := x1) hok hT bk_JL_indexOf_4_1_ok rfl ?_
  refine jm_V.ite (fun _ => ?_) (fun _ => ?_)
  · refine jm_V.run (is := bk_JL_indexOf_7_1) (pc' := 8) (ls' := [(0, .ref a1), (1, .int a2), (2, .int a3), (3, .int a4)]) (st' := [.int (-1)]) (x' := x1) hok hT bk_JL_indexOf_7_1_ok rfl ?_
    exact jm_V.iret rfl dd_JL_indexOf_8
  · refine jm_V.run (is := bk_JL_indexOf_9_2) (pc' := 11) (ls' := [(0, .ref a1), (1, .int a2), (2, .int a3), (3, .int a4)]) (st' := [.int 0, .int a3]) (x' := x1) hok hT bk_JL_indexOf_9_2_ok rfl ?_
    refine jm_V.callI (av := [.int a3, .int 0]) (rest := []) hok (jm_Con.mono (c_JM_max (d0 := d0) hok hrec a3 0 x1) (by omega)) (jm_Inv.stat dd_JL_indexOf_11 (Or.inl lk_JL_92) mq_JM_max mi_JM mw_JM_max mh_JM_max ml_JM_max) mw_JM_max mi_JM (Nat.le_of_ble_eq_true rfl) (Nat.le_of_ble_eq_true rfl) (fun b4 x3 => ?_)
    refine jm_V.run (is := bk_JL_indexOf_14_3) (pc' := 17) (ls' := [(2, .int b4), (0, .ref a1), (1, .int a2), (3, .int a4)]) (st' := [.ref a1, .int a4]) (x' := x3) hok hT bk_JL_indexOf_14_3_ok rfl ?_
    refine jm_V.tlen (lo := 3000) (N := 73) (len := fun i => (st_b.getD i []).length) (f := fun i j => .int ((st_b.getD i []).getD j 0)) hok cs_bytes dd_JL_indexOf_17 ?_
    refine jm_V.callI (av := [.int a4, .int (Int32.ofNat (st_b.getD (a1 - 3000) []).length)]) (rest := []) hok (jm_Con.mono (c_JM_min_ii (d0 := d0) hok hrec a4 (Int32.ofNat (st_b.getD (a1 - 3000) []).length) x3) (by omega)) (jm_Inv.stat dd_JL_indexOf_18 (Or.inl lk_JL_38) mq_JM_min_ii mi_JM mw_JM_min_ii mh_JM_min_ii ml_JM_min_ii) mw_JM_min_ii mi_JM (Nat.le_of_ble_eq_true rfl) (Nat.le_of_ble_eq_true rfl) (fun b6 x5 => ?_)
    refine jm_V.run (is := bk_JL_indexOf_21_4) (pc' := (if b4 < b6 then 29 else 27)) (ls' := [(3, .int b6), (2, .int b4), (0, .ref a1), (1, .int a2)]) (st' := []) (x' := x5) hok hT bk_JL_indexOf_21_4_ok rfl ?_
    refine jm_V.ite (fun _ => ?_) (fun _ => ?_)
    · refine jm_V.run (is := bk_JL_indexOf_29_4) (pc' := 33) (ls' := [(3, .int b6), (2, .int b4), (0, .ref a1), (1, .int a2)]) (st' := [.int b6, .int b4, .int a2, .ref a1]) (x' := x5) hok hT bk_JL_indexOf_29_4_ok rfl ?_
      refine jm_V.callI (av := [.ref a1, .int a2, .int b4, .int b6]) (rest := []) hok (jm_Con.mono (c_JL_indexOfChar (d0 := d0) hok hrec a1 a2 b4 b6 x5) (by omega)) (jm_Inv.stat dd_JL_indexOf_33 (Or.inl lk_JL_95) mq_JL_indexOfChar mi_JL mw_JL_indexOfChar mh_JL_indexOfChar ml_JL_indexOfChar) mw_JL_indexOfChar mi_JL (Nat.le_of_ble_eq_true rfl) (Nat.le_of_ble_eq_true rfl) (fun b8 x7 => ?_)
      exact jm_V.iret rfl dd_JL_indexOf_36
    · refine jm_V.run (is := bk_JL_indexOf_27_1) (pc' := 28) (ls' := [(3, .int b6), (2, .int b4), (0, .ref a1), (1, .int a2)]) (st' := [.int (-1)]) (x' := x5) hok hT bk_JL_indexOf_27_1_ok rfl ?_
      exact jm_V.iret rfl dd_JL_indexOf_28
def J_JS_indexOf_ii_36 (K : Nat) (g : jm_Rec) (s0 : Int32) (x : jm_X) : Option jm_R := some (.inl (some (.int s0), x))
set_option maxRecDepth 100000 in
set_option maxHeartbeats 4000000 in
theorem jj_JS_indexOf_ii_36 {l : Launch} {D : va_G} {cl : List vw_C} {ad : Nat → Nat} {aC : Nat → ClassId} {sh : List jm_S} {b0 ec : Nat} {K d0 : Nat} {g : jm_Rec} (hok : jm_Ok (jm_PP l D cl ad aC sh b0 ec)) {QQ : Prop} (hrec : QQ) (s0 : Int32) (x : jm_X) : jm_V (jm_PP l D cl ad aC sh b0 ec) mt_JS_indexOf_ii (d0 + 3) 36 [] [.int s0] x (J_JS_indexOf_ii_36 K g s0 x) := by
  have hT := tk_JS (l := l) (D := D) (ad := ad) (aC := aC) (b0 := b0) (cl := cl) (sh := sh) (ec := ec)
  unfold J_JS_indexOf_ii_36
  exact jm_V.iret rfl dd_JS_indexOf_ii_36
def f_JS_indexOf_ii (K : Nat) (g : jm_Rec) (a0 : Nat) (a1 : Int32) (a2 : Int32) (x : jm_X) : Option jm_R := (if jm_cn 2000 73 a0 then jm_bI (f_JS_isLatin1 K g a0 x) (fun b2 x1 => (if b2 = 0 then (if jm_cn 2000 73 a0 then (if jm_cn 2000 73 a0 then jm_bI (f_JS_length K g a0 x1) (fun b4 x3 => none) else none) else none) else (if jm_cn 2000 73 a0 then (if jm_cn 2000 73 a0 then jm_bI (f_JS_length K g a0 x1) (fun b6 x5 => jm_bI (f_JL_indexOf K g (3000 + (a0 - 2000)) a1 a2 b6 x5) (fun b8 x7 => J_JS_indexOf_ii_36 K g b8 x7)) else none) else none))) else none)
set_option maxRecDepth 100000 in
set_option maxHeartbeats 4000000 in
theorem c_JS_indexOf_ii {l : Launch} {D : va_G} {cl : List vw_C} {ad : Nat → Nat} {aC : Nat → ClassId} {sh : List jm_S} {b0 ec : Nat} {K d0 : Nat} {g : jm_Rec} (hok : jm_Ok (jm_PP l D cl ad aC sh b0 ec)) {QQ : Prop} (hrec : QQ) (a0 : Nat) (a1 : Int32) (a2 : Int32) (x : jm_X) : jm_Con (jm_PP l D cl ad aC sh b0 ec) mt_JS_indexOf_ii (d0 + 3) [.ref a0, .int a1, .int a2] x (f_JS_indexOf_ii K g a0 a1 a2 x) := by
  refine jm_Con.of (plainFor_of_name (by decide +kernel)) (Nat.le_of_ble_eq_true rfl) ?_
  have hT := tk_JS (l := l) (D := D) (ad := ad) (aC := aC) (b0 := b0) (cl := cl) (sh := sh) (ec := ec)
  unfold f_JS_indexOf_ii
  show jm_V _ _ _ 0 [(0, .ref a0), (1, .int a1), (2, .int a2)] [] x _
  refine jm_V.run (is := bk_JS_indexOf_ii_0_1) (pc' := 1) (ls' := [(0, .ref a0), (1, .int a1), (2, .int a2)]) (st' := [.ref a0]) (x' := x) hok hT bk_JS_indexOf_ii_0_1_ok rfl ?_
  refine jm_V.guard (fun hg => ?_)
  refine jm_V.callI (av := [.ref a0]) (rest := []) hok (jm_Con.mono (c_JS_isLatin1 (d0 := d0) hok hrec a0 x) (by omega)) (iv_str hok hg dd_JS_indexOf_ii_1 lk_JS_492 mn_JS_isLatin1 ms_JS_isLatin1 mw_JS_isLatin1 mh_JS_isLatin1 ml_JS_isLatin1) mw_JS_isLatin1 mi_JS (Nat.le_of_ble_eq_true rfl) (Nat.le_of_ble_eq_true rfl) (fun b2 x1 => ?_)
  refine jm_V.run (is := bk_JS_indexOf_ii_4_1) (pc' := (if b2 = 0 then 23 else 7)) (ls' := [(0, .ref a0), (1, .int a1), (2, .int a2)]) (st' := []) (x' := x1) hok hT bk_JS_indexOf_ii_4_1_ok rfl ?_
  refine jm_V.ite (fun _ => ?_) (fun _ => ?_)
  · refine jm_V.run (is := bk_JS_indexOf_ii_23_1) (pc' := 24) (ls' := [(0, .ref a0), (1, .int a1), (2, .int a2)]) (st' := [.ref a0]) (x' := x1) hok hT bk_JS_indexOf_ii_23_1_ok rfl ?_
    refine jm_V.getC (v := fun i => .ref (3000 + i)) hok cs_value (Or.inl lf_JS_9) dd_JS_indexOf_ii_24 ?_
    refine jm_V.run (is := bk_JS_indexOf_ii_27_3) (pc' := 30) (ls' := [(0, .ref a0), (1, .int a1), (2, .int a2)]) (st' := [.ref a0, .int a2, .int a1, .ref (3000 + (a0 - 2000))]) (x' := x1) hok hT bk_JS_indexOf_ii_27_3_ok rfl ?_
    refine jm_V.guard (fun hg => ?_)
    refine jm_V.callI (av := [.ref a0]) (rest := [.int a2, .int a1, .ref (3000 + (a0 - 2000))]) hok (jm_Con.mono (c_JS_length (d0 := d0) hok hrec a0 x1) (by omega)) (iv_str hok hg dd_JS_indexOf_ii_30 lk_JS_505 mn_JS_length ms_JS_length mw_JS_length mh_JS_length ml_JS_length) mw_JS_length mi_JS (Nat.le_of_ble_eq_true rfl) (Nat.le_of_ble_eq_true rfl) (fun b4 x3 => ?_)
    exact jm_V.stuck
  · refine jm_V.run (is := bk_JS_indexOf_ii_7_1) (pc' := 8) (ls' := [(0, .ref a0), (1, .int a1), (2, .int a2)]) (st' := [.ref a0]) (x' := x1) hok hT bk_JS_indexOf_ii_7_1_ok rfl ?_
    refine jm_V.getC (v := fun i => .ref (3000 + i)) hok cs_value (Or.inl lf_JS_9) dd_JS_indexOf_ii_8 ?_
    refine jm_V.run (is := bk_JS_indexOf_ii_11_3) (pc' := 14) (ls' := [(0, .ref a0), (1, .int a1), (2, .int a2)]) (st' := [.ref a0, .int a2, .int a1, .ref (3000 + (a0 - 2000))]) (x' := x1) hok hT bk_JS_indexOf_ii_11_3_ok rfl ?_
    refine jm_V.guard (fun hg => ?_)
    refine jm_V.callI (av := [.ref a0]) (rest := [.int a2, .int a1, .ref (3000 + (a0 - 2000))]) hok (jm_Con.mono (c_JS_length (d0 := d0) hok hrec a0 x1) (by omega)) (iv_str hok hg dd_JS_indexOf_ii_14 lk_JS_505 mn_JS_length ms_JS_length mw_JS_length mh_JS_length ml_JS_length) mw_JS_length mi_JS (Nat.le_of_ble_eq_true rfl) (Nat.le_of_ble_eq_true rfl) (fun b6 x5 => ?_)
    refine jm_V.callI (av := [.ref (3000 + (a0 - 2000)), .int a1, .int a2, .int b6]) (rest := []) hok (jm_Con.mono (c_JL_indexOf (d0 := d0) hok hrec (3000 + (a0 - 2000)) a1 a2 b6 x5) (by omega)) (jm_Inv.stat dd_JS_indexOf_ii_17 (Or.inl lk_JS_637) mq_JL_indexOf mi_JL mw_JL_indexOf mh_JL_indexOf ml_JL_indexOf) mw_JL_indexOf mi_JL (Nat.le_of_ble_eq_true rfl) (Nat.le_of_ble_eq_true rfl) (fun b8 x7 => ?_)
    refine jm_V.run (is := bk_JS_indexOf_ii_20_1) (pc' := 36) (ls' := [(0, .ref a0), (1, .int a1), (2, .int a2)]) (st' := [.int b8]) (x' := x7) hok hT bk_JS_indexOf_ii_20_1_ok rfl ?_
    refine jm_V.sub (ls' := []) [] rfl ?_
    exact jj_JS_indexOf_ii_36 hok hrec b8 x7
def f_JS_indexOf_i (K : Nat) (g : jm_Rec) (a0 : Nat) (a1 : Int32) (x : jm_X) : Option jm_R := (if jm_cn 2000 73 a0 then jm_bI (f_JS_indexOf_ii K g a0 a1 0 x) (fun b2 x1 => some (.inl (some (.int b2), x1))) else none)
set_option maxRecDepth 100000 in
set_option maxHeartbeats 4000000 in
theorem c_JS_indexOf_i {l : Launch} {D : va_G} {cl : List vw_C} {ad : Nat → Nat} {aC : Nat → ClassId} {sh : List jm_S} {b0 ec : Nat} {K d0 : Nat} {g : jm_Rec} (hok : jm_Ok (jm_PP l D cl ad aC sh b0 ec)) {QQ : Prop} (hrec : QQ) (a0 : Nat) (a1 : Int32) (x : jm_X) : jm_Con (jm_PP l D cl ad aC sh b0 ec) mt_JS_indexOf_i (d0 + 4) [.ref a0, .int a1] x (f_JS_indexOf_i K g a0 a1 x) := by
  refine jm_Con.of (plainFor_of_name (by decide +kernel)) (Nat.le_of_ble_eq_true rfl) ?_
  have hT := tk_JS (l := l) (D := D) (ad := ad) (aC := aC) (b0 := b0) (cl := cl) (sh := sh) (ec := ec)
  unfold f_JS_indexOf_i
  show jm_V _ _ _ 0 [(0, .ref a0), (1, .int a1)] [] x _
  refine jm_V.run (is := bk_JS_indexOf_i_0_3) (pc' := 3) (ls' := [(0, .ref a0), (1, .int a1)]) (st' := [.int 0, .int a1, .ref a0]) (x' := x) hok hT bk_JS_indexOf_i_0_3_ok rfl ?_
  refine jm_V.guard (fun hg => ?_)
  refine jm_V.callI (av := [.ref a0, .int a1, .int 0]) (rest := []) hok (jm_Con.mono (c_JS_indexOf_ii (d0 := d0) hok hrec a0 a1 0 x) (by omega)) (iv_str hok hg dd_JS_indexOf_i_3 lk_JS_633 mn_JS_indexOf_ii ms_JS_indexOf_ii mw_JS_indexOf_ii mh_JS_indexOf_ii ml_JS_indexOf_ii) mw_JS_indexOf_ii mi_JS (Nat.le_of_ble_eq_true rfl) (Nat.le_of_ble_eq_true rfl) (fun b2 x1 => ?_)
  exact jm_V.iret rfl dd_JS_indexOf_i_6

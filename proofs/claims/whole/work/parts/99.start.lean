/-! THE START: the constants, out of what the Statement gives. Printed by wip/whole/printS.py. -/
def nrw : List Cond := flatC (Cond.and given_1 narrow_1)
def sg_nm : List String := ["END", "NO_SIGN", "NAME", "FIELD", "VARIABLE", "NUMBER", "STRING", "DOT", "DOTS", "QUESTION", "COLON", "SEMICOLON", "ROUND_OPEN", "ROUND_CLOSE", "SQUARE_OPEN", "SQUARE_CLOSE", "CURLY_OPEN", "CURLY_CLOSE", "AS", "BREAK", "CATCH", "DEF", "ELIF", "ELSE", "END_WORD", "FOREACH", "IF", "LABEL", "REDUCE", "THEN", "TRY", "PIPE", "COMMA", "ALTERNATIVE", "ASSIGN", "ASSIGN_PIPE", "ASSIGN_PLUS", "ASSIGN_MINUS", "ASSIGN_TIMES", "ASSIGN_OVER", "ASSIGN_MODULO", "ASSIGN_ALTERNATIVE", "OR", "AND", "EQUAL", "UNEQUAL", "LESS", "AT_MOST", "MORE", "AT_LEAST", "PLUS", "MINUS", "TIMES", "OVER", "MODULO"]
def psS : List Nat := [4, 18, 89, 95, 101, 12, 207, 231, 291, 243, 131, 119, 113, 125, 237, 213, 255, 219, 249, 297, 285, 107, 267, 273, 279, 303, 309, 137, 315, 261, 321, 143, 225, 327, 333, 339, 345, 351, 357, 363, 369, 375, 381, 387, 393, 399, 405, 411, 417, 423, 429, 435, 441, 447, 453]
def psT : List Nat := [495, 605, 669, 687, 694, 700, 709, 718, 725, 733, 741, 748, 759, 765, 774, 780, 790, 798, 805, 916, 981, 1000, 1012, 1016, 1021, 1029, 1034, 1039, 1044, 1049, 1059, 1064, 1069, 1074, 1079, 1084, 1089, 1094, 1099, 1106, 1111, 1120, 1129, 1138, 1146, 1156, 1162, 1172, 1184, 1191, 1202, 1210, 1216, 1221, 1227, 1233, 1239, 1245, 1251, 1257, 1264, 1271, 1279, 1285, 1291, 1296, 1302, 1307, 1313, 1318, 1323, 1328, 1333]
def psL : List Nat := [46, 289, 358, 360, 362, 287, 504, 619, 1097, 628, 467, 455, 444, 461, 621, 547, 644, 557, 634, 1098, 677, 381, 671, 673, 675, 1099, 1100, 476, 1101, 669, 1102, 482, 591, 1103, 1104, 1105, 1106, 1107, 1108, 1109, 1110, 1111, 1112, 1113, 1114, 1115, 1116, 1117, 1118, 1119, 1120, 1121, 1122, 1123, 1124, 304, 488, 314]
def psI : List Nat := [5, 5, 5, 5, 5, 5, 5, 5, 5, 5, 5, 5, 5, 5, 5, 5, 5, 5, 5, 5, 5, 5, 5, 5, 5, 5, 5, 5, 5, 5, 5, 5, 5, 5, 5, 5, 5, 5, 5, 5, 5, 5, 5, 5, 5, 5, 5, 5, 5, 5, 5, 5, 5, 5, 5, 5, 22, 17]
def psR : List Nat := [604, 612, 613, 705, 706, 707, 708, 709, 710, 711, 712, 713, 714, 715, 716, 717, 718, 719, 720, 721, 722, 960, 1048, 1096, 1125, 1126, 1127, 1128, 1129, 1130, 1131, 1132, 1133, 1134, 1135, 1136, 1137, 1138, 1139, 1140, 1141, 1142, 1143, 1144, 1145, 1146, 1147, 1148, 1149, 1150, 1151, 1152, 1153, 1154, 1155, 1156, 1157, 1158, 1159, 1160, 1161, 1162, 1163, 1164, 1165, 1166, 1167, 1168, 1169, 1170, 1171, 1172, 1173]
abbrev tmG (i : Nat) : Term := .static "FilterReader$Sign" (sg_nm.getD i "") "LFilterReader$Sign;"
abbrev tmS (i : Nat) : Term := .string (srA.getD i ("", 0, "", 0)).1 (srA.getD i ("", 0, "", 0)).2.1
abbrev tmB (i : Nat) : Term := .field (tmS i) "java/lang/String" "value" "[B"
abbrev tmL : Term := .static "FilterReader$Sign" "ALL" "[LFilterReader$Sign;"
abbrev tmW : Term := .static "FilterReader$1" "$SwitchMap$FilterReader$Sign" "[I"
set_option maxRecDepth 100000 in
theorem nr_ex : ∀ i, i < 55 → nrw[psS.getD i 0]? = some (Cond.exactly (tmG i) "FilterReader$Sign") := by decide +kernel
set_option maxRecDepth 100000 in
theorem nr_or : ∀ i, i < 55 → nrw[psS.getD i 0 + 1]? = some (Cond.eq (.field (tmG i) "java/lang/Enum" "ordinal" "I") (.int (Int32.ofNat i))) := by decide +kernel
set_option maxRecDepth 100000 in
theorem nr_tx : ∀ i, i < 55 → nrw[psS.getD i 0 + 2]? = some (Cond.eq (.field (tmG i) "FilterReader$Sign" "text" "Ljava/lang/String;") (tmS (sg_txt.getD i 0))) ∧ sg_txt.getD i 0 < 73 := by decide +kernel
set_option maxRecDepth 100000 in
theorem nr_wd : ∀ i, i < 55 → nrw[psS.getD i 0 + 3]? = some (Cond.eq (.field (tmG i) "FilterReader$Sign" "word" "Z") (.int (sg_word.getD i 0))) := by decide +kernel
set_option maxRecDepth 100000 in
theorem nr_lv : ∀ i, i < 55 → nrw[psS.getD i 0 + 4]? = some (Cond.eq (.field (tmG i) "FilterReader$Sign" "level" "I") (.int (sg_level.getD i 0))) := by decide +kernel
set_option maxRecDepth 100000 in
theorem nr_kd : ∀ i, i < 55 → nrw[psS.getD i 0 + 5]? = some (Cond.eq (.field (tmG i) "FilterReader$Sign" "kind" "I") (.int (sg_kind.getD i 0))) := by decide +kernel
set_option maxRecDepth 100000 in
theorem nr_sx : ∀ i, i < 73 → nrw[psT.getD i 0]? = some (Cond.exactly (tmS i) "java/lang/String") := by decide +kernel
set_option maxRecDepth 100000 in
theorem nr_sc : ∀ i, i < 73 → nrw[psT.getD i 0 + 1]? = some (Cond.eq (.field (tmS i) "java/lang/String" "coder" "B") (.int 0)) := by decide +kernel
set_option maxRecDepth 100000 in
theorem nr_sa : ∀ i, i < 73 → nrw[psT.getD i 0 + 2]? = some (Cond.arrayOf (tmB i) .byte) := by decide +kernel
set_option maxRecDepth 100000 in
theorem nr_sl : ∀ i, i < 73 → nrw[psT.getD i 0 + 3]? = some (Cond.eq (.length (tmB i)) (.int (Int32.ofNat (st_b.getD i []).length))) ∧ (st_b.getD i []).length < 2 ^ 31 := by decide +kernel
set_option maxRecDepth 100000 in
theorem nr_se : ∀ i, i < 73 → ∀ j, j < (st_b.getD i []).length → nrw[psT.getD i 0 + 4 + j]? = some (Cond.eq (.elem (tmB i) (.int (Int32.ofNat j))) (.int ((st_b.getD i []).getD j 0))) := by decide +kernel
set_option maxRecDepth 100000 in
theorem nr_al : nrw[26]? = some (Cond.arrayOf tmL (.object "FilterReader$Sign")) ∧ nrw[27]? = some (Cond.eq (.length tmL) (.int (Int32.ofNat 55))) ∧ ∀ j, j < 55 → nrw[29 + j]? = some (Cond.eq (.elem tmL (.int (Int32.ofNat j))) (tmG j)) := by decide +kernel
set_option maxRecDepth 100000 in
theorem nr_sw : nrw[150]? = some (Cond.arrayOf tmW .int) ∧ nrw[151]? = some (Cond.eq (.length tmW) (.int (Int32.ofNat 55))) ∧ ∀ j, j < 55 → nrw[152 + j]? = some (Cond.eq (.elem tmW (.int (Int32.ofNat j))) (.int (sg_swm.getD j 0))) := by decide +kernel
set_option maxRecDepth 100000 in
theorem nr_cs : nrw[84]? = some (Cond.eq (.static "java/lang/String" "COMPACT_STRINGS" "Z") (.int 1)) ∧ nrw[10]? = some (Cond.isRef (.static Bundle.tN "UNASSIGNED_STACK" Bundle.steD)) ∧ nrw[11]? = some (Cond.isRef (.static Bundle.tN "SUPPRESSED_SENTINEL" Bundle.listD)) ∧ nrw[85]? = some (Cond.isRef (.static "jdk/internal/util/Preconditions" "SIOOBE_FORMATTER" "Ljava/util/function/BiFunction;")) := by decide +kernel
set_option maxRecDepth 100000 in
theorem nr_ly : ∀ i, i < 58 → ∀ q, stA[i]? = some q → tables_1[psL.getD i 0]? = some (Cond.laysStatic q.1 q.2.1 q.2.2.1) ∧ tables_1[psI.getD i 0]? = some (Cond.initialized q.1) := by
  intro i hi q hq
  have key : ∀ i, i < 58 → (match stA[i]? with | some q => decide (tables_1[psL.getD i 0]? = some (Cond.laysStatic q.1 q.2.1 q.2.2.1) ∧ tables_1[psI.getD i 0]? = some (Cond.initialized q.1)) | none => false) = true := by decide +kernel
  have := key i hi
  rw [hq] at this
  exact of_decide_eq_true this
set_option maxRecDepth 100000 in
theorem nr_ot : tables_1[163]? = some (Cond.laysStatic Bundle.tN "UNASSIGNED_STACK" Bundle.steD) ∧ tables_1[165]? = some (Cond.laysStatic Bundle.tN "SUPPRESSED_SENTINEL" Bundle.listD) ∧ tables_1[8]? = some (Cond.initialized Bundle.tN) ∧
  tables_1[334]? = some (Cond.laysStatic "jdk/internal/util/Preconditions" "SIOOBE_FORMATTER" "Ljava/util/function/BiFunction;") ∧ tables_1[19]? = some (Cond.initialized "jdk/internal/util/Preconditions") := by decide +kernel
set_option maxRecDepth 100000 in
theorem nr_sr : ∀ i, i < 73 → tables_1[psR.getD i 0]? = some (Cond.stringRef (srA.getD i ("", 0, "", 0)).1 (srA.getD i ("", 0, "", 0)).2.1 (srA.getD i ("", 0, "", 0)).2.2.1) ∧ (srA.getD i ("", 0, "", 0)).2.2.2 = i := by decide +kernel

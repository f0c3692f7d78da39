/-! THE REFERENCE: methods. Printed by wip/whole/printR.py. -/
abbrev bk_M_sign_0_1 : List (Nat × Instr × Nat) := [(0, .iload_n 1, 1)]
theorem bk_M_sign_0_1_ok : jm_at mt_M_sign.2.1 bk_M_sign_0_1 = true := by decide +kernel
abbrev bk_M_sign_537_4 : List (Nat × Instr × Nat) := [(537, .aload_n 0, 1), (538, .iload_n 2, 1), (539, .bipush 61, 2), (541, .if_icmp .ne 8, 3)]
theorem bk_M_sign_537_4_ok : jm_at mt_M_sign.2.1 bk_M_sign_537_4 = true := by decide +kernel
abbrev bk_M_sign_544_2 : List (Nat × Instr × Nat) := [(544, .bipush 10, 2), (546, .goto 5, 3)]
theorem bk_M_sign_544_2_ok : jm_at mt_M_sign.2.1 bk_M_sign_544_2 = true := by decide +kernel
abbrev bk_M_sign_549_1 : List (Nat × Instr × Nat) := [(549, .bipush 25, 2)]
theorem bk_M_sign_549_1_ok : jm_at mt_M_sign.2.1 bk_M_sign_549_1 = true := by decide +kernel
abbrev bk_M_sign_388_3 : List (Nat × Instr × Nat) := [(388, .aload_n 0, 1), (389, .iconst 5, 1), (390, .iconst 1, 1)]
theorem bk_M_sign_388_3_ok : jm_at mt_M_sign.2.1 bk_M_sign_388_3 = true := by decide +kernel
abbrev bk_M_sign_394_1 : List (Nat × Instr × Nat) := [(394, .goto 374, 3)]
theorem bk_M_sign_394_1_ok : jm_at mt_M_sign.2.1 bk_M_sign_394_1 = true := by decide +kernel
abbrev bk_M_sign_761_3 : List (Nat × Instr × Nat) := [(761, .aload_n 0, 1), (762, .bipush 25, 2), (764, .iconst 1, 1)]
theorem bk_M_sign_761_3_ok : jm_at mt_M_sign.2.1 bk_M_sign_761_3 = true := by decide +kernel
abbrev bk_M_sign_640_4 : List (Nat × Instr × Nat) := [(640, .aload_n 0, 1), (641, .iload_n 2, 1), (642, .bipush 61, 2), (644, .if_icmp .ne 8, 3)]
theorem bk_M_sign_640_4_ok : jm_at mt_M_sign.2.1 bk_M_sign_640_4 = true := by decide +kernel
abbrev bk_M_sign_647_2 : List (Nat × Instr × Nat) := [(647, .bipush 9, 2), (649, .goto 5, 3)]
theorem bk_M_sign_647_2_ok : jm_at mt_M_sign.2.1 bk_M_sign_647_2 = true := by decide +kernel
abbrev bk_M_sign_652_1 : List (Nat × Instr × Nat) := [(652, .bipush 13, 2)]
theorem bk_M_sign_652_1_ok : jm_at mt_M_sign.2.1 bk_M_sign_652_1 = true := by decide +kernel
abbrev bk_M_sign_671_3 : List (Nat × Instr × Nat) := [(671, .aload_n 0, 1), (672, .bipush 16, 2), (674, .iconst 1, 1)]
theorem bk_M_sign_671_3_ok : jm_at mt_M_sign.2.1 bk_M_sign_671_3 = true := by decide +kernel
abbrev bk_M_sign_678_1 : List (Nat × Instr × Nat) := [(678, .goto 90, 3)]
theorem bk_M_sign_678_1_ok : jm_at mt_M_sign.2.1 bk_M_sign_678_1 = true := by decide +kernel
abbrev bk_M_sign_681_3 : List (Nat × Instr × Nat) := [(681, .aload_n 0, 1), (682, .bipush 17, 2), (684, .iconst 1, 1)]
theorem bk_M_sign_681_3_ok : jm_at mt_M_sign.2.1 bk_M_sign_681_3 = true := by decide +kernel
abbrev bk_M_sign_688_1 : List (Nat × Instr × Nat) := [(688, .goto 80, 3)]
theorem bk_M_sign_688_1_ok : jm_at mt_M_sign.2.1 bk_M_sign_688_1 = true := by decide +kernel
abbrev bk_M_sign_578_4 : List (Nat × Instr × Nat) := [(578, .aload_n 0, 1), (579, .iload_n 2, 1), (580, .bipush 61, 2), (582, .if_icmp .ne 8, 3)]
theorem bk_M_sign_578_4_ok : jm_at mt_M_sign.2.1 bk_M_sign_578_4 = true := by decide +kernel
abbrev bk_M_sign_585_2 : List (Nat × Instr × Nat) := [(585, .bipush 9, 2), (587, .goto 5, 3)]
theorem bk_M_sign_585_2_ok : jm_at mt_M_sign.2.1 bk_M_sign_585_2 = true := by decide +kernel
abbrev bk_M_sign_590_1 : List (Nat × Instr × Nat) := [(590, .bipush 11, 2)]
theorem bk_M_sign_590_1_ok : jm_at mt_M_sign.2.1 bk_M_sign_590_1 = true := by decide +kernel
abbrev bk_M_sign_428_3 : List (Nat × Instr × Nat) := [(428, .aload_n 0, 1), (429, .bipush 7, 2), (431, .iconst 1, 1)]
theorem bk_M_sign_428_3_ok : jm_at mt_M_sign.2.1 bk_M_sign_428_3 = true := by decide +kernel
abbrev bk_M_sign_435_1 : List (Nat × Instr × Nat) := [(435, .goto 333, 3)]
theorem bk_M_sign_435_1_ok : jm_at mt_M_sign.2.1 bk_M_sign_435_1 = true := by decide +kernel
abbrev bk_M_sign_609_4 : List (Nat × Instr × Nat) := [(609, .aload_n 0, 1), (610, .iload_n 2, 1), (611, .bipush 61, 2), (613, .if_icmp .ne 8, 3)]
theorem bk_M_sign_609_4_ok : jm_at mt_M_sign.2.1 bk_M_sign_609_4 = true := by decide +kernel
abbrev bk_M_sign_616_2 : List (Nat × Instr × Nat) := [(616, .bipush 9, 2), (618, .goto 5, 3)]
theorem bk_M_sign_616_2_ok : jm_at mt_M_sign.2.1 bk_M_sign_616_2 = true := by decide +kernel
abbrev bk_M_sign_621_1 : List (Nat × Instr × Nat) := [(621, .bipush 12, 2)]
theorem bk_M_sign_621_1_ok : jm_at mt_M_sign.2.1 bk_M_sign_621_1 = true := by decide +kernel
abbrev bk_M_sign_438_3 : List (Nat × Instr × Nat) := [(438, .iload_n 2, 1), (439, .bipush 47, 2), (441, .if_icmp .ne 34, 3)]
theorem bk_M_sign_438_3_ok : jm_at mt_M_sign.2.1 bk_M_sign_438_3 = true := by decide +kernel
abbrev bk_M_sign_444_4 : List (Nat × Instr × Nat) := [(444, .aload_n 0, 1), (445, .iload_n 3, 1), (446, .bipush 61, 2), (448, .if_icmp .ne 8, 3)]
theorem bk_M_sign_444_4_ok : jm_at mt_M_sign.2.1 bk_M_sign_444_4 = true := by decide +kernel
abbrev bk_M_sign_451_2 : List (Nat × Instr × Nat) := [(451, .bipush 9, 2), (453, .goto 5, 3)]
theorem bk_M_sign_451_2_ok : jm_at mt_M_sign.2.1 bk_M_sign_451_2 = true := by decide +kernel
abbrev bk_M_sign_456_1 : List (Nat × Instr × Nat) := [(456, .bipush 8, 2)]
theorem bk_M_sign_456_1_ok : jm_at mt_M_sign.2.1 bk_M_sign_456_1 = true := by decide +kernel
abbrev bk_M_sign_475_4 : List (Nat × Instr × Nat) := [(475, .aload_n 0, 1), (476, .iload_n 2, 1), (477, .bipush 61, 2), (479, .if_icmp .ne 8, 3)]
theorem bk_M_sign_475_4_ok : jm_at mt_M_sign.2.1 bk_M_sign_475_4 = true := by decide +kernel
abbrev bk_M_sign_482_2 : List (Nat × Instr × Nat) := [(482, .bipush 9, 2), (484, .goto 5, 3)]
theorem bk_M_sign_482_2_ok : jm_at mt_M_sign.2.1 bk_M_sign_482_2 = true := by decide +kernel
abbrev bk_M_sign_487_1 : List (Nat × Instr × Nat) := [(487, .bipush 13, 2)]
theorem bk_M_sign_487_1_ok : jm_at mt_M_sign.2.1 bk_M_sign_487_1 = true := by decide +kernel
abbrev bk_M_sign_731_3 : List (Nat × Instr × Nat) := [(731, .aload_n 0, 1), (732, .bipush 22, 2), (734, .iconst 1, 1)]
theorem bk_M_sign_731_3_ok : jm_at mt_M_sign.2.1 bk_M_sign_731_3 = true := by decide +kernel
abbrev bk_M_sign_738_1 : List (Nat × Instr × Nat) := [(738, .goto 30, 3)]
theorem bk_M_sign_738_1_ok : jm_at mt_M_sign.2.1 bk_M_sign_738_1 = true := by decide +kernel
abbrev bk_M_sign_741_3 : List (Nat × Instr × Nat) := [(741, .aload_n 0, 1), (742, .bipush 23, 2), (744, .iconst 1, 1)]
theorem bk_M_sign_741_3_ok : jm_at mt_M_sign.2.1 bk_M_sign_741_3 = true := by decide +kernel
abbrev bk_M_sign_748_1 : List (Nat × Instr × Nat) := [(748, .goto 20, 3)]
theorem bk_M_sign_748_1_ok : jm_at mt_M_sign.2.1 bk_M_sign_748_1 = true := by decide +kernel
abbrev bk_M_sign_558_5 : List (Nat × Instr × Nat) := [(558, .aload_n 0, 1), (559, .bipush 10, 2), (561, .iload_n 2, 1), (562, .bipush 61, 2), (564, .if_icmp .ne 7, 3)]
theorem bk_M_sign_558_5_ok : jm_at mt_M_sign.2.1 bk_M_sign_558_5 = true := by decide +kernel
abbrev bk_M_sign_567_2 : List (Nat × Instr × Nat) := [(567, .iconst 2, 1), (568, .goto 4, 3)]
theorem bk_M_sign_567_2_ok : jm_at mt_M_sign.2.1 bk_M_sign_567_2 = true := by decide +kernel
abbrev bk_M_sign_571_1 : List (Nat × Instr × Nat) := [(571, .iconst 1, 1)]
theorem bk_M_sign_571_1_ok : jm_at mt_M_sign.2.1 bk_M_sign_571_1 = true := by decide +kernel
abbrev bk_M_sign_506_4 : List (Nat × Instr × Nat) := [(506, .aload_n 0, 1), (507, .iload_n 2, 1), (508, .bipush 61, 2), (510, .if_icmp .ne 8, 3)]
theorem bk_M_sign_506_4_ok : jm_at mt_M_sign.2.1 bk_M_sign_506_4 = true := by decide +kernel
abbrev bk_M_sign_513_2 : List (Nat × Instr × Nat) := [(513, .bipush 10, 2), (515, .goto 5, 3)]
theorem bk_M_sign_513_2_ok : jm_at mt_M_sign.2.1 bk_M_sign_513_2 = true := by decide +kernel
abbrev bk_M_sign_518_1 : List (Nat × Instr × Nat) := [(518, .bipush 9, 2)]
theorem bk_M_sign_518_1_ok : jm_at mt_M_sign.2.1 bk_M_sign_518_1 = true := by decide +kernel
abbrev bk_M_sign_751_3 : List (Nat × Instr × Nat) := [(751, .aload_n 0, 1), (752, .bipush 24, 2), (754, .iconst 1, 1)]
theorem bk_M_sign_751_3_ok : jm_at mt_M_sign.2.1 bk_M_sign_751_3 = true := by decide +kernel
abbrev bk_M_sign_758_1 : List (Nat × Instr × Nat) := [(758, .goto 10, 3)]
theorem bk_M_sign_758_1_ok : jm_at mt_M_sign.2.1 bk_M_sign_758_1 = true := by decide +kernel
abbrev bk_M_sign_691_3 : List (Nat × Instr × Nat) := [(691, .aload_n 0, 1), (692, .bipush 18, 2), (694, .iconst 1, 1)]
theorem bk_M_sign_691_3_ok : jm_at mt_M_sign.2.1 bk_M_sign_691_3 = true := by decide +kernel
abbrev bk_M_sign_698_1 : List (Nat × Instr × Nat) := [(698, .goto 70, 3)]
theorem bk_M_sign_698_1_ok : jm_at mt_M_sign.2.1 bk_M_sign_698_1 = true := by decide +kernel
abbrev bk_M_sign_701_3 : List (Nat × Instr × Nat) := [(701, .aload_n 0, 1), (702, .bipush 19, 2), (704, .iconst 1, 1)]
theorem bk_M_sign_701_3_ok : jm_at mt_M_sign.2.1 bk_M_sign_701_3 = true := by decide +kernel
abbrev bk_M_sign_708_1 : List (Nat × Instr × Nat) := [(708, .goto 60, 3)]
theorem bk_M_sign_708_1_ok : jm_at mt_M_sign.2.1 bk_M_sign_708_1 = true := by decide +kernel
abbrev bk_M_sign_711_3 : List (Nat × Instr × Nat) := [(711, .aload_n 0, 1), (712, .bipush 20, 2), (714, .iconst 1, 1)]
theorem bk_M_sign_711_3_ok : jm_at mt_M_sign.2.1 bk_M_sign_711_3 = true := by decide +kernel
abbrev bk_M_sign_718_1 : List (Nat × Instr × Nat) := [(718, .goto 50, 3)]
theorem bk_M_sign_718_1_ok : jm_at mt_M_sign.2.1 bk_M_sign_718_1 = true := by decide +kernel
abbrev bk_M_sign_397_4 : List (Nat × Instr × Nat) := [(397, .aload_n 0, 1), (398, .iload_n 2, 1), (399, .bipush 61, 2), (401, .if_icmp .ne 8, 3)]
theorem bk_M_sign_397_4_ok : jm_at mt_M_sign.2.1 bk_M_sign_397_4 = true := by decide +kernel
abbrev bk_M_sign_404_2 : List (Nat × Instr × Nat) := [(404, .bipush 9, 2), (406, .goto 5, 3)]
theorem bk_M_sign_404_2_ok : jm_at mt_M_sign.2.1 bk_M_sign_404_2 = true := by decide +kernel
abbrev bk_M_sign_409_1 : List (Nat × Instr × Nat) := [(409, .bipush 6, 2)]
theorem bk_M_sign_409_1_ok : jm_at mt_M_sign.2.1 bk_M_sign_409_1 = true := by decide +kernel
abbrev bk_M_sign_721_3 : List (Nat × Instr × Nat) := [(721, .aload_n 0, 1), (722, .bipush 21, 2), (724, .iconst 1, 1)]
theorem bk_M_sign_721_3_ok : jm_at mt_M_sign.2.1 bk_M_sign_721_3 = true := by decide +kernel
abbrev bk_M_sign_728_1 : List (Nat × Instr × Nat) := [(728, .goto 40, 3)]
theorem bk_M_sign_728_1_ok : jm_at mt_M_sign.2.1 bk_M_sign_728_1 = true := by decide +kernel
abbrev bk_M_sign_411_3 : List (Nat × Instr × Nat) := [(411, .iload_n 2, 1), (412, .bipush 61, 2), (414, .if_icmp .ne 7, 3)]
theorem bk_M_sign_411_3_ok : jm_at mt_M_sign.2.1 bk_M_sign_411_3 = true := by decide +kernel
abbrev bk_M_sign_417_2 : List (Nat × Instr × Nat) := [(417, .iconst 2, 1), (418, .goto 4, 3)]
theorem bk_M_sign_417_2_ok : jm_at mt_M_sign.2.1 bk_M_sign_417_2 = true := by decide +kernel
abbrev bk_M_sign_421_1 : List (Nat × Instr × Nat) := [(421, .iconst 1, 1)]
theorem bk_M_sign_421_1_ok : jm_at mt_M_sign.2.1 bk_M_sign_421_1 = true := by decide +kernel
abbrev bk_M_sign_425_1 : List (Nat × Instr × Nat) := [(425, .goto 343, 3)]
theorem bk_M_sign_425_1_ok : jm_at mt_M_sign.2.1 bk_M_sign_425_1 = true := by decide +kernel
abbrev bk_M_sign_458_3 : List (Nat × Instr × Nat) := [(458, .iload_n 3, 1), (459, .bipush 61, 2), (461, .if_icmp .ne 7, 3)]
theorem bk_M_sign_458_3_ok : jm_at mt_M_sign.2.1 bk_M_sign_458_3 = true := by decide +kernel
abbrev bk_M_sign_464_2 : List (Nat × Instr × Nat) := [(464, .iconst 3, 1), (465, .goto 4, 3)]
theorem bk_M_sign_464_2_ok : jm_at mt_M_sign.2.1 bk_M_sign_464_2 = true := by decide +kernel
abbrev bk_M_sign_468_1 : List (Nat × Instr × Nat) := [(468, .iconst 2, 1)]
theorem bk_M_sign_468_1_ok : jm_at mt_M_sign.2.1 bk_M_sign_468_1 = true := by decide +kernel
abbrev bk_M_sign_472_1 : List (Nat × Instr × Nat) := [(472, .goto 296, 3)]
theorem bk_M_sign_472_1_ok : jm_at mt_M_sign.2.1 bk_M_sign_472_1 = true := by decide +kernel
abbrev bk_M_sign_489_3 : List (Nat × Instr × Nat) := [(489, .iload_n 2, 1), (490, .bipush 61, 2), (492, .if_icmp .ne 7, 3)]
theorem bk_M_sign_489_3_ok : jm_at mt_M_sign.2.1 bk_M_sign_489_3 = true := by decide +kernel
abbrev bk_M_sign_495_2 : List (Nat × Instr × Nat) := [(495, .iconst 2, 1), (496, .goto 4, 3)]
theorem bk_M_sign_495_2_ok : jm_at mt_M_sign.2.1 bk_M_sign_495_2 = true := by decide +kernel
abbrev bk_M_sign_499_1 : List (Nat × Instr × Nat) := [(499, .iconst 1, 1)]
theorem bk_M_sign_499_1_ok : jm_at mt_M_sign.2.1 bk_M_sign_499_1 = true := by decide +kernel
abbrev bk_M_sign_503_1 : List (Nat × Instr × Nat) := [(503, .goto 265, 3)]
theorem bk_M_sign_503_1_ok : jm_at mt_M_sign.2.1 bk_M_sign_503_1 = true := by decide +kernel
abbrev bk_M_sign_520_3 : List (Nat × Instr × Nat) := [(520, .iload_n 2, 1), (521, .bipush 61, 2), (523, .if_icmp .ne 7, 3)]
theorem bk_M_sign_520_3_ok : jm_at mt_M_sign.2.1 bk_M_sign_520_3 = true := by decide +kernel
abbrev bk_M_sign_526_2 : List (Nat × Instr × Nat) := [(526, .iconst 2, 1), (527, .goto 4, 3)]
theorem bk_M_sign_526_2_ok : jm_at mt_M_sign.2.1 bk_M_sign_526_2 = true := by decide +kernel
abbrev bk_M_sign_530_1 : List (Nat × Instr × Nat) := [(530, .iconst 1, 1)]
theorem bk_M_sign_530_1_ok : jm_at mt_M_sign.2.1 bk_M_sign_530_1 = true := by decide +kernel
abbrev bk_M_sign_534_1 : List (Nat × Instr × Nat) := [(534, .goto 234, 3)]
theorem bk_M_sign_534_1_ok : jm_at mt_M_sign.2.1 bk_M_sign_534_1 = true := by decide +kernel
abbrev bk_M_sign_551_1 : List (Nat × Instr × Nat) := [(551, .iconst 2, 1)]
theorem bk_M_sign_551_1_ok : jm_at mt_M_sign.2.1 bk_M_sign_551_1 = true := by decide +kernel
abbrev bk_M_sign_555_1 : List (Nat × Instr × Nat) := [(555, .goto 213, 3)]
theorem bk_M_sign_555_1_ok : jm_at mt_M_sign.2.1 bk_M_sign_555_1 = true := by decide +kernel
abbrev bk_M_sign_575_1 : List (Nat × Instr × Nat) := [(575, .goto 193, 3)]
theorem bk_M_sign_575_1_ok : jm_at mt_M_sign.2.1 bk_M_sign_575_1 = true := by decide +kernel
abbrev bk_M_sign_592_3 : List (Nat × Instr × Nat) := [(592, .iload_n 2, 1), (593, .bipush 61, 2), (595, .if_icmp .ne 7, 3)]
theorem bk_M_sign_592_3_ok : jm_at mt_M_sign.2.1 bk_M_sign_592_3 = true := by decide +kernel
abbrev bk_M_sign_598_2 : List (Nat × Instr × Nat) := [(598, .iconst 2, 1), (599, .goto 4, 3)]
theorem bk_M_sign_598_2_ok : jm_at mt_M_sign.2.1 bk_M_sign_598_2 = true := by decide +kernel
abbrev bk_M_sign_602_1 : List (Nat × Instr × Nat) := [(602, .iconst 1, 1)]
theorem bk_M_sign_602_1_ok : jm_at mt_M_sign.2.1 bk_M_sign_602_1 = true := by decide +kernel
abbrev bk_M_sign_606_1 : List (Nat × Instr × Nat) := [(606, .goto 162, 3)]
theorem bk_M_sign_606_1_ok : jm_at mt_M_sign.2.1 bk_M_sign_606_1 = true := by decide +kernel
abbrev bk_M_sign_623_3 : List (Nat × Instr × Nat) := [(623, .iload_n 2, 1), (624, .bipush 61, 2), (626, .if_icmp .ne 7, 3)]
theorem bk_M_sign_623_3_ok : jm_at mt_M_sign.2.1 bk_M_sign_623_3 = true := by decide +kernel
abbrev bk_M_sign_629_2 : List (Nat × Instr × Nat) := [(629, .iconst 2, 1), (630, .goto 4, 3)]
theorem bk_M_sign_629_2_ok : jm_at mt_M_sign.2.1 bk_M_sign_629_2 = true := by decide +kernel
abbrev bk_M_sign_633_1 : List (Nat × Instr × Nat) := [(633, .iconst 1, 1)]
theorem bk_M_sign_633_1_ok : jm_at mt_M_sign.2.1 bk_M_sign_633_1 = true := by decide +kernel
abbrev bk_M_sign_637_1 : List (Nat × Instr × Nat) := [(637, .goto 131, 3)]
theorem bk_M_sign_637_1_ok : jm_at mt_M_sign.2.1 bk_M_sign_637_1 = true := by decide +kernel
abbrev bk_M_sign_654_3 : List (Nat × Instr × Nat) := [(654, .iload_n 2, 1), (655, .bipush 61, 2), (657, .if_icmp .ne 7, 3)]
theorem bk_M_sign_654_3_ok : jm_at mt_M_sign.2.1 bk_M_sign_654_3 = true := by decide +kernel
abbrev bk_M_sign_660_2 : List (Nat × Instr × Nat) := [(660, .iconst 2, 1), (661, .goto 4, 3)]
theorem bk_M_sign_660_2_ok : jm_at mt_M_sign.2.1 bk_M_sign_660_2 = true := by decide +kernel
abbrev bk_M_sign_664_1 : List (Nat × Instr × Nat) := [(664, .iconst 1, 1)]
theorem bk_M_sign_664_1_ok : jm_at mt_M_sign.2.1 bk_M_sign_664_1 = true := by decide +kernel
abbrev bk_M_sign_668_1 : List (Nat × Instr × Nat) := [(668, .goto 100, 3)]
theorem bk_M_sign_668_1_ok : jm_at mt_M_sign.2.1 bk_M_sign_668_1 = true := by decide +kernel
theorem dd_M_sign_391 : decode mt_M_sign.2.1 391 = .ok (.invokevirtual 151, 3) := by decide +kernel
theorem dd_M_sign_765 : decode mt_M_sign.2.1 765 = .ok (.invokevirtual 151, 3) := by decide +kernel
theorem dd_M_sign_675 : decode mt_M_sign.2.1 675 = .ok (.invokevirtual 151, 3) := by decide +kernel
theorem dd_M_sign_685 : decode mt_M_sign.2.1 685 = .ok (.invokevirtual 151, 3) := by decide +kernel
theorem dd_M_sign_432 : decode mt_M_sign.2.1 432 = .ok (.invokevirtual 151, 3) := by decide +kernel
theorem dd_M_sign_735 : decode mt_M_sign.2.1 735 = .ok (.invokevirtual 151, 3) := by decide +kernel
theorem dd_M_sign_745 : decode mt_M_sign.2.1 745 = .ok (.invokevirtual 151, 3) := by decide +kernel
theorem dd_M_sign_755 : decode mt_M_sign.2.1 755 = .ok (.invokevirtual 151, 3) := by decide +kernel
theorem dd_M_sign_695 : decode mt_M_sign.2.1 695 = .ok (.invokevirtual 151, 3) := by decide +kernel
theorem dd_M_sign_705 : decode mt_M_sign.2.1 705 = .ok (.invokevirtual 151, 3) := by decide +kernel
theorem dd_M_sign_715 : decode mt_M_sign.2.1 715 = .ok (.invokevirtual 151, 3) := by decide +kernel
theorem dd_M_sign_725 : decode mt_M_sign.2.1 725 = .ok (.invokevirtual 151, 3) := by decide +kernel
theorem dd_M_sign_1 : decode mt_M_sign.2.1 1 = .ok (.tableswitch 760 33 125 #[536, 387, 760, 760, 639, 760, 760, 670, 680, 639, 577, 427, 608, 760, 437, 760, 760, 760, 760, 760, 760, 760, 760, 760, 760, 730, 740, 557, 505, 557, 750, 760, 760, 760, 760, 760, 760, 760, 760, 760, 760, 760, 760, 760, 760, 760, 760, 760, 760, 760, 760, 760, 760, 760, 760, 760, 760, 760, 690, 760, 700, 760, 760, 760, 760, 760, 760, 760, 760, 760, 760, 760, 760, 760, 760, 760, 760, 760, 760, 760, 760, 760, 760, 760, 760, 760, 760, 760, 760, 760, 710, 396, 720], 387) := by decide +kernel
theorem dd_M_sign_422 : decode mt_M_sign.2.1 422 = .ok (.invokevirtual 151, 3) := by decide +kernel
theorem dd_M_sign_469 : decode mt_M_sign.2.1 469 = .ok (.invokevirtual 151, 3) := by decide +kernel
theorem dd_M_sign_500 : decode mt_M_sign.2.1 500 = .ok (.invokevirtual 151, 3) := by decide +kernel
theorem dd_M_sign_531 : decode mt_M_sign.2.1 531 = .ok (.invokevirtual 151, 3) := by decide +kernel
theorem dd_M_sign_552 : decode mt_M_sign.2.1 552 = .ok (.invokevirtual 151, 3) := by decide +kernel
theorem dd_M_sign_572 : decode mt_M_sign.2.1 572 = .ok (.invokevirtual 151, 3) := by decide +kernel
theorem dd_M_sign_603 : decode mt_M_sign.2.1 603 = .ok (.invokevirtual 151, 3) := by decide +kernel
theorem dd_M_sign_634 : decode mt_M_sign.2.1 634 = .ok (.invokevirtual 151, 3) := by decide +kernel
theorem dd_M_sign_665 : decode mt_M_sign.2.1 665 = .ok (.invokevirtual 151, 3) := by decide +kernel
theorem dd_M_sign_768 : decode mt_M_sign.2.1 768 = .ok (.return_, 1) := by decide +kernel
def J_M_sign_768 (K : Nat) (g : jm_Rec)  (x : jm_X) : Option jm_R := some (.inl (none, x))
set_option maxRecDepth 100000 in
set_option maxHeartbeats 4000000 in
theorem jj_M_sign_768 {l : Launch} {D : va_G} {ad : Nat → Nat} {aC : Nat → ClassId} {b0 : Nat} {K d0 : Nat} {g : jm_Rec} (hok : jm_Ok (jm_PP l D clR ad aC shR b0 0)) (hrec : ∀ (t : Nat) (av : List Value) (x : jm_X), jm_Con (jm_PP l D clR ad aC shR b0 0) (rcR t) d0 av x (g t av x))  (x : jm_X) : jm_V (jm_PP l D clR ad aC shR b0 0) mt_M_sign (d0 + 2) 768 [] [] x (J_M_sign_768 K g  x) := by
  have hT := tk_M (l := l) (D := D) (ad := ad) (aC := aC) (b0 := b0)
  unfold J_M_sign_768
  exact jm_V.vret rfl dd_M_sign_768
def J_M_sign_422 (K : Nat) (g : jm_Rec) (s0 : Int32) (s1 : Int32) (x : jm_X) : Option jm_R := jm_bV (f_M_take K g s1 s0 x) (fun x85 => J_M_sign_768 K g x85)
set_option maxRecDepth 100000 in
set_option maxHeartbeats 4000000 in
theorem jj_M_sign_422 {l : Launch} {D : va_G} {ad : Nat → Nat} {aC : Nat → ClassId} {b0 : Nat} {K d0 : Nat} {g : jm_Rec} (hok : jm_Ok (jm_PP l D clR ad aC shR b0 0)) (hrec : ∀ (t : Nat) (av : List Value) (x : jm_X), jm_Con (jm_PP l D clR ad aC shR b0 0) (rcR t) d0 av x (g t av x)) (s0 : Int32) (s1 : Int32) (x : jm_X) : jm_V (jm_PP l D clR ad aC shR b0 0) mt_M_sign (d0 + 2) 422 [] [.int s0, .int s1, .ref 0] x (J_M_sign_422 K g s0 s1 x) := by
  have hT := tk_M (l := l) (D := D) (ad := ad) (aC := aC) (b0 := b0)
  unfold J_M_sign_422
  refine jm_V.callV (av := [.ref 0, .int s1, .int s0]) (rest := []) hok (jm_Con.mono (c_M_take hok hrec s1 s0 x) (by omega)) (jm_Inv.obj (q := ("FilterReaderModel", T_M, 22)) dd_M_sign_422 (Or.inl lk_M_151) mn_M_take ms_M_take mw_M_take mh_M_take ml_M_take rfl rfl) mw_M_take mi_M (Nat.le_of_ble_eq_true rfl) (Nat.le_of_ble_eq_true rfl) (fun x85 => ?_)
  refine jm_V.run (is := bk_M_sign_425_1) (pc' := 768) (ls' := []) (st' := []) (x' := x85) hok hT bk_M_sign_425_1_ok rfl ?_
  exact jj_M_sign_768 hok hrec x85
def J_M_sign_411 (K : Nat) (g : jm_Rec) (v2 : Int32) (s0 : Int32) (x : jm_X) : Option jm_R := (if v2 = 61 then J_M_sign_422 K g 2 s0 x else J_M_sign_422 K g 1 s0 x)
set_option maxRecDepth 100000 in
set_option maxHeartbeats 4000000 in
theorem jj_M_sign_411 {l : Launch} {D : va_G} {ad : Nat → Nat} {aC : Nat → ClassId} {b0 : Nat} {K d0 : Nat} {g : jm_Rec} (hok : jm_Ok (jm_PP l D clR ad aC shR b0 0)) (hrec : ∀ (t : Nat) (av : List Value) (x : jm_X), jm_Con (jm_PP l D clR ad aC shR b0 0) (rcR t) d0 av x (g t av x)) (v2 : Int32) (s0 : Int32) (x : jm_X) : jm_V (jm_PP l D clR ad aC shR b0 0) mt_M_sign (d0 + 2) 411 [(2, .int v2)] [.int s0, .ref 0] x (J_M_sign_411 K g v2 s0 x) := by
  have hT := tk_M (l := l) (D := D) (ad := ad) (aC := aC) (b0 := b0)
  unfold J_M_sign_411
  refine jm_V.run (is := bk_M_sign_411_3) (pc' := (if v2 = 61 then 417 else 421)) (ls' := [(2, .int v2)]) (st' := [.int s0, .ref 0]) (x' := x) hok hT bk_M_sign_411_3_ok rfl ?_
  refine jm_V.ite (fun _ => ?_) (fun _ => ?_)
  · refine jm_V.run (is := bk_M_sign_417_2) (pc' := 422) (ls' := [(2, .int v2)]) (st' := [.int 2, .int s0, .ref 0]) (x' := x) hok hT bk_M_sign_417_2_ok rfl ?_
    refine jm_V.sub (ls' := []) [] rfl ?_
    exact jj_M_sign_422 hok hrec 2 s0 x
  · refine jm_V.run (is := bk_M_sign_421_1) (pc' := 422) (ls' := [(2, .int v2)]) (st' := [.int 1, .int s0, .ref 0]) (x' := x) hok hT bk_M_sign_421_1_ok rfl ?_
    refine jm_V.sub (ls' := []) [] rfl ?_
    exact jj_M_sign_422 hok hrec 1 s0 x
def J_M_sign_469 (K : Nat) (g : jm_Rec) (s0 : Int32) (s1 : Int32) (x : jm_X) : Option jm_R := jm_bV (f_M_take K g s1 s0 x) (fun x86 => J_M_sign_768 K g x86)
set_option maxRecDepth 100000 in
set_option maxHeartbeats 4000000 in
theorem jj_M_sign_469 {l : Launch} {D : va_G} {ad : Nat → Nat} {aC : Nat → ClassId} {b0 : Nat} {K d0 : Nat} {g : jm_Rec} (hok : jm_Ok (jm_PP l D clR ad aC shR b0 0)) (hrec : ∀ (t : Nat) (av : List Value) (x : jm_X), jm_Con (jm_PP l D clR ad aC shR b0 0) (rcR t) d0 av x (g t av x)) (s0 : Int32) (s1 : Int32) (x : jm_X) : jm_V (jm_PP l D clR ad aC shR b0 0) mt_M_sign (d0 + 2) 469 [] [.int s0, .int s1, .ref 0] x (J_M_sign_469 K g s0 s1 x) := by
  have hT := tk_M (l := l) (D := D) (ad := ad) (aC := aC) (b0 := b0)
  unfold J_M_sign_469
  refine jm_V.callV (av := [.ref 0, .int s1, .int s0]) (rest := []) hok (jm_Con.mono (c_M_take hok hrec s1 s0 x) (by omega)) (jm_Inv.obj (q := ("FilterReaderModel", T_M, 22)) dd_M_sign_469 (Or.inl lk_M_151) mn_M_take ms_M_take mw_M_take mh_M_take ml_M_take rfl rfl) mw_M_take mi_M (Nat.le_of_ble_eq_true rfl) (Nat.le_of_ble_eq_true rfl) (fun x86 => ?_)
  refine jm_V.run (is := bk_M_sign_472_1) (pc' := 768) (ls' := []) (st' := []) (x' := x86) hok hT bk_M_sign_472_1_ok rfl ?_
  exact jj_M_sign_768 hok hrec x86
def J_M_sign_458 (K : Nat) (g : jm_Rec) (v3 : Int32) (s0 : Int32) (x : jm_X) : Option jm_R := (if v3 = 61 then J_M_sign_469 K g 3 s0 x else J_M_sign_469 K g 2 s0 x)
set_option maxRecDepth 100000 in
set_option maxHeartbeats 4000000 in
theorem jj_M_sign_458 {l : Launch} {D : va_G} {ad : Nat → Nat} {aC : Nat → ClassId} {b0 : Nat} {K d0 : Nat} {g : jm_Rec} (hok : jm_Ok (jm_PP l D clR ad aC shR b0 0)) (hrec : ∀ (t : Nat) (av : List Value) (x : jm_X), jm_Con (jm_PP l D clR ad aC shR b0 0) (rcR t) d0 av x (g t av x)) (v3 : Int32) (s0 : Int32) (x : jm_X) : jm_V (jm_PP l D clR ad aC shR b0 0) mt_M_sign (d0 + 2) 458 [(3, .int v3)] [.int s0, .ref 0] x (J_M_sign_458 K g v3 s0 x) := by
  have hT := tk_M (l := l) (D := D) (ad := ad) (aC := aC) (b0 := b0)
  unfold J_M_sign_458
  refine jm_V.run (is := bk_M_sign_458_3) (pc' := (if v3 = 61 then 464 else 468)) (ls' := [(3, .int v3)]) (st' := [.int s0, .ref 0]) (x' := x) hok hT bk_M_sign_458_3_ok rfl ?_
  refine jm_V.ite (fun _ => ?_) (fun _ => ?_)
  · refine jm_V.run (is := bk_M_sign_464_2) (pc' := 469) (ls' := [(3, .int v3)]) (st' := [.int 3, .int s0, .ref 0]) (x' := x) hok hT bk_M_sign_464_2_ok rfl ?_
    refine jm_V.sub (ls' := []) [] rfl ?_
    exact jj_M_sign_469 hok hrec 3 s0 x
  · refine jm_V.run (is := bk_M_sign_468_1) (pc' := 469) (ls' := [(3, .int v3)]) (st' := [.int 2, .int s0, .ref 0]) (x' := x) hok hT bk_M_sign_468_1_ok rfl ?_
    refine jm_V.sub (ls' := []) [] rfl ?_
    exact jj_M_sign_469 hok hrec 2 s0 x
def J_M_sign_500 (K : Nat) (g : jm_Rec) (s0 : Int32) (s1 : Int32) (x : jm_X) : Option jm_R := jm_bV (f_M_take K g s1 s0 x) (fun x87 => J_M_sign_768 K g x87)
set_option maxRecDepth 100000 in
set_option maxHeartbeats 4000000 in
theorem jj_M_sign_500 {l : Launch} {D : va_G} {ad : Nat → Nat} {aC : Nat → ClassId} {b0 : Nat} {K d0 : Nat} {g : jm_Rec} (hok : jm_Ok (jm_PP l D clR ad aC shR b0 0)) (hrec : ∀ (t : Nat) (av : List Value) (x : jm_X), jm_Con (jm_PP l D clR ad aC shR b0 0) (rcR t) d0 av x (g t av x)) (s0 : Int32) (s1 : Int32) (x : jm_X) : jm_V (jm_PP l D clR ad aC shR b0 0) mt_M_sign (d0 + 2) 500 [] [.int s0, .int s1, .ref 0] x (J_M_sign_500 K g s0 s1 x) := by
  have hT := tk_M (l := l) (D := D) (ad := ad) (aC := aC) (b0 := b0)
  unfold J_M_sign_500
  refine jm_V.callV (av := [.ref 0, .int s1, .int s0]) (rest := []) hok (jm_Con.mono (c_M_take hok hrec s1 s0 x) (by omega)) (jm_Inv.obj (q := ("FilterReaderModel", T_M, 22)) dd_M_sign_500 (Or.inl lk_M_151) mn_M_take ms_M_take mw_M_take mh_M_take ml_M_take rfl rfl) mw_M_take mi_M (Nat.le_of_ble_eq_true rfl) (Nat.le_of_ble_eq_true rfl) (fun x87 => ?_)
  refine jm_V.run (is := bk_M_sign_503_1) (pc' := 768) (ls' := []) (st' := []) (x' := x87) hok hT bk_M_sign_503_1_ok rfl ?_
  exact jj_M_sign_768 hok hrec x87
def J_M_sign_489 (K : Nat) (g : jm_Rec) (v2 : Int32) (s0 : Int32) (x : jm_X) : Option jm_R := (if v2 = 61 then J_M_sign_500 K g 2 s0 x else J_M_sign_500 K g 1 s0 x)
set_option maxRecDepth 100000 in
set_option maxHeartbeats 4000000 in
theorem jj_M_sign_489 {l : Launch} {D : va_G} {ad : Nat → Nat} {aC : Nat → ClassId} {b0 : Nat} {K d0 : Nat} {g : jm_Rec} (hok : jm_Ok (jm_PP l D clR ad aC shR b0 0)) (hrec : ∀ (t : Nat) (av : List Value) (x : jm_X), jm_Con (jm_PP l D clR ad aC shR b0 0) (rcR t) d0 av x (g t av x)) (v2 : Int32) (s0 : Int32) (x : jm_X) : jm_V (jm_PP l D clR ad aC shR b0 0) mt_M_sign (d0 + 2) 489 [(2, .int v2)] [.int s0, .ref 0] x (J_M_sign_489 K g v2 s0 x) := by
  have hT := tk_M (l := l) (D := D) (ad := ad) (aC := aC) (b0 := b0)
  unfold J_M_sign_489
  refine jm_V.run (is := bk_M_sign_489_3) (pc' := (if v2 = 61 then 495 else 499)) (ls' := [(2, .int v2)]) (st' := [.int s0, .ref 0]) (x' := x) hok hT bk_M_sign_489_3_ok rfl ?_
  refine jm_V.ite (fun _ => ?_) (fun _ => ?_)
  · refine jm_V.run (is := bk_M_sign_495_2) (pc' := 500) (ls' := [(2, .int v2)]) (st' := [.int 2, .int s0, .ref 0]) (x' := x) hok hT bk_M_sign_495_2_ok rfl ?_
    refine jm_V.sub (ls' := []) [] rfl ?_
    exact jj_M_sign_500 hok hrec 2 s0 x
  · refine jm_V.run (is := bk_M_sign_499_1) (pc' := 500) (ls' := [(2, .int v2)]) (st' := [.int 1, .int s0, .ref 0]) (x' := x) hok hT bk_M_sign_499_1_ok rfl ?_
    refine jm_V.sub (ls' := []) [] rfl ?_
    exact jj_M_sign_500 hok hrec 1 s0 x
def J_M_sign_531 (K : Nat) (g : jm_Rec) (s0 : Int32) (s1 : Int32) (x : jm_X) : Option jm_R := jm_bV (f_M_take K g s1 s0 x) (fun x88 => J_M_sign_768 K g x88)
set_option maxRecDepth 100000 in
set_option maxHeartbeats 4000000 in
theorem jj_M_sign_531 {l : Launch} {D : va_G} {ad : Nat → Nat} {aC : Nat → ClassId} {b0 : Nat} {K d0 : Nat} {g : jm_Rec} (hok : jm_Ok (jm_PP l D clR ad aC shR b0 0)) (hrec : ∀ (t : Nat) (av : List Value) (x : jm_X), jm_Con (jm_PP l D clR ad aC shR b0 0) (rcR t) d0 av x (g t av x)) (s0 : Int32) (s1 : Int32) (x : jm_X) : jm_V (jm_PP l D clR ad aC shR b0 0) mt_M_sign (d0 + 2) 531 [] [.int s0, .int s1, .ref 0] x (J_M_sign_531 K g s0 s1 x) := by
  have hT := tk_M (l := l) (D := D) (ad := ad) (aC := aC) (b0 := b0)
  unfold J_M_sign_531
  refine jm_V.callV (av := [.ref 0, .int s1, .int s0]) (rest := []) hok (jm_Con.mono (c_M_take hok hrec s1 s0 x) (by omega)) (jm_Inv.obj (q := ("FilterReaderModel", T_M, 22)) dd_M_sign_531 (Or.inl lk_M_151) mn_M_take ms_M_take mw_M_take mh_M_take ml_M_take rfl rfl) mw_M_take mi_M (Nat.le_of_ble_eq_true rfl) (Nat.le_of_ble_eq_true rfl) (fun x88 => ?_)
  refine jm_V.run (is := bk_M_sign_534_1) (pc' := 768) (ls' := []) (st' := []) (x' := x88) hok hT bk_M_sign_534_1_ok rfl ?_
  exact jj_M_sign_768 hok hrec x88
def J_M_sign_520 (K : Nat) (g : jm_Rec) (v2 : Int32) (s0 : Int32) (x : jm_X) : Option jm_R := (if v2 = 61 then J_M_sign_531 K g 2 s0 x else J_M_sign_531 K g 1 s0 x)
set_option maxRecDepth 100000 in
set_option maxHeartbeats 4000000 in
theorem jj_M_sign_520 {l : Launch} {D : va_G} {ad : Nat → Nat} {aC : Nat → ClassId} {b0 : Nat} {K d0 : Nat} {g : jm_Rec} (hok : jm_Ok (jm_PP l D clR ad aC shR b0 0)) (hrec : ∀ (t : Nat) (av : List Value) (x : jm_X), jm_Con (jm_PP l D clR ad aC shR b0 0) (rcR t) d0 av x (g t av x)) (v2 : Int32) (s0 : Int32) (x : jm_X) : jm_V (jm_PP l D clR ad aC shR b0 0) mt_M_sign (d0 + 2) 520 [(2, .int v2)] [.int s0, .ref 0] x (J_M_sign_520 K g v2 s0 x) := by
  have hT := tk_M (l := l) (D := D) (ad := ad) (aC := aC) (b0 := b0)
  unfold J_M_sign_520
  refine jm_V.run (is := bk_M_sign_520_3) (pc' := (if v2 = 61 then 526 else 530)) (ls' := [(2, .int v2)]) (st' := [.int s0, .ref 0]) (x' := x) hok hT bk_M_sign_520_3_ok rfl ?_
  refine jm_V.ite (fun _ => ?_) (fun _ => ?_)
  · refine jm_V.run (is := bk_M_sign_526_2) (pc' := 531) (ls' := [(2, .int v2)]) (st' := [.int 2, .int s0, .ref 0]) (x' := x) hok hT bk_M_sign_526_2_ok rfl ?_
    refine jm_V.sub (ls' := []) [] rfl ?_
    exact jj_M_sign_531 hok hrec 2 s0 x
  · refine jm_V.run (is := bk_M_sign_530_1) (pc' := 531) (ls' := [(2, .int v2)]) (st' := [.int 1, .int s0, .ref 0]) (x' := x) hok hT bk_M_sign_530_1_ok rfl ?_
    refine jm_V.sub (ls' := []) [] rfl ?_
    exact jj_M_sign_531 hok hrec 1 s0 x
def J_M_sign_551 (K : Nat) (g : jm_Rec) (s0 : Int32) (x : jm_X) : Option jm_R := jm_bV (f_M_take K g s0 2 x) (fun x89 => J_M_sign_768 K g x89)
set_option maxRecDepth 100000 in
set_option maxHeartbeats 4000000 in
theorem jj_M_sign_551 {l : Launch} {D : va_G} {ad : Nat → Nat} {aC : Nat → ClassId} {b0 : Nat} {K d0 : Nat} {g : jm_Rec} (hok : jm_Ok (jm_PP l D clR ad aC shR b0 0)) (hrec : ∀ (t : Nat) (av : List Value) (x : jm_X), jm_Con (jm_PP l D clR ad aC shR b0 0) (rcR t) d0 av x (g t av x)) (s0 : Int32) (x : jm_X) : jm_V (jm_PP l D clR ad aC shR b0 0) mt_M_sign (d0 + 2) 551 [] [.int s0, .ref 0] x (J_M_sign_551 K g s0 x) := by
  have hT := tk_M (l := l) (D := D) (ad := ad) (aC := aC) (b0 := b0)
  unfold J_M_sign_551
  refine jm_V.run (is := bk_M_sign_551_1) (pc' := 552) (ls' := []) (st' := [.int 2, .int s0, .ref 0]) (x' := x) hok hT bk_M_sign_551_1_ok rfl ?_
  refine jm_V.callV (av := [.ref 0, .int s0, .int 2]) (rest := []) hok (jm_Con.mono (c_M_take hok hrec s0 2 x) (by omega)) (jm_Inv.obj (q := ("FilterReaderModel", T_M, 22)) dd_M_sign_552 (Or.inl lk_M_151) mn_M_take ms_M_take mw_M_take mh_M_take ml_M_take rfl rfl) mw_M_take mi_M (Nat.le_of_ble_eq_true rfl) (Nat.le_of_ble_eq_true rfl) (fun x89 => ?_)
  refine jm_V.run (is := bk_M_sign_555_1) (pc' := 768) (ls' := []) (st' := []) (x' := x89) hok hT bk_M_sign_555_1_ok rfl ?_
  exact jj_M_sign_768 hok hrec x89
def J_M_sign_572 (K : Nat) (g : jm_Rec) (s0 : Int32) (s1 : Int32) (x : jm_X) : Option jm_R := jm_bV (f_M_take K g s1 s0 x) (fun x90 => J_M_sign_768 K g x90)
set_option maxRecDepth 100000 in
set_option maxHeartbeats 4000000 in
theorem jj_M_sign_572 {l : Launch} {D : va_G} {ad : Nat → Nat} {aC : Nat → ClassId} {b0 : Nat} {K d0 : Nat} {g : jm_Rec} (hok : jm_Ok (jm_PP l D clR ad aC shR b0 0)) (hrec : ∀ (t : Nat) (av : List Value) (x : jm_X), jm_Con (jm_PP l D clR ad aC shR b0 0) (rcR t) d0 av x (g t av x)) (s0 : Int32) (s1 : Int32) (x : jm_X) : jm_V (jm_PP l D clR ad aC shR b0 0) mt_M_sign (d0 + 2) 572 [] [.int s0, .int s1, .ref 0] x (J_M_sign_572 K g s0 s1 x) := by
  have hT := tk_M (l := l) (D := D) (ad := ad) (aC := aC) (b0 := b0)
  unfold J_M_sign_572
  refine jm_V.callV (av := [.ref 0, .int s1, .int s0]) (rest := []) hok (jm_Con.mono (c_M_take hok hrec s1 s0 x) (by omega)) (jm_Inv.obj (q := ("FilterReaderModel", T_M, 22)) dd_M_sign_572 (Or.inl lk_M_151) mn_M_take ms_M_take mw_M_take mh_M_take ml_M_take rfl rfl) mw_M_take mi_M (Nat.le_of_ble_eq_true rfl) (Nat.le_of_ble_eq_true rfl) (fun x90 => ?_)
  refine jm_V.run (is := bk_M_sign_575_1) (pc' := 768) (ls' := []) (st' := []) (x' := x90) hok hT bk_M_sign_575_1_ok rfl ?_
  exact jj_M_sign_768 hok hrec x90
def J_M_sign_603 (K : Nat) (g : jm_Rec) (s0 : Int32) (s1 : Int32) (x : jm_X) : Option jm_R := jm_bV (f_M_take K g s1 s0 x) (fun x91 => J_M_sign_768 K g x91)
set_option maxRecDepth 100000 in
set_option maxHeartbeats 4000000 in
theorem jj_M_sign_603 {l : Launch} {D : va_G} {ad : Nat → Nat} {aC : Nat → ClassId} {b0 : Nat} {K d0 : Nat} {g : jm_Rec} (hok : jm_Ok (jm_PP l D clR ad aC shR b0 0)) (hrec : ∀ (t : Nat) (av : List Value) (x : jm_X), jm_Con (jm_PP l D clR ad aC shR b0 0) (rcR t) d0 av x (g t av x)) (s0 : Int32) (s1 : Int32) (x : jm_X) : jm_V (jm_PP l D clR ad aC shR b0 0) mt_M_sign (d0 + 2) 603 [] [.int s0, .int s1, .ref 0] x (J_M_sign_603 K g s0 s1 x) := by
  have hT := tk_M (l := l) (D := D) (ad := ad) (aC := aC) (b0 := b0)
  unfold J_M_sign_603
  refine jm_V.callV (av := [.ref 0, .int s1, .int s0]) (rest := []) hok (jm_Con.mono (c_M_take hok hrec s1 s0 x) (by omega)) (jm_Inv.obj (q := ("FilterReaderModel", T_M, 22)) dd_M_sign_603 (Or.inl lk_M_151) mn_M_take ms_M_take mw_M_take mh_M_take ml_M_take rfl rfl) mw_M_take mi_M (Nat.le_of_ble_eq_true rfl) (Nat.le_of_ble_eq_true rfl) (fun x91 => ?_)
  refine jm_V.run (is := bk_M_sign_606_1) (pc' := 768) (ls' := []) (st' := []) (x' := x91) hok hT bk_M_sign_606_1_ok rfl ?_
  exact jj_M_sign_768 hok hrec x91
def J_M_sign_592 (K : Nat) (g : jm_Rec) (v2 : Int32) (s0 : Int32) (x : jm_X) : Option jm_R := (if v2 = 61 then J_M_sign_603 K g 2 s0 x else J_M_sign_603 K g 1 s0 x)
set_option maxRecDepth 100000 in
set_option maxHeartbeats 4000000 in
theorem jj_M_sign_592 {l : Launch} {D : va_G} {ad : Nat → Nat} {aC : Nat → ClassId} {b0 : Nat} {K d0 : Nat} {g : jm_Rec} (hok : jm_Ok (jm_PP l D clR ad aC shR b0 0)) (hrec : ∀ (t : Nat) (av : List Value) (x : jm_X), jm_Con (jm_PP l D clR ad aC shR b0 0) (rcR t) d0 av x (g t av x)) (v2 : Int32) (s0 : Int32) (x : jm_X) : jm_V (jm_PP l D clR ad aC shR b0 0) mt_M_sign (d0 + 2) 592 [(2, .int v2)] [.int s0, .ref 0] x (J_M_sign_592 K g v2 s0 x) := by
  have hT := tk_M (l := l) (D := D) (ad := ad) (aC := aC) (b0 := b0)
  unfold J_M_sign_592
  refine jm_V.run (is := bk_M_sign_592_3) (pc' := (if v2 = 61 then 598 else 602)) (ls' := [(2, .int v2)]) (st' := [.int s0, .ref 0]) (x' := x) hok hT bk_M_sign_592_3_ok rfl ?_
  refine jm_V.ite (fun _ => ?_) (fun _ => ?_)
  · refine jm_V.run (is := bk_M_sign_598_2) (pc' := 603) (ls' := [(2, .int v2)]) (st' := [.int 2, .int s0, .ref 0]) (x' := x) hok hT bk_M_sign_598_2_ok rfl ?_
    refine jm_V.sub (ls' := []) [] rfl ?_
    exact jj_M_sign_603 hok hrec 2 s0 x
  · refine jm_V.run (is := bk_M_sign_602_1) (pc' := 603) (ls' := [(2, .int v2)]) (st' := [.int 1, .int s0, .ref 0]) (x' := x) hok hT bk_M_sign_602_1_ok rfl ?_
    refine jm_V.sub (ls' := []) [] rfl ?_
    exact jj_M_sign_603 hok hrec 1 s0 x
def J_M_sign_634 (K : Nat) (g : jm_Rec) (s0 : Int32) (s1 : Int32) (x : jm_X) : Option jm_R := jm_bV (f_M_take K g s1 s0 x) (fun x92 => J_M_sign_768 K g x92)
set_option maxRecDepth 100000 in
set_option maxHeartbeats 4000000 in
theorem jj_M_sign_634 {l : Launch} {D : va_G} {ad : Nat → Nat} {aC : Nat → ClassId} {b0 : Nat} {K d0 : Nat} {g : jm_Rec} (hok : jm_Ok (jm_PP l D clR ad aC shR b0 0)) (hrec : ∀ (t : Nat) (av : List Value) (x : jm_X), jm_Con (jm_PP l D clR ad aC shR b0 0) (rcR t) d0 av x (g t av x)) (s0 : Int32) (s1 : Int32) (x : jm_X) : jm_V (jm_PP l D clR ad aC shR b0 0) mt_M_sign (d0 + 2) 634 [] [.int s0, .int s1, .ref 0] x (J_M_sign_634 K g s0 s1 x) := by
  have hT := tk_M (l := l) (D := D) (ad := ad) (aC := aC) (b0 := b0)
  unfold J_M_sign_634
  refine jm_V.callV (av := [.ref 0, .int s1, .int s0]) (rest := []) hok (jm_Con.mono (c_M_take hok hrec s1 s0 x) (by omega)) (jm_Inv.obj (q := ("FilterReaderModel", T_M, 22)) dd_M_sign_634 (Or.inl lk_M_151) mn_M_take ms_M_take mw_M_take mh_M_take ml_M_take rfl rfl) mw_M_take mi_M (Nat.le_of_ble_eq_true rfl) (Nat.le_of_ble_eq_true rfl) (fun x92 => ?_)
  refine jm_V.run (is := bk_M_sign_637_1) (pc' := 768) (ls' := []) (st' := []) (x' := x92) hok hT bk_M_sign_637_1_ok rfl ?_
  exact jj_M_sign_768 hok hrec x92
def J_M_sign_623 (K : Nat) (g : jm_Rec) (v2 : Int32) (s0 : Int32) (x : jm_X) : Option jm_R := (if v2 = 61 then J_M_sign_634 K g 2 s0 x else J_M_sign_634 K g 1 s0 x)
set_option maxRecDepth 100000 in
set_option maxHeartbeats 4000000 in
theorem jj_M_sign_623 {l : Launch} {D : va_G} {ad : Nat → Nat} {aC : Nat → ClassId} {b0 : Nat} {K d0 : Nat} {g : jm_Rec} (hok : jm_Ok (jm_PP l D clR ad aC shR b0 0)) (hrec : ∀ (t : Nat) (av : List Value) (x : jm_X), jm_Con (jm_PP l D clR ad aC shR b0 0) (rcR t) d0 av x (g t av x)) (v2 : Int32) (s0 : Int32) (x : jm_X) : jm_V (jm_PP l D clR ad aC shR b0 0) mt_M_sign (d0 + 2) 623 [(2, .int v2)] [.int s0, .ref 0] x (J_M_sign_623 K g v2 s0 x) := by
  have hT := tk_M (l := l) (D := D) (ad := ad) (aC := aC) (b0 := b0)
  unfold J_M_sign_623
  refine jm_V.run (is := bk_M_sign_623_3) (pc' := (if v2 = 61 then 629 else 633)) (ls' := [(2, .int v2)]) (st' := [.int s0, .ref 0]) (x' := x) hok hT bk_M_sign_623_3_ok rfl ?_
  refine jm_V.ite (fun _ => ?_) (fun _ => ?_)
  · refine jm_V.run (is := bk_M_sign_629_2) (pc' := 634) (ls' := [(2, .int v2)]) (st' := [.int 2, .int s0, .ref 0]) (x' := x) hok hT bk_M_sign_629_2_ok rfl ?_
    refine jm_V.sub (ls' := []) [] rfl ?_
    exact jj_M_sign_634 hok hrec 2 s0 x
  · refine jm_V.run (is := bk_M_sign_633_1) (pc' := 634) (ls' := [(2, .int v2)]) (st' := [.int 1, .int s0, .ref 0]) (x' := x) hok hT bk_M_sign_633_1_ok rfl ?_
    refine jm_V.sub (ls' := []) [] rfl ?_
    exact jj_M_sign_634 hok hrec 1 s0 x
def J_M_sign_665 (K : Nat) (g : jm_Rec) (s0 : Int32) (s1 : Int32) (x : jm_X) : Option jm_R := jm_bV (f_M_take K g s1 s0 x) (fun x93 => J_M_sign_768 K g x93)
set_option maxRecDepth 100000 in
set_option maxHeartbeats 4000000 in
theorem jj_M_sign_665 {l : Launch} {D : va_G} {ad : Nat → Nat} {aC : Nat → ClassId} {b0 : Nat} {K d0 : Nat} {g : jm_Rec} (hok : jm_Ok (jm_PP l D clR ad aC shR b0 0)) (hrec : ∀ (t : Nat) (av : List Value) (x : jm_X), jm_Con (jm_PP l D clR ad aC shR b0 0) (rcR t) d0 av x (g t av x)) (s0 : Int32) (s1 : Int32) (x : jm_X) : jm_V (jm_PP l D clR ad aC shR b0 0) mt_M_sign (d0 + 2) 665 [] [.int s0, .int s1, .ref 0] x (J_M_sign_665 K g s0 s1 x) := by
  have hT := tk_M (l := l) (D := D) (ad := ad) (aC := aC) (b0 := b0)
  unfold J_M_sign_665
  refine jm_V.callV (av := [.ref 0, .int s1, .int s0]) (rest := []) hok (jm_Con.mono (c_M_take hok hrec s1 s0 x) (by omega)) (jm_Inv.obj (q := ("FilterReaderModel", T_M, 22)) dd_M_sign_665 (Or.inl lk_M_151) mn_M_take ms_M_take mw_M_take mh_M_take ml_M_take rfl rfl) mw_M_take mi_M (Nat.le_of_ble_eq_true rfl) (Nat.le_of_ble_eq_true rfl) (fun x93 => ?_)
  refine jm_V.run (is := bk_M_sign_668_1) (pc' := 768) (ls' := []) (st' := []) (x' := x93) hok hT bk_M_sign_668_1_ok rfl ?_
  exact jj_M_sign_768 hok hrec x93
def J_M_sign_654 (K : Nat) (g : jm_Rec) (v2 : Int32) (s0 : Int32) (x : jm_X) : Option jm_R := (if v2 = 61 then J_M_sign_665 K g 2 s0 x else J_M_sign_665 K g 1 s0 x)
set_option maxRecDepth 100000 in
set_option maxHeartbeats 4000000 in
theorem jj_M_sign_654 {l : Launch} {D : va_G} {ad : Nat → Nat} {aC : Nat → ClassId} {b0 : Nat} {K d0 : Nat} {g : jm_Rec} (hok : jm_Ok (jm_PP l D clR ad aC shR b0 0)) (hrec : ∀ (t : Nat) (av : List Value) (x : jm_X), jm_Con (jm_PP l D clR ad aC shR b0 0) (rcR t) d0 av x (g t av x)) (v2 : Int32) (s0 : Int32) (x : jm_X) : jm_V (jm_PP l D clR ad aC shR b0 0) mt_M_sign (d0 + 2) 654 [(2, .int v2)] [.int s0, .ref 0] x (J_M_sign_654 K g v2 s0 x) := by
  have hT := tk_M (l := l) (D := D) (ad := ad) (aC := aC) (b0 := b0)
  unfold J_M_sign_654
  refine jm_V.run (is := bk_M_sign_654_3) (pc' := (if v2 = 61 then 660 else 664)) (ls' := [(2, .int v2)]) (st' := [.int s0, .ref 0]) (x' := x) hok hT bk_M_sign_654_3_ok rfl ?_
  refine jm_V.ite (fun _ => ?_) (fun _ => ?_)
  · refine jm_V.run (is := bk_M_sign_660_2) (pc' := 665) (ls' := [(2, .int v2)]) (st' := [.int 2, .int s0, .ref 0]) (x' := x) hok hT bk_M_sign_660_2_ok rfl ?_
    refine jm_V.sub (ls' := []) [] rfl ?_
    exact jj_M_sign_665 hok hrec 2 s0 x
  · refine jm_V.run (is := bk_M_sign_664_1) (pc' := 665) (ls' := [(2, .int v2)]) (st' := [.int 1, .int s0, .ref 0]) (x' := x) hok hT bk_M_sign_664_1_ok rfl ?_
    refine jm_V.sub (ls' := []) [] rfl ?_
    exact jj_M_sign_665 hok hrec 1 s0 x
def f_M_sign (K : Nat) (g : jm_Rec) (a1 : Int32) (a2 : Int32) (a3 : Int32) (x : jm_X) : Option jm_R := (if a1 = 33 then (if a2 = 61 then J_M_sign_551 K g 10 x else J_M_sign_551 K g 25 x) else (if a1 = 34 then jm_bV (f_M_take K g 5 1 x) (fun x1 => J_M_sign_768 K g x1) else (if a1 = 35 then jm_bV (f_M_take K g 25 1 x) (fun x2 => J_M_sign_768 K g x2) else (if a1 = 36 then jm_bV (f_M_take K g 25 1 x) (fun x3 => J_M_sign_768 K g x3) else (if a1 = 37 then (if a2 = 61 then J_M_sign_654 K g a2 9 x else J_M_sign_654 K g a2 13 x) else (if a1 = 38 then jm_bV (f_M_take K g 25 1 x) (fun x4 => J_M_sign_768 K g x4) else (if a1 = 39 then jm_bV (f_M_take K g 25 1 x) (fun x5 => J_M_sign_768 K g x5) else (if a1 = 40 then jm_bV (f_M_take K g 16 1 x) (fun x6 => J_M_sign_768 K g x6) else (if a1 = 41 then jm_bV (f_M_take K g 17 1 x) (fun x7 => J_M_sign_768 K g x7) else (if a1 = 42 then (if a2 = 61 then J_M_sign_654 K g a2 9 x else J_M_sign_654 K g a2 13 x) else (if a1 = 43 then (if a2 = 61 then J_M_sign_592 K g a2 9 x else J_M_sign_592 K g a2 11 x) else (if a1 = 44 then jm_bV (f_M_take K g 7 1 x) (fun x8 => J_M_sign_768 K g x8) else (if a1 = 45 then (if a2 = 61 then J_M_sign_623 K g a2 9 x else J_M_sign_623 K g a2 12 x) else (if a1 = 46 then jm_bV (f_M_take K g 25 1 x) (fun x9 => J_M_sign_768 K g x9) else (if a1 = 47 then (if a2 = 47 then (if a3 = 61 then J_M_sign_458 K g a3 9 x else J_M_sign_458 K g a3 8 x) else (if a2 = 61 then J_M_sign_489 K g a2 9 x else J_M_sign_489 K g a2 13 x)) else (if a1 = 48 then jm_bV (f_M_take K g 25 1 x) (fun x10 => J_M_sign_768 K g x10) else (if a1 = 49 then jm_bV (f_M_take K g 25 1 x) (fun x11 => J_M_sign_768 K g x11) else (if a1 = 50 then jm_bV (f_M_take K g 25 1 x) (fun x12 => J_M_sign_768 K g x12) else (if a1 = 51 then jm_bV (f_M_take K g 25 1 x) (fun x13 => J_M_sign_768 K g x13) else (if a1 = 52 then jm_bV (f_M_take K g 25 1 x) (fun x14 => J_M_sign_768 K g x14) else (if a1 = 53 then jm_bV (f_M_take K g 25 1 x) (fun x15 => J_M_sign_768 K g x15) else (if a1 = 54 then jm_bV (f_M_take K g 25 1 x) (fun x16 => J_M_sign_768 K g x16) else (if a1 = 55 then jm_bV (f_M_take K g 25 1 x) (fun x17 => J_M_sign_768 K g x17) else (if a1 = 56 then jm_bV (f_M_take K g 25 1 x) (fun x18 => J_M_sign_768 K g x18) else (if a1 = 57 then jm_bV (f_M_take K g 25 1 x) (fun x19 => J_M_sign_768 K g x19) else (if a1 = 58 then jm_bV (f_M_take K g 22 1 x) (fun x20 => J_M_sign_768 K g x20) else (if a1 = 59 then jm_bV (f_M_take K g 23 1 x) (fun x21 => J_M_sign_768 K g x21) else (if a1 = 60 then (if a2 = 61 then J_M_sign_572 K g 2 10 x else J_M_sign_572 K g 1 10 x) else (if a1 = 61 then (if a2 = 61 then J_M_sign_520 K g a2 10 x else J_M_sign_520 K g a2 9 x) else (if a1 = 62 then (if a2 = 61 then J_M_sign_572 K g 2 10 x else J_M_sign_572 K g 1 10 x) else (if a1 = 63 then jm_bV (f_M_take K g 24 1 x) (fun x22 => J_M_sign_768 K g x22) else (if a1 = 64 then jm_bV (f_M_take K g 25 1 x) (fun x23 => J_M_sign_768 K g x23) else (if a1 = 65 then jm_bV (f_M_take K g 25 1 x) (fun x24 => J_M_sign_768 K g x24) else (if a1 = 66 then jm_bV (f_M_take K g 25 1 x) (fun x25 => J_M_sign_768 K g x25) else (if a1 = 67 then jm_bV (f_M_take K g 25 1 x) (fun x26 => J_M_sign_768 K g x26) else (if a1 = 68 then jm_bV (f_M_take K g 25 1 x) (fun x27 => J_M_sign_768 K g x27) else (if a1 = 69 then jm_bV (f_M_take K g 25 1 x) (fun x28 => J_M_sign_768 K g x28) else (if a1 = 70 then jm_bV (f_M_take K g 25 1 x) (fun x29 => J_M_sign_768 K g x29) else (if a1 = 71 then jm_bV (f_M_take K g 25 1 x) (fun x30 => J_M_sign_768 K g x30) else (if a1 = 72 then jm_bV (f_M_take K g 25 1 x) (fun x31 => J_M_sign_768 K g x31) else (if a1 = 73 then jm_bV (f_M_take K g 25 1 x) (fun x32 => J_M_sign_768 K g x32) else (if a1 = 74 then jm_bV (f_M_take K g 25 1 x) (fun x33 => J_M_sign_768 K g x33) else (if a1 = 75 then jm_bV (f_M_take K g 25 1 x) (fun x34 => J_M_sign_768 K g x34) else (if a1 = 76 then jm_bV (f_M_take K g 25 1 x) (fun x35 => J_M_sign_768 K g x35) else (if a1 = 77 then jm_bV (f_M_take K g 25 1 x) (fun x36 => J_M_sign_768 K g x36) else (if a1 = 78 then jm_bV (f_M_take K g 25 1 x) (fun x37 => J_M_sign_768 K g x37) else (if a1 = 79 then jm_bV (f_M_take K g 25 1 x) (fun x38 => J_M_sign_768 K g x38) else (if a1 = 80 then jm_bV (f_M_take K g 25 1 x) (fun x39 => J_M_sign_768 K g x39) else (if a1 = 81 then jm_bV (f_M_take K g 25 1 x) (fun x40 => J_M_sign_768 K g x40) else (if a1 = 82 then jm_bV (f_M_take K g 25 1 x) (fun x41 => J_M_sign_768 K g x41) else (if a1 = 83 then jm_bV (f_M_take K g 25 1 x) (fun x42 => J_M_sign_768 K g x42) else (if a1 = 84 then jm_bV (f_M_take K g 25 1 x) (fun x43 => J_M_sign_768 K g x43) else (if a1 = 85 then jm_bV (f_M_take K g 25 1 x) (fun x44 => J_M_sign_768 K g x44) else (if a1 = 86 then jm_bV (f_M_take K g 25 1 x) (fun x45 => J_M_sign_768 K g x45) else (if a1 = 87 then jm_bV (f_M_take K g 25 1 x) (fun x46 => J_M_sign_768 K g x46) else (if a1 = 88 then jm_bV (f_M_take K g 25 1 x) (fun x47 => J_M_sign_768 K g x47) else (if a1 = 89 then jm_bV (f_M_take K g 25 1 x) (fun x48 => J_M_sign_768 K g x48) else (if a1 = 90 then jm_bV (f_M_take K g 25 1 x) (fun x49 => J_M_sign_768 K g x49) else (if a1 = 91 then jm_bV (f_M_take K g 18 1 x) (fun x50 => J_M_sign_768 K g x50) else (if a1 = 92 then jm_bV (f_M_take K g 25 1 x) (fun x51 => J_M_sign_768 K g x51) else (if a1 = 93 then jm_bV (f_M_take K g 19 1 x) (fun x52 => J_M_sign_768 K g x52) else (if a1 = 94 then jm_bV (f_M_take K g 25 1 x) (fun x53 => J_M_sign_768 K g x53) else (if a1 = 95 then jm_bV (f_M_take K g 25 1 x) (fun x54 => J_M_sign_768 K g x54) else (if a1 = 96 then jm_bV (f_M_take K g 25 1 x) (fun x55 => J_M_sign_768 K g x55) else (if a1 = 97 then jm_bV (f_M_take K g 25 1 x) (fun x56 => J_M_sign_768 K g x56) else (if a1 = 98 then jm_bV (f_M_take K g 25 1 x) (fun x57 => J_M_sign_768 K g x57) else (if a1 = 99 then jm_bV (f_M_take K g 25 1 x) (fun x58 => J_M_sign_768 K g x58) else (if a1 = 100 then jm_bV (f_M_take K g 25 1 x) (fun x59 => J_M_sign_768 K g x59) else (if a1 = 101 then jm_bV (f_M_take K g 25 1 x) (fun x60 => J_M_sign_768 K g x60) else (if a1 = 102 then jm_bV (f_M_take K g 25 1 x) (fun x61 => J_M_sign_768 K g x61) else (if a1 = 103 then jm_bV (f_M_take K g 25 1 x) (fun x62 => J_M_sign_768 K g x62) else (if a1 = 104 then jm_bV (f_M_take K g 25 1 x) (fun x63 => J_M_sign_768 K g x63) else (if a1 = 105 then jm_bV (f_M_take K g 25 1 x) (fun x64 => J_M_sign_768 K g x64) else (if a1 = 106 then jm_bV (f_M_take K g 25 1 x) (fun x65 => J_M_sign_768 K g x65) else (if a1 = 107 then jm_bV (f_M_take K g 25 1 x) (fun x66 => J_M_sign_768 K g x66) else (if a1 = 108 then jm_bV (f_M_take K g 25 1 x) (fun x67 => J_M_sign_768 K g x67) else (if a1 = 109 then jm_bV (f_M_take K g 25 1 x) (fun x68 => J_M_sign_768 K g x68) else (if a1 = 110 then jm_bV (f_M_take K g 25 1 x) (fun x69 => J_M_sign_768 K g x69) else (if a1 = 111 then jm_bV (f_M_take K g 25 1 x) (fun x70 => J_M_sign_768 K g x70) else (if a1 = 112 then jm_bV (f_M_take K g 25 1 x) (fun x71 => J_M_sign_768 K g x71) else (if a1 = 113 then jm_bV (f_M_take K g 25 1 x) (fun x72 => J_M_sign_768 K g x72) else (if a1 = 114 then jm_bV (f_M_take K g 25 1 x) (fun x73 => J_M_sign_768 K g x73) else (if a1 = 115 then jm_bV (f_M_take K g 25 1 x) (fun x74 => J_M_sign_768 K g x74) else (if a1 = 116 then jm_bV (f_M_take K g 25 1 x) (fun x75 => J_M_sign_768 K g x75) else (if a1 = 117 then jm_bV (f_M_take K g 25 1 x) (fun x76 => J_M_sign_768 K g x76) else (if a1 = 118 then jm_bV (f_M_take K g 25 1 x) (fun x77 => J_M_sign_768 K g x77) else (if a1 = 119 then jm_bV (f_M_take K g 25 1 x) (fun x78 => J_M_sign_768 K g x78) else (if a1 = 120 then jm_bV (f_M_take K g 25 1 x) (fun x79 => J_M_sign_768 K g x79) else (if a1 = 121 then jm_bV (f_M_take K g 25 1 x) (fun x80 => J_M_sign_768 K g x80) else (if a1 = 122 then jm_bV (f_M_take K g 25 1 x) (fun x81 => J_M_sign_768 K g x81) else (if a1 = 123 then jm_bV (f_M_take K g 20 1 x) (fun x82 => J_M_sign_768 K g x82) else (if a1 = 124 then (if a2 = 61 then J_M_sign_411 K g a2 9 x else J_M_sign_411 K g a2 6 x) else (if a1 = 125 then jm_bV (f_M_take K g 21 1 x) (fun x83 => J_M_sign_768 K g x83) else jm_bV (f_M_take K g 25 1 x) (fun x84 => J_M_sign_768 K g x84))))))))))))))))))))))))))))))))))))))))))))))))))))))))))))))))))))))))))))))))))))))))))))))
set_option maxRecDepth 100000 in
set_option maxHeartbeats 4000000 in
theorem c_M_sign {l : Launch} {D : va_G} {ad : Nat → Nat} {aC : Nat → ClassId} {b0 : Nat} {K d0 : Nat} {g : jm_Rec} (hok : jm_Ok (jm_PP l D clR ad aC shR b0 0)) (hrec : ∀ (t : Nat) (av : List Value) (x : jm_X), jm_Con (jm_PP l D clR ad aC shR b0 0) (rcR t) d0 av x (g t av x)) (a1 : Int32) (a2 : Int32) (a3 : Int32) (x : jm_X) : jm_Con (jm_PP l D clR ad aC shR b0 0) mt_M_sign (d0 + 2) [.ref 0, .int a1, .int a2, .int a3] x (f_M_sign K g a1 a2 a3 x) := by
  refine jm_Con.of (plainFor_of_name (by decide +kernel)) (Nat.le_of_ble_eq_true rfl) ?_
  have hT := tk_M (l := l) (D := D) (ad := ad) (aC := aC) (b0 := b0)
  unfold f_M_sign
  show jm_V _ _ _ 0 [(0, .ref 0), (1, .int a1), (2, .int a2), (3, .int a3)] [] x _
  refine jm_V.run (is := bk_M_sign_0_1) (pc' := 1) (ls' := [(0, .ref 0), (1, .int a1), (2, .int a2), (3, .int a3)]) (st' := [.int a1]) (x' := x) hok hT bk_M_sign_0_1_ok rfl ?_
  refine jm_V.tsw dd_M_sign_1 (by decide +kernel) (by decide +kernel) ?_
  refine jm_V.pc_ (pc' := (if a1 = 33 then 537 else (if a1 = 34 then 388 else (if a1 = 35 then 761 else (if a1 = 36 then 761 else (if a1 = 37 then 640 else (if a1 = 38 then 761 else (if a1 = 39 then 761 else (if a1 = 40 then 671 else (if a1 = 41 then 681 else (if a1 = 42 then 640 else (if a1 = 43 then 578 else (if a1 = 44 then 428 else (if a1 = 45 then 609 else (if a1 = 46 then 761 else (if a1 = 47 then 438 else (if a1 = 48 then 761 else (if a1 = 49 then 761 else (if a1 = 50 then 761 else (if a1 = 51 then 761 else (if a1 = 52 then 761 else (if a1 = 53 then 761 else (if a1 = 54 then 761 else (if a1 = 55 then 761 else (if a1 = 56 then 761 else (if a1 = 57 then 761 else (if a1 = 58 then 731 else (if a1 = 59 then 741 else (if a1 = 60 then 558 else (if a1 = 61 then 506 else (if a1 = 62 then 558 else (if a1 = 63 then 751 else (if a1 = 64 then 761 else (if a1 = 65 then 761 else (if a1 = 66 then 761 else (if a1 = 67 then 761 else (if a1 = 68 then 761 else (if a1 = 69 then 761 else (if a1 = 70 then 761 else (if a1 = 71 then 761 else (if a1 = 72 then 761 else (if a1 = 73 then 761 else (if a1 = 74 then 761 else (if a1 = 75 then 761 else (if a1 = 76 then 761 else (if a1 = 77 then 761 else (if a1 = 78 then 761 else (if a1 = 79 then 761 else (if a1 = 80 then 761 else (if a1 = 81 then 761 else (if a1 = 82 then 761 else (if a1 = 83 then 761 else (if a1 = 84 then 761 else (if a1 = 85 then 761 else (if a1 = 86 then 761 else (if a1 = 87 then 761 else (if a1 = 88 then 761 else (if a1 = 89 then 761 else (if a1 = 90 then 761 else (if a1 = 91 then 691 else (if a1 = 92 then 761 else (if a1 = 93 then 701 else (if a1 = 94 then 761 else (if a1 = 95 then 761 else (if a1 = 96 then 761 else (if a1 = 97 then 761 else (if a1 = 98 then 761 else (if a1 = 99 then 761 else (if a1 = 100 then 761 else (if a1 = 101 then 761 else (if a1 = 102 then 761 else (if a1 = 103 then 761 else (if a1 = 104 then 761 else (if a1 = 105 then 761 else (if a1 = 106 then 761 else (if a1 = 107 then 761 else (if a1 = 108 then 761 else (if a1 = 109 then 761 else (if a1 = 110 then 761 else (if a1 = 111 then 761 else (if a1 = 112 then 761 else (if a1 = 113 then 761 else (if a1 = 114 then 761 else (if a1 = 115 then 761 else (if a1 = 116 then 761 else (if a1 = 117 then 761 else (if a1 = 118 then 761 else (if a1 = 119 then 761 else (if a1 = 120 then 761 else (if a1 = 121 then 761 else (if a1 = 122 then 761 else (if a1 = 123 then 711 else (if a1 = 124 then 397 else (if a1 = 125 then 721 else 761)))))))))))))))))))))))))))))))))))))))))))))))))))))))))))))))))))))))))))))))))))))))))))))) rfl ?_
  refine jm_V.ite (fun _ => ?_) (fun _ => ?_)
  · refine jm_V.run (is := bk_M_sign_537_4) (pc' := (if a2 = 61 then 544 else 549)) (ls' := [(0, .ref 0), (1, .int a1), (2, .int a2), (3, .int a3)]) (st' := [.ref 0]) (x' := x) hok hT bk_M_sign_537_4_ok rfl ?_
    refine jm_V.ite (fun _ => ?_) (fun _ => ?_)
    · refine jm_V.run (is := bk_M_sign_544_2) (pc' := 551) (ls' := [(0, .ref 0), (1, .int a1), (2, .int a2), (3, .int a3)]) (st' := [.int 10, .ref 0]) (x' := x) hok hT bk_M_sign_544_2_ok rfl ?_
      refine jm_V.sub (ls' := []) [] rfl ?_
      exact jj_M_sign_551 hok hrec 10 x
    · refine jm_V.run (is := bk_M_sign_549_1) (pc' := 551) (ls' := [(0, .ref 0), (1, .int a1), (2, .int a2), (3, .int a3)]) (st' := [.int 25, .ref 0]) (x' := x) hok hT bk_M_sign_549_1_ok rfl ?_
      refine jm_V.sub (ls' := []) [] rfl ?_
      exact jj_M_sign_551 hok hrec 25 x
  refine jm_V.ite (fun _ => ?_) (fun _ => ?_)
  · refine jm_V.run (is := bk_M_sign_388_3) (pc' := 391) (ls' := [(0, .ref 0), (1, .int a1), (2, .int a2), (3, .int a3)]) (st' := [.int 1, .int 5, .ref 0]) (x' := x) hok hT bk_M_sign_388_3_ok rfl ?_
    refine jm_V.callV (av := [.ref 0, .int 5, .int 1]) (rest := []) hok (jm_Con.mono (c_M_take hok hrec 5 1 x) (by omega)) (jm_Inv.obj (q := ("FilterReaderModel", T_M, 22)) dd_M_sign_391 (Or.inl lk_M_151) mn_M_take ms_M_take mw_M_take mh_M_take ml_M_take rfl rfl) mw_M_take mi_M (Nat.le_of_ble_eq_true rfl) (Nat.le_of_ble_eq_true rfl) (fun x1 => ?_)
    refine jm_V.run (is := bk_M_sign_394_1) (pc' := 768) (ls' := [(0, .ref 0), (1, .int a1), (2, .int a2), (3, .int a3)]) (st' := []) (x' := x1) hok hT bk_M_sign_394_1_ok rfl ?_
    refine jm_V.sub (ls' := []) [] rfl ?_
    exact jj_M_sign_768 hok hrec x1
  refine jm_V.ite (fun _ => ?_) (fun _ => ?_)
  · refine jm_V.run (is := bk_M_sign_761_3) (pc' := 765) (ls' := [(0, .ref 0), (1, .int a1), (2, .int a2), (3, .int a3)]) (st' := [.int 1, .int 25, .ref 0]) (x' := x) hok hT bk_M_sign_761_3_ok rfl ?_
    refine jm_V.callV (av := [.ref 0, .int 25, .int 1]) (rest := []) hok (jm_Con.mono (c_M_take hok hrec 25 1 x) (by omega)) (jm_Inv.obj (q := ("FilterReaderModel", T_M, 22)) dd_M_sign_765 (Or.inl lk_M_151) mn_M_take ms_M_take mw_M_take mh_M_take ml_M_take rfl rfl) mw_M_take mi_M (Nat.le_of_ble_eq_true rfl) (Nat.le_of_ble_eq_true rfl) (fun x2 => ?_)
    refine jm_V.sub (ls' := []) [] rfl ?_
    exact jj_M_sign_768 hok hrec x2
  refine jm_V.ite (fun _ => ?_) (fun _ => ?_)
  · refine jm_V.run (is := bk_M_sign_761_3) (pc' := 765) (ls' := [(0, .ref 0), (1, .int a1), (2, .int a2), (3, .int a3)]) (st' := [.int 1, .int 25, .ref 0]) (x' := x) hok hT bk_M_sign_761_3_ok rfl ?_
    refine jm_V.callV (av := [.ref 0, .int 25, .int 1]) (rest := []) hok (jm_Con.mono (c_M_take hok hrec 25 1 x) (by omega)) (jm_Inv.obj (q := ("FilterReaderModel", T_M, 22)) dd_M_sign_765 (Or.inl lk_M_151) mn_M_take ms_M_take mw_M_take mh_M_take ml_M_take rfl rfl) mw_M_take mi_M (Nat.le_of_ble_eq_true rfl) (Nat.le_of_ble_eq_true rfl) (fun x3 => ?_)
    refine jm_V.sub (ls' := []) [] rfl ?_
    exact jj_M_sign_768 hok hrec x3
  refine jm_V.ite (fun _ => ?_) (fun _ => ?_)
  · refine jm_V.run (is := bk_M_sign_640_4) (pc' := (if a2 = 61 then 647 else 652)) (ls' := [(0, .ref 0), (1, .int a1), (2, .int a2), (3, .int a3)]) (st' := [.ref 0]) (x' := x) hok hT bk_M_sign_640_4_ok rfl ?_
    refine jm_V.ite (fun _ => ?_) (fun _ => ?_)
    · refine jm_V.run (is := bk_M_sign_647_2) (pc' := 654) (ls' := [(0, .ref 0), (1, .int a1), (2, .int a2), (3, .int a3)]) (st' := [.int 9, .ref 0]) (x' := x) hok hT bk_M_sign_647_2_ok rfl ?_
      refine jm_V.sub (ls' := [(2, .int a2)]) [2] rfl ?_
      exact jj_M_sign_654 hok hrec a2 9 x
    · refine jm_V.run (is := bk_M_sign_652_1) (pc' := 654) (ls' := [(0, .ref 0), (1, .int a1), (2, .int a2), (3, .int a3)]) (st' := [.int 13, .ref 0]) (x' := x) hok hT bk_M_sign_652_1_ok rfl ?_
      refine jm_V.sub (ls' := [(2, .int a2)]) [2] rfl ?_
      exact jj_M_sign_654 hok hrec a2 13 x
  refine jm_V.ite (fun _ => ?_) (fun _ => ?_)
  · refine jm_V.run (is := bk_M_sign_761_3) (pc' := 765) (ls' := [(0, .ref 0), (1, .int a1), (2, .int a2), (3, .int a3)]) (st' := [.int 1, .int 25, .ref 0]) (x' := x) hok hT bk_M_sign_761_3_ok rfl ?_
    refine jm_V.callV (av := [.ref 0, .int 25, .int 1]) (rest := []) hok (jm_Con.mono (c_M_take hok hrec 25 1 x) (by omega)) (jm_Inv.obj (q := ("FilterReaderModel", T_M, 22)) dd_M_sign_765 (Or.inl lk_M_151) mn_M_take ms_M_take mw_M_take mh_M_take ml_M_take rfl rfl) mw_M_take mi_M (Nat.le_of_ble_eq_true rfl) (Nat.le_of_ble_eq_true rfl) (fun x4 => ?_)
    refine jm_V.sub (ls' := []) [] rfl ?_
    exact jj_M_sign_768 hok hrec x4
  refine jm_V.ite (fun _ => ?_) (fun _ => ?_)
  · refine jm_V.run (is := bk_M_sign_761_3) (pc' := 765) (ls' := [(0, .ref 0), (1, .int a1), (2, .int a2), (3, .int a3)]) (st' := [.int 1, .int 25, .ref 0]) (x' := x) hok hT bk_M_sign_761_3_ok rfl ?_
    refine jm_V.callV (av := [.ref 0, .int 25, .int 1]) (rest := []) hok (jm_Con.mono (c_M_take hok hrec 25 1 x) (by omega)) (jm_Inv.obj (q := ("FilterReaderModel", T_M, 22)) dd_M_sign_765 (Or.inl lk_M_151) mn_M_take ms_M_take mw_M_take mh_M_take ml_M_take rfl rfl) mw_M_take mi_M (Nat.le_of_ble_eq_true rfl) (Nat.le_of_ble_eq_true rfl) (fun x5 => ?_)
    refine jm_V.sub (ls' := []) [] rfl ?_
    exact jj_M_sign_768 hok hrec x5
  refine jm_V.ite (fun _ => ?_) (fun _ => ?_)
  · refine jm_V.run (is := bk_M_sign_671_3) (pc' := 675) (ls' := [(0, .ref 0), (1, .int a1), (2, .int a2), (3, .int a3)]) (st' := [.int 1, .int 16, .ref 0]) (x' := x) hok hT bk_M_sign_671_3_ok rfl ?_
    refine jm_V.callV (av := [.ref 0, .int 16, .int 1]) (rest := []) hok (jm_Con.mono (c_M_take hok hrec 16 1 x) (by omega)) (jm_Inv.obj (q := ("FilterReaderModel", T_M, 22)) dd_M_sign_675 (Or.inl lk_M_151) mn_M_take ms_M_take mw_M_take mh_M_take ml_M_take rfl rfl) mw_M_take mi_M (Nat.le_of_ble_eq_true rfl) (Nat.le_of_ble_eq_true rfl) (fun x6 => ?_)
    refine jm_V.run (is := bk_M_sign_678_1) (pc' := 768) (ls' := [(0, .ref 0), (1, .int a1), (2, .int a2), (3, .int a3)]) (st' := []) (x' := x6) hok hT bk_M_sign_678_1_ok rfl ?_
    refine jm_V.sub (ls' := []) [] rfl ?_
    exact jj_M_sign_768 hok hrec x6
  refine jm_V.ite (fun _ => ?_) (fun _ => ?_)
  · refine jm_V.run (is := bk_M_sign_681_3) (pc' := 685) (ls' := [(0, .ref 0), (1, .int a1), (2, .int a2), (3, .int a3)]) (st' := [.int 1, .int 17, .ref 0]) (x' := x) hok hT bk_M_sign_681_3_ok rfl ?_
    refine jm_V.callV (av := [.ref 0, .int 17, .int 1]) (rest := []) hok (jm_Con.mono (c_M_take hok hrec 17 1 x) (by omega)) (jm_Inv.obj (q := ("FilterReaderModel", T_M, 22)) dd_M_sign_685 (Or.inl lk_M_151) mn_M_take ms_M_take mw_M_take mh_M_take ml_M_take rfl rfl) mw_M_take mi_M (Nat.le_of_ble_eq_true rfl) (Nat.le_of_ble_eq_true rfl) (fun x7 => ?_)
    refine jm_V.run (is := bk_M_sign_688_1) (pc' := 768) (ls' := [(0, .ref 0), (1, .int a1), (2, .int a2), (3, .int a3)]) (st' := []) (x' := x7) hok hT bk_M_sign_688_1_ok rfl ?_
    refine jm_V.sub (ls' := []) [] rfl ?_
    exact jj_M_sign_768 hok hrec x7
  refine jm_V.ite (fun _ => ?_) (fun _ => ?_)
  · refine jm_V.run (is := bk_M_sign_640_4) (pc' := (if a2 = 61 then 647 else 652)) (ls' := [(0, .ref 0), (1, .int a1), (2, .int a2), (3, .int a3)]) (st' := [.ref 0]) (x' := x) hok hT bk_M_sign_640_4_ok rfl ?_
    refine jm_V.ite (fun _ => ?_) (fun _ => ?_)
    · refine jm_V.run (is := bk_M_sign_647_2) (pc' := 654) (ls' := [(0, .ref 0), (1, .int a1), (2, .int a2), (3, .int a3)]) (st' := [.int 9, .ref 0]) (x' := x) hok hT bk_M_sign_647_2_ok rfl ?_
      refine jm_V.sub (ls' := [(2, .int a2)]) [2] rfl ?_
      exact jj_M_sign_654 hok hrec a2 9 x
    · refine jm_V.run (is := bk_M_sign_652_1) (pc' := 654) (ls' := [(0, .ref 0), (1, .int a1), (2, .int a2), (3, .int a3)]) (st' := [.int 13, .ref 0]) (x' := x) hok hT bk_M_sign_652_1_ok rfl ?_
      refine jm_V.sub (ls' := [(2, .int a2)]) [2] rfl ?_
      exact jj_M_sign_654 hok hrec a2 13 x
  refine jm_V.ite (fun _ => ?_) (fun _ => ?_)
  · refine jm_V.run (is := bk_M_sign_578_4) (pc' := (if a2 = 61 then 585 else 590)) (ls' := [(0, .ref 0), (1, .int a1), (2, .int a2), (3, .int a3)]) (st' := [.ref 0]) (x' := x) hok hT bk_M_sign_578_4_ok rfl ?_
    refine jm_V.ite (fun _ => ?_) (fun _ => ?_)
    · refine jm_V.run (is := bk_M_sign_585_2) (pc' := 592) (ls' := [(0, .ref 0), (1, .int a1), (2, .int a2), (3, .int a3)]) (st' := [.int 9, .ref 0]) (x' := x) hok hT bk_M_sign_585_2_ok rfl ?_
      refine jm_V.sub (ls' := [(2, .int a2)]) [2] rfl ?_
      exact jj_M_sign_592 hok hrec a2 9 x
    · refine jm_V.run (is := bk_M_sign_590_1) (pc' := 592) (ls' := [(0, .ref 0), (1, .int a1), (2, .int a2), (3, .int a3)]) (st' := [.int 11, .ref 0]) (x' := x) hok hT bk_M_sign_590_1_ok rfl ?_
      refine jm_V.sub (ls' := [(2, .int a2)]) [2] rfl ?_
      exact jj_M_sign_592 hok hrec a2 11 x
  refine jm_V.ite (fun _ => ?_) (fun _ => ?_)
  · refine jm_V.run (is := bk_M_sign_428_3) (pc' := 432) (ls' := [(0, .ref 0), (1, .int a1), (2, .int a2), (3, .int a3)]) (st' := [.int 1, .int 7, .ref 0]) (x' := x) hok hT bk_M_sign_428_3_ok rfl ?_
    refine jm_V.callV (av := [.ref 0, .int 7, .int 1]) (rest := []) hok (jm_Con.mono (c_M_take hok hrec 7 1 x) (by omega)) (jm_Inv.obj (q := ("FilterReaderModel", T_M, 22)) dd_M_sign_432 (Or.inl lk_M_151) mn_M_take ms_M_take mw_M_take mh_M_take ml_M_take rfl rfl) mw_M_take mi_M (Nat.le_of_ble_eq_true rfl) (Nat.le_of_ble_eq_true rfl) (fun x8 => ?_)
    refine jm_V.run (is := bk_M_sign_435_1) (pc' := 768) (ls' := [(0, .ref 0), (1, .int a1), (2, .int a2), (3, .int a3)]) (st' := []) (x' := x8) hok hT bk_M_sign_435_1_ok rfl ?_
    refine jm_V.sub (ls' := []) [] rfl ?_
    exact jj_M_sign_768 hok hrec x8
  refine jm_V.ite (fun _ => ?_) (fun _ => ?_)
  · refine jm_V.run (is := bk_M_sign_609_4) (pc' := (if a2 = 61 then 616 else 621)) (ls' := [(0, .ref 0), (1, .int a1), (2, .int a2), (3, .int a3)]) (st' := [.ref 0]) (x' := x) hok hT bk_M_sign_609_4_ok rfl ?_
    refine jm_V.ite (fun _ => ?_) (fun _ => ?_)
    · refine jm_V.run (is := bk_M_sign_616_2) (pc' := 623) (ls' := [(0, .ref 0), (1, .int a1), (2, .int a2), (3, .int a3)]) (st' := [.int 9, .ref 0]) (x' := x) hok hT bk_M_sign_616_2_ok rfl ?_
      refine jm_V.sub (ls' := [(2, .int a2)]) [2] rfl ?_
      exact jj_M_sign_623 hok hrec a2 9 x
    · refine jm_V.run (is := bk_M_sign_621_1) (pc' := 623) (ls' := [(0, .ref 0), (1, .int a1), (2, .int a2), (3, .int a3)]) (st' := [.int 12, .ref 0]) (x' := x) hok hT bk_M_sign_621_1_ok rfl ?_
      refine jm_V.sub (ls' := [(2, .int a2)]) [2] rfl ?_
      exact jj_M_sign_623 hok hrec a2 12 x
  refine jm_V.ite (fun _ => ?_) (fun _ => ?_)
  · refine jm_V.run (is := bk_M_sign_761_3) (pc' := 765) (ls' := [(0, .ref 0), (1, .int a1), (2, .int a2), (3, .int a3)]) (st' := [.int 1, .int 25, .ref 0]) (x' := x) hok hT bk_M_sign_761_3_ok rfl ?_
    refine jm_V.callV (av := [.ref 0, .int 25, .int 1]) (rest := []) hok (jm_Con.mono (c_M_take hok hrec 25 1 x) (by omega)) (jm_Inv.obj (q := ("FilterReaderModel", T_M, 22)) dd_M_sign_765 (Or.inl lk_M_151) mn_M_take ms_M_take mw_M_take mh_M_take ml_M_take rfl rfl) mw_M_take mi_M (Nat.le_of_ble_eq_true rfl) (Nat.le_of_ble_eq_true rfl) (fun x9 => ?_)
    refine jm_V.sub (ls' := []) [] rfl ?_
    exact jj_M_sign_768 hok hrec x9
  refine jm_V.ite (fun _ => ?_) (fun _ => ?_)
  · refine jm_V.run (is := bk_M_sign_438_3) (pc' := (if a2 = 47 then 444 else 475)) (ls' := [(0, .ref 0), (1, .int a1), (2, .int a2), (3, .int a3)]) (st' := []) (x' := x) hok hT bk_M_sign_438_3_ok rfl ?_
    refine jm_V.ite (fun _ => ?_) (fun _ => ?_)
    · refine jm_V.run (is := bk_M_sign_444_4) (pc' := (if a3 = 61 then 451 else 456)) (ls' := [(0, .ref 0), (1, .int a1), (2, .int a2), (3, .int a3)]) (st' := [.ref 0]) (x' := x) hok hT bk_M_sign_444_4_ok rfl ?_
      refine jm_V.ite (fun _ => ?_) (fun _ => ?_)
      · refine jm_V.run (is := bk_M_sign_451_2) (pc' := 458) (ls' := [(0, .ref 0), (1, .int a1), (2, .int a2), (3, .int a3)]) (st' := [.int 9, .ref 0]) (x' := x) hok hT bk_M_sign_451_2_ok rfl ?_
        refine jm_V.sub (ls' := [(3, .int a3)]) [3] rfl ?_
        exact jj_M_sign_458 hok hrec a3 9 x
      · refine jm_V.run (is := bk_M_sign_456_1) (pc' := 458) (ls' := [(0, .ref 0), (1, .int a1), (2, .int a2), (3, .int a3)]) (st' := [.int 8, .ref 0]) (x' := x) hok hT bk_M_sign_456_1_ok rfl ?_
        refine jm_V.sub (ls' := [(3, .int a3)]) [3] rfl ?_
        exact jj_M_sign_458 hok hrec a3 8 x
    · refine jm_V.run (is := bk_M_sign_475_4) (pc' := (if a2 = 61 then 482 else 487)) (ls' := [(0, .ref 0), (1, .int a1), (2, .int a2), (3, .int a3)]) (st' := [.ref 0]) (x' := x) hok hT bk_M_sign_475_4_ok rfl ?_
      refine jm_V.ite (fun _ => ?_) (fun _ => ?_)
      · refine jm_V.run (is := bk_M_sign_482_2) (pc' := 489) (ls' := [(0, .ref 0), (1, .int a1), (2, .int a2), (3, .int a3)]) (st' := [.int 9, .ref 0]) (x' := x) hok hT bk_M_sign_482_2_ok rfl ?_
        refine jm_V.sub (ls' := [(2, .int a2)]) [2] rfl ?_
        exact jj_M_sign_489 hok hrec a2 9 x
      · refine jm_V.run (is := bk_M_sign_487_1) (pc' := 489) (ls' := [(0, .ref 0), (1, .int a1), (2, .int a2), (3, .int a3)]) (st' := [.int 13, .ref 0]) (x' := x) hok hT bk_M_sign_487_1_ok rfl ?_
        refine jm_V.sub (ls' := [(2, .int a2)]) [2] rfl ?_
        exact jj_M_sign_489 hok hrec a2 13 x
  refine jm_V.ite (fun _ => ?_) (fun _ => ?_)
  · refine jm_V.run (is := bk_M_sign_761_3) (pc' := 765) (ls' := [(0, .ref 0), (1, .int a1), (2, .int a2), (3, .int a3)]) (st' := [.int 1, .int 25, .ref 0]) (x' := x) hok hT bk_M_sign_761_3_ok rfl ?_
    refine jm_V.callV (av := [.ref 0, .int 25, .int 1]) (rest := []) hok (jm_Con.mono (c_M_take hok hrec 25 1 x) (by omega)) (jm_Inv.obj (q := ("FilterReaderModel", T_M, 22)) dd_M_sign_765 (Or.inl lk_M_151) mn_M_take ms_M_take mw_M_take mh_M_take ml_M_take rfl rfl) mw_M_take mi_M (Nat.le_of_ble_eq_true rfl) (Nat.le_of_ble_eq_true rfl) (fun x10 => ?_)
    refine jm_V.sub (ls' := []) [] rfl ?_
    exact jj_M_sign_768 hok hrec x10
  refine jm_V.ite (fun _ => ?_) (fun _ => ?_)
  · refine jm_V.run (is := bk_M_sign_761_3) (pc' := 765) (ls' := [(0, .ref 0), (1, .int a1), (2, .int a2), (3, .int a3)]) (st' := [.int 1, .int 25, .ref 0]) (x' := x) hok hT bk_M_sign_761_3_ok rfl ?_
    refine jm_V.callV (av := [.ref 0, .int 25, .int 1]) (rest := []) hok (jm_Con.mono (c_M_take hok hrec 25 1 x) (by omega)) (jm_Inv.obj (q := ("FilterReaderModel", T_M, 22)) dd_M_sign_765 (Or.inl lk_M_151) mn_M_take ms_M_take mw_M_take mh_M_take ml_M_take rfl rfl) mw_M_take mi_M (Nat.le_of_ble_eq_true rfl) (Nat.le_of_ble_eq_true rfl) (fun x11 => ?_)
    refine jm_V.sub (ls' := []) [] rfl ?_
    exact jj_M_sign_768 hok hrec x11
  refine jm_V.ite (fun _ => ?_) (fun _ => ?_)
  · refine jm_V.run (is := bk_M_sign_761_3) (pc' := 765) (ls' := [(0, .ref 0), (1, .int a1), (2, .int a2), (3, .int a3)]) (st' := [.int 1, .int 25, .ref 0]) (x' := x) hok hT bk_M_sign_761_3_ok rfl ?_
    refine jm_V.callV (av := [.ref 0, .int 25, .int 1]) (rest := []) hok (jm_Con.mono (c_M_take hok hrec 25 1 x) (by omega)) (jm_Inv.obj (q := ("FilterReaderModel", T_M, 22)) dd_M_sign_765 (Or.inl lk_M_151) mn_M_take ms_M_take mw_M_take mh_M_take ml_M_take rfl rfl) mw_M_take mi_M (Nat.le_of_ble_eq_true rfl) (Nat.le_of_ble_eq_true rfl) (fun x12 => ?_)
    refine jm_V.sub (ls' := []) [] rfl ?_
    exact jj_M_sign_768 hok hrec x12
  refine jm_V.ite (fun _ => ?_) (fun _ => ?_)
  · refine jm_V.run (is := bk_M_sign_761_3) (pc' := 765) (ls' := [(0, .ref 0), (1, .int a1), (2, .int a2), (3, .int a3)]) (st' := [.int 1, .int 25, .ref 0]) (x' := x) hok hT bk_M_sign_761_3_ok rfl ?_
    refine jm_V.callV (av := [.ref 0, .int 25, .int 1]) (rest := []) hok (jm_Con.mono (c_M_take hok hrec 25 1 x) (by omega)) (jm_Inv.obj (q := ("FilterReaderModel", T_M, 22)) dd_M_sign_765 (Or.inl lk_M_151) mn_M_take ms_M_take mw_M_take mh_M_take ml_M_take rfl rfl) mw_M_take mi_M (Nat.le_of_ble_eq_true rfl) (Nat.le_of_ble_eq_true rfl) (fun x13 => ?_)
    refine jm_V.sub (ls' := []) [] rfl ?_
    exact jj_M_sign_768 hok hrec x13
  refine jm_V.ite (fun _ => ?_) (fun _ => ?_)
  · refine jm_V.run (is := bk_M_sign_761_3) (pc' := 765) (ls' := [(0, .ref 0), (1, .int a1), (2, .int a2), (3, .int a3)]) (st' := [.int 1, .int 25, .ref 0]) (x' := x) hok hT bk_M_sign_761_3_ok rfl ?_
    refine jm_V.callV (av := [.ref 0, .int 25, .int 1]) (rest := []) hok (jm_Con.mono (c_M_take hok hrec 25 1 x) (by omega)) (jm_Inv.obj (q := ("FilterReaderModel", T_M, 22)) dd_M_sign_765 (Or.inl lk_M_151) mn_M_take ms_M_take mw_M_take mh_M_take ml_M_take rfl rfl) mw_M_take mi_M (Nat.le_of_ble_eq_true rfl) (Nat.le_of_ble_eq_true rfl) (fun x14 => ?_)
    refine jm_V.sub (ls' := []) [] rfl ?_
    exact jj_M_sign_768 hok hrec x14
  refine jm_V.ite (fun _ => ?_) (fun _ => ?_)
  · refine jm_V.run (is := bk_M_sign_761_3) (pc' := 765) (ls' := [(0, .ref 0), (1, .int a1), (2, .int a2), (3, .int a3)]) (st' := [.int 1, .int 25, .ref 0]) (x' := x) hok hT bk_M_sign_761_3_ok rfl ?_
    refine jm_V.callV (av := [.ref 0, .int 25, .int 1]) (rest := []) hok (jm_Con.mono (c_M_take hok hrec 25 1 x) (by omega)) (jm_Inv.obj (q := ("FilterReaderModel", T_M, 22)) dd_M_sign_765 (Or.inl lk_M_151) mn_M_take ms_M_take mw_M_take mh_M_take ml_M_take rfl rfl) mw_M_take mi_M (Nat.le_of_ble_eq_true rfl) (Nat.le_of_ble_eq_true rfl) (fun x15 => ?_)
    refine jm_V.sub (ls' := []) [] rfl ?_
    exact jj_M_sign_768 hok hrec x15
  refine jm_V.ite (fun _ => ?_) (fun _ => ?_)
  · refine jm_V.run (is := bk_M_sign_761_3) (pc' := 765) (ls' := [(0, .ref 0), (1, .int a1), (2, .int a2), (3, .int a3)]) (st' := [.int 1, .int 25, .ref 0]) (x' := x) hok hT bk_M_sign_761_3_ok rfl ?_
    refine jm_V.callV (av := [.ref 0, .int 25, .int 1]) (rest := []) hok (jm_Con.mono (c_M_take hok hrec 25 1 x) (by omega)) (jm_Inv.obj (q := ("FilterReaderModel", T_M, 22)) dd_M_sign_765 (Or.inl lk_M_151) mn_M_take ms_M_take mw_M_take mh_M_take ml_M_take rfl rfl) mw_M_take mi_M (Nat.le_of_ble_eq_true rfl) (Nat.le_of_ble_eq_true rfl) (fun x16 => ?_)
    refine jm_V.sub (ls' := []) [] rfl ?_
    exact jj_M_sign_768 hok hrec x16
  refine jm_V.ite (fun _ => ?_) (fun _ => ?_)
  · refine jm_V.run (is := bk_M_sign_761_3) (pc' := 765) (ls' := [(0, .ref 0), (1, .int a1), (2, .int a2), (3, .int a3)]) (st' := [.int 1, .int 25, .ref 0]) (x' := x) hok hT bk_M_sign_761_3_ok rfl ?_
    refine jm_V.callV (av := [.ref 0, .int 25, .int 1]) (rest := []) hok (jm_Con.mono (c_M_take hok hrec 25 1 x) (by omega)) (jm_Inv.obj (q := ("FilterReaderModel", T_M, 22)) dd_M_sign_765 (Or.inl lk_M_151) mn_M_take ms_M_take mw_M_take mh_M_take ml_M_take rfl rfl) mw_M_take mi_M (Nat.le_of_ble_eq_true rfl) (Nat.le_of_ble_eq_true rfl) (fun x17 => ?_)
    refine jm_V.sub (ls' := []) [] rfl ?_
    exact jj_M_sign_768 hok hrec x17
  refine jm_V.ite (fun _ => ?_) (fun _ => ?_)
  · refine jm_V.run (is := bk_M_sign_761_3) (pc' := 765) (ls' := [(0, .ref 0), (1, .int a1), (2, .int a2), (3, .int a3)]) (st' := [.int 1, .int 25, .ref 0]) (x' := x) hok hT bk_M_sign_761_3_ok rfl ?_
    refine jm_V.callV (av := [.ref 0, .int 25, .int 1]) (rest := []) hok (jm_Con.mono (c_M_take hok hrec 25 1 x) (by omega)) (jm_Inv.obj (q := ("FilterReaderModel", T_M, 22)) dd_M_sign_765 (Or.inl lk_M_151) mn_M_take ms_M_take mw_M_take mh_M_take ml_M_take rfl rfl) mw_M_take mi_M (Nat.le_of_ble_eq_true rfl) (Nat.le_of_ble_eq_true rfl) (fun x18 => ?_)
    refine jm_V.sub (ls' := []) [] rfl ?_
    exact jj_M_sign_768 hok hrec x18
  refine jm_V.ite (fun _ => ?_) (fun _ => ?_)
  · refine jm_V.run (is := bk_M_sign_761_3) (pc' := 765) (ls' := [(0, .ref 0), (1, .int a1), (2, .int a2), (3, .int a3)]) (st' := [.int 1, .int 25, .ref 0]) (x' := x) hok hT bk_M_sign_761_3_ok rfl ?_
    refine jm_V.callV (av := [.ref 0, .int 25, .int 1]) (rest := []) hok (jm_Con.mono (c_M_take hok hrec 25 1 x) (by omega)) (jm_Inv.obj (q := ("FilterReaderModel", T_M, 22)) dd_M_sign_765 (Or.inl lk_M_151) mn_M_take ms_M_take mw_M_take mh_M_take ml_M_take rfl rfl) mw_M_take mi_M (Nat.le_of_ble_eq_true rfl) (Nat.le_of_ble_eq_true rfl) (fun x19 => ?_)
    refine jm_V.sub (ls' := []) [] rfl ?_
    exact jj_M_sign_768 hok hrec x19
  refine jm_V.ite (fun _ => ?_) (fun _ => ?_)
  · refine jm_V.run (is := bk_M_sign_731_3) (pc' := 735) (ls' := [(0, .ref 0), (1, .int a1), (2, .int a2), (3, .int a3)]) (st' := [.int 1, .int 22, .ref 0]) (x' := x) hok hT bk_M_sign_731_3_ok rfl ?_
    refine jm_V.callV (av := [.ref 0, .int 22, .int 1]) (rest := []) hok (jm_Con.mono (c_M_take hok hrec 22 1 x) (by omega)) (jm_Inv.obj (q := ("FilterReaderModel", T_M, 22)) dd_M_sign_735 (Or.inl lk_M_151) mn_M_take ms_M_take mw_M_take mh_M_take ml_M_take rfl rfl) mw_M_take mi_M (Nat.le_of_ble_eq_true rfl) (Nat.le_of_ble_eq_true rfl) (fun x20 => ?_)
    refine jm_V.run (is := bk_M_sign_738_1) (pc' := 768) (ls' := [(0, .ref 0), (1, .int a1), (2, .int a2), (3, .int a3)]) (st' := []) (x' := x20) hok hT bk_M_sign_738_1_ok rfl ?_
    refine jm_V.sub (ls' := []) [] rfl ?_
    exact jj_M_sign_768 hok hrec x20
  refine jm_V.ite (fun _ => ?_) (fun _ => ?_)
  · refine jm_V.run (is := bk_M_sign_741_3) (pc' := 745) (ls' := [(0, .ref 0), (1, .int a1), (2, .int a2), (3, .int a3)]) (st' := [.int 1, .int 23, .ref 0]) (x' := x) hok hT bk_M_sign_741_3_ok rfl ?_
    refine jm_V.callV (av := [.ref 0, .int 23, .int 1]) (rest := []) hok (jm_Con.mono (c_M_take hok hrec 23 1 x) (by omega)) (jm_Inv.obj (q := ("FilterReaderModel", T_M, 22)) dd_M_sign_745 (Or.inl lk_M_151) mn_M_take ms_M_take mw_M_take mh_M_take ml_M_take rfl rfl) mw_M_take mi_M (Nat.le_of_ble_eq_true rfl) (Nat.le_of_ble_eq_true rfl) (fun x21 => ?_)
    refine jm_V.run (is := bk_M_sign_748_1) (pc' := 768) (ls' := [(0, .ref 0), (1, .int a1), (2, .int a2), (3, .int a3)]) (st' := []) (x' := x21) hok hT bk_M_sign_748_1_ok rfl ?_
    refine jm_V.sub (ls' := []) [] rfl ?_
    exact jj_M_sign_768 hok hrec x21
  refine jm_V.ite (fun _ => ?_) (fun _ => ?_)
  · refine jm_V.run (is := bk_M_sign_558_5) (pc' := (if a2 = 61 then 567 else 571)) (ls' := [(0, .ref 0), (1, .int a1), (2, .int a2), (3, .int a3)]) (st' := [.int 10, .ref 0]) (x' := x) hok hT bk_M_sign_558_5_ok rfl ?_
    refine jm_V.ite (fun _ => ?_) (fun _ => ?_)
    · refine jm_V.run (is := bk_M_sign_567_2) (pc' := 572) (ls' := [(0, .ref 0), (1, .int a1), (2, .int a2), (3, .int a3)]) (st' := [.int 2, .int 10, .ref 0]) (x' := x) hok hT bk_M_sign_567_2_ok rfl ?_
      refine jm_V.sub (ls' := []) [] rfl ?_
      exact jj_M_sign_572 hok hrec 2 10 x
    · refine jm_V.run (is := bk_M_sign_571_1) (pc' := 572) (ls' := [(0, .ref 0), (1, .int a1), (2, .int a2), (3, .int a3)]) (st' := [.int 1, .int 10, .ref 0]) (x' := x) hok hT bk_M_sign_571_1_ok rfl ?_
      refine jm_V.sub (ls' := []) [] rfl ?_
      exact jj_M_sign_572 hok hrec 1 10 x
  refine jm_V.ite (fun _ => ?_) (fun _ => ?_)
  · refine jm_V.run (is := bk_M_sign_506_4) (pc' := (if a2 = 61 then 513 else 518)) (ls' := [(0, .ref 0), (1, .int a1), (2, .int a2), (3, .int a3)]) (st' := [.ref 0]) (x' := x) hok hT bk_M_sign_506_4_ok rfl ?_
    refine jm_V.ite (fun _ => ?_) (fun _ => ?_)
    · refine jm_V.run (is := bk_M_sign_513_2) (pc' := 520) (ls' := [(0, .ref 0), (1, .int a1), (2, .int a2), (3, .int a3)]) (st' := [.int 10, .ref 0]) (x' := x) hok hT bk_M_sign_513_2_ok rfl ?_
      refine jm_V.sub (ls' := [(2, .int a2)]) [2] rfl ?_
      exact jj_M_sign_520 hok hrec a2 10 x
    · refine jm_V.run (is := bk_M_sign_518_1) (pc' := 520) (ls' := [(0, .ref 0), (1, .int a1), (2, .int a2), (3, .int a3)]) (st' := [.int 9, .ref 0]) (x' := x) hok hT bk_M_sign_518_1_ok rfl ?_
      refine jm_V.sub (ls' := [(2, .int a2)]) [2] rfl ?_
      exact jj_M_sign_520 hok hrec a2 9 x
  refine jm_V.ite (fun _ => ?_) (fun _ => ?_)
  · refine jm_V.run (is := bk_M_sign_558_5) (pc' := (if a2 = 61 then 567 else 571)) (ls' := [(0, .ref 0), (1, .int a1), (2, .int a2), (3, .int a3)]) (st' := [.int 10, .ref 0]) (x' := x) hok hT bk_M_sign_558_5_ok rfl ?_
    refine jm_V.ite (fun _ => ?_) (fun _ => ?_)
    · refine jm_V.run (is := bk_M_sign_567_2) (pc' := 572) (ls' := [(0, .ref 0), (1, .int a1), (2, .int a2), (3, .int a3)]) (st' := [.int 2, .int 10, .ref 0]) (x' := x) hok hT bk_M_sign_567_2_ok rfl ?_
      refine jm_V.sub (ls' := []) [] rfl ?_
      exact jj_M_sign_572 hok hrec 2 10 x
    · refine jm_V.run (is := bk_M_sign_571_1) (pc' := 572) (ls' := [(0, .ref 0), (1, .int a1), (2, .int a2), (3, .int a3)]) (st' := [.int 1, .int 10, .ref 0]) (x' := x) hok hT bk_M_sign_571_1_ok rfl ?_
      refine jm_V.sub (ls' := []) [] rfl ?_
      exact jj_M_sign_572 hok hrec 1 10 x
  refine jm_V.ite (fun _ => ?_) (fun _ => ?_)
  · refine jm_V.run (is := bk_M_sign_751_3) (pc' := 755) (ls' := [(0, .ref 0), (1, .int a1), (2, .int a2), (3, .int a3)]) (st' := [.int 1, .int 24, .ref 0]) (x' := x) hok hT bk_M_sign_751_3_ok rfl ?_
    refine jm_V.callV (av := [.ref 0, .int 24, .int 1]) (rest := []) hok (jm_Con.mono (c_M_take hok hrec 24 1 x) (by omega)) (jm_Inv.obj (q := ("FilterReaderModel", T_M, 22)) dd_M_sign_755 (Or.inl lk_M_151) mn_M_take ms_M_take mw_M_take mh_M_take ml_M_take rfl rfl) mw_M_take mi_M (Nat.le_of_ble_eq_true rfl) (Nat.le_of_ble_eq_true rfl) (fun x22 => ?_)
    refine jm_V.run (is := bk_M_sign_758_1) (pc' := 768) (ls' := [(0, .ref 0), (1, .int a1), (2, .int a2), (3, .int a3)]) (st' := []) (x' := x22) hok hT bk_M_sign_758_1_ok rfl ?_
    refine jm_V.sub (ls' := []) [] rfl ?_
    exact jj_M_sign_768 hok hrec x22
  refine jm_V.ite (fun _ => ?_) (fun _ => ?_)
  · refine jm_V.run (is := bk_M_sign_761_3) (pc' := 765) (ls' := [(0, .ref 0), (1, .int a1), (2, .int a2), (3, .int a3)]) (st' := [.int 1, .int 25, .ref 0]) (x' := x) hok hT bk_M_sign_761_3_ok rfl ?_
    refine jm_V.callV (av := [.ref 0, .int 25, .int 1]) (rest := []) hok (jm_Con.mono (c_M_take hok hrec 25 1 x) (by omega)) (jm_Inv.obj (q := ("FilterReaderModel", T_M, 22)) dd_M_sign_765 (Or.inl lk_M_151) mn_M_take ms_M_take mw_M_take mh_M_take ml_M_take rfl rfl) mw_M_take mi_M (Nat.le_of_ble_eq_true rfl) (Nat.le_of_ble_eq_true rfl) (fun x23 => ?_)
    refine jm_V.sub (ls' := []) [] rfl ?_
    exact jj_M_sign_768 hok hrec x23
  refine jm_V.ite (fun _ => ?_) (fun _ => ?_)
  · refine jm_V.run (is := bk_M_sign_761_3) (pc' := 765) (ls' := [(0, .ref 0), (1, .int a1), (2, .int a2), (3, .int a3)]) (st' := [.int 1, .int 25, .ref 0]) (x' := x) hok hT bk_M_sign_761_3_ok rfl ?_
    refine jm_V.callV (av := [.ref 0, .int 25, .int 1]) (rest := []) hok (jm_Con.mono (c_M_take hok hrec 25 1 x) (by omega)) (jm_Inv.obj (q := ("FilterReaderModel", T_M, 22)) dd_M_sign_765 (Or.inl lk_M_151) mn_M_take ms_M_take mw_M_take mh_M_take ml_M_take rfl rfl) mw_M_take mi_M (Nat.le_of_ble_eq_true rfl) (Nat.le_of_ble_eq_true rfl) (fun x24 => ?_)
    refine jm_V.sub (ls' := []) [] rfl ?_
    exact jj_M_sign_768 hok hrec x24
  refine jm_V.ite (fun _ => ?_) (fun _ => ?_)
  · refine jm_V.run (is := bk_M_sign_761_3) (pc' := 765) (ls' := [(0, .ref 0), (1, .int a1), (2, .int a2), (3, .int a3)]) (st' := [.int 1, .int 25, .ref 0]) (x' := x) hok hT bk_M_sign_761_3_ok rfl ?_
    refine jm_V.callV (av := [.ref 0, .int 25, .int 1]) (rest := []) hok (jm_Con.mono (c_M_take hok hrec 25 1 x) (by omega)) (jm_Inv.obj (q := ("FilterReaderModel", T_M, 22)) dd_M_sign_765 (Or.inl lk_M_151) mn_M_take ms_M_take mw_M_take mh_M_take ml_M_take rfl rfl) mw_M_take mi_M (Nat.le_of_ble_eq_true rfl) (Nat.le_of_ble_eq_true rfl) (fun x25 => ?_)
    refine jm_V.sub (ls' := []) [] rfl ?_
    exact jj_M_sign_768 hok hrec x25
  refine jm_V.ite (fun _ => ?_) (fun _ => ?_)
  · refine jm_V.run (is := bk_M_sign_761_3) (pc' := 765) (ls' := [(0, .ref 0), (1, .int a1), (2, .int a2), (3, .int a3)]) (st' := [.int 1, .int 25, .ref 0]) (x' := x) hok hT bk_M_sign_761_3_ok rfl ?_
    refine jm_V.callV (av := [.ref 0, .int 25, .int 1]) (rest := []) hok (jm_Con.mono (c_M_take hok hrec 25 1 x) (by omega)) (jm_Inv.obj (q := ("FilterReaderModel", T_M, 22)) dd_M_sign_765 (Or.inl lk_M_151) mn_M_take ms_M_take mw_M_take mh_M_take ml_M_take rfl rfl) mw_M_take mi_M (Nat.le_of_ble_eq_true rfl) (Nat.le_of_ble_eq_true rfl) (fun x26 => ?_)
    refine jm_V.sub (ls' := []) [] rfl ?_
    exact jj_M_sign_768 hok hrec x26
  refine jm_V.ite (fun _ => ?_) (fun _ => ?_)
  · refine jm_V.run (is := bk_M_sign_761_3) (pc' := 765) (ls' := [(0, .ref 0), (1, .int a1), (2, .int a2), (3, .int a3)]) (st' := [.int 1, .int 25, .ref 0]) (x' := x) hok hT bk_M_sign_761_3_ok rfl ?_
    refine jm_V.callV (av := [.ref 0, .int 25, .int 1]) (rest := []) hok (jm_Con.mono (c_M_take hok hrec 25 1 x) (by omega)) (jm_Inv.obj (q := ("FilterReaderModel", T_M, 22)) dd_M_sign_765 (Or.inl lk_M_151) mn_M_take ms_M_take mw_M_take mh_M_take ml_M_take rfl rfl) mw_M_take mi_M (Nat.le_of_ble_eq_true rfl) (Nat.le_of_ble_eq_true rfl) (fun x27 => ?_)
    refine jm_V.sub (ls' := []) [] rfl ?_
    exact jj_M_sign_768 hok hrec x27
  refine jm_V.ite (fun _ => ?_) (fun _ => ?_)
  · refine jm_V.run (is := bk_M_sign_761_3) (pc' := 765) (ls' := [(0, .ref 0), (1, .int a1), (2, .int a2), (3, .int a3)]) (st' := [.int 1, .int 25, .ref 0]) (x' := x) hok hT bk_M_sign_761_3_ok rfl ?_
    refine jm_V.callV (av := [.ref 0, .int 25, .int 1]) (rest := []) hok (jm_Con.mono (c_M_take hok hrec 25 1 x) (by omega)) (jm_Inv.obj (q := ("FilterReaderModel", T_M, 22)) dd_M_sign_765 (Or.inl lk_M_151) mn_M_take ms_M_take mw_M_take mh_M_take ml_M_take rfl rfl) mw_M_take mi_M (Nat.le_of_ble_eq_true rfl) (Nat.le_of_ble_eq_true rfl) (fun x28 => ?_)
    refine jm_V.sub (ls' := []) [] rfl ?_
    exact jj_M_sign_768 hok hrec x28
  refine jm_V.ite (fun _ => ?_) (fun _ => ?_)
  · refine jm_V.run (is := bk_M_sign_761_3) (pc' := 765) (ls' := [(0, .ref 0), (1, .int a1), (2, .int a2), (3, .int a3)]) (st' := [.int 1, .int 25, .ref 0]) (x' := x) hok hT bk_M_sign_761_3_ok rfl ?_
    refine jm_V.callV (av := [.ref 0, .int 25, .int 1]) (rest := []) hok (jm_Con.mono (c_M_take hok hrec 25 1 x) (by omega)) (jm_Inv.obj (q := ("FilterReaderModel", T_M, 22)) dd_M_sign_765 (Or.inl lk_M_151) mn_M_take ms_M_take mw_M_take mh_M_take ml_M_take rfl rfl) mw_M_take mi_M (Nat.le_of_ble_eq_true rfl) (Nat.le_of_ble_eq_true rfl) (fun x29 => ?_)
    refine jm_V.sub (ls' := []) [] rfl ?_
    exact jj_M_sign_768 hok hrec x29
  refine jm_V.ite (fun _ => ?_) (fun _ => ?_)
  · refine jm_V.run (is := bk_M_sign_761_3) (pc' := 765) (ls' := [(0, .ref 0), (1, .int a1), (2, .int a2), (3, .int a3)]) (st' := [.int 1, .int 25, .ref 0]) (x' := x) hok hT bk_M_sign_761_3_ok rfl ?_
    refine jm_V.callV (av := [.ref 0, .int 25, .int 1]) (rest := []) hok (jm_Con.mono (c_M_take hok hrec 25 1 x) (by omega)) (jm_Inv.obj (q := ("FilterReaderModel", T_M, 22)) dd_M_sign_765 (Or.inl lk_M_151) mn_M_take ms_M_take mw_M_take mh_M_take ml_M_take rfl rfl) mw_M_take mi_M (Nat.le_of_ble_eq_true rfl) (Nat.le_of_ble_eq_true rfl) (fun x30 => ?_)
    refine jm_V.sub (ls' := []) [] rfl ?_
    exact jj_M_sign_768 hok hrec x30
  refine jm_V.ite (fun _ => ?_) (fun _ => ?_)
  · refine jm_V.run (is := bk_M_sign_761_3) (pc' := 765) (ls' := [(0, .ref 0), (1, .int a1), (2, .int a2), (3, .int a3)]) (st' := [.int 1, .int 25, .ref 0]) (x' := x) hok hT bk_M_sign_761_3_ok rfl ?_
    refine jm_V.callV (av := [.ref 0, .int 25, .int 1]) (rest := []) hok (jm_Con.mono (c_M_take hok hrec 25 1 x) (by omega)) (jm_Inv.obj (q := ("FilterReaderModel", T_M, 22)) dd_M_sign_765 (Or.inl lk_M_151) mn_M_take ms_M_take mw_M_take mh_M_take ml_M_take rfl rfl) mw_M_take mi_M (Nat.le_of_ble_eq_true rfl) (Nat.le_of_ble_eq_true rfl) (fun x31 => ?_)
    refine jm_V.sub (ls' := []) [] rfl ?_
    exact jj_M_sign_768 hok hrec x31
  refine jm_V.ite (fun _ => ?_) (fun _ => ?_)
  · refine jm_V.run (is := bk_M_sign_761_3) (pc' := 765) (ls' := [(0, .ref 0), (1, .int a1), (2, .int a2), (3, .int a3)]) (st' := [.int 1, .int 25, .ref 0]) (x' := x) hok hT bk_M_sign_761_3_ok rfl ?_
    refine jm_V.callV (av := [.ref 0, .int 25, .int 1]) (rest := []) hok (jm_Con.mono (c_M_take hok hrec 25 1 x) (by omega)) (jm_Inv.obj (q := ("FilterReaderModel", T_M, 22)) dd_M_sign_765 (Or.inl lk_M_151) mn_M_take ms_M_take mw_M_take mh_M_take ml_M_take rfl rfl) mw_M_take mi_M (Nat.le_of_ble_eq_true rfl) (Nat.le_of_ble_eq_true rfl) (fun x32 => ?_)
    refine jm_V.sub (ls' := []) [] rfl ?_
    exact jj_M_sign_768 hok hrec x32
  refine jm_V.ite (fun _ => ?_) (fun _ => ?_)
  · refine jm_V.run (is := bk_M_sign_761_3) (pc' := 765) (ls' := [(0, .ref 0), (1, .int a1), (2, .int a2), (3, .int a3)]) (st' := [.int 1, .int 25, .ref 0]) (x' := x) hok hT bk_M_sign_761_3_ok rfl ?_
    refine jm_V.callV (av := [.ref 0, .int 25, .int 1]) (rest := []) hok (jm_Con.mono (c_M_take hok hrec 25 1 x) (by omega)) (jm_Inv.obj (q := ("FilterReaderModel", T_M, 22)) dd_M_sign_765 (Or.inl lk_M_151) mn_M_take ms_M_take mw_M_take mh_M_take ml_M_take rfl rfl) mw_M_take mi_M (Nat.le_of_ble_eq_true rfl) (Nat.le_of_ble_eq_true rfl) (fun x33 => ?_)
    refine jm_V.sub (ls' := []) [] rfl ?_
    exact jj_M_sign_768 hok hrec x33
  refine jm_V.ite (fun _ => ?_) (fun _ => ?_)
  · refine jm_V.run (is := bk_M_sign_761_3) (pc' := 765) (ls' := [(0, .ref 0), (1, .int a1), (2, .int a2), (3, .int a3)]) (st' := [.int 1, .int 25, .ref 0]) (x' := x) hok hT bk_M_sign_761_3_ok rfl ?_
    refine jm_V.callV (av := [.ref 0, .int 25, .int 1]) (rest := []) hok (jm_Con.mono (c_M_take hok hrec 25 1 x) (by omega)) (jm_Inv.obj (q := ("FilterReaderModel", T_M, 22)) dd_M_sign_765 (Or.inl lk_M_151) mn_M_take ms_M_take mw_M_take mh_M_take ml_M_take rfl rfl) mw_M_take mi_M (Nat.le_of_ble_eq_true rfl) (Nat.le_of_ble_eq_true rfl) (fun x34 => ?_)
    refine jm_V.sub (ls' := []) [] rfl ?_
    exact jj_M_sign_768 hok hrec x34
  refine jm_V.ite (fun _ => ?_) (fun _ => ?_)
  · refine jm_V.run (is := bk_M_sign_761_3) (pc' := 765) (ls' := [(0, .ref 0), (1, .int a1), (2, .int a2), (3, .int a3)]) (st' := [.int 1, .int 25, .ref 0]) (x' := x) hok hT bk_M_sign_761_3_ok rfl ?_
    refine jm_V.callV (av := [.ref 0, .int 25, .int 1]) (rest := []) hok (jm_Con.mono (c_M_take hok hrec 25 1 x) (by omega)) (jm_Inv.obj (q := ("FilterReaderModel", T_M, 22)) dd_M_sign_765 (Or.inl lk_M_151) mn_M_take ms_M_take mw_M_take mh_M_take ml_M_take rfl rfl) mw_M_take mi_M (Nat.le_of_ble_eq_true rfl) (Nat.le_of_ble_eq_true rfl) (fun x35 => ?_)
    refine jm_V.sub (ls' := []) [] rfl ?_
    exact jj_M_sign_768 hok hrec x35
  refine jm_V.ite (fun _ => ?_) (fun _ => ?_)
  · refine jm_V.run (is := bk_M_sign_761_3) (pc' := 765) (ls' := [(0, .ref 0), (1, .int a1), (2, .int a2), (3, .int a3)]) (st' := [.int 1, .int 25, .ref 0]) (x' := x) hok hT bk_M_sign_761_3_ok rfl ?_
    refine jm_V.callV (av := [.ref 0, .int 25, .int 1]) (rest := []) hok (jm_Con.mono (c_M_take hok hrec 25 1 x) (by omega)) (jm_Inv.obj (q := ("FilterReaderModel", T_M, 22)) dd_M_sign_765 (Or.inl lk_M_151) mn_M_take ms_M_take mw_M_take mh_M_take ml_M_take rfl rfl) mw_M_take mi_M (Nat.le_of_ble_eq_true rfl) (Nat.le_of_ble_eq_true rfl) (fun x36 => ?_)
    refine jm_V.sub (ls' := []) [] rfl ?_
    exact jj_M_sign_768 hok hrec x36
  refine jm_V.ite (fun _ => ?_) (fun _ => ?_)
  · refine jm_V.run (is := bk_M_sign_761_3) (pc' := 765) (ls' := [(0, .ref 0), (1, .int a1), (2, .int a2), (3, .int a3)]) (st' := [.int 1, .int 25, .ref 0]) (x' := x) hok hT bk_M_sign_761_3_ok rfl ?_
    refine jm_V.callV (av := [.ref 0, .int 25, .int 1]) (rest := []) hok (jm_Con.mono (c_M_take hok hrec 25 1 x) (by omega)) (jm_Inv.obj (q := ("FilterReaderModel", T_M, 22)) dd_M_sign_765 (Or.inl lk_M_151) mn_M_take ms_M_take mw_M_take mh_M_take ml_M_take rfl rfl) mw_M_take mi_M (Nat.le_of_ble_eq_true rfl) (Nat.le_of_ble_eq_true rfl) (fun x37 => ?_)
    refine jm_V.sub (ls' := []) [] rfl ?_
    exact jj_M_sign_768 hok hrec x37
  refine jm_V.ite (fun _ => ?_) (fun _ => ?_)
  · refine jm_V.run (is := bk_M_sign_761_3) (pc' := 765) (ls' := [(0, .ref 0), (1, .int a1), (2, .int a2), (3, .int a3)]) (st' := [.int 1, .int 25, .ref 0]) (x' := x) hok hT bk_M_sign_761_3_ok rfl ?_
    refine jm_V.callV (av := [.ref 0, .int 25, .int 1]) (rest := []) hok (jm_Con.mono (c_M_take hok hrec 25 1 x) (by omega)) (jm_Inv.obj (q := ("FilterReaderModel", T_M, 22)) dd_M_sign_765 (Or.inl lk_M_151) mn_M_take ms_M_take mw_M_take mh_M_take ml_M_take rfl rfl) mw_M_take mi_M (Nat.le_of_ble_eq_true rfl) (Nat.le_of_ble_eq_true rfl) (fun x38 => ?_)
    refine jm_V.sub (ls' := []) [] rfl ?_
    exact jj_M_sign_768 hok hrec x38
  refine jm_V.ite (fun _ => ?_) (fun _ => ?_)
  · refine jm_V.run (is := bk_M_sign_761_3) (pc' := 765) (ls' := [(0, .ref 0), (1, .int a1), (2, .int a2), (3, .int a3)]) (st' := [.int 1, .int 25, .ref 0]) (x' := x) hok hT bk_M_sign_761_3_ok rfl ?_
    refine jm_V.callV (av := [.ref 0, .int 25, .int 1]) (rest := []) hok (jm_Con.mono (c_M_take hok hrec 25 1 x) (by omega)) (jm_Inv.obj (q := ("FilterReaderModel", T_M, 22)) dd_M_sign_765 (Or.inl lk_M_151) mn_M_take ms_M_take mw_M_take mh_M_take ml_M_take rfl rfl) mw_M_take mi_M (Nat.le_of_ble_eq_true rfl) (Nat.le_of_ble_eq_true rfl) (fun x39 => ?_)
    refine jm_V.sub (ls' := []) [] rfl ?_
    exact jj_M_sign_768 hok hrec x39
  refine jm_V.ite (fun _ => ?_) (fun _ => ?_)
  · refine jm_V.run (is := bk_M_sign_761_3) (pc' := 765) (ls' := [(0, .ref 0), (1, .int a1), (2, .int a2), (3, .int a3)]) (st' := [.int 1, .int 25, .ref 0]) (x' := x) hok hT bk_M_sign_761_3_ok rfl ?_
    refine jm_V.callV (av := [.ref 0, .int 25, .int 1]) (rest := []) hok (jm_Con.mono (c_M_take hok hrec 25 1 x) (by omega)) (jm_Inv.obj (q := ("FilterReaderModel", T_M, 22)) dd_M_sign_765 (Or.inl lk_M_151) mn_M_take ms_M_take mw_M_take mh_M_take ml_M_take rfl rfl) mw_M_take mi_M (Nat.le_of_ble_eq_true rfl) (Nat.le_of_ble_eq_true rfl) (fun x40 => ?_)
    refine jm_V.sub (ls' := []) [] rfl ?_
    exact jj_M_sign_768 hok hrec x40
  refine jm_V.ite (fun _ => ?_) (fun _ => ?_)
  · refine jm_V.run (is := bk_M_sign_761_3) (pc' := 765) (ls' := [(0, .ref 0), (1, .int a1), (2, .int a2), (3, .int a3)]) (st' := [.int 1, .int 25, .ref 0]) (x' := x) hok hT bk_M_sign_761_3_ok rfl ?_
    refine jm_V.callV (av := [.ref 0, .int 25, .int 1]) (rest := []) hok (jm_Con.mono (c_M_take hok hrec 25 1 x) (by omega)) (jm_Inv.obj (q := ("FilterReaderModel", T_M, 22)) dd_M_sign_765 (Or.inl lk_M_151) mn_M_take ms_M_take mw_M_take mh_M_take ml_M_take rfl rfl) mw_M_take mi_M (Nat.le_of_ble_eq_true rfl) (Nat.le_of_ble_eq_true rfl) (fun x41 => ?_)
    refine jm_V.sub (ls' := []) [] rfl ?_
    exact jj_M_sign_768 hok hrec x41
  refine jm_V.ite (fun _ => ?_) (fun _ => ?_)
  · refine jm_V.run (is := bk_M_sign_761_3) (pc' := 765) (ls' := [(0, .ref 0), (1, .int a1), (2, .int a2), (3, .int a3)]) (st' := [.int 1, .int 25, .ref 0]) (x' := x) hok hT bk_M_sign_761_3_ok rfl ?_
    refine jm_V.callV (av := [.ref 0, .int 25, .int 1]) (rest := []) hok (jm_Con.mono (c_M_take hok hrec 25 1 x) (by omega)) (jm_Inv.obj (q := ("FilterReaderModel", T_M, 22)) dd_M_sign_765 (Or.inl lk_M_151) mn_M_take ms_M_take mw_M_take mh_M_take ml_M_take rfl rfl) mw_M_take mi_M (Nat.le_of_ble_eq_true rfl) (Nat.le_of_ble_eq_true rfl) (fun x42 => ?_)
    refine jm_V.sub (ls' := []) [] rfl ?_
    exact jj_M_sign_768 hok hrec x42
  refine jm_V.ite (fun _ => ?_) (fun _ => ?_)
  · refine jm_V.run (is := bk_M_sign_761_3) (pc' := 765) (ls' := [(0, .ref 0), (1, .int a1), (2, .int a2), (3, .int a3)]) (st' := [.int 1, .int 25, .ref 0]) (x' := x) hok hT bk_M_sign_761_3_ok rfl ?_
    refine jm_V.callV (av := [.ref 0, .int 25, .int 1]) (rest := []) hok (jm_Con.mono (c_M_take hok hrec 25 1 x) (by omega)) (jm_Inv.obj (q := ("FilterReaderModel", T_M, 22)) dd_M_sign_765 (Or.inl lk_M_151) mn_M_take ms_M_take mw_M_take mh_M_take ml_M_take rfl rfl) mw_M_take mi_M (Nat.le_of_ble_eq_true rfl) (Nat.le_of_ble_eq_true rfl) (fun x43 => ?_)
    refine jm_V.sub (ls' := []) [] rfl ?_
    exact jj_M_sign_768 hok hrec x43
  refine jm_V.ite (fun _ => ?_) (fun _ => ?_)
  · refine jm_V.run (is := bk_M_sign_761_3) (pc' := 765) (ls' := [(0, .ref 0), (1, .int a1), (2, .int a2), (3, .int a3)]) (st' := [.int 1, .int 25, .ref 0]) (x' := x) hok hT bk_M_sign_761_3_ok rfl ?_
    refine jm_V.callV (av := [.ref 0, .int 25, .int 1]) (rest := []) hok (jm_Con.mono (c_M_take hok hrec 25 1 x) (by omega)) (jm_Inv.obj (q := ("FilterReaderModel", T_M, 22)) dd_M_sign_765 (Or.inl lk_M_151) mn_M_take ms_M_take mw_M_take mh_M_take ml_M_take rfl rfl) mw_M_take mi_M (Nat.le_of_ble_eq_true rfl) (Nat.le_of_ble_eq_true rfl) (fun x44 => ?_)
    refine jm_V.sub (ls' := []) [] rfl ?_
    exact jj_M_sign_768 hok hrec x44
  refine jm_V.ite (fun _ => ?_) (fun _ => ?_)
  · refine jm_V.run (is := bk_M_sign_761_3) (pc' := 765) (ls' := [(0, .ref 0), (1, .int a1), (2, .int a2), (3, .int a3)]) (st' := [.int 1, .int 25, .ref 0]) (x' := x) hok hT bk_M_sign_761_3_ok rfl ?_
    refine jm_V.callV (av := [.ref 0, .int 25, .int 1]) (rest := []) hok (jm_Con.mono (c_M_take hok hrec 25 1 x) (by omega)) (jm_Inv.obj (q := ("FilterReaderModel", T_M, 22)) dd_M_sign_765 (Or.inl lk_M_151) mn_M_take ms_M_take mw_M_take mh_M_take ml_M_take rfl rfl) mw_M_take mi_M (Nat.le_of_ble_eq_true rfl) (Nat.le_of_ble_eq_true rfl) (fun x45 => ?_)
    refine jm_V.sub (ls' := []) [] rfl ?_
    exact jj_M_sign_768 hok hrec x45
  refine jm_V.ite (fun _ => ?_) (fun _ => ?_)
  · refine jm_V.run (is := bk_M_sign_761_3) (pc' := 765) (ls' := [(0, .ref 0), (1, .int a1), (2, .int a2), (3, .int a3)]) (st' := [.int 1, .int 25, .ref 0]) (x' := x) hok hT bk_M_sign_761_3_ok rfl ?_
    refine jm_V.callV (av := [.ref 0, .int 25, .int 1]) (rest := []) hok (jm_Con.mono (c_M_take hok hrec 25 1 x) (by omega)) (jm_Inv.obj (q := ("FilterReaderModel", T_M, 22)) dd_M_sign_765 (Or.inl lk_M_151) mn_M_take ms_M_take mw_M_take mh_M_take ml_M_take rfl rfl) mw_M_take mi_M (Nat.le_of_ble_eq_true rfl) (Nat.le_of_ble_eq_true rfl) (fun x46 => ?_)
    refine jm_V.sub (ls' := []) [] rfl ?_
    exact jj_M_sign_768 hok hrec x46
  refine jm_V.ite (fun _ => ?_) (fun _ => ?_)
  · refine jm_V.run (is := bk_M_sign_761_3) (pc' := 765) (ls' := [(0, .ref 0), (1, .int a1), (2, .int a2), (3, .int a3)]) (st' := [.int 1, .int 25, .ref 0]) (x' := x) hok hT bk_M_sign_761_3_ok rfl ?_
    refine jm_V.callV (av := [.ref 0, .int 25, .int 1]) (rest := []) hok (jm_Con.mono (c_M_take hok hrec 25 1 x) (by omega)) (jm_Inv.obj (q := ("FilterReaderModel", T_M, 22)) dd_M_sign_765 (Or.inl lk_M_151) mn_M_take ms_M_take mw_M_take mh_M_take ml_M_take rfl rfl) mw_M_take mi_M (Nat.le_of_ble_eq_true rfl) (Nat.le_of_ble_eq_true rfl) (fun x47 => ?_)
    refine jm_V.sub (ls' := []) [] rfl ?_
    exact jj_M_sign_768 hok hrec x47
  refine jm_V.ite (fun _ => ?_) (fun _ => ?_)
  · refine jm_V.run (is := bk_M_sign_761_3) (pc' := 765) (ls' := [(0, .ref 0), (1, .int a1), (2, .int a2), (3, .int a3)]) (st' := [.int 1, .int 25, .ref 0]) (x' := x) hok hT bk_M_sign_761_3_ok rfl ?_
    refine jm_V.callV (av := [.ref 0, .int 25, .int 1]) (rest := []) hok (jm_Con.mono (c_M_take hok hrec 25 1 x) (by omega)) (jm_Inv.obj (q := ("FilterReaderModel", T_M, 22)) dd_M_sign_765 (Or.inl lk_M_151) mn_M_take ms_M_take mw_M_take mh_M_take ml_M_take rfl rfl) mw_M_take mi_M (Nat.le_of_ble_eq_true rfl) (Nat.le_of_ble_eq_true rfl) (fun x48 => ?_)
    refine jm_V.sub (ls' := []) [] rfl ?_
    exact jj_M_sign_768 hok hrec x48
  refine jm_V.ite (fun _ => ?_) (fun _ => ?_)
  · refine jm_V.run (is := bk_M_sign_761_3) (pc' := 765) (ls' := [(0, .ref 0), (1, .int a1), (2, .int a2), (3, .int a3)]) (st' := [.int 1, .int 25, .ref 0]) (x' := x) hok hT bk_M_sign_761_3_ok rfl ?_
    refine jm_V.callV (av := [.ref 0, .int 25, .int 1]) (rest := []) hok (jm_Con.mono (c_M_take hok hrec 25 1 x) (by omega)) (jm_Inv.obj (q := ("FilterReaderModel", T_M, 22)) dd_M_sign_765 (Or.inl lk_M_151) mn_M_take ms_M_take mw_M_take mh_M_take ml_M_take rfl rfl) mw_M_take mi_M (Nat.le_of_ble_eq_true rfl) (Nat.le_of_ble_eq_true rfl) (fun x49 => ?_)
    refine jm_V.sub (ls' := []) [] rfl ?_
    exact jj_M_sign_768 hok hrec x49
  refine jm_V.ite (fun _ => ?_) (fun _ => ?_)
  · refine jm_V.run (is := bk_M_sign_691_3) (pc' := 695) (ls' := [(0, .ref 0), (1, .int a1), (2, .int a2), (3, .int a3)]) (st' := [.int 1, .int 18, .ref 0]) (x' := x) hok hT bk_M_sign_691_3_ok rfl ?_
    refine jm_V.callV (av := [.ref 0, .int 18, .int 1]) (rest := []) hok (jm_Con.mono (c_M_take hok hrec 18 1 x) (by omega)) (jm_Inv.obj (q := ("FilterReaderModel", T_M, 22)) dd_M_sign_695 (Or.inl lk_M_151) mn_M_take ms_M_take mw_M_take mh_M_take ml_M_take rfl rfl) mw_M_take mi_M (Nat.le_of_ble_eq_true rfl) (Nat.le_of_ble_eq_true rfl) (fun x50 => ?_)
    refine jm_V.run (is := bk_M_sign_698_1) (pc' := 768) (ls' := [(0, .ref 0), (1, .int a1), (2, .int a2), (3, .int a3)]) (st' := []) (x' := x50) hok hT bk_M_sign_698_1_ok rfl ?_
    refine jm_V.sub (ls' := []) [] rfl ?_
    exact jj_M_sign_768 hok hrec x50
  refine jm_V.ite (fun _ => ?_) (fun _ => ?_)
  · refine jm_V.run (is := bk_M_sign_761_3) (pc' := 765) (ls' := [(0, .ref 0), (1, .int a1), (2, .int a2), (3, .int a3)]) (st' := [.int 1, .int 25, .ref 0]) (x' := x) hok hT bk_M_sign_761_3_ok rfl ?_
    refine jm_V.callV (av := [.ref 0, .int 25, .int 1]) (rest := []) hok (jm_Con.mono (c_M_take hok hrec 25 1 x) (by omega)) (jm_Inv.obj (q := ("FilterReaderModel", T_M, 22)) dd_M_sign_765 (Or.inl lk_M_151) mn_M_take ms_M_take mw_M_take mh_M_take ml_M_take rfl rfl) mw_M_take mi_M (Nat.le_of_ble_eq_true rfl) (Nat.le_of_ble_eq_true rfl) (fun x51 => ?_)
    refine jm_V.sub (ls' := []) [] rfl ?_
    exact jj_M_sign_768 hok hrec x51
  refine jm_V.ite (fun _ => ?_) (fun _ => ?_)
  · refine jm_V.run (is := bk_M_sign_701_3) (pc' := 705) (ls' := [(0, .ref 0), (1, .int a1), (2, .int a2), (3, .int a3)]) (st' := [.int 1, .int 19, .ref 0]) (x' := x) hok hT bk_M_sign_701_3_ok rfl ?_
    refine jm_V.callV (av := [.ref 0, .int 19, .int 1]) (rest := []) hok (jm_Con.mono (c_M_take hok hrec 19 1 x) (by omega)) (jm_Inv.obj (q := ("FilterReaderModel", T_M, 22)) dd_M_sign_705 (Or.inl lk_M_151) mn_M_take ms_M_take mw_M_take mh_M_take ml_M_take rfl rfl) mw_M_take mi_M (Nat.le_of_ble_eq_true rfl) (Nat.le_of_ble_eq_true rfl) (fun x52 => ?_)
    refine jm_V.run (is := bk_M_sign_708_1) (pc' := 768) (ls' := [(0, .ref 0), (1, .int a1), (2, .int a2), (3, .int a3)]) (st' := []) (x' := x52) hok hT bk_M_sign_708_1_ok rfl ?_
    refine jm_V.sub (ls' := []) [] rfl ?_
    exact jj_M_sign_768 hok hrec x52
  refine jm_V.ite (fun _ => ?_) (fun _ => ?_)
  · refine jm_V.run (is := bk_M_sign_761_3) (pc' := 765) (ls' := [(0, .ref 0), (1, .int a1), (2, .int a2), (3, .int a3)]) (st' := [.int 1, .int 25, .ref 0]) (x' := x) hok hT bk_M_sign_761_3_ok rfl ?_
    refine jm_V.callV (av := [.ref 0, .int 25, .int 1]) (rest := []) hok (jm_Con.mono (c_M_take hok hrec 25 1 x) (by omega)) (jm_Inv.obj (q := ("FilterReaderModel", T_M, 22)) dd_M_sign_765 (Or.inl lk_M_151) mn_M_take ms_M_take mw_M_take mh_M_take ml_M_take rfl rfl) mw_M_take mi_M (Nat.le_of_ble_eq_true rfl) (Nat.le_of_ble_eq_true rfl) (fun x53 => ?_)
    refine jm_V.sub (ls' := []) [] rfl ?_
    exact jj_M_sign_768 hok hrec x53
  refine jm_V.ite (fun _ => ?_) (fun _ => ?_)
  · refine jm_V.run (is := bk_M_sign_761_3) (pc' := 765) (ls' := [(0, .ref 0), (1, .int a1), (2, .int a2), (3, .int a3)]) (st' := [.int 1, .int 25, .ref 0]) (x' := x) hok hT bk_M_sign_761_3_ok rfl ?_
    refine jm_V.callV (av := [.ref 0, .int 25, .int 1]) (rest := []) hok (jm_Con.mono (c_M_take hok hrec 25 1 x) (by omega)) (jm_Inv.obj (q := ("FilterReaderModel", T_M, 22)) dd_M_sign_765 (Or.inl lk_M_151) mn_M_take ms_M_take mw_M_take mh_M_take ml_M_take rfl rfl) mw_M_take mi_M (Nat.le_of_ble_eq_true rfl) (Nat.le_of_ble_eq_true rfl) (fun x54 => ?_)
    refine jm_V.sub (ls' := []) [] rfl ?_
    exact jj_M_sign_768 hok hrec x54
  refine jm_V.ite (fun _ => ?_) (fun _ => ?_)
  · refine jm_V.run (is := bk_M_sign_761_3) (pc' := 765) (ls' := [(0, .ref 0), (1, .int a1), (2, .int a2), (3, .int a3)]) (st' := [.int 1, .int 25, .ref 0]) (x' := x) hok hT bk_M_sign_761_3_ok rfl ?_
    refine jm_V.callV (av := [.ref 0, .int 25, .int 1]) (rest := []) hok (jm_Con.mono (c_M_take hok hrec 25 1 x) (by omega)) (jm_Inv.obj (q := ("FilterReaderModel", T_M, 22)) dd_M_sign_765 (Or.inl lk_M_151) mn_M_take ms_M_take mw_M_take mh_M_take ml_M_take rfl rfl) mw_M_take mi_M (Nat.le_of_ble_eq_true rfl) (Nat.le_of_ble_eq_true rfl) (fun x55 => ?_)
    refine jm_V.sub (ls' := []) [] rfl ?_
    exact jj_M_sign_768 hok hrec x55
  refine jm_V.ite (fun _ => ?_) (fun _ => ?_)
  · refine jm_V.run (is := bk_M_sign_761_3) (pc' := 765) (ls' := [(0, .ref 0), (1, .int a1), (2, .int a2), (3, .int a3)]) (st' := [.int 1, .int 25, .ref 0]) (x' := x) hok hT bk_M_sign_761_3_ok rfl ?_
    refine jm_V.callV (av := [.ref 0, .int 25, .int 1]) (rest := []) hok (jm_Con.mono (c_M_take hok hrec 25 1 x) (by omega)) (jm_Inv.obj (q := ("FilterReaderModel", T_M, 22)) dd_M_sign_765 (Or.inl lk_M_151) mn_M_take ms_M_take mw_M_take mh_M_take ml_M_take rfl rfl) mw_M_take mi_M (Nat.le_of_ble_eq_true rfl) (Nat.le_of_ble_eq_true rfl) (fun x56 => ?_)
    refine jm_V.sub (ls' := []) [] rfl ?_
    exact jj_M_sign_768 hok hrec x56
  refine jm_V.ite (fun _ => ?_) (fun _ => ?_)
  · refine jm_V.run (is := bk_M_sign_761_3) (pc' := 765) (ls' := [(0, .ref 0), (1, .int a1), (2, .int a2), (3, .int a3)]) (st' := [.int 1, .int 25, .ref 0]) (x' := x) hok hT bk_M_sign_761_3_ok rfl ?_
    refine jm_V.callV (av := [.ref 0, .int 25, .int 1]) (rest := []) hok (jm_Con.mono (c_M_take hok hrec 25 1 x) (by omega)) (jm_Inv.obj (q := ("FilterReaderModel", T_M, 22)) dd_M_sign_765 (Or.inl lk_M_151) mn_M_take ms_M_take mw_M_take mh_M_take ml_M_take rfl rfl) mw_M_take mi_M (Nat.le_of_ble_eq_true rfl) (Nat.le_of_ble_eq_true rfl) (fun x57 => ?_)
    refine jm_V.sub (ls' := []) [] rfl ?_
    exact jj_M_sign_768 hok hrec x57
  refine jm_V.ite (fun _ => ?_) (fun _ => ?_)
  · refine jm_V.run (is := bk_M_sign_761_3) (pc' := 765) (ls' := [(0, .ref 0), (1, .int a1), (2, .int a2), (3, .int a3)]) (st' := [.int 1, .int 25, .ref 0]) (x' := x) hok hT bk_M_sign_761_3_ok rfl ?_
    refine jm_V.callV (av := [.ref 0, .int 25, .int 1]) (rest := []) hok (jm_Con.mono (c_M_take hok hrec 25 1 x) (by omega)) (jm_Inv.obj (q := ("FilterReaderModel", T_M, 22)) dd_M_sign_765 (Or.inl lk_M_151) mn_M_take ms_M_take mw_M_take mh_M_take ml_M_take rfl rfl) mw_M_take mi_M (Nat.le_of_ble_eq_true rfl) (Nat.le_of_ble_eq_true rfl) (fun x58 => ?_)
    refine jm_V.sub (ls' := []) [] rfl ?_
    exact jj_M_sign_768 hok hrec x58
  refine jm_V.ite (fun _ => ?_) (fun _ => ?_)
  · refine jm_V.run (is := bk_M_sign_761_3) (pc' := 765) (ls' := [(0, .ref 0), (1, .int a1), (2, .int a2), (3, .int a3)]) (st' := [.int 1, .int 25, .ref 0]) (x' := x) hok hT bk_M_sign_761_3_ok rfl ?_
    refine jm_V.callV (av := [.ref 0, .int 25, .int 1]) (rest := []) hok (jm_Con.mono (c_M_take hok hrec 25 1 x) (by omega)) (jm_Inv.obj (q := ("FilterReaderModel", T_M, 22)) dd_M_sign_765 (Or.inl lk_M_151) mn_M_take ms_M_take mw_M_take mh_M_take ml_M_take rfl rfl) mw_M_take mi_M (Nat.le_of_ble_eq_true rfl) (Nat.le_of_ble_eq_true rfl) (fun x59 => ?_)
    refine jm_V.sub (ls' := []) [] rfl ?_
    exact jj_M_sign_768 hok hrec x59
  refine jm_V.ite (fun _ => ?_) (fun _ => ?_)
  · refine jm_V.run (is := bk_M_sign_761_3) (pc' := 765) (ls' := [(0, .ref 0), (1, .int a1), (2, .int a2), (3, .int a3)]) (st' := [.int 1, .int 25, .ref 0]) (x' := x) hok hT bk_M_sign_761_3_ok rfl ?_
    refine jm_V.callV (av := [.ref 0, .int 25, .int 1]) (rest := []) hok (jm_Con.mono (c_M_take hok hrec 25 1 x) (by omega)) (jm_Inv.obj (q := ("FilterReaderModel", T_M, 22)) dd_M_sign_765 (Or.inl lk_M_151) mn_M_take ms_M_take mw_M_take mh_M_take ml_M_take rfl rfl) mw_M_take mi_M (Nat.le_of_ble_eq_true rfl) (Nat.le_of_ble_eq_true rfl) (fun x60 => ?_)
    refine jm_V.sub (ls' := []) [] rfl ?_
    exact jj_M_sign_768 hok hrec x60
  refine jm_V.ite (fun _ => ?_) (fun _ => ?_)
  · refine jm_V.run (is := bk_M_sign_761_3) (pc' := 765) (ls' := [(0, .ref 0), (1, .int a1), (2, .int a2), (3, .int a3)]) (st' := [.int 1, .int 25, .ref 0]) (x' := x) hok hT bk_M_sign_761_3_ok rfl ?_
    refine jm_V.callV (av := [.ref 0, .int 25, .int 1]) (rest := []) hok (jm_Con.mono (c_M_take hok hrec 25 1 x) (by omega)) (jm_Inv.obj (q := ("FilterReaderModel", T_M, 22)) dd_M_sign_765 (Or.inl lk_M_151) mn_M_take ms_M_take mw_M_take mh_M_take ml_M_take rfl rfl) mw_M_take mi_M (Nat.le_of_ble_eq_true rfl) (Nat.le_of_ble_eq_true rfl) (fun x61 => ?_)
    refine jm_V.sub (ls' := []) [] rfl ?_
    exact jj_M_sign_768 hok hrec x61
  refine jm_V.ite (fun _ => ?_) (fun _ => ?_)
  · refine jm_V.run (is := bk_M_sign_761_3) (pc' := 765) (ls' := [(0, .ref 0), (1, .int a1), (2, .int a2), (3, .int a3)]) (st' := [.int 1, .int 25, .ref 0]) (x' := x) hok hT bk_M_sign_761_3_ok rfl ?_
    refine jm_V.callV (av := [.ref 0, .int 25, .int 1]) (rest := []) hok (jm_Con.mono (c_M_take hok hrec 25 1 x) (by omega)) (jm_Inv.obj (q := ("FilterReaderModel", T_M, 22)) dd_M_sign_765 (Or.inl lk_M_151) mn_M_take ms_M_take mw_M_take mh_M_take ml_M_take rfl rfl) mw_M_take mi_M (Nat.le_of_ble_eq_true rfl) (Nat.le_of_ble_eq_true rfl) (fun x62 => ?_)
    refine jm_V.sub (ls' := []) [] rfl ?_
    exact jj_M_sign_768 hok hrec x62
  refine jm_V.ite (fun _ => ?_) (fun _ => ?_)
  · refine jm_V.run (is := bk_M_sign_761_3) (pc' := 765) (ls' := [(0, .ref 0), (1, .int a1), (2, .int a2), (3, .int a3)]) (st' := [.int 1, .int 25, .ref 0]) (x' := x) hok hT bk_M_sign_761_3_ok rfl ?_
    refine jm_V.callV (av := [.ref 0, .int 25, .int 1]) (rest := []) hok (jm_Con.mono (c_M_take hok hrec 25 1 x) (by omega)) (jm_Inv.obj (q := ("FilterReaderModel", T_M, 22)) dd_M_sign_765 (Or.inl lk_M_151) mn_M_take ms_M_take mw_M_take mh_M_take ml_M_take rfl rfl) mw_M_take mi_M (Nat.le_of_ble_eq_true rfl) (Nat.le_of_ble_eq_true rfl) (fun x63 => ?_)
    refine jm_V.sub (ls' := []) [] rfl ?_
    exact jj_M_sign_768 hok hrec x63
  refine jm_V.ite (fun _ => ?_) (fun _ => ?_)
  · refine jm_V.run (is := bk_M_sign_761_3) (pc' := 765) (ls' := [(0, .ref 0), (1, .int a1), (2, .int a2), (3, .int a3)]) (st' := [.int 1, .int 25, .ref 0]) (x' := x) hok hT bk_M_sign_761_3_ok rfl ?_
    refine jm_V.callV (av := [.ref 0, .int 25, .int 1]) (rest := []) hok (jm_Con.mono (c_M_take hok hrec 25 1 x) (by omega)) (jm_Inv.obj (q := ("FilterReaderModel", T_M, 22)) dd_M_sign_765 (Or.inl lk_M_151) mn_M_take ms_M_take mw_M_take mh_M_take ml_M_take rfl rfl) mw_M_take mi_M (Nat.le_of_ble_eq_true rfl) (Nat.le_of_ble_eq_true rfl) (fun x64 => ?_)
    refine jm_V.sub (ls' := []) [] rfl ?_
    exact jj_M_sign_768 hok hrec x64
  refine jm_V.ite (fun _ => ?_) (fun _ => ?_)
  · refine jm_V.run (is := bk_M_sign_761_3) (pc' := 765) (ls' := [(0, .ref 0), (1, .int a1), (2, .int a2), (3, .int a3)]) (st' := [.int 1, .int 25, .ref 0]) (x' := x) hok hT bk_M_sign_761_3_ok rfl ?_
    refine jm_V.callV (av := [.ref 0, .int 25, .int 1]) (rest := []) hok (jm_Con.mono (c_M_take hok hrec 25 1 x) (by omega)) (jm_Inv.obj (q := ("FilterReaderModel", T_M, 22)) dd_M_sign_765 (Or.inl lk_M_151) mn_M_take ms_M_take mw_M_take mh_M_take ml_M_take rfl rfl) mw_M_take mi_M (Nat.le_of_ble_eq_true rfl) (Nat.le_of_ble_eq_true rfl) (fun x65 => ?_)
    refine jm_V.sub (ls' := []) [] rfl ?_
    exact jj_M_sign_768 hok hrec x65
  refine jm_V.ite (fun _ => ?_) (fun _ => ?_)
  · refine jm_V.run (is := bk_M_sign_761_3) (pc' := 765) (ls' := [(0, .ref 0), (1, .int a1), (2, .int a2), (3, .int a3)]) (st' := [.int 1, .int 25, .ref 0]) (x' := x) hok hT bk_M_sign_761_3_ok rfl ?_
    refine jm_V.callV (av := [.ref 0, .int 25, .int 1]) (rest := []) hok (jm_Con.mono (c_M_take hok hrec 25 1 x) (by omega)) (jm_Inv.obj (q := ("FilterReaderModel", T_M, 22)) dd_M_sign_765 (Or.inl lk_M_151) mn_M_take ms_M_take mw_M_take mh_M_take ml_M_take rfl rfl) mw_M_take mi_M (Nat.le_of_ble_eq_true rfl) (Nat.le_of_ble_eq_true rfl) (fun x66 => ?_)
    refine jm_V.sub (ls' := []) [] rfl ?_
    exact jj_M_sign_768 hok hrec x66
  refine jm_V.ite (fun _ => ?_) (fun _ => ?_)
  · refine jm_V.run (is := bk_M_sign_761_3) (pc' := 765) (ls' := [(0, .ref 0), (1, .int a1), (2, .int a2), (3, .int a3)]) (st' := [.int 1, .int 25, .ref 0]) (x' := x) hok hT bk_M_sign_761_3_ok rfl ?_
    refine jm_V.callV (av := [.ref 0, .int 25, .int 1]) (rest := []) hok (jm_Con.mono (c_M_take hok hrec 25 1 x) (by omega)) (jm_Inv.obj (q := ("FilterReaderModel", T_M, 22)) dd_M_sign_765 (Or.inl lk_M_151) mn_M_take ms_M_take mw_M_take mh_M_take ml_M_take rfl rfl) mw_M_take mi_M (Nat.le_of_ble_eq_true rfl) (Nat.le_of_ble_eq_true rfl) (fun x67 => ?_)
    refine jm_V.sub (ls' := []) [] rfl ?_
    exact jj_M_sign_768 hok hrec x67
  refine jm_V.ite (fun _ => ?_) (fun _ => ?_)
  · refine jm_V.run (is := bk_M_sign_761_3) (pc' := 765) (ls' := [(0, .ref 0), (1, .int a1), (2, .int a2), (3, .int a3)]) (st' := [.int 1, .int 25, .ref 0]) (x' := x) hok hT bk_M_sign_761_3_ok rfl ?_
    refine jm_V.callV (av := [.ref 0, .int 25, .int 1]) (rest := []) hok (jm_Con.mono (c_M_take hok hrec 25 1 x) (by omega)) (jm_Inv.obj (q := ("FilterReaderModel", T_M, 22)) dd_M_sign_765 (Or.inl lk_M_151) mn_M_take ms_M_take mw_M_take mh_M_take ml_M_take rfl rfl) mw_M_take mi_M (Nat.le_of_ble_eq_true rfl) (Nat.le_of_ble_eq_true rfl) (fun x68 => ?_)
    refine jm_V.sub (ls' := []) [] rfl ?_
    exact jj_M_sign_768 hok hrec x68
  refine jm_V.ite (fun _ => ?_) (fun _ => ?_)
  · refine jm_V.run (is := bk_M_sign_761_3) (pc' := 765) (ls' := [(0, .ref 0), (1, .int a1), (2, .int a2), (3, .int a3)]) (st' := [.int 1, .int 25, .ref 0]) (x' := x) hok hT bk_M_sign_761_3_ok rfl ?_
    refine jm_V.callV (av := [.ref 0, .int 25, .int 1]) (rest := []) hok (jm_Con.mono (c_M_take hok hrec 25 1 x) (by omega)) (jm_Inv.obj (q := ("FilterReaderModel", T_M, 22)) dd_M_sign_765 (Or.inl lk_M_151) mn_M_take ms_M_take mw_M_take mh_M_take ml_M_take rfl rfl) mw_M_take mi_M (Nat.le_of_ble_eq_true rfl) (Nat.le_of_ble_eq_true rfl) (fun x69 => ?_)
    refine jm_V.sub (ls' := []) [] rfl ?_
    exact jj_M_sign_768 hok hrec x69
  refine jm_V.ite (fun _ => ?_) (fun _ => ?_)
  · refine jm_V.run (is := bk_M_sign_761_3) (pc' := 765) (ls' := [(0, .ref 0), (1, .int a1), (2, .int a2), (3, .int a3)]) (st' := [.int 1, .int 25, .ref 0]) (x' := x) hok hT bk_M_sign_761_3_ok rfl ?_
    refine jm_V.callV (av := [.ref 0, .int 25, .int 1]) (rest := []) hok (jm_Con.mono (c_M_take hok hrec 25 1 x) (by omega)) (jm_Inv.obj (q := ("FilterReaderModel", T_M, 22)) dd_M_sign_765 (Or.inl lk_M_151) mn_M_take ms_M_take mw_M_take mh_M_take ml_M_take rfl rfl) mw_M_take mi_M (Nat.le_of_ble_eq_true rfl) (Nat.le_of_ble_eq_true rfl) (fun x70 => ?_)
    refine jm_V.sub (ls' := []) [] rfl ?_
    exact jj_M_sign_768 hok hrec x70
  refine jm_V.ite (fun _ => ?_) (fun _ => ?_)
  · refine jm_V.run (is := bk_M_sign_761_3) (pc' := 765) (ls' := [(0, .ref 0), (1, .int a1), (2, .int a2), (3, .int a3)]) (st' := [.int 1, .int 25, .ref 0]) (x' := x) hok hT bk_M_sign_761_3_ok rfl ?_
    refine jm_V.callV (av := [.ref 0, .int 25, .int 1]) (rest := []) hok (jm_Con.mono (c_M_take hok hrec 25 1 x) (by omega)) (jm_Inv.obj (q := ("FilterReaderModel", T_M, 22)) dd_M_sign_765 (Or.inl lk_M_151) mn_M_take ms_M_take mw_M_take mh_M_take ml_M_take rfl rfl) mw_M_take mi_M (Nat.le_of_ble_eq_true rfl) (Nat.le_of_ble_eq_true rfl) (fun x71 => ?_)
    refine jm_V.sub (ls' := []) [] rfl ?_
    exact jj_M_sign_768 hok hrec x71
  refine jm_V.ite (fun _ => ?_) (fun _ => ?_)
  · refine jm_V.run (is := bk_M_sign_761_3) (pc' := 765) (ls' := [(0, .ref 0), (1, .int a1), (2, .int a2), (3, .int a3)]) (st' := [.int 1, .int 25, .ref 0]) (x' := x) hok hT bk_M_sign_761_3_ok rfl ?_
    refine jm_V.callV (av := [.ref 0, .int 25, .int 1]) (rest := []) hok (jm_Con.mono (c_M_take hok hrec 25 1 x) (by omega)) (jm_Inv.obj (q := ("FilterReaderModel", T_M, 22)) dd_M_sign_765 (Or.inl lk_M_151) mn_M_take ms_M_take mw_M_take mh_M_take ml_M_take rfl rfl) mw_M_take mi_M (Nat.le_of_ble_eq_true rfl) (Nat.le_of_ble_eq_true rfl) (fun x72 => ?_)
    refine jm_V.sub (ls' := []) [] rfl ?_
    exact jj_M_sign_768 hok hrec x72
  refine jm_V.ite (fun _ => ?_) (fun _ => ?_)
  · refine jm_V.run (is := bk_M_sign_761_3) (pc' := 765) (ls' := [(0, .ref 0), (1, .int a1), (2, .int a2), (3, .int a3)]) (st' := [.int 1, .int 25, .ref 0]) (x' := x) hok hT bk_M_sign_761_3_ok rfl ?_
    refine jm_V.callV (av := [.ref 0, .int 25, .int 1]) (rest := []) hok (jm_Con.mono (c_M_take hok hrec 25 1 x) (by omega)) (jm_Inv.obj (q := ("FilterReaderModel", T_M, 22)) dd_M_sign_765 (Or.inl lk_M_151) mn_M_take ms_M_take mw_M_take mh_M_take ml_M_take rfl rfl) mw_M_take mi_M (Nat.le_of_ble_eq_true rfl) (Nat.le_of_ble_eq_true rfl) (fun x73 => ?_)
    refine jm_V.sub (ls' := []) [] rfl ?_
    exact jj_M_sign_768 hok hrec x73
  refine jm_V.ite (fun _ => ?_) (fun _ => ?_)
  · refine jm_V.run (is := bk_M_sign_761_3) (pc' := 765) (ls' := [(0, .ref 0), (1, .int a1), (2, .int a2), (3, .int a3)]) (st' := [.int 1, .int 25, .ref 0]) (x' := x) hok hT bk_M_sign_761_3_ok rfl ?_
    refine jm_V.callV (av := [.ref 0, .int 25, .int 1]) (rest := []) hok (jm_Con.mono (c_M_take hok hrec 25 1 x) (by omega)) (jm_Inv.obj (q := ("FilterReaderModel", T_M, 22)) dd_M_sign_765 (Or.inl lk_M_151) mn_M_take ms_M_take mw_M_take mh_M_take ml_M_take rfl rfl) mw_M_take mi_M (Nat.le_of_ble_eq_true rfl) (Nat.le_of_ble_eq_true rfl) (fun x74 => ?_)
    refine jm_V.sub (ls' := []) [] rfl ?_
    exact jj_M_sign_768 hok hrec x74
  refine jm_V.ite (fun _ => ?_) (fun _ => ?_)
  · refine jm_V.run (is := bk_M_sign_761_3) (pc' := 765) (ls' := [(0, .ref 0), (1, .int a1), (2, .int a2), (3, .int a3)]) (st' := [.int 1, .int 25, .ref 0]) (x' := x) hok hT bk_M_sign_761_3_ok rfl ?_
    refine jm_V.callV (av := [.ref 0, .int 25, .int 1]) (rest := []) hok (jm_Con.mono (c_M_take hok hrec 25 1 x) (by omega)) (jm_Inv.obj (q := ("FilterReaderModel", T_M, 22)) dd_M_sign_765 (Or.inl lk_M_151) mn_M_take ms_M_take mw_M_take mh_M_take ml_M_take rfl rfl) mw_M_take mi_M (Nat.le_of_ble_eq_true rfl) (Nat.le_of_ble_eq_true rfl) (fun x75 => ?_)
    refine jm_V.sub (ls' := []) [] rfl ?_
    exact jj_M_sign_768 hok hrec x75
  refine jm_V.ite (fun _ => ?_) (fun _ => ?_)
  · refine jm_V.run (is := bk_M_sign_761_3) (pc' := 765) (ls' := [(0, .ref 0), (1, .int a1), (2, .int a2), (3, .int a3)]) (st' := [.int 1, .int 25, .ref 0]) (x' := x) hok hT bk_M_sign_761_3_ok rfl ?_
    refine jm_V.callV (av := [.ref 0, .int 25, .int 1]) (rest := []) hok (jm_Con.mono (c_M_take hok hrec 25 1 x) (by omega)) (jm_Inv.obj (q := ("FilterReaderModel", T_M, 22)) dd_M_sign_765 (Or.inl lk_M_151) mn_M_take ms_M_take mw_M_take mh_M_take ml_M_take rfl rfl) mw_M_take mi_M (Nat.le_of_ble_eq_true rfl) (Nat.le_of_ble_eq_true rfl) (fun x76 => ?_)
    refine jm_V.sub (ls' := []) [] rfl ?_
    exact jj_M_sign_768 hok hrec x76
  refine jm_V.ite (fun _ => ?_) (fun _ => ?_)
  · refine jm_V.run (is := bk_M_sign_761_3) (pc' := 765) (ls' := [(0, .ref 0), (1, .int a1), (2, .int a2), (3, .int a3)]) (st' := [.int 1, .int 25, .ref 0]) (x' := x) hok hT bk_M_sign_761_3_ok rfl ?_
    refine jm_V.callV (av := [.ref 0, .int 25, .int 1]) (rest := []) hok (jm_Con.mono (c_M_take hok hrec 25 1 x) (by omega)) (jm_Inv.obj (q := ("FilterReaderModel", T_M, 22)) dd_M_sign_765 (Or.inl lk_M_151) mn_M_take ms_M_take mw_M_take mh_M_take ml_M_take rfl rfl) mw_M_take mi_M (Nat.le_of_ble_eq_true rfl) (Nat.le_of_ble_eq_true rfl) (fun x77 => ?_)
    refine jm_V.sub (ls' := []) [] rfl ?_
    exact jj_M_sign_768 hok hrec x77
  refine jm_V.ite (fun _ => ?_) (fun _ => ?_)
  · refine jm_V.run (is := bk_M_sign_761_3) (pc' := 765) (ls' := [(0, .ref 0), (1, .int a1), (2, .int a2), (3, .int a3)]) (st' := [.int 1, .int 25, .ref 0]) (x' := x) hok hT bk_M_sign_761_3_ok rfl ?_
    refine jm_V.callV (av := [.ref 0, .int 25, .int 1]) (rest := []) hok (jm_Con.mono (c_M_take hok hrec 25 1 x) (by omega)) (jm_Inv.obj (q := ("FilterReaderModel", T_M, 22)) dd_M_sign_765 (Or.inl lk_M_151) mn_M_take ms_M_take mw_M_take mh_M_take ml_M_take rfl rfl) mw_M_take mi_M (Nat.le_of_ble_eq_true rfl) (Nat.le_of_ble_eq_true rfl) (fun x78 => ?_)
    refine jm_V.sub (ls' := []) [] rfl ?_
    exact jj_M_sign_768 hok hrec x78
  refine jm_V.ite (fun _ => ?_) (fun _ => ?_)
  · refine jm_V.run (is := bk_M_sign_761_3) (pc' := 765) (ls' := [(0, .ref 0), (1, .int a1), (2, .int a2), (3, .int a3)]) (st' := [.int 1, .int 25, .ref 0]) (x' := x) hok hT bk_M_sign_761_3_ok rfl ?_
    refine jm_V.callV (av := [.ref 0, .int 25, .int 1]) (rest := []) hok (jm_Con.mono (c_M_take hok hrec 25 1 x) (by omega)) (jm_Inv.obj (q := ("FilterReaderModel", T_M, 22)) dd_M_sign_765 (Or.inl lk_M_151) mn_M_take ms_M_take mw_M_take mh_M_take ml_M_take rfl rfl) mw_M_take mi_M (Nat.le_of_ble_eq_true rfl) (Nat.le_of_ble_eq_true rfl) (fun x79 => ?_)
    refine jm_V.sub (ls' := []) [] rfl ?_
    exact jj_M_sign_768 hok hrec x79
  refine jm_V.ite (fun _ => ?_) (fun _ => ?_)
  · refine jm_V.run (is := bk_M_sign_761_3) (pc' := 765) (ls' := [(0, .ref 0), (1, .int a1), (2, .int a2), (3, .int a3)]) (st' := [.int 1, .int 25, .ref 0]) (x' := x) hok hT bk_M_sign_761_3_ok rfl ?_
    refine jm_V.callV (av := [.ref 0, .int 25, .int 1]) (rest := []) hok (jm_Con.mono (c_M_take hok hrec 25 1 x) (by omega)) (jm_Inv.obj (q := ("FilterReaderModel", T_M, 22)) dd_M_sign_765 (Or.inl lk_M_151) mn_M_take ms_M_take mw_M_take mh_M_take ml_M_take rfl rfl) mw_M_take mi_M (Nat.le_of_ble_eq_true rfl) (Nat.le_of_ble_eq_true rfl) (fun x80 => ?_)
    refine jm_V.sub (ls' := []) [] rfl ?_
    exact jj_M_sign_768 hok hrec x80
  refine jm_V.ite (fun _ => ?_) (fun _ => ?_)
  · refine jm_V.run (is := bk_M_sign_761_3) (pc' := 765) (ls' := [(0, .ref 0), (1, .int a1), (2, .int a2), (3, .int a3)]) (st' := [.int 1, .int 25, .ref 0]) (x' := x) hok hT bk_M_sign_761_3_ok rfl ?_
    refine jm_V.callV (av := [.ref 0, .int 25, .int 1]) (rest := []) hok (jm_Con.mono (c_M_take hok hrec 25 1 x) (by omega)) (jm_Inv.obj (q := ("FilterReaderModel", T_M, 22)) dd_M_sign_765 (Or.inl lk_M_151) mn_M_take ms_M_take mw_M_take mh_M_take ml_M_take rfl rfl) mw_M_take mi_M (Nat.le_of_ble_eq_true rfl) (Nat.le_of_ble_eq_true rfl) (fun x81 => ?_)
    refine jm_V.sub (ls' := []) [] rfl ?_
    exact jj_M_sign_768 hok hrec x81
  refine jm_V.ite (fun _ => ?_) (fun _ => ?_)
  · refine jm_V.run (is := bk_M_sign_711_3) (pc' := 715) (ls' := [(0, .ref 0), (1, .int a1), (2, .int a2), (3, .int a3)]) (st' := [.int 1, .int 20, .ref 0]) (x' := x) hok hT bk_M_sign_711_3_ok rfl ?_
    refine jm_V.callV (av := [.ref 0, .int 20, .int 1]) (rest := []) hok (jm_Con.mono (c_M_take hok hrec 20 1 x) (by omega)) (jm_Inv.obj (q := ("FilterReaderModel", T_M, 22)) dd_M_sign_715 (Or.inl lk_M_151) mn_M_take ms_M_take mw_M_take mh_M_take ml_M_take rfl rfl) mw_M_take mi_M (Nat.le_of_ble_eq_true rfl) (Nat.le_of_ble_eq_true rfl) (fun x82 => ?_)
    refine jm_V.run (is := bk_M_sign_718_1) (pc' := 768) (ls' := [(0, .ref 0), (1, .int a1), (2, .int a2), (3, .int a3)]) (st' := []) (x' := x82) hok hT bk_M_sign_718_1_ok rfl ?_
    refine jm_V.sub (ls' := []) [] rfl ?_
    exact jj_M_sign_768 hok hrec x82
  refine jm_V.ite (fun _ => ?_) (fun _ => ?_)
  · refine jm_V.run (is := bk_M_sign_397_4) (pc' := (if a2 = 61 then 404 else 409)) (ls' := [(0, .ref 0), (1, .int a1), (2, .int a2), (3, .int a3)]) (st' := [.ref 0]) (x' := x) hok hT bk_M_sign_397_4_ok rfl ?_
    refine jm_V.ite (fun _ => ?_) (fun _ => ?_)
    · refine jm_V.run (is := bk_M_sign_404_2) (pc' := 411) (ls' := [(0, .ref 0), (1, .int a1), (2, .int a2), (3, .int a3)]) (st' := [.int 9, .ref 0]) (x' := x) hok hT bk_M_sign_404_2_ok rfl ?_
      refine jm_V.sub (ls' := [(2, .int a2)]) [2] rfl ?_
      exact jj_M_sign_411 hok hrec a2 9 x
    · refine jm_V.run (is := bk_M_sign_409_1) (pc' := 411) (ls' := [(0, .ref 0), (1, .int a1), (2, .int a2), (3, .int a3)]) (st' := [.int 6, .ref 0]) (x' := x) hok hT bk_M_sign_409_1_ok rfl ?_
      refine jm_V.sub (ls' := [(2, .int a2)]) [2] rfl ?_
      exact jj_M_sign_411 hok hrec a2 6 x
  refine jm_V.ite (fun _ => ?_) (fun _ => ?_)
  · refine jm_V.run (is := bk_M_sign_721_3) (pc' := 725) (ls' := [(0, .ref 0), (1, .int a1), (2, .int a2), (3, .int a3)]) (st' := [.int 1, .int 21, .ref 0]) (x' := x) hok hT bk_M_sign_721_3_ok rfl ?_
    refine jm_V.callV (av := [.ref 0, .int 21, .int 1]) (rest := []) hok (jm_Con.mono (c_M_take hok hrec 21 1 x) (by omega)) (jm_Inv.obj (q := ("FilterReaderModel", T_M, 22)) dd_M_sign_725 (Or.inl lk_M_151) mn_M_take ms_M_take mw_M_take mh_M_take ml_M_take rfl rfl) mw_M_take mi_M (Nat.le_of_ble_eq_true rfl) (Nat.le_of_ble_eq_true rfl) (fun x83 => ?_)
    refine jm_V.run (is := bk_M_sign_728_1) (pc' := 768) (ls' := [(0, .ref 0), (1, .int a1), (2, .int a2), (3, .int a3)]) (st' := []) (x' := x83) hok hT bk_M_sign_728_1_ok rfl ?_
    refine jm_V.sub (ls' := []) [] rfl ?_
    exact jj_M_sign_768 hok hrec x83
  refine jm_V.run (is := bk_M_sign_761_3) (pc' := 765) (ls' := [(0, .ref 0), (1, .int a1), (2, .int a2), (3, .int a3)]) (st' := [.int 1, .int 25, .ref 0]) (x' := x) hok hT bk_M_sign_761_3_ok rfl ?_
  refine jm_V.callV (av := [.ref 0, .int 25, .int 1]) (rest := []) hok (jm_Con.mono (c_M_take hok hrec 25 1 x) (by omega)) (jm_Inv.obj (q := ("FilterReaderModel", T_M, 22)) dd_M_sign_765 (Or.inl lk_M_151) mn_M_take ms_M_take mw_M_take mh_M_take ml_M_take rfl rfl) mw_M_take mi_M (Nat.le_of_ble_eq_true rfl) (Nat.le_of_ble_eq_true rfl) (fun x84 => ?_)
  refine jm_V.sub (ls' := []) [] rfl ?_
  exact jj_M_sign_768 hok hrec x84

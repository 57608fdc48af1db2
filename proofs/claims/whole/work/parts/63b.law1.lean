/-! THE LAW'S CASES: addLeg, addGate, setTolerance, setTimeLimit, startRun, walk, fault, retire (printed by wip/whole/law1.py) -/
def tc_addLeg : aT := [(336, .aload_n 1, 337, 0, 0, 0, []), (337, .aload_n 0, 338, 0, 0, 0, []), (338, .iload 5, 340, 0, 0, 0, []), (340, .iconst 1, 341, 0, 0, 0, []), (341, .iadd, 342, 0, 0, 0, []), (342, .iaload, 343, 0, 0, 0, []), (343, .aload_n 0, 344, 0, 0, 0, []), (344, .iload 5, 346, 0, 0, 0, []), (346, .iconst 2, 347, 0, 0, 0, []), (347, .iadd, 348, 0, 0, 0, []), (348, .iaload, 349, 0, 0, 0, []), (349, .aload_n 0, 350, 0, 0, 0, []), (350, .iload 5, 352, 0, 0, 0, []), (352, .iconst 3, 353, 0, 0, 0, []), (353, .iadd, 354, 0, 0, 0, []), (354, .iaload, 355, 0, 0, 0, []), (355, .aload_n 3, 356, 0, 0, 0, []), (356, .invokestatic 171, 359, 5, 1, 240, []), (359, .istore 6, 361, 0, 0, 0, []), (361, .aload_n 2, 362, 0, 0, 0, []), (362, .aload_n 0, 363, 0, 0, 0, []), (363, .iload 5, 365, 0, 0, 0, []), (365, .iconst 1, 366, 0, 0, 0, []), (366, .iadd, 367, 0, 0, 0, []), (367, .iaload, 368, 0, 0, 0, []), (368, .aload_n 0, 369, 0, 0, 0, []), (369, .iload 5, 371, 0, 0, 0, []), (371, .iconst 2, 372, 0, 0, 0, []), (372, .iadd, 373, 0, 0, 0, []), (373, .iaload, 374, 0, 0, 0, []), (374, .aload_n 0, 375, 0, 0, 0, []), (375, .iload 5, 377, 0, 0, 0, []), (377, .iconst 3, 378, 0, 0, 0, []), (378, .iadd, 379, 0, 0, 0, []), (379, .iaload, 380, 0, 0, 0, []), (380, .invokevirtual 174, 383, 4, 0, 156, []), (383, .istore 7, 385, 0, 0, 0, []), (385, .aload_n 2, 386, 0, 0, 0, []), (386, .invokevirtual 168, 389, 1, 0, 133, []), (389, .iload 6, 391, 0, 0, 0, []), (391, .if_icmp .eq 5, 394, 396, 0, 0, []), (394, .iconst 0, 395, 0, 0, 0, []), (395, .ireturn, 396, 0, 0, 0, []), (396, .iload 6, 398, 0, 0, 0, []), (398, .ifCond .ne 15, 401, 413, 0, 0, []), (401, .aload_n 3, 402, 0, 0, 0, []), (402, .iconst 0, 403, 0, 0, 0, []), (403, .laload, 404, 0, 0, 0, []), (404, .iload 7, 406, 0, 0, 0, []), (406, .i2l, 407, 0, 0, 0, []), (407, .lcmp, 408, 0, 0, 0, []), (408, .ifCond .eq 5, 411, 413, 0, 0, []), (411, .iconst 0, 412, 0, 0, 0, []), (412, .ireturn, 413, 0, 0, 0, []), (413, .goto 2446, 416, 2859, 0, 0, [])]
set_option maxRecDepth 100000 in
theorem kc_addLeg : tc_addLeg.all (fun q => aOk 281 8 (aMt 281).2.1 q.1 q.2) = true := by decide +kernel
def tc_addGate : aT := [(416, .aload_n 1, 417, 0, 0, 0, []), (417, .aload_n 0, 418, 0, 0, 0, []), (418, .iload 5, 420, 0, 0, 0, []), (420, .iconst 1, 421, 0, 0, 0, []), (421, .iadd, 422, 0, 0, 0, []), (422, .iaload, 423, 0, 0, 0, []), (423, .aload_n 0, 424, 0, 0, 0, []), (424, .iload 5, 426, 0, 0, 0, []), (426, .iconst 2, 427, 0, 0, 0, []), (427, .iadd, 428, 0, 0, 0, []), (428, .iaload, 429, 0, 0, 0, []), (429, .aload_n 0, 430, 0, 0, 0, []), (430, .iload 5, 432, 0, 0, 0, []), (432, .iconst 3, 433, 0, 0, 0, []), (433, .iadd, 434, 0, 0, 0, []), (434, .iaload, 435, 0, 0, 0, []), (435, .aload_n 0, 436, 0, 0, 0, []), (436, .iload 5, 438, 0, 0, 0, []), (438, .iconst 4, 439, 0, 0, 0, []), (439, .iadd, 440, 0, 0, 0, []), (440, .iaload, 441, 0, 0, 0, []), (441, .aload_n 0, 442, 0, 0, 0, []), (442, .iload 5, 444, 0, 0, 0, []), (444, .iconst 5, 445, 0, 0, 0, []), (445, .iadd, 446, 0, 0, 0, []), (446, .iaload, 447, 0, 0, 0, []), (447, .aload_n 3, 448, 0, 0, 0, []), (448, .invokestatic 175, 451, 7, 1, 241, []), (451, .istore 6, 453, 0, 0, 0, []), (453, .aload_n 2, 454, 0, 0, 0, []), (454, .aload_n 0, 455, 0, 0, 0, []), (455, .iload 5, 457, 0, 0, 0, []), (457, .iconst 1, 458, 0, 0, 0, []), (458, .iadd, 459, 0, 0, 0, []), (459, .iaload, 460, 0, 0, 0, []), (460, .aload_n 0, 461, 0, 0, 0, []), (461, .iload 5, 463, 0, 0, 0, []), (463, .iconst 2, 464, 0, 0, 0, []), (464, .iadd, 465, 0, 0, 0, []), (465, .iaload, 466, 0, 0, 0, []), (466, .aload_n 0, 467, 0, 0, 0, []), (467, .iload 5, 469, 0, 0, 0, []), (469, .iconst 3, 470, 0, 0, 0, []), (470, .iadd, 471, 0, 0, 0, []), (471, .iaload, 472, 0, 0, 0, []), (472, .aload_n 0, 473, 0, 0, 0, []), (473, .iload 5, 475, 0, 0, 0, []), (475, .iconst 4, 476, 0, 0, 0, []), (476, .iadd, 477, 0, 0, 0, []), (477, .iaload, 478, 0, 0, 0, []), (478, .aload_n 0, 479, 0, 0, 0, []), (479, .iload 5, 481, 0, 0, 0, []), (481, .iconst 5, 482, 0, 0, 0, []), (482, .iadd, 483, 0, 0, 0, []), (483, .iaload, 484, 0, 0, 0, []), (484, .invokevirtual 178, 487, 6, 0, 158, []), (487, .istore 7, 489, 0, 0, 0, []), (489, .aload_n 2, 490, 0, 0, 0, []), (490, .invokevirtual 168, 493, 1, 0, 133, []), (493, .iload 6, 495, 0, 0, 0, []), (495, .if_icmp .eq 5, 498, 500, 0, 0, []), (498, .iconst 0, 499, 0, 0, 0, []), (499, .ireturn, 500, 0, 0, 0, []), (500, .iload 6, 502, 0, 0, 0, []), (502, .ifCond .ne 15, 505, 517, 0, 0, []), (505, .aload_n 3, 506, 0, 0, 0, []), (506, .iconst 0, 507, 0, 0, 0, []), (507, .laload, 508, 0, 0, 0, []), (508, .iload 7, 510, 0, 0, 0, []), (510, .i2l, 511, 0, 0, 0, []), (511, .lcmp, 512, 0, 0, 0, []), (512, .ifCond .eq 5, 515, 517, 0, 0, []), (515, .iconst 0, 516, 0, 0, 0, []), (516, .ireturn, 517, 0, 0, 0, []), (517, .goto 2342, 520, 2859, 0, 0, [])]
set_option maxRecDepth 100000 in
theorem kc_addGate : tc_addGate.all (fun q => aOk 281 8 (aMt 281).2.1 q.1 q.2) = true := by decide +kernel
def tc_setTolerance : aT := [(520, .aload_n 1, 521, 0, 0, 0, []), (521, .aload_n 0, 522, 0, 0, 0, []), (522, .iload 5, 524, 0, 0, 0, []), (524, .iconst 1, 525, 0, 0, 0, []), (525, .iadd, 526, 0, 0, 0, []), (526, .iaload, 527, 0, 0, 0, []), (527, .aload_n 3, 528, 0, 0, 0, []), (528, .invokestatic 179, 531, 3, 1, 242, []), (531, .istore 6, 533, 0, 0, 0, []), (533, .aload_n 2, 534, 0, 0, 0, []), (534, .aload_n 0, 535, 0, 0, 0, []), (535, .iload 5, 537, 0, 0, 0, []), (537, .iconst 1, 538, 0, 0, 0, []), (538, .iadd, 539, 0, 0, 0, []), (539, .iaload, 540, 0, 0, 0, []), (540, .invokevirtual 182, 543, 2, 0, 160, []), (543, .istore 7, 545, 0, 0, 0, []), (545, .aload_n 2, 546, 0, 0, 0, []), (546, .invokevirtual 168, 549, 1, 0, 133, []), (549, .iload 6, 551, 0, 0, 0, []), (551, .if_icmp .eq 5, 554, 556, 0, 0, []), (554, .iconst 0, 555, 0, 0, 0, []), (555, .ireturn, 556, 0, 0, 0, []), (556, .iload 6, 558, 0, 0, 0, []), (558, .ifCond .ne 15, 561, 573, 0, 0, []), (561, .aload_n 3, 562, 0, 0, 0, []), (562, .iconst 0, 563, 0, 0, 0, []), (563, .laload, 564, 0, 0, 0, []), (564, .iload 7, 566, 0, 0, 0, []), (566, .i2l, 567, 0, 0, 0, []), (567, .lcmp, 568, 0, 0, 0, []), (568, .ifCond .eq 5, 571, 573, 0, 0, []), (571, .iconst 0, 572, 0, 0, 0, []), (572, .ireturn, 573, 0, 0, 0, []), (573, .goto 2286, 576, 2859, 0, 0, [])]
set_option maxRecDepth 100000 in
theorem kc_setTolerance : tc_setTolerance.all (fun q => aOk 281 8 (aMt 281).2.1 q.1 q.2) = true := by decide +kernel
def tc_setTimeLimit : aT := [(576, .aload_n 1, 577, 0, 0, 0, []), (577, .aload_n 0, 578, 0, 0, 0, []), (578, .iload 5, 580, 0, 0, 0, []), (580, .iconst 1, 581, 0, 0, 0, []), (581, .iadd, 582, 0, 0, 0, []), (582, .iaload, 583, 0, 0, 0, []), (583, .aload_n 3, 584, 0, 0, 0, []), (584, .invokestatic 183, 587, 3, 1, 243, []), (587, .istore 6, 589, 0, 0, 0, []), (589, .aload_n 2, 590, 0, 0, 0, []), (590, .aload_n 0, 591, 0, 0, 0, []), (591, .iload 5, 593, 0, 0, 0, []), (593, .iconst 1, 594, 0, 0, 0, []), (594, .iadd, 595, 0, 0, 0, []), (595, .iaload, 596, 0, 0, 0, []), (596, .invokevirtual 185, 599, 2, 0, 161, []), (599, .istore 7, 601, 0, 0, 0, []), (601, .aload_n 2, 602, 0, 0, 0, []), (602, .invokevirtual 168, 605, 1, 0, 133, []), (605, .iload 6, 607, 0, 0, 0, []), (607, .if_icmp .eq 5, 610, 612, 0, 0, []), (610, .iconst 0, 611, 0, 0, 0, []), (611, .ireturn, 612, 0, 0, 0, []), (612, .iload 6, 614, 0, 0, 0, []), (614, .ifCond .ne 15, 617, 629, 0, 0, []), (617, .aload_n 3, 618, 0, 0, 0, []), (618, .iconst 0, 619, 0, 0, 0, []), (619, .laload, 620, 0, 0, 0, []), (620, .iload 7, 622, 0, 0, 0, []), (622, .i2l, 623, 0, 0, 0, []), (623, .lcmp, 624, 0, 0, 0, []), (624, .ifCond .eq 5, 627, 629, 0, 0, []), (627, .iconst 0, 628, 0, 0, 0, []), (628, .ireturn, 629, 0, 0, 0, []), (629, .goto 2230, 632, 2859, 0, 0, [])]
set_option maxRecDepth 100000 in
theorem kc_setTimeLimit : tc_setTimeLimit.all (fun q => aOk 281 8 (aMt 281).2.1 q.1 q.2) = true := by decide +kernel
def tc_startRun : aT := [(632, .aload_n 1, 633, 0, 0, 0, []), (633, .aload_n 3, 634, 0, 0, 0, []), (634, .invokestatic 186, 637, 2, 1, 244, []), (637, .istore 6, 639, 0, 0, 0, []), (639, .aload_n 2, 640, 0, 0, 0, []), (640, .invokevirtual 189, 643, 1, 0, 163, []), (643, .istore 7, 645, 0, 0, 0, []), (645, .aload_n 2, 646, 0, 0, 0, []), (646, .invokevirtual 168, 649, 1, 0, 133, []), (649, .iload 6, 651, 0, 0, 0, []), (651, .if_icmp .eq 5, 654, 656, 0, 0, []), (654, .iconst 0, 655, 0, 0, 0, []), (655, .ireturn, 656, 0, 0, 0, []), (656, .iload 6, 658, 0, 0, 0, []), (658, .ifCond .ne 15, 661, 673, 0, 0, []), (661, .aload_n 3, 662, 0, 0, 0, []), (662, .iconst 0, 663, 0, 0, 0, []), (663, .laload, 664, 0, 0, 0, []), (664, .iload 7, 666, 0, 0, 0, []), (666, .i2l, 667, 0, 0, 0, []), (667, .lcmp, 668, 0, 0, 0, []), (668, .ifCond .eq 5, 671, 673, 0, 0, []), (671, .iconst 0, 672, 0, 0, 0, []), (672, .ireturn, 673, 0, 0, 0, []), (673, .goto 2186, 676, 2859, 0, 0, [])]
set_option maxRecDepth 100000 in
theorem kc_startRun : tc_startRun.all (fun q => aOk 281 8 (aMt 281).2.1 q.1 q.2) = true := by decide +kernel
def tc_walk : aT := [(676, .aload_n 1, 677, 0, 0, 0, []), (677, .aload_n 0, 678, 0, 0, 0, []), (678, .iload 5, 680, 0, 0, 0, []), (680, .iconst 1, 681, 0, 0, 0, []), (681, .iadd, 682, 0, 0, 0, []), (682, .iaload, 683, 0, 0, 0, []), (683, .aload_n 0, 684, 0, 0, 0, []), (684, .iload 5, 686, 0, 0, 0, []), (686, .iconst 2, 687, 0, 0, 0, []), (687, .iadd, 688, 0, 0, 0, []), (688, .iaload, 689, 0, 0, 0, []), (689, .aload_n 0, 690, 0, 0, 0, []), (690, .iload 5, 692, 0, 0, 0, []), (692, .iconst 3, 693, 0, 0, 0, []), (693, .iadd, 694, 0, 0, 0, []), (694, .iaload, 695, 0, 0, 0, []), (695, .aload_n 3, 696, 0, 0, 0, []), (696, .invokestatic 190, 699, 5, 1, 245, []), (699, .istore 6, 701, 0, 0, 0, []), (701, .aload_n 2, 702, 0, 0, 0, []), (702, .aload_n 0, 703, 0, 0, 0, []), (703, .iload 5, 705, 0, 0, 0, []), (705, .iconst 1, 706, 0, 0, 0, []), (706, .iadd, 707, 0, 0, 0, []), (707, .iaload, 708, 0, 0, 0, []), (708, .aload_n 0, 709, 0, 0, 0, []), (709, .iload 5, 711, 0, 0, 0, []), (711, .iconst 2, 712, 0, 0, 0, []), (712, .iadd, 713, 0, 0, 0, []), (713, .iaload, 714, 0, 0, 0, []), (714, .aload_n 0, 715, 0, 0, 0, []), (715, .iload 5, 717, 0, 0, 0, []), (717, .iconst 3, 718, 0, 0, 0, []), (718, .iadd, 719, 0, 0, 0, []), (719, .iaload, 720, 0, 0, 0, []), (720, .invokevirtual 192, 723, 4, 0, 171, []), (723, .istore 7, 725, 0, 0, 0, []), (725, .aload_n 2, 726, 0, 0, 0, []), (726, .invokevirtual 168, 729, 1, 0, 133, []), (729, .iload 6, 731, 0, 0, 0, []), (731, .if_icmp .eq 5, 734, 736, 0, 0, []), (734, .iconst 0, 735, 0, 0, 0, []), (735, .ireturn, 736, 0, 0, 0, []), (736, .iload 6, 738, 0, 0, 0, []), (738, .ifCond .ne 15, 741, 753, 0, 0, []), (741, .aload_n 3, 742, 0, 0, 0, []), (742, .iconst 0, 743, 0, 0, 0, []), (743, .laload, 744, 0, 0, 0, []), (744, .iload 7, 746, 0, 0, 0, []), (746, .i2l, 747, 0, 0, 0, []), (747, .lcmp, 748, 0, 0, 0, []), (748, .ifCond .eq 5, 751, 753, 0, 0, []), (751, .iconst 0, 752, 0, 0, 0, []), (752, .ireturn, 753, 0, 0, 0, []), (753, .goto 2106, 756, 2859, 0, 0, [])]
set_option maxRecDepth 100000 in
theorem kc_walk : tc_walk.all (fun q => aOk 281 8 (aMt 281).2.1 q.1 q.2) = true := by decide +kernel
def tc_fault : aT := [(756, .aload_n 1, 757, 0, 0, 0, []), (757, .aload_n 0, 758, 0, 0, 0, []), (758, .iload 5, 760, 0, 0, 0, []), (760, .iconst 1, 761, 0, 0, 0, []), (761, .iadd, 762, 0, 0, 0, []), (762, .iaload, 763, 0, 0, 0, []), (763, .aload_n 3, 764, 0, 0, 0, []), (764, .invokestatic 193, 767, 3, 1, 246, []), (767, .istore 6, 769, 0, 0, 0, []), (769, .aload_n 2, 770, 0, 0, 0, []), (770, .aload_n 0, 771, 0, 0, 0, []), (771, .iload 5, 773, 0, 0, 0, []), (773, .iconst 1, 774, 0, 0, 0, []), (774, .iadd, 775, 0, 0, 0, []), (775, .iaload, 776, 0, 0, 0, []), (776, .invokevirtual 195, 779, 2, 0, 173, []), (779, .istore 7, 781, 0, 0, 0, []), (781, .aload_n 2, 782, 0, 0, 0, []), (782, .invokevirtual 168, 785, 1, 0, 133, []), (785, .iload 6, 787, 0, 0, 0, []), (787, .if_icmp .eq 5, 790, 792, 0, 0, []), (790, .iconst 0, 791, 0, 0, 0, []), (791, .ireturn, 792, 0, 0, 0, []), (792, .iload 6, 794, 0, 0, 0, []), (794, .ifCond .ne 15, 797, 809, 0, 0, []), (797, .aload_n 3, 798, 0, 0, 0, []), (798, .iconst 0, 799, 0, 0, 0, []), (799, .laload, 800, 0, 0, 0, []), (800, .iload 7, 802, 0, 0, 0, []), (802, .i2l, 803, 0, 0, 0, []), (803, .lcmp, 804, 0, 0, 0, []), (804, .ifCond .eq 5, 807, 809, 0, 0, []), (807, .iconst 0, 808, 0, 0, 0, []), (808, .ireturn, 809, 0, 0, 0, []), (809, .goto 2050, 812, 2859, 0, 0, [])]
set_option maxRecDepth 100000 in
theorem kc_fault : tc_fault.all (fun q => aOk 281 8 (aMt 281).2.1 q.1 q.2) = true := by decide +kernel
def tc_retire : aT := [(812, .aload_n 1, 813, 0, 0, 0, []), (813, .aload_n 3, 814, 0, 0, 0, []), (814, .invokestatic 196, 817, 2, 1, 247, []), (817, .istore 6, 819, 0, 0, 0, []), (819, .aload_n 2, 820, 0, 0, 0, []), (820, .invokevirtual 198, 823, 1, 0, 175, []), (823, .istore 7, 825, 0, 0, 0, []), (825, .aload_n 2, 826, 0, 0, 0, []), (826, .invokevirtual 168, 829, 1, 0, 133, []), (829, .iload 6, 831, 0, 0, 0, []), (831, .if_icmp .eq 5, 834, 836, 0, 0, []), (834, .iconst 0, 835, 0, 0, 0, []), (835, .ireturn, 836, 0, 0, 0, []), (836, .iload 6, 838, 0, 0, 0, []), (838, .ifCond .ne 15, 841, 853, 0, 0, []), (841, .aload_n 3, 842, 0, 0, 0, []), (842, .iconst 0, 843, 0, 0, 0, []), (843, .laload, 844, 0, 0, 0, []), (844, .iload 7, 846, 0, 0, 0, []), (846, .i2l, 847, 0, 0, 0, []), (847, .lcmp, 848, 0, 0, 0, []), (848, .ifCond .eq 5, 851, 853, 0, 0, []), (851, .iconst 0, 852, 0, 0, 0, []), (852, .ireturn, 853, 0, 0, 0, []), (853, .goto 2006, 856, 2859, 0, 0, [])]
set_option maxRecDepth 100000 in
theorem kc_retire : tc_retire.all (fun q => aOk 281 8 (aMt 281).2.1 q.1 q.2) = true := by decide +kernel
section LC
variable {l : Launch} {g : aG} {Q : Option aV → aSt → aM → Prop} {X : Nat → aSt → aM → Prop} {B : aK → aM → Nat → List (Option aV) → List aV → Prop} {S : Int → Int} {z : aM} {A : aAb} {i : Int} {c1 c2 : Nat}
theorem wL_addLeg (hB : lBt l g Q X B) (h : lIn g S z A i c1 c2) (hN : lNx S B i c1 c2) : B (none, c1, c2) z 336 [some (.inr (.inr (.inl (31, 0, 0)))), some (.inr (.inr (.inl (0, 0, 0)))), some (.inr (.inr (.inl (16, 0, 0)))), some (.inr (.inr (.inl (18, 0, 0)))), some (.inr (.inr (.inl (19, 0, 0)))), some (.inl i), none, none, none] [] := by
  obtain ⟨hs, hS, ⟨i0, i1⟩, k1, k2⟩ := h
  obtain ⟨⟨hC, hM⟩, ⟨hI, hL⟩, hz⟩ := id hs
  obtain ⟨x1, e1⟩ : ∃ x, x = z (31, 0, 0) (i + 1) := ⟨_, rfl⟩
  have h1 : aIR x1 := by rw [e1, hz]; exact hS _
  obtain ⟨x2, e2⟩ : ∃ x, x = z (31, 0, 0) (i + 2) := ⟨_, rfl⟩
  have h2 : aIR x2 := by rw [e2, hz]; exact hS _
  obtain ⟨x3, e3⟩ : ∃ x, x = z (31, 0, 0) (i + 3) := ⟨_, rfl⟩
  have h3 : aIR x3 := by rw [e3, hz]; exact hS _
  have lv := lV_addLeg (x := x1) (y := x2) (p := x3) hI
  have ct : lOp l g nL_addLeg 19 [.inr (.inr (.inl (0, 0, 0))), .inl (z (31, 0, 0) (i + 1)), .inl (z (31, 0, 0) (i + 2)), .inl (z (31, 0, 0) (i + 3)), .inr (.inr (.inl (18, 0, 0)))] z (lQ z (oCmd (cLeg x1 x2 x3) A)) := by
    rw [← e1]
    rw [← e2]
    rw [← e3]
    exact lT_addLeg (by decide) (cT_addLeg h1 h2 h3 (by decide) hC hI) lv.1 lv.2
  have hIL : InvW (oCmd (cLeg x1 x2 x3) A).2.2 ∧ InvL (oCmd (cLeg x1 x2 x3) A).2.2 := And.intro (oCmd_I hI (cLeg_I hI.1.1)) (oCmd_L hI hL (cLeg_L hI.1.1 hL.1))
  have cm0 : ∀ z1, RelM z1 A → mOp l g nX7_addLeg 19 [.inr (.inr (.inl (16, 0, 0))), .inl x1, .inl x2, .inl x3] z1 (oCmd (cLeg x1 x2 x3) A) := fun z1 md => cM_addLeg h1 h2 h3 (by decide) md hI
  obtain ⟨R, eR⟩ : ∃ R : aRes, R = (oCmd (cLeg x1 x2 x3) A) := ⟨_, rfl⟩
  rw [← eR] at lv ct hIL
  simp only [← eR] at cm0
  clear eR
  have lt0 : 0 ≤ R.1 ∧ R.1 ≤ 3 := by have := lv.1; omega
  have l3 : ∀ (z2 : aM) (t : Int) (v : Int) (A2 : aAb), lS S z2 A2 → (0 ≤ t ∧ t ≤ 3) → z2 (16, 0, 0) 9 = t → (t = 0 → z2 (18, 0, 0) 0 = v) → (t = 0 → aIR v) → B (none, c1 + 1, c2 + 6) z2 383 [some (.inr (.inr (.inl (31, 0, 0)))), some (.inr (.inr (.inl (0, 0, 0)))), some (.inr (.inr (.inl (16, 0, 0)))), some (.inr (.inr (.inl (18, 0, 0)))), some (.inr (.inr (.inl (19, 0, 0)))), some (.inl i), some (.inl t), none, none] [.inl v] := by
    intro z2 t v A2 hs2 ht e9 e18 hv
    have fin := hN z2 A2 (some (.inl t)) (some (.inl v)) none (c1 + 1) (c2 + 6) hs2 (Nat.le_refl _) (Nat.le_refl _)
    have th := cM_thrown (l := l) (g := g) (d := 19) (z := z2)
    by_cases t0 : t = 0
    · have f18 := e18 t0
      have fv := hv t0
      have ec : aCmp (z2 (18, 0, 0) 0) v = 0 := by rw [f18]; exact aCmp_rf v
      unfold aIR at fv
      refine hB tc_addLeg kc_addLeg [2859] 1000 _ _ _ _ _ ?_
      repeat' (first | exact fin | refine And.intro ?_ ?_ | (intro hh; first | exact absurd hh (by decide) | exact absurd rfl hh | (exfalso; omega) | skip) | refine Or.inl (uE th ?_) | fail)
      all_goals first | omega | (exact rfl) | (show (1 : Nat) ≤ 20; decide)
    · refine hB tc_addLeg kc_addLeg [2859] 1000 _ _ _ _ _ ?_
      repeat' (first | exact fin | refine And.intro ?_ ?_ | (intro hh; first | exact absurd hh (by decide) | exact absurd rfl hh | (exfalso; omega) | skip) | refine Or.inl (uE th ?_) | fail)
      all_goals first | omega | (exact rfl) | (show (1 : Nat) ≤ 20; decide)
  have l2 : ∀ r z1, lQ z R r z1 → aPu r [] (fun st => B (none, c1 + 1, c2 + 6) z1 359 [some (.inr (.inr (.inl (31, 0, 0)))), some (.inr (.inr (.inl (0, 0, 0)))), some (.inr (.inr (.inl (16, 0, 0)))), some (.inr (.inr (.inl (18, 0, 0)))), some (.inr (.inr (.inl (19, 0, 0)))), some (.inl i), none, none, none] st) := by
    intro r z1 hz1
    obtain ⟨rfl, q1, q2, q3⟩ := hz1
    have md := hs.mid q3
    have a1 : z1 (31, 0, 0) (i + 1) = x1 := by rw [md.2]; exact e1.symm
    have a2 : z1 (31, 0, 0) (i + 2) = x2 := by rw [md.2]; exact e2.symm
    have a3 : z1 (31, 0, 0) (i + 3) = x3 := by rw [md.2]; exact e3.symm
    have cm : mOp l g nX7_addLeg 19 [.inr (.inr (.inl (16, 0, 0))), .inl (z1 (31, 0, 0) (i + 1)), .inl (z1 (31, 0, 0) (i + 2)), .inl (z1 (31, 0, 0) (i + 3))] z1 R := by
      rw [a1]
      rw [a2]
      rw [a3]
      exact cm0 z1 md.1
    have l4 : ∀ r z2, (r = some (.inl R.2.1) ∧ (RelM z2 R.2.2 ∧ z2 (16, 0, 0) 9 = R.1) ∧ fM z1 z2) → aPu r [] (fun st => B (none, c1 + 1, c2 + 6) z2 383 [some (.inr (.inr (.inl (31, 0, 0)))), some (.inr (.inr (.inl (0, 0, 0)))), some (.inr (.inr (.inl (16, 0, 0)))), some (.inr (.inr (.inl (18, 0, 0)))), some (.inr (.inr (.inl (19, 0, 0)))), some (.inl i), some (.inl R.1), none, none] st) := by
      intro r z2 hz2
      obtain ⟨rfl, ⟨p1, p2⟩, p3⟩ := hz2
      exact l3 z2 R.1 R.2.1 R.2.2 (hs.fin q3 q2 p1 p3 hIL.1 hIL.2) lt0 p2 (fun w => by rw [p3 (18, 0, 0) ⟨by decide, by decide⟩]; exact q1 w) lv.2
    refine hB tc_addLeg kc_addLeg [383] 1000 _ _ _ _ _ ?_
    repeat' (first | exact Or.inl (uA cm l4) | refine And.intro ?_ ?_ | (intro hh; first | exact absurd hh (by decide) | exact absurd rfl hh | (exfalso; omega) | skip) | fail)
    all_goals first | omega | (exact rfl) | (show (1 : Nat) ≤ 20; decide)
  refine hB tc_addLeg kc_addLeg [359] 1000 _ _ _ _ _ ?_
  repeat' (first | exact Or.inr (Or.inr ⟨1, 6, ⟨k1, k2⟩, uL ct l2⟩) | refine And.intro ?_ ?_ | (intro hh; first | exact absurd hh (by decide) | exact absurd rfl hh | (exfalso; omega) | skip) | fail)
  all_goals first | omega | (exact rfl) | (show (1 : Nat) ≤ 20; decide)
theorem wL_addGate (hB : lBt l g Q X B) (h : lIn g S z A i c1 c2) (hN : lNx S B i c1 c2) : B (none, c1, c2) z 416 [some (.inr (.inr (.inl (31, 0, 0)))), some (.inr (.inr (.inl (0, 0, 0)))), some (.inr (.inr (.inl (16, 0, 0)))), some (.inr (.inr (.inl (18, 0, 0)))), some (.inr (.inr (.inl (19, 0, 0)))), some (.inl i), none, none, none] [] := by
  obtain ⟨hs, hS, ⟨i0, i1⟩, k1, k2⟩ := h
  obtain ⟨⟨hC, hM⟩, ⟨hI, hL⟩, hz⟩ := id hs
  obtain ⟨x1, e1⟩ : ∃ x, x = z (31, 0, 0) (i + 1) := ⟨_, rfl⟩
  have h1 : aIR x1 := by rw [e1, hz]; exact hS _
  obtain ⟨x2, e2⟩ : ∃ x, x = z (31, 0, 0) (i + 2) := ⟨_, rfl⟩
  have h2 : aIR x2 := by rw [e2, hz]; exact hS _
  obtain ⟨x3, e3⟩ : ∃ x, x = z (31, 0, 0) (i + 3) := ⟨_, rfl⟩
  have h3 : aIR x3 := by rw [e3, hz]; exact hS _
  obtain ⟨x4, e4⟩ : ∃ x, x = z (31, 0, 0) (i + 4) := ⟨_, rfl⟩
  have h4 : aIR x4 := by rw [e4, hz]; exact hS _
  obtain ⟨x5, e5⟩ : ∃ x, x = z (31, 0, 0) (i + 5) := ⟨_, rfl⟩
  have h5 : aIR x5 := by rw [e5, hz]; exact hS _
  have lv := lV_addGate (k := x1) (x1 := x2) (y1 := x3) (x2 := x4) (y2 := x5) hI
  have ct : lOp l g nL_addGate 19 [.inr (.inr (.inl (0, 0, 0))), .inl (z (31, 0, 0) (i + 1)), .inl (z (31, 0, 0) (i + 2)), .inl (z (31, 0, 0) (i + 3)), .inl (z (31, 0, 0) (i + 4)), .inl (z (31, 0, 0) (i + 5)), .inr (.inr (.inl (18, 0, 0)))] z (lQ z (oCmd (cGate x1 x2 x3 x4 x5) A)) := by
    rw [← e1]
    rw [← e2]
    rw [← e3]
    rw [← e4]
    rw [← e5]
    exact lT_addGate (by decide) (cT_addGate h1 h2 h3 h4 h5 (by decide) hC hI) lv.1 lv.2
  have hIL : InvW (oCmd (cGate x1 x2 x3 x4 x5) A).2.2 ∧ InvL (oCmd (cGate x1 x2 x3 x4 x5) A).2.2 := And.intro (oCmd_I hI (cGate_I hI.1.1)) (oCmd_L hI hL (cGate_L hI.1.1 hL.1))
  have cm0 : ∀ z1, RelM z1 A → mOp l g nX7_addGate 19 [.inr (.inr (.inl (16, 0, 0))), .inl x1, .inl x2, .inl x3, .inl x4, .inl x5] z1 (oCmd (cGate x1 x2 x3 x4 x5) A) := fun z1 md => cM_addGate h1 h2 h3 h4 h5 (by decide) md hI
  obtain ⟨R, eR⟩ : ∃ R : aRes, R = (oCmd (cGate x1 x2 x3 x4 x5) A) := ⟨_, rfl⟩
  rw [← eR] at lv ct hIL
  simp only [← eR] at cm0
  clear eR
  have lt0 : 0 ≤ R.1 ∧ R.1 ≤ 3 := by have := lv.1; omega
  have l3 : ∀ (z2 : aM) (t : Int) (v : Int) (A2 : aAb), lS S z2 A2 → (0 ≤ t ∧ t ≤ 3) → z2 (16, 0, 0) 9 = t → (t = 0 → z2 (18, 0, 0) 0 = v) → (t = 0 → aIR v) → B (none, c1 + 1, c2 + 6) z2 487 [some (.inr (.inr (.inl (31, 0, 0)))), some (.inr (.inr (.inl (0, 0, 0)))), some (.inr (.inr (.inl (16, 0, 0)))), some (.inr (.inr (.inl (18, 0, 0)))), some (.inr (.inr (.inl (19, 0, 0)))), some (.inl i), some (.inl t), none, none] [.inl v] := by
    intro z2 t v A2 hs2 ht e9 e18 hv
    have fin := hN z2 A2 (some (.inl t)) (some (.inl v)) none (c1 + 1) (c2 + 6) hs2 (Nat.le_refl _) (Nat.le_refl _)
    have th := cM_thrown (l := l) (g := g) (d := 19) (z := z2)
    by_cases t0 : t = 0
    · have f18 := e18 t0
      have fv := hv t0
      have ec : aCmp (z2 (18, 0, 0) 0) v = 0 := by rw [f18]; exact aCmp_rf v
      unfold aIR at fv
      refine hB tc_addGate kc_addGate [2859] 1000 _ _ _ _ _ ?_
      repeat' (first | exact fin | refine And.intro ?_ ?_ | (intro hh; first | exact absurd hh (by decide) | exact absurd rfl hh | (exfalso; omega) | skip) | refine Or.inl (uE th ?_) | fail)
      all_goals first | omega | (exact rfl) | (show (1 : Nat) ≤ 20; decide)
    · refine hB tc_addGate kc_addGate [2859] 1000 _ _ _ _ _ ?_
      repeat' (first | exact fin | refine And.intro ?_ ?_ | (intro hh; first | exact absurd hh (by decide) | exact absurd rfl hh | (exfalso; omega) | skip) | refine Or.inl (uE th ?_) | fail)
      all_goals first | omega | (exact rfl) | (show (1 : Nat) ≤ 20; decide)
  have l2 : ∀ r z1, lQ z R r z1 → aPu r [] (fun st => B (none, c1 + 1, c2 + 6) z1 451 [some (.inr (.inr (.inl (31, 0, 0)))), some (.inr (.inr (.inl (0, 0, 0)))), some (.inr (.inr (.inl (16, 0, 0)))), some (.inr (.inr (.inl (18, 0, 0)))), some (.inr (.inr (.inl (19, 0, 0)))), some (.inl i), none, none, none] st) := by
    intro r z1 hz1
    obtain ⟨rfl, q1, q2, q3⟩ := hz1
    have md := hs.mid q3
    have a1 : z1 (31, 0, 0) (i + 1) = x1 := by rw [md.2]; exact e1.symm
    have a2 : z1 (31, 0, 0) (i + 2) = x2 := by rw [md.2]; exact e2.symm
    have a3 : z1 (31, 0, 0) (i + 3) = x3 := by rw [md.2]; exact e3.symm
    have a4 : z1 (31, 0, 0) (i + 4) = x4 := by rw [md.2]; exact e4.symm
    have a5 : z1 (31, 0, 0) (i + 5) = x5 := by rw [md.2]; exact e5.symm
    have cm : mOp l g nX7_addGate 19 [.inr (.inr (.inl (16, 0, 0))), .inl (z1 (31, 0, 0) (i + 1)), .inl (z1 (31, 0, 0) (i + 2)), .inl (z1 (31, 0, 0) (i + 3)), .inl (z1 (31, 0, 0) (i + 4)), .inl (z1 (31, 0, 0) (i + 5))] z1 R := by
      rw [a1]
      rw [a2]
      rw [a3]
      rw [a4]
      rw [a5]
      exact cm0 z1 md.1
    have l4 : ∀ r z2, (r = some (.inl R.2.1) ∧ (RelM z2 R.2.2 ∧ z2 (16, 0, 0) 9 = R.1) ∧ fM z1 z2) → aPu r [] (fun st => B (none, c1 + 1, c2 + 6) z2 487 [some (.inr (.inr (.inl (31, 0, 0)))), some (.inr (.inr (.inl (0, 0, 0)))), some (.inr (.inr (.inl (16, 0, 0)))), some (.inr (.inr (.inl (18, 0, 0)))), some (.inr (.inr (.inl (19, 0, 0)))), some (.inl i), some (.inl R.1), none, none] st) := by
      intro r z2 hz2
      obtain ⟨rfl, ⟨p1, p2⟩, p3⟩ := hz2
      exact l3 z2 R.1 R.2.1 R.2.2 (hs.fin q3 q2 p1 p3 hIL.1 hIL.2) lt0 p2 (fun w => by rw [p3 (18, 0, 0) ⟨by decide, by decide⟩]; exact q1 w) lv.2
    refine hB tc_addGate kc_addGate [487] 1000 _ _ _ _ _ ?_
    repeat' (first | exact Or.inl (uA cm l4) | refine And.intro ?_ ?_ | (intro hh; first | exact absurd hh (by decide) | exact absurd rfl hh | (exfalso; omega) | skip) | fail)
    all_goals first | omega | (exact rfl) | (show (1 : Nat) ≤ 20; decide)
  refine hB tc_addGate kc_addGate [451] 1000 _ _ _ _ _ ?_
  repeat' (first | exact Or.inr (Or.inr ⟨1, 6, ⟨k1, k2⟩, uL ct l2⟩) | refine And.intro ?_ ?_ | (intro hh; first | exact absurd hh (by decide) | exact absurd rfl hh | (exfalso; omega) | skip) | fail)
  all_goals first | omega | (exact rfl) | (show (1 : Nat) ≤ 20; decide)
theorem wL_setTolerance (hB : lBt l g Q X B) (h : lIn g S z A i c1 c2) (hN : lNx S B i c1 c2) : B (none, c1, c2) z 520 [some (.inr (.inr (.inl (31, 0, 0)))), some (.inr (.inr (.inl (0, 0, 0)))), some (.inr (.inr (.inl (16, 0, 0)))), some (.inr (.inr (.inl (18, 0, 0)))), some (.inr (.inr (.inl (19, 0, 0)))), some (.inl i), none, none, none] [] := by
  obtain ⟨hs, hS, ⟨i0, i1⟩, k1, k2⟩ := h
  obtain ⟨⟨hC, hM⟩, ⟨hI, hL⟩, hz⟩ := id hs
  obtain ⟨x1, e1⟩ : ∃ x, x = z (31, 0, 0) (i + 1) := ⟨_, rfl⟩
  have h1 : aIR x1 := by rw [e1, hz]; exact hS _
  have lv := lV_setTolerance (v := x1) hI
  have ct : lOp l g nL_setTolerance 19 [.inr (.inr (.inl (0, 0, 0))), .inl (z (31, 0, 0) (i + 1)), .inr (.inr (.inl (18, 0, 0)))] z (lQ z (oCmd (cSet 5 x1 1 20) A)) := by
    rw [← e1]
    exact lT_setTolerance (by decide) (cT_setTolerance h1 (by decide) hC hI) lv.1 lv.2
  have hIL : InvW (oCmd (cSet 5 x1 1 20) A).2.2 ∧ InvL (oCmd (cSet 5 x1 1 20) A).2.2 := And.intro (oCmd_I hI (cSet_I hI.1.1 (Or.inl ⟨rfl, by decide, by decide⟩))) (oCmd_L hI hL (cSet_L (by decide) hL.1))
  have cm0 : ∀ z1, RelM z1 A → mOp l g nX7_setTolerance 19 [.inr (.inr (.inl (16, 0, 0))), .inl x1] z1 (oCmd (cSet 5 x1 1 20) A) := fun z1 md => cM_setTolerance h1 (by decide) md hI
  obtain ⟨R, eR⟩ : ∃ R : aRes, R = (oCmd (cSet 5 x1 1 20) A) := ⟨_, rfl⟩
  rw [← eR] at lv ct hIL
  simp only [← eR] at cm0
  clear eR
  have lt0 : 0 ≤ R.1 ∧ R.1 ≤ 3 := by have := lv.1; omega
  have l3 : ∀ (z2 : aM) (t : Int) (v : Int) (A2 : aAb), lS S z2 A2 → (0 ≤ t ∧ t ≤ 3) → z2 (16, 0, 0) 9 = t → (t = 0 → z2 (18, 0, 0) 0 = v) → (t = 0 → aIR v) → B (none, c1 + 1, c2 + 6) z2 543 [some (.inr (.inr (.inl (31, 0, 0)))), some (.inr (.inr (.inl (0, 0, 0)))), some (.inr (.inr (.inl (16, 0, 0)))), some (.inr (.inr (.inl (18, 0, 0)))), some (.inr (.inr (.inl (19, 0, 0)))), some (.inl i), some (.inl t), none, none] [.inl v] := by
    intro z2 t v A2 hs2 ht e9 e18 hv
    have fin := hN z2 A2 (some (.inl t)) (some (.inl v)) none (c1 + 1) (c2 + 6) hs2 (Nat.le_refl _) (Nat.le_refl _)
    have th := cM_thrown (l := l) (g := g) (d := 19) (z := z2)
    by_cases t0 : t = 0
    · have f18 := e18 t0
      have fv := hv t0
      have ec : aCmp (z2 (18, 0, 0) 0) v = 0 := by rw [f18]; exact aCmp_rf v
      unfold aIR at fv
      refine hB tc_setTolerance kc_setTolerance [2859] 1000 _ _ _ _ _ ?_
      repeat' (first | exact fin | refine And.intro ?_ ?_ | (intro hh; first | exact absurd hh (by decide) | exact absurd rfl hh | (exfalso; omega) | skip) | refine Or.inl (uE th ?_) | fail)
      all_goals first | omega | (exact rfl) | (show (1 : Nat) ≤ 20; decide)
    · refine hB tc_setTolerance kc_setTolerance [2859] 1000 _ _ _ _ _ ?_
      repeat' (first | exact fin | refine And.intro ?_ ?_ | (intro hh; first | exact absurd hh (by decide) | exact absurd rfl hh | (exfalso; omega) | skip) | refine Or.inl (uE th ?_) | fail)
      all_goals first | omega | (exact rfl) | (show (1 : Nat) ≤ 20; decide)
  have l2 : ∀ r z1, lQ z R r z1 → aPu r [] (fun st => B (none, c1 + 1, c2 + 6) z1 531 [some (.inr (.inr (.inl (31, 0, 0)))), some (.inr (.inr (.inl (0, 0, 0)))), some (.inr (.inr (.inl (16, 0, 0)))), some (.inr (.inr (.inl (18, 0, 0)))), some (.inr (.inr (.inl (19, 0, 0)))), some (.inl i), none, none, none] st) := by
    intro r z1 hz1
    obtain ⟨rfl, q1, q2, q3⟩ := hz1
    have md := hs.mid q3
    have a1 : z1 (31, 0, 0) (i + 1) = x1 := by rw [md.2]; exact e1.symm
    have cm : mOp l g nX7_setTolerance 19 [.inr (.inr (.inl (16, 0, 0))), .inl (z1 (31, 0, 0) (i + 1))] z1 R := by
      rw [a1]
      exact cm0 z1 md.1
    have l4 : ∀ r z2, (r = some (.inl R.2.1) ∧ (RelM z2 R.2.2 ∧ z2 (16, 0, 0) 9 = R.1) ∧ fM z1 z2) → aPu r [] (fun st => B (none, c1 + 1, c2 + 6) z2 543 [some (.inr (.inr (.inl (31, 0, 0)))), some (.inr (.inr (.inl (0, 0, 0)))), some (.inr (.inr (.inl (16, 0, 0)))), some (.inr (.inr (.inl (18, 0, 0)))), some (.inr (.inr (.inl (19, 0, 0)))), some (.inl i), some (.inl R.1), none, none] st) := by
      intro r z2 hz2
      obtain ⟨rfl, ⟨p1, p2⟩, p3⟩ := hz2
      exact l3 z2 R.1 R.2.1 R.2.2 (hs.fin q3 q2 p1 p3 hIL.1 hIL.2) lt0 p2 (fun w => by rw [p3 (18, 0, 0) ⟨by decide, by decide⟩]; exact q1 w) lv.2
    refine hB tc_setTolerance kc_setTolerance [543] 1000 _ _ _ _ _ ?_
    repeat' (first | exact Or.inl (uA cm l4) | refine And.intro ?_ ?_ | (intro hh; first | exact absurd hh (by decide) | exact absurd rfl hh | (exfalso; omega) | skip) | fail)
    all_goals first | omega | (exact rfl) | (show (1 : Nat) ≤ 20; decide)
  refine hB tc_setTolerance kc_setTolerance [531] 1000 _ _ _ _ _ ?_
  repeat' (first | exact Or.inr (Or.inr ⟨1, 6, ⟨k1, k2⟩, uL ct l2⟩) | refine And.intro ?_ ?_ | (intro hh; first | exact absurd hh (by decide) | exact absurd rfl hh | (exfalso; omega) | skip) | fail)
  all_goals first | omega | (exact rfl) | (show (1 : Nat) ≤ 20; decide)
theorem wL_setTimeLimit (hB : lBt l g Q X B) (h : lIn g S z A i c1 c2) (hN : lNx S B i c1 c2) : B (none, c1, c2) z 576 [some (.inr (.inr (.inl (31, 0, 0)))), some (.inr (.inr (.inl (0, 0, 0)))), some (.inr (.inr (.inl (16, 0, 0)))), some (.inr (.inr (.inl (18, 0, 0)))), some (.inr (.inr (.inl (19, 0, 0)))), some (.inl i), none, none, none] [] := by
  obtain ⟨hs, hS, ⟨i0, i1⟩, k1, k2⟩ := h
  obtain ⟨⟨hC, hM⟩, ⟨hI, hL⟩, hz⟩ := id hs
  obtain ⟨x1, e1⟩ : ∃ x, x = z (31, 0, 0) (i + 1) := ⟨_, rfl⟩
  have h1 : aIR x1 := by rw [e1, hz]; exact hS _
  have lv := lV_setTimeLimit (v := x1) hI
  have ct : lOp l g nL_setTimeLimit 19 [.inr (.inr (.inl (0, 0, 0))), .inl (z (31, 0, 0) (i + 1)), .inr (.inr (.inl (18, 0, 0)))] z (lQ z (oCmd (cSet 6 x1 60 999) A)) := by
    rw [← e1]
    exact lT_setTimeLimit (by decide) (cT_setTimeLimit h1 (by decide) hC hI) lv.1 lv.2
  have hIL : InvW (oCmd (cSet 6 x1 60 999) A).2.2 ∧ InvL (oCmd (cSet 6 x1 60 999) A).2.2 := And.intro (oCmd_I hI (cSet_I hI.1.1 (Or.inr ⟨rfl, by decide, by decide⟩))) (oCmd_L hI hL (cSet_L (by decide) hL.1))
  have cm0 : ∀ z1, RelM z1 A → mOp l g nX7_setTimeLimit 19 [.inr (.inr (.inl (16, 0, 0))), .inl x1] z1 (oCmd (cSet 6 x1 60 999) A) := fun z1 md => cM_setTimeLimit h1 (by decide) md hI
  obtain ⟨R, eR⟩ : ∃ R : aRes, R = (oCmd (cSet 6 x1 60 999) A) := ⟨_, rfl⟩
  rw [← eR] at lv ct hIL
  simp only [← eR] at cm0
  clear eR
  have lt0 : 0 ≤ R.1 ∧ R.1 ≤ 3 := by have := lv.1; omega
  have l3 : ∀ (z2 : aM) (t : Int) (v : Int) (A2 : aAb), lS S z2 A2 → (0 ≤ t ∧ t ≤ 3) → z2 (16, 0, 0) 9 = t → (t = 0 → z2 (18, 0, 0) 0 = v) → (t = 0 → aIR v) → B (none, c1 + 1, c2 + 6) z2 599 [some (.inr (.inr (.inl (31, 0, 0)))), some (.inr (.inr (.inl (0, 0, 0)))), some (.inr (.inr (.inl (16, 0, 0)))), some (.inr (.inr (.inl (18, 0, 0)))), some (.inr (.inr (.inl (19, 0, 0)))), some (.inl i), some (.inl t), none, none] [.inl v] := by
    intro z2 t v A2 hs2 ht e9 e18 hv
    have fin := hN z2 A2 (some (.inl t)) (some (.inl v)) none (c1 + 1) (c2 + 6) hs2 (Nat.le_refl _) (Nat.le_refl _)
    have th := cM_thrown (l := l) (g := g) (d := 19) (z := z2)
    by_cases t0 : t = 0
    · have f18 := e18 t0
      have fv := hv t0
      have ec : aCmp (z2 (18, 0, 0) 0) v = 0 := by rw [f18]; exact aCmp_rf v
      unfold aIR at fv
      refine hB tc_setTimeLimit kc_setTimeLimit [2859] 1000 _ _ _ _ _ ?_
      repeat' (first | exact fin | refine And.intro ?_ ?_ | (intro hh; first | exact absurd hh (by decide) | exact absurd rfl hh | (exfalso; omega) | skip) | refine Or.inl (uE th ?_) | fail)
      all_goals first | omega | (exact rfl) | (show (1 : Nat) ≤ 20; decide)
    · refine hB tc_setTimeLimit kc_setTimeLimit [2859] 1000 _ _ _ _ _ ?_
      repeat' (first | exact fin | refine And.intro ?_ ?_ | (intro hh; first | exact absurd hh (by decide) | exact absurd rfl hh | (exfalso; omega) | skip) | refine Or.inl (uE th ?_) | fail)
      all_goals first | omega | (exact rfl) | (show (1 : Nat) ≤ 20; decide)
  have l2 : ∀ r z1, lQ z R r z1 → aPu r [] (fun st => B (none, c1 + 1, c2 + 6) z1 587 [some (.inr (.inr (.inl (31, 0, 0)))), some (.inr (.inr (.inl (0, 0, 0)))), some (.inr (.inr (.inl (16, 0, 0)))), some (.inr (.inr (.inl (18, 0, 0)))), some (.inr (.inr (.inl (19, 0, 0)))), some (.inl i), none, none, none] st) := by
    intro r z1 hz1
    obtain ⟨rfl, q1, q2, q3⟩ := hz1
    have md := hs.mid q3
    have a1 : z1 (31, 0, 0) (i + 1) = x1 := by rw [md.2]; exact e1.symm
    have cm : mOp l g nX7_setTimeLimit 19 [.inr (.inr (.inl (16, 0, 0))), .inl (z1 (31, 0, 0) (i + 1))] z1 R := by
      rw [a1]
      exact cm0 z1 md.1
    have l4 : ∀ r z2, (r = some (.inl R.2.1) ∧ (RelM z2 R.2.2 ∧ z2 (16, 0, 0) 9 = R.1) ∧ fM z1 z2) → aPu r [] (fun st => B (none, c1 + 1, c2 + 6) z2 599 [some (.inr (.inr (.inl (31, 0, 0)))), some (.inr (.inr (.inl (0, 0, 0)))), some (.inr (.inr (.inl (16, 0, 0)))), some (.inr (.inr (.inl (18, 0, 0)))), some (.inr (.inr (.inl (19, 0, 0)))), some (.inl i), some (.inl R.1), none, none] st) := by
      intro r z2 hz2
      obtain ⟨rfl, ⟨p1, p2⟩, p3⟩ := hz2
      exact l3 z2 R.1 R.2.1 R.2.2 (hs.fin q3 q2 p1 p3 hIL.1 hIL.2) lt0 p2 (fun w => by rw [p3 (18, 0, 0) ⟨by decide, by decide⟩]; exact q1 w) lv.2
    refine hB tc_setTimeLimit kc_setTimeLimit [599] 1000 _ _ _ _ _ ?_
    repeat' (first | exact Or.inl (uA cm l4) | refine And.intro ?_ ?_ | (intro hh; first | exact absurd hh (by decide) | exact absurd rfl hh | (exfalso; omega) | skip) | fail)
    all_goals first | omega | (exact rfl) | (show (1 : Nat) ≤ 20; decide)
  refine hB tc_setTimeLimit kc_setTimeLimit [587] 1000 _ _ _ _ _ ?_
  repeat' (first | exact Or.inr (Or.inr ⟨1, 6, ⟨k1, k2⟩, uL ct l2⟩) | refine And.intro ?_ ?_ | (intro hh; first | exact absurd hh (by decide) | exact absurd rfl hh | (exfalso; omega) | skip) | fail)
  all_goals first | omega | (exact rfl) | (show (1 : Nat) ≤ 20; decide)
theorem wL_startRun (hB : lBt l g Q X B) (h : lIn g S z A i c1 c2) (hN : lNx S B i c1 c2) : B (none, c1, c2) z 632 [some (.inr (.inr (.inl (31, 0, 0)))), some (.inr (.inr (.inl (0, 0, 0)))), some (.inr (.inr (.inl (16, 0, 0)))), some (.inr (.inr (.inl (18, 0, 0)))), some (.inr (.inr (.inl (19, 0, 0)))), some (.inl i), none, none, none] [] := by
  obtain ⟨hs, hS, ⟨i0, i1⟩, k1, k2⟩ := h
  obtain ⟨⟨hC, hM⟩, ⟨hI, hL⟩, hz⟩ := id hs
  have lv := lV_startRun  hI
  have ct : lOp l g nL_startRun 19 [.inr (.inr (.inl (0, 0, 0))), .inr (.inr (.inl (18, 0, 0)))] z (lQ z (oCmd (cRun) A)) := by
    exact lT_startRun (by decide) (cT_startRun (by decide) hC hI) lv.1 lv.2
  have hIL : InvW (oCmd (cRun) A).2.2 ∧ InvL (oCmd (cRun) A).2.2 := And.intro (oCmd_I hI (cRun_I hI.1.1)) (oCmd_L hI hL (cRun_L hI.1.1 hL.1))
  have cm0 : ∀ z1, RelM z1 A → mOp l g nX7_startRun 19 [.inr (.inr (.inl (16, 0, 0)))] z1 (oCmd (cRun) A) := fun z1 md => cM_startRun (by decide) md hI
  obtain ⟨R, eR⟩ : ∃ R : aRes, R = (oCmd (cRun) A) := ⟨_, rfl⟩
  rw [← eR] at lv ct hIL
  simp only [← eR] at cm0
  clear eR
  have lt0 : 0 ≤ R.1 ∧ R.1 ≤ 3 := by have := lv.1; omega
  have l3 : ∀ (z2 : aM) (t : Int) (v : Int) (A2 : aAb), lS S z2 A2 → (0 ≤ t ∧ t ≤ 3) → z2 (16, 0, 0) 9 = t → (t = 0 → z2 (18, 0, 0) 0 = v) → (t = 0 → aIR v) → B (none, c1 + 1, c2 + 6) z2 643 [some (.inr (.inr (.inl (31, 0, 0)))), some (.inr (.inr (.inl (0, 0, 0)))), some (.inr (.inr (.inl (16, 0, 0)))), some (.inr (.inr (.inl (18, 0, 0)))), some (.inr (.inr (.inl (19, 0, 0)))), some (.inl i), some (.inl t), none, none] [.inl v] := by
    intro z2 t v A2 hs2 ht e9 e18 hv
    have fin := hN z2 A2 (some (.inl t)) (some (.inl v)) none (c1 + 1) (c2 + 6) hs2 (Nat.le_refl _) (Nat.le_refl _)
    have th := cM_thrown (l := l) (g := g) (d := 19) (z := z2)
    by_cases t0 : t = 0
    · have f18 := e18 t0
      have fv := hv t0
      have ec : aCmp (z2 (18, 0, 0) 0) v = 0 := by rw [f18]; exact aCmp_rf v
      unfold aIR at fv
      refine hB tc_startRun kc_startRun [2859] 1000 _ _ _ _ _ ?_
      repeat' (first | exact fin | refine And.intro ?_ ?_ | (intro hh; first | exact absurd hh (by decide) | exact absurd rfl hh | (exfalso; omega) | skip) | refine Or.inl (uE th ?_) | fail)
      all_goals first | omega | (exact rfl) | (show (1 : Nat) ≤ 20; decide)
    · refine hB tc_startRun kc_startRun [2859] 1000 _ _ _ _ _ ?_
      repeat' (first | exact fin | refine And.intro ?_ ?_ | (intro hh; first | exact absurd hh (by decide) | exact absurd rfl hh | (exfalso; omega) | skip) | refine Or.inl (uE th ?_) | fail)
      all_goals first | omega | (exact rfl) | (show (1 : Nat) ≤ 20; decide)
  have l2 : ∀ r z1, lQ z R r z1 → aPu r [] (fun st => B (none, c1 + 1, c2 + 6) z1 637 [some (.inr (.inr (.inl (31, 0, 0)))), some (.inr (.inr (.inl (0, 0, 0)))), some (.inr (.inr (.inl (16, 0, 0)))), some (.inr (.inr (.inl (18, 0, 0)))), some (.inr (.inr (.inl (19, 0, 0)))), some (.inl i), none, none, none] st) := by
    intro r z1 hz1
    obtain ⟨rfl, q1, q2, q3⟩ := hz1
    have md := hs.mid q3
    have cm : mOp l g nX7_startRun 19 [.inr (.inr (.inl (16, 0, 0)))] z1 R := by
      exact cm0 z1 md.1
    have l4 : ∀ r z2, (r = some (.inl R.2.1) ∧ (RelM z2 R.2.2 ∧ z2 (16, 0, 0) 9 = R.1) ∧ fM z1 z2) → aPu r [] (fun st => B (none, c1 + 1, c2 + 6) z2 643 [some (.inr (.inr (.inl (31, 0, 0)))), some (.inr (.inr (.inl (0, 0, 0)))), some (.inr (.inr (.inl (16, 0, 0)))), some (.inr (.inr (.inl (18, 0, 0)))), some (.inr (.inr (.inl (19, 0, 0)))), some (.inl i), some (.inl R.1), none, none] st) := by
      intro r z2 hz2
      obtain ⟨rfl, ⟨p1, p2⟩, p3⟩ := hz2
      exact l3 z2 R.1 R.2.1 R.2.2 (hs.fin q3 q2 p1 p3 hIL.1 hIL.2) lt0 p2 (fun w => by rw [p3 (18, 0, 0) ⟨by decide, by decide⟩]; exact q1 w) lv.2
    refine hB tc_startRun kc_startRun [643] 1000 _ _ _ _ _ ?_
    repeat' (first | exact Or.inl (uA cm l4) | refine And.intro ?_ ?_ | (intro hh; first | exact absurd hh (by decide) | exact absurd rfl hh | (exfalso; omega) | skip) | fail)
    all_goals first | omega | (exact rfl) | (show (1 : Nat) ≤ 20; decide)
  refine hB tc_startRun kc_startRun [637] 1000 _ _ _ _ _ ?_
  repeat' (first | exact Or.inr (Or.inr ⟨1, 6, ⟨k1, k2⟩, uL ct l2⟩) | refine And.intro ?_ ?_ | (intro hh; first | exact absurd hh (by decide) | exact absurd rfl hh | (exfalso; omega) | skip) | fail)
  all_goals first | omega | (exact rfl) | (show (1 : Nat) ≤ 20; decide)
theorem wL_walk (hB : lBt l g Q X B) (h : lIn g S z A i c1 c2) (hN : lNx S B i c1 c2) : B (none, c1, c2) z 676 [some (.inr (.inr (.inl (31, 0, 0)))), some (.inr (.inr (.inl (0, 0, 0)))), some (.inr (.inr (.inl (16, 0, 0)))), some (.inr (.inr (.inl (18, 0, 0)))), some (.inr (.inr (.inl (19, 0, 0)))), some (.inl i), none, none, none] [] := by
  obtain ⟨hs, hS, ⟨i0, i1⟩, k1, k2⟩ := h
  obtain ⟨⟨hC, hM⟩, ⟨hI, hL⟩, hz⟩ := id hs
  obtain ⟨x1, e1⟩ : ∃ x, x = z (31, 0, 0) (i + 1) := ⟨_, rfl⟩
  have h1 : aIR x1 := by rw [e1, hz]; exact hS _
  obtain ⟨x2, e2⟩ : ∃ x, x = z (31, 0, 0) (i + 2) := ⟨_, rfl⟩
  have h2 : aIR x2 := by rw [e2, hz]; exact hS _
  obtain ⟨x3, e3⟩ : ∃ x, x = z (31, 0, 0) (i + 3) := ⟨_, rfl⟩
  have h3 : aIR x3 := by rw [e3, hz]; exact hS _
  have lv := lV_walk (x := x1) (y := x2) (s := x3) hI
  have ct : lOp l g nL_walk 19 [.inr (.inr (.inl (0, 0, 0))), .inl (z (31, 0, 0) (i + 1)), .inl (z (31, 0, 0) (i + 2)), .inl (z (31, 0, 0) (i + 3)), .inr (.inr (.inl (18, 0, 0)))] z (lQ z (oCmd (cWalk x1 x2 x3) A)) := by
    rw [← e1]
    rw [← e2]
    rw [← e3]
    exact lT_walk (by decide) (cT_walk h1 h2 h3 (by decide) hC hI) lv.1 lv.2
  have hIL : InvW (oCmd (cWalk x1 x2 x3) A).2.2 ∧ InvL (oCmd (cWalk x1 x2 x3) A).2.2 := And.intro (oCmd_I hI ((cWalk_I hI.1.1).1)) (oCmd_L hI hL (cWalk_L hI.1.1 hL.1))
  have cm0 : ∀ z1, RelM z1 A → mOp l g nX7_walk 19 [.inr (.inr (.inl (16, 0, 0))), .inl x1, .inl x2, .inl x3] z1 (oCmd (cWalk x1 x2 x3) A) := fun z1 md => cM_walk h1 h2 h3 (by decide) md hI
  obtain ⟨R, eR⟩ : ∃ R : aRes, R = (oCmd (cWalk x1 x2 x3) A) := ⟨_, rfl⟩
  rw [← eR] at lv ct hIL
  simp only [← eR] at cm0
  clear eR
  have lt0 : 0 ≤ R.1 ∧ R.1 ≤ 3 := by have := lv.1; omega
  have l3 : ∀ (z2 : aM) (t : Int) (v : Int) (A2 : aAb), lS S z2 A2 → (0 ≤ t ∧ t ≤ 3) → z2 (16, 0, 0) 9 = t → (t = 0 → z2 (18, 0, 0) 0 = v) → (t = 0 → aIR v) → B (none, c1 + 1, c2 + 6) z2 723 [some (.inr (.inr (.inl (31, 0, 0)))), some (.inr (.inr (.inl (0, 0, 0)))), some (.inr (.inr (.inl (16, 0, 0)))), some (.inr (.inr (.inl (18, 0, 0)))), some (.inr (.inr (.inl (19, 0, 0)))), some (.inl i), some (.inl t), none, none] [.inl v] := by
    intro z2 t v A2 hs2 ht e9 e18 hv
    have fin := hN z2 A2 (some (.inl t)) (some (.inl v)) none (c1 + 1) (c2 + 6) hs2 (Nat.le_refl _) (Nat.le_refl _)
    have th := cM_thrown (l := l) (g := g) (d := 19) (z := z2)
    by_cases t0 : t = 0
    · have f18 := e18 t0
      have fv := hv t0
      have ec : aCmp (z2 (18, 0, 0) 0) v = 0 := by rw [f18]; exact aCmp_rf v
      unfold aIR at fv
      refine hB tc_walk kc_walk [2859] 1000 _ _ _ _ _ ?_
      repeat' (first | exact fin | refine And.intro ?_ ?_ | (intro hh; first | exact absurd hh (by decide) | exact absurd rfl hh | (exfalso; omega) | skip) | refine Or.inl (uE th ?_) | fail)
      all_goals first | omega | (exact rfl) | (show (1 : Nat) ≤ 20; decide)
    · refine hB tc_walk kc_walk [2859] 1000 _ _ _ _ _ ?_
      repeat' (first | exact fin | refine And.intro ?_ ?_ | (intro hh; first | exact absurd hh (by decide) | exact absurd rfl hh | (exfalso; omega) | skip) | refine Or.inl (uE th ?_) | fail)
      all_goals first | omega | (exact rfl) | (show (1 : Nat) ≤ 20; decide)
  have l2 : ∀ r z1, lQ z R r z1 → aPu r [] (fun st => B (none, c1 + 1, c2 + 6) z1 699 [some (.inr (.inr (.inl (31, 0, 0)))), some (.inr (.inr (.inl (0, 0, 0)))), some (.inr (.inr (.inl (16, 0, 0)))), some (.inr (.inr (.inl (18, 0, 0)))), some (.inr (.inr (.inl (19, 0, 0)))), some (.inl i), none, none, none] st) := by
    intro r z1 hz1
    obtain ⟨rfl, q1, q2, q3⟩ := hz1
    have md := hs.mid q3
    have a1 : z1 (31, 0, 0) (i + 1) = x1 := by rw [md.2]; exact e1.symm
    have a2 : z1 (31, 0, 0) (i + 2) = x2 := by rw [md.2]; exact e2.symm
    have a3 : z1 (31, 0, 0) (i + 3) = x3 := by rw [md.2]; exact e3.symm
    have cm : mOp l g nX7_walk 19 [.inr (.inr (.inl (16, 0, 0))), .inl (z1 (31, 0, 0) (i + 1)), .inl (z1 (31, 0, 0) (i + 2)), .inl (z1 (31, 0, 0) (i + 3))] z1 R := by
      rw [a1]
      rw [a2]
      rw [a3]
      exact cm0 z1 md.1
    have l4 : ∀ r z2, (r = some (.inl R.2.1) ∧ (RelM z2 R.2.2 ∧ z2 (16, 0, 0) 9 = R.1) ∧ fM z1 z2) → aPu r [] (fun st => B (none, c1 + 1, c2 + 6) z2 723 [some (.inr (.inr (.inl (31, 0, 0)))), some (.inr (.inr (.inl (0, 0, 0)))), some (.inr (.inr (.inl (16, 0, 0)))), some (.inr (.inr (.inl (18, 0, 0)))), some (.inr (.inr (.inl (19, 0, 0)))), some (.inl i), some (.inl R.1), none, none] st) := by
      intro r z2 hz2
      obtain ⟨rfl, ⟨p1, p2⟩, p3⟩ := hz2
      exact l3 z2 R.1 R.2.1 R.2.2 (hs.fin q3 q2 p1 p3 hIL.1 hIL.2) lt0 p2 (fun w => by rw [p3 (18, 0, 0) ⟨by decide, by decide⟩]; exact q1 w) lv.2
    refine hB tc_walk kc_walk [723] 1000 _ _ _ _ _ ?_
    repeat' (first | exact Or.inl (uA cm l4) | refine And.intro ?_ ?_ | (intro hh; first | exact absurd hh (by decide) | exact absurd rfl hh | (exfalso; omega) | skip) | fail)
    all_goals first | omega | (exact rfl) | (show (1 : Nat) ≤ 20; decide)
  refine hB tc_walk kc_walk [699] 1000 _ _ _ _ _ ?_
  repeat' (first | exact Or.inr (Or.inr ⟨1, 6, ⟨k1, k2⟩, uL ct l2⟩) | refine And.intro ?_ ?_ | (intro hh; first | exact absurd hh (by decide) | exact absurd rfl hh | (exfalso; omega) | skip) | fail)
  all_goals first | omega | (exact rfl) | (show (1 : Nat) ≤ 20; decide)
theorem wL_fault (hB : lBt l g Q X B) (h : lIn g S z A i c1 c2) (hN : lNx S B i c1 c2) : B (none, c1, c2) z 756 [some (.inr (.inr (.inl (31, 0, 0)))), some (.inr (.inr (.inl (0, 0, 0)))), some (.inr (.inr (.inl (16, 0, 0)))), some (.inr (.inr (.inl (18, 0, 0)))), some (.inr (.inr (.inl (19, 0, 0)))), some (.inl i), none, none, none] [] := by
  obtain ⟨hs, hS, ⟨i0, i1⟩, k1, k2⟩ := h
  obtain ⟨⟨hC, hM⟩, ⟨hI, hL⟩, hz⟩ := id hs
  obtain ⟨x1, e1⟩ : ∃ x, x = z (31, 0, 0) (i + 1) := ⟨_, rfl⟩
  have h1 : aIR x1 := by rw [e1, hz]; exact hS _
  have lv := lV_fault (p := x1) hI
  have ct : lOp l g nL_fault 19 [.inr (.inr (.inl (0, 0, 0))), .inl (z (31, 0, 0) (i + 1)), .inr (.inr (.inl (18, 0, 0)))] z (lQ z (oCmd (cFault x1) A)) := by
    rw [← e1]
    exact lT_fault (by decide) (cT_fault h1 (by decide) hC hI) lv.1 lv.2
  have hIL : InvW (oCmd (cFault x1) A).2.2 ∧ InvL (oCmd (cFault x1) A).2.2 := And.intro (oCmd_I hI (cFault_I hI.1.1)) (oCmd_L hI hL (cFault_L hI.1.1 hL.1))
  have cm0 : ∀ z1, RelM z1 A → mOp l g nX7_fault 19 [.inr (.inr (.inl (16, 0, 0))), .inl x1] z1 (oCmd (cFault x1) A) := fun z1 md => cM_fault h1 (by decide) md hI
  obtain ⟨R, eR⟩ : ∃ R : aRes, R = (oCmd (cFault x1) A) := ⟨_, rfl⟩
  rw [← eR] at lv ct hIL
  simp only [← eR] at cm0
  clear eR
  have lt0 : 0 ≤ R.1 ∧ R.1 ≤ 3 := by have := lv.1; omega
  have l3 : ∀ (z2 : aM) (t : Int) (v : Int) (A2 : aAb), lS S z2 A2 → (0 ≤ t ∧ t ≤ 3) → z2 (16, 0, 0) 9 = t → (t = 0 → z2 (18, 0, 0) 0 = v) → (t = 0 → aIR v) → B (none, c1 + 1, c2 + 6) z2 779 [some (.inr (.inr (.inl (31, 0, 0)))), some (.inr (.inr (.inl (0, 0, 0)))), some (.inr (.inr (.inl (16, 0, 0)))), some (.inr (.inr (.inl (18, 0, 0)))), some (.inr (.inr (.inl (19, 0, 0)))), some (.inl i), some (.inl t), none, none] [.inl v] := by
    intro z2 t v A2 hs2 ht e9 e18 hv
    have fin := hN z2 A2 (some (.inl t)) (some (.inl v)) none (c1 + 1) (c2 + 6) hs2 (Nat.le_refl _) (Nat.le_refl _)
    have th := cM_thrown (l := l) (g := g) (d := 19) (z := z2)
    by_cases t0 : t = 0
    · have f18 := e18 t0
      have fv := hv t0
      have ec : aCmp (z2 (18, 0, 0) 0) v = 0 := by rw [f18]; exact aCmp_rf v
      unfold aIR at fv
      refine hB tc_fault kc_fault [2859] 1000 _ _ _ _ _ ?_
      repeat' (first | exact fin | refine And.intro ?_ ?_ | (intro hh; first | exact absurd hh (by decide) | exact absurd rfl hh | (exfalso; omega) | skip) | refine Or.inl (uE th ?_) | fail)
      all_goals first | omega | (exact rfl) | (show (1 : Nat) ≤ 20; decide)
    · refine hB tc_fault kc_fault [2859] 1000 _ _ _ _ _ ?_
      repeat' (first | exact fin | refine And.intro ?_ ?_ | (intro hh; first | exact absurd hh (by decide) | exact absurd rfl hh | (exfalso; omega) | skip) | refine Or.inl (uE th ?_) | fail)
      all_goals first | omega | (exact rfl) | (show (1 : Nat) ≤ 20; decide)
  have l2 : ∀ r z1, lQ z R r z1 → aPu r [] (fun st => B (none, c1 + 1, c2 + 6) z1 767 [some (.inr (.inr (.inl (31, 0, 0)))), some (.inr (.inr (.inl (0, 0, 0)))), some (.inr (.inr (.inl (16, 0, 0)))), some (.inr (.inr (.inl (18, 0, 0)))), some (.inr (.inr (.inl (19, 0, 0)))), some (.inl i), none, none, none] st) := by
    intro r z1 hz1
    obtain ⟨rfl, q1, q2, q3⟩ := hz1
    have md := hs.mid q3
    have a1 : z1 (31, 0, 0) (i + 1) = x1 := by rw [md.2]; exact e1.symm
    have cm : mOp l g nX7_fault 19 [.inr (.inr (.inl (16, 0, 0))), .inl (z1 (31, 0, 0) (i + 1))] z1 R := by
      rw [a1]
      exact cm0 z1 md.1
    have l4 : ∀ r z2, (r = some (.inl R.2.1) ∧ (RelM z2 R.2.2 ∧ z2 (16, 0, 0) 9 = R.1) ∧ fM z1 z2) → aPu r [] (fun st => B (none, c1 + 1, c2 + 6) z2 779 [some (.inr (.inr (.inl (31, 0, 0)))), some (.inr (.inr (.inl (0, 0, 0)))), some (.inr (.inr (.inl (16, 0, 0)))), some (.inr (.inr (.inl (18, 0, 0)))), some (.inr (.inr (.inl (19, 0, 0)))), some (.inl i), some (.inl R.1), none, none] st) := by
      intro r z2 hz2
      obtain ⟨rfl, ⟨p1, p2⟩, p3⟩ := hz2
      exact l3 z2 R.1 R.2.1 R.2.2 (hs.fin q3 q2 p1 p3 hIL.1 hIL.2) lt0 p2 (fun w => by rw [p3 (18, 0, 0) ⟨by decide, by decide⟩]; exact q1 w) lv.2
    refine hB tc_fault kc_fault [779] 1000 _ _ _ _ _ ?_
    repeat' (first | exact Or.inl (uA cm l4) | refine And.intro ?_ ?_ | (intro hh; first | exact absurd hh (by decide) | exact absurd rfl hh | (exfalso; omega) | skip) | fail)
    all_goals first | omega | (exact rfl) | (show (1 : Nat) ≤ 20; decide)
  refine hB tc_fault kc_fault [767] 1000 _ _ _ _ _ ?_
  repeat' (first | exact Or.inr (Or.inr ⟨1, 6, ⟨k1, k2⟩, uL ct l2⟩) | refine And.intro ?_ ?_ | (intro hh; first | exact absurd hh (by decide) | exact absurd rfl hh | (exfalso; omega) | skip) | fail)
  all_goals first | omega | (exact rfl) | (show (1 : Nat) ≤ 20; decide)
theorem wL_retire (hB : lBt l g Q X B) (h : lIn g S z A i c1 c2) (hN : lNx S B i c1 c2) : B (none, c1, c2) z 812 [some (.inr (.inr (.inl (31, 0, 0)))), some (.inr (.inr (.inl (0, 0, 0)))), some (.inr (.inr (.inl (16, 0, 0)))), some (.inr (.inr (.inl (18, 0, 0)))), some (.inr (.inr (.inl (19, 0, 0)))), some (.inl i), none, none, none] [] := by
  obtain ⟨hs, hS, ⟨i0, i1⟩, k1, k2⟩ := h
  obtain ⟨⟨hC, hM⟩, ⟨hI, hL⟩, hz⟩ := id hs
  have lv := lV_retire  hI
  have ct : lOp l g nL_retire 19 [.inr (.inr (.inl (0, 0, 0))), .inr (.inr (.inl (18, 0, 0)))] z (lQ z (oCmd (cRetire) A)) := by
    exact lT_retire (by decide) (cT_retire (by decide) hC hI) lv.1 lv.2
  have hIL : InvW (oCmd (cRetire) A).2.2 ∧ InvL (oCmd (cRetire) A).2.2 := And.intro (oCmd_I hI (cRetire_I hI.1.1)) (oCmd_L hI hL (cRetire_L hI.1.1 hL.1))
  have cm0 : ∀ z1, RelM z1 A → mOp l g nX7_retire 19 [.inr (.inr (.inl (16, 0, 0)))] z1 (oCmd (cRetire) A) := fun z1 md => cM_retire (by decide) md hI
  obtain ⟨R, eR⟩ : ∃ R : aRes, R = (oCmd (cRetire) A) := ⟨_, rfl⟩
  rw [← eR] at lv ct hIL
  simp only [← eR] at cm0
  clear eR
  have lt0 : 0 ≤ R.1 ∧ R.1 ≤ 3 := by have := lv.1; omega
  have l3 : ∀ (z2 : aM) (t : Int) (v : Int) (A2 : aAb), lS S z2 A2 → (0 ≤ t ∧ t ≤ 3) → z2 (16, 0, 0) 9 = t → (t = 0 → z2 (18, 0, 0) 0 = v) → (t = 0 → aIR v) → B (none, c1 + 1, c2 + 6) z2 823 [some (.inr (.inr (.inl (31, 0, 0)))), some (.inr (.inr (.inl (0, 0, 0)))), some (.inr (.inr (.inl (16, 0, 0)))), some (.inr (.inr (.inl (18, 0, 0)))), some (.inr (.inr (.inl (19, 0, 0)))), some (.inl i), some (.inl t), none, none] [.inl v] := by
    intro z2 t v A2 hs2 ht e9 e18 hv
    have fin := hN z2 A2 (some (.inl t)) (some (.inl v)) none (c1 + 1) (c2 + 6) hs2 (Nat.le_refl _) (Nat.le_refl _)
    have th := cM_thrown (l := l) (g := g) (d := 19) (z := z2)
    by_cases t0 : t = 0
    · have f18 := e18 t0
      have fv := hv t0
      have ec : aCmp (z2 (18, 0, 0) 0) v = 0 := by rw [f18]; exact aCmp_rf v
      unfold aIR at fv
      refine hB tc_retire kc_retire [2859] 1000 _ _ _ _ _ ?_
      repeat' (first | exact fin | refine And.intro ?_ ?_ | (intro hh; first | exact absurd hh (by decide) | exact absurd rfl hh | (exfalso; omega) | skip) | refine Or.inl (uE th ?_) | fail)
      all_goals first | omega | (exact rfl) | (show (1 : Nat) ≤ 20; decide)
    · refine hB tc_retire kc_retire [2859] 1000 _ _ _ _ _ ?_
      repeat' (first | exact fin | refine And.intro ?_ ?_ | (intro hh; first | exact absurd hh (by decide) | exact absurd rfl hh | (exfalso; omega) | skip) | refine Or.inl (uE th ?_) | fail)
      all_goals first | omega | (exact rfl) | (show (1 : Nat) ≤ 20; decide)
  have l2 : ∀ r z1, lQ z R r z1 → aPu r [] (fun st => B (none, c1 + 1, c2 + 6) z1 817 [some (.inr (.inr (.inl (31, 0, 0)))), some (.inr (.inr (.inl (0, 0, 0)))), some (.inr (.inr (.inl (16, 0, 0)))), some (.inr (.inr (.inl (18, 0, 0)))), some (.inr (.inr (.inl (19, 0, 0)))), some (.inl i), none, none, none] st) := by
    intro r z1 hz1
    obtain ⟨rfl, q1, q2, q3⟩ := hz1
    have md := hs.mid q3
    have cm : mOp l g nX7_retire 19 [.inr (.inr (.inl (16, 0, 0)))] z1 R := by
      exact cm0 z1 md.1
    have l4 : ∀ r z2, (r = some (.inl R.2.1) ∧ (RelM z2 R.2.2 ∧ z2 (16, 0, 0) 9 = R.1) ∧ fM z1 z2) → aPu r [] (fun st => B (none, c1 + 1, c2 + 6) z2 823 [some (.inr (.inr (.inl (31, 0, 0)))), some (.inr (.inr (.inl (0, 0, 0)))), some (.inr (.inr (.inl (16, 0, 0)))), some (.inr (.inr (.inl (18, 0, 0)))), some (.inr (.inr (.inl (19, 0, 0)))), some (.inl i), some (.inl R.1), none, none] st) := by
      intro r z2 hz2
      obtain ⟨rfl, ⟨p1, p2⟩, p3⟩ := hz2
      exact l3 z2 R.1 R.2.1 R.2.2 (hs.fin q3 q2 p1 p3 hIL.1 hIL.2) lt0 p2 (fun w => by rw [p3 (18, 0, 0) ⟨by decide, by decide⟩]; exact q1 w) lv.2
    refine hB tc_retire kc_retire [823] 1000 _ _ _ _ _ ?_
    repeat' (first | exact Or.inl (uA cm l4) | refine And.intro ?_ ?_ | (intro hh; first | exact absurd hh (by decide) | exact absurd rfl hh | (exfalso; omega) | skip) | fail)
    all_goals first | omega | (exact rfl) | (show (1 : Nat) ≤ 20; decide)
  refine hB tc_retire kc_retire [817] 1000 _ _ _ _ _ ?_
  repeat' (first | exact Or.inr (Or.inr ⟨1, 6, ⟨k1, k2⟩, uL ct l2⟩) | refine And.intro ?_ ?_ | (intro hh; first | exact absurd hh (by decide) | exact absurd rfl hh | (exfalso; omega) | skip) | fail)
  all_goals first | omega | (exact rfl) | (show (1 : Nat) ≤ 20; decide)
end LC

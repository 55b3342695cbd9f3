def tb_law_0 : Tb := [(0, .new 8, 3), (3, .dup, 4), (4, .invokespecial 59, 7), (7, .astore_n 1, 8), (8, .new 60, 11), (11, .dup, 12), (12, .invokespecial 62, 15), (15, .astore_n 2, 16), (16, .iconst 1, 17), (17, .newarray .long, 19), (19, .astore_n 3, 20), (20, .iconst 0, 21), (21, .istore 4, 23), (23, .iload 4, 25), (25, .aload_n 0, 26), (26, .arraylength, 27), (27, .bipush 6, 29), (29, .isub, 30), (30, .if_icmp .gt 970, 33), (33, .aload_n 0, 34), (34, .iload 4, 36), (36, .iaload, 37), (37, .bipush 15, 39), (39, .iand, 40), (104, .aload_n 1, 105), (105, .aload_n 0, 106), (106, .iload 4, 108), (108, .iconst 1, 109), (109, .iadd, 110), (110, .iaload, 111), (111, .aload_n 0, 112), (112, .iload 4, 114), (114, .iconst 2, 115), (115, .iadd, 116), (116, .iaload, 117), (117, .ifCond .eq 7, 120), (120, .iconst 1, 121), (121, .goto 4, 124), (124, .iconst 0, 125), (125, .aload_n 3, 126), (126, .invokestatic 63, 129), (129, .istore 5, 131), (131, .aload_n 2, 132), (132, .aload_n 0, 133), (133, .iload 4, 135), (135, .iconst 1, 136), (136, .iadd, 137), (137, .iaload, 138), (138, .aload_n 0, 139), (139, .iload 4, 141), (141, .iconst 2, 142), (142, .iadd, 143), (143, .iaload, 144), (144, .ifCond .eq 7, 147), (147, .iconst 1, 148), (148, .goto 4, 151), (151, .iconst 0, 152), (152, .invokevirtual 68, 155), (155, .istore 6, 157), (157, .aload_n 2, 158), (158, .invokevirtual 69, 161), (161, .iload 5, 163), (163, .if_icmp .eq 5, 166), (166, .iconst 0, 167), (167, .ireturn, 168), (168, .iload 5, 170), (170, .ifCond .ne 15, 173), (173, .aload_n 3, 174), (174, .iconst 0, 175), (175, .laload, 176), (176, .iload 6, 178), (178, .i2l, 179), (179, .lcmp, 180), (180, .ifCond .eq 5, 183), (183, .iconst 0, 184), (184, .ireturn, 185), (185, .goto 809, 188), (188, .aload_n 1, 189), (189, .aload_n 0, 190), (190, .iload 4, 192), (192, .iconst 1, 193), (193, .iadd, 194), (194, .iaload, 195), (195, .aload_n 0, 196), (196, .iload 4, 198), (198, .iconst 2, 199), (199, .iadd, 200), (200, .iaload, 201), (201, .aload_n 0, 202), (202, .iload 4, 204), (204, .iconst 3, 205), (205, .iadd, 206), (206, .iaload, 207), (207, .aload_n 0, 208), (208, .iload 4, 210), (210, .iconst 4, 211), (211, .iadd, 212), (212, .iaload, 213), (213, .aload_n 3, 214), (214, .invokestatic 73, 217), (217, .istore 5, 219), (219, .aload_n 2, 220), (220, .aload_n 0, 221), (221, .iload 4, 223), (223, .iconst 1, 224), (224, .iadd, 225), (225, .iaload, 226), (226, .aload_n 0, 227), (227, .iload 4, 229), (229, .iconst 2, 230), (230, .iadd, 231), (231, .iaload, 232), (232, .aload_n 0, 233), (233, .iload 4, 235), (235, .iconst 3, 236), (236, .iadd, 237), (237, .iaload, 238), (238, .aload_n 0, 239), (239, .iload 4, 241), (241, .iconst 4, 242), (242, .iadd, 243), (243, .iaload, 244), (244, .invokevirtual 76, 247), (247, .istore 6, 249), (249, .aload_n 2, 250), (250, .invokevirtual 69, 253), (253, .iload 5, 255), (255, .if_icmp .eq 5, 258), (258, .iconst 0, 259), (259, .ireturn, 260), (260, .iload 5, 262), (262, .ifCond .ne 22, 265), (265, .aload_n 3, 266), (266, .iconst 0, 267), (267, .laload, 268), (268, .iload 6, 270), (270, .ifCond .eq 7, 273), (273, .lconst 1, 274), (274, .goto 4, 277), (277, .lconst 0, 278), (278, .lcmp, 279), (279, .ifCond .eq 5, 282), (282, .iconst 0, 283), (283, .ireturn, 284), (284, .goto 710, 287), (287, .aload_n 1, 288), (288, .aload_n 0, 289), (289, .iload 4, 291), (291, .iconst 1, 292), (292, .iadd, 293)]
def tb_law_1 : Tb := [(293, .iaload, 294), (294, .invokestatic 77, 297), (297, .istore 5, 299), (299, .aload_n 2, 300), (300, .aload_n 0, 301), (301, .iload 4, 303), (303, .iconst 1, 304), (304, .iadd, 305), (305, .iaload, 306), (306, .invokevirtual 80, 309), (309, .aload_n 2, 310), (310, .invokevirtual 69, 313), (313, .iload 5, 315), (315, .if_icmp .eq 5, 318), (318, .iconst 0, 319), (319, .ireturn, 320), (320, .goto 674, 323), (323, .aload_n 1, 324), (324, .aload_n 0, 325), (325, .iload 4, 327), (327, .iconst 1, 328), (328, .iadd, 329), (329, .iaload, 330), (330, .aload_n 0, 331), (331, .iload 4, 333), (333, .iconst 2, 334), (334, .iadd, 335), (335, .iaload, 336), (336, .aload_n 0, 337), (337, .iload 4, 339), (339, .iconst 3, 340), (340, .iadd, 341), (341, .iaload, 342), (342, .aload_n 3, 343), (343, .invokestatic 81, 346), (346, .istore 5, 348), (348, .aload_n 2, 349), (349, .aload_n 0, 350), (350, .iload 4, 352), (352, .iconst 1, 353), (353, .iadd, 354), (354, .iaload, 355), (355, .aload_n 0, 356), (356, .iload 4, 358), (358, .iconst 2, 359), (359, .iadd, 360), (360, .iaload, 361), (361, .aload_n 0, 362), (362, .iload 4, 364), (364, .iconst 3, 365), (365, .iadd, 366), (366, .iaload, 367), (367, .invokevirtual 84, 370), (370, .istore 6, 372), (372, .aload_n 2, 373), (373, .invokevirtual 69, 376), (376, .iload 5, 378), (378, .if_icmp .eq 5, 381), (381, .iconst 0, 382), (382, .ireturn, 383), (383, .iload 5, 385), (385, .ifCond .ne 15, 388), (388, .aload_n 3, 389), (389, .iconst 0, 390), (390, .laload, 391), (391, .iload 6, 393), (393, .i2l, 394), (394, .lcmp, 395), (395, .ifCond .eq 5, 398), (398, .iconst 0, 399), (399, .ireturn, 400), (400, .goto 594, 403), (403, .aload_n 1, 404), (404, .aload_n 0, 405), (405, .iload 4, 407), (407, .iconst 1, 408), (408, .iadd, 409), (409, .iaload, 410), (410, .aload_n 3, 411), (411, .invokestatic 85, 414), (414, .istore 5, 416), (416, .aload_n 2, 417), (417, .aload_n 0, 418), (418, .iload 4, 420), (420, .iconst 1, 421), (421, .iadd, 422), (422, .iaload, 423), (423, .invokevirtual 88, 426), (426, .istore 6, 428), (428, .aload_n 2, 429), (429, .invokevirtual 69, 432), (432, .iload 5, 434), (434, .if_icmp .eq 5, 437), (437, .iconst 0, 438), (438, .ireturn, 439), (439, .iload 5, 441), (441, .ifCond .ne 15, 444), (444, .aload_n 3, 445), (445, .iconst 0, 446), (446, .laload, 447), (447, .iload 6, 449), (449, .i2l, 450), (450, .lcmp, 451), (451, .ifCond .eq 5, 454), (454, .iconst 0, 455), (455, .ireturn, 456), (456, .goto 538, 459), (459, .aload_n 1, 460), (460, .aload_n 0, 461), (461, .iload 4, 463), (463, .iconst 1, 464), (464, .iadd, 465), (465, .iaload, 466), (466, .aload_n 3, 467), (467, .invokestatic 89, 470), (470, .istore 5, 472), (472, .aload_n 2, 473), (473, .aload_n 0, 474), (474, .iload 4, 476), (476, .iconst 1, 477), (477, .iadd, 478), (478, .iaload, 479), (479, .invokevirtual 91, 482), (482, .istore 6, 484), (484, .aload_n 2, 485), (485, .invokevirtual 69, 488), (488, .iload 5, 490), (490, .if_icmp .eq 5, 493), (493, .iconst 0, 494), (494, .ireturn, 495), (495, .iload 5, 497), (497, .ifCond .ne 22, 500), (500, .aload_n 3, 501), (501, .iconst 0, 502), (502, .laload, 503), (503, .iload 6, 505), (505, .ifCond .eq 7, 508), (508, .lconst 1, 509), (509, .goto 4, 512), (512, .lconst 0, 513), (513, .lcmp, 514), (514, .ifCond .eq 5, 517), (517, .iconst 0, 518), (518, .ireturn, 519), (519, .goto 475, 522), (522, .aload_n 1, 523), (523, .aload_n 0, 524), (524, .iload 4, 526), (526, .iconst 1, 527), (527, .iadd, 528)]
def tb_law_2 : Tb := [(528, .iaload, 529), (529, .aload_n 0, 530), (530, .iload 4, 532), (532, .iconst 2, 533), (533, .iadd, 534), (534, .iaload, 535), (535, .aload_n 0, 536), (536, .iload 4, 538), (538, .iconst 3, 539), (539, .iadd, 540), (540, .iaload, 541), (541, .aload_n 0, 542), (542, .iload 4, 544), (544, .iconst 4, 545), (545, .iadd, 546), (546, .iaload, 547), (547, .aload_n 0, 548), (548, .iload 4, 550), (550, .iconst 5, 551), (551, .iadd, 552), (552, .iaload, 553), (553, .aload_n 3, 554), (554, .invokestatic 92, 557), (557, .istore 5, 559), (559, .aload_n 2, 560), (560, .aload_n 0, 561), (561, .iload 4, 563), (563, .iconst 1, 564), (564, .iadd, 565), (565, .iaload, 566), (566, .aload_n 0, 567), (567, .iload 4, 569), (569, .iconst 2, 570), (570, .iadd, 571), (571, .iaload, 572), (572, .aload_n 0, 573), (573, .iload 4, 575), (575, .iconst 3, 576), (576, .iadd, 577), (577, .iaload, 578), (578, .aload_n 0, 579), (579, .iload 4, 581), (581, .iconst 4, 582), (582, .iadd, 583), (583, .iaload, 584), (584, .aload_n 0, 585), (585, .iload 4, 587), (587, .iconst 5, 588), (588, .iadd, 589), (589, .iaload, 590), (590, .invokevirtual 95, 593), (593, .istore 6, 595), (595, .aload_n 2, 596), (596, .invokevirtual 69, 599), (599, .iload 5, 601), (601, .if_icmp .eq 5, 604), (604, .iconst 0, 605), (605, .ireturn, 606), (606, .iload 5, 608), (608, .ifCond .ne 22, 611), (611, .aload_n 3, 612), (612, .iconst 0, 613), (613, .laload, 614), (614, .iload 6, 616), (616, .ifCond .eq 7, 619), (619, .lconst 1, 620), (620, .goto 4, 623), (623, .lconst 0, 624), (624, .lcmp, 625), (625, .ifCond .eq 5, 628), (628, .iconst 0, 629), (629, .ireturn, 630), (630, .goto 364, 633), (633, .aload_n 1, 634), (634, .aload_n 0, 635), (635, .iload 4, 637), (637, .iconst 1, 638), (638, .iadd, 639), (639, .iaload, 640), (640, .aload_n 0, 641), (641, .iload 4, 643), (643, .iconst 2, 644), (644, .iadd, 645), (645, .iaload, 646), (646, .aload_n 3, 647), (647, .invokestatic 96, 650), (650, .istore 5, 652), (652, .aload_n 2, 653), (653, .aload_n 0, 654), (654, .iload 4, 656), (656, .iconst 1, 657), (657, .iadd, 658), (658, .iaload, 659), (659, .aload_n 0, 660), (660, .iload 4, 662), (662, .iconst 2, 663), (663, .iadd, 664), (664, .iaload, 665), (665, .invokevirtual 99, 668), (668, .istore 6, 670), (670, .aload_n 2, 671), (671, .invokevirtual 69, 674), (674, .iload 5, 676), (676, .if_icmp .eq 5, 679), (679, .iconst 0, 680), (680, .ireturn, 681), (681, .iload 5, 683), (683, .ifCond .ne 22, 686), (686, .aload_n 3, 687), (687, .iconst 0, 688), (688, .laload, 689), (689, .iload 6, 691), (691, .ifCond .eq 7, 694), (694, .lconst 1, 695), (695, .goto 4, 698), (698, .lconst 0, 699), (699, .lcmp, 700), (700, .ifCond .eq 5, 703), (703, .iconst 0, 704), (704, .ireturn, 705), (705, .goto 289, 708), (708, .aload_n 1, 709), (709, .aload_n 0, 710), (710, .iload 4, 712), (712, .iconst 1, 713), (713, .iadd, 714), (714, .iaload, 715), (715, .aload_n 3, 716), (716, .invokestatic 100, 719), (719, .istore 5, 721), (721, .aload_n 2, 722), (722, .aload_n 0, 723), (723, .iload 4, 725), (725, .iconst 1, 726), (726, .iadd, 727), (727, .iaload, 728), (728, .invokevirtual 102, 731), (731, .istore 6, 733), (733, .aload_n 2, 734), (734, .invokevirtual 69, 737), (737, .iload 5, 739), (739, .if_icmp .eq 5, 742), (742, .iconst 0, 743), (743, .ireturn, 744), (744, .iload 5, 746), (746, .ifCond .ne 15, 749), (749, .aload_n 3, 750), (750, .iconst 0, 751), (751, .laload, 752), (752, .iload 6, 754)]
def tb_law_3 : Tb := [(754, .i2l, 755), (755, .lcmp, 756), (756, .ifCond .eq 5, 759), (759, .iconst 0, 760), (760, .ireturn, 761), (761, .goto 233, 764), (764, .aload_n 1, 765), (765, .aload_n 0, 766), (766, .iload 4, 768), (768, .iconst 1, 769), (769, .iadd, 770), (770, .iaload, 771), (771, .aload_n 3, 772), (772, .invokestatic 103, 775), (775, .istore 5, 777), (777, .aload_n 2, 778), (778, .aload_n 0, 779), (779, .iload 4, 781), (781, .iconst 1, 782), (782, .iadd, 783), (783, .iaload, 784), (784, .invokevirtual 105, 787), (787, .istore 6, 789), (789, .aload_n 2, 790), (790, .invokevirtual 69, 793), (793, .iload 5, 795), (795, .if_icmp .eq 5, 798), (798, .iconst 0, 799), (799, .ireturn, 800), (800, .iload 5, 802), (802, .ifCond .ne 15, 805), (805, .aload_n 3, 806), (806, .iconst 0, 807), (807, .laload, 808), (808, .iload 6, 810), (810, .i2l, 811), (811, .lcmp, 812), (812, .ifCond .eq 5, 815), (815, .iconst 0, 816), (816, .ireturn, 817), (817, .goto 177, 820), (820, .aload_n 1, 821), (821, .aload_n 0, 822), (822, .iload 4, 824), (824, .iconst 1, 825), (825, .iadd, 826), (826, .iaload, 827), (827, .aload_n 0, 828), (828, .iload 4, 830), (830, .iconst 2, 831), (831, .iadd, 832), (832, .iaload, 833), (833, .aload_n 3, 834), (834, .invokestatic 106, 837), (837, .istore 5, 839), (839, .aload_n 2, 840), (840, .aload_n 0, 841), (841, .iload 4, 843), (843, .iconst 1, 844), (844, .iadd, 845), (845, .iaload, 846), (846, .aload_n 0, 847), (847, .iload 4, 849), (849, .iconst 2, 850), (850, .iadd, 851), (851, .iaload, 852), (852, .invokevirtual 108, 855), (855, .istore 6, 857), (857, .aload_n 2, 858), (858, .invokevirtual 69, 861), (861, .iload 5, 863), (863, .if_icmp .eq 5, 866), (866, .iconst 0, 867), (867, .ireturn, 868), (868, .iload 5, 870), (870, .ifCond .ne 22, 873), (873, .aload_n 3, 874), (874, .iconst 0, 875), (875, .laload, 876), (876, .iload 6, 878), (878, .ifCond .eq 7, 881), (881, .lconst 1, 882), (882, .goto 4, 885), (885, .lconst 0, 886), (886, .lcmp, 887), (887, .ifCond .eq 5, 890), (890, .iconst 0, 891), (891, .ireturn, 892), (892, .goto 102, 895), (895, .aload_n 1, 896), (896, .aload_n 0, 897), (897, .iload 4, 899), (899, .iconst 1, 900), (900, .iadd, 901), (901, .iaload, 902), (902, .aload_n 0, 903), (903, .iload 4, 905), (905, .iconst 2, 906), (906, .iadd, 907), (907, .iaload, 908), (908, .aload_n 0, 909), (909, .iload 4, 911), (911, .iconst 3, 912), (912, .iadd, 913), (913, .iaload, 914), (914, .aload_n 0, 915), (915, .iload 4, 917), (917, .iconst 4, 918), (918, .iadd, 919), (919, .iaload, 920), (920, .aload_n 3, 921), (921, .invokestatic 109, 924), (924, .istore 5, 926), (926, .aload_n 2, 927), (927, .aload_n 0, 928), (928, .iload 4, 930), (930, .iconst 1, 931), (931, .iadd, 932), (932, .iaload, 933), (933, .aload_n 0, 934), (934, .iload 4, 936), (936, .iconst 2, 937), (937, .iadd, 938), (938, .iaload, 939), (939, .aload_n 0, 940), (940, .iload 4, 942), (942, .iconst 3, 943), (943, .iadd, 944), (944, .iaload, 945), (945, .aload_n 0, 946), (946, .iload 4, 948), (948, .iconst 4, 949), (949, .iadd, 950), (950, .iaload, 951), (951, .invokevirtual 111, 954), (954, .istore 6, 956), (956, .aload_n 2, 957), (957, .invokevirtual 69, 960), (960, .iload 5, 962), (962, .if_icmp .eq 5, 965), (965, .iconst 0, 966), (966, .ireturn, 967), (967, .iload 5, 969), (969, .ifCond .ne 22, 972), (972, .aload_n 3, 973), (973, .iconst 0, 974), (974, .laload, 975), (975, .iload 6, 977), (977, .ifCond .eq 7, 980), (980, .lconst 1, 981)]
def tb_law_4 : Tb := [(981, .goto 4, 984), (984, .lconst 0, 985), (985, .lcmp, 986), (986, .ifCond .eq 5, 989), (989, .iconst 0, 990), (990, .ireturn, 991), (991, .goto 3, 994), (994, .iinc 4 6, 997), (997, .goto (-974), 1000), (1000, .iconst 1, 1001), (1001, .ireturn, 1002)]
def X_law : MX := (⟨"OmegaDeskLaw", "law", "([I)Z"⟩, code, 7, ret, room_1, tb_law_0 ++ tb_law_1 ++ tb_law_2 ++ tb_law_3 ++ tb_law_4)
set_option maxRecDepth 20000 in
theorem tk_law_0 : TBk code tb_law_0 := by unfold TBk; decide +kernel
set_option maxRecDepth 20000 in
theorem tk_law_1 : TBk code tb_law_1 := by unfold TBk; decide +kernel
set_option maxRecDepth 20000 in
theorem tk_law_2 : TBk code tb_law_2 := by unfold TBk; decide +kernel
set_option maxRecDepth 20000 in
theorem tk_law_3 : TBk code tb_law_3 := by unfold TBk; decide +kernel
set_option maxRecDepth 20000 in
theorem tk_law_4 : TBk code tb_law_4 := by unfold TBk; decide +kernel
theorem tk_law : TBk (xc X_law) (xt X_law) := by
  unfold TBk
  show (tb_law_0 ++ tb_law_1 ++ tb_law_2 ++ tb_law_3 ++ tb_law_4).all (tbq code) = true
  simp only [List.all_append, Bool.and_eq_true]
  exact ⟨⟨⟨⟨tk_law_0, tk_law_1⟩, tk_law_2⟩, tk_law_3⟩, tk_law_4⟩
theorem ds_law : decode code 40 = .ok (.tableswitch 954 0 11 #[64, 148, 247, 283, 363, 419, 482, 593, 668, 724, 780, 855], 64) := by decide +kernel
theorem cv_L_68 : CV "OmegaDeskLaw" 68 X_M_state 2 8 := ⟨Or.inl wb_567, ⟨wb_568, wb_569⟩, by decide +kernel, F_M, 12, rfl⟩
theorem cv_L_69 : CV "OmegaDeskLaw" 69 X_M_thrown 0 8 := ⟨Or.inl wb_563, ⟨wb_564, wb_565⟩, by decide +kernel, F_M, 12, rfl⟩
theorem cv_L_76 : CV "OmegaDeskLaw" 76 X_M_edge 4 8 := ⟨Or.inl wb_578, ⟨wb_579, wb_580⟩, by decide +kernel, F_M, 12, rfl⟩
theorem cv_L_80 : CV "OmegaDeskLaw" 80 X_M_clear 1 8 := ⟨Or.inl wb_586, ⟨wb_587, wb_588⟩, by decide +kernel, F_M, 12, rfl⟩
theorem cv_L_84 : CV "OmegaDeskLaw" 84 X_M_unite 3 8 := ⟨Or.inl wb_590, ⟨wb_591, wb_592⟩, by decide +kernel, F_M, 12, rfl⟩
theorem cv_L_88 : CV "OmegaDeskLaw" 88 X_M_trim 1 8 := ⟨Or.inl wb_598, ⟨wb_599, wb_600⟩, by decide +kernel, F_M, 12, rfl⟩
theorem cv_L_91 : CV "OmegaDeskLaw" 91 X_M_empty 1 8 := ⟨Or.inl wb_614, ⟨wb_615, wb_616⟩, by decide +kernel, F_M, 12, rfl⟩
theorem cv_L_95 : CV "OmegaDeskLaw" 95 X_M_takes 5 8 := ⟨Or.inl wb_618, ⟨wb_619, wb_620⟩, by decide +kernel, F_M, 12, rfl⟩
theorem cv_L_99 : CV "OmegaDeskLaw" 99 X_M_included 2 8 := ⟨Or.inl wb_641, ⟨wb_642, wb_643⟩, by decide +kernel, F_M, 12, rfl⟩
theorem cv_L_102 : CV "OmegaDeskLaw" 102 X_M_witness 1 8 := ⟨Or.inl wb_694, ⟨wb_695, wb_696⟩, by decide +kernel, F_M, 12, rfl⟩
theorem cv_L_105 : CV "OmegaDeskLaw" 105 X_M_states 1 8 := ⟨Or.inl wb_698, ⟨wb_699, wb_700⟩, by decide +kernel, F_M, 12, rfl⟩
theorem cv_L_108 : CV "OmegaDeskLaw" 108 X_M_good 2 8 := ⟨Or.inl wb_706, ⟨wb_707, wb_708⟩, by decide +kernel, F_M, 12, rfl⟩
theorem cv_L_111 : CV "OmegaDeskLaw" 111 X_M_has 4 8 := ⟨Or.inl wb_710, ⟨wb_711, wb_712⟩, by decide +kernel, F_M, 12, rfl⟩
def b_law (xs : Nat → Int32) (Ln : Nat) (s : Int32 × Mm) : Option ((Int32 × Mm) ⊕ Bool) :=
  if ((Int32.ofNat Ln) - (6 : Int32)) < s.1 then
    some (Sum.inr true)
  else
    ck (inb s.1 Ln) <|
    if ((xs s.1.toNatClampNeg) &&& (15 : Int32)) = 0 then
      ck (inb (s.1 + (1 : Int32)) Ln) <|
      ck (inb (s.1 + (2 : Int32)) Ln) <|
      if (xs (s.1 + (2 : Int32)).toNatClampNeg) = 0 then
        bd (m_L_state (xs (s.1 + (1 : Int32)).toNatClampNeg) false 3 s.2) fun r1 =>
        ck (inb (s.1 + (1 : Int32)) Ln) <|
        ck (inb (s.1 + (2 : Int32)) Ln) <|
        if (xs (s.1 + (2 : Int32)).toNatClampNeg) = 0 then
          bd (m_M_state (xs (s.1 + (1 : Int32)).toNatClampNeg) false r1.2) fun r2 =>
          bd (m_M_thrown  r2.2) fun r3 =>
          if r3 = r1.1 then
            if r1.1 = 0 then
              ck (inb (0 : Int32) (lenL 3)) <|
              if (lg_cmp (r2.2.2 (2, 3) (0 : Int32).toNatClampNeg) (r2.1.toInt64)) = 0 then
                some (Sum.inl ((s.1 + 6), r2.2))
              else
                some (Sum.inr false)
            else
              some (Sum.inl ((s.1 + 6), r2.2))
          else
            some (Sum.inr false)
        else
          bd (m_M_state (xs (s.1 + (1 : Int32)).toNatClampNeg) true r1.2) fun r4 =>
          bd (m_M_thrown  r4.2) fun r5 =>
          if r5 = r1.1 then
            if r1.1 = 0 then
              ck (inb (0 : Int32) (lenL 3)) <|
              if (lg_cmp (r4.2.2 (2, 3) (0 : Int32).toNatClampNeg) (r4.1.toInt64)) = 0 then
                some (Sum.inl ((s.1 + 6), r4.2))
              else
                some (Sum.inr false)
            else
              some (Sum.inl ((s.1 + 6), r4.2))
          else
            some (Sum.inr false)
      else
        bd (m_L_state (xs (s.1 + (1 : Int32)).toNatClampNeg) true 3 s.2) fun r6 =>
        ck (inb (s.1 + (1 : Int32)) Ln) <|
        ck (inb (s.1 + (2 : Int32)) Ln) <|
        if (xs (s.1 + (2 : Int32)).toNatClampNeg) = 0 then
          bd (m_M_state (xs (s.1 + (1 : Int32)).toNatClampNeg) false r6.2) fun r7 =>
          bd (m_M_thrown  r7.2) fun r8 =>
          if r8 = r6.1 then
            if r6.1 = 0 then
              ck (inb (0 : Int32) (lenL 3)) <|
              if (lg_cmp (r7.2.2 (2, 3) (0 : Int32).toNatClampNeg) (r7.1.toInt64)) = 0 then
                some (Sum.inl ((s.1 + 6), r7.2))
              else
                some (Sum.inr false)
            else
              some (Sum.inl ((s.1 + 6), r7.2))
          else
            some (Sum.inr false)
        else
          bd (m_M_state (xs (s.1 + (1 : Int32)).toNatClampNeg) true r6.2) fun r9 =>
          bd (m_M_thrown  r9.2) fun r10 =>
          if r10 = r6.1 then
            if r6.1 = 0 then
              ck (inb (0 : Int32) (lenL 3)) <|
              if (lg_cmp (r9.2.2 (2, 3) (0 : Int32).toNatClampNeg) (r9.1.toInt64)) = 0 then
                some (Sum.inl ((s.1 + 6), r9.2))
              else
                some (Sum.inr false)
            else
              some (Sum.inl ((s.1 + 6), r9.2))
          else
            some (Sum.inr false)
    else
    if ((xs s.1.toNatClampNeg) &&& (15 : Int32)) = 1 then
      ck (inb (s.1 + (1 : Int32)) Ln) <|
      ck (inb (s.1 + (2 : Int32)) Ln) <|
      ck (inb (s.1 + (3 : Int32)) Ln) <|
      ck (inb (s.1 + (4 : Int32)) Ln) <|
      bd (m_L_edge (xs (s.1 + (1 : Int32)).toNatClampNeg) (xs (s.1 + (2 : Int32)).toNatClampNeg) (xs (s.1 + (3 : Int32)).toNatClampNeg) (xs (s.1 + (4 : Int32)).toNatClampNeg) 3 s.2) fun r11 =>
      ck (inb (s.1 + (1 : Int32)) Ln) <|
      ck (inb (s.1 + (2 : Int32)) Ln) <|
      ck (inb (s.1 + (3 : Int32)) Ln) <|
      ck (inb (s.1 + (4 : Int32)) Ln) <|
      bd (m_M_edge (xs (s.1 + (1 : Int32)).toNatClampNeg) (xs (s.1 + (2 : Int32)).toNatClampNeg) (xs (s.1 + (3 : Int32)).toNatClampNeg) (xs (s.1 + (4 : Int32)).toNatClampNeg) r11.2) fun r12 =>
      bd (m_M_thrown  r12.2) fun r13 =>
      if r13 = r11.1 then
        if r11.1 = 0 then
          ck (inb (0 : Int32) (lenL 3)) <|
          if (bI r12.1) = 0 then
            if (lg_cmp (r12.2.2 (2, 3) (0 : Int32).toNatClampNeg) (0 : Int64)) = 0 then
              some (Sum.inl ((s.1 + 6), r12.2))
            else
              some (Sum.inr false)
          else
            if (lg_cmp (r12.2.2 (2, 3) (0 : Int32).toNatClampNeg) (1 : Int64)) = 0 then
              some (Sum.inl ((s.1 + 6), r12.2))
            else
              some (Sum.inr false)
        else
          some (Sum.inl ((s.1 + 6), r12.2))
      else
        some (Sum.inr false)
    else
    if ((xs s.1.toNatClampNeg) &&& (15 : Int32)) = 2 then
      ck (inb (s.1 + (1 : Int32)) Ln) <|
      bd (m_L_clear (xs (s.1 + (1 : Int32)).toNatClampNeg) s.2) fun r14 =>
      ck (inb (s.1 + (1 : Int32)) Ln) <|
      bd (m_M_clear (xs (s.1 + (1 : Int32)).toNatClampNeg) r14.2) fun r15 =>
      bd (m_M_thrown  r15) fun r16 =>
      if r16 = r14.1 then
        some (Sum.inl ((s.1 + 6), r15))
      else
        some (Sum.inr false)
    else
    if ((xs s.1.toNatClampNeg) &&& (15 : Int32)) = 3 then
      ck (inb (s.1 + (1 : Int32)) Ln) <|
      ck (inb (s.1 + (2 : Int32)) Ln) <|
      ck (inb (s.1 + (3 : Int32)) Ln) <|
      bd (m_L_unite (xs (s.1 + (1 : Int32)).toNatClampNeg) (xs (s.1 + (2 : Int32)).toNatClampNeg) (xs (s.1 + (3 : Int32)).toNatClampNeg) 3 s.2) fun r17 =>
      ck (inb (s.1 + (1 : Int32)) Ln) <|
      ck (inb (s.1 + (2 : Int32)) Ln) <|
      ck (inb (s.1 + (3 : Int32)) Ln) <|
      bd (m_M_unite (xs (s.1 + (1 : Int32)).toNatClampNeg) (xs (s.1 + (2 : Int32)).toNatClampNeg) (xs (s.1 + (3 : Int32)).toNatClampNeg) r17.2) fun r18 =>
      bd (m_M_thrown  r18.2) fun r19 =>
      if r19 = r17.1 then
        if r17.1 = 0 then
          ck (inb (0 : Int32) (lenL 3)) <|
          if (lg_cmp (r18.2.2 (2, 3) (0 : Int32).toNatClampNeg) (r18.1.toInt64)) = 0 then
            some (Sum.inl ((s.1 + 6), r18.2))
          else
            some (Sum.inr false)
        else
          some (Sum.inl ((s.1 + 6), r18.2))
      else
        some (Sum.inr false)
    else
    if ((xs s.1.toNatClampNeg) &&& (15 : Int32)) = 4 then
      ck (inb (s.1 + (1 : Int32)) Ln) <|
      bd (m_L_trim (xs (s.1 + (1 : Int32)).toNatClampNeg) 3 s.2) fun r20 =>
      ck (inb (s.1 + (1 : Int32)) Ln) <|
      bd (m_M_trim (xs (s.1 + (1 : Int32)).toNatClampNeg) r20.2) fun r21 =>
      bd (m_M_thrown  r21.2) fun r22 =>
      if r22 = r20.1 then
        if r20.1 = 0 then
          ck (inb (0 : Int32) (lenL 3)) <|
          if (lg_cmp (r21.2.2 (2, 3) (0 : Int32).toNatClampNeg) (r21.1.toInt64)) = 0 then
            some (Sum.inl ((s.1 + 6), r21.2))
          else
            some (Sum.inr false)
        else
          some (Sum.inl ((s.1 + 6), r21.2))
      else
        some (Sum.inr false)
    else
    if ((xs s.1.toNatClampNeg) &&& (15 : Int32)) = 5 then
      ck (inb (s.1 + (1 : Int32)) Ln) <|
      bd (m_L_empty (xs (s.1 + (1 : Int32)).toNatClampNeg) 3 s.2) fun r23 =>
      ck (inb (s.1 + (1 : Int32)) Ln) <|
      bd (m_M_empty (xs (s.1 + (1 : Int32)).toNatClampNeg) r23.2) fun r24 =>
      bd (m_M_thrown  r24.2) fun r25 =>
      if r25 = r23.1 then
        if r23.1 = 0 then
          ck (inb (0 : Int32) (lenL 3)) <|
          if (bI r24.1) = 0 then
            if (lg_cmp (r24.2.2 (2, 3) (0 : Int32).toNatClampNeg) (0 : Int64)) = 0 then
              some (Sum.inl ((s.1 + 6), r24.2))
            else
              some (Sum.inr false)
          else
            if (lg_cmp (r24.2.2 (2, 3) (0 : Int32).toNatClampNeg) (1 : Int64)) = 0 then
              some (Sum.inl ((s.1 + 6), r24.2))
            else
              some (Sum.inr false)
        else
          some (Sum.inl ((s.1 + 6), r24.2))
      else
        some (Sum.inr false)
    else
    if ((xs s.1.toNatClampNeg) &&& (15 : Int32)) = 6 then
      ck (inb (s.1 + (1 : Int32)) Ln) <|
      ck (inb (s.1 + (2 : Int32)) Ln) <|
      ck (inb (s.1 + (3 : Int32)) Ln) <|
      ck (inb (s.1 + (4 : Int32)) Ln) <|
      ck (inb (s.1 + (5 : Int32)) Ln) <|
      bd (m_L_takes (xs (s.1 + (1 : Int32)).toNatClampNeg) (xs (s.1 + (2 : Int32)).toNatClampNeg) (xs (s.1 + (3 : Int32)).toNatClampNeg) (xs (s.1 + (4 : Int32)).toNatClampNeg) (xs (s.1 + (5 : Int32)).toNatClampNeg) 3 s.2) fun r26 =>
      ck (inb (s.1 + (1 : Int32)) Ln) <|
      ck (inb (s.1 + (2 : Int32)) Ln) <|
      ck (inb (s.1 + (3 : Int32)) Ln) <|
      ck (inb (s.1 + (4 : Int32)) Ln) <|
      ck (inb (s.1 + (5 : Int32)) Ln) <|
      bd (m_M_takes (xs (s.1 + (1 : Int32)).toNatClampNeg) (xs (s.1 + (2 : Int32)).toNatClampNeg) (xs (s.1 + (3 : Int32)).toNatClampNeg) (xs (s.1 + (4 : Int32)).toNatClampNeg) (xs (s.1 + (5 : Int32)).toNatClampNeg) r26.2) fun r27 =>
      bd (m_M_thrown  r27.2) fun r28 =>
      if r28 = r26.1 then
        if r26.1 = 0 then
          ck (inb (0 : Int32) (lenL 3)) <|
          if (bI r27.1) = 0 then
            if (lg_cmp (r27.2.2 (2, 3) (0 : Int32).toNatClampNeg) (0 : Int64)) = 0 then
              some (Sum.inl ((s.1 + 6), r27.2))
            else
              some (Sum.inr false)
          else
            if (lg_cmp (r27.2.2 (2, 3) (0 : Int32).toNatClampNeg) (1 : Int64)) = 0 then
              some (Sum.inl ((s.1 + 6), r27.2))
            else
              some (Sum.inr false)
        else
          some (Sum.inl ((s.1 + 6), r27.2))
      else
        some (Sum.inr false)
    else
    if ((xs s.1.toNatClampNeg) &&& (15 : Int32)) = 7 then
      ck (inb (s.1 + (1 : Int32)) Ln) <|
      ck (inb (s.1 + (2 : Int32)) Ln) <|
      bd (m_L_included (xs (s.1 + (1 : Int32)).toNatClampNeg) (xs (s.1 + (2 : Int32)).toNatClampNeg) 3 s.2) fun r29 =>
      ck (inb (s.1 + (1 : Int32)) Ln) <|
      ck (inb (s.1 + (2 : Int32)) Ln) <|
      bd (m_M_included (xs (s.1 + (1 : Int32)).toNatClampNeg) (xs (s.1 + (2 : Int32)).toNatClampNeg) r29.2) fun r30 =>
      bd (m_M_thrown  r30.2) fun r31 =>
      if r31 = r29.1 then
        if r29.1 = 0 then
          ck (inb (0 : Int32) (lenL 3)) <|
          if (bI r30.1) = 0 then
            if (lg_cmp (r30.2.2 (2, 3) (0 : Int32).toNatClampNeg) (0 : Int64)) = 0 then
              some (Sum.inl ((s.1 + 6), r30.2))
            else
              some (Sum.inr false)
          else
            if (lg_cmp (r30.2.2 (2, 3) (0 : Int32).toNatClampNeg) (1 : Int64)) = 0 then
              some (Sum.inl ((s.1 + 6), r30.2))
            else
              some (Sum.inr false)
        else
          some (Sum.inl ((s.1 + 6), r30.2))
      else
        some (Sum.inr false)
    else
    if ((xs s.1.toNatClampNeg) &&& (15 : Int32)) = 8 then
      ck (inb (s.1 + (1 : Int32)) Ln) <|
      bd (m_L_witness (xs (s.1 + (1 : Int32)).toNatClampNeg) 3 s.2) fun r32 =>
      ck (inb (s.1 + (1 : Int32)) Ln) <|
      bd (m_M_witness (xs (s.1 + (1 : Int32)).toNatClampNeg) r32.2) fun r33 =>
      bd (m_M_thrown  r33.2) fun r34 =>
      if r34 = r32.1 then
        if r32.1 = 0 then
          ck (inb (0 : Int32) (lenL 3)) <|
          if (lg_cmp (r33.2.2 (2, 3) (0 : Int32).toNatClampNeg) (r33.1.toInt64)) = 0 then
            some (Sum.inl ((s.1 + 6), r33.2))
          else
            some (Sum.inr false)
        else
          some (Sum.inl ((s.1 + 6), r33.2))
      else
        some (Sum.inr false)
    else
    if ((xs s.1.toNatClampNeg) &&& (15 : Int32)) = 9 then
      ck (inb (s.1 + (1 : Int32)) Ln) <|
      bd (m_L_states (xs (s.1 + (1 : Int32)).toNatClampNeg) 3 s.2) fun r35 =>
      ck (inb (s.1 + (1 : Int32)) Ln) <|
      bd (m_M_states (xs (s.1 + (1 : Int32)).toNatClampNeg) r35.2) fun r36 =>
      bd (m_M_thrown  r36.2) fun r37 =>
      if r37 = r35.1 then
        if r35.1 = 0 then
          ck (inb (0 : Int32) (lenL 3)) <|
          if (lg_cmp (r36.2.2 (2, 3) (0 : Int32).toNatClampNeg) (r36.1.toInt64)) = 0 then
            some (Sum.inl ((s.1 + 6), r36.2))
          else
            some (Sum.inr false)
        else
          some (Sum.inl ((s.1 + 6), r36.2))
      else
        some (Sum.inr false)
    else
    if ((xs s.1.toNatClampNeg) &&& (15 : Int32)) = 10 then
      ck (inb (s.1 + (1 : Int32)) Ln) <|
      ck (inb (s.1 + (2 : Int32)) Ln) <|
      bd (m_L_good (xs (s.1 + (1 : Int32)).toNatClampNeg) (xs (s.1 + (2 : Int32)).toNatClampNeg) 3 s.2) fun r38 =>
      ck (inb (s.1 + (1 : Int32)) Ln) <|
      ck (inb (s.1 + (2 : Int32)) Ln) <|
      bd (m_M_good (xs (s.1 + (1 : Int32)).toNatClampNeg) (xs (s.1 + (2 : Int32)).toNatClampNeg) r38.2) fun r39 =>
      bd (m_M_thrown  r39.2) fun r40 =>
      if r40 = r38.1 then
        if r38.1 = 0 then
          ck (inb (0 : Int32) (lenL 3)) <|
          if (bI r39.1) = 0 then
            if (lg_cmp (r39.2.2 (2, 3) (0 : Int32).toNatClampNeg) (0 : Int64)) = 0 then
              some (Sum.inl ((s.1 + 6), r39.2))
            else
              some (Sum.inr false)
          else
            if (lg_cmp (r39.2.2 (2, 3) (0 : Int32).toNatClampNeg) (1 : Int64)) = 0 then
              some (Sum.inl ((s.1 + 6), r39.2))
            else
              some (Sum.inr false)
        else
          some (Sum.inl ((s.1 + 6), r39.2))
      else
        some (Sum.inr false)
    else
    if ((xs s.1.toNatClampNeg) &&& (15 : Int32)) = 11 then
      ck (inb (s.1 + (1 : Int32)) Ln) <|
      ck (inb (s.1 + (2 : Int32)) Ln) <|
      ck (inb (s.1 + (3 : Int32)) Ln) <|
      ck (inb (s.1 + (4 : Int32)) Ln) <|
      bd (m_L_has (xs (s.1 + (1 : Int32)).toNatClampNeg) (xs (s.1 + (2 : Int32)).toNatClampNeg) (xs (s.1 + (3 : Int32)).toNatClampNeg) (xs (s.1 + (4 : Int32)).toNatClampNeg) 3 s.2) fun r41 =>
      ck (inb (s.1 + (1 : Int32)) Ln) <|
      ck (inb (s.1 + (2 : Int32)) Ln) <|
      ck (inb (s.1 + (3 : Int32)) Ln) <|
      ck (inb (s.1 + (4 : Int32)) Ln) <|
      bd (m_M_has (xs (s.1 + (1 : Int32)).toNatClampNeg) (xs (s.1 + (2 : Int32)).toNatClampNeg) (xs (s.1 + (3 : Int32)).toNatClampNeg) (xs (s.1 + (4 : Int32)).toNatClampNeg) r41.2) fun r42 =>
      bd (m_M_thrown  r42.2) fun r43 =>
      if r43 = r41.1 then
        if r41.1 = 0 then
          ck (inb (0 : Int32) (lenL 3)) <|
          if (bI r42.1) = 0 then
            if (lg_cmp (r42.2.2 (2, 3) (0 : Int32).toNatClampNeg) (0 : Int64)) = 0 then
              some (Sum.inl ((s.1 + 6), r42.2))
            else
              some (Sum.inr false)
          else
            if (lg_cmp (r42.2.2 (2, 3) (0 : Int32).toNatClampNeg) (1 : Int64)) = 0 then
              some (Sum.inl ((s.1 + 6), r42.2))
            else
              some (Sum.inr false)
        else
          some (Sum.inl ((s.1 + 6), r42.2))
      else
        some (Sum.inr false)
    else
    some (Sum.inl ((s.1 + 6), s.2))
set_option maxHeartbeats 4000000 in
set_option maxRecDepth 20000 in
theorem w_law {l : Launch} {xs : Nat → Int32} {Ln : Nat} : ∀ (n : Nat) (s : Int32 × Mm) (cs : Nat × Nat), cs.1 + 4 * n ≤ 601024 ∧ cs.2 + 24 * n ≤ 7293034 → lpN (b_law xs Ln) n s = some true → Gx l X_law (lT Ln xs) cs 23 [(0, vr 9 0), (1, vr 3 0), (2, vr 8 0), (3, vr 2 3), (4, vi s.1)] [] s.2 := by
  intro n
  induction n with
  | zero => intro s cs _ hc; exact (lpN_0 hc).elim
  | succ n ih =>
    intro s cs hcs hc
    obtain ⟨q, h, hc⟩ := lpN_inv hc
    unfold b_law at h
    refine go_iload 13 rfl 4 rfl ?_
    refine go_aload_n 14 rfl 0 rfl rfl ?_
    refine go_slen 15 rfl ?_
    refine go_bipush 6 16 rfl (by decide) ?_
    refine go_isub 17 rfl ?_
    refine go_icmp_gt 1000 18 rfl (by decide) (fun c => ?_) (fun c => ?_)
    · replace h := ite_t c h
      cases h
      refine go_iconst 1 609 rfl (by decide) ?_
      exact go_lawret 610 rfl rfl rfl rfl (by show cs.1 + 0 ≤ 601024 ∧ cs.2 + 0 ≤ 7293034; omega)
    · replace h := ite_f c h
      refine go_aload_n 19 rfl 0 rfl rfl ?_
      refine go_iload 20 rfl 4 rfl ?_
      obtain ⟨c, h⟩ := ck_inv h
      refine go_sload 21 rfl (inb_vp c) ?_
      refine go_bipush 15 22 rfl (by decide) ?_
      refine go_iand 23 rfl ?_
      by_cases ck0 : ((xs s.1.toNatClampNeg) &&& (15 : Int32)) = 0
      · replace h := ite_t ck0 h
        refine go_swIn 0 104 ds_law (by rw [ck0]; decide) (by decide) rfl (by decide) ?_
        refine go_aload_n 24 rfl 1 rfl rfl ?_
        refine go_aload_n 25 rfl 0 rfl rfl ?_
        refine go_iload 26 rfl 4 rfl ?_
        refine go_iconst 1 27 rfl (by decide) ?_
        refine go_iadd 28 rfl ?_
        obtain ⟨c, h⟩ := ck_inv h
        refine go_sload 29 rfl (inb_vp c) ?_
        refine go_aload_n 30 rfl 0 rfl rfl ?_
        refine go_iload 31 rfl 4 rfl ?_
        refine go_iconst 2 32 rfl (by decide) ?_
        refine go_iadd 33 rfl ?_
        obtain ⟨c, h⟩ := ck_inv h
        refine go_sload 34 rfl (inb_vp c) ?_
        refine go_if_eq 124 35 rfl (by decide) (fun c => ?_) (fun c => ?_)
        · replace h := ite_t c h
          refine go_iconst 0 38 rfl (by decide) ?_
          refine go_aload_n 39 rfl 3 rfl rfl ?_
          obtain ⟨r1, c, h⟩ := bd_inv h
          refine go_callW (n := 4) _ 40 rfl (e_L_state (by omega) c) mk_L_state wb_134 wb_135 (by decide +kernel) rfl ⟨(Nat.le_of_ble_eq_true rfl), (Nat.le_of_ble_eq_true rfl)⟩ (by show cs.1 + 2 ≤ 601024 ∧ cs.2 + 12 ≤ 7293034; omega) (Nat.le_of_ble_eq_true rfl) rfl (cs.1 + 2, cs.2 + 12) rfl ?_
          refine go_istore 41 rfl (Nat.le_of_ble_eq_true rfl) [(0, _), (1, _), (2, _), (3, _), (4, _), (5, _)] rfl ?_
          refine go_aload_n 42 rfl 2 rfl rfl ?_
          refine go_aload_n 43 rfl 0 rfl rfl ?_
          refine go_iload 44 rfl 4 rfl ?_
          refine go_iconst 1 45 rfl (by decide) ?_
          refine go_iadd 46 rfl ?_
          obtain ⟨c, h⟩ := ck_inv h
          refine go_sload 47 rfl (inb_vp c) ?_
          refine go_aload_n 48 rfl 0 rfl rfl ?_
          refine go_iload 49 rfl 4 rfl ?_
          refine go_iconst 2 50 rfl (by decide) ?_
          refine go_iadd 51 rfl ?_
          obtain ⟨c, h⟩ := ck_inv h
          refine go_sload 52 rfl (inb_vp c) ?_
          refine go_if_eq 151 53 rfl (by decide) (fun c => ?_) (fun c => ?_)
          · replace h := ite_t c h
            refine go_iconst 0 56 rfl (by decide) ?_
            obtain ⟨r2, c, h⟩ := bd_inv h
            refine go_callV1 _ 57 rfl (e_M_state c) mk_M_state (by first | decide | exact ok0 (by omega) | exact ok1 (by omega) | exact ok2 (by omega) | exact ok7 (by omega)) rfl cv_L_68 rfl ⟨(Nat.le_of_ble_eq_true rfl), (Nat.le_of_ble_eq_true rfl)⟩ (Nat.le_of_ble_eq_true rfl) rfl ?_
            refine go_istore 58 rfl (Nat.le_of_ble_eq_true rfl) [(0, _), (1, _), (2, _), (3, _), (4, _), (5, _), (6, _)] rfl ?_
            refine go_aload_n 59 rfl 2 rfl rfl ?_
            obtain ⟨r3, c, h⟩ := bd_inv h
            refine go_callV1 _ 60 rfl (e_M_thrown c) mk_M_thrown (by first | decide | exact ok0 (by omega) | exact ok1 (by omega) | exact ok2 (by omega) | exact ok7 (by omega)) rfl cv_L_69 rfl ⟨(Nat.le_of_ble_eq_true rfl), (Nat.le_of_ble_eq_true rfl)⟩ (Nat.le_of_ble_eq_true rfl) rfl ?_
            refine go_iload 61 rfl 5 rfl ?_
            refine go_icmp_eq 168 62 rfl (by decide) (fun c => ?_) (fun c => ?_)
            · replace h := ite_t c h
              refine go_iload 65 rfl 5 rfl ?_
              refine go_if_ne 185 66 rfl (by decide) (fun c => ?_) (fun c => ?_)
              · replace h := ite_f c h
                refine go_goto 994 76 rfl (by decide) ?_
                refine go_iinc 6 607 rfl 4 rfl (by decide) (Nat.le_of_ble_eq_true rfl) [(0, _), (1, _), (2, _), (3, _), (4, _), (5, _), (6, _)] rfl ?_
                refine go_goto 23 608 rfl (by decide) ?_
                cases h
                refine go_sub [0, 1, 2, 3, 4] rfl ?_
                refine go_widen (cs.1 + 4, cs.2 + 24) (by show cs.1 + 2 ≤ cs.1 + 4 ∧ cs.2 + 12 ≤ cs.2 + 24; omega) (by show cs.1 + 4 ≤ 601024 ∧ cs.2 + 24 ≤ 7293034; omega) ?_
                have g9 := ih _ (cs.1 + 4, cs.2 + 24) (by show cs.1 + 4 + 4 * n ≤ 601024 ∧ cs.2 + 24 + 24 * n ≤ 7293034; omega) hc
                exact g9
              · replace h := ite_t c h
                refine go_aload_n 67 rfl 3 rfl rfl ?_
                refine go_iconst 0 68 rfl (by decide) ?_
                obtain ⟨c, h⟩ := ck_inv h
                refine go_laload 69 rfl (by first | decide | exact ok0 (by omega) | exact ok1 (by omega) | exact ok2 (by omega) | exact ok7 (by omega)) (inb_vp c) ?_
                refine go_iload 70 rfl 6 rfl ?_
                refine go_i2l 71 rfl ?_
                refine go_lcmp 72 rfl ?_
                refine go_if_eq 185 73 rfl (by decide) (fun c => ?_) (fun c => ?_)
                · replace h := ite_t c h
                  refine go_goto 994 76 rfl (by decide) ?_
                  refine go_iinc 6 607 rfl 4 rfl (by decide) (Nat.le_of_ble_eq_true rfl) [(0, _), (1, _), (2, _), (3, _), (4, _), (5, _), (6, _)] rfl ?_
                  refine go_goto 23 608 rfl (by decide) ?_
                  cases h
                  refine go_sub [0, 1, 2, 3, 4] rfl ?_
                  refine go_widen (cs.1 + 4, cs.2 + 24) (by show cs.1 + 2 ≤ cs.1 + 4 ∧ cs.2 + 12 ≤ cs.2 + 24; omega) (by show cs.1 + 4 ≤ 601024 ∧ cs.2 + 24 ≤ 7293034; omega) ?_
                  have g9 := ih _ (cs.1 + 4, cs.2 + 24) (by show cs.1 + 4 + 4 * n ≤ 601024 ∧ cs.2 + 24 + 24 * n ≤ 7293034; omega) hc
                  exact g9
                · replace h := ite_f c h
                  refine go_iconst 0 74 rfl (by decide) ?_
                  cases h
                  exact absurd (lpq_r hc) (by decide)
            · replace h := ite_f c h
              refine go_iconst 0 63 rfl (by decide) ?_
              cases h
              exact absurd (lpq_r hc) (by decide)
          · replace h := ite_f c h
            refine go_iconst 1 54 rfl (by decide) ?_
            refine go_goto 152 55 rfl (by decide) ?_
            obtain ⟨r4, c, h⟩ := bd_inv h
            refine go_callV1 _ 57 rfl (e_M_state c) mk_M_state (by first | decide | exact ok0 (by omega) | exact ok1 (by omega) | exact ok2 (by omega) | exact ok7 (by omega)) rfl cv_L_68 rfl ⟨(Nat.le_of_ble_eq_true rfl), (Nat.le_of_ble_eq_true rfl)⟩ (Nat.le_of_ble_eq_true rfl) rfl ?_
            refine go_istore 58 rfl (Nat.le_of_ble_eq_true rfl) [(0, _), (1, _), (2, _), (3, _), (4, _), (5, _), (6, _)] rfl ?_
            refine go_aload_n 59 rfl 2 rfl rfl ?_
            obtain ⟨r5, c, h⟩ := bd_inv h
            refine go_callV1 _ 60 rfl (e_M_thrown c) mk_M_thrown (by first | decide | exact ok0 (by omega) | exact ok1 (by omega) | exact ok2 (by omega) | exact ok7 (by omega)) rfl cv_L_69 rfl ⟨(Nat.le_of_ble_eq_true rfl), (Nat.le_of_ble_eq_true rfl)⟩ (Nat.le_of_ble_eq_true rfl) rfl ?_
            refine go_iload 61 rfl 5 rfl ?_
            refine go_icmp_eq 168 62 rfl (by decide) (fun c => ?_) (fun c => ?_)
            · replace h := ite_t c h
              refine go_iload 65 rfl 5 rfl ?_
              refine go_if_ne 185 66 rfl (by decide) (fun c => ?_) (fun c => ?_)
              · replace h := ite_f c h
                refine go_goto 994 76 rfl (by decide) ?_
                refine go_iinc 6 607 rfl 4 rfl (by decide) (Nat.le_of_ble_eq_true rfl) [(0, _), (1, _), (2, _), (3, _), (4, _), (5, _), (6, _)] rfl ?_
                refine go_goto 23 608 rfl (by decide) ?_
                cases h
                refine go_sub [0, 1, 2, 3, 4] rfl ?_
                refine go_widen (cs.1 + 4, cs.2 + 24) (by show cs.1 + 2 ≤ cs.1 + 4 ∧ cs.2 + 12 ≤ cs.2 + 24; omega) (by show cs.1 + 4 ≤ 601024 ∧ cs.2 + 24 ≤ 7293034; omega) ?_
                have g9 := ih _ (cs.1 + 4, cs.2 + 24) (by show cs.1 + 4 + 4 * n ≤ 601024 ∧ cs.2 + 24 + 24 * n ≤ 7293034; omega) hc
                exact g9
              · replace h := ite_t c h
                refine go_aload_n 67 rfl 3 rfl rfl ?_
                refine go_iconst 0 68 rfl (by decide) ?_
                obtain ⟨c, h⟩ := ck_inv h
                refine go_laload 69 rfl (by first | decide | exact ok0 (by omega) | exact ok1 (by omega) | exact ok2 (by omega) | exact ok7 (by omega)) (inb_vp c) ?_
                refine go_iload 70 rfl 6 rfl ?_
                refine go_i2l 71 rfl ?_
                refine go_lcmp 72 rfl ?_
                refine go_if_eq 185 73 rfl (by decide) (fun c => ?_) (fun c => ?_)
                · replace h := ite_t c h
                  refine go_goto 994 76 rfl (by decide) ?_
                  refine go_iinc 6 607 rfl 4 rfl (by decide) (Nat.le_of_ble_eq_true rfl) [(0, _), (1, _), (2, _), (3, _), (4, _), (5, _), (6, _)] rfl ?_
                  refine go_goto 23 608 rfl (by decide) ?_
                  cases h
                  refine go_sub [0, 1, 2, 3, 4] rfl ?_
                  refine go_widen (cs.1 + 4, cs.2 + 24) (by show cs.1 + 2 ≤ cs.1 + 4 ∧ cs.2 + 12 ≤ cs.2 + 24; omega) (by show cs.1 + 4 ≤ 601024 ∧ cs.2 + 24 ≤ 7293034; omega) ?_
                  have g9 := ih _ (cs.1 + 4, cs.2 + 24) (by show cs.1 + 4 + 4 * n ≤ 601024 ∧ cs.2 + 24 + 24 * n ≤ 7293034; omega) hc
                  exact g9
                · replace h := ite_f c h
                  refine go_iconst 0 74 rfl (by decide) ?_
                  cases h
                  exact absurd (lpq_r hc) (by decide)
            · replace h := ite_f c h
              refine go_iconst 0 63 rfl (by decide) ?_
              cases h
              exact absurd (lpq_r hc) (by decide)
        · replace h := ite_f c h
          refine go_iconst 1 36 rfl (by decide) ?_
          refine go_goto 125 37 rfl (by decide) ?_
          refine go_aload_n 39 rfl 3 rfl rfl ?_
          obtain ⟨r6, c, h⟩ := bd_inv h
          refine go_callW (n := 4) _ 40 rfl (e_L_state (by omega) c) mk_L_state wb_134 wb_135 (by decide +kernel) rfl ⟨(Nat.le_of_ble_eq_true rfl), (Nat.le_of_ble_eq_true rfl)⟩ (by show cs.1 + 2 ≤ 601024 ∧ cs.2 + 12 ≤ 7293034; omega) (Nat.le_of_ble_eq_true rfl) rfl (cs.1 + 2, cs.2 + 12) rfl ?_
          refine go_istore 41 rfl (Nat.le_of_ble_eq_true rfl) [(0, _), (1, _), (2, _), (3, _), (4, _), (5, _)] rfl ?_
          refine go_aload_n 42 rfl 2 rfl rfl ?_
          refine go_aload_n 43 rfl 0 rfl rfl ?_
          refine go_iload 44 rfl 4 rfl ?_
          refine go_iconst 1 45 rfl (by decide) ?_
          refine go_iadd 46 rfl ?_
          obtain ⟨c, h⟩ := ck_inv h
          refine go_sload 47 rfl (inb_vp c) ?_
          refine go_aload_n 48 rfl 0 rfl rfl ?_
          refine go_iload 49 rfl 4 rfl ?_
          refine go_iconst 2 50 rfl (by decide) ?_
          refine go_iadd 51 rfl ?_
          obtain ⟨c, h⟩ := ck_inv h
          refine go_sload 52 rfl (inb_vp c) ?_
          refine go_if_eq 151 53 rfl (by decide) (fun c => ?_) (fun c => ?_)
          · replace h := ite_t c h
            refine go_iconst 0 56 rfl (by decide) ?_
            obtain ⟨r7, c, h⟩ := bd_inv h
            refine go_callV1 _ 57 rfl (e_M_state c) mk_M_state (by first | decide | exact ok0 (by omega) | exact ok1 (by omega) | exact ok2 (by omega) | exact ok7 (by omega)) rfl cv_L_68 rfl ⟨(Nat.le_of_ble_eq_true rfl), (Nat.le_of_ble_eq_true rfl)⟩ (Nat.le_of_ble_eq_true rfl) rfl ?_
            refine go_istore 58 rfl (Nat.le_of_ble_eq_true rfl) [(0, _), (1, _), (2, _), (3, _), (4, _), (5, _), (6, _)] rfl ?_
            refine go_aload_n 59 rfl 2 rfl rfl ?_
            obtain ⟨r8, c, h⟩ := bd_inv h
            refine go_callV1 _ 60 rfl (e_M_thrown c) mk_M_thrown (by first | decide | exact ok0 (by omega) | exact ok1 (by omega) | exact ok2 (by omega) | exact ok7 (by omega)) rfl cv_L_69 rfl ⟨(Nat.le_of_ble_eq_true rfl), (Nat.le_of_ble_eq_true rfl)⟩ (Nat.le_of_ble_eq_true rfl) rfl ?_
            refine go_iload 61 rfl 5 rfl ?_
            refine go_icmp_eq 168 62 rfl (by decide) (fun c => ?_) (fun c => ?_)
            · replace h := ite_t c h
              refine go_iload 65 rfl 5 rfl ?_
              refine go_if_ne 185 66 rfl (by decide) (fun c => ?_) (fun c => ?_)
              · replace h := ite_f c h
                refine go_goto 994 76 rfl (by decide) ?_
                refine go_iinc 6 607 rfl 4 rfl (by decide) (Nat.le_of_ble_eq_true rfl) [(0, _), (1, _), (2, _), (3, _), (4, _), (5, _), (6, _)] rfl ?_
                refine go_goto 23 608 rfl (by decide) ?_
                cases h
                refine go_sub [0, 1, 2, 3, 4] rfl ?_
                refine go_widen (cs.1 + 4, cs.2 + 24) (by show cs.1 + 2 ≤ cs.1 + 4 ∧ cs.2 + 12 ≤ cs.2 + 24; omega) (by show cs.1 + 4 ≤ 601024 ∧ cs.2 + 24 ≤ 7293034; omega) ?_
                have g9 := ih _ (cs.1 + 4, cs.2 + 24) (by show cs.1 + 4 + 4 * n ≤ 601024 ∧ cs.2 + 24 + 24 * n ≤ 7293034; omega) hc
                exact g9
              · replace h := ite_t c h
                refine go_aload_n 67 rfl 3 rfl rfl ?_
                refine go_iconst 0 68 rfl (by decide) ?_
                obtain ⟨c, h⟩ := ck_inv h
                refine go_laload 69 rfl (by first | decide | exact ok0 (by omega) | exact ok1 (by omega) | exact ok2 (by omega) | exact ok7 (by omega)) (inb_vp c) ?_
                refine go_iload 70 rfl 6 rfl ?_
                refine go_i2l 71 rfl ?_
                refine go_lcmp 72 rfl ?_
                refine go_if_eq 185 73 rfl (by decide) (fun c => ?_) (fun c => ?_)
                · replace h := ite_t c h
                  refine go_goto 994 76 rfl (by decide) ?_
                  refine go_iinc 6 607 rfl 4 rfl (by decide) (Nat.le_of_ble_eq_true rfl) [(0, _), (1, _), (2, _), (3, _), (4, _), (5, _), (6, _)] rfl ?_
                  refine go_goto 23 608 rfl (by decide) ?_
                  cases h
                  refine go_sub [0, 1, 2, 3, 4] rfl ?_
                  refine go_widen (cs.1 + 4, cs.2 + 24) (by show cs.1 + 2 ≤ cs.1 + 4 ∧ cs.2 + 12 ≤ cs.2 + 24; omega) (by show cs.1 + 4 ≤ 601024 ∧ cs.2 + 24 ≤ 7293034; omega) ?_
                  have g9 := ih _ (cs.1 + 4, cs.2 + 24) (by show cs.1 + 4 + 4 * n ≤ 601024 ∧ cs.2 + 24 + 24 * n ≤ 7293034; omega) hc
                  exact g9
                · replace h := ite_f c h
                  refine go_iconst 0 74 rfl (by decide) ?_
                  cases h
                  exact absurd (lpq_r hc) (by decide)
            · replace h := ite_f c h
              refine go_iconst 0 63 rfl (by decide) ?_
              cases h
              exact absurd (lpq_r hc) (by decide)
          · replace h := ite_f c h
            refine go_iconst 1 54 rfl (by decide) ?_
            refine go_goto 152 55 rfl (by decide) ?_
            obtain ⟨r9, c, h⟩ := bd_inv h
            refine go_callV1 _ 57 rfl (e_M_state c) mk_M_state (by first | decide | exact ok0 (by omega) | exact ok1 (by omega) | exact ok2 (by omega) | exact ok7 (by omega)) rfl cv_L_68 rfl ⟨(Nat.le_of_ble_eq_true rfl), (Nat.le_of_ble_eq_true rfl)⟩ (Nat.le_of_ble_eq_true rfl) rfl ?_
            refine go_istore 58 rfl (Nat.le_of_ble_eq_true rfl) [(0, _), (1, _), (2, _), (3, _), (4, _), (5, _), (6, _)] rfl ?_
            refine go_aload_n 59 rfl 2 rfl rfl ?_
            obtain ⟨r10, c, h⟩ := bd_inv h
            refine go_callV1 _ 60 rfl (e_M_thrown c) mk_M_thrown (by first | decide | exact ok0 (by omega) | exact ok1 (by omega) | exact ok2 (by omega) | exact ok7 (by omega)) rfl cv_L_69 rfl ⟨(Nat.le_of_ble_eq_true rfl), (Nat.le_of_ble_eq_true rfl)⟩ (Nat.le_of_ble_eq_true rfl) rfl ?_
            refine go_iload 61 rfl 5 rfl ?_
            refine go_icmp_eq 168 62 rfl (by decide) (fun c => ?_) (fun c => ?_)
            · replace h := ite_t c h
              refine go_iload 65 rfl 5 rfl ?_
              refine go_if_ne 185 66 rfl (by decide) (fun c => ?_) (fun c => ?_)
              · replace h := ite_f c h
                refine go_goto 994 76 rfl (by decide) ?_
                refine go_iinc 6 607 rfl 4 rfl (by decide) (Nat.le_of_ble_eq_true rfl) [(0, _), (1, _), (2, _), (3, _), (4, _), (5, _), (6, _)] rfl ?_
                refine go_goto 23 608 rfl (by decide) ?_
                cases h
                refine go_sub [0, 1, 2, 3, 4] rfl ?_
                refine go_widen (cs.1 + 4, cs.2 + 24) (by show cs.1 + 2 ≤ cs.1 + 4 ∧ cs.2 + 12 ≤ cs.2 + 24; omega) (by show cs.1 + 4 ≤ 601024 ∧ cs.2 + 24 ≤ 7293034; omega) ?_
                have g9 := ih _ (cs.1 + 4, cs.2 + 24) (by show cs.1 + 4 + 4 * n ≤ 601024 ∧ cs.2 + 24 + 24 * n ≤ 7293034; omega) hc
                exact g9
              · replace h := ite_t c h
                refine go_aload_n 67 rfl 3 rfl rfl ?_
                refine go_iconst 0 68 rfl (by decide) ?_
                obtain ⟨c, h⟩ := ck_inv h
                refine go_laload 69 rfl (by first | decide | exact ok0 (by omega) | exact ok1 (by omega) | exact ok2 (by omega) | exact ok7 (by omega)) (inb_vp c) ?_
                refine go_iload 70 rfl 6 rfl ?_
                refine go_i2l 71 rfl ?_
                refine go_lcmp 72 rfl ?_
                refine go_if_eq 185 73 rfl (by decide) (fun c => ?_) (fun c => ?_)
                · replace h := ite_t c h
                  refine go_goto 994 76 rfl (by decide) ?_
                  refine go_iinc 6 607 rfl 4 rfl (by decide) (Nat.le_of_ble_eq_true rfl) [(0, _), (1, _), (2, _), (3, _), (4, _), (5, _), (6, _)] rfl ?_
                  refine go_goto 23 608 rfl (by decide) ?_
                  cases h
                  refine go_sub [0, 1, 2, 3, 4] rfl ?_
                  refine go_widen (cs.1 + 4, cs.2 + 24) (by show cs.1 + 2 ≤ cs.1 + 4 ∧ cs.2 + 12 ≤ cs.2 + 24; omega) (by show cs.1 + 4 ≤ 601024 ∧ cs.2 + 24 ≤ 7293034; omega) ?_
                  have g9 := ih _ (cs.1 + 4, cs.2 + 24) (by show cs.1 + 4 + 4 * n ≤ 601024 ∧ cs.2 + 24 + 24 * n ≤ 7293034; omega) hc
                  exact g9
                · replace h := ite_f c h
                  refine go_iconst 0 74 rfl (by decide) ?_
                  cases h
                  exact absurd (lpq_r hc) (by decide)
            · replace h := ite_f c h
              refine go_iconst 0 63 rfl (by decide) ?_
              cases h
              exact absurd (lpq_r hc) (by decide)
      · replace h := ite_f ck0 h
        by_cases ck1 : ((xs s.1.toNatClampNeg) &&& (15 : Int32)) = 1
        · replace h := ite_t ck1 h
          refine go_swIn 1 188 ds_law (by rw [ck1]; decide) (by decide) rfl (by decide) ?_
          refine go_aload_n 77 rfl 1 rfl rfl ?_
          refine go_aload_n 78 rfl 0 rfl rfl ?_
          refine go_iload 79 rfl 4 rfl ?_
          refine go_iconst 1 80 rfl (by decide) ?_
          refine go_iadd 81 rfl ?_
          obtain ⟨c, h⟩ := ck_inv h
          refine go_sload 82 rfl (inb_vp c) ?_
          refine go_aload_n 83 rfl 0 rfl rfl ?_
          refine go_iload 84 rfl 4 rfl ?_
          refine go_iconst 2 85 rfl (by decide) ?_
          refine go_iadd 86 rfl ?_
          obtain ⟨c, h⟩ := ck_inv h
          refine go_sload 87 rfl (inb_vp c) ?_
          refine go_aload_n 88 rfl 0 rfl rfl ?_
          refine go_iload 89 rfl 4 rfl ?_
          refine go_iconst 3 90 rfl (by decide) ?_
          refine go_iadd 91 rfl ?_
          obtain ⟨c, h⟩ := ck_inv h
          refine go_sload 92 rfl (inb_vp c) ?_
          refine go_aload_n 93 rfl 0 rfl rfl ?_
          refine go_iload 94 rfl 4 rfl ?_
          refine go_iconst 4 95 rfl (by decide) ?_
          refine go_iadd 96 rfl ?_
          obtain ⟨c, h⟩ := ck_inv h
          refine go_sload 97 rfl (inb_vp c) ?_
          refine go_aload_n 98 rfl 3 rfl rfl ?_
          obtain ⟨r11, c, h⟩ := bd_inv h
          refine go_callW (n := 6) _ 99 rfl (e_L_edge (by omega) c) mk_L_edge wb_235 wb_236 (by decide +kernel) rfl ⟨(Nat.le_of_ble_eq_true rfl), (Nat.le_of_ble_eq_true rfl)⟩ (by show cs.1 + 2 ≤ 601024 ∧ cs.2 + 12 ≤ 7293034; omega) (Nat.le_of_ble_eq_true rfl) rfl (cs.1 + 2, cs.2 + 12) rfl ?_
          refine go_istore 100 rfl (Nat.le_of_ble_eq_true rfl) [(0, _), (1, _), (2, _), (3, _), (4, _), (5, _)] rfl ?_
          refine go_aload_n 101 rfl 2 rfl rfl ?_
          refine go_aload_n 102 rfl 0 rfl rfl ?_
          refine go_iload 103 rfl 4 rfl ?_
          refine go_iconst 1 104 rfl (by decide) ?_
          refine go_iadd 105 rfl ?_
          obtain ⟨c, h⟩ := ck_inv h
          refine go_sload 106 rfl (inb_vp c) ?_
          refine go_aload_n 107 rfl 0 rfl rfl ?_
          refine go_iload 108 rfl 4 rfl ?_
          refine go_iconst 2 109 rfl (by decide) ?_
          refine go_iadd 110 rfl ?_
          obtain ⟨c, h⟩ := ck_inv h
          refine go_sload 111 rfl (inb_vp c) ?_
          refine go_aload_n 112 rfl 0 rfl rfl ?_
          refine go_iload 113 rfl 4 rfl ?_
          refine go_iconst 3 114 rfl (by decide) ?_
          refine go_iadd 115 rfl ?_
          obtain ⟨c, h⟩ := ck_inv h
          refine go_sload 116 rfl (inb_vp c) ?_
          refine go_aload_n 117 rfl 0 rfl rfl ?_
          refine go_iload 118 rfl 4 rfl ?_
          refine go_iconst 4 119 rfl (by decide) ?_
          refine go_iadd 120 rfl ?_
          obtain ⟨c, h⟩ := ck_inv h
          refine go_sload 121 rfl (inb_vp c) ?_
          obtain ⟨r12, c, h⟩ := bd_inv h
          refine go_callV1 _ 122 rfl (e_M_edge c) mk_M_edge (by first | decide | exact ok0 (by omega) | exact ok1 (by omega) | exact ok2 (by omega) | exact ok7 (by omega)) rfl cv_L_76 rfl ⟨(Nat.le_of_ble_eq_true rfl), (Nat.le_of_ble_eq_true rfl)⟩ (Nat.le_of_ble_eq_true rfl) rfl ?_
          refine go_istore 123 rfl (Nat.le_of_ble_eq_true rfl) [(0, _), (1, _), (2, _), (3, _), (4, _), (5, _), (6, _)] rfl ?_
          refine go_aload_n 124 rfl 2 rfl rfl ?_
          obtain ⟨r13, c, h⟩ := bd_inv h
          refine go_callV1 _ 125 rfl (e_M_thrown c) mk_M_thrown (by first | decide | exact ok0 (by omega) | exact ok1 (by omega) | exact ok2 (by omega) | exact ok7 (by omega)) rfl cv_L_69 rfl ⟨(Nat.le_of_ble_eq_true rfl), (Nat.le_of_ble_eq_true rfl)⟩ (Nat.le_of_ble_eq_true rfl) rfl ?_
          refine go_iload 126 rfl 5 rfl ?_
          refine go_icmp_eq 260 127 rfl (by decide) (fun c => ?_) (fun c => ?_)
          · replace h := ite_t c h
            refine go_iload 130 rfl 5 rfl ?_
            refine go_if_ne 284 131 rfl (by decide) (fun c => ?_) (fun c => ?_)
            · replace h := ite_f c h
              refine go_goto 994 144 rfl (by decide) ?_
              refine go_iinc 6 607 rfl 4 rfl (by decide) (Nat.le_of_ble_eq_true rfl) [(0, _), (1, _), (2, _), (3, _), (4, _), (5, _), (6, _)] rfl ?_
              refine go_goto 23 608 rfl (by decide) ?_
              cases h
              refine go_sub [0, 1, 2, 3, 4] rfl ?_
              refine go_widen (cs.1 + 4, cs.2 + 24) (by show cs.1 + 2 ≤ cs.1 + 4 ∧ cs.2 + 12 ≤ cs.2 + 24; omega) (by show cs.1 + 4 ≤ 601024 ∧ cs.2 + 24 ≤ 7293034; omega) ?_
              have g9 := ih _ (cs.1 + 4, cs.2 + 24) (by show cs.1 + 4 + 4 * n ≤ 601024 ∧ cs.2 + 24 + 24 * n ≤ 7293034; omega) hc
              exact g9
            · replace h := ite_t c h
              refine go_aload_n 132 rfl 3 rfl rfl ?_
              refine go_iconst 0 133 rfl (by decide) ?_
              obtain ⟨c, h⟩ := ck_inv h
              refine go_laload 134 rfl (by first | decide | exact ok0 (by omega) | exact ok1 (by omega) | exact ok2 (by omega) | exact ok7 (by omega)) (inb_vp c) ?_
              refine go_iload 135 rfl 6 rfl ?_
              refine go_if_eq 277 136 rfl (by decide) (fun c => ?_) (fun c => ?_)
              · replace h := ite_t c h
                refine go_lconst 0 139 rfl (by decide) ?_
                refine go_lcmp 140 rfl ?_
                refine go_if_eq 284 141 rfl (by decide) (fun c => ?_) (fun c => ?_)
                · replace h := ite_t c h
                  refine go_goto 994 144 rfl (by decide) ?_
                  refine go_iinc 6 607 rfl 4 rfl (by decide) (Nat.le_of_ble_eq_true rfl) [(0, _), (1, _), (2, _), (3, _), (4, _), (5, _), (6, _)] rfl ?_
                  refine go_goto 23 608 rfl (by decide) ?_
                  cases h
                  refine go_sub [0, 1, 2, 3, 4] rfl ?_
                  refine go_widen (cs.1 + 4, cs.2 + 24) (by show cs.1 + 2 ≤ cs.1 + 4 ∧ cs.2 + 12 ≤ cs.2 + 24; omega) (by show cs.1 + 4 ≤ 601024 ∧ cs.2 + 24 ≤ 7293034; omega) ?_
                  have g9 := ih _ (cs.1 + 4, cs.2 + 24) (by show cs.1 + 4 + 4 * n ≤ 601024 ∧ cs.2 + 24 + 24 * n ≤ 7293034; omega) hc
                  exact g9
                · replace h := ite_f c h
                  refine go_iconst 0 142 rfl (by decide) ?_
                  cases h
                  exact absurd (lpq_r hc) (by decide)
              · replace h := ite_f c h
                refine go_lconst 1 137 rfl (by decide) ?_
                refine go_goto 278 138 rfl (by decide) ?_
                refine go_lcmp 140 rfl ?_
                refine go_if_eq 284 141 rfl (by decide) (fun c => ?_) (fun c => ?_)
                · replace h := ite_t c h
                  refine go_goto 994 144 rfl (by decide) ?_
                  refine go_iinc 6 607 rfl 4 rfl (by decide) (Nat.le_of_ble_eq_true rfl) [(0, _), (1, _), (2, _), (3, _), (4, _), (5, _), (6, _)] rfl ?_
                  refine go_goto 23 608 rfl (by decide) ?_
                  cases h
                  refine go_sub [0, 1, 2, 3, 4] rfl ?_
                  refine go_widen (cs.1 + 4, cs.2 + 24) (by show cs.1 + 2 ≤ cs.1 + 4 ∧ cs.2 + 12 ≤ cs.2 + 24; omega) (by show cs.1 + 4 ≤ 601024 ∧ cs.2 + 24 ≤ 7293034; omega) ?_
                  have g9 := ih _ (cs.1 + 4, cs.2 + 24) (by show cs.1 + 4 + 4 * n ≤ 601024 ∧ cs.2 + 24 + 24 * n ≤ 7293034; omega) hc
                  exact g9
                · replace h := ite_f c h
                  refine go_iconst 0 142 rfl (by decide) ?_
                  cases h
                  exact absurd (lpq_r hc) (by decide)
          · replace h := ite_f c h
            refine go_iconst 0 128 rfl (by decide) ?_
            cases h
            exact absurd (lpq_r hc) (by decide)
        · replace h := ite_f ck1 h
          by_cases ck2 : ((xs s.1.toNatClampNeg) &&& (15 : Int32)) = 2
          · replace h := ite_t ck2 h
            refine go_swIn 2 287 ds_law (by rw [ck2]; decide) (by decide) rfl (by decide) ?_
            refine go_aload_n 145 rfl 1 rfl rfl ?_
            refine go_aload_n 146 rfl 0 rfl rfl ?_
            refine go_iload 147 rfl 4 rfl ?_
            refine go_iconst 1 148 rfl (by decide) ?_
            refine go_iadd 149 rfl ?_
            obtain ⟨c, h⟩ := ck_inv h
            refine go_sload 150 rfl (inb_vp c) ?_
            obtain ⟨r14, c, h⟩ := bd_inv h
            refine go_callW (n := 2) _ 151 rfl (e_L_clear c) mk_L_clear wb_264 wb_265 (by decide +kernel) rfl ⟨(Nat.le_of_ble_eq_true rfl), (Nat.le_of_ble_eq_true rfl)⟩ (by show cs.1 + 1 ≤ 601024 ∧ cs.2 + 6 ≤ 7293034; omega) (Nat.le_of_ble_eq_true rfl) rfl (cs.1 + 1, cs.2 + 6) rfl ?_
            refine go_istore 152 rfl (Nat.le_of_ble_eq_true rfl) [(0, _), (1, _), (2, _), (3, _), (4, _), (5, _)] rfl ?_
            refine go_aload_n 153 rfl 2 rfl rfl ?_
            refine go_aload_n 154 rfl 0 rfl rfl ?_
            refine go_iload 155 rfl 4 rfl ?_
            refine go_iconst 1 156 rfl (by decide) ?_
            refine go_iadd 157 rfl ?_
            obtain ⟨c, h⟩ := ck_inv h
            refine go_sload 158 rfl (inb_vp c) ?_
            obtain ⟨r15, c, h⟩ := bd_inv h
            refine go_callV1 _ 159 rfl (e_M_clear c) mk_M_clear (by first | decide | exact ok0 (by omega) | exact ok1 (by omega) | exact ok2 (by omega) | exact ok7 (by omega)) rfl cv_L_80 rfl ⟨(Nat.le_of_ble_eq_true rfl), (Nat.le_of_ble_eq_true rfl)⟩ (Nat.le_of_ble_eq_true rfl) rfl ?_
            refine go_aload_n 160 rfl 2 rfl rfl ?_
            obtain ⟨r16, c, h⟩ := bd_inv h
            refine go_callV1 _ 161 rfl (e_M_thrown c) mk_M_thrown (by first | decide | exact ok0 (by omega) | exact ok1 (by omega) | exact ok2 (by omega) | exact ok7 (by omega)) rfl cv_L_69 rfl ⟨(Nat.le_of_ble_eq_true rfl), (Nat.le_of_ble_eq_true rfl)⟩ (Nat.le_of_ble_eq_true rfl) rfl ?_
            refine go_iload 162 rfl 5 rfl ?_
            refine go_icmp_eq 320 163 rfl (by decide) (fun c => ?_) (fun c => ?_)
            · replace h := ite_t c h
              refine go_goto 994 166 rfl (by decide) ?_
              refine go_iinc 6 607 rfl 4 rfl (by decide) (Nat.le_of_ble_eq_true rfl) [(0, _), (1, _), (2, _), (3, _), (4, _), (5, _)] rfl ?_
              refine go_goto 23 608 rfl (by decide) ?_
              cases h
              refine go_sub [0, 1, 2, 3, 4] rfl ?_
              refine go_widen (cs.1 + 4, cs.2 + 24) (by show cs.1 + 1 ≤ cs.1 + 4 ∧ cs.2 + 6 ≤ cs.2 + 24; omega) (by show cs.1 + 4 ≤ 601024 ∧ cs.2 + 24 ≤ 7293034; omega) ?_
              have g9 := ih _ (cs.1 + 4, cs.2 + 24) (by show cs.1 + 4 + 4 * n ≤ 601024 ∧ cs.2 + 24 + 24 * n ≤ 7293034; omega) hc
              exact g9
            · replace h := ite_f c h
              refine go_iconst 0 164 rfl (by decide) ?_
              cases h
              exact absurd (lpq_r hc) (by decide)
          · replace h := ite_f ck2 h
            by_cases ck3 : ((xs s.1.toNatClampNeg) &&& (15 : Int32)) = 3
            · replace h := ite_t ck3 h
              refine go_swIn 3 323 ds_law (by rw [ck3]; decide) (by decide) rfl (by decide) ?_
              refine go_aload_n 167 rfl 1 rfl rfl ?_
              refine go_aload_n 168 rfl 0 rfl rfl ?_
              refine go_iload 169 rfl 4 rfl ?_
              refine go_iconst 1 170 rfl (by decide) ?_
              refine go_iadd 171 rfl ?_
              obtain ⟨c, h⟩ := ck_inv h
              refine go_sload 172 rfl (inb_vp c) ?_
              refine go_aload_n 173 rfl 0 rfl rfl ?_
              refine go_iload 174 rfl 4 rfl ?_
              refine go_iconst 2 175 rfl (by decide) ?_
              refine go_iadd 176 rfl ?_
              obtain ⟨c, h⟩ := ck_inv h
              refine go_sload 177 rfl (inb_vp c) ?_
              refine go_aload_n 178 rfl 0 rfl rfl ?_
              refine go_iload 179 rfl 4 rfl ?_
              refine go_iconst 3 180 rfl (by decide) ?_
              refine go_iadd 181 rfl ?_
              obtain ⟨c, h⟩ := ck_inv h
              refine go_sload 182 rfl (inb_vp c) ?_
              refine go_aload_n 183 rfl 3 rfl rfl ?_
              obtain ⟨r17, c, h⟩ := bd_inv h
              refine go_callW (n := 5) _ 184 rfl (e_L_unite (by omega) c) mk_L_unite wb_278 wb_279 (by decide +kernel) rfl ⟨(Nat.le_of_ble_eq_true rfl), (Nat.le_of_ble_eq_true rfl)⟩ (by show cs.1 + 4 ≤ 601024 ∧ cs.2 + 24 ≤ 7293034; omega) (Nat.le_of_ble_eq_true rfl) rfl (cs.1 + 4, cs.2 + 24) rfl ?_
              refine go_istore 185 rfl (Nat.le_of_ble_eq_true rfl) [(0, _), (1, _), (2, _), (3, _), (4, _), (5, _)] rfl ?_
              refine go_aload_n 186 rfl 2 rfl rfl ?_
              refine go_aload_n 187 rfl 0 rfl rfl ?_
              refine go_iload 188 rfl 4 rfl ?_
              refine go_iconst 1 189 rfl (by decide) ?_
              refine go_iadd 190 rfl ?_
              obtain ⟨c, h⟩ := ck_inv h
              refine go_sload 191 rfl (inb_vp c) ?_
              refine go_aload_n 192 rfl 0 rfl rfl ?_
              refine go_iload 193 rfl 4 rfl ?_
              refine go_iconst 2 194 rfl (by decide) ?_
              refine go_iadd 195 rfl ?_
              obtain ⟨c, h⟩ := ck_inv h
              refine go_sload 196 rfl (inb_vp c) ?_
              refine go_aload_n 197 rfl 0 rfl rfl ?_
              refine go_iload 198 rfl 4 rfl ?_
              refine go_iconst 3 199 rfl (by decide) ?_
              refine go_iadd 200 rfl ?_
              obtain ⟨c, h⟩ := ck_inv h
              refine go_sload 201 rfl (inb_vp c) ?_
              obtain ⟨r18, c, h⟩ := bd_inv h
              refine go_callV1 _ 202 rfl (e_M_unite c) mk_M_unite (by first | decide | exact ok0 (by omega) | exact ok1 (by omega) | exact ok2 (by omega) | exact ok7 (by omega)) rfl cv_L_84 rfl ⟨(Nat.le_of_ble_eq_true rfl), (Nat.le_of_ble_eq_true rfl)⟩ (Nat.le_of_ble_eq_true rfl) rfl ?_
              refine go_istore 203 rfl (Nat.le_of_ble_eq_true rfl) [(0, _), (1, _), (2, _), (3, _), (4, _), (5, _), (6, _)] rfl ?_
              refine go_aload_n 204 rfl 2 rfl rfl ?_
              obtain ⟨r19, c, h⟩ := bd_inv h
              refine go_callV1 _ 205 rfl (e_M_thrown c) mk_M_thrown (by first | decide | exact ok0 (by omega) | exact ok1 (by omega) | exact ok2 (by omega) | exact ok7 (by omega)) rfl cv_L_69 rfl ⟨(Nat.le_of_ble_eq_true rfl), (Nat.le_of_ble_eq_true rfl)⟩ (Nat.le_of_ble_eq_true rfl) rfl ?_
              refine go_iload 206 rfl 5 rfl ?_
              refine go_icmp_eq 383 207 rfl (by decide) (fun c => ?_) (fun c => ?_)
              · replace h := ite_t c h
                refine go_iload 210 rfl 5 rfl ?_
                refine go_if_ne 400 211 rfl (by decide) (fun c => ?_) (fun c => ?_)
                · replace h := ite_f c h
                  refine go_goto 994 221 rfl (by decide) ?_
                  refine go_iinc 6 607 rfl 4 rfl (by decide) (Nat.le_of_ble_eq_true rfl) [(0, _), (1, _), (2, _), (3, _), (4, _), (5, _), (6, _)] rfl ?_
                  refine go_goto 23 608 rfl (by decide) ?_
                  cases h
                  refine go_sub [0, 1, 2, 3, 4] rfl ?_
                  refine go_widen (cs.1 + 4, cs.2 + 24) (by show cs.1 + 4 ≤ cs.1 + 4 ∧ cs.2 + 24 ≤ cs.2 + 24; omega) (by show cs.1 + 4 ≤ 601024 ∧ cs.2 + 24 ≤ 7293034; omega) ?_
                  have g9 := ih _ (cs.1 + 4, cs.2 + 24) (by show cs.1 + 4 + 4 * n ≤ 601024 ∧ cs.2 + 24 + 24 * n ≤ 7293034; omega) hc
                  exact g9
                · replace h := ite_t c h
                  refine go_aload_n 212 rfl 3 rfl rfl ?_
                  refine go_iconst 0 213 rfl (by decide) ?_
                  obtain ⟨c, h⟩ := ck_inv h
                  refine go_laload 214 rfl (by first | decide | exact ok0 (by omega) | exact ok1 (by omega) | exact ok2 (by omega) | exact ok7 (by omega)) (inb_vp c) ?_
                  refine go_iload 215 rfl 6 rfl ?_
                  refine go_i2l 216 rfl ?_
                  refine go_lcmp 217 rfl ?_
                  refine go_if_eq 400 218 rfl (by decide) (fun c => ?_) (fun c => ?_)
                  · replace h := ite_t c h
                    refine go_goto 994 221 rfl (by decide) ?_
                    refine go_iinc 6 607 rfl 4 rfl (by decide) (Nat.le_of_ble_eq_true rfl) [(0, _), (1, _), (2, _), (3, _), (4, _), (5, _), (6, _)] rfl ?_
                    refine go_goto 23 608 rfl (by decide) ?_
                    cases h
                    refine go_sub [0, 1, 2, 3, 4] rfl ?_
                    refine go_widen (cs.1 + 4, cs.2 + 24) (by show cs.1 + 4 ≤ cs.1 + 4 ∧ cs.2 + 24 ≤ cs.2 + 24; omega) (by show cs.1 + 4 ≤ 601024 ∧ cs.2 + 24 ≤ 7293034; omega) ?_
                    have g9 := ih _ (cs.1 + 4, cs.2 + 24) (by show cs.1 + 4 + 4 * n ≤ 601024 ∧ cs.2 + 24 + 24 * n ≤ 7293034; omega) hc
                    exact g9
                  · replace h := ite_f c h
                    refine go_iconst 0 219 rfl (by decide) ?_
                    cases h
                    exact absurd (lpq_r hc) (by decide)
              · replace h := ite_f c h
                refine go_iconst 0 208 rfl (by decide) ?_
                cases h
                exact absurd (lpq_r hc) (by decide)
            · replace h := ite_f ck3 h
              by_cases ck4 : ((xs s.1.toNatClampNeg) &&& (15 : Int32)) = 4
              · replace h := ite_t ck4 h
                refine go_swIn 4 403 ds_law (by rw [ck4]; decide) (by decide) rfl (by decide) ?_
                refine go_aload_n 222 rfl 1 rfl rfl ?_
                refine go_aload_n 223 rfl 0 rfl rfl ?_
                refine go_iload 224 rfl 4 rfl ?_
                refine go_iconst 1 225 rfl (by decide) ?_
                refine go_iadd 226 rfl ?_
                obtain ⟨c, h⟩ := ck_inv h
                refine go_sload 227 rfl (inb_vp c) ?_
                refine go_aload_n 228 rfl 3 rfl rfl ?_
                obtain ⟨r20, c, h⟩ := bd_inv h
                refine go_callW (n := 3) _ 229 rfl (e_L_trim (by omega) c) mk_L_trim wb_301 wb_302 (by decide +kernel) rfl ⟨(Nat.le_of_ble_eq_true rfl), (Nat.le_of_ble_eq_true rfl)⟩ (by show cs.1 + 1 ≤ 601024 ∧ cs.2 + 6 ≤ 7293034; omega) (Nat.le_of_ble_eq_true rfl) rfl (cs.1 + 1, cs.2 + 6) rfl ?_
                refine go_istore 230 rfl (Nat.le_of_ble_eq_true rfl) [(0, _), (1, _), (2, _), (3, _), (4, _), (5, _)] rfl ?_
                refine go_aload_n 231 rfl 2 rfl rfl ?_
                refine go_aload_n 232 rfl 0 rfl rfl ?_
                refine go_iload 233 rfl 4 rfl ?_
                refine go_iconst 1 234 rfl (by decide) ?_
                refine go_iadd 235 rfl ?_
                obtain ⟨c, h⟩ := ck_inv h
                refine go_sload 236 rfl (inb_vp c) ?_
                obtain ⟨r21, c, h⟩ := bd_inv h
                refine go_callV1 _ 237 rfl (e_M_trim c) mk_M_trim (by first | decide | exact ok0 (by omega) | exact ok1 (by omega) | exact ok2 (by omega) | exact ok7 (by omega)) rfl cv_L_88 rfl ⟨(Nat.le_of_ble_eq_true rfl), (Nat.le_of_ble_eq_true rfl)⟩ (Nat.le_of_ble_eq_true rfl) rfl ?_
                refine go_istore 238 rfl (Nat.le_of_ble_eq_true rfl) [(0, _), (1, _), (2, _), (3, _), (4, _), (5, _), (6, _)] rfl ?_
                refine go_aload_n 239 rfl 2 rfl rfl ?_
                obtain ⟨r22, c, h⟩ := bd_inv h
                refine go_callV1 _ 240 rfl (e_M_thrown c) mk_M_thrown (by first | decide | exact ok0 (by omega) | exact ok1 (by omega) | exact ok2 (by omega) | exact ok7 (by omega)) rfl cv_L_69 rfl ⟨(Nat.le_of_ble_eq_true rfl), (Nat.le_of_ble_eq_true rfl)⟩ (Nat.le_of_ble_eq_true rfl) rfl ?_
                refine go_iload 241 rfl 5 rfl ?_
                refine go_icmp_eq 439 242 rfl (by decide) (fun c => ?_) (fun c => ?_)
                · replace h := ite_t c h
                  refine go_iload 245 rfl 5 rfl ?_
                  refine go_if_ne 456 246 rfl (by decide) (fun c => ?_) (fun c => ?_)
                  · replace h := ite_f c h
                    refine go_goto 994 256 rfl (by decide) ?_
                    refine go_iinc 6 607 rfl 4 rfl (by decide) (Nat.le_of_ble_eq_true rfl) [(0, _), (1, _), (2, _), (3, _), (4, _), (5, _), (6, _)] rfl ?_
                    refine go_goto 23 608 rfl (by decide) ?_
                    cases h
                    refine go_sub [0, 1, 2, 3, 4] rfl ?_
                    refine go_widen (cs.1 + 4, cs.2 + 24) (by show cs.1 + 1 ≤ cs.1 + 4 ∧ cs.2 + 6 ≤ cs.2 + 24; omega) (by show cs.1 + 4 ≤ 601024 ∧ cs.2 + 24 ≤ 7293034; omega) ?_
                    have g9 := ih _ (cs.1 + 4, cs.2 + 24) (by show cs.1 + 4 + 4 * n ≤ 601024 ∧ cs.2 + 24 + 24 * n ≤ 7293034; omega) hc
                    exact g9
                  · replace h := ite_t c h
                    refine go_aload_n 247 rfl 3 rfl rfl ?_
                    refine go_iconst 0 248 rfl (by decide) ?_
                    obtain ⟨c, h⟩ := ck_inv h
                    refine go_laload 249 rfl (by first | decide | exact ok0 (by omega) | exact ok1 (by omega) | exact ok2 (by omega) | exact ok7 (by omega)) (inb_vp c) ?_
                    refine go_iload 250 rfl 6 rfl ?_
                    refine go_i2l 251 rfl ?_
                    refine go_lcmp 252 rfl ?_
                    refine go_if_eq 456 253 rfl (by decide) (fun c => ?_) (fun c => ?_)
                    · replace h := ite_t c h
                      refine go_goto 994 256 rfl (by decide) ?_
                      refine go_iinc 6 607 rfl 4 rfl (by decide) (Nat.le_of_ble_eq_true rfl) [(0, _), (1, _), (2, _), (3, _), (4, _), (5, _), (6, _)] rfl ?_
                      refine go_goto 23 608 rfl (by decide) ?_
                      cases h
                      refine go_sub [0, 1, 2, 3, 4] rfl ?_
                      refine go_widen (cs.1 + 4, cs.2 + 24) (by show cs.1 + 1 ≤ cs.1 + 4 ∧ cs.2 + 6 ≤ cs.2 + 24; omega) (by show cs.1 + 4 ≤ 601024 ∧ cs.2 + 24 ≤ 7293034; omega) ?_
                      have g9 := ih _ (cs.1 + 4, cs.2 + 24) (by show cs.1 + 4 + 4 * n ≤ 601024 ∧ cs.2 + 24 + 24 * n ≤ 7293034; omega) hc
                      exact g9
                    · replace h := ite_f c h
                      refine go_iconst 0 254 rfl (by decide) ?_
                      cases h
                      exact absurd (lpq_r hc) (by decide)
                · replace h := ite_f c h
                  refine go_iconst 0 243 rfl (by decide) ?_
                  cases h
                  exact absurd (lpq_r hc) (by decide)
              · replace h := ite_f ck4 h
                by_cases ck5 : ((xs s.1.toNatClampNeg) &&& (15 : Int32)) = 5
                · replace h := ite_t ck5 h
                  refine go_swIn 5 459 ds_law (by rw [ck5]; decide) (by decide) rfl (by decide) ?_
                  refine go_aload_n 257 rfl 1 rfl rfl ?_
                  refine go_aload_n 258 rfl 0 rfl rfl ?_
                  refine go_iload 259 rfl 4 rfl ?_
                  refine go_iconst 1 260 rfl (by decide) ?_
                  refine go_iadd 261 rfl ?_
                  obtain ⟨c, h⟩ := ck_inv h
                  refine go_sload 262 rfl (inb_vp c) ?_
                  refine go_aload_n 263 rfl 3 rfl rfl ?_
                  obtain ⟨r23, c, h⟩ := bd_inv h
                  refine go_callW (n := 3) _ 264 rfl (e_L_empty (by omega) c) mk_L_empty wb_366 wb_367 (by decide +kernel) rfl ⟨(Nat.le_of_ble_eq_true rfl), (Nat.le_of_ble_eq_true rfl)⟩ (by show cs.1 + 1 ≤ 601024 ∧ cs.2 + 6 ≤ 7293034; omega) (Nat.le_of_ble_eq_true rfl) rfl (cs.1 + 1, cs.2 + 6) rfl ?_
                  refine go_istore 265 rfl (Nat.le_of_ble_eq_true rfl) [(0, _), (1, _), (2, _), (3, _), (4, _), (5, _)] rfl ?_
                  refine go_aload_n 266 rfl 2 rfl rfl ?_
                  refine go_aload_n 267 rfl 0 rfl rfl ?_
                  refine go_iload 268 rfl 4 rfl ?_
                  refine go_iconst 1 269 rfl (by decide) ?_
                  refine go_iadd 270 rfl ?_
                  obtain ⟨c, h⟩ := ck_inv h
                  refine go_sload 271 rfl (inb_vp c) ?_
                  obtain ⟨r24, c, h⟩ := bd_inv h
                  refine go_callV1 _ 272 rfl (e_M_empty c) mk_M_empty (by first | decide | exact ok0 (by omega) | exact ok1 (by omega) | exact ok2 (by omega) | exact ok7 (by omega)) rfl cv_L_91 rfl ⟨(Nat.le_of_ble_eq_true rfl), (Nat.le_of_ble_eq_true rfl)⟩ (Nat.le_of_ble_eq_true rfl) rfl ?_
                  refine go_istore 273 rfl (Nat.le_of_ble_eq_true rfl) [(0, _), (1, _), (2, _), (3, _), (4, _), (5, _), (6, _)] rfl ?_
                  refine go_aload_n 274 rfl 2 rfl rfl ?_
                  obtain ⟨r25, c, h⟩ := bd_inv h
                  refine go_callV1 _ 275 rfl (e_M_thrown c) mk_M_thrown (by first | decide | exact ok0 (by omega) | exact ok1 (by omega) | exact ok2 (by omega) | exact ok7 (by omega)) rfl cv_L_69 rfl ⟨(Nat.le_of_ble_eq_true rfl), (Nat.le_of_ble_eq_true rfl)⟩ (Nat.le_of_ble_eq_true rfl) rfl ?_
                  refine go_iload 276 rfl 5 rfl ?_
                  refine go_icmp_eq 495 277 rfl (by decide) (fun c => ?_) (fun c => ?_)
                  · replace h := ite_t c h
                    refine go_iload 280 rfl 5 rfl ?_
                    refine go_if_ne 519 281 rfl (by decide) (fun c => ?_) (fun c => ?_)
                    · replace h := ite_f c h
                      refine go_goto 994 294 rfl (by decide) ?_
                      refine go_iinc 6 607 rfl 4 rfl (by decide) (Nat.le_of_ble_eq_true rfl) [(0, _), (1, _), (2, _), (3, _), (4, _), (5, _), (6, _)] rfl ?_
                      refine go_goto 23 608 rfl (by decide) ?_
                      cases h
                      refine go_sub [0, 1, 2, 3, 4] rfl ?_
                      refine go_widen (cs.1 + 4, cs.2 + 24) (by show cs.1 + 1 ≤ cs.1 + 4 ∧ cs.2 + 6 ≤ cs.2 + 24; omega) (by show cs.1 + 4 ≤ 601024 ∧ cs.2 + 24 ≤ 7293034; omega) ?_
                      have g9 := ih _ (cs.1 + 4, cs.2 + 24) (by show cs.1 + 4 + 4 * n ≤ 601024 ∧ cs.2 + 24 + 24 * n ≤ 7293034; omega) hc
                      exact g9
                    · replace h := ite_t c h
                      refine go_aload_n 282 rfl 3 rfl rfl ?_
                      refine go_iconst 0 283 rfl (by decide) ?_
                      obtain ⟨c, h⟩ := ck_inv h
                      refine go_laload 284 rfl (by first | decide | exact ok0 (by omega) | exact ok1 (by omega) | exact ok2 (by omega) | exact ok7 (by omega)) (inb_vp c) ?_
                      refine go_iload 285 rfl 6 rfl ?_
                      refine go_if_eq 512 286 rfl (by decide) (fun c => ?_) (fun c => ?_)
                      · replace h := ite_t c h
                        refine go_lconst 0 289 rfl (by decide) ?_
                        refine go_lcmp 290 rfl ?_
                        refine go_if_eq 519 291 rfl (by decide) (fun c => ?_) (fun c => ?_)
                        · replace h := ite_t c h
                          refine go_goto 994 294 rfl (by decide) ?_
                          refine go_iinc 6 607 rfl 4 rfl (by decide) (Nat.le_of_ble_eq_true rfl) [(0, _), (1, _), (2, _), (3, _), (4, _), (5, _), (6, _)] rfl ?_
                          refine go_goto 23 608 rfl (by decide) ?_
                          cases h
                          refine go_sub [0, 1, 2, 3, 4] rfl ?_
                          refine go_widen (cs.1 + 4, cs.2 + 24) (by show cs.1 + 1 ≤ cs.1 + 4 ∧ cs.2 + 6 ≤ cs.2 + 24; omega) (by show cs.1 + 4 ≤ 601024 ∧ cs.2 + 24 ≤ 7293034; omega) ?_
                          have g9 := ih _ (cs.1 + 4, cs.2 + 24) (by show cs.1 + 4 + 4 * n ≤ 601024 ∧ cs.2 + 24 + 24 * n ≤ 7293034; omega) hc
                          exact g9
                        · replace h := ite_f c h
                          refine go_iconst 0 292 rfl (by decide) ?_
                          cases h
                          exact absurd (lpq_r hc) (by decide)
                      · replace h := ite_f c h
                        refine go_lconst 1 287 rfl (by decide) ?_
                        refine go_goto 513 288 rfl (by decide) ?_
                        refine go_lcmp 290 rfl ?_
                        refine go_if_eq 519 291 rfl (by decide) (fun c => ?_) (fun c => ?_)
                        · replace h := ite_t c h
                          refine go_goto 994 294 rfl (by decide) ?_
                          refine go_iinc 6 607 rfl 4 rfl (by decide) (Nat.le_of_ble_eq_true rfl) [(0, _), (1, _), (2, _), (3, _), (4, _), (5, _), (6, _)] rfl ?_
                          refine go_goto 23 608 rfl (by decide) ?_
                          cases h
                          refine go_sub [0, 1, 2, 3, 4] rfl ?_
                          refine go_widen (cs.1 + 4, cs.2 + 24) (by show cs.1 + 1 ≤ cs.1 + 4 ∧ cs.2 + 6 ≤ cs.2 + 24; omega) (by show cs.1 + 4 ≤ 601024 ∧ cs.2 + 24 ≤ 7293034; omega) ?_
                          have g9 := ih _ (cs.1 + 4, cs.2 + 24) (by show cs.1 + 4 + 4 * n ≤ 601024 ∧ cs.2 + 24 + 24 * n ≤ 7293034; omega) hc
                          exact g9
                        · replace h := ite_f c h
                          refine go_iconst 0 292 rfl (by decide) ?_
                          cases h
                          exact absurd (lpq_r hc) (by decide)
                  · replace h := ite_f c h
                    refine go_iconst 0 278 rfl (by decide) ?_
                    cases h
                    exact absurd (lpq_r hc) (by decide)
                · replace h := ite_f ck5 h
                  by_cases ck6 : ((xs s.1.toNatClampNeg) &&& (15 : Int32)) = 6
                  · replace h := ite_t ck6 h
                    refine go_swIn 6 522 ds_law (by rw [ck6]; decide) (by decide) rfl (by decide) ?_
                    refine go_aload_n 295 rfl 1 rfl rfl ?_
                    refine go_aload_n 296 rfl 0 rfl rfl ?_
                    refine go_iload 297 rfl 4 rfl ?_
                    refine go_iconst 1 298 rfl (by decide) ?_
                    refine go_iadd 299 rfl ?_
                    obtain ⟨c, h⟩ := ck_inv h
                    refine go_sload 300 rfl (inb_vp c) ?_
                    refine go_aload_n 301 rfl 0 rfl rfl ?_
                    refine go_iload 302 rfl 4 rfl ?_
                    refine go_iconst 2 303 rfl (by decide) ?_
                    refine go_iadd 304 rfl ?_
                    obtain ⟨c, h⟩ := ck_inv h
                    refine go_sload 305 rfl (inb_vp c) ?_
                    refine go_aload_n 306 rfl 0 rfl rfl ?_
                    refine go_iload 307 rfl 4 rfl ?_
                    refine go_iconst 3 308 rfl (by decide) ?_
                    refine go_iadd 309 rfl ?_
                    obtain ⟨c, h⟩ := ck_inv h
                    refine go_sload 310 rfl (inb_vp c) ?_
                    refine go_aload_n 311 rfl 0 rfl rfl ?_
                    refine go_iload 312 rfl 4 rfl ?_
                    refine go_iconst 4 313 rfl (by decide) ?_
                    refine go_iadd 314 rfl ?_
                    obtain ⟨c, h⟩ := ck_inv h
                    refine go_sload 315 rfl (inb_vp c) ?_
                    refine go_aload_n 316 rfl 0 rfl rfl ?_
                    refine go_iload 317 rfl 4 rfl ?_
                    refine go_iconst 5 318 rfl (by decide) ?_
                    refine go_iadd 319 rfl ?_
                    obtain ⟨c, h⟩ := ck_inv h
                    refine go_sload 320 rfl (inb_vp c) ?_
                    refine go_aload_n 321 rfl 3 rfl rfl ?_
                    obtain ⟨r26, c, h⟩ := bd_inv h
                    refine go_callW (n := 7) _ 322 rfl (e_L_takes (by omega) c) mk_L_takes wb_373 wb_374 (by decide +kernel) rfl ⟨(Nat.le_of_ble_eq_true rfl), (Nat.le_of_ble_eq_true rfl)⟩ (by show cs.1 + 2 ≤ 601024 ∧ cs.2 + 12 ≤ 7293034; omega) (Nat.le_of_ble_eq_true rfl) rfl (cs.1 + 2, cs.2 + 12) rfl ?_
                    refine go_istore 323 rfl (Nat.le_of_ble_eq_true rfl) [(0, _), (1, _), (2, _), (3, _), (4, _), (5, _)] rfl ?_
                    refine go_aload_n 324 rfl 2 rfl rfl ?_
                    refine go_aload_n 325 rfl 0 rfl rfl ?_
                    refine go_iload 326 rfl 4 rfl ?_
                    refine go_iconst 1 327 rfl (by decide) ?_
                    refine go_iadd 328 rfl ?_
                    obtain ⟨c, h⟩ := ck_inv h
                    refine go_sload 329 rfl (inb_vp c) ?_
                    refine go_aload_n 330 rfl 0 rfl rfl ?_
                    refine go_iload 331 rfl 4 rfl ?_
                    refine go_iconst 2 332 rfl (by decide) ?_
                    refine go_iadd 333 rfl ?_
                    obtain ⟨c, h⟩ := ck_inv h
                    refine go_sload 334 rfl (inb_vp c) ?_
                    refine go_aload_n 335 rfl 0 rfl rfl ?_
                    refine go_iload 336 rfl 4 rfl ?_
                    refine go_iconst 3 337 rfl (by decide) ?_
                    refine go_iadd 338 rfl ?_
                    obtain ⟨c, h⟩ := ck_inv h
                    refine go_sload 339 rfl (inb_vp c) ?_
                    refine go_aload_n 340 rfl 0 rfl rfl ?_
                    refine go_iload 341 rfl 4 rfl ?_
                    refine go_iconst 4 342 rfl (by decide) ?_
                    refine go_iadd 343 rfl ?_
                    obtain ⟨c, h⟩ := ck_inv h
                    refine go_sload 344 rfl (inb_vp c) ?_
                    refine go_aload_n 345 rfl 0 rfl rfl ?_
                    refine go_iload 346 rfl 4 rfl ?_
                    refine go_iconst 5 347 rfl (by decide) ?_
                    refine go_iadd 348 rfl ?_
                    obtain ⟨c, h⟩ := ck_inv h
                    refine go_sload 349 rfl (inb_vp c) ?_
                    obtain ⟨r27, c, h⟩ := bd_inv h
                    refine go_callV1 _ 350 rfl (e_M_takes c) mk_M_takes (by first | decide | exact ok0 (by omega) | exact ok1 (by omega) | exact ok2 (by omega) | exact ok7 (by omega)) rfl cv_L_95 rfl ⟨(Nat.le_of_ble_eq_true rfl), (Nat.le_of_ble_eq_true rfl)⟩ (Nat.le_of_ble_eq_true rfl) rfl ?_
                    refine go_istore 351 rfl (Nat.le_of_ble_eq_true rfl) [(0, _), (1, _), (2, _), (3, _), (4, _), (5, _), (6, _)] rfl ?_
                    refine go_aload_n 352 rfl 2 rfl rfl ?_
                    obtain ⟨r28, c, h⟩ := bd_inv h
                    refine go_callV1 _ 353 rfl (e_M_thrown c) mk_M_thrown (by first | decide | exact ok0 (by omega) | exact ok1 (by omega) | exact ok2 (by omega) | exact ok7 (by omega)) rfl cv_L_69 rfl ⟨(Nat.le_of_ble_eq_true rfl), (Nat.le_of_ble_eq_true rfl)⟩ (Nat.le_of_ble_eq_true rfl) rfl ?_
                    refine go_iload 354 rfl 5 rfl ?_
                    refine go_icmp_eq 606 355 rfl (by decide) (fun c => ?_) (fun c => ?_)
                    · replace h := ite_t c h
                      refine go_iload 358 rfl 5 rfl ?_
                      refine go_if_ne 630 359 rfl (by decide) (fun c => ?_) (fun c => ?_)
                      · replace h := ite_f c h
                        refine go_goto 994 372 rfl (by decide) ?_
                        refine go_iinc 6 607 rfl 4 rfl (by decide) (Nat.le_of_ble_eq_true rfl) [(0, _), (1, _), (2, _), (3, _), (4, _), (5, _), (6, _)] rfl ?_
                        refine go_goto 23 608 rfl (by decide) ?_
                        cases h
                        refine go_sub [0, 1, 2, 3, 4] rfl ?_
                        refine go_widen (cs.1 + 4, cs.2 + 24) (by show cs.1 + 2 ≤ cs.1 + 4 ∧ cs.2 + 12 ≤ cs.2 + 24; omega) (by show cs.1 + 4 ≤ 601024 ∧ cs.2 + 24 ≤ 7293034; omega) ?_
                        have g9 := ih _ (cs.1 + 4, cs.2 + 24) (by show cs.1 + 4 + 4 * n ≤ 601024 ∧ cs.2 + 24 + 24 * n ≤ 7293034; omega) hc
                        exact g9
                      · replace h := ite_t c h
                        refine go_aload_n 360 rfl 3 rfl rfl ?_
                        refine go_iconst 0 361 rfl (by decide) ?_
                        obtain ⟨c, h⟩ := ck_inv h
                        refine go_laload 362 rfl (by first | decide | exact ok0 (by omega) | exact ok1 (by omega) | exact ok2 (by omega) | exact ok7 (by omega)) (inb_vp c) ?_
                        refine go_iload 363 rfl 6 rfl ?_
                        refine go_if_eq 623 364 rfl (by decide) (fun c => ?_) (fun c => ?_)
                        · replace h := ite_t c h
                          refine go_lconst 0 367 rfl (by decide) ?_
                          refine go_lcmp 368 rfl ?_
                          refine go_if_eq 630 369 rfl (by decide) (fun c => ?_) (fun c => ?_)
                          · replace h := ite_t c h
                            refine go_goto 994 372 rfl (by decide) ?_
                            refine go_iinc 6 607 rfl 4 rfl (by decide) (Nat.le_of_ble_eq_true rfl) [(0, _), (1, _), (2, _), (3, _), (4, _), (5, _), (6, _)] rfl ?_
                            refine go_goto 23 608 rfl (by decide) ?_
                            cases h
                            refine go_sub [0, 1, 2, 3, 4] rfl ?_
                            refine go_widen (cs.1 + 4, cs.2 + 24) (by show cs.1 + 2 ≤ cs.1 + 4 ∧ cs.2 + 12 ≤ cs.2 + 24; omega) (by show cs.1 + 4 ≤ 601024 ∧ cs.2 + 24 ≤ 7293034; omega) ?_
                            have g9 := ih _ (cs.1 + 4, cs.2 + 24) (by show cs.1 + 4 + 4 * n ≤ 601024 ∧ cs.2 + 24 + 24 * n ≤ 7293034; omega) hc
                            exact g9
                          · replace h := ite_f c h
                            refine go_iconst 0 370 rfl (by decide) ?_
                            cases h
                            exact absurd (lpq_r hc) (by decide)
                        · replace h := ite_f c h
                          refine go_lconst 1 365 rfl (by decide) ?_
                          refine go_goto 624 366 rfl (by decide) ?_
                          refine go_lcmp 368 rfl ?_
                          refine go_if_eq 630 369 rfl (by decide) (fun c => ?_) (fun c => ?_)
                          · replace h := ite_t c h
                            refine go_goto 994 372 rfl (by decide) ?_
                            refine go_iinc 6 607 rfl 4 rfl (by decide) (Nat.le_of_ble_eq_true rfl) [(0, _), (1, _), (2, _), (3, _), (4, _), (5, _), (6, _)] rfl ?_
                            refine go_goto 23 608 rfl (by decide) ?_
                            cases h
                            refine go_sub [0, 1, 2, 3, 4] rfl ?_
                            refine go_widen (cs.1 + 4, cs.2 + 24) (by show cs.1 + 2 ≤ cs.1 + 4 ∧ cs.2 + 12 ≤ cs.2 + 24; omega) (by show cs.1 + 4 ≤ 601024 ∧ cs.2 + 24 ≤ 7293034; omega) ?_
                            have g9 := ih _ (cs.1 + 4, cs.2 + 24) (by show cs.1 + 4 + 4 * n ≤ 601024 ∧ cs.2 + 24 + 24 * n ≤ 7293034; omega) hc
                            exact g9
                          · replace h := ite_f c h
                            refine go_iconst 0 370 rfl (by decide) ?_
                            cases h
                            exact absurd (lpq_r hc) (by decide)
                    · replace h := ite_f c h
                      refine go_iconst 0 356 rfl (by decide) ?_
                      cases h
                      exact absurd (lpq_r hc) (by decide)
                  · replace h := ite_f ck6 h
                    by_cases ck7 : ((xs s.1.toNatClampNeg) &&& (15 : Int32)) = 7
                    · replace h := ite_t ck7 h
                      refine go_swIn 7 633 ds_law (by rw [ck7]; decide) (by decide) rfl (by decide) ?_
                      refine go_aload_n 373 rfl 1 rfl rfl ?_
                      refine go_aload_n 374 rfl 0 rfl rfl ?_
                      refine go_iload 375 rfl 4 rfl ?_
                      refine go_iconst 1 376 rfl (by decide) ?_
                      refine go_iadd 377 rfl ?_
                      obtain ⟨c, h⟩ := ck_inv h
                      refine go_sload 378 rfl (inb_vp c) ?_
                      refine go_aload_n 379 rfl 0 rfl rfl ?_
                      refine go_iload 380 rfl 4 rfl ?_
                      refine go_iconst 2 381 rfl (by decide) ?_
                      refine go_iadd 382 rfl ?_
                      obtain ⟨c, h⟩ := ck_inv h
                      refine go_sload 383 rfl (inb_vp c) ?_
                      refine go_aload_n 384 rfl 3 rfl rfl ?_
                      obtain ⟨r29, c, h⟩ := bd_inv h
                      refine go_callW (n := 4) _ 385 rfl (e_L_included (by omega) c) mk_L_included wb_391 wb_392 (by decide +kernel) rfl ⟨(Nat.le_of_ble_eq_true rfl), (Nat.le_of_ble_eq_true rfl)⟩ (by show cs.1 + 3 ≤ 601024 ∧ cs.2 + 18 ≤ 7293034; omega) (Nat.le_of_ble_eq_true rfl) rfl (cs.1 + 3, cs.2 + 18) rfl ?_
                      refine go_istore 386 rfl (Nat.le_of_ble_eq_true rfl) [(0, _), (1, _), (2, _), (3, _), (4, _), (5, _)] rfl ?_
                      refine go_aload_n 387 rfl 2 rfl rfl ?_
                      refine go_aload_n 388 rfl 0 rfl rfl ?_
                      refine go_iload 389 rfl 4 rfl ?_
                      refine go_iconst 1 390 rfl (by decide) ?_
                      refine go_iadd 391 rfl ?_
                      obtain ⟨c, h⟩ := ck_inv h
                      refine go_sload 392 rfl (inb_vp c) ?_
                      refine go_aload_n 393 rfl 0 rfl rfl ?_
                      refine go_iload 394 rfl 4 rfl ?_
                      refine go_iconst 2 395 rfl (by decide) ?_
                      refine go_iadd 396 rfl ?_
                      obtain ⟨c, h⟩ := ck_inv h
                      refine go_sload 397 rfl (inb_vp c) ?_
                      obtain ⟨r30, c, h⟩ := bd_inv h
                      refine go_callV1 _ 398 rfl (e_M_included c) mk_M_included (by first | decide | exact ok0 (by omega) | exact ok1 (by omega) | exact ok2 (by omega) | exact ok7 (by omega)) rfl cv_L_99 rfl ⟨(Nat.le_of_ble_eq_true rfl), (Nat.le_of_ble_eq_true rfl)⟩ (Nat.le_of_ble_eq_true rfl) rfl ?_
                      refine go_istore 399 rfl (Nat.le_of_ble_eq_true rfl) [(0, _), (1, _), (2, _), (3, _), (4, _), (5, _), (6, _)] rfl ?_
                      refine go_aload_n 400 rfl 2 rfl rfl ?_
                      obtain ⟨r31, c, h⟩ := bd_inv h
                      refine go_callV1 _ 401 rfl (e_M_thrown c) mk_M_thrown (by first | decide | exact ok0 (by omega) | exact ok1 (by omega) | exact ok2 (by omega) | exact ok7 (by omega)) rfl cv_L_69 rfl ⟨(Nat.le_of_ble_eq_true rfl), (Nat.le_of_ble_eq_true rfl)⟩ (Nat.le_of_ble_eq_true rfl) rfl ?_
                      refine go_iload 402 rfl 5 rfl ?_
                      refine go_icmp_eq 681 403 rfl (by decide) (fun c => ?_) (fun c => ?_)
                      · replace h := ite_t c h
                        refine go_iload 406 rfl 5 rfl ?_
                        refine go_if_ne 705 407 rfl (by decide) (fun c => ?_) (fun c => ?_)
                        · replace h := ite_f c h
                          refine go_goto 994 420 rfl (by decide) ?_
                          refine go_iinc 6 607 rfl 4 rfl (by decide) (Nat.le_of_ble_eq_true rfl) [(0, _), (1, _), (2, _), (3, _), (4, _), (5, _), (6, _)] rfl ?_
                          refine go_goto 23 608 rfl (by decide) ?_
                          cases h
                          refine go_sub [0, 1, 2, 3, 4] rfl ?_
                          refine go_widen (cs.1 + 4, cs.2 + 24) (by show cs.1 + 3 ≤ cs.1 + 4 ∧ cs.2 + 18 ≤ cs.2 + 24; omega) (by show cs.1 + 4 ≤ 601024 ∧ cs.2 + 24 ≤ 7293034; omega) ?_
                          have g9 := ih _ (cs.1 + 4, cs.2 + 24) (by show cs.1 + 4 + 4 * n ≤ 601024 ∧ cs.2 + 24 + 24 * n ≤ 7293034; omega) hc
                          exact g9
                        · replace h := ite_t c h
                          refine go_aload_n 408 rfl 3 rfl rfl ?_
                          refine go_iconst 0 409 rfl (by decide) ?_
                          obtain ⟨c, h⟩ := ck_inv h
                          refine go_laload 410 rfl (by first | decide | exact ok0 (by omega) | exact ok1 (by omega) | exact ok2 (by omega) | exact ok7 (by omega)) (inb_vp c) ?_
                          refine go_iload 411 rfl 6 rfl ?_
                          refine go_if_eq 698 412 rfl (by decide) (fun c => ?_) (fun c => ?_)
                          · replace h := ite_t c h
                            refine go_lconst 0 415 rfl (by decide) ?_
                            refine go_lcmp 416 rfl ?_
                            refine go_if_eq 705 417 rfl (by decide) (fun c => ?_) (fun c => ?_)
                            · replace h := ite_t c h
                              refine go_goto 994 420 rfl (by decide) ?_
                              refine go_iinc 6 607 rfl 4 rfl (by decide) (Nat.le_of_ble_eq_true rfl) [(0, _), (1, _), (2, _), (3, _), (4, _), (5, _), (6, _)] rfl ?_
                              refine go_goto 23 608 rfl (by decide) ?_
                              cases h
                              refine go_sub [0, 1, 2, 3, 4] rfl ?_
                              refine go_widen (cs.1 + 4, cs.2 + 24) (by show cs.1 + 3 ≤ cs.1 + 4 ∧ cs.2 + 18 ≤ cs.2 + 24; omega) (by show cs.1 + 4 ≤ 601024 ∧ cs.2 + 24 ≤ 7293034; omega) ?_
                              have g9 := ih _ (cs.1 + 4, cs.2 + 24) (by show cs.1 + 4 + 4 * n ≤ 601024 ∧ cs.2 + 24 + 24 * n ≤ 7293034; omega) hc
                              exact g9
                            · replace h := ite_f c h
                              refine go_iconst 0 418 rfl (by decide) ?_
                              cases h
                              exact absurd (lpq_r hc) (by decide)
                          · replace h := ite_f c h
                            refine go_lconst 1 413 rfl (by decide) ?_
                            refine go_goto 699 414 rfl (by decide) ?_
                            refine go_lcmp 416 rfl ?_
                            refine go_if_eq 705 417 rfl (by decide) (fun c => ?_) (fun c => ?_)
                            · replace h := ite_t c h
                              refine go_goto 994 420 rfl (by decide) ?_
                              refine go_iinc 6 607 rfl 4 rfl (by decide) (Nat.le_of_ble_eq_true rfl) [(0, _), (1, _), (2, _), (3, _), (4, _), (5, _), (6, _)] rfl ?_
                              refine go_goto 23 608 rfl (by decide) ?_
                              cases h
                              refine go_sub [0, 1, 2, 3, 4] rfl ?_
                              refine go_widen (cs.1 + 4, cs.2 + 24) (by show cs.1 + 3 ≤ cs.1 + 4 ∧ cs.2 + 18 ≤ cs.2 + 24; omega) (by show cs.1 + 4 ≤ 601024 ∧ cs.2 + 24 ≤ 7293034; omega) ?_
                              have g9 := ih _ (cs.1 + 4, cs.2 + 24) (by show cs.1 + 4 + 4 * n ≤ 601024 ∧ cs.2 + 24 + 24 * n ≤ 7293034; omega) hc
                              exact g9
                            · replace h := ite_f c h
                              refine go_iconst 0 418 rfl (by decide) ?_
                              cases h
                              exact absurd (lpq_r hc) (by decide)
                      · replace h := ite_f c h
                        refine go_iconst 0 404 rfl (by decide) ?_
                        cases h
                        exact absurd (lpq_r hc) (by decide)
                    · replace h := ite_f ck7 h
                      by_cases ck8 : ((xs s.1.toNatClampNeg) &&& (15 : Int32)) = 8
                      · replace h := ite_t ck8 h
                        refine go_swIn 8 708 ds_law (by rw [ck8]; decide) (by decide) rfl (by decide) ?_
                        refine go_aload_n 421 rfl 1 rfl rfl ?_
                        refine go_aload_n 422 rfl 0 rfl rfl ?_
                        refine go_iload 423 rfl 4 rfl ?_
                        refine go_iconst 1 424 rfl (by decide) ?_
                        refine go_iadd 425 rfl ?_
                        obtain ⟨c, h⟩ := ck_inv h
                        refine go_sload 426 rfl (inb_vp c) ?_
                        refine go_aload_n 427 rfl 3 rfl rfl ?_
                        obtain ⟨r32, c, h⟩ := bd_inv h
                        refine go_callW (n := 3) _ 428 rfl (e_L_witness (by omega) c) mk_L_witness wb_472 wb_473 (by decide +kernel) rfl ⟨(Nat.le_of_ble_eq_true rfl), (Nat.le_of_ble_eq_true rfl)⟩ (by show cs.1 + 1 ≤ 601024 ∧ cs.2 + 6 ≤ 7293034; omega) (Nat.le_of_ble_eq_true rfl) rfl (cs.1 + 1, cs.2 + 6) rfl ?_
                        refine go_istore 429 rfl (Nat.le_of_ble_eq_true rfl) [(0, _), (1, _), (2, _), (3, _), (4, _), (5, _)] rfl ?_
                        refine go_aload_n 430 rfl 2 rfl rfl ?_
                        refine go_aload_n 431 rfl 0 rfl rfl ?_
                        refine go_iload 432 rfl 4 rfl ?_
                        refine go_iconst 1 433 rfl (by decide) ?_
                        refine go_iadd 434 rfl ?_
                        obtain ⟨c, h⟩ := ck_inv h
                        refine go_sload 435 rfl (inb_vp c) ?_
                        obtain ⟨r33, c, h⟩ := bd_inv h
                        refine go_callV1 _ 436 rfl (e_M_witness c) mk_M_witness (by first | decide | exact ok0 (by omega) | exact ok1 (by omega) | exact ok2 (by omega) | exact ok7 (by omega)) rfl cv_L_102 rfl ⟨(Nat.le_of_ble_eq_true rfl), (Nat.le_of_ble_eq_true rfl)⟩ (Nat.le_of_ble_eq_true rfl) rfl ?_
                        refine go_istore 437 rfl (Nat.le_of_ble_eq_true rfl) [(0, _), (1, _), (2, _), (3, _), (4, _), (5, _), (6, _)] rfl ?_
                        refine go_aload_n 438 rfl 2 rfl rfl ?_
                        obtain ⟨r34, c, h⟩ := bd_inv h
                        refine go_callV1 _ 439 rfl (e_M_thrown c) mk_M_thrown (by first | decide | exact ok0 (by omega) | exact ok1 (by omega) | exact ok2 (by omega) | exact ok7 (by omega)) rfl cv_L_69 rfl ⟨(Nat.le_of_ble_eq_true rfl), (Nat.le_of_ble_eq_true rfl)⟩ (Nat.le_of_ble_eq_true rfl) rfl ?_
                        refine go_iload 440 rfl 5 rfl ?_
                        refine go_icmp_eq 744 441 rfl (by decide) (fun c => ?_) (fun c => ?_)
                        · replace h := ite_t c h
                          refine go_iload 444 rfl 5 rfl ?_
                          refine go_if_ne 761 445 rfl (by decide) (fun c => ?_) (fun c => ?_)
                          · replace h := ite_f c h
                            refine go_goto 994 455 rfl (by decide) ?_
                            refine go_iinc 6 607 rfl 4 rfl (by decide) (Nat.le_of_ble_eq_true rfl) [(0, _), (1, _), (2, _), (3, _), (4, _), (5, _), (6, _)] rfl ?_
                            refine go_goto 23 608 rfl (by decide) ?_
                            cases h
                            refine go_sub [0, 1, 2, 3, 4] rfl ?_
                            refine go_widen (cs.1 + 4, cs.2 + 24) (by show cs.1 + 1 ≤ cs.1 + 4 ∧ cs.2 + 6 ≤ cs.2 + 24; omega) (by show cs.1 + 4 ≤ 601024 ∧ cs.2 + 24 ≤ 7293034; omega) ?_
                            have g9 := ih _ (cs.1 + 4, cs.2 + 24) (by show cs.1 + 4 + 4 * n ≤ 601024 ∧ cs.2 + 24 + 24 * n ≤ 7293034; omega) hc
                            exact g9
                          · replace h := ite_t c h
                            refine go_aload_n 446 rfl 3 rfl rfl ?_
                            refine go_iconst 0 447 rfl (by decide) ?_
                            obtain ⟨c, h⟩ := ck_inv h
                            refine go_laload 448 rfl (by first | decide | exact ok0 (by omega) | exact ok1 (by omega) | exact ok2 (by omega) | exact ok7 (by omega)) (inb_vp c) ?_
                            refine go_iload 449 rfl 6 rfl ?_
                            refine go_i2l 450 rfl ?_
                            refine go_lcmp 451 rfl ?_
                            refine go_if_eq 761 452 rfl (by decide) (fun c => ?_) (fun c => ?_)
                            · replace h := ite_t c h
                              refine go_goto 994 455 rfl (by decide) ?_
                              refine go_iinc 6 607 rfl 4 rfl (by decide) (Nat.le_of_ble_eq_true rfl) [(0, _), (1, _), (2, _), (3, _), (4, _), (5, _), (6, _)] rfl ?_
                              refine go_goto 23 608 rfl (by decide) ?_
                              cases h
                              refine go_sub [0, 1, 2, 3, 4] rfl ?_
                              refine go_widen (cs.1 + 4, cs.2 + 24) (by show cs.1 + 1 ≤ cs.1 + 4 ∧ cs.2 + 6 ≤ cs.2 + 24; omega) (by show cs.1 + 4 ≤ 601024 ∧ cs.2 + 24 ≤ 7293034; omega) ?_
                              have g9 := ih _ (cs.1 + 4, cs.2 + 24) (by show cs.1 + 4 + 4 * n ≤ 601024 ∧ cs.2 + 24 + 24 * n ≤ 7293034; omega) hc
                              exact g9
                            · replace h := ite_f c h
                              refine go_iconst 0 453 rfl (by decide) ?_
                              cases h
                              exact absurd (lpq_r hc) (by decide)
                        · replace h := ite_f c h
                          refine go_iconst 0 442 rfl (by decide) ?_
                          cases h
                          exact absurd (lpq_r hc) (by decide)
                      · replace h := ite_f ck8 h
                        by_cases ck9 : ((xs s.1.toNatClampNeg) &&& (15 : Int32)) = 9
                        · replace h := ite_t ck9 h
                          refine go_swIn 9 764 ds_law (by rw [ck9]; decide) (by decide) rfl (by decide) ?_
                          refine go_aload_n 456 rfl 1 rfl rfl ?_
                          refine go_aload_n 457 rfl 0 rfl rfl ?_
                          refine go_iload 458 rfl 4 rfl ?_
                          refine go_iconst 1 459 rfl (by decide) ?_
                          refine go_iadd 460 rfl ?_
                          obtain ⟨c, h⟩ := ck_inv h
                          refine go_sload 461 rfl (inb_vp c) ?_
                          refine go_aload_n 462 rfl 3 rfl rfl ?_
                          obtain ⟨r35, c, h⟩ := bd_inv h
                          refine go_callW (n := 3) _ 463 rfl (e_L_states (by omega) c) mk_L_states wb_497 wb_498 (by decide +kernel) rfl ⟨(Nat.le_of_ble_eq_true rfl), (Nat.le_of_ble_eq_true rfl)⟩ (by show cs.1 + 1 ≤ 601024 ∧ cs.2 + 6 ≤ 7293034; omega) (Nat.le_of_ble_eq_true rfl) rfl (cs.1 + 1, cs.2 + 6) rfl ?_
                          refine go_istore 464 rfl (Nat.le_of_ble_eq_true rfl) [(0, _), (1, _), (2, _), (3, _), (4, _), (5, _)] rfl ?_
                          refine go_aload_n 465 rfl 2 rfl rfl ?_
                          refine go_aload_n 466 rfl 0 rfl rfl ?_
                          refine go_iload 467 rfl 4 rfl ?_
                          refine go_iconst 1 468 rfl (by decide) ?_
                          refine go_iadd 469 rfl ?_
                          obtain ⟨c, h⟩ := ck_inv h
                          refine go_sload 470 rfl (inb_vp c) ?_
                          obtain ⟨r36, c, h⟩ := bd_inv h
                          refine go_callV1 _ 471 rfl (e_M_states c) mk_M_states (by first | decide | exact ok0 (by omega) | exact ok1 (by omega) | exact ok2 (by omega) | exact ok7 (by omega)) rfl cv_L_105 rfl ⟨(Nat.le_of_ble_eq_true rfl), (Nat.le_of_ble_eq_true rfl)⟩ (Nat.le_of_ble_eq_true rfl) rfl ?_
                          refine go_istore 472 rfl (Nat.le_of_ble_eq_true rfl) [(0, _), (1, _), (2, _), (3, _), (4, _), (5, _), (6, _)] rfl ?_
                          refine go_aload_n 473 rfl 2 rfl rfl ?_
                          obtain ⟨r37, c, h⟩ := bd_inv h
                          refine go_callV1 _ 474 rfl (e_M_thrown c) mk_M_thrown (by first | decide | exact ok0 (by omega) | exact ok1 (by omega) | exact ok2 (by omega) | exact ok7 (by omega)) rfl cv_L_69 rfl ⟨(Nat.le_of_ble_eq_true rfl), (Nat.le_of_ble_eq_true rfl)⟩ (Nat.le_of_ble_eq_true rfl) rfl ?_
                          refine go_iload 475 rfl 5 rfl ?_
                          refine go_icmp_eq 800 476 rfl (by decide) (fun c => ?_) (fun c => ?_)
                          · replace h := ite_t c h
                            refine go_iload 479 rfl 5 rfl ?_
                            refine go_if_ne 817 480 rfl (by decide) (fun c => ?_) (fun c => ?_)
                            · replace h := ite_f c h
                              refine go_goto 994 490 rfl (by decide) ?_
                              refine go_iinc 6 607 rfl 4 rfl (by decide) (Nat.le_of_ble_eq_true rfl) [(0, _), (1, _), (2, _), (3, _), (4, _), (5, _), (6, _)] rfl ?_
                              refine go_goto 23 608 rfl (by decide) ?_
                              cases h
                              refine go_sub [0, 1, 2, 3, 4] rfl ?_
                              refine go_widen (cs.1 + 4, cs.2 + 24) (by show cs.1 + 1 ≤ cs.1 + 4 ∧ cs.2 + 6 ≤ cs.2 + 24; omega) (by show cs.1 + 4 ≤ 601024 ∧ cs.2 + 24 ≤ 7293034; omega) ?_
                              have g9 := ih _ (cs.1 + 4, cs.2 + 24) (by show cs.1 + 4 + 4 * n ≤ 601024 ∧ cs.2 + 24 + 24 * n ≤ 7293034; omega) hc
                              exact g9
                            · replace h := ite_t c h
                              refine go_aload_n 481 rfl 3 rfl rfl ?_
                              refine go_iconst 0 482 rfl (by decide) ?_
                              obtain ⟨c, h⟩ := ck_inv h
                              refine go_laload 483 rfl (by first | decide | exact ok0 (by omega) | exact ok1 (by omega) | exact ok2 (by omega) | exact ok7 (by omega)) (inb_vp c) ?_
                              refine go_iload 484 rfl 6 rfl ?_
                              refine go_i2l 485 rfl ?_
                              refine go_lcmp 486 rfl ?_
                              refine go_if_eq 817 487 rfl (by decide) (fun c => ?_) (fun c => ?_)
                              · replace h := ite_t c h
                                refine go_goto 994 490 rfl (by decide) ?_
                                refine go_iinc 6 607 rfl 4 rfl (by decide) (Nat.le_of_ble_eq_true rfl) [(0, _), (1, _), (2, _), (3, _), (4, _), (5, _), (6, _)] rfl ?_
                                refine go_goto 23 608 rfl (by decide) ?_
                                cases h
                                refine go_sub [0, 1, 2, 3, 4] rfl ?_
                                refine go_widen (cs.1 + 4, cs.2 + 24) (by show cs.1 + 1 ≤ cs.1 + 4 ∧ cs.2 + 6 ≤ cs.2 + 24; omega) (by show cs.1 + 4 ≤ 601024 ∧ cs.2 + 24 ≤ 7293034; omega) ?_
                                have g9 := ih _ (cs.1 + 4, cs.2 + 24) (by show cs.1 + 4 + 4 * n ≤ 601024 ∧ cs.2 + 24 + 24 * n ≤ 7293034; omega) hc
                                exact g9
                              · replace h := ite_f c h
                                refine go_iconst 0 488 rfl (by decide) ?_
                                cases h
                                exact absurd (lpq_r hc) (by decide)
                          · replace h := ite_f c h
                            refine go_iconst 0 477 rfl (by decide) ?_
                            cases h
                            exact absurd (lpq_r hc) (by decide)
                        · replace h := ite_f ck9 h
                          by_cases ck10 : ((xs s.1.toNatClampNeg) &&& (15 : Int32)) = 10
                          · replace h := ite_t ck10 h
                            refine go_swIn 10 820 ds_law (by rw [ck10]; decide) (by decide) rfl (by decide) ?_
                            refine go_aload_n 491 rfl 1 rfl rfl ?_
                            refine go_aload_n 492 rfl 0 rfl rfl ?_
                            refine go_iload 493 rfl 4 rfl ?_
                            refine go_iconst 1 494 rfl (by decide) ?_
                            refine go_iadd 495 rfl ?_
                            obtain ⟨c, h⟩ := ck_inv h
                            refine go_sload 496 rfl (inb_vp c) ?_
                            refine go_aload_n 497 rfl 0 rfl rfl ?_
                            refine go_iload 498 rfl 4 rfl ?_
                            refine go_iconst 2 499 rfl (by decide) ?_
                            refine go_iadd 500 rfl ?_
                            obtain ⟨c, h⟩ := ck_inv h
                            refine go_sload 501 rfl (inb_vp c) ?_
                            refine go_aload_n 502 rfl 3 rfl rfl ?_
                            obtain ⟨r38, c, h⟩ := bd_inv h
                            refine go_callW (n := 4) _ 503 rfl (e_L_good (by omega) c) mk_L_good wb_504 wb_505 (by decide +kernel) rfl ⟨(Nat.le_of_ble_eq_true rfl), (Nat.le_of_ble_eq_true rfl)⟩ (by show cs.1 + 2 ≤ 601024 ∧ cs.2 + 12 ≤ 7293034; omega) (Nat.le_of_ble_eq_true rfl) rfl (cs.1 + 2, cs.2 + 12) rfl ?_
                            refine go_istore 504 rfl (Nat.le_of_ble_eq_true rfl) [(0, _), (1, _), (2, _), (3, _), (4, _), (5, _)] rfl ?_
                            refine go_aload_n 505 rfl 2 rfl rfl ?_
                            refine go_aload_n 506 rfl 0 rfl rfl ?_
                            refine go_iload 507 rfl 4 rfl ?_
                            refine go_iconst 1 508 rfl (by decide) ?_
                            refine go_iadd 509 rfl ?_
                            obtain ⟨c, h⟩ := ck_inv h
                            refine go_sload 510 rfl (inb_vp c) ?_
                            refine go_aload_n 511 rfl 0 rfl rfl ?_
                            refine go_iload 512 rfl 4 rfl ?_
                            refine go_iconst 2 513 rfl (by decide) ?_
                            refine go_iadd 514 rfl ?_
                            obtain ⟨c, h⟩ := ck_inv h
                            refine go_sload 515 rfl (inb_vp c) ?_
                            obtain ⟨r39, c, h⟩ := bd_inv h
                            refine go_callV1 _ 516 rfl (e_M_good c) mk_M_good (by first | decide | exact ok0 (by omega) | exact ok1 (by omega) | exact ok2 (by omega) | exact ok7 (by omega)) rfl cv_L_108 rfl ⟨(Nat.le_of_ble_eq_true rfl), (Nat.le_of_ble_eq_true rfl)⟩ (Nat.le_of_ble_eq_true rfl) rfl ?_
                            refine go_istore 517 rfl (Nat.le_of_ble_eq_true rfl) [(0, _), (1, _), (2, _), (3, _), (4, _), (5, _), (6, _)] rfl ?_
                            refine go_aload_n 518 rfl 2 rfl rfl ?_
                            obtain ⟨r40, c, h⟩ := bd_inv h
                            refine go_callV1 _ 519 rfl (e_M_thrown c) mk_M_thrown (by first | decide | exact ok0 (by omega) | exact ok1 (by omega) | exact ok2 (by omega) | exact ok7 (by omega)) rfl cv_L_69 rfl ⟨(Nat.le_of_ble_eq_true rfl), (Nat.le_of_ble_eq_true rfl)⟩ (Nat.le_of_ble_eq_true rfl) rfl ?_
                            refine go_iload 520 rfl 5 rfl ?_
                            refine go_icmp_eq 868 521 rfl (by decide) (fun c => ?_) (fun c => ?_)
                            · replace h := ite_t c h
                              refine go_iload 524 rfl 5 rfl ?_
                              refine go_if_ne 892 525 rfl (by decide) (fun c => ?_) (fun c => ?_)
                              · replace h := ite_f c h
                                refine go_goto 994 538 rfl (by decide) ?_
                                refine go_iinc 6 607 rfl 4 rfl (by decide) (Nat.le_of_ble_eq_true rfl) [(0, _), (1, _), (2, _), (3, _), (4, _), (5, _), (6, _)] rfl ?_
                                refine go_goto 23 608 rfl (by decide) ?_
                                cases h
                                refine go_sub [0, 1, 2, 3, 4] rfl ?_
                                refine go_widen (cs.1 + 4, cs.2 + 24) (by show cs.1 + 2 ≤ cs.1 + 4 ∧ cs.2 + 12 ≤ cs.2 + 24; omega) (by show cs.1 + 4 ≤ 601024 ∧ cs.2 + 24 ≤ 7293034; omega) ?_
                                have g9 := ih _ (cs.1 + 4, cs.2 + 24) (by show cs.1 + 4 + 4 * n ≤ 601024 ∧ cs.2 + 24 + 24 * n ≤ 7293034; omega) hc
                                exact g9
                              · replace h := ite_t c h
                                refine go_aload_n 526 rfl 3 rfl rfl ?_
                                refine go_iconst 0 527 rfl (by decide) ?_
                                obtain ⟨c, h⟩ := ck_inv h
                                refine go_laload 528 rfl (by first | decide | exact ok0 (by omega) | exact ok1 (by omega) | exact ok2 (by omega) | exact ok7 (by omega)) (inb_vp c) ?_
                                refine go_iload 529 rfl 6 rfl ?_
                                refine go_if_eq 885 530 rfl (by decide) (fun c => ?_) (fun c => ?_)
                                · replace h := ite_t c h
                                  refine go_lconst 0 533 rfl (by decide) ?_
                                  refine go_lcmp 534 rfl ?_
                                  refine go_if_eq 892 535 rfl (by decide) (fun c => ?_) (fun c => ?_)
                                  · replace h := ite_t c h
                                    refine go_goto 994 538 rfl (by decide) ?_
                                    refine go_iinc 6 607 rfl 4 rfl (by decide) (Nat.le_of_ble_eq_true rfl) [(0, _), (1, _), (2, _), (3, _), (4, _), (5, _), (6, _)] rfl ?_
                                    refine go_goto 23 608 rfl (by decide) ?_
                                    cases h
                                    refine go_sub [0, 1, 2, 3, 4] rfl ?_
                                    refine go_widen (cs.1 + 4, cs.2 + 24) (by show cs.1 + 2 ≤ cs.1 + 4 ∧ cs.2 + 12 ≤ cs.2 + 24; omega) (by show cs.1 + 4 ≤ 601024 ∧ cs.2 + 24 ≤ 7293034; omega) ?_
                                    have g9 := ih _ (cs.1 + 4, cs.2 + 24) (by show cs.1 + 4 + 4 * n ≤ 601024 ∧ cs.2 + 24 + 24 * n ≤ 7293034; omega) hc
                                    exact g9
                                  · replace h := ite_f c h
                                    refine go_iconst 0 536 rfl (by decide) ?_
                                    cases h
                                    exact absurd (lpq_r hc) (by decide)
                                · replace h := ite_f c h
                                  refine go_lconst 1 531 rfl (by decide) ?_
                                  refine go_goto 886 532 rfl (by decide) ?_
                                  refine go_lcmp 534 rfl ?_
                                  refine go_if_eq 892 535 rfl (by decide) (fun c => ?_) (fun c => ?_)
                                  · replace h := ite_t c h
                                    refine go_goto 994 538 rfl (by decide) ?_
                                    refine go_iinc 6 607 rfl 4 rfl (by decide) (Nat.le_of_ble_eq_true rfl) [(0, _), (1, _), (2, _), (3, _), (4, _), (5, _), (6, _)] rfl ?_
                                    refine go_goto 23 608 rfl (by decide) ?_
                                    cases h
                                    refine go_sub [0, 1, 2, 3, 4] rfl ?_
                                    refine go_widen (cs.1 + 4, cs.2 + 24) (by show cs.1 + 2 ≤ cs.1 + 4 ∧ cs.2 + 12 ≤ cs.2 + 24; omega) (by show cs.1 + 4 ≤ 601024 ∧ cs.2 + 24 ≤ 7293034; omega) ?_
                                    have g9 := ih _ (cs.1 + 4, cs.2 + 24) (by show cs.1 + 4 + 4 * n ≤ 601024 ∧ cs.2 + 24 + 24 * n ≤ 7293034; omega) hc
                                    exact g9
                                  · replace h := ite_f c h
                                    refine go_iconst 0 536 rfl (by decide) ?_
                                    cases h
                                    exact absurd (lpq_r hc) (by decide)
                            · replace h := ite_f c h
                              refine go_iconst 0 522 rfl (by decide) ?_
                              cases h
                              exact absurd (lpq_r hc) (by decide)
                          · replace h := ite_f ck10 h
                            by_cases ck11 : ((xs s.1.toNatClampNeg) &&& (15 : Int32)) = 11
                            · replace h := ite_t ck11 h
                              refine go_swIn 11 895 ds_law (by rw [ck11]; decide) (by decide) rfl (by decide) ?_
                              refine go_aload_n 539 rfl 1 rfl rfl ?_
                              refine go_aload_n 540 rfl 0 rfl rfl ?_
                              refine go_iload 541 rfl 4 rfl ?_
                              refine go_iconst 1 542 rfl (by decide) ?_
                              refine go_iadd 543 rfl ?_
                              obtain ⟨c, h⟩ := ck_inv h
                              refine go_sload 544 rfl (inb_vp c) ?_
                              refine go_aload_n 545 rfl 0 rfl rfl ?_
                              refine go_iload 546 rfl 4 rfl ?_
                              refine go_iconst 2 547 rfl (by decide) ?_
                              refine go_iadd 548 rfl ?_
                              obtain ⟨c, h⟩ := ck_inv h
                              refine go_sload 549 rfl (inb_vp c) ?_
                              refine go_aload_n 550 rfl 0 rfl rfl ?_
                              refine go_iload 551 rfl 4 rfl ?_
                              refine go_iconst 3 552 rfl (by decide) ?_
                              refine go_iadd 553 rfl ?_
                              obtain ⟨c, h⟩ := ck_inv h
                              refine go_sload 554 rfl (inb_vp c) ?_
                              refine go_aload_n 555 rfl 0 rfl rfl ?_
                              refine go_iload 556 rfl 4 rfl ?_
                              refine go_iconst 4 557 rfl (by decide) ?_
                              refine go_iadd 558 rfl ?_
                              obtain ⟨c, h⟩ := ck_inv h
                              refine go_sload 559 rfl (inb_vp c) ?_
                              refine go_aload_n 560 rfl 3 rfl rfl ?_
                              obtain ⟨r41, c, h⟩ := bd_inv h
                              refine go_callW (n := 6) _ 561 rfl (e_L_has (by omega) c) mk_L_has wb_512 wb_513 (by decide +kernel) rfl ⟨(Nat.le_of_ble_eq_true rfl), (Nat.le_of_ble_eq_true rfl)⟩ (by show cs.1 + 2 ≤ 601024 ∧ cs.2 + 12 ≤ 7293034; omega) (Nat.le_of_ble_eq_true rfl) rfl (cs.1 + 2, cs.2 + 12) rfl ?_
                              refine go_istore 562 rfl (Nat.le_of_ble_eq_true rfl) [(0, _), (1, _), (2, _), (3, _), (4, _), (5, _)] rfl ?_
                              refine go_aload_n 563 rfl 2 rfl rfl ?_
                              refine go_aload_n 564 rfl 0 rfl rfl ?_
                              refine go_iload 565 rfl 4 rfl ?_
                              refine go_iconst 1 566 rfl (by decide) ?_
                              refine go_iadd 567 rfl ?_
                              obtain ⟨c, h⟩ := ck_inv h
                              refine go_sload 568 rfl (inb_vp c) ?_
                              refine go_aload_n 569 rfl 0 rfl rfl ?_
                              refine go_iload 570 rfl 4 rfl ?_
                              refine go_iconst 2 571 rfl (by decide) ?_
                              refine go_iadd 572 rfl ?_
                              obtain ⟨c, h⟩ := ck_inv h
                              refine go_sload 573 rfl (inb_vp c) ?_
                              refine go_aload_n 574 rfl 0 rfl rfl ?_
                              refine go_iload 575 rfl 4 rfl ?_
                              refine go_iconst 3 576 rfl (by decide) ?_
                              refine go_iadd 577 rfl ?_
                              obtain ⟨c, h⟩ := ck_inv h
                              refine go_sload 578 rfl (inb_vp c) ?_
                              refine go_aload_n 579 rfl 0 rfl rfl ?_
                              refine go_iload 580 rfl 4 rfl ?_
                              refine go_iconst 4 581 rfl (by decide) ?_
                              refine go_iadd 582 rfl ?_
                              obtain ⟨c, h⟩ := ck_inv h
                              refine go_sload 583 rfl (inb_vp c) ?_
                              obtain ⟨r42, c, h⟩ := bd_inv h
                              refine go_callV1 _ 584 rfl (e_M_has c) mk_M_has (by first | decide | exact ok0 (by omega) | exact ok1 (by omega) | exact ok2 (by omega) | exact ok7 (by omega)) rfl cv_L_111 rfl ⟨(Nat.le_of_ble_eq_true rfl), (Nat.le_of_ble_eq_true rfl)⟩ (Nat.le_of_ble_eq_true rfl) rfl ?_
                              refine go_istore 585 rfl (Nat.le_of_ble_eq_true rfl) [(0, _), (1, _), (2, _), (3, _), (4, _), (5, _), (6, _)] rfl ?_
                              refine go_aload_n 586 rfl 2 rfl rfl ?_
                              obtain ⟨r43, c, h⟩ := bd_inv h
                              refine go_callV1 _ 587 rfl (e_M_thrown c) mk_M_thrown (by first | decide | exact ok0 (by omega) | exact ok1 (by omega) | exact ok2 (by omega) | exact ok7 (by omega)) rfl cv_L_69 rfl ⟨(Nat.le_of_ble_eq_true rfl), (Nat.le_of_ble_eq_true rfl)⟩ (Nat.le_of_ble_eq_true rfl) rfl ?_
                              refine go_iload 588 rfl 5 rfl ?_
                              refine go_icmp_eq 967 589 rfl (by decide) (fun c => ?_) (fun c => ?_)
                              · replace h := ite_t c h
                                refine go_iload 592 rfl 5 rfl ?_
                                refine go_if_ne 991 593 rfl (by decide) (fun c => ?_) (fun c => ?_)
                                · replace h := ite_f c h
                                  refine go_goto 994 606 rfl (by decide) ?_
                                  refine go_iinc 6 607 rfl 4 rfl (by decide) (Nat.le_of_ble_eq_true rfl) [(0, _), (1, _), (2, _), (3, _), (4, _), (5, _), (6, _)] rfl ?_
                                  refine go_goto 23 608 rfl (by decide) ?_
                                  cases h
                                  refine go_sub [0, 1, 2, 3, 4] rfl ?_
                                  refine go_widen (cs.1 + 4, cs.2 + 24) (by show cs.1 + 2 ≤ cs.1 + 4 ∧ cs.2 + 12 ≤ cs.2 + 24; omega) (by show cs.1 + 4 ≤ 601024 ∧ cs.2 + 24 ≤ 7293034; omega) ?_
                                  have g9 := ih _ (cs.1 + 4, cs.2 + 24) (by show cs.1 + 4 + 4 * n ≤ 601024 ∧ cs.2 + 24 + 24 * n ≤ 7293034; omega) hc
                                  exact g9
                                · replace h := ite_t c h
                                  refine go_aload_n 594 rfl 3 rfl rfl ?_
                                  refine go_iconst 0 595 rfl (by decide) ?_
                                  obtain ⟨c, h⟩ := ck_inv h
                                  refine go_laload 596 rfl (by first | decide | exact ok0 (by omega) | exact ok1 (by omega) | exact ok2 (by omega) | exact ok7 (by omega)) (inb_vp c) ?_
                                  refine go_iload 597 rfl 6 rfl ?_
                                  refine go_if_eq 984 598 rfl (by decide) (fun c => ?_) (fun c => ?_)
                                  · replace h := ite_t c h
                                    refine go_lconst 0 601 rfl (by decide) ?_
                                    refine go_lcmp 602 rfl ?_
                                    refine go_if_eq 991 603 rfl (by decide) (fun c => ?_) (fun c => ?_)
                                    · replace h := ite_t c h
                                      refine go_goto 994 606 rfl (by decide) ?_
                                      refine go_iinc 6 607 rfl 4 rfl (by decide) (Nat.le_of_ble_eq_true rfl) [(0, _), (1, _), (2, _), (3, _), (4, _), (5, _), (6, _)] rfl ?_
                                      refine go_goto 23 608 rfl (by decide) ?_
                                      cases h
                                      refine go_sub [0, 1, 2, 3, 4] rfl ?_
                                      refine go_widen (cs.1 + 4, cs.2 + 24) (by show cs.1 + 2 ≤ cs.1 + 4 ∧ cs.2 + 12 ≤ cs.2 + 24; omega) (by show cs.1 + 4 ≤ 601024 ∧ cs.2 + 24 ≤ 7293034; omega) ?_
                                      have g9 := ih _ (cs.1 + 4, cs.2 + 24) (by show cs.1 + 4 + 4 * n ≤ 601024 ∧ cs.2 + 24 + 24 * n ≤ 7293034; omega) hc
                                      exact g9
                                    · replace h := ite_f c h
                                      refine go_iconst 0 604 rfl (by decide) ?_
                                      cases h
                                      exact absurd (lpq_r hc) (by decide)
                                  · replace h := ite_f c h
                                    refine go_lconst 1 599 rfl (by decide) ?_
                                    refine go_goto 985 600 rfl (by decide) ?_
                                    refine go_lcmp 602 rfl ?_
                                    refine go_if_eq 991 603 rfl (by decide) (fun c => ?_) (fun c => ?_)
                                    · replace h := ite_t c h
                                      refine go_goto 994 606 rfl (by decide) ?_
                                      refine go_iinc 6 607 rfl 4 rfl (by decide) (Nat.le_of_ble_eq_true rfl) [(0, _), (1, _), (2, _), (3, _), (4, _), (5, _), (6, _)] rfl ?_
                                      refine go_goto 23 608 rfl (by decide) ?_
                                      cases h
                                      refine go_sub [0, 1, 2, 3, 4] rfl ?_
                                      refine go_widen (cs.1 + 4, cs.2 + 24) (by show cs.1 + 2 ≤ cs.1 + 4 ∧ cs.2 + 12 ≤ cs.2 + 24; omega) (by show cs.1 + 4 ≤ 601024 ∧ cs.2 + 24 ≤ 7293034; omega) ?_
                                      have g9 := ih _ (cs.1 + 4, cs.2 + 24) (by show cs.1 + 4 + 4 * n ≤ 601024 ∧ cs.2 + 24 + 24 * n ≤ 7293034; omega) hc
                                      exact g9
                                    · replace h := ite_f c h
                                      refine go_iconst 0 604 rfl (by decide) ?_
                                      cases h
                                      exact absurd (lpq_r hc) (by decide)
                              · replace h := ite_f c h
                                refine go_iconst 0 590 rfl (by decide) ?_
                                cases h
                                exact absurd (lpq_r hc) (by decide)
                            · replace h := ite_f ck11 h
                              refine go_swOut 994 ds_law (by have a0 := lv_neT ck0 (a := 0) (by decide); have a1 := lv_neT ck1 (a := 1) (by decide); have a2 := lv_neT ck2 (a := 2) (by decide); have a3 := lv_neT ck3 (a := 3) (by decide); have a4 := lv_neT ck4 (a := 4) (by decide); have a5 := lv_neT ck5 (a := 5) (by decide); have a6 := lv_neT ck6 (a := 6) (by decide); have a7 := lv_neT ck7 (a := 7) (by decide); have a8 := lv_neT ck8 (a := 8) (by decide); have a9 := lv_neT ck9 (a := 9) (by decide); have a10 := lv_neT ck10 (a := 10) (by decide); have a11 := lv_neT ck11 (a := 11) (by decide); omega) (by decide) ?_
                              refine go_iinc 6 607 rfl 4 rfl (by decide) (Nat.le_of_ble_eq_true rfl) [(0, _), (1, _), (2, _), (3, _), (4, _)] rfl ?_
                              refine go_goto 23 608 rfl (by decide) ?_
                              cases h
                              refine go_widen (cs.1 + 4, cs.2 + 24) (by show cs.1 + 0 ≤ cs.1 + 4 ∧ cs.2 + 0 ≤ cs.2 + 24; omega) (by show cs.1 + 4 ≤ 601024 ∧ cs.2 + 24 ≤ 7293034; omega) ?_
                              have g9 := ih _ (cs.1 + 4, cs.2 + 24) (by show cs.1 + 4 + 4 * n ≤ 601024 ∧ cs.2 + 24 + 24 * n ≤ 7293034; omega) hc
                              exact g9

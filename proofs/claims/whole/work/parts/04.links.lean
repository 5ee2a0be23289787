def ev_stm : List (Nat × Nat) := [(3, 722), (24, 298), (30, 343), (106, 483), (107, 554), (108, 416), (109, 427), (110, 622), (111, 627), (112, 630), (114, 888), (115, 961), (137, 1000), (138, 1064), (139, 1024), (174, 1129), (175, 1126), (198, 1225), (204, 329), (205, 475), (210, 379), (211, 376), (212, 384)]
theorem ev_stm_ok : ev_stm.all (fun e => decide (tables_1[e.2]? = some (Cond.static (ev_y e.1))) && goodWord (Cond.static (ev_y e.1))) = true := by decide +kernel
def ev_inm0 : List (Nat × Nat) := [(0, 190), (1, 715), (2, 732), (4, 163), (5, 641), (6, 647), (7, 663), (8, 667), (9, 651), (10, 655), (11, 216), (12, 753), (13, 765), (14, 761), (15, 773), (16, 106), (17, 282), (18, 287), (19, 310), (20, 314), (21, 295), (22, 306), (23, 302), (25, 336), (26, 409), (27, 420), (28, 340), (29, 355), (31, 25), (32, 290), (33, 434), (34, 438), (35, 458), (36, 317), (37, 450), (38, 325), (39, 321), (40, 786), (41, 727), (42, 492), (43, 430), (44, 423), (45, 500), (46, 507), (47, 519), (48, 531), (49, 535), (50, 462), (51, 467), (52, 471), (53, 695), (54, 487), (55, 608), (56, 618), (57, 569), (58, 574), (59, 578), (60, 582), (61, 590), (62, 586)]
theorem ev_inm0_ok : ev_inm0.all (fun e => decide (tables_1[e.2]? = some (Cond.instanceMethod (ev_y e.1))) && goodWord (Cond.instanceMethod (ev_y e.1))) = true := by decide +kernel
def ev_inm1 : List (Nat × Nat) := [(63, 17), (64, 270), (65, 274), (66, 278), (67, 442), (68, 446), (69, 454), (70, 479), (71, 496), (72, 511), (73, 523), (74, 539), (75, 545), (76, 550), (77, 557), (78, 561), (79, 565), (80, 594), (81, 604), (82, 613), (83, 633), (84, 637), (85, 670), (86, 679), (87, 683), (88, 687), (89, 691), (90, 699), (91, 703), (92, 707), (93, 711), (94, 736), (95, 741), (96, 745), (97, 749), (98, 757), (99, 769), (100, 778), (101, 782), (102, 516), (103, 528), (104, 599), (105, 675), (113, 792), (116, 797), (117, 801), (118, 883), (119, 891), (120, 912), (121, 904), (122, 924), (123, 928), (124, 920), (125, 900), (126, 942), (127, 938), (128, 954), (129, 946), (130, 950), (131, 934)]
theorem ev_inm1_ok : ev_inm1.all (fun e => decide (tables_1[e.2]? = some (Cond.instanceMethod (ev_y e.1))) && goodWord (Cond.instanceMethod (ev_y e.1))) = true := by decide +kernel
def ev_inm2 : List (Nat × Nat) := [(132, 916), (133, 958), (134, 895), (135, 964), (136, 977), (140, 981), (141, 1105), (142, 985), (143, 1097), (144, 1005), (145, 993), (146, 989), (147, 1009), (148, 1117), (149, 1013), (150, 968), (151, 972), (152, 996), (153, 1028), (154, 1036), (155, 1021), (156, 1016), (157, 1031), (158, 1039), (159, 1048), (160, 1043), (161, 1051), (162, 1055), (163, 1060), (164, 1068), (165, 1093), (166, 1089), (167, 1101), (168, 1085), (169, 1081), (170, 1077), (171, 1072), (172, 1108), (173, 1112), (176, 1120), (177, 1137), (178, 1132), (179, 1146), (180, 1150), (181, 1140), (182, 1153), (183, 1158), (184, 1167), (185, 1162), (186, 1170), (187, 1174), (188, 1179), (189, 1183), (190, 1187), (191, 1196), (192, 1200), (193, 1191), (194, 1203), (195, 1214), (196, 1209)]
theorem ev_inm2_ok : ev_inm2.all (fun e => decide (tables_1[e.2]? = some (Cond.instanceMethod (ev_y e.1))) && goodWord (Cond.instanceMethod (ev_y e.1))) = true := by decide +kernel
def ev_inm3 : List (Nat × Nat) := [(197, 1217), (199, 1221), (200, 1229), (201, 1233), (202, 1239), (203, 1243), (206, 358), (207, 368), (208, 362), (209, 372)]
theorem ev_inm3_ok : ev_inm3.all (fun e => decide (tables_1[e.2]? = some (Cond.instanceMethod (ev_y e.1))) && goodWord (Cond.instanceMethod (ev_y e.1))) = true := by decide +kernel
def ev_inm : List (Nat × Nat) := ev_inm0 ++ (ev_inm1 ++ (ev_inm2 ++ (ev_inm3)))
theorem ev_inm_ok : ev_inm.all (fun e => decide (tables_1[e.2]? = some (Cond.instanceMethod (ev_y e.1))) && goodWord (Cond.instanceMethod (ev_y e.1))) = true := by simp only [ev_inm, List.all_append, ev_inm0_ok, ev_inm1_ok, ev_inm2_ok, ev_inm3_ok, Bool.and_self]
def ev_sel0 : List (Nat × Nat) := [(1, 716), (5, 642), (12, 754), (13, 766), (14, 762), (15, 774), (17, 283), (32, 291), (33, 435), (34, 439), (35, 459), (36, 318), (37, 451), (38, 326), (39, 322), (40, 787), (41, 728), (42, 493), (43, 431), (44, 424), (45, 501), (46, 508), (47, 520), (48, 532), (49, 536), (50, 463), (51, 468), (52, 472), (53, 696), (54, 488), (55, 609), (56, 619), (57, 570), (58, 575), (59, 579), (60, 583), (61, 591), (62, 587), (64, 271), (65, 275), (66, 279), (67, 443), (68, 447), (69, 455), (70, 480), (71, 497), (72, 512), (73, 524), (74, 540), (75, 546), (76, 551), (77, 558), (78, 562), (79, 566), (80, 595), (81, 605), (82, 614), (83, 634), (84, 638), (85, 671)]
theorem ev_sel0_ok : ev_sel0.all (fun e => decide (tables_1[e.2]? = some (Cond.selects (ev_y e.1).cls (ev_y e.1) (ev_y e.1))) && goodWord (Cond.selects (ev_y e.1).cls (ev_y e.1) (ev_y e.1))) = true := by decide +kernel
def ev_sel1 : List (Nat × Nat) := [(86, 680), (87, 684), (88, 688), (89, 692), (90, 700), (91, 704), (92, 708), (93, 712), (94, 737), (95, 742), (96, 746), (97, 750), (98, 758), (99, 770), (100, 779), (101, 783), (118, 884), (119, 892), (134, 896), (135, 965), (150, 969), (151, 973), (152, 997), (156, 1017), (157, 1032), (158, 1040), (160, 1044), (161, 1052), (162, 1056), (163, 1061), (164, 1069), (171, 1073), (172, 1109), (173, 1113), (176, 1121), (178, 1133), (181, 1141), (182, 1154), (183, 1159), (185, 1163), (186, 1171), (187, 1175), (188, 1180), (189, 1184), (190, 1188), (193, 1192), (194, 1204), (196, 1210), (197, 1218), (199, 1222), (200, 1230), (201, 1234), (202, 1240), (203, 1244), (206, 359), (207, 369), (208, 363), (209, 373)]
theorem ev_sel1_ok : ev_sel1.all (fun e => decide (tables_1[e.2]? = some (Cond.selects (ev_y e.1).cls (ev_y e.1) (ev_y e.1))) && goodWord (Cond.selects (ev_y e.1).cls (ev_y e.1) (ev_y e.1))) = true := by decide +kernel
def ev_sel : List (Nat × Nat) := ev_sel0 ++ (ev_sel1)
theorem ev_sel_ok : ev_sel.all (fun e => decide (tables_1[e.2]? = some (Cond.selects (ev_y e.1).cls (ev_y e.1) (ev_y e.1))) && goodWord (Cond.selects (ev_y e.1).cls (ev_y e.1) (ev_y e.1))) = true := by simp only [ev_sel, List.all_append, ev_sel0_ok, ev_sel1_ok, Bool.and_self]
def ev_selp0 : List (Nat × Nat × Nat) := [(2, 20, 5), (6, 14, 6), (7, 17, 6), (8, 18, 6), (9, 15, 6), (10, 16, 6), (18, 0, 15), (19, 4, 15), (20, 5, 15), (21, 1, 15), (22, 3, 15), (23, 2, 15), (25, 6, 15), (26, 9, 15), (27, 10, 15), (28, 7, 15), (29, 8, 15), (102, 11, 12), (103, 12, 12), (104, 13, 12), (105, 19, 12), (116, 21, 26), (117, 22, 26), (120, 25, 26), (121, 24, 26), (122, 28, 26), (123, 29, 26), (124, 27, 26), (125, 23, 26), (126, 32, 26), (127, 31, 26), (128, 35, 26), (129, 33, 26), (130, 34, 26), (131, 30, 26), (132, 26, 26), (133, 36, 26), (136, 37, 26), (140, 38, 26), (141, 56, 26), (142, 39, 26), (143, 54, 26), (144, 42, 26), (145, 41, 26), (146, 40, 26), (147, 43, 26), (148, 57, 26), (149, 44, 26), (153, 46, 26), (154, 47, 26), (155, 45, 26), (159, 48, 26), (165, 53, 26), (166, 52, 26), (167, 55, 26), (168, 51, 26), (169, 50, 26), (170, 49, 26), (177, 58, 26), (179, 59, 26)]
theorem ev_selp0_ok : ev_selp0.all (fun e => decide (lw_privs[e.2.1]? = some (ev_y e.1, e.2.2)) && goodWord (Cond.selects (ev_y e.1).cls (ev_y e.1) (ev_y e.1))) = true := by decide +kernel
def ev_selp1 : List (Nat × Nat × Nat) := [(180, 60, 26), (184, 61, 26), (191, 62, 26), (192, 63, 26), (195, 64, 26)]
theorem ev_selp1_ok : ev_selp1.all (fun e => decide (lw_privs[e.2.1]? = some (ev_y e.1, e.2.2)) && goodWord (Cond.selects (ev_y e.1).cls (ev_y e.1) (ev_y e.1))) = true := by decide +kernel
def ev_selp : List (Nat × Nat × Nat) := ev_selp0 ++ (ev_selp1)
theorem ev_selp_ok : ev_selp.all (fun e => decide (lw_privs[e.2.1]? = some (ev_y e.1, e.2.2)) && goodWord (Cond.selects (ev_y e.1).cls (ev_y e.1) (ev_y e.1))) = true := by simp only [ev_selp, List.all_append, ev_selp0_ok, ev_selp1_ok, Bool.and_self]
def ev_mlk0 : List (Nat × Nat × Nat × Nat × Nat) := [(0, 0, 18, 36, 718), (0, 0, 33, 33, 719), (0, 0, 37, 37, 720), (1, 0, 41, 3, 721), (0, 0, 45, 41, 726), (0, 0, 48, 2, 730), (0, 0, 52, 34, 724), (0, 0, 55, 58, 725), (0, 1, 33, 6, 645), (0, 1, 42, 9, 649), (0, 1, 46, 7, 661), (0, 1, 55, 8, 665), (0, 1, 59, 10, 653), (0, 1, 70, 52, 659), (1, 1, 80, 204, 660), (1, 1, 85, 205, 657), (0, 2, 22, 14, 776), (0, 3, 15, 18, 285), (0, 3, 19, 21, 293), (0, 3, 27, 20, 312), (0, 3, 30, 25, 334), (0, 3, 47, 32, 289), (0, 3, 74, 36, 316), (0, 3, 78, 19, 308), (0, 3, 82, 39, 320), (1, 3, 92, 24, 297), (0, 3, 96, 23, 300), (0, 3, 100, 22, 304), (0, 3, 106, 28, 338), (0, 3, 115, 26, 407), (0, 3, 118, 27, 418), (0, 3, 138, 44, 422), (0, 3, 142, 43, 429), (1, 3, 146, 30, 342), (0, 3, 150, 29, 353), (0, 3, 154, 206, 357), (0, 3, 158, 207, 367), (0, 4, 55, 34, 437), (0, 4, 59, 38, 324), (1, 4, 63, 204, 328), (0, 4, 76, 35, 503), (0, 4, 83, 39, 505), (0, 4, 86, 51, 466), (0, 4, 90, 52, 470), (0, 4, 93, 37, 477), (1, 4, 96, 205, 474), (0, 4, 101, 50, 490), (0, 4, 104, 54, 611), (0, 4, 107, 36, 572), (0, 4, 111, 59, 577), (0, 4, 114, 61, 589), (0, 4, 117, 60, 581), (0, 4, 120, 62, 585), (0, 5, 63, 17, 281), (0, 5, 76, 33, 433), (0, 5, 98, 37, 449), (0, 5, 102, 35, 457), (0, 5, 122, 50, 461), (1, 5, 125, 106, 482), (0, 5, 128, 38, 485)]
theorem ev_mlk0_ok : ev_mlk0.all (fun e => decide (tables_1[e.2.2.2.2]? = some (Cond.methodLink (ev_cn e.2.1) e.2.2.1 (ev_y e.2.2.2.1))) && goodWord (Cond.methodLink (ev_cn e.2.1) e.2.2.1 (ev_y e.2.2.2.1))) = true := by decide +kernel
def ev_mlk1 : List (Nat × Nat × Nat × Nat × Nat) := [(0, 5, 134, 54, 486), (0, 5, 137, 42, 491), (0, 5, 140, 45, 499), (0, 5, 144, 46, 506), (0, 5, 147, 102, 514), (0, 5, 150, 47, 518), (0, 5, 154, 103, 526), (0, 5, 158, 48, 530), (0, 5, 161, 49, 534), (1, 5, 165, 108, 542), (1, 5, 168, 109, 543), (0, 5, 172, 44, 548), (1, 5, 176, 107, 553), (0, 5, 179, 57, 568), (0, 5, 182, 58, 573), (0, 5, 185, 104, 597), (0, 5, 188, 55, 607), (0, 5, 194, 56, 617), (1, 5, 198, 110, 621), (1, 5, 202, 111, 626), (0, 5, 206, 5, 640), (0, 5, 215, 105, 673), (0, 5, 218, 53, 694), (0, 5, 230, 1, 714), (0, 5, 242, 36, 734), (0, 5, 252, 12, 752), (0, 5, 258, 14, 760), (0, 5, 261, 13, 764), (0, 5, 264, 15, 772), (1, 5, 273, 204, 624), (0, 5, 278, 40, 785), (0, 5, 284, 34, 601), (0, 5, 287, 59, 602), (1, 5, 293, 112, 629), (0, 6, 50, 116, 795), (0, 6, 53, 117, 799), (1, 6, 74, 114, 887), (0, 6, 93, 121, 902), (0, 6, 97, 122, 922), (0, 6, 101, 123, 926), (0, 6, 119, 120, 910), (0, 6, 123, 126, 940), (0, 6, 127, 125, 898), (0, 6, 130, 127, 936), (0, 6, 133, 129, 944), (0, 6, 136, 130, 948), (0, 6, 139, 128, 952), (0, 6, 143, 124, 918), (0, 6, 151, 131, 932), (1, 6, 154, 115, 960), (0, 6, 158, 132, 914), (0, 6, 161, 133, 956), (0, 6, 167, 142, 983), (0, 6, 170, 145, 991), (0, 6, 174, 146, 987), (0, 6, 177, 147, 1007), (0, 6, 180, 136, 975), (0, 6, 183, 140, 979), (1, 6, 186, 137, 999), (0, 6, 189, 144, 1003)]
theorem ev_mlk1_ok : ev_mlk1.all (fun e => decide (tables_1[e.2.2.2.2]? = some (Cond.methodLink (ev_cn e.2.1) e.2.2.1 (ev_y e.2.2.2.1))) && goodWord (Cond.methodLink (ev_cn e.2.1) e.2.2.1 (ev_y e.2.2.2.1))) = true := by decide +kernel
def ev_mlk2 : List (Nat × Nat × Nat × Nat × Nat) := [(0, 6, 192, 149, 1011), (1, 6, 195, 139, 1023), (0, 6, 198, 155, 1019), (0, 6, 201, 153, 1026), (0, 6, 204, 154, 1034), (0, 6, 207, 159, 1046), (1, 6, 213, 138, 1063), (0, 6, 218, 143, 1095), (0, 6, 222, 165, 1091), (0, 6, 225, 166, 1087), (0, 6, 228, 167, 1099), (0, 6, 231, 169, 1079), (0, 6, 234, 170, 1075), (0, 6, 237, 168, 1083), (0, 6, 240, 141, 1103), (0, 6, 243, 148, 1115), (1, 6, 246, 174, 1128), (1, 6, 254, 175, 1125), (0, 6, 258, 177, 1135), (0, 6, 262, 179, 1144), (0, 6, 265, 180, 1148), (0, 6, 268, 173, 1156), (0, 6, 271, 184, 1165), (0, 6, 274, 150, 1177), (0, 6, 277, 191, 1194), (0, 6, 280, 192, 1198), (0, 6, 286, 195, 1212), (1, 6, 292, 198, 1224), (0, 6, 298, 156, 1237), (0, 10, 335, 208, 361), (0, 10, 492, 209, 371), (1, 10, 495, 211, 375), (1, 10, 1059, 212, 383), (1, 11, 9, 210, 378), (3, 7, 9, 63, 16), (3, 7, 12, 113, 791), (0, 7, 13, 64, 269), (0, 7, 17, 118, 882), (0, 7, 18, 65, 273), (0, 7, 21, 119, 890), (0, 7, 22, 66, 277), (0, 7, 26, 134, 894), (0, 7, 27, 67, 441), (0, 7, 30, 135, 963), (0, 7, 31, 68, 445), (0, 7, 34, 150, 967), (0, 7, 35, 69, 453), (0, 7, 39, 151, 971), (0, 7, 40, 70, 478), (0, 7, 43, 152, 995), (0, 7, 44, 71, 495), (0, 7, 47, 156, 1015), (0, 7, 48, 72, 510), (0, 7, 51, 157, 1030), (0, 7, 52, 73, 522), (0, 7, 55, 158, 1038), (0, 7, 56, 74, 538), (0, 7, 60, 160, 1042), (0, 7, 61, 75, 544), (0, 7, 65, 161, 1050)]
theorem ev_mlk2_ok : ev_mlk2.all (fun e => decide (tables_1[e.2.2.2.2]? = some (Cond.methodLink (ev_cn e.2.1) e.2.2.1 (ev_y e.2.2.2.1))) && goodWord (Cond.methodLink (ev_cn e.2.1) e.2.2.1 (ev_y e.2.2.2.1))) = true := by decide +kernel
def ev_mlk3 : List (Nat × Nat × Nat × Nat × Nat) := [(0, 7, 66, 76, 549), (0, 7, 69, 162, 1054), (0, 7, 70, 77, 556), (0, 7, 73, 163, 1059), (0, 7, 74, 78, 560), (0, 7, 77, 164, 1067), (0, 7, 78, 79, 564), (0, 7, 81, 171, 1071), (0, 7, 82, 80, 593), (0, 7, 85, 172, 1107), (0, 7, 86, 81, 603), (0, 7, 89, 173, 1111), (0, 7, 90, 82, 612), (0, 7, 94, 176, 1119), (0, 7, 95, 83, 632), (0, 7, 98, 178, 1131), (0, 7, 99, 84, 636), (0, 7, 102, 181, 1139), (0, 7, 103, 85, 669), (0, 7, 106, 182, 1152), (0, 7, 107, 86, 678), (0, 7, 110, 183, 1157), (0, 7, 111, 87, 682), (0, 7, 114, 185, 1161), (0, 7, 115, 88, 686), (0, 7, 118, 186, 1169), (0, 7, 119, 89, 690), (0, 7, 122, 187, 1173), (0, 7, 123, 90, 698), (0, 7, 126, 188, 1178), (0, 7, 127, 91, 702), (0, 7, 130, 189, 1182), (0, 7, 131, 92, 706), (0, 7, 134, 190, 1186), (0, 7, 135, 93, 710), (0, 7, 138, 193, 1190), (0, 7, 139, 94, 735), (0, 7, 143, 194, 1202), (0, 7, 144, 95, 740), (0, 7, 147, 196, 1208), (0, 7, 148, 96, 744), (0, 7, 151, 197, 1216), (0, 7, 152, 97, 748), (0, 7, 155, 199, 1220), (0, 7, 156, 98, 756), (0, 7, 159, 200, 1228), (0, 7, 160, 99, 768), (0, 7, 164, 201, 1232), (0, 7, 165, 100, 777), (0, 7, 168, 202, 1238), (0, 7, 169, 101, 781), (0, 7, 172, 203, 1242)]
theorem ev_mlk3_ok : ev_mlk3.all (fun e => decide (tables_1[e.2.2.2.2]? = some (Cond.methodLink (ev_cn e.2.1) e.2.2.1 (ev_y e.2.2.2.1))) && goodWord (Cond.methodLink (ev_cn e.2.1) e.2.2.1 (ev_y e.2.2.2.1))) = true := by decide +kernel
def ev_mlk : List (Nat × Nat × Nat × Nat × Nat) := ev_mlk0 ++ (ev_mlk1 ++ (ev_mlk2 ++ (ev_mlk3)))
theorem ev_mlk_ok : ev_mlk.all (fun e => decide (tables_1[e.2.2.2.2]? = some (Cond.methodLink (ev_cn e.2.1) e.2.2.1 (ev_y e.2.2.2.1))) && goodWord (Cond.methodLink (ev_cn e.2.1) e.2.2.1 (ev_y e.2.2.2.1))) = true := by simp only [ev_mlk, List.all_append, ev_mlk0_ok, ev_mlk1_ok, ev_mlk2_ok, ev_mlk3_ok, Bool.and_self]
def ev_mls : List (Nat × Nat × Nat × Nat) := ev_mlk.map (fun e => (e.1, e.2.1, e.2.2.1, e.2.2.2.1))
/-- nest mates: (kind, own class, pool place, method) -/
def ev_mns : List (Nat × Nat × Nat × Nat) := [(2, 1, 66, 108), (2, 3, 128, 108), (2, 4, 68, 108), (2, 4, 72, 109), (2, 4, 80, 106), (4, 5, 9, 31), (4, 5, 39, 16), (4, 5, 46, 4), (4, 5, 53, 0), (4, 5, 58, 11)]
def ev_mos : List (Nat × Nat) := [(0, 3), (1, 3), (2, 3), (3, 3), (4, 3), (5, 1), (6, 1)]
def ev_mop : List Nat := [192, 165, 218, 108, 27, 19, 794]
theorem ev_mos_ok : (ev_mos.zip ev_mop).all (fun e => decide (tables_1[e.2]? = some (Cond.methodLink (ev_cn e.1.1) e.1.2 Lib.objectInit)) && goodWord (Cond.methodLink (ev_cn e.1.1) e.1.2 Lib.objectInit)) = true := by decide +kernel
theorem ev_obi : Cond.instanceMethod Lib.objectInit ∈ ev_UW := ev_mem 20 (by decide +kernel) rfl
theorem ev_obc : Cond.code Lib.objectInit ⟨#[0xb1]⟩ 1 none ∈ ev_UW := ev_mem 21 rfl rfl
def ev_cp : List Nat := [191, 717, 733, 723, 164, 643, 648, 664, 668, 652, 656, 217, 755, 767, 763, 775, 107, 284, 288, 311, 315, 296, 307, 303, 299, 337, 410, 421, 341, 356, 344, 26, 292, 436, 440, 460, 319, 452, 327, 323, 788, 729, 494, 432, 425, 502, 509, 521, 533, 537, 464, 469, 473, 697, 489, 610, 620, 571, 576, 580, 584, 592, 588, 18, 272, 276, 280, 444, 448, 456, 481, 498, 513, 525, 541, 547, 552, 559, 563, 567, 596, 606, 615, 635, 639, 672, 681, 685, 689, 693, 701, 705, 709, 713, 738, 743, 747, 751, 759, 771, 780, 784, 517, 529, 600, 676, 484, 555, 417, 428, 623, 628, 631, 793, 889, 962, 798, 802, 885, 893, 913, 905, 925, 929, 921, 901, 943, 939, 955, 947, 951, 935, 917, 959, 897, 966, 978, 1001, 1065, 1025, 982, 1106, 986, 1098, 1006, 994, 990, 1010, 1118, 1014, 970, 974, 998, 1029, 1037, 1022, 1018, 1033, 1041, 1049, 1045, 1053, 1057, 1062, 1070, 1094, 1090, 1102, 1086, 1082, 1078, 1074, 1110, 1114, 1130, 1127, 1122, 1138, 1134, 1147, 1151, 1142, 1155, 1160, 1168, 1164, 1172, 1176, 1181, 1185, 1189, 1197, 1201, 1193, 1205, 1215, 1211, 1219, 1226, 1223, 1231, 1235, 1241, 1245, 330, 476, 360, 370, 364, 374, 380, 377, 385]
theorem ev_t0 {w : Cond} (h : w ∈ tables_1_1) : w ∈ tables_1 := List.mem_append_left _ (h)
theorem ev_t1 {w : Cond} (h : w ∈ tables_1_2) : w ∈ tables_1 := List.mem_append_right _ (List.mem_append_left _ (h))
theorem ev_t2 {w : Cond} (h : w ∈ tables_1_3) : w ∈ tables_1 := List.mem_append_right _ (List.mem_append_right _ (List.mem_append_left _ (h)))
theorem ev_t3 {w : Cond} (h : w ∈ tables_1_4) : w ∈ tables_1 := List.mem_append_right _ (List.mem_append_right _ (List.mem_append_right _ (List.mem_append_left _ (h))))
theorem ev_t4 {w : Cond} (h : w ∈ tables_1_5) : w ∈ tables_1 := List.mem_append_right _ (List.mem_append_right _ (List.mem_append_right _ (List.mem_append_right _ (List.mem_append_left _ (h)))))
theorem ev_t5 {w : Cond} (h : w ∈ tables_1_6) : w ∈ tables_1 := List.mem_append_right _ (List.mem_append_right _ (List.mem_append_right _ (List.mem_append_right _ (List.mem_append_right _ (h)))))
set_option maxRecDepth 100000 in
theorem ev_c0 : Cond.code (ev_y 0) (ev_b 0) (ev_L 0) (ev_r 0) ∈ tables_1 := ev_t0 (List.mem_of_getElem? (i := 191) rfl)
set_option maxRecDepth 100000 in
theorem ev_c1 : Cond.code (ev_y 1) (ev_b 1) (ev_L 1) (ev_r 1) ∈ tables_1 := ev_t2 (List.mem_of_getElem? (i := 237) rfl)
set_option maxRecDepth 100000 in
theorem ev_c2 : Cond.code (ev_y 2) (ev_b 2) (ev_L 2) (ev_r 2) ∈ tables_1 := ev_t3 (List.mem_of_getElem? (i := 13) rfl)
set_option maxRecDepth 100000 in
theorem ev_c3 : Cond.code (ev_y 3) (ev_b 3) (ev_L 3) (ev_r 3) ∈ tables_1 := ev_t3 (List.mem_of_getElem? (i := 3) rfl)
set_option maxRecDepth 100000 in
theorem ev_c4 : Cond.code (ev_y 4) (ev_b 4) (ev_L 4) (ev_r 4) ∈ tables_1 := ev_t0 (List.mem_of_getElem? (i := 164) rfl)
set_option maxRecDepth 100000 in
theorem ev_c5 : Cond.code (ev_y 5) (ev_b 5) (ev_L 5) (ev_r 5) ∈ tables_1 := ev_t2 (List.mem_of_getElem? (i := 163) rfl)
set_option maxRecDepth 100000 in
theorem ev_c6 : Cond.code (ev_y 6) (ev_b 6) (ev_L 6) (ev_r 6) ∈ tables_1 := ev_t2 (List.mem_of_getElem? (i := 168) rfl)
set_option maxRecDepth 100000 in
theorem ev_c7 : Cond.code (ev_y 7) (ev_b 7) (ev_L 7) (ev_r 7) ∈ tables_1 := ev_t2 (List.mem_of_getElem? (i := 184) rfl)
set_option maxRecDepth 100000 in
theorem ev_c8 : Cond.code (ev_y 8) (ev_b 8) (ev_L 8) (ev_r 8) ∈ tables_1 := ev_t2 (List.mem_of_getElem? (i := 188) rfl)
set_option maxRecDepth 100000 in
theorem ev_c9 : Cond.code (ev_y 9) (ev_b 9) (ev_L 9) (ev_r 9) ∈ tables_1 := ev_t2 (List.mem_of_getElem? (i := 172) rfl)
set_option maxRecDepth 100000 in
theorem ev_c10 : Cond.code (ev_y 10) (ev_b 10) (ev_L 10) (ev_r 10) ∈ tables_1 := ev_t2 (List.mem_of_getElem? (i := 176) rfl)
set_option maxRecDepth 100000 in
theorem ev_c11 : Cond.code (ev_y 11) (ev_b 11) (ev_L 11) (ev_r 11) ∈ tables_1 := ev_t0 (List.mem_of_getElem? (i := 217) rfl)
set_option maxRecDepth 100000 in
theorem ev_c12 : Cond.code (ev_y 12) (ev_b 12) (ev_L 12) (ev_r 12) ∈ tables_1 := ev_t3 (List.mem_of_getElem? (i := 35) rfl)
set_option maxRecDepth 100000 in
theorem ev_c13 : Cond.code (ev_y 13) (ev_b 13) (ev_L 13) (ev_r 13) ∈ tables_1 := ev_t3 (List.mem_of_getElem? (i := 47) rfl)
set_option maxRecDepth 100000 in
theorem ev_c14 : Cond.code (ev_y 14) (ev_b 14) (ev_L 14) (ev_r 14) ∈ tables_1 := ev_t3 (List.mem_of_getElem? (i := 43) rfl)
set_option maxRecDepth 100000 in
theorem ev_c15 : Cond.code (ev_y 15) (ev_b 15) (ev_L 15) (ev_r 15) ∈ tables_1 := ev_t3 (List.mem_of_getElem? (i := 55) rfl)
set_option maxRecDepth 100000 in
theorem ev_c16 : Cond.code (ev_y 16) (ev_b 16) (ev_L 16) (ev_r 16) ∈ tables_1 := ev_t0 (List.mem_of_getElem? (i := 107) rfl)
set_option maxRecDepth 100000 in
theorem ev_c17 : Cond.code (ev_y 17) (ev_b 17) (ev_L 17) (ev_r 17) ∈ tables_1 := ev_t1 (List.mem_of_getElem? (i := 44) rfl)
set_option maxRecDepth 100000 in
theorem ev_c18 : Cond.code (ev_y 18) (ev_b 18) (ev_L 18) (ev_r 18) ∈ tables_1 := ev_t1 (List.mem_of_getElem? (i := 48) rfl)
set_option maxRecDepth 100000 in
theorem ev_c19 : Cond.code (ev_y 19) (ev_b 19) (ev_L 19) (ev_r 19) ∈ tables_1 := ev_t1 (List.mem_of_getElem? (i := 71) rfl)
set_option maxRecDepth 100000 in
theorem ev_c20 : Cond.code (ev_y 20) (ev_b 20) (ev_L 20) (ev_r 20) ∈ tables_1 := ev_t1 (List.mem_of_getElem? (i := 75) rfl)
set_option maxRecDepth 100000 in
theorem ev_c21 : Cond.code (ev_y 21) (ev_b 21) (ev_L 21) (ev_r 21) ∈ tables_1 := ev_t1 (List.mem_of_getElem? (i := 56) rfl)
set_option maxRecDepth 100000 in
theorem ev_c22 : Cond.code (ev_y 22) (ev_b 22) (ev_L 22) (ev_r 22) ∈ tables_1 := ev_t1 (List.mem_of_getElem? (i := 67) rfl)
set_option maxRecDepth 100000 in
theorem ev_c23 : Cond.code (ev_y 23) (ev_b 23) (ev_L 23) (ev_r 23) ∈ tables_1 := ev_t1 (List.mem_of_getElem? (i := 63) rfl)
set_option maxRecDepth 100000 in
theorem ev_c24 : Cond.code (ev_y 24) (ev_b 24) (ev_L 24) (ev_r 24) ∈ tables_1 := ev_t1 (List.mem_of_getElem? (i := 59) rfl)
set_option maxRecDepth 100000 in
theorem ev_c25 : Cond.code (ev_y 25) (ev_b 25) (ev_L 25) (ev_r 25) ∈ tables_1 := ev_t1 (List.mem_of_getElem? (i := 97) rfl)
set_option maxRecDepth 100000 in
theorem ev_c26 : Cond.code (ev_y 26) (ev_b 26) (ev_L 26) (ev_r 26) ∈ tables_1 := ev_t1 (List.mem_of_getElem? (i := 170) rfl)
set_option maxRecDepth 100000 in
theorem ev_c27 : Cond.code (ev_y 27) (ev_b 27) (ev_L 27) (ev_r 27) ∈ tables_1 := ev_t1 (List.mem_of_getElem? (i := 181) rfl)
set_option maxRecDepth 100000 in
theorem ev_c28 : Cond.code (ev_y 28) (ev_b 28) (ev_L 28) (ev_r 28) ∈ tables_1 := ev_t1 (List.mem_of_getElem? (i := 101) rfl)
set_option maxRecDepth 100000 in
theorem ev_c29 : Cond.code (ev_y 29) (ev_b 29) (ev_L 29) (ev_r 29) ∈ tables_1 := ev_t1 (List.mem_of_getElem? (i := 116) rfl)
set_option maxRecDepth 100000 in
theorem ev_c30 : Cond.code (ev_y 30) (ev_b 30) (ev_L 30) (ev_r 30) ∈ tables_1 := ev_t1 (List.mem_of_getElem? (i := 104) rfl)
set_option maxRecDepth 100000 in
theorem ev_c31 : Cond.code (ev_y 31) (ev_b 31) (ev_L 31) (ev_r 31) ∈ tables_1 := ev_t0 (List.mem_of_getElem? (i := 26) rfl)
set_option maxRecDepth 100000 in
theorem ev_c32 : Cond.code (ev_y 32) (ev_b 32) (ev_L 32) (ev_r 32) ∈ tables_1 := ev_t1 (List.mem_of_getElem? (i := 52) rfl)
set_option maxRecDepth 100000 in
theorem ev_c33 : Cond.code (ev_y 33) (ev_b 33) (ev_L 33) (ev_r 33) ∈ tables_1 := ev_t1 (List.mem_of_getElem? (i := 196) rfl)
set_option maxRecDepth 100000 in
theorem ev_c34 : Cond.code (ev_y 34) (ev_b 34) (ev_L 34) (ev_r 34) ∈ tables_1 := ev_t1 (List.mem_of_getElem? (i := 200) rfl)
set_option maxRecDepth 100000 in
theorem ev_c35 : Cond.code (ev_y 35) (ev_b 35) (ev_L 35) (ev_r 35) ∈ tables_1 := ev_t1 (List.mem_of_getElem? (i := 220) rfl)
set_option maxRecDepth 100000 in
theorem ev_c36 : Cond.code (ev_y 36) (ev_b 36) (ev_L 36) (ev_r 36) ∈ tables_1 := ev_t1 (List.mem_of_getElem? (i := 79) rfl)
set_option maxRecDepth 100000 in
theorem ev_c37 : Cond.code (ev_y 37) (ev_b 37) (ev_L 37) (ev_r 37) ∈ tables_1 := ev_t1 (List.mem_of_getElem? (i := 212) rfl)
set_option maxRecDepth 100000 in
theorem ev_c38 : Cond.code (ev_y 38) (ev_b 38) (ev_L 38) (ev_r 38) ∈ tables_1 := ev_t1 (List.mem_of_getElem? (i := 87) rfl)
set_option maxRecDepth 100000 in
theorem ev_c39 : Cond.code (ev_y 39) (ev_b 39) (ev_L 39) (ev_r 39) ∈ tables_1 := ev_t1 (List.mem_of_getElem? (i := 83) rfl)
set_option maxRecDepth 100000 in
theorem ev_c40 : Cond.code (ev_y 40) (ev_b 40) (ev_L 40) (ev_r 40) ∈ tables_1 := ev_t3 (List.mem_of_getElem? (i := 68) rfl)
set_option maxRecDepth 100000 in
theorem ev_c41 : Cond.code (ev_y 41) (ev_b 41) (ev_L 41) (ev_r 41) ∈ tables_1 := ev_t3 (List.mem_of_getElem? (i := 9) rfl)
set_option maxRecDepth 100000 in
theorem ev_c42 : Cond.code (ev_y 42) (ev_b 42) (ev_L 42) (ev_r 42) ∈ tables_1 := ev_t2 (List.mem_of_getElem? (i := 14) rfl)
set_option maxRecDepth 100000 in
theorem ev_c43 : Cond.code (ev_y 43) (ev_b 43) (ev_L 43) (ev_r 43) ∈ tables_1 := ev_t1 (List.mem_of_getElem? (i := 192) rfl)
set_option maxRecDepth 100000 in
theorem ev_c44 : Cond.code (ev_y 44) (ev_b 44) (ev_L 44) (ev_r 44) ∈ tables_1 := ev_t1 (List.mem_of_getElem? (i := 185) rfl)
set_option maxRecDepth 100000 in
theorem ev_c45 : Cond.code (ev_y 45) (ev_b 45) (ev_L 45) (ev_r 45) ∈ tables_1 := ev_t2 (List.mem_of_getElem? (i := 22) rfl)
set_option maxRecDepth 100000 in
theorem ev_c46 : Cond.code (ev_y 46) (ev_b 46) (ev_L 46) (ev_r 46) ∈ tables_1 := ev_t2 (List.mem_of_getElem? (i := 29) rfl)
set_option maxRecDepth 100000 in
theorem ev_c47 : Cond.code (ev_y 47) (ev_b 47) (ev_L 47) (ev_r 47) ∈ tables_1 := ev_t2 (List.mem_of_getElem? (i := 41) rfl)
set_option maxRecDepth 100000 in
theorem ev_c48 : Cond.code (ev_y 48) (ev_b 48) (ev_L 48) (ev_r 48) ∈ tables_1 := ev_t2 (List.mem_of_getElem? (i := 53) rfl)
set_option maxRecDepth 100000 in
theorem ev_c49 : Cond.code (ev_y 49) (ev_b 49) (ev_L 49) (ev_r 49) ∈ tables_1 := ev_t2 (List.mem_of_getElem? (i := 57) rfl)
set_option maxRecDepth 100000 in
theorem ev_c50 : Cond.code (ev_y 50) (ev_b 50) (ev_L 50) (ev_r 50) ∈ tables_1 := ev_t1 (List.mem_of_getElem? (i := 224) rfl)
set_option maxRecDepth 100000 in
theorem ev_c51 : Cond.code (ev_y 51) (ev_b 51) (ev_L 51) (ev_r 51) ∈ tables_1 := ev_t1 (List.mem_of_getElem? (i := 229) rfl)
set_option maxRecDepth 100000 in
theorem ev_c52 : Cond.code (ev_y 52) (ev_b 52) (ev_L 52) (ev_r 52) ∈ tables_1 := ev_t1 (List.mem_of_getElem? (i := 233) rfl)
set_option maxRecDepth 100000 in
theorem ev_c53 : Cond.code (ev_y 53) (ev_b 53) (ev_L 53) (ev_r 53) ∈ tables_1 := ev_t2 (List.mem_of_getElem? (i := 217) rfl)
set_option maxRecDepth 100000 in
theorem ev_c54 : Cond.code (ev_y 54) (ev_b 54) (ev_L 54) (ev_r 54) ∈ tables_1 := ev_t2 (List.mem_of_getElem? (i := 9) rfl)
set_option maxRecDepth 100000 in
theorem ev_c55 : Cond.code (ev_y 55) (ev_b 55) (ev_L 55) (ev_r 55) ∈ tables_1 := ev_t2 (List.mem_of_getElem? (i := 130) rfl)
set_option maxRecDepth 100000 in
theorem ev_c56 : Cond.code (ev_y 56) (ev_b 56) (ev_L 56) (ev_r 56) ∈ tables_1 := ev_t2 (List.mem_of_getElem? (i := 140) rfl)
set_option maxRecDepth 100000 in
theorem ev_c57 : Cond.code (ev_y 57) (ev_b 57) (ev_L 57) (ev_r 57) ∈ tables_1 := ev_t2 (List.mem_of_getElem? (i := 91) rfl)
set_option maxRecDepth 100000 in
theorem ev_c58 : Cond.code (ev_y 58) (ev_b 58) (ev_L 58) (ev_r 58) ∈ tables_1 := ev_t2 (List.mem_of_getElem? (i := 96) rfl)
set_option maxRecDepth 100000 in
theorem ev_c59 : Cond.code (ev_y 59) (ev_b 59) (ev_L 59) (ev_r 59) ∈ tables_1 := ev_t2 (List.mem_of_getElem? (i := 100) rfl)
set_option maxRecDepth 100000 in
theorem ev_c60 : Cond.code (ev_y 60) (ev_b 60) (ev_L 60) (ev_r 60) ∈ tables_1 := ev_t2 (List.mem_of_getElem? (i := 104) rfl)
set_option maxRecDepth 100000 in
theorem ev_c61 : Cond.code (ev_y 61) (ev_b 61) (ev_L 61) (ev_r 61) ∈ tables_1 := ev_t2 (List.mem_of_getElem? (i := 112) rfl)
set_option maxRecDepth 100000 in
theorem ev_c62 : Cond.code (ev_y 62) (ev_b 62) (ev_L 62) (ev_r 62) ∈ tables_1 := ev_t2 (List.mem_of_getElem? (i := 108) rfl)
set_option maxRecDepth 100000 in
theorem ev_c63 : Cond.code (ev_y 63) (ev_b 63) (ev_L 63) (ev_r 63) ∈ tables_1 := ev_t0 (List.mem_of_getElem? (i := 18) rfl)
set_option maxRecDepth 100000 in
theorem ev_c64 : Cond.code (ev_y 64) (ev_b 64) (ev_L 64) (ev_r 64) ∈ tables_1 := ev_t1 (List.mem_of_getElem? (i := 32) rfl)
set_option maxRecDepth 100000 in
theorem ev_c65 : Cond.code (ev_y 65) (ev_b 65) (ev_L 65) (ev_r 65) ∈ tables_1 := ev_t1 (List.mem_of_getElem? (i := 36) rfl)
set_option maxRecDepth 100000 in
theorem ev_c66 : Cond.code (ev_y 66) (ev_b 66) (ev_L 66) (ev_r 66) ∈ tables_1 := ev_t1 (List.mem_of_getElem? (i := 40) rfl)
set_option maxRecDepth 100000 in
theorem ev_c67 : Cond.code (ev_y 67) (ev_b 67) (ev_L 67) (ev_r 67) ∈ tables_1 := ev_t1 (List.mem_of_getElem? (i := 204) rfl)
set_option maxRecDepth 100000 in
theorem ev_c68 : Cond.code (ev_y 68) (ev_b 68) (ev_L 68) (ev_r 68) ∈ tables_1 := ev_t1 (List.mem_of_getElem? (i := 208) rfl)
set_option maxRecDepth 100000 in
theorem ev_c69 : Cond.code (ev_y 69) (ev_b 69) (ev_L 69) (ev_r 69) ∈ tables_1 := ev_t1 (List.mem_of_getElem? (i := 216) rfl)
set_option maxRecDepth 100000 in
theorem ev_c70 : Cond.code (ev_y 70) (ev_b 70) (ev_L 70) (ev_r 70) ∈ tables_1 := ev_t2 (List.mem_of_getElem? (i := 1) rfl)
set_option maxRecDepth 100000 in
theorem ev_c71 : Cond.code (ev_y 71) (ev_b 71) (ev_L 71) (ev_r 71) ∈ tables_1 := ev_t2 (List.mem_of_getElem? (i := 18) rfl)
set_option maxRecDepth 100000 in
theorem ev_c72 : Cond.code (ev_y 72) (ev_b 72) (ev_L 72) (ev_r 72) ∈ tables_1 := ev_t2 (List.mem_of_getElem? (i := 33) rfl)
set_option maxRecDepth 100000 in
theorem ev_c73 : Cond.code (ev_y 73) (ev_b 73) (ev_L 73) (ev_r 73) ∈ tables_1 := ev_t2 (List.mem_of_getElem? (i := 45) rfl)
set_option maxRecDepth 100000 in
theorem ev_c74 : Cond.code (ev_y 74) (ev_b 74) (ev_L 74) (ev_r 74) ∈ tables_1 := ev_t2 (List.mem_of_getElem? (i := 61) rfl)
set_option maxRecDepth 100000 in
theorem ev_c75 : Cond.code (ev_y 75) (ev_b 75) (ev_L 75) (ev_r 75) ∈ tables_1 := ev_t2 (List.mem_of_getElem? (i := 67) rfl)
set_option maxRecDepth 100000 in
theorem ev_c76 : Cond.code (ev_y 76) (ev_b 76) (ev_L 76) (ev_r 76) ∈ tables_1 := ev_t2 (List.mem_of_getElem? (i := 72) rfl)
set_option maxRecDepth 100000 in
theorem ev_c77 : Cond.code (ev_y 77) (ev_b 77) (ev_L 77) (ev_r 77) ∈ tables_1 := ev_t2 (List.mem_of_getElem? (i := 79) rfl)
set_option maxRecDepth 100000 in
theorem ev_c78 : Cond.code (ev_y 78) (ev_b 78) (ev_L 78) (ev_r 78) ∈ tables_1 := ev_t2 (List.mem_of_getElem? (i := 83) rfl)
set_option maxRecDepth 100000 in
theorem ev_c79 : Cond.code (ev_y 79) (ev_b 79) (ev_L 79) (ev_r 79) ∈ tables_1 := ev_t2 (List.mem_of_getElem? (i := 87) rfl)
set_option maxRecDepth 100000 in
theorem ev_c80 : Cond.code (ev_y 80) (ev_b 80) (ev_L 80) (ev_r 80) ∈ tables_1 := ev_t2 (List.mem_of_getElem? (i := 116) rfl)
set_option maxRecDepth 100000 in
theorem ev_c81 : Cond.code (ev_y 81) (ev_b 81) (ev_L 81) (ev_r 81) ∈ tables_1 := ev_t2 (List.mem_of_getElem? (i := 126) rfl)
set_option maxRecDepth 100000 in
theorem ev_c82 : Cond.code (ev_y 82) (ev_b 82) (ev_L 82) (ev_r 82) ∈ tables_1 := ev_t2 (List.mem_of_getElem? (i := 135) rfl)
set_option maxRecDepth 100000 in
theorem ev_c83 : Cond.code (ev_y 83) (ev_b 83) (ev_L 83) (ev_r 83) ∈ tables_1 := ev_t2 (List.mem_of_getElem? (i := 155) rfl)
set_option maxRecDepth 100000 in
theorem ev_c84 : Cond.code (ev_y 84) (ev_b 84) (ev_L 84) (ev_r 84) ∈ tables_1 := ev_t2 (List.mem_of_getElem? (i := 159) rfl)
set_option maxRecDepth 100000 in
theorem ev_c85 : Cond.code (ev_y 85) (ev_b 85) (ev_L 85) (ev_r 85) ∈ tables_1 := ev_t2 (List.mem_of_getElem? (i := 192) rfl)
set_option maxRecDepth 100000 in
theorem ev_c86 : Cond.code (ev_y 86) (ev_b 86) (ev_L 86) (ev_r 86) ∈ tables_1 := ev_t2 (List.mem_of_getElem? (i := 201) rfl)
set_option maxRecDepth 100000 in
theorem ev_c87 : Cond.code (ev_y 87) (ev_b 87) (ev_L 87) (ev_r 87) ∈ tables_1 := ev_t2 (List.mem_of_getElem? (i := 205) rfl)
set_option maxRecDepth 100000 in
theorem ev_c88 : Cond.code (ev_y 88) (ev_b 88) (ev_L 88) (ev_r 88) ∈ tables_1 := ev_t2 (List.mem_of_getElem? (i := 209) rfl)
set_option maxRecDepth 100000 in
theorem ev_c89 : Cond.code (ev_y 89) (ev_b 89) (ev_L 89) (ev_r 89) ∈ tables_1 := ev_t2 (List.mem_of_getElem? (i := 213) rfl)
set_option maxRecDepth 100000 in
theorem ev_c90 : Cond.code (ev_y 90) (ev_b 90) (ev_L 90) (ev_r 90) ∈ tables_1 := ev_t2 (List.mem_of_getElem? (i := 221) rfl)
set_option maxRecDepth 100000 in
theorem ev_c91 : Cond.code (ev_y 91) (ev_b 91) (ev_L 91) (ev_r 91) ∈ tables_1 := ev_t2 (List.mem_of_getElem? (i := 225) rfl)
set_option maxRecDepth 100000 in
theorem ev_c92 : Cond.code (ev_y 92) (ev_b 92) (ev_L 92) (ev_r 92) ∈ tables_1 := ev_t2 (List.mem_of_getElem? (i := 229) rfl)
set_option maxRecDepth 100000 in
theorem ev_c93 : Cond.code (ev_y 93) (ev_b 93) (ev_L 93) (ev_r 93) ∈ tables_1 := ev_t2 (List.mem_of_getElem? (i := 233) rfl)
set_option maxRecDepth 100000 in
theorem ev_c94 : Cond.code (ev_y 94) (ev_b 94) (ev_L 94) (ev_r 94) ∈ tables_1 := ev_t3 (List.mem_of_getElem? (i := 18) rfl)
set_option maxRecDepth 100000 in
theorem ev_c95 : Cond.code (ev_y 95) (ev_b 95) (ev_L 95) (ev_r 95) ∈ tables_1 := ev_t3 (List.mem_of_getElem? (i := 23) rfl)
set_option maxRecDepth 100000 in
theorem ev_c96 : Cond.code (ev_y 96) (ev_b 96) (ev_L 96) (ev_r 96) ∈ tables_1 := ev_t3 (List.mem_of_getElem? (i := 27) rfl)
set_option maxRecDepth 100000 in
theorem ev_c97 : Cond.code (ev_y 97) (ev_b 97) (ev_L 97) (ev_r 97) ∈ tables_1 := ev_t3 (List.mem_of_getElem? (i := 31) rfl)
set_option maxRecDepth 100000 in
theorem ev_c98 : Cond.code (ev_y 98) (ev_b 98) (ev_L 98) (ev_r 98) ∈ tables_1 := ev_t3 (List.mem_of_getElem? (i := 39) rfl)
set_option maxRecDepth 100000 in
theorem ev_c99 : Cond.code (ev_y 99) (ev_b 99) (ev_L 99) (ev_r 99) ∈ tables_1 := ev_t3 (List.mem_of_getElem? (i := 51) rfl)
set_option maxRecDepth 100000 in
theorem ev_c100 : Cond.code (ev_y 100) (ev_b 100) (ev_L 100) (ev_r 100) ∈ tables_1 := ev_t3 (List.mem_of_getElem? (i := 60) rfl)
set_option maxRecDepth 100000 in
theorem ev_c101 : Cond.code (ev_y 101) (ev_b 101) (ev_L 101) (ev_r 101) ∈ tables_1 := ev_t3 (List.mem_of_getElem? (i := 64) rfl)
set_option maxRecDepth 100000 in
theorem ev_c102 : Cond.code (ev_y 102) (ev_b 102) (ev_L 102) (ev_r 102) ∈ tables_1 := ev_t2 (List.mem_of_getElem? (i := 37) rfl)
set_option maxRecDepth 100000 in
theorem ev_c103 : Cond.code (ev_y 103) (ev_b 103) (ev_L 103) (ev_r 103) ∈ tables_1 := ev_t2 (List.mem_of_getElem? (i := 49) rfl)
set_option maxRecDepth 100000 in
theorem ev_c104 : Cond.code (ev_y 104) (ev_b 104) (ev_L 104) (ev_r 104) ∈ tables_1 := ev_t2 (List.mem_of_getElem? (i := 120) rfl)
set_option maxRecDepth 100000 in
theorem ev_c105 : Cond.code (ev_y 105) (ev_b 105) (ev_L 105) (ev_r 105) ∈ tables_1 := ev_t2 (List.mem_of_getElem? (i := 196) rfl)
set_option maxRecDepth 100000 in
theorem ev_c106 : Cond.code (ev_y 106) (ev_b 106) (ev_L 106) (ev_r 106) ∈ tables_1 := ev_t2 (List.mem_of_getElem? (i := 4) rfl)
set_option maxRecDepth 100000 in
theorem ev_c107 : Cond.code (ev_y 107) (ev_b 107) (ev_L 107) (ev_r 107) ∈ tables_1 := ev_t2 (List.mem_of_getElem? (i := 75) rfl)
set_option maxRecDepth 100000 in
theorem ev_c108 : Cond.code (ev_y 108) (ev_b 108) (ev_L 108) (ev_r 108) ∈ tables_1 := ev_t1 (List.mem_of_getElem? (i := 177) rfl)
set_option maxRecDepth 100000 in
theorem ev_c109 : Cond.code (ev_y 109) (ev_b 109) (ev_L 109) (ev_r 109) ∈ tables_1 := ev_t1 (List.mem_of_getElem? (i := 188) rfl)
set_option maxRecDepth 100000 in
theorem ev_c110 : Cond.code (ev_y 110) (ev_b 110) (ev_L 110) (ev_r 110) ∈ tables_1 := ev_t2 (List.mem_of_getElem? (i := 143) rfl)
set_option maxRecDepth 100000 in
theorem ev_c111 : Cond.code (ev_y 111) (ev_b 111) (ev_L 111) (ev_r 111) ∈ tables_1 := ev_t2 (List.mem_of_getElem? (i := 148) rfl)
set_option maxRecDepth 100000 in
theorem ev_c112 : Cond.code (ev_y 112) (ev_b 112) (ev_L 112) (ev_r 112) ∈ tables_1 := ev_t2 (List.mem_of_getElem? (i := 151) rfl)
set_option maxRecDepth 100000 in
theorem ev_c113 : Cond.code (ev_y 113) (ev_b 113) (ev_L 113) (ev_r 113) ∈ tables_1 := ev_t3 (List.mem_of_getElem? (i := 73) rfl)
set_option maxRecDepth 100000 in
theorem ev_c114 : Cond.code (ev_y 114) (ev_b 114) (ev_L 114) (ev_r 114) ∈ tables_1 := ev_t3 (List.mem_of_getElem? (i := 169) rfl)
set_option maxRecDepth 100000 in
theorem ev_c115 : Cond.code (ev_y 115) (ev_b 115) (ev_L 115) (ev_r 115) ∈ tables_1 := ev_t4 (List.mem_of_getElem? (i := 2) rfl)
set_option maxRecDepth 100000 in
theorem ev_c116 : Cond.code (ev_y 116) (ev_b 116) (ev_L 116) (ev_r 116) ∈ tables_1 := ev_t3 (List.mem_of_getElem? (i := 78) rfl)
set_option maxRecDepth 100000 in
theorem ev_c117 : Cond.code (ev_y 117) (ev_b 117) (ev_L 117) (ev_r 117) ∈ tables_1 := ev_t3 (List.mem_of_getElem? (i := 82) rfl)
set_option maxRecDepth 100000 in
theorem ev_c118 : Cond.code (ev_y 118) (ev_b 118) (ev_L 118) (ev_r 118) ∈ tables_1 := ev_t3 (List.mem_of_getElem? (i := 165) rfl)
set_option maxRecDepth 100000 in
theorem ev_c119 : Cond.code (ev_y 119) (ev_b 119) (ev_L 119) (ev_r 119) ∈ tables_1 := ev_t3 (List.mem_of_getElem? (i := 173) rfl)
set_option maxRecDepth 100000 in
theorem ev_c120 : Cond.code (ev_y 120) (ev_b 120) (ev_L 120) (ev_r 120) ∈ tables_1 := ev_t3 (List.mem_of_getElem? (i := 193) rfl)
set_option maxRecDepth 100000 in
theorem ev_c121 : Cond.code (ev_y 121) (ev_b 121) (ev_L 121) (ev_r 121) ∈ tables_1 := ev_t3 (List.mem_of_getElem? (i := 185) rfl)
set_option maxRecDepth 100000 in
theorem ev_c122 : Cond.code (ev_y 122) (ev_b 122) (ev_L 122) (ev_r 122) ∈ tables_1 := ev_t3 (List.mem_of_getElem? (i := 205) rfl)
set_option maxRecDepth 100000 in
theorem ev_c123 : Cond.code (ev_y 123) (ev_b 123) (ev_L 123) (ev_r 123) ∈ tables_1 := ev_t3 (List.mem_of_getElem? (i := 209) rfl)
set_option maxRecDepth 100000 in
theorem ev_c124 : Cond.code (ev_y 124) (ev_b 124) (ev_L 124) (ev_r 124) ∈ tables_1 := ev_t3 (List.mem_of_getElem? (i := 201) rfl)
set_option maxRecDepth 100000 in
theorem ev_c125 : Cond.code (ev_y 125) (ev_b 125) (ev_L 125) (ev_r 125) ∈ tables_1 := ev_t3 (List.mem_of_getElem? (i := 181) rfl)
set_option maxRecDepth 100000 in
theorem ev_c126 : Cond.code (ev_y 126) (ev_b 126) (ev_L 126) (ev_r 126) ∈ tables_1 := ev_t3 (List.mem_of_getElem? (i := 223) rfl)
set_option maxRecDepth 100000 in
theorem ev_c127 : Cond.code (ev_y 127) (ev_b 127) (ev_L 127) (ev_r 127) ∈ tables_1 := ev_t3 (List.mem_of_getElem? (i := 219) rfl)
set_option maxRecDepth 100000 in
theorem ev_c128 : Cond.code (ev_y 128) (ev_b 128) (ev_L 128) (ev_r 128) ∈ tables_1 := ev_t3 (List.mem_of_getElem? (i := 235) rfl)
set_option maxRecDepth 100000 in
theorem ev_c129 : Cond.code (ev_y 129) (ev_b 129) (ev_L 129) (ev_r 129) ∈ tables_1 := ev_t3 (List.mem_of_getElem? (i := 227) rfl)
set_option maxRecDepth 100000 in
theorem ev_c130 : Cond.code (ev_y 130) (ev_b 130) (ev_L 130) (ev_r 130) ∈ tables_1 := ev_t3 (List.mem_of_getElem? (i := 231) rfl)
set_option maxRecDepth 100000 in
theorem ev_c131 : Cond.code (ev_y 131) (ev_b 131) (ev_L 131) (ev_r 131) ∈ tables_1 := ev_t3 (List.mem_of_getElem? (i := 215) rfl)
set_option maxRecDepth 100000 in
theorem ev_c132 : Cond.code (ev_y 132) (ev_b 132) (ev_L 132) (ev_r 132) ∈ tables_1 := ev_t3 (List.mem_of_getElem? (i := 197) rfl)
set_option maxRecDepth 100000 in
theorem ev_c133 : Cond.code (ev_y 133) (ev_b 133) (ev_L 133) (ev_r 133) ∈ tables_1 := ev_t3 (List.mem_of_getElem? (i := 239) rfl)
set_option maxRecDepth 100000 in
theorem ev_c134 : Cond.code (ev_y 134) (ev_b 134) (ev_L 134) (ev_r 134) ∈ tables_1 := ev_t3 (List.mem_of_getElem? (i := 177) rfl)
set_option maxRecDepth 100000 in
theorem ev_c135 : Cond.code (ev_y 135) (ev_b 135) (ev_L 135) (ev_r 135) ∈ tables_1 := ev_t4 (List.mem_of_getElem? (i := 6) rfl)
set_option maxRecDepth 100000 in
theorem ev_c136 : Cond.code (ev_y 136) (ev_b 136) (ev_L 136) (ev_r 136) ∈ tables_1 := ev_t4 (List.mem_of_getElem? (i := 18) rfl)
set_option maxRecDepth 100000 in
theorem ev_c137 : Cond.code (ev_y 137) (ev_b 137) (ev_L 137) (ev_r 137) ∈ tables_1 := ev_t4 (List.mem_of_getElem? (i := 41) rfl)
set_option maxRecDepth 100000 in
theorem ev_c138 : Cond.code (ev_y 138) (ev_b 138) (ev_L 138) (ev_r 138) ∈ tables_1 := ev_t4 (List.mem_of_getElem? (i := 105) rfl)
set_option maxRecDepth 100000 in
theorem ev_c139 : Cond.code (ev_y 139) (ev_b 139) (ev_L 139) (ev_r 139) ∈ tables_1 := ev_t4 (List.mem_of_getElem? (i := 65) rfl)
set_option maxRecDepth 100000 in
theorem ev_c140 : Cond.code (ev_y 140) (ev_b 140) (ev_L 140) (ev_r 140) ∈ tables_1 := ev_t4 (List.mem_of_getElem? (i := 22) rfl)
set_option maxRecDepth 100000 in
theorem ev_c141 : Cond.code (ev_y 141) (ev_b 141) (ev_L 141) (ev_r 141) ∈ tables_1 := ev_t4 (List.mem_of_getElem? (i := 146) rfl)
set_option maxRecDepth 100000 in
theorem ev_c142 : Cond.code (ev_y 142) (ev_b 142) (ev_L 142) (ev_r 142) ∈ tables_1 := ev_t4 (List.mem_of_getElem? (i := 26) rfl)
set_option maxRecDepth 100000 in
theorem ev_c143 : Cond.code (ev_y 143) (ev_b 143) (ev_L 143) (ev_r 143) ∈ tables_1 := ev_t4 (List.mem_of_getElem? (i := 138) rfl)
set_option maxRecDepth 100000 in
theorem ev_c144 : Cond.code (ev_y 144) (ev_b 144) (ev_L 144) (ev_r 144) ∈ tables_1 := ev_t4 (List.mem_of_getElem? (i := 46) rfl)
set_option maxRecDepth 100000 in
theorem ev_c145 : Cond.code (ev_y 145) (ev_b 145) (ev_L 145) (ev_r 145) ∈ tables_1 := ev_t4 (List.mem_of_getElem? (i := 34) rfl)
set_option maxRecDepth 100000 in
theorem ev_c146 : Cond.code (ev_y 146) (ev_b 146) (ev_L 146) (ev_r 146) ∈ tables_1 := ev_t4 (List.mem_of_getElem? (i := 30) rfl)
set_option maxRecDepth 100000 in
theorem ev_c147 : Cond.code (ev_y 147) (ev_b 147) (ev_L 147) (ev_r 147) ∈ tables_1 := ev_t4 (List.mem_of_getElem? (i := 50) rfl)
set_option maxRecDepth 100000 in
theorem ev_c148 : Cond.code (ev_y 148) (ev_b 148) (ev_L 148) (ev_r 148) ∈ tables_1 := ev_t4 (List.mem_of_getElem? (i := 158) rfl)
set_option maxRecDepth 100000 in
theorem ev_c149 : Cond.code (ev_y 149) (ev_b 149) (ev_L 149) (ev_r 149) ∈ tables_1 := ev_t4 (List.mem_of_getElem? (i := 54) rfl)
set_option maxRecDepth 100000 in
theorem ev_c150 : Cond.code (ev_y 150) (ev_b 150) (ev_L 150) (ev_r 150) ∈ tables_1 := ev_t4 (List.mem_of_getElem? (i := 10) rfl)
set_option maxRecDepth 100000 in
theorem ev_c151 : Cond.code (ev_y 151) (ev_b 151) (ev_L 151) (ev_r 151) ∈ tables_1 := ev_t4 (List.mem_of_getElem? (i := 14) rfl)
set_option maxRecDepth 100000 in
theorem ev_c152 : Cond.code (ev_y 152) (ev_b 152) (ev_L 152) (ev_r 152) ∈ tables_1 := ev_t4 (List.mem_of_getElem? (i := 38) rfl)
set_option maxRecDepth 100000 in
theorem ev_c153 : Cond.code (ev_y 153) (ev_b 153) (ev_L 153) (ev_r 153) ∈ tables_1 := ev_t4 (List.mem_of_getElem? (i := 69) rfl)
set_option maxRecDepth 100000 in
theorem ev_c154 : Cond.code (ev_y 154) (ev_b 154) (ev_L 154) (ev_r 154) ∈ tables_1 := ev_t4 (List.mem_of_getElem? (i := 77) rfl)
set_option maxRecDepth 100000 in
theorem ev_c155 : Cond.code (ev_y 155) (ev_b 155) (ev_L 155) (ev_r 155) ∈ tables_1 := ev_t4 (List.mem_of_getElem? (i := 62) rfl)
set_option maxRecDepth 100000 in
theorem ev_c156 : Cond.code (ev_y 156) (ev_b 156) (ev_L 156) (ev_r 156) ∈ tables_1 := ev_t4 (List.mem_of_getElem? (i := 58) rfl)
set_option maxRecDepth 100000 in
theorem ev_c157 : Cond.code (ev_y 157) (ev_b 157) (ev_L 157) (ev_r 157) ∈ tables_1 := ev_t4 (List.mem_of_getElem? (i := 73) rfl)
set_option maxRecDepth 100000 in
theorem ev_c158 : Cond.code (ev_y 158) (ev_b 158) (ev_L 158) (ev_r 158) ∈ tables_1 := ev_t4 (List.mem_of_getElem? (i := 81) rfl)
set_option maxRecDepth 100000 in
theorem ev_c159 : Cond.code (ev_y 159) (ev_b 159) (ev_L 159) (ev_r 159) ∈ tables_1 := ev_t4 (List.mem_of_getElem? (i := 89) rfl)
set_option maxRecDepth 100000 in
theorem ev_c160 : Cond.code (ev_y 160) (ev_b 160) (ev_L 160) (ev_r 160) ∈ tables_1 := ev_t4 (List.mem_of_getElem? (i := 85) rfl)
set_option maxRecDepth 100000 in
theorem ev_c161 : Cond.code (ev_y 161) (ev_b 161) (ev_L 161) (ev_r 161) ∈ tables_1 := ev_t4 (List.mem_of_getElem? (i := 93) rfl)
set_option maxRecDepth 100000 in
theorem ev_c162 : Cond.code (ev_y 162) (ev_b 162) (ev_L 162) (ev_r 162) ∈ tables_1 := ev_t4 (List.mem_of_getElem? (i := 97) rfl)
set_option maxRecDepth 100000 in
theorem ev_c163 : Cond.code (ev_y 163) (ev_b 163) (ev_L 163) (ev_r 163) ∈ tables_1 := ev_t4 (List.mem_of_getElem? (i := 102) rfl)
set_option maxRecDepth 100000 in
theorem ev_c164 : Cond.code (ev_y 164) (ev_b 164) (ev_L 164) (ev_r 164) ∈ tables_1 := ev_t4 (List.mem_of_getElem? (i := 110) rfl)
set_option maxRecDepth 100000 in
theorem ev_c165 : Cond.code (ev_y 165) (ev_b 165) (ev_L 165) (ev_r 165) ∈ tables_1 := ev_t4 (List.mem_of_getElem? (i := 134) rfl)
set_option maxRecDepth 100000 in
theorem ev_c166 : Cond.code (ev_y 166) (ev_b 166) (ev_L 166) (ev_r 166) ∈ tables_1 := ev_t4 (List.mem_of_getElem? (i := 130) rfl)
set_option maxRecDepth 100000 in
theorem ev_c167 : Cond.code (ev_y 167) (ev_b 167) (ev_L 167) (ev_r 167) ∈ tables_1 := ev_t4 (List.mem_of_getElem? (i := 142) rfl)
set_option maxRecDepth 100000 in
theorem ev_c168 : Cond.code (ev_y 168) (ev_b 168) (ev_L 168) (ev_r 168) ∈ tables_1 := ev_t4 (List.mem_of_getElem? (i := 126) rfl)
set_option maxRecDepth 100000 in
theorem ev_c169 : Cond.code (ev_y 169) (ev_b 169) (ev_L 169) (ev_r 169) ∈ tables_1 := ev_t4 (List.mem_of_getElem? (i := 122) rfl)
set_option maxRecDepth 100000 in
theorem ev_c170 : Cond.code (ev_y 170) (ev_b 170) (ev_L 170) (ev_r 170) ∈ tables_1 := ev_t4 (List.mem_of_getElem? (i := 118) rfl)
set_option maxRecDepth 100000 in
theorem ev_c171 : Cond.code (ev_y 171) (ev_b 171) (ev_L 171) (ev_r 171) ∈ tables_1 := ev_t4 (List.mem_of_getElem? (i := 114) rfl)
set_option maxRecDepth 100000 in
theorem ev_c172 : Cond.code (ev_y 172) (ev_b 172) (ev_L 172) (ev_r 172) ∈ tables_1 := ev_t4 (List.mem_of_getElem? (i := 150) rfl)
set_option maxRecDepth 100000 in
theorem ev_c173 : Cond.code (ev_y 173) (ev_b 173) (ev_L 173) (ev_r 173) ∈ tables_1 := ev_t4 (List.mem_of_getElem? (i := 154) rfl)
set_option maxRecDepth 100000 in
theorem ev_c174 : Cond.code (ev_y 174) (ev_b 174) (ev_L 174) (ev_r 174) ∈ tables_1 := ev_t4 (List.mem_of_getElem? (i := 170) rfl)
set_option maxRecDepth 100000 in
theorem ev_c175 : Cond.code (ev_y 175) (ev_b 175) (ev_L 175) (ev_r 175) ∈ tables_1 := ev_t4 (List.mem_of_getElem? (i := 167) rfl)
set_option maxRecDepth 100000 in
theorem ev_c176 : Cond.code (ev_y 176) (ev_b 176) (ev_L 176) (ev_r 176) ∈ tables_1 := ev_t4 (List.mem_of_getElem? (i := 162) rfl)
set_option maxRecDepth 100000 in
theorem ev_c177 : Cond.code (ev_y 177) (ev_b 177) (ev_L 177) (ev_r 177) ∈ tables_1 := ev_t4 (List.mem_of_getElem? (i := 178) rfl)
set_option maxRecDepth 100000 in
theorem ev_c178 : Cond.code (ev_y 178) (ev_b 178) (ev_L 178) (ev_r 178) ∈ tables_1 := ev_t4 (List.mem_of_getElem? (i := 174) rfl)
set_option maxRecDepth 100000 in
theorem ev_c179 : Cond.code (ev_y 179) (ev_b 179) (ev_L 179) (ev_r 179) ∈ tables_1 := ev_t4 (List.mem_of_getElem? (i := 187) rfl)
set_option maxRecDepth 100000 in
theorem ev_c180 : Cond.code (ev_y 180) (ev_b 180) (ev_L 180) (ev_r 180) ∈ tables_1 := ev_t4 (List.mem_of_getElem? (i := 191) rfl)
set_option maxRecDepth 100000 in
theorem ev_c181 : Cond.code (ev_y 181) (ev_b 181) (ev_L 181) (ev_r 181) ∈ tables_1 := ev_t4 (List.mem_of_getElem? (i := 182) rfl)
set_option maxRecDepth 100000 in
theorem ev_c182 : Cond.code (ev_y 182) (ev_b 182) (ev_L 182) (ev_r 182) ∈ tables_1 := ev_t4 (List.mem_of_getElem? (i := 195) rfl)
set_option maxRecDepth 100000 in
theorem ev_c183 : Cond.code (ev_y 183) (ev_b 183) (ev_L 183) (ev_r 183) ∈ tables_1 := ev_t4 (List.mem_of_getElem? (i := 200) rfl)
set_option maxRecDepth 100000 in
theorem ev_c184 : Cond.code (ev_y 184) (ev_b 184) (ev_L 184) (ev_r 184) ∈ tables_1 := ev_t4 (List.mem_of_getElem? (i := 208) rfl)
set_option maxRecDepth 100000 in
theorem ev_c185 : Cond.code (ev_y 185) (ev_b 185) (ev_L 185) (ev_r 185) ∈ tables_1 := ev_t4 (List.mem_of_getElem? (i := 204) rfl)
set_option maxRecDepth 100000 in
theorem ev_c186 : Cond.code (ev_y 186) (ev_b 186) (ev_L 186) (ev_r 186) ∈ tables_1 := ev_t4 (List.mem_of_getElem? (i := 212) rfl)
set_option maxRecDepth 100000 in
theorem ev_c187 : Cond.code (ev_y 187) (ev_b 187) (ev_L 187) (ev_r 187) ∈ tables_1 := ev_t4 (List.mem_of_getElem? (i := 216) rfl)
set_option maxRecDepth 100000 in
theorem ev_c188 : Cond.code (ev_y 188) (ev_b 188) (ev_L 188) (ev_r 188) ∈ tables_1 := ev_t4 (List.mem_of_getElem? (i := 221) rfl)
set_option maxRecDepth 100000 in
theorem ev_c189 : Cond.code (ev_y 189) (ev_b 189) (ev_L 189) (ev_r 189) ∈ tables_1 := ev_t4 (List.mem_of_getElem? (i := 225) rfl)
set_option maxRecDepth 100000 in
theorem ev_c190 : Cond.code (ev_y 190) (ev_b 190) (ev_L 190) (ev_r 190) ∈ tables_1 := ev_t4 (List.mem_of_getElem? (i := 229) rfl)
set_option maxRecDepth 100000 in
theorem ev_c191 : Cond.code (ev_y 191) (ev_b 191) (ev_L 191) (ev_r 191) ∈ tables_1 := ev_t4 (List.mem_of_getElem? (i := 237) rfl)
set_option maxRecDepth 100000 in
theorem ev_c192 : Cond.code (ev_y 192) (ev_b 192) (ev_L 192) (ev_r 192) ∈ tables_1 := ev_t5 (List.mem_of_getElem? (i := 1) rfl)
set_option maxRecDepth 100000 in
theorem ev_c193 : Cond.code (ev_y 193) (ev_b 193) (ev_L 193) (ev_r 193) ∈ tables_1 := ev_t4 (List.mem_of_getElem? (i := 233) rfl)
set_option maxRecDepth 100000 in
theorem ev_c194 : Cond.code (ev_y 194) (ev_b 194) (ev_L 194) (ev_r 194) ∈ tables_1 := ev_t5 (List.mem_of_getElem? (i := 5) rfl)
set_option maxRecDepth 100000 in
theorem ev_c195 : Cond.code (ev_y 195) (ev_b 195) (ev_L 195) (ev_r 195) ∈ tables_1 := ev_t5 (List.mem_of_getElem? (i := 15) rfl)
set_option maxRecDepth 100000 in
theorem ev_c196 : Cond.code (ev_y 196) (ev_b 196) (ev_L 196) (ev_r 196) ∈ tables_1 := ev_t5 (List.mem_of_getElem? (i := 11) rfl)
set_option maxRecDepth 100000 in
theorem ev_c197 : Cond.code (ev_y 197) (ev_b 197) (ev_L 197) (ev_r 197) ∈ tables_1 := ev_t5 (List.mem_of_getElem? (i := 19) rfl)
set_option maxRecDepth 100000 in
theorem ev_c198 : Cond.code (ev_y 198) (ev_b 198) (ev_L 198) (ev_r 198) ∈ tables_1 := ev_t5 (List.mem_of_getElem? (i := 26) rfl)
set_option maxRecDepth 100000 in
theorem ev_c199 : Cond.code (ev_y 199) (ev_b 199) (ev_L 199) (ev_r 199) ∈ tables_1 := ev_t5 (List.mem_of_getElem? (i := 23) rfl)
set_option maxRecDepth 100000 in
theorem ev_c200 : Cond.code (ev_y 200) (ev_b 200) (ev_L 200) (ev_r 200) ∈ tables_1 := ev_t5 (List.mem_of_getElem? (i := 31) rfl)
set_option maxRecDepth 100000 in
theorem ev_c201 : Cond.code (ev_y 201) (ev_b 201) (ev_L 201) (ev_r 201) ∈ tables_1 := ev_t5 (List.mem_of_getElem? (i := 35) rfl)
set_option maxRecDepth 100000 in
theorem ev_c202 : Cond.code (ev_y 202) (ev_b 202) (ev_L 202) (ev_r 202) ∈ tables_1 := ev_t5 (List.mem_of_getElem? (i := 41) rfl)
set_option maxRecDepth 100000 in
theorem ev_c203 : Cond.code (ev_y 203) (ev_b 203) (ev_L 203) (ev_r 203) ∈ tables_1 := ev_t5 (List.mem_of_getElem? (i := 45) rfl)
set_option maxRecDepth 100000 in
theorem ev_c204 : Cond.code (ev_y 204) (ev_b 204) (ev_L 204) (ev_r 204) ∈ tables_1 := ev_t1 (List.mem_of_getElem? (i := 90) rfl)
set_option maxRecDepth 100000 in
theorem ev_c205 : Cond.code (ev_y 205) (ev_b 205) (ev_L 205) (ev_r 205) ∈ tables_1 := ev_t1 (List.mem_of_getElem? (i := 236) rfl)
set_option maxRecDepth 100000 in
theorem ev_c206 : Cond.code (ev_y 206) (ev_b 206) (ev_L 206) (ev_r 206) ∈ tables_1 := ev_t1 (List.mem_of_getElem? (i := 120) rfl)
set_option maxRecDepth 100000 in
theorem ev_c207 : Cond.code (ev_y 207) (ev_b 207) (ev_L 207) (ev_r 207) ∈ tables_1 := ev_t1 (List.mem_of_getElem? (i := 130) rfl)
set_option maxRecDepth 100000 in
theorem ev_c208 : Cond.code (ev_y 208) (ev_b 208) (ev_L 208) (ev_r 208) ∈ tables_1 := ev_t1 (List.mem_of_getElem? (i := 124) rfl)
set_option maxRecDepth 100000 in
theorem ev_c209 : Cond.code (ev_y 209) (ev_b 209) (ev_L 209) (ev_r 209) ∈ tables_1 := ev_t1 (List.mem_of_getElem? (i := 134) rfl)
set_option maxRecDepth 100000 in
theorem ev_c210 : Cond.code (ev_y 210) (ev_b 210) (ev_L 210) (ev_r 210) ∈ tables_1 := ev_t1 (List.mem_of_getElem? (i := 140) rfl)
set_option maxRecDepth 100000 in
theorem ev_c211 : Cond.code (ev_y 211) (ev_b 211) (ev_L 211) (ev_r 211) ∈ tables_1 := ev_t1 (List.mem_of_getElem? (i := 137) rfl)
set_option maxRecDepth 100000 in
theorem ev_c212 : Cond.code (ev_y 212) (ev_b 212) (ev_L 212) (ev_r 212) ∈ tables_1 := ev_t1 (List.mem_of_getElem? (i := 145) rfl)
theorem ev_code (mi : Nat) (h : mi < 213) : Cond.code (ev_y mi) (ev_b mi) (ev_L mi) (ev_r mi) ∈ ev_UW := by
  have key : ∀ i, i < 213 → Cond.code (ev_y i) (ev_b i) (ev_L i) (ev_r i) ∈ tables_1 := by
    intro i hi
    match i, hi with
    | 0, _ => exact ev_c0
    | 1, _ => exact ev_c1
    | 2, _ => exact ev_c2
    | 3, _ => exact ev_c3
    | 4, _ => exact ev_c4
    | 5, _ => exact ev_c5
    | 6, _ => exact ev_c6
    | 7, _ => exact ev_c7
    | 8, _ => exact ev_c8
    | 9, _ => exact ev_c9
    | 10, _ => exact ev_c10
    | 11, _ => exact ev_c11
    | 12, _ => exact ev_c12
    | 13, _ => exact ev_c13
    | 14, _ => exact ev_c14
    | 15, _ => exact ev_c15
    | 16, _ => exact ev_c16
    | 17, _ => exact ev_c17
    | 18, _ => exact ev_c18
    | 19, _ => exact ev_c19
    | 20, _ => exact ev_c20
    | 21, _ => exact ev_c21
    | 22, _ => exact ev_c22
    | 23, _ => exact ev_c23
    | 24, _ => exact ev_c24
    | 25, _ => exact ev_c25
    | 26, _ => exact ev_c26
    | 27, _ => exact ev_c27
    | 28, _ => exact ev_c28
    | 29, _ => exact ev_c29
    | 30, _ => exact ev_c30
    | 31, _ => exact ev_c31
    | 32, _ => exact ev_c32
    | 33, _ => exact ev_c33
    | 34, _ => exact ev_c34
    | 35, _ => exact ev_c35
    | 36, _ => exact ev_c36
    | 37, _ => exact ev_c37
    | 38, _ => exact ev_c38
    | 39, _ => exact ev_c39
    | 40, _ => exact ev_c40
    | 41, _ => exact ev_c41
    | 42, _ => exact ev_c42
    | 43, _ => exact ev_c43
    | 44, _ => exact ev_c44
    | 45, _ => exact ev_c45
    | 46, _ => exact ev_c46
    | 47, _ => exact ev_c47
    | 48, _ => exact ev_c48
    | 49, _ => exact ev_c49
    | 50, _ => exact ev_c50
    | 51, _ => exact ev_c51
    | 52, _ => exact ev_c52
    | 53, _ => exact ev_c53
    | 54, _ => exact ev_c54
    | 55, _ => exact ev_c55
    | 56, _ => exact ev_c56
    | 57, _ => exact ev_c57
    | 58, _ => exact ev_c58
    | 59, _ => exact ev_c59
    | 60, _ => exact ev_c60
    | 61, _ => exact ev_c61
    | 62, _ => exact ev_c62
    | 63, _ => exact ev_c63
    | 64, _ => exact ev_c64
    | 65, _ => exact ev_c65
    | 66, _ => exact ev_c66
    | 67, _ => exact ev_c67
    | 68, _ => exact ev_c68
    | 69, _ => exact ev_c69
    | 70, _ => exact ev_c70
    | 71, _ => exact ev_c71
    | 72, _ => exact ev_c72
    | 73, _ => exact ev_c73
    | 74, _ => exact ev_c74
    | 75, _ => exact ev_c75
    | 76, _ => exact ev_c76
    | 77, _ => exact ev_c77
    | 78, _ => exact ev_c78
    | 79, _ => exact ev_c79
    | 80, _ => exact ev_c80
    | 81, _ => exact ev_c81
    | 82, _ => exact ev_c82
    | 83, _ => exact ev_c83
    | 84, _ => exact ev_c84
    | 85, _ => exact ev_c85
    | 86, _ => exact ev_c86
    | 87, _ => exact ev_c87
    | 88, _ => exact ev_c88
    | 89, _ => exact ev_c89
    | 90, _ => exact ev_c90
    | 91, _ => exact ev_c91
    | 92, _ => exact ev_c92
    | 93, _ => exact ev_c93
    | 94, _ => exact ev_c94
    | 95, _ => exact ev_c95
    | 96, _ => exact ev_c96
    | 97, _ => exact ev_c97
    | 98, _ => exact ev_c98
    | 99, _ => exact ev_c99
    | 100, _ => exact ev_c100
    | 101, _ => exact ev_c101
    | 102, _ => exact ev_c102
    | 103, _ => exact ev_c103
    | 104, _ => exact ev_c104
    | 105, _ => exact ev_c105
    | 106, _ => exact ev_c106
    | 107, _ => exact ev_c107
    | 108, _ => exact ev_c108
    | 109, _ => exact ev_c109
    | 110, _ => exact ev_c110
    | 111, _ => exact ev_c111
    | 112, _ => exact ev_c112
    | 113, _ => exact ev_c113
    | 114, _ => exact ev_c114
    | 115, _ => exact ev_c115
    | 116, _ => exact ev_c116
    | 117, _ => exact ev_c117
    | 118, _ => exact ev_c118
    | 119, _ => exact ev_c119
    | 120, _ => exact ev_c120
    | 121, _ => exact ev_c121
    | 122, _ => exact ev_c122
    | 123, _ => exact ev_c123
    | 124, _ => exact ev_c124
    | 125, _ => exact ev_c125
    | 126, _ => exact ev_c126
    | 127, _ => exact ev_c127
    | 128, _ => exact ev_c128
    | 129, _ => exact ev_c129
    | 130, _ => exact ev_c130
    | 131, _ => exact ev_c131
    | 132, _ => exact ev_c132
    | 133, _ => exact ev_c133
    | 134, _ => exact ev_c134
    | 135, _ => exact ev_c135
    | 136, _ => exact ev_c136
    | 137, _ => exact ev_c137
    | 138, _ => exact ev_c138
    | 139, _ => exact ev_c139
    | 140, _ => exact ev_c140
    | 141, _ => exact ev_c141
    | 142, _ => exact ev_c142
    | 143, _ => exact ev_c143
    | 144, _ => exact ev_c144
    | 145, _ => exact ev_c145
    | 146, _ => exact ev_c146
    | 147, _ => exact ev_c147
    | 148, _ => exact ev_c148
    | 149, _ => exact ev_c149
    | 150, _ => exact ev_c150
    | 151, _ => exact ev_c151
    | 152, _ => exact ev_c152
    | 153, _ => exact ev_c153
    | 154, _ => exact ev_c154
    | 155, _ => exact ev_c155
    | 156, _ => exact ev_c156
    | 157, _ => exact ev_c157
    | 158, _ => exact ev_c158
    | 159, _ => exact ev_c159
    | 160, _ => exact ev_c160
    | 161, _ => exact ev_c161
    | 162, _ => exact ev_c162
    | 163, _ => exact ev_c163
    | 164, _ => exact ev_c164
    | 165, _ => exact ev_c165
    | 166, _ => exact ev_c166
    | 167, _ => exact ev_c167
    | 168, _ => exact ev_c168
    | 169, _ => exact ev_c169
    | 170, _ => exact ev_c170
    | 171, _ => exact ev_c171
    | 172, _ => exact ev_c172
    | 173, _ => exact ev_c173
    | 174, _ => exact ev_c174
    | 175, _ => exact ev_c175
    | 176, _ => exact ev_c176
    | 177, _ => exact ev_c177
    | 178, _ => exact ev_c178
    | 179, _ => exact ev_c179
    | 180, _ => exact ev_c180
    | 181, _ => exact ev_c181
    | 182, _ => exact ev_c182
    | 183, _ => exact ev_c183
    | 184, _ => exact ev_c184
    | 185, _ => exact ev_c185
    | 186, _ => exact ev_c186
    | 187, _ => exact ev_c187
    | 188, _ => exact ev_c188
    | 189, _ => exact ev_c189
    | 190, _ => exact ev_c190
    | 191, _ => exact ev_c191
    | 192, _ => exact ev_c192
    | 193, _ => exact ev_c193
    | 194, _ => exact ev_c194
    | 195, _ => exact ev_c195
    | 196, _ => exact ev_c196
    | 197, _ => exact ev_c197
    | 198, _ => exact ev_c198
    | 199, _ => exact ev_c199
    | 200, _ => exact ev_c200
    | 201, _ => exact ev_c201
    | 202, _ => exact ev_c202
    | 203, _ => exact ev_c203
    | 204, _ => exact ev_c204
    | 205, _ => exact ev_c205
    | 206, _ => exact ev_c206
    | 207, _ => exact ev_c207
    | 208, _ => exact ev_c208
    | 209, _ => exact ev_c209
    | 210, _ => exact ev_c210
    | 211, _ => exact ev_c211
    | 212, _ => exact ev_c212
    | n + 213, hi => exact absurd hi (by omega)
  exact List.mem_filter.mpr ⟨List.mem_append_right _ (key mi h), rfl⟩

/-! ===== what the constant pools name ===== -/
def isNst : Cond → Bool
  | .fieldLinkNest .. => true
  | .methodLinkNest .. => true
  | _ => false
/-- the words of nest mates: they aren't taken along by themselves, a contract's start holds them -/
def nws : List Cond := lw_tbl.filter isNst
theorem nats {β : Type} {l : List β} {f : β → Nat} {g : β → Cond} (h : l.map (fun q => lw_tbl[f q]?) = l.map (fun q => some (g q))) (hg : ∀ q, isNst (g q) = true) : ∀ q ∈ l, g q ∈ nws := fun q hq => List.mem_filter.mpr ⟨List.mem_of_getElem? (List.map_inj_left.mp h q hq), hg q⟩
theorem nws_warm {s U : State} (hW : s.WarmedH U.vm) (h : ∀ w ∈ nws, va_Nw w s) : ∀ w ∈ nws, va_Nw w U := by
  intro w hw
  have h1 := (List.mem_filter.mp hw).2
  have h2 := h w hw
  cases w <;> first | exact va_Nw.warmF hW h2 | exact va_Nw.warmM hW h2 | cases h1
theorem nws_same {u U : State} (hv : u.vm = U.vm) (h : ∀ w ∈ nws, va_Nw w u) : ∀ w ∈ nws, va_Nw w U := by
  intro w hw
  have h1 := (List.mem_filter.mp hw).2
  have h2 := h w hw
  cases w <;> first | exact va_Nw.same rfl hv h2 | cases h1
def oNs : List String := ["SewnRoads$Laws", "SewnRoads$Net", "SewnRoads$Past", "SewnRoads$Plan", "SewnRoads$Reader", "SewnRoads$Rules", "SewnRoads$Search", "SewnRoads$Season", "SewnRoads$State", "SewnRoads$Tape", "SewnRoads$Tokens", "SewnRoads", "SewnRoadsModel", "SewnRoadsLaw", "java/util/Arrays", "java/lang/Integer"]
def oN (o : Nat) : String := oNs.getD o ""
def fl_t : List (List (Nat × Nat × Nat × Nat)) := [[(11, 0, 0, 184), (15, 0, 1, 185), (18, 0, 2, 186), (21, 0, 3, 187)],
  [(9, 1, 1, 490), (15, 1, 0, 489), (19, 3, 1, 210), (29, 3, 10, 245), (46, 3, 8, 237), (49, 3, 9, 241), (63, 3, 0, 206)],
  [(11, 2, 0, 454), (17, 2, 1, 455), (21, 2, 2, 456)],
  [(9, 3, 8, 236), (15, 3, 9, 240), (18, 3, 10, 244), (21, 3, 11, 247), (24, 3, 12, 250), (27, 3, 13, 252), (30, 3, 14, 254), (33, 3, 15, 257), (36, 3, 16, 260), (42, 3, 17, 263), (49, 3, 0, 203), (53, 3, 1, 208), (56, 3, 2, 216), (59, 3, 3, 219), (62, 3, 4, 224), (65, 3, 5, 228), (68, 3, 6, 230), (71, 3, 7, 233)],
  [(12, 4, 0, 380), (18, 4, 1, 382), (25, 4, 2, 384), (29, 4, 3, 385), (33, 4, 4, 386), (37, 4, 5, 387), (40, 4, 6, 388), (43, 4, 7, 389), (46, 4, 8, 390), (49, 4, 9, 391), (52, 4, 10, 392), (87, 3, 5, 229), (90, 3, 6, 231), (93, 3, 7, 234), (99, 3, 0, 204), (113, 3, 1, 212), (134, 3, 2, 217), (137, 3, 4, 225), (140, 3, 3, 221), (151, 3, 17, 265)],
  [(9, 5, 1, 472), (15, 5, 2, 473), (18, 5, 0, 471), (26, 3, 17, 264), (42, 3, 11, 248), (51, 8, 2, 433), (56, 8, 0, 426), (64, 8, 1, 429), (67, 3, 1, 214), (74, 3, 13, 253)],
  [(9, 6, 2, 534), (15, 6, 3, 535), (18, 6, 4, 536), (21, 6, 5, 537), (24, 6, 6, 538), (28, 6, 0, 532), (32, 6, 1, 533), (36, 3, 1, 211), (45, 3, 0, 205), (62, 1, 1, 491)],
  [(9, 7, 3, 508), (15, 7, 4, 509), (18, 7, 5, 511), (21, 7, 0, 505), (25, 7, 1, 506), (29, 7, 2, 507), (33, 3, 1, 209), (39, 8, 2, 432), (44, 8, 0, 425), (71, 3, 6, 232), (109, 3, 3, 222), (122, 3, 15, 259), (136, 3, 16, 262), (149, 3, 10, 246), (156, 1, 1, 492), (159, 3, 8, 239), (162, 3, 9, 243)],
  [(9, 8, 2, 431), (15, 8, 3, 435), (18, 8, 0, 424), (22, 3, 5, 227), (27, 8, 1, 428), (28, 3, 12, 251), (41, 3, 3, 220), (43, 3, 14, 255), (54, 3, 1, 213)],
  [(9, 9, 0, 144), (15, 9, 1, 145)],
  [(9, 10, 0, 362), (15, 10, 1, 364), (18, 10, 2, 365), (22, 10, 3, 366), (25, 10, 4, 367), (83, 9, 1, 147)],
  [(10, 11, 0, 569), (19, 11, 1, 570), (26, 11, 2, 571), (33, 11, 3, 572), (37, 11, 4, 573), (43, 11, 5, 574), (47, 11, 6, 575), (51, 11, 7, 576), (60, 11, 8, 577), (67, 11, 9, 578), (76, 11, 10, 579), (85, 11, 11, 580), (89, 11, 12, 581), (104, 9, 1, 146), (111, 4, 1, 383), (112, 4, 0, 381), (128, 8, 2, 434), (132, 3, 8, 238), (135, 3, 9, 242), (138, 3, 11, 249), (140, 8, 0, 427), (157, 3, 14, 256), (160, 3, 15, 258), (163, 3, 16, 261), (186, 8, 1, 430), (201, 3, 7, 235), (222, 7, 4, 510), (232, 1, 1, 493), (253, 3, 0, 207), (260, 5, 2, 474), (280, 7, 5, 512), (286, 3, 1, 215), (289, 3, 4, 226), (314, 6, 6, 539), (330, 3, 2, 218), (333, 3, 3, 223), (339, 2, 2, 457)],
  [(13, 12, 1, 1329), (17, 12, 3, 1331), (20, 12, 5, 1333), (24, 12, 6, 1334), (27, 12, 7, 1335), (30, 12, 8, 1336), (34, 12, 9, 1337), (37, 12, 17, 1345), (40, 12, 21, 1349), (43, 12, 22, 1350), (46, 12, 23, 1351), (49, 12, 24, 1352), (52, 12, 25, 1353), (55, 12, 26, 1354), (58, 12, 27, 1355), (61, 12, 28, 1356), (64, 12, 29, 1357), (67, 12, 30, 1358), (70, 12, 31, 1359), (73, 12, 32, 1360), (76, 12, 33, 1361), (79, 12, 34, 1362), (82, 12, 35, 1363), (85, 12, 36, 1364), (88, 12, 37, 1365), (91, 12, 38, 1366), (94, 12, 39, 1367), (97, 12, 41, 1369), (101, 12, 42, 1370), (104, 12, 43, 1371), (107, 12, 44, 1372), (110, 12, 45, 1373), (113, 12, 47, 1375), (116, 12, 48, 1376), (119, 12, 49, 1377), (122, 12, 51, 1379), (125, 12, 52, 1380), (128, 12, 54, 1382), (131, 12, 55, 1383), (134, 12, 58, 1386), (137, 12, 59, 1387), (140, 12, 60, 1388), (143, 12, 61, 1389), (146, 12, 63, 1391), (149, 12, 64, 1392), (152, 12, 66, 1394), (155, 12, 67, 1395), (158, 12, 68, 1396), (161, 12, 69, 1397), (164, 12, 70, 1398), (167, 12, 71, 1399), (184, 12, 2, 1330), (190, 12, 4, 1332), (199, 12, 10, 1338), (221, 12, 13, 1341), (224, 12, 11, 1339), (227, 12, 14, 1342), (230, 12, 15, 1343), (233, 12, 16, 1344), (248, 12, 12, 1340), (251, 12, 18, 1346), (254, 12, 19, 1347), (257, 12, 20, 1348), (260, 12, 40, 1368), (263, 12, 46, 1374), (269, 12, 62, 1390), (272, 12, 65, 1393), (321, 12, 50, 1378), (334, 12, 53, 1381), (342, 12, 56, 1384), (345, 12, 57, 1385)],
  [],
  [],
  []]
def fn_t : List (List (Nat × Nat × Nat × Nat)) := [[],
  [],
  [],
  [],
  [(184, 10, 0, 363)],
  [],
  [],
  [],
  [],
  [],
  [],
  [],
  [],
  [],
  [],
  []]
def ml_t : List (List (Nat × Nat × Nat × Nat × Nat)) := [[(25, 1, 0, 24, 172), (28, 9, 3, 31, 176), (48, 8, 3, 0, 900), (52, 5, 2, 28, 180)],
  [(32, 11, 2, 32, 1090), (36, 12, 2, 33, 1103), (40, 300, 2, 23, 1011), (52, 22, 3, 43, 1013), (56, 21, 2, 42, 1137), (60, 13, 3, 34, 1099), (66, 20, 2, 41, 1169), (74, 276, 1, 22, 1173), (80, 15, 1, 36, 1017)],
  [(25, 91, 1, 101, 950)],
  [(46, 28, 0, 47, 198), (74, 1, 0, 24, 202), (81, 2, 1, 25, 851), (85, 33, 0, 52, 856)],
  [(55, 28, 0, 47, 633), (58, 108, 1, 116, 634), (62, 105, 1, 113, 740), (66, 36, 0, 54, 741), (69, 106, 1, 114, 773), (72, 37, 0, 55, 745), (75, 38, 0, 56, 777), (78, 39, 0, 57, 800), (81, 40, 0, 58, 804), (84, 41, 1, 59, 812), (96, 42, 0, 60, 816), (102, 46, 1, 64, 749), (106, 47, 1, 65, 753), (109, 49, 2, 67, 757), (116, 51, 1, 69, 781), (119, 32, 2, 51, 785), (123, 48, 2, 66, 769), (126, 52, 3, 70, 789), (130, 30, 4, 49, 796), (143, 31, 3, 50, 808), (155, 3, 0, 26, 820), (161, 43, 1, 61, 824), (165, 5, 2, 28, 836), (168, 6, 1, 29, 837), (171, 4, 2, 27, 841), (174, 44, 1, 62, 828), (177, 45, 1, 63, 832), (180, 107, 1, 115, 765), (186, 50, 1, 68, 761)],
  [(22, 61, 3, 78, 891), (32, 7, 2, 30, 895), (38, 62, 1, 1, 903), (60, 54, 3, 71, 945), (70, 59, 3, 76, 1120)],
  [(48, 14, 3, 35, 1251), (54, 72, 3, 2, 1252), (58, 15, 1, 36, 1255), (65, 69, 2, 84, 1260), (68, 70, 3, 85, 1273), (71, 71, 4, 86, 1277)],
  [(47, 56, 3, 73, 999), (53, 300, 2, 23, 981), (59, 82, 1, 95, 982), (63, 77, 2, 90, 1036), (67, 86, 2, 99, 1047), (74, 87, 2, 3, 1040), (78, 81, 3, 94, 1149), (81, 78, 1, 91, 1197), (84, 16, 3, 37, 1198), (95, 55, 5, 72, 1051), (99, 97, 1, 107, 986), (103, 96, 1, 106, 991), (106, 74, 1, 87, 995), (115, 83, 3, 96, 1001), (119, 92, 2, 102, 1005), (125, 14, 3, 35, 1006), (129, 84, 2, 97, 1021), (132, 94, 3, 104, 1030), (139, 57, 4, 74, 1034), (143, 85, 2, 98, 1025), (146, 93, 3, 103, 1035), (152, 15, 1, 36, 1029), (168, 88, 2, 4, 1043)],
  [(35, 300, 2, 23, 562), (46, 93, 3, 103, 565), (50, 92, 2, 102, 971), (57, 95, 1, 105, 990)],
  [],
  [(41, 115, 2, 6, 358), (45, 114, 2, 5, 638), (49, 109, 2, 117, 648), (52, 105, 1, 113, 736), (56, 103, 1, 112, 641), (61, 117, 1, 8, 652), (65, 110, 2, 118, 655), (68, 118, 1, 9, 667), (71, 111, 2, 119, 670), (74, 113, 3, 121, 663), (85, 112, 1, 120, 659), (93, 116, 1, 7, 645)],
  [(93, 90, 1, 100, 555), (96, 101, 1, 110, 613), (100, 102, 1, 111, 617), (107, 35, 1, 53, 629), (115, 29, 1, 48, 846), (118, 24, 0, 44, 863), (121, 64, 0, 79, 867), (122, 155, 0, 157, 871), (125, 162, 1, 164, 883), (143, 54, 3, 71, 887), (147, 55, 5, 72, 908), (151, 56, 3, 73, 912), (154, 163, 1, 165, 920), (166, 164, 3, 10, 924), (170, 92, 2, 102, 925), (174, 57, 4, 74, 933), (178, 58, 2, 75, 941), (182, 25, 1, 45, 946), (194, 95, 1, 105, 967), (197, 93, 3, 103, 972), (204, 75, 3, 88, 977), (208, 26, 1, 46, 1057), (212, 160, 1, 162, 1065), (215, 74, 1, 87, 1069), (218, 96, 1, 106, 1070), (225, 14, 3, 35, 1071), (229, 15, 1, 36, 1072), (235, 165, 2, 11, 1077), (239, 11, 2, 32, 1078), (242, 12, 2, 33, 1086), (245, 18, 1, 39, 1095), (249, 59, 3, 76, 1108), (256, 60, 2, 77, 1116), (263, 17, 2, 38, 1121), (267, 161, 2, 163, 1129), (270, 16, 3, 37, 1133), (274, 78, 1, 91, 1145), (277, 79, 1, 92, 1153), (283, 19, 1, 40, 1165), (292, 99, 2, 109, 1184), (296, 80, 4, 93, 1193), (300, 157, 1, 159, 1204), (303, 76, 0, 89, 1217), (307, 158, 4, 160, 1221), (311, 65, 3, 80, 1230), (317, 159, 1, 161, 1242), (320, 276, 1, 22, 1264), (325, 68, 1, 83, 1269), (328, 91, 1, 101, 1208), (336, 97, 1, 107, 1294), (342, 156, 0, 158, 1295), (346, 77, 2, 90, 1299), (349, 98, 1, 108, 1300), (352, 13, 3, 34, 1225), (355, 66, 2, 81, 1246), (359, 67, 2, 82, 1256)],
  [(170, 183, 1, 178, 1310), (174, 174, 7, 15, 1314), (178, 208, 0, 201, 1321), (181, 209, 0, 202, 1325), (187, 168, 1, 167, 1549), (195, 173, 2, 14, 1317), (202, 170, 1, 169, 1565), (206, 175, 4, 170, 1569), (210, 172, 1, 13, 1573), (214, 171, 1, 12, 1576), (217, 177, 3, 172, 1579), (236, 179, 1, 174, 1595), (239, 178, 1, 173, 1583), (242, 181, 0, 176, 1599), (245, 176, 0, 171, 1561), (266, 188, 0, 183, 1587), (275, 192, 2, 187, 1631), (279, 182, 1, 177, 1607), (282, 186, 2, 181, 1591), (286, 189, 0, 184, 1603), (290, 190, 2, 185, 1615), (293, 194, 0, 189, 1619), (296, 195, 0, 190, 1635), (299, 187, 2, 182, 1639), (302, 196, 1, 191, 1643), (305, 180, 2, 175, 1611), (308, 191, 0, 186, 1623), (311, 193, 2, 188, 1627), (315, 200, 0, 195, 1647), (318, 197, 0, 192, 1663), (324, 198, 2, 193, 1655), (327, 201, 0, 196, 1651), (330, 199, 1, 194, 1659), (338, 203, 3, 16, 1679), (349, 211, 2, 18, 1794), (352, 213, 1, 205, 1694), (355, 216, 1, 208, 1702), (358, 204, 3, 17, 1710), (361, 202, 2, 197, 1706), (364, 214, 1, 206, 1690), (367, 215, 2, 207, 1698), (370, 219, 1, 211, 1717), (374, 222, 1, 214, 1782), (377, 224, 2, 216, 1786), (380, 225, 1, 217, 1778), (383, 220, 2, 212, 1733), (386, 221, 0, 213, 1769), (389, 226, 1, 218, 1774), (392, 212, 0, 204, 1790), (396, 218, 3, 210, 1713), (400, 227, 0, 219, 1765), (403, 206, 1, 199, 1675), (406, 210, 0, 203, 1682), (409, 217, 1, 209, 1686), (412, 207, 1, 200, 1725), (415, 232, 0, 224, 1741), (418, 228, 1, 220, 1761), (421, 205, 1, 198, 1806), (424, 223, 2, 215, 1814), (427, 241, 1, 233, 1822), (430, 245, 1, 19, 1834), (433, 244, 2, 236, 1837), (436, 247, 2, 238, 1845), (439, 251, 2, 242, 1861), (442, 253, 1, 244, 1869), (445, 255, 1, 20, 1877), (448, 264, 1, 254, 1912), (451, 263, 2, 253, 1916), (454, 265, 1, 255, 1908), (457, 266, 1, 21, 1920), (460, 268, 3, 257, 1927)],
  [(13, 120, 5, 122, 609), (17, 167, 5, 166, 1545), (18, 121, 1, 123, 621), (22, 169, 1, 168, 1553), (23, 122, 0, 124, 625), (27, 184, 0, 179, 1557), (28, 123, 0, 125, 875), (31, 185, 0, 180, 1667), (32, 124, 2, 126, 879), (36, 229, 2, 221, 1671), (37, 125, 2, 127, 916), (40, 230, 2, 222, 1721), (41, 126, 2, 128, 929), (44, 231, 2, 223, 1729), (45, 127, 2, 129, 937), (48, 233, 2, 225, 1737), (49, 128, 1, 130, 954), (52, 234, 1, 226, 1745), (53, 129, 2, 131, 958), (56, 235, 2, 227, 1749), (57, 130, 1, 132, 963), (61, 236, 1, 228, 1753), (62, 131, 1, 133, 973), (65, 237, 1, 229, 1757), (66, 132, 0, 134, 1053), (70, 238, 0, 230, 1798), (71, 133, 2, 135, 1061), (74, 239, 2, 231, 1802), (75, 134, 2, 136, 1073), (78, 240, 2, 232, 1810), (79, 135, 1, 137, 1082), (82, 242, 1, 234, 1818), (83, 136, 0, 138, 1091), (86, 243, 0, 235, 1826), (87, 137, 2, 139, 1104), (90, 246, 2, 237, 1830), (91, 138, 3, 140, 1112), (95, 248, 3, 239, 1841), (96, 139, 2, 141, 1125), (99, 249, 2, 240, 1849), (100, 140, 2, 142, 1141), (103, 250, 2, 241, 1853), (104, 141, 2, 143, 1157), (107, 252, 2, 243, 1857), (108, 142, 0, 144, 1161), (111, 254, 0, 245, 1865), (112, 143, 1, 145, 1180), (115, 256, 1, 246, 1873), (116, 144, 3, 146, 1189), (119, 257, 3, 247, 1880), (120, 145, 2, 147, 1200), (123, 258, 2, 248, 1884), (124, 146, 3, 148, 1209), (127, 259, 3, 249, 1888), (128, 147, 4, 149, 1213), (132, 260, 4, 250, 1892), (133, 148, 3, 150, 1226), (136, 261, 3, 251, 1896), (137, 149, 0, 151, 1234), (140, 262, 0, 252, 1900), (141, 150, 2, 152, 1238), (144, 267, 2, 256, 1904), (145, 151, 1, 153, 1265), (148, 269, 1, 258, 1923), (149, 152, 1, 154, 1282), (152, 270, 1, 259, 1931), (153, 153, 1, 155, 1286), (156, 271, 1, 260, 1935), (157, 154, 1, 156, 1290), (160, 272, 1, 261, 1939)],
  [],
  []]
def mn_t : List (List (Nat × Nat × Nat × Nat × Nat)) := [[(38, 164, 3, 10, 845)],
  [(25, 165, 2, 11, 1012)],
  [],
  [(88, 165, 2, 11, 860)],
  [(147, 164, 3, 10, 793)],
  [],
  [(41, 165, 2, 11, 1250)],
  [(112, 165, 2, 11, 1000)],
  [],
  [],
  [],
  [],
  [],
  [],
  [],
  []]
def flk (o : Nat) : List (Nat × Nat × Nat × Nat) := fl_t.getD o []
def fnk (o : Nat) : List (Nat × Nat × Nat × Nat) := fn_t.getD o []
def mlk (o : Nat) : List (Nat × Nat × Nat × Nat × Nat) := ml_t.getD o []
def mnk (o : Nat) : List (Nat × Nat × Nat × Nat × Nat) := mn_t.getD o []
def fW (o idx a b : Nat) : Cond := Cond.fieldLink (oN o) idx ((cT a).2.1 b).1 ((cT a).2.1 b).2.1 ((cT a).2.1 b).2.2.1
def fV (o idx a b : Nat) : Cond := Cond.fieldLinkNest (oN o) idx ((cT a).2.1 b).1 ((cT a).2.1 b).2.1 ((cT a).2.1 b).2.2.1 "SewnRoads"
def mW (o idx y : Nat) : Cond := Cond.methodLink (oN o) idx (mN y)
def mV (o idx y : Nat) : Cond := Cond.methodLinkNest (oN o) idx (mN y) "SewnRoads"
def mP (y n : Nat) : Prop := (parseMethodDescriptor (mN y).desc).map (fun d => d.parameters.length) = some n
theorem mws_at {y i : Nat} (h : mws[i]? = some y) : mF y := mF_all (List.mem_of_getElem? h)
set_option maxRecDepth 100000 in
theorem fl_0_0 : (((flk 0).drop 0).take 30).map (fun q => lw_tbl[q.2.2.2]?) = (((flk 0).drop 0).take 30).map (fun q => some (fW 0 q.1 q.2.1 q.2.2.1)) := rfl
set_option maxRecDepth 100000 in
theorem flb_0 : ∀ q ∈ flk 0, q.2.1 < 13 ∧ q.2.2.1 < (cT q.2.1).2.2 := by decide +kernel
set_option maxRecDepth 100000 in
theorem fn_0_0 : (((fnk 0).drop 0).take 30).map (fun q => lw_tbl[q.2.2.2]?) = (((fnk 0).drop 0).take 30).map (fun q => some (fV 0 q.1 q.2.1 q.2.2.1)) := rfl
set_option maxRecDepth 100000 in
theorem fnb_0 : ∀ q ∈ fnk 0, q.2.1 < 13 ∧ q.2.2.1 < (cT q.2.1).2.2 := by decide +kernel
set_option maxRecDepth 100000 in
theorem ml_0_0 : (((mlk 0).drop 0).take 30).map (fun q => lw_tbl[q.2.2.2.2]?) = (((mlk 0).drop 0).take 30).map (fun q => some (mW 0 q.1 q.2.1)) := rfl
set_option maxRecDepth 100000 in
theorem mlc_0_0 : (((mlk 0).drop 0).take 30).map (fun q => mws[q.2.2.2.1]?) = (((mlk 0).drop 0).take 30).map (fun q => some q.2.1) := rfl
set_option maxRecDepth 100000 in
theorem mlb_0 : ∀ q ∈ mlk 0, (parseMethodDescriptor (mN q.2.1).desc).map (fun d => d.parameters.length) = some q.2.2.1 := by decide +kernel
set_option maxRecDepth 100000 in
theorem mn_0_0 : (((mnk 0).drop 0).take 30).map (fun q => lw_tbl[q.2.2.2.2]?) = (((mnk 0).drop 0).take 30).map (fun q => some (mV 0 q.1 q.2.1)) := rfl
set_option maxRecDepth 100000 in
theorem mnc_0_0 : (((mnk 0).drop 0).take 30).map (fun q => mws[q.2.2.2.1]?) = (((mnk 0).drop 0).take 30).map (fun q => some q.2.1) := rfl
set_option maxRecDepth 100000 in
theorem mnb_0 : ∀ q ∈ mnk 0, (parseMethodDescriptor (mN q.2.1).desc).map (fun d => d.parameters.length) = some q.2.2.1 := by decide +kernel
set_option maxRecDepth 100000 in
theorem fl_1_0 : (((flk 1).drop 0).take 30).map (fun q => lw_tbl[q.2.2.2]?) = (((flk 1).drop 0).take 30).map (fun q => some (fW 1 q.1 q.2.1 q.2.2.1)) := rfl
set_option maxRecDepth 100000 in
theorem flb_1 : ∀ q ∈ flk 1, q.2.1 < 13 ∧ q.2.2.1 < (cT q.2.1).2.2 := by decide +kernel
set_option maxRecDepth 100000 in
theorem fn_1_0 : (((fnk 1).drop 0).take 30).map (fun q => lw_tbl[q.2.2.2]?) = (((fnk 1).drop 0).take 30).map (fun q => some (fV 1 q.1 q.2.1 q.2.2.1)) := rfl
set_option maxRecDepth 100000 in
theorem fnb_1 : ∀ q ∈ fnk 1, q.2.1 < 13 ∧ q.2.2.1 < (cT q.2.1).2.2 := by decide +kernel
set_option maxRecDepth 100000 in
theorem ml_1_0 : (((mlk 1).drop 0).take 30).map (fun q => lw_tbl[q.2.2.2.2]?) = (((mlk 1).drop 0).take 30).map (fun q => some (mW 1 q.1 q.2.1)) := rfl
set_option maxRecDepth 100000 in
theorem mlc_1_0 : (((mlk 1).drop 0).take 30).map (fun q => mws[q.2.2.2.1]?) = (((mlk 1).drop 0).take 30).map (fun q => some q.2.1) := rfl
set_option maxRecDepth 100000 in
theorem mlb_1 : ∀ q ∈ mlk 1, (parseMethodDescriptor (mN q.2.1).desc).map (fun d => d.parameters.length) = some q.2.2.1 := by decide +kernel
set_option maxRecDepth 100000 in
theorem mn_1_0 : (((mnk 1).drop 0).take 30).map (fun q => lw_tbl[q.2.2.2.2]?) = (((mnk 1).drop 0).take 30).map (fun q => some (mV 1 q.1 q.2.1)) := rfl
set_option maxRecDepth 100000 in
theorem mnc_1_0 : (((mnk 1).drop 0).take 30).map (fun q => mws[q.2.2.2.1]?) = (((mnk 1).drop 0).take 30).map (fun q => some q.2.1) := rfl
set_option maxRecDepth 100000 in
theorem mnb_1 : ∀ q ∈ mnk 1, (parseMethodDescriptor (mN q.2.1).desc).map (fun d => d.parameters.length) = some q.2.2.1 := by decide +kernel
set_option maxRecDepth 100000 in
theorem fl_2_0 : (((flk 2).drop 0).take 30).map (fun q => lw_tbl[q.2.2.2]?) = (((flk 2).drop 0).take 30).map (fun q => some (fW 2 q.1 q.2.1 q.2.2.1)) := rfl
set_option maxRecDepth 100000 in
theorem flb_2 : ∀ q ∈ flk 2, q.2.1 < 13 ∧ q.2.2.1 < (cT q.2.1).2.2 := by decide +kernel
set_option maxRecDepth 100000 in
theorem fn_2_0 : (((fnk 2).drop 0).take 30).map (fun q => lw_tbl[q.2.2.2]?) = (((fnk 2).drop 0).take 30).map (fun q => some (fV 2 q.1 q.2.1 q.2.2.1)) := rfl
set_option maxRecDepth 100000 in
theorem fnb_2 : ∀ q ∈ fnk 2, q.2.1 < 13 ∧ q.2.2.1 < (cT q.2.1).2.2 := by decide +kernel
set_option maxRecDepth 100000 in
theorem ml_2_0 : (((mlk 2).drop 0).take 30).map (fun q => lw_tbl[q.2.2.2.2]?) = (((mlk 2).drop 0).take 30).map (fun q => some (mW 2 q.1 q.2.1)) := rfl
set_option maxRecDepth 100000 in
theorem mlc_2_0 : (((mlk 2).drop 0).take 30).map (fun q => mws[q.2.2.2.1]?) = (((mlk 2).drop 0).take 30).map (fun q => some q.2.1) := rfl
set_option maxRecDepth 100000 in
theorem mlb_2 : ∀ q ∈ mlk 2, (parseMethodDescriptor (mN q.2.1).desc).map (fun d => d.parameters.length) = some q.2.2.1 := by decide +kernel
set_option maxRecDepth 100000 in
theorem mn_2_0 : (((mnk 2).drop 0).take 30).map (fun q => lw_tbl[q.2.2.2.2]?) = (((mnk 2).drop 0).take 30).map (fun q => some (mV 2 q.1 q.2.1)) := rfl
set_option maxRecDepth 100000 in
theorem mnc_2_0 : (((mnk 2).drop 0).take 30).map (fun q => mws[q.2.2.2.1]?) = (((mnk 2).drop 0).take 30).map (fun q => some q.2.1) := rfl
set_option maxRecDepth 100000 in
theorem mnb_2 : ∀ q ∈ mnk 2, (parseMethodDescriptor (mN q.2.1).desc).map (fun d => d.parameters.length) = some q.2.2.1 := by decide +kernel
set_option maxRecDepth 100000 in
theorem fl_3_0 : (((flk 3).drop 0).take 30).map (fun q => lw_tbl[q.2.2.2]?) = (((flk 3).drop 0).take 30).map (fun q => some (fW 3 q.1 q.2.1 q.2.2.1)) := rfl
set_option maxRecDepth 100000 in
theorem flb_3 : ∀ q ∈ flk 3, q.2.1 < 13 ∧ q.2.2.1 < (cT q.2.1).2.2 := by decide +kernel
set_option maxRecDepth 100000 in
theorem fn_3_0 : (((fnk 3).drop 0).take 30).map (fun q => lw_tbl[q.2.2.2]?) = (((fnk 3).drop 0).take 30).map (fun q => some (fV 3 q.1 q.2.1 q.2.2.1)) := rfl
set_option maxRecDepth 100000 in
theorem fnb_3 : ∀ q ∈ fnk 3, q.2.1 < 13 ∧ q.2.2.1 < (cT q.2.1).2.2 := by decide +kernel
set_option maxRecDepth 100000 in
theorem ml_3_0 : (((mlk 3).drop 0).take 30).map (fun q => lw_tbl[q.2.2.2.2]?) = (((mlk 3).drop 0).take 30).map (fun q => some (mW 3 q.1 q.2.1)) := rfl
set_option maxRecDepth 100000 in
theorem mlc_3_0 : (((mlk 3).drop 0).take 30).map (fun q => mws[q.2.2.2.1]?) = (((mlk 3).drop 0).take 30).map (fun q => some q.2.1) := rfl
set_option maxRecDepth 100000 in
theorem mlb_3 : ∀ q ∈ mlk 3, (parseMethodDescriptor (mN q.2.1).desc).map (fun d => d.parameters.length) = some q.2.2.1 := by decide +kernel
set_option maxRecDepth 100000 in
theorem mn_3_0 : (((mnk 3).drop 0).take 30).map (fun q => lw_tbl[q.2.2.2.2]?) = (((mnk 3).drop 0).take 30).map (fun q => some (mV 3 q.1 q.2.1)) := rfl
set_option maxRecDepth 100000 in
theorem mnc_3_0 : (((mnk 3).drop 0).take 30).map (fun q => mws[q.2.2.2.1]?) = (((mnk 3).drop 0).take 30).map (fun q => some q.2.1) := rfl
set_option maxRecDepth 100000 in
theorem mnb_3 : ∀ q ∈ mnk 3, (parseMethodDescriptor (mN q.2.1).desc).map (fun d => d.parameters.length) = some q.2.2.1 := by decide +kernel
set_option maxRecDepth 100000 in
theorem fl_4_0 : (((flk 4).drop 0).take 30).map (fun q => lw_tbl[q.2.2.2]?) = (((flk 4).drop 0).take 30).map (fun q => some (fW 4 q.1 q.2.1 q.2.2.1)) := rfl
set_option maxRecDepth 100000 in
theorem flb_4 : ∀ q ∈ flk 4, q.2.1 < 13 ∧ q.2.2.1 < (cT q.2.1).2.2 := by decide +kernel
set_option maxRecDepth 100000 in
theorem fn_4_0 : (((fnk 4).drop 0).take 30).map (fun q => lw_tbl[q.2.2.2]?) = (((fnk 4).drop 0).take 30).map (fun q => some (fV 4 q.1 q.2.1 q.2.2.1)) := rfl
set_option maxRecDepth 100000 in
theorem fnb_4 : ∀ q ∈ fnk 4, q.2.1 < 13 ∧ q.2.2.1 < (cT q.2.1).2.2 := by decide +kernel
set_option maxRecDepth 100000 in
theorem ml_4_0 : (((mlk 4).drop 0).take 30).map (fun q => lw_tbl[q.2.2.2.2]?) = (((mlk 4).drop 0).take 30).map (fun q => some (mW 4 q.1 q.2.1)) := rfl
set_option maxRecDepth 100000 in
theorem mlc_4_0 : (((mlk 4).drop 0).take 30).map (fun q => mws[q.2.2.2.1]?) = (((mlk 4).drop 0).take 30).map (fun q => some q.2.1) := rfl
set_option maxRecDepth 100000 in
theorem mlb_4 : ∀ q ∈ mlk 4, (parseMethodDescriptor (mN q.2.1).desc).map (fun d => d.parameters.length) = some q.2.2.1 := by decide +kernel
set_option maxRecDepth 100000 in
theorem mn_4_0 : (((mnk 4).drop 0).take 30).map (fun q => lw_tbl[q.2.2.2.2]?) = (((mnk 4).drop 0).take 30).map (fun q => some (mV 4 q.1 q.2.1)) := rfl
set_option maxRecDepth 100000 in
theorem mnc_4_0 : (((mnk 4).drop 0).take 30).map (fun q => mws[q.2.2.2.1]?) = (((mnk 4).drop 0).take 30).map (fun q => some q.2.1) := rfl
set_option maxRecDepth 100000 in
theorem mnb_4 : ∀ q ∈ mnk 4, (parseMethodDescriptor (mN q.2.1).desc).map (fun d => d.parameters.length) = some q.2.2.1 := by decide +kernel
set_option maxRecDepth 100000 in
theorem fl_5_0 : (((flk 5).drop 0).take 30).map (fun q => lw_tbl[q.2.2.2]?) = (((flk 5).drop 0).take 30).map (fun q => some (fW 5 q.1 q.2.1 q.2.2.1)) := rfl
set_option maxRecDepth 100000 in
theorem flb_5 : ∀ q ∈ flk 5, q.2.1 < 13 ∧ q.2.2.1 < (cT q.2.1).2.2 := by decide +kernel
set_option maxRecDepth 100000 in
theorem fn_5_0 : (((fnk 5).drop 0).take 30).map (fun q => lw_tbl[q.2.2.2]?) = (((fnk 5).drop 0).take 30).map (fun q => some (fV 5 q.1 q.2.1 q.2.2.1)) := rfl
set_option maxRecDepth 100000 in
theorem fnb_5 : ∀ q ∈ fnk 5, q.2.1 < 13 ∧ q.2.2.1 < (cT q.2.1).2.2 := by decide +kernel
set_option maxRecDepth 100000 in
theorem ml_5_0 : (((mlk 5).drop 0).take 30).map (fun q => lw_tbl[q.2.2.2.2]?) = (((mlk 5).drop 0).take 30).map (fun q => some (mW 5 q.1 q.2.1)) := rfl
set_option maxRecDepth 100000 in
theorem mlc_5_0 : (((mlk 5).drop 0).take 30).map (fun q => mws[q.2.2.2.1]?) = (((mlk 5).drop 0).take 30).map (fun q => some q.2.1) := rfl
set_option maxRecDepth 100000 in
theorem mlb_5 : ∀ q ∈ mlk 5, (parseMethodDescriptor (mN q.2.1).desc).map (fun d => d.parameters.length) = some q.2.2.1 := by decide +kernel
set_option maxRecDepth 100000 in
theorem mn_5_0 : (((mnk 5).drop 0).take 30).map (fun q => lw_tbl[q.2.2.2.2]?) = (((mnk 5).drop 0).take 30).map (fun q => some (mV 5 q.1 q.2.1)) := rfl
set_option maxRecDepth 100000 in
theorem mnc_5_0 : (((mnk 5).drop 0).take 30).map (fun q => mws[q.2.2.2.1]?) = (((mnk 5).drop 0).take 30).map (fun q => some q.2.1) := rfl
set_option maxRecDepth 100000 in
theorem mnb_5 : ∀ q ∈ mnk 5, (parseMethodDescriptor (mN q.2.1).desc).map (fun d => d.parameters.length) = some q.2.2.1 := by decide +kernel
set_option maxRecDepth 100000 in
theorem fl_6_0 : (((flk 6).drop 0).take 30).map (fun q => lw_tbl[q.2.2.2]?) = (((flk 6).drop 0).take 30).map (fun q => some (fW 6 q.1 q.2.1 q.2.2.1)) := rfl
set_option maxRecDepth 100000 in
theorem flb_6 : ∀ q ∈ flk 6, q.2.1 < 13 ∧ q.2.2.1 < (cT q.2.1).2.2 := by decide +kernel
set_option maxRecDepth 100000 in
theorem fn_6_0 : (((fnk 6).drop 0).take 30).map (fun q => lw_tbl[q.2.2.2]?) = (((fnk 6).drop 0).take 30).map (fun q => some (fV 6 q.1 q.2.1 q.2.2.1)) := rfl
set_option maxRecDepth 100000 in
theorem fnb_6 : ∀ q ∈ fnk 6, q.2.1 < 13 ∧ q.2.2.1 < (cT q.2.1).2.2 := by decide +kernel
set_option maxRecDepth 100000 in
theorem ml_6_0 : (((mlk 6).drop 0).take 30).map (fun q => lw_tbl[q.2.2.2.2]?) = (((mlk 6).drop 0).take 30).map (fun q => some (mW 6 q.1 q.2.1)) := rfl
set_option maxRecDepth 100000 in
theorem mlc_6_0 : (((mlk 6).drop 0).take 30).map (fun q => mws[q.2.2.2.1]?) = (((mlk 6).drop 0).take 30).map (fun q => some q.2.1) := rfl
set_option maxRecDepth 100000 in
theorem mlb_6 : ∀ q ∈ mlk 6, (parseMethodDescriptor (mN q.2.1).desc).map (fun d => d.parameters.length) = some q.2.2.1 := by decide +kernel
set_option maxRecDepth 100000 in
theorem mn_6_0 : (((mnk 6).drop 0).take 30).map (fun q => lw_tbl[q.2.2.2.2]?) = (((mnk 6).drop 0).take 30).map (fun q => some (mV 6 q.1 q.2.1)) := rfl
set_option maxRecDepth 100000 in
theorem mnc_6_0 : (((mnk 6).drop 0).take 30).map (fun q => mws[q.2.2.2.1]?) = (((mnk 6).drop 0).take 30).map (fun q => some q.2.1) := rfl
set_option maxRecDepth 100000 in
theorem mnb_6 : ∀ q ∈ mnk 6, (parseMethodDescriptor (mN q.2.1).desc).map (fun d => d.parameters.length) = some q.2.2.1 := by decide +kernel
set_option maxRecDepth 100000 in
theorem fl_7_0 : (((flk 7).drop 0).take 30).map (fun q => lw_tbl[q.2.2.2]?) = (((flk 7).drop 0).take 30).map (fun q => some (fW 7 q.1 q.2.1 q.2.2.1)) := rfl
set_option maxRecDepth 100000 in
theorem flb_7 : ∀ q ∈ flk 7, q.2.1 < 13 ∧ q.2.2.1 < (cT q.2.1).2.2 := by decide +kernel
set_option maxRecDepth 100000 in
theorem fn_7_0 : (((fnk 7).drop 0).take 30).map (fun q => lw_tbl[q.2.2.2]?) = (((fnk 7).drop 0).take 30).map (fun q => some (fV 7 q.1 q.2.1 q.2.2.1)) := rfl
set_option maxRecDepth 100000 in
theorem fnb_7 : ∀ q ∈ fnk 7, q.2.1 < 13 ∧ q.2.2.1 < (cT q.2.1).2.2 := by decide +kernel
set_option maxRecDepth 100000 in
theorem ml_7_0 : (((mlk 7).drop 0).take 30).map (fun q => lw_tbl[q.2.2.2.2]?) = (((mlk 7).drop 0).take 30).map (fun q => some (mW 7 q.1 q.2.1)) := rfl
set_option maxRecDepth 100000 in
theorem mlc_7_0 : (((mlk 7).drop 0).take 30).map (fun q => mws[q.2.2.2.1]?) = (((mlk 7).drop 0).take 30).map (fun q => some q.2.1) := rfl
set_option maxRecDepth 100000 in
theorem mlb_7 : ∀ q ∈ mlk 7, (parseMethodDescriptor (mN q.2.1).desc).map (fun d => d.parameters.length) = some q.2.2.1 := by decide +kernel
set_option maxRecDepth 100000 in
theorem mn_7_0 : (((mnk 7).drop 0).take 30).map (fun q => lw_tbl[q.2.2.2.2]?) = (((mnk 7).drop 0).take 30).map (fun q => some (mV 7 q.1 q.2.1)) := rfl
set_option maxRecDepth 100000 in
theorem mnc_7_0 : (((mnk 7).drop 0).take 30).map (fun q => mws[q.2.2.2.1]?) = (((mnk 7).drop 0).take 30).map (fun q => some q.2.1) := rfl
set_option maxRecDepth 100000 in
theorem mnb_7 : ∀ q ∈ mnk 7, (parseMethodDescriptor (mN q.2.1).desc).map (fun d => d.parameters.length) = some q.2.2.1 := by decide +kernel
set_option maxRecDepth 100000 in
theorem fl_8_0 : (((flk 8).drop 0).take 30).map (fun q => lw_tbl[q.2.2.2]?) = (((flk 8).drop 0).take 30).map (fun q => some (fW 8 q.1 q.2.1 q.2.2.1)) := rfl
set_option maxRecDepth 100000 in
theorem flb_8 : ∀ q ∈ flk 8, q.2.1 < 13 ∧ q.2.2.1 < (cT q.2.1).2.2 := by decide +kernel
set_option maxRecDepth 100000 in
theorem fn_8_0 : (((fnk 8).drop 0).take 30).map (fun q => lw_tbl[q.2.2.2]?) = (((fnk 8).drop 0).take 30).map (fun q => some (fV 8 q.1 q.2.1 q.2.2.1)) := rfl
set_option maxRecDepth 100000 in
theorem fnb_8 : ∀ q ∈ fnk 8, q.2.1 < 13 ∧ q.2.2.1 < (cT q.2.1).2.2 := by decide +kernel
set_option maxRecDepth 100000 in
theorem ml_8_0 : (((mlk 8).drop 0).take 30).map (fun q => lw_tbl[q.2.2.2.2]?) = (((mlk 8).drop 0).take 30).map (fun q => some (mW 8 q.1 q.2.1)) := rfl
set_option maxRecDepth 100000 in
theorem mlc_8_0 : (((mlk 8).drop 0).take 30).map (fun q => mws[q.2.2.2.1]?) = (((mlk 8).drop 0).take 30).map (fun q => some q.2.1) := rfl
set_option maxRecDepth 100000 in
theorem mlb_8 : ∀ q ∈ mlk 8, (parseMethodDescriptor (mN q.2.1).desc).map (fun d => d.parameters.length) = some q.2.2.1 := by decide +kernel
set_option maxRecDepth 100000 in
theorem mn_8_0 : (((mnk 8).drop 0).take 30).map (fun q => lw_tbl[q.2.2.2.2]?) = (((mnk 8).drop 0).take 30).map (fun q => some (mV 8 q.1 q.2.1)) := rfl
set_option maxRecDepth 100000 in
theorem mnc_8_0 : (((mnk 8).drop 0).take 30).map (fun q => mws[q.2.2.2.1]?) = (((mnk 8).drop 0).take 30).map (fun q => some q.2.1) := rfl
set_option maxRecDepth 100000 in
theorem mnb_8 : ∀ q ∈ mnk 8, (parseMethodDescriptor (mN q.2.1).desc).map (fun d => d.parameters.length) = some q.2.2.1 := by decide +kernel
set_option maxRecDepth 100000 in
theorem fl_9_0 : (((flk 9).drop 0).take 30).map (fun q => lw_tbl[q.2.2.2]?) = (((flk 9).drop 0).take 30).map (fun q => some (fW 9 q.1 q.2.1 q.2.2.1)) := rfl
set_option maxRecDepth 100000 in
theorem flb_9 : ∀ q ∈ flk 9, q.2.1 < 13 ∧ q.2.2.1 < (cT q.2.1).2.2 := by decide +kernel
set_option maxRecDepth 100000 in
theorem fn_9_0 : (((fnk 9).drop 0).take 30).map (fun q => lw_tbl[q.2.2.2]?) = (((fnk 9).drop 0).take 30).map (fun q => some (fV 9 q.1 q.2.1 q.2.2.1)) := rfl
set_option maxRecDepth 100000 in
theorem fnb_9 : ∀ q ∈ fnk 9, q.2.1 < 13 ∧ q.2.2.1 < (cT q.2.1).2.2 := by decide +kernel
set_option maxRecDepth 100000 in
theorem ml_9_0 : (((mlk 9).drop 0).take 30).map (fun q => lw_tbl[q.2.2.2.2]?) = (((mlk 9).drop 0).take 30).map (fun q => some (mW 9 q.1 q.2.1)) := rfl
set_option maxRecDepth 100000 in
theorem mlc_9_0 : (((mlk 9).drop 0).take 30).map (fun q => mws[q.2.2.2.1]?) = (((mlk 9).drop 0).take 30).map (fun q => some q.2.1) := rfl
set_option maxRecDepth 100000 in
theorem mlb_9 : ∀ q ∈ mlk 9, (parseMethodDescriptor (mN q.2.1).desc).map (fun d => d.parameters.length) = some q.2.2.1 := by decide +kernel
set_option maxRecDepth 100000 in
theorem mn_9_0 : (((mnk 9).drop 0).take 30).map (fun q => lw_tbl[q.2.2.2.2]?) = (((mnk 9).drop 0).take 30).map (fun q => some (mV 9 q.1 q.2.1)) := rfl
set_option maxRecDepth 100000 in
theorem mnc_9_0 : (((mnk 9).drop 0).take 30).map (fun q => mws[q.2.2.2.1]?) = (((mnk 9).drop 0).take 30).map (fun q => some q.2.1) := rfl
set_option maxRecDepth 100000 in
theorem mnb_9 : ∀ q ∈ mnk 9, (parseMethodDescriptor (mN q.2.1).desc).map (fun d => d.parameters.length) = some q.2.2.1 := by decide +kernel
set_option maxRecDepth 100000 in
theorem fl_10_0 : (((flk 10).drop 0).take 30).map (fun q => lw_tbl[q.2.2.2]?) = (((flk 10).drop 0).take 30).map (fun q => some (fW 10 q.1 q.2.1 q.2.2.1)) := rfl
set_option maxRecDepth 100000 in
theorem flb_10 : ∀ q ∈ flk 10, q.2.1 < 13 ∧ q.2.2.1 < (cT q.2.1).2.2 := by decide +kernel
set_option maxRecDepth 100000 in
theorem fn_10_0 : (((fnk 10).drop 0).take 30).map (fun q => lw_tbl[q.2.2.2]?) = (((fnk 10).drop 0).take 30).map (fun q => some (fV 10 q.1 q.2.1 q.2.2.1)) := rfl
set_option maxRecDepth 100000 in
theorem fnb_10 : ∀ q ∈ fnk 10, q.2.1 < 13 ∧ q.2.2.1 < (cT q.2.1).2.2 := by decide +kernel
set_option maxRecDepth 100000 in
theorem ml_10_0 : (((mlk 10).drop 0).take 30).map (fun q => lw_tbl[q.2.2.2.2]?) = (((mlk 10).drop 0).take 30).map (fun q => some (mW 10 q.1 q.2.1)) := rfl
set_option maxRecDepth 100000 in
theorem mlc_10_0 : (((mlk 10).drop 0).take 30).map (fun q => mws[q.2.2.2.1]?) = (((mlk 10).drop 0).take 30).map (fun q => some q.2.1) := rfl
set_option maxRecDepth 100000 in
theorem mlb_10 : ∀ q ∈ mlk 10, (parseMethodDescriptor (mN q.2.1).desc).map (fun d => d.parameters.length) = some q.2.2.1 := by decide +kernel
set_option maxRecDepth 100000 in
theorem mn_10_0 : (((mnk 10).drop 0).take 30).map (fun q => lw_tbl[q.2.2.2.2]?) = (((mnk 10).drop 0).take 30).map (fun q => some (mV 10 q.1 q.2.1)) := rfl
set_option maxRecDepth 100000 in
theorem mnc_10_0 : (((mnk 10).drop 0).take 30).map (fun q => mws[q.2.2.2.1]?) = (((mnk 10).drop 0).take 30).map (fun q => some q.2.1) := rfl
set_option maxRecDepth 100000 in
theorem mnb_10 : ∀ q ∈ mnk 10, (parseMethodDescriptor (mN q.2.1).desc).map (fun d => d.parameters.length) = some q.2.2.1 := by decide +kernel
set_option maxRecDepth 100000 in
theorem fl_11_0 : (((flk 11).drop 0).take 30).map (fun q => lw_tbl[q.2.2.2]?) = (((flk 11).drop 0).take 30).map (fun q => some (fW 11 q.1 q.2.1 q.2.2.1)) := rfl
set_option maxRecDepth 100000 in
theorem fl_11_1 : (((flk 11).drop 30).take 30).map (fun q => lw_tbl[q.2.2.2]?) = (((flk 11).drop 30).take 30).map (fun q => some (fW 11 q.1 q.2.1 q.2.2.1)) := rfl
set_option maxRecDepth 100000 in
theorem flb_11 : ∀ q ∈ flk 11, q.2.1 < 13 ∧ q.2.2.1 < (cT q.2.1).2.2 := by decide +kernel
set_option maxRecDepth 100000 in
theorem fn_11_0 : (((fnk 11).drop 0).take 30).map (fun q => lw_tbl[q.2.2.2]?) = (((fnk 11).drop 0).take 30).map (fun q => some (fV 11 q.1 q.2.1 q.2.2.1)) := rfl
set_option maxRecDepth 100000 in
theorem fnb_11 : ∀ q ∈ fnk 11, q.2.1 < 13 ∧ q.2.2.1 < (cT q.2.1).2.2 := by decide +kernel
set_option maxRecDepth 100000 in
theorem ml_11_0 : (((mlk 11).drop 0).take 30).map (fun q => lw_tbl[q.2.2.2.2]?) = (((mlk 11).drop 0).take 30).map (fun q => some (mW 11 q.1 q.2.1)) := rfl
set_option maxRecDepth 100000 in
theorem mlc_11_0 : (((mlk 11).drop 0).take 30).map (fun q => mws[q.2.2.2.1]?) = (((mlk 11).drop 0).take 30).map (fun q => some q.2.1) := rfl
set_option maxRecDepth 100000 in
theorem ml_11_1 : (((mlk 11).drop 30).take 30).map (fun q => lw_tbl[q.2.2.2.2]?) = (((mlk 11).drop 30).take 30).map (fun q => some (mW 11 q.1 q.2.1)) := rfl
set_option maxRecDepth 100000 in
theorem mlc_11_1 : (((mlk 11).drop 30).take 30).map (fun q => mws[q.2.2.2.1]?) = (((mlk 11).drop 30).take 30).map (fun q => some q.2.1) := rfl
set_option maxRecDepth 100000 in
theorem mlb_11 : ∀ q ∈ mlk 11, (parseMethodDescriptor (mN q.2.1).desc).map (fun d => d.parameters.length) = some q.2.2.1 := by decide +kernel
set_option maxRecDepth 100000 in
theorem mn_11_0 : (((mnk 11).drop 0).take 30).map (fun q => lw_tbl[q.2.2.2.2]?) = (((mnk 11).drop 0).take 30).map (fun q => some (mV 11 q.1 q.2.1)) := rfl
set_option maxRecDepth 100000 in
theorem mnc_11_0 : (((mnk 11).drop 0).take 30).map (fun q => mws[q.2.2.2.1]?) = (((mnk 11).drop 0).take 30).map (fun q => some q.2.1) := rfl
set_option maxRecDepth 100000 in
theorem mnb_11 : ∀ q ∈ mnk 11, (parseMethodDescriptor (mN q.2.1).desc).map (fun d => d.parameters.length) = some q.2.2.1 := by decide +kernel
set_option maxRecDepth 100000 in
theorem fl_12_0 : (((flk 12).drop 0).take 30).map (fun q => lw_tbl[q.2.2.2]?) = (((flk 12).drop 0).take 30).map (fun q => some (fW 12 q.1 q.2.1 q.2.2.1)) := rfl
set_option maxRecDepth 100000 in
theorem fl_12_1 : (((flk 12).drop 30).take 30).map (fun q => lw_tbl[q.2.2.2]?) = (((flk 12).drop 30).take 30).map (fun q => some (fW 12 q.1 q.2.1 q.2.2.1)) := rfl
set_option maxRecDepth 100000 in
theorem fl_12_2 : (((flk 12).drop 60).take 30).map (fun q => lw_tbl[q.2.2.2]?) = (((flk 12).drop 60).take 30).map (fun q => some (fW 12 q.1 q.2.1 q.2.2.1)) := rfl
set_option maxRecDepth 100000 in
theorem flb_12 : ∀ q ∈ flk 12, q.2.1 < 13 ∧ q.2.2.1 < (cT q.2.1).2.2 := by decide +kernel
set_option maxRecDepth 100000 in
theorem fn_12_0 : (((fnk 12).drop 0).take 30).map (fun q => lw_tbl[q.2.2.2]?) = (((fnk 12).drop 0).take 30).map (fun q => some (fV 12 q.1 q.2.1 q.2.2.1)) := rfl
set_option maxRecDepth 100000 in
theorem fnb_12 : ∀ q ∈ fnk 12, q.2.1 < 13 ∧ q.2.2.1 < (cT q.2.1).2.2 := by decide +kernel
set_option maxRecDepth 100000 in
theorem ml_12_0 : (((mlk 12).drop 0).take 30).map (fun q => lw_tbl[q.2.2.2.2]?) = (((mlk 12).drop 0).take 30).map (fun q => some (mW 12 q.1 q.2.1)) := rfl
set_option maxRecDepth 100000 in
theorem mlc_12_0 : (((mlk 12).drop 0).take 30).map (fun q => mws[q.2.2.2.1]?) = (((mlk 12).drop 0).take 30).map (fun q => some q.2.1) := rfl
set_option maxRecDepth 100000 in
theorem ml_12_1 : (((mlk 12).drop 30).take 30).map (fun q => lw_tbl[q.2.2.2.2]?) = (((mlk 12).drop 30).take 30).map (fun q => some (mW 12 q.1 q.2.1)) := rfl
set_option maxRecDepth 100000 in
theorem mlc_12_1 : (((mlk 12).drop 30).take 30).map (fun q => mws[q.2.2.2.1]?) = (((mlk 12).drop 30).take 30).map (fun q => some q.2.1) := rfl
set_option maxRecDepth 100000 in
theorem ml_12_2 : (((mlk 12).drop 60).take 30).map (fun q => lw_tbl[q.2.2.2.2]?) = (((mlk 12).drop 60).take 30).map (fun q => some (mW 12 q.1 q.2.1)) := rfl
set_option maxRecDepth 100000 in
theorem mlc_12_2 : (((mlk 12).drop 60).take 30).map (fun q => mws[q.2.2.2.1]?) = (((mlk 12).drop 60).take 30).map (fun q => some q.2.1) := rfl
set_option maxRecDepth 100000 in
theorem mlb_12 : ∀ q ∈ mlk 12, (parseMethodDescriptor (mN q.2.1).desc).map (fun d => d.parameters.length) = some q.2.2.1 := by decide +kernel
set_option maxRecDepth 100000 in
theorem mn_12_0 : (((mnk 12).drop 0).take 30).map (fun q => lw_tbl[q.2.2.2.2]?) = (((mnk 12).drop 0).take 30).map (fun q => some (mV 12 q.1 q.2.1)) := rfl
set_option maxRecDepth 100000 in
theorem mnc_12_0 : (((mnk 12).drop 0).take 30).map (fun q => mws[q.2.2.2.1]?) = (((mnk 12).drop 0).take 30).map (fun q => some q.2.1) := rfl
set_option maxRecDepth 100000 in
theorem mnb_12 : ∀ q ∈ mnk 12, (parseMethodDescriptor (mN q.2.1).desc).map (fun d => d.parameters.length) = some q.2.2.1 := by decide +kernel
set_option maxRecDepth 100000 in
theorem fl_13_0 : (((flk 13).drop 0).take 30).map (fun q => lw_tbl[q.2.2.2]?) = (((flk 13).drop 0).take 30).map (fun q => some (fW 13 q.1 q.2.1 q.2.2.1)) := rfl
set_option maxRecDepth 100000 in
theorem flb_13 : ∀ q ∈ flk 13, q.2.1 < 13 ∧ q.2.2.1 < (cT q.2.1).2.2 := by decide +kernel
set_option maxRecDepth 100000 in
theorem fn_13_0 : (((fnk 13).drop 0).take 30).map (fun q => lw_tbl[q.2.2.2]?) = (((fnk 13).drop 0).take 30).map (fun q => some (fV 13 q.1 q.2.1 q.2.2.1)) := rfl
set_option maxRecDepth 100000 in
theorem fnb_13 : ∀ q ∈ fnk 13, q.2.1 < 13 ∧ q.2.2.1 < (cT q.2.1).2.2 := by decide +kernel
set_option maxRecDepth 100000 in
theorem ml_13_0 : (((mlk 13).drop 0).take 30).map (fun q => lw_tbl[q.2.2.2.2]?) = (((mlk 13).drop 0).take 30).map (fun q => some (mW 13 q.1 q.2.1)) := rfl
set_option maxRecDepth 100000 in
theorem mlc_13_0 : (((mlk 13).drop 0).take 30).map (fun q => mws[q.2.2.2.1]?) = (((mlk 13).drop 0).take 30).map (fun q => some q.2.1) := rfl
set_option maxRecDepth 100000 in
theorem ml_13_1 : (((mlk 13).drop 30).take 30).map (fun q => lw_tbl[q.2.2.2.2]?) = (((mlk 13).drop 30).take 30).map (fun q => some (mW 13 q.1 q.2.1)) := rfl
set_option maxRecDepth 100000 in
theorem mlc_13_1 : (((mlk 13).drop 30).take 30).map (fun q => mws[q.2.2.2.1]?) = (((mlk 13).drop 30).take 30).map (fun q => some q.2.1) := rfl
set_option maxRecDepth 100000 in
theorem ml_13_2 : (((mlk 13).drop 60).take 30).map (fun q => lw_tbl[q.2.2.2.2]?) = (((mlk 13).drop 60).take 30).map (fun q => some (mW 13 q.1 q.2.1)) := rfl
set_option maxRecDepth 100000 in
theorem mlc_13_2 : (((mlk 13).drop 60).take 30).map (fun q => mws[q.2.2.2.1]?) = (((mlk 13).drop 60).take 30).map (fun q => some q.2.1) := rfl
set_option maxRecDepth 100000 in
theorem mlb_13 : ∀ q ∈ mlk 13, (parseMethodDescriptor (mN q.2.1).desc).map (fun d => d.parameters.length) = some q.2.2.1 := by decide +kernel
set_option maxRecDepth 100000 in
theorem mn_13_0 : (((mnk 13).drop 0).take 30).map (fun q => lw_tbl[q.2.2.2.2]?) = (((mnk 13).drop 0).take 30).map (fun q => some (mV 13 q.1 q.2.1)) := rfl
set_option maxRecDepth 100000 in
theorem mnc_13_0 : (((mnk 13).drop 0).take 30).map (fun q => mws[q.2.2.2.1]?) = (((mnk 13).drop 0).take 30).map (fun q => some q.2.1) := rfl
set_option maxRecDepth 100000 in
theorem mnb_13 : ∀ q ∈ mnk 13, (parseMethodDescriptor (mN q.2.1).desc).map (fun d => d.parameters.length) = some q.2.2.1 := by decide +kernel
set_option maxRecDepth 100000 in
theorem fl_14_0 : (((flk 14).drop 0).take 30).map (fun q => lw_tbl[q.2.2.2]?) = (((flk 14).drop 0).take 30).map (fun q => some (fW 14 q.1 q.2.1 q.2.2.1)) := rfl
set_option maxRecDepth 100000 in
theorem flb_14 : ∀ q ∈ flk 14, q.2.1 < 13 ∧ q.2.2.1 < (cT q.2.1).2.2 := by decide +kernel
set_option maxRecDepth 100000 in
theorem fn_14_0 : (((fnk 14).drop 0).take 30).map (fun q => lw_tbl[q.2.2.2]?) = (((fnk 14).drop 0).take 30).map (fun q => some (fV 14 q.1 q.2.1 q.2.2.1)) := rfl
set_option maxRecDepth 100000 in
theorem fnb_14 : ∀ q ∈ fnk 14, q.2.1 < 13 ∧ q.2.2.1 < (cT q.2.1).2.2 := by decide +kernel
set_option maxRecDepth 100000 in
theorem ml_14_0 : (((mlk 14).drop 0).take 30).map (fun q => lw_tbl[q.2.2.2.2]?) = (((mlk 14).drop 0).take 30).map (fun q => some (mW 14 q.1 q.2.1)) := rfl
set_option maxRecDepth 100000 in
theorem mlc_14_0 : (((mlk 14).drop 0).take 30).map (fun q => mws[q.2.2.2.1]?) = (((mlk 14).drop 0).take 30).map (fun q => some q.2.1) := rfl
set_option maxRecDepth 100000 in
theorem mlb_14 : ∀ q ∈ mlk 14, (parseMethodDescriptor (mN q.2.1).desc).map (fun d => d.parameters.length) = some q.2.2.1 := by decide +kernel
set_option maxRecDepth 100000 in
theorem mn_14_0 : (((mnk 14).drop 0).take 30).map (fun q => lw_tbl[q.2.2.2.2]?) = (((mnk 14).drop 0).take 30).map (fun q => some (mV 14 q.1 q.2.1)) := rfl
set_option maxRecDepth 100000 in
theorem mnc_14_0 : (((mnk 14).drop 0).take 30).map (fun q => mws[q.2.2.2.1]?) = (((mnk 14).drop 0).take 30).map (fun q => some q.2.1) := rfl
set_option maxRecDepth 100000 in
theorem mnb_14 : ∀ q ∈ mnk 14, (parseMethodDescriptor (mN q.2.1).desc).map (fun d => d.parameters.length) = some q.2.2.1 := by decide +kernel
set_option maxRecDepth 100000 in
theorem fl_15_0 : (((flk 15).drop 0).take 30).map (fun q => lw_tbl[q.2.2.2]?) = (((flk 15).drop 0).take 30).map (fun q => some (fW 15 q.1 q.2.1 q.2.2.1)) := rfl
set_option maxRecDepth 100000 in
theorem flb_15 : ∀ q ∈ flk 15, q.2.1 < 13 ∧ q.2.2.1 < (cT q.2.1).2.2 := by decide +kernel
set_option maxRecDepth 100000 in
theorem fn_15_0 : (((fnk 15).drop 0).take 30).map (fun q => lw_tbl[q.2.2.2]?) = (((fnk 15).drop 0).take 30).map (fun q => some (fV 15 q.1 q.2.1 q.2.2.1)) := rfl
set_option maxRecDepth 100000 in
theorem fnb_15 : ∀ q ∈ fnk 15, q.2.1 < 13 ∧ q.2.2.1 < (cT q.2.1).2.2 := by decide +kernel
set_option maxRecDepth 100000 in
theorem ml_15_0 : (((mlk 15).drop 0).take 30).map (fun q => lw_tbl[q.2.2.2.2]?) = (((mlk 15).drop 0).take 30).map (fun q => some (mW 15 q.1 q.2.1)) := rfl
set_option maxRecDepth 100000 in
theorem mlc_15_0 : (((mlk 15).drop 0).take 30).map (fun q => mws[q.2.2.2.1]?) = (((mlk 15).drop 0).take 30).map (fun q => some q.2.1) := rfl
set_option maxRecDepth 100000 in
theorem mlb_15 : ∀ q ∈ mlk 15, (parseMethodDescriptor (mN q.2.1).desc).map (fun d => d.parameters.length) = some q.2.2.1 := by decide +kernel
set_option maxRecDepth 100000 in
theorem mn_15_0 : (((mnk 15).drop 0).take 30).map (fun q => lw_tbl[q.2.2.2.2]?) = (((mnk 15).drop 0).take 30).map (fun q => some (mV 15 q.1 q.2.1)) := rfl
set_option maxRecDepth 100000 in
theorem mnc_15_0 : (((mnk 15).drop 0).take 30).map (fun q => mws[q.2.2.2.1]?) = (((mnk 15).drop 0).take 30).map (fun q => some q.2.1) := rfl
set_option maxRecDepth 100000 in
theorem mnb_15 : ∀ q ∈ mnk 15, (parseMethodDescriptor (mN q.2.1).desc).map (fun d => d.parameters.length) = some q.2.2.1 := by decide +kernel
theorem dt_all {β : Type} {P : β → Prop} {l : List β} {k n : Nat} (h1 : ∀ q ∈ (l.drop k).take n, P q) (h2 : ∀ q ∈ l.drop (k + n), P q) : ∀ q ∈ l.drop k, P q := by
  intro q hq
  rw [← List.take_append_drop n (l.drop k), List.drop_drop, List.mem_append] at hq
  exact hq.elim (h1 q) (h2 q)
theorem dt_end {β : Type} {P : β → Prop} {l : List β} {k : Nat} (h : l.drop k = []) : ∀ q ∈ l.drop k, P q := by
  intro q hq
  rw [h] at hq
  cases hq
theorem fl_0 : ∀ q ∈ flk 0, fW 0 q.1 q.2.1 q.2.2.1 ∈ gtb := (dt_all (k := 0) (n := 30) (gats fl_0_0 (fun _ => rfl)) (dt_end (k := 30) rfl))
theorem fn_0 : ∀ q ∈ fnk 0, fV 0 q.1 q.2.1 q.2.2.1 ∈ nws := (dt_all (k := 0) (n := 30) (nats fn_0_0 (fun _ => rfl)) (dt_end (k := 30) rfl))
theorem ml_0 : ∀ q ∈ mlk 0, mW 0 q.1 q.2.1 ∈ gtb := (dt_all (k := 0) (n := 30) (gats ml_0_0 (fun _ => rfl)) (dt_end (k := 30) rfl))
theorem mlm_0 : ∀ q ∈ mlk 0, mF q.2.1 := (dt_all (k := 0) (n := 30) (fun q h => mws_at (List.map_inj_left.mp mlc_0_0 q h)) (dt_end (k := 30) rfl))
theorem mn_0 : ∀ q ∈ mnk 0, mV 0 q.1 q.2.1 ∈ nws := (dt_all (k := 0) (n := 30) (nats mn_0_0 (fun _ => rfl)) (dt_end (k := 30) rfl))
theorem mnm_0 : ∀ q ∈ mnk 0, mF q.2.1 := (dt_all (k := 0) (n := 30) (fun q h => mws_at (List.map_inj_left.mp mnc_0_0 q h)) (dt_end (k := 30) rfl))
theorem fl_1 : ∀ q ∈ flk 1, fW 1 q.1 q.2.1 q.2.2.1 ∈ gtb := (dt_all (k := 0) (n := 30) (gats fl_1_0 (fun _ => rfl)) (dt_end (k := 30) rfl))
theorem fn_1 : ∀ q ∈ fnk 1, fV 1 q.1 q.2.1 q.2.2.1 ∈ nws := (dt_all (k := 0) (n := 30) (nats fn_1_0 (fun _ => rfl)) (dt_end (k := 30) rfl))
theorem ml_1 : ∀ q ∈ mlk 1, mW 1 q.1 q.2.1 ∈ gtb := (dt_all (k := 0) (n := 30) (gats ml_1_0 (fun _ => rfl)) (dt_end (k := 30) rfl))
theorem mlm_1 : ∀ q ∈ mlk 1, mF q.2.1 := (dt_all (k := 0) (n := 30) (fun q h => mws_at (List.map_inj_left.mp mlc_1_0 q h)) (dt_end (k := 30) rfl))
theorem mn_1 : ∀ q ∈ mnk 1, mV 1 q.1 q.2.1 ∈ nws := (dt_all (k := 0) (n := 30) (nats mn_1_0 (fun _ => rfl)) (dt_end (k := 30) rfl))
theorem mnm_1 : ∀ q ∈ mnk 1, mF q.2.1 := (dt_all (k := 0) (n := 30) (fun q h => mws_at (List.map_inj_left.mp mnc_1_0 q h)) (dt_end (k := 30) rfl))
theorem fl_2 : ∀ q ∈ flk 2, fW 2 q.1 q.2.1 q.2.2.1 ∈ gtb := (dt_all (k := 0) (n := 30) (gats fl_2_0 (fun _ => rfl)) (dt_end (k := 30) rfl))
theorem fn_2 : ∀ q ∈ fnk 2, fV 2 q.1 q.2.1 q.2.2.1 ∈ nws := (dt_all (k := 0) (n := 30) (nats fn_2_0 (fun _ => rfl)) (dt_end (k := 30) rfl))
theorem ml_2 : ∀ q ∈ mlk 2, mW 2 q.1 q.2.1 ∈ gtb := (dt_all (k := 0) (n := 30) (gats ml_2_0 (fun _ => rfl)) (dt_end (k := 30) rfl))
theorem mlm_2 : ∀ q ∈ mlk 2, mF q.2.1 := (dt_all (k := 0) (n := 30) (fun q h => mws_at (List.map_inj_left.mp mlc_2_0 q h)) (dt_end (k := 30) rfl))
theorem mn_2 : ∀ q ∈ mnk 2, mV 2 q.1 q.2.1 ∈ nws := (dt_all (k := 0) (n := 30) (nats mn_2_0 (fun _ => rfl)) (dt_end (k := 30) rfl))
theorem mnm_2 : ∀ q ∈ mnk 2, mF q.2.1 := (dt_all (k := 0) (n := 30) (fun q h => mws_at (List.map_inj_left.mp mnc_2_0 q h)) (dt_end (k := 30) rfl))
theorem fl_3 : ∀ q ∈ flk 3, fW 3 q.1 q.2.1 q.2.2.1 ∈ gtb := (dt_all (k := 0) (n := 30) (gats fl_3_0 (fun _ => rfl)) (dt_end (k := 30) rfl))
theorem fn_3 : ∀ q ∈ fnk 3, fV 3 q.1 q.2.1 q.2.2.1 ∈ nws := (dt_all (k := 0) (n := 30) (nats fn_3_0 (fun _ => rfl)) (dt_end (k := 30) rfl))
theorem ml_3 : ∀ q ∈ mlk 3, mW 3 q.1 q.2.1 ∈ gtb := (dt_all (k := 0) (n := 30) (gats ml_3_0 (fun _ => rfl)) (dt_end (k := 30) rfl))
theorem mlm_3 : ∀ q ∈ mlk 3, mF q.2.1 := (dt_all (k := 0) (n := 30) (fun q h => mws_at (List.map_inj_left.mp mlc_3_0 q h)) (dt_end (k := 30) rfl))
theorem mn_3 : ∀ q ∈ mnk 3, mV 3 q.1 q.2.1 ∈ nws := (dt_all (k := 0) (n := 30) (nats mn_3_0 (fun _ => rfl)) (dt_end (k := 30) rfl))
theorem mnm_3 : ∀ q ∈ mnk 3, mF q.2.1 := (dt_all (k := 0) (n := 30) (fun q h => mws_at (List.map_inj_left.mp mnc_3_0 q h)) (dt_end (k := 30) rfl))
theorem fl_4 : ∀ q ∈ flk 4, fW 4 q.1 q.2.1 q.2.2.1 ∈ gtb := (dt_all (k := 0) (n := 30) (gats fl_4_0 (fun _ => rfl)) (dt_end (k := 30) rfl))
theorem fn_4 : ∀ q ∈ fnk 4, fV 4 q.1 q.2.1 q.2.2.1 ∈ nws := (dt_all (k := 0) (n := 30) (nats fn_4_0 (fun _ => rfl)) (dt_end (k := 30) rfl))
theorem ml_4 : ∀ q ∈ mlk 4, mW 4 q.1 q.2.1 ∈ gtb := (dt_all (k := 0) (n := 30) (gats ml_4_0 (fun _ => rfl)) (dt_end (k := 30) rfl))
theorem mlm_4 : ∀ q ∈ mlk 4, mF q.2.1 := (dt_all (k := 0) (n := 30) (fun q h => mws_at (List.map_inj_left.mp mlc_4_0 q h)) (dt_end (k := 30) rfl))
theorem mn_4 : ∀ q ∈ mnk 4, mV 4 q.1 q.2.1 ∈ nws := (dt_all (k := 0) (n := 30) (nats mn_4_0 (fun _ => rfl)) (dt_end (k := 30) rfl))
theorem mnm_4 : ∀ q ∈ mnk 4, mF q.2.1 := (dt_all (k := 0) (n := 30) (fun q h => mws_at (List.map_inj_left.mp mnc_4_0 q h)) (dt_end (k := 30) rfl))
theorem fl_5 : ∀ q ∈ flk 5, fW 5 q.1 q.2.1 q.2.2.1 ∈ gtb := (dt_all (k := 0) (n := 30) (gats fl_5_0 (fun _ => rfl)) (dt_end (k := 30) rfl))
theorem fn_5 : ∀ q ∈ fnk 5, fV 5 q.1 q.2.1 q.2.2.1 ∈ nws := (dt_all (k := 0) (n := 30) (nats fn_5_0 (fun _ => rfl)) (dt_end (k := 30) rfl))
theorem ml_5 : ∀ q ∈ mlk 5, mW 5 q.1 q.2.1 ∈ gtb := (dt_all (k := 0) (n := 30) (gats ml_5_0 (fun _ => rfl)) (dt_end (k := 30) rfl))
theorem mlm_5 : ∀ q ∈ mlk 5, mF q.2.1 := (dt_all (k := 0) (n := 30) (fun q h => mws_at (List.map_inj_left.mp mlc_5_0 q h)) (dt_end (k := 30) rfl))
theorem mn_5 : ∀ q ∈ mnk 5, mV 5 q.1 q.2.1 ∈ nws := (dt_all (k := 0) (n := 30) (nats mn_5_0 (fun _ => rfl)) (dt_end (k := 30) rfl))
theorem mnm_5 : ∀ q ∈ mnk 5, mF q.2.1 := (dt_all (k := 0) (n := 30) (fun q h => mws_at (List.map_inj_left.mp mnc_5_0 q h)) (dt_end (k := 30) rfl))
theorem fl_6 : ∀ q ∈ flk 6, fW 6 q.1 q.2.1 q.2.2.1 ∈ gtb := (dt_all (k := 0) (n := 30) (gats fl_6_0 (fun _ => rfl)) (dt_end (k := 30) rfl))
theorem fn_6 : ∀ q ∈ fnk 6, fV 6 q.1 q.2.1 q.2.2.1 ∈ nws := (dt_all (k := 0) (n := 30) (nats fn_6_0 (fun _ => rfl)) (dt_end (k := 30) rfl))
theorem ml_6 : ∀ q ∈ mlk 6, mW 6 q.1 q.2.1 ∈ gtb := (dt_all (k := 0) (n := 30) (gats ml_6_0 (fun _ => rfl)) (dt_end (k := 30) rfl))
theorem mlm_6 : ∀ q ∈ mlk 6, mF q.2.1 := (dt_all (k := 0) (n := 30) (fun q h => mws_at (List.map_inj_left.mp mlc_6_0 q h)) (dt_end (k := 30) rfl))
theorem mn_6 : ∀ q ∈ mnk 6, mV 6 q.1 q.2.1 ∈ nws := (dt_all (k := 0) (n := 30) (nats mn_6_0 (fun _ => rfl)) (dt_end (k := 30) rfl))
theorem mnm_6 : ∀ q ∈ mnk 6, mF q.2.1 := (dt_all (k := 0) (n := 30) (fun q h => mws_at (List.map_inj_left.mp mnc_6_0 q h)) (dt_end (k := 30) rfl))
theorem fl_7 : ∀ q ∈ flk 7, fW 7 q.1 q.2.1 q.2.2.1 ∈ gtb := (dt_all (k := 0) (n := 30) (gats fl_7_0 (fun _ => rfl)) (dt_end (k := 30) rfl))
theorem fn_7 : ∀ q ∈ fnk 7, fV 7 q.1 q.2.1 q.2.2.1 ∈ nws := (dt_all (k := 0) (n := 30) (nats fn_7_0 (fun _ => rfl)) (dt_end (k := 30) rfl))
theorem ml_7 : ∀ q ∈ mlk 7, mW 7 q.1 q.2.1 ∈ gtb := (dt_all (k := 0) (n := 30) (gats ml_7_0 (fun _ => rfl)) (dt_end (k := 30) rfl))
theorem mlm_7 : ∀ q ∈ mlk 7, mF q.2.1 := (dt_all (k := 0) (n := 30) (fun q h => mws_at (List.map_inj_left.mp mlc_7_0 q h)) (dt_end (k := 30) rfl))
theorem mn_7 : ∀ q ∈ mnk 7, mV 7 q.1 q.2.1 ∈ nws := (dt_all (k := 0) (n := 30) (nats mn_7_0 (fun _ => rfl)) (dt_end (k := 30) rfl))
theorem mnm_7 : ∀ q ∈ mnk 7, mF q.2.1 := (dt_all (k := 0) (n := 30) (fun q h => mws_at (List.map_inj_left.mp mnc_7_0 q h)) (dt_end (k := 30) rfl))
theorem fl_8 : ∀ q ∈ flk 8, fW 8 q.1 q.2.1 q.2.2.1 ∈ gtb := (dt_all (k := 0) (n := 30) (gats fl_8_0 (fun _ => rfl)) (dt_end (k := 30) rfl))
theorem fn_8 : ∀ q ∈ fnk 8, fV 8 q.1 q.2.1 q.2.2.1 ∈ nws := (dt_all (k := 0) (n := 30) (nats fn_8_0 (fun _ => rfl)) (dt_end (k := 30) rfl))
theorem ml_8 : ∀ q ∈ mlk 8, mW 8 q.1 q.2.1 ∈ gtb := (dt_all (k := 0) (n := 30) (gats ml_8_0 (fun _ => rfl)) (dt_end (k := 30) rfl))
theorem mlm_8 : ∀ q ∈ mlk 8, mF q.2.1 := (dt_all (k := 0) (n := 30) (fun q h => mws_at (List.map_inj_left.mp mlc_8_0 q h)) (dt_end (k := 30) rfl))
theorem mn_8 : ∀ q ∈ mnk 8, mV 8 q.1 q.2.1 ∈ nws := (dt_all (k := 0) (n := 30) (nats mn_8_0 (fun _ => rfl)) (dt_end (k := 30) rfl))
theorem mnm_8 : ∀ q ∈ mnk 8, mF q.2.1 := (dt_all (k := 0) (n := 30) (fun q h => mws_at (List.map_inj_left.mp mnc_8_0 q h)) (dt_end (k := 30) rfl))
theorem fl_9 : ∀ q ∈ flk 9, fW 9 q.1 q.2.1 q.2.2.1 ∈ gtb := (dt_all (k := 0) (n := 30) (gats fl_9_0 (fun _ => rfl)) (dt_end (k := 30) rfl))
theorem fn_9 : ∀ q ∈ fnk 9, fV 9 q.1 q.2.1 q.2.2.1 ∈ nws := (dt_all (k := 0) (n := 30) (nats fn_9_0 (fun _ => rfl)) (dt_end (k := 30) rfl))
theorem ml_9 : ∀ q ∈ mlk 9, mW 9 q.1 q.2.1 ∈ gtb := (dt_all (k := 0) (n := 30) (gats ml_9_0 (fun _ => rfl)) (dt_end (k := 30) rfl))
theorem mlm_9 : ∀ q ∈ mlk 9, mF q.2.1 := (dt_all (k := 0) (n := 30) (fun q h => mws_at (List.map_inj_left.mp mlc_9_0 q h)) (dt_end (k := 30) rfl))
theorem mn_9 : ∀ q ∈ mnk 9, mV 9 q.1 q.2.1 ∈ nws := (dt_all (k := 0) (n := 30) (nats mn_9_0 (fun _ => rfl)) (dt_end (k := 30) rfl))
theorem mnm_9 : ∀ q ∈ mnk 9, mF q.2.1 := (dt_all (k := 0) (n := 30) (fun q h => mws_at (List.map_inj_left.mp mnc_9_0 q h)) (dt_end (k := 30) rfl))
theorem fl_10 : ∀ q ∈ flk 10, fW 10 q.1 q.2.1 q.2.2.1 ∈ gtb := (dt_all (k := 0) (n := 30) (gats fl_10_0 (fun _ => rfl)) (dt_end (k := 30) rfl))
theorem fn_10 : ∀ q ∈ fnk 10, fV 10 q.1 q.2.1 q.2.2.1 ∈ nws := (dt_all (k := 0) (n := 30) (nats fn_10_0 (fun _ => rfl)) (dt_end (k := 30) rfl))
theorem ml_10 : ∀ q ∈ mlk 10, mW 10 q.1 q.2.1 ∈ gtb := (dt_all (k := 0) (n := 30) (gats ml_10_0 (fun _ => rfl)) (dt_end (k := 30) rfl))
theorem mlm_10 : ∀ q ∈ mlk 10, mF q.2.1 := (dt_all (k := 0) (n := 30) (fun q h => mws_at (List.map_inj_left.mp mlc_10_0 q h)) (dt_end (k := 30) rfl))
theorem mn_10 : ∀ q ∈ mnk 10, mV 10 q.1 q.2.1 ∈ nws := (dt_all (k := 0) (n := 30) (nats mn_10_0 (fun _ => rfl)) (dt_end (k := 30) rfl))
theorem mnm_10 : ∀ q ∈ mnk 10, mF q.2.1 := (dt_all (k := 0) (n := 30) (fun q h => mws_at (List.map_inj_left.mp mnc_10_0 q h)) (dt_end (k := 30) rfl))
theorem fl_11 : ∀ q ∈ flk 11, fW 11 q.1 q.2.1 q.2.2.1 ∈ gtb := (dt_all (k := 0) (n := 30) (gats fl_11_0 (fun _ => rfl)) (dt_all (k := 30) (n := 30) (gats fl_11_1 (fun _ => rfl)) (dt_end (k := 60) rfl)))
theorem fn_11 : ∀ q ∈ fnk 11, fV 11 q.1 q.2.1 q.2.2.1 ∈ nws := (dt_all (k := 0) (n := 30) (nats fn_11_0 (fun _ => rfl)) (dt_end (k := 30) rfl))
theorem ml_11 : ∀ q ∈ mlk 11, mW 11 q.1 q.2.1 ∈ gtb := (dt_all (k := 0) (n := 30) (gats ml_11_0 (fun _ => rfl)) (dt_all (k := 30) (n := 30) (gats ml_11_1 (fun _ => rfl)) (dt_end (k := 60) rfl)))
theorem mlm_11 : ∀ q ∈ mlk 11, mF q.2.1 := (dt_all (k := 0) (n := 30) (fun q h => mws_at (List.map_inj_left.mp mlc_11_0 q h)) (dt_all (k := 30) (n := 30) (fun q h => mws_at (List.map_inj_left.mp mlc_11_1 q h)) (dt_end (k := 60) rfl)))
theorem mn_11 : ∀ q ∈ mnk 11, mV 11 q.1 q.2.1 ∈ nws := (dt_all (k := 0) (n := 30) (nats mn_11_0 (fun _ => rfl)) (dt_end (k := 30) rfl))
theorem mnm_11 : ∀ q ∈ mnk 11, mF q.2.1 := (dt_all (k := 0) (n := 30) (fun q h => mws_at (List.map_inj_left.mp mnc_11_0 q h)) (dt_end (k := 30) rfl))
theorem fl_12 : ∀ q ∈ flk 12, fW 12 q.1 q.2.1 q.2.2.1 ∈ gtb := (dt_all (k := 0) (n := 30) (gats fl_12_0 (fun _ => rfl)) (dt_all (k := 30) (n := 30) (gats fl_12_1 (fun _ => rfl)) (dt_all (k := 60) (n := 30) (gats fl_12_2 (fun _ => rfl)) (dt_end (k := 90) rfl))))
theorem fn_12 : ∀ q ∈ fnk 12, fV 12 q.1 q.2.1 q.2.2.1 ∈ nws := (dt_all (k := 0) (n := 30) (nats fn_12_0 (fun _ => rfl)) (dt_end (k := 30) rfl))
theorem ml_12 : ∀ q ∈ mlk 12, mW 12 q.1 q.2.1 ∈ gtb := (dt_all (k := 0) (n := 30) (gats ml_12_0 (fun _ => rfl)) (dt_all (k := 30) (n := 30) (gats ml_12_1 (fun _ => rfl)) (dt_all (k := 60) (n := 30) (gats ml_12_2 (fun _ => rfl)) (dt_end (k := 90) rfl))))
theorem mlm_12 : ∀ q ∈ mlk 12, mF q.2.1 := (dt_all (k := 0) (n := 30) (fun q h => mws_at (List.map_inj_left.mp mlc_12_0 q h)) (dt_all (k := 30) (n := 30) (fun q h => mws_at (List.map_inj_left.mp mlc_12_1 q h)) (dt_all (k := 60) (n := 30) (fun q h => mws_at (List.map_inj_left.mp mlc_12_2 q h)) (dt_end (k := 90) rfl))))
theorem mn_12 : ∀ q ∈ mnk 12, mV 12 q.1 q.2.1 ∈ nws := (dt_all (k := 0) (n := 30) (nats mn_12_0 (fun _ => rfl)) (dt_end (k := 30) rfl))
theorem mnm_12 : ∀ q ∈ mnk 12, mF q.2.1 := (dt_all (k := 0) (n := 30) (fun q h => mws_at (List.map_inj_left.mp mnc_12_0 q h)) (dt_end (k := 30) rfl))
theorem fl_13 : ∀ q ∈ flk 13, fW 13 q.1 q.2.1 q.2.2.1 ∈ gtb := (dt_all (k := 0) (n := 30) (gats fl_13_0 (fun _ => rfl)) (dt_end (k := 30) rfl))
theorem fn_13 : ∀ q ∈ fnk 13, fV 13 q.1 q.2.1 q.2.2.1 ∈ nws := (dt_all (k := 0) (n := 30) (nats fn_13_0 (fun _ => rfl)) (dt_end (k := 30) rfl))
theorem ml_13 : ∀ q ∈ mlk 13, mW 13 q.1 q.2.1 ∈ gtb := (dt_all (k := 0) (n := 30) (gats ml_13_0 (fun _ => rfl)) (dt_all (k := 30) (n := 30) (gats ml_13_1 (fun _ => rfl)) (dt_all (k := 60) (n := 30) (gats ml_13_2 (fun _ => rfl)) (dt_end (k := 90) rfl))))
theorem mlm_13 : ∀ q ∈ mlk 13, mF q.2.1 := (dt_all (k := 0) (n := 30) (fun q h => mws_at (List.map_inj_left.mp mlc_13_0 q h)) (dt_all (k := 30) (n := 30) (fun q h => mws_at (List.map_inj_left.mp mlc_13_1 q h)) (dt_all (k := 60) (n := 30) (fun q h => mws_at (List.map_inj_left.mp mlc_13_2 q h)) (dt_end (k := 90) rfl))))
theorem mn_13 : ∀ q ∈ mnk 13, mV 13 q.1 q.2.1 ∈ nws := (dt_all (k := 0) (n := 30) (nats mn_13_0 (fun _ => rfl)) (dt_end (k := 30) rfl))
theorem mnm_13 : ∀ q ∈ mnk 13, mF q.2.1 := (dt_all (k := 0) (n := 30) (fun q h => mws_at (List.map_inj_left.mp mnc_13_0 q h)) (dt_end (k := 30) rfl))
theorem fl_14 : ∀ q ∈ flk 14, fW 14 q.1 q.2.1 q.2.2.1 ∈ gtb := (dt_all (k := 0) (n := 30) (gats fl_14_0 (fun _ => rfl)) (dt_end (k := 30) rfl))
theorem fn_14 : ∀ q ∈ fnk 14, fV 14 q.1 q.2.1 q.2.2.1 ∈ nws := (dt_all (k := 0) (n := 30) (nats fn_14_0 (fun _ => rfl)) (dt_end (k := 30) rfl))
theorem ml_14 : ∀ q ∈ mlk 14, mW 14 q.1 q.2.1 ∈ gtb := (dt_all (k := 0) (n := 30) (gats ml_14_0 (fun _ => rfl)) (dt_end (k := 30) rfl))
theorem mlm_14 : ∀ q ∈ mlk 14, mF q.2.1 := (dt_all (k := 0) (n := 30) (fun q h => mws_at (List.map_inj_left.mp mlc_14_0 q h)) (dt_end (k := 30) rfl))
theorem mn_14 : ∀ q ∈ mnk 14, mV 14 q.1 q.2.1 ∈ nws := (dt_all (k := 0) (n := 30) (nats mn_14_0 (fun _ => rfl)) (dt_end (k := 30) rfl))
theorem mnm_14 : ∀ q ∈ mnk 14, mF q.2.1 := (dt_all (k := 0) (n := 30) (fun q h => mws_at (List.map_inj_left.mp mnc_14_0 q h)) (dt_end (k := 30) rfl))
theorem fl_15 : ∀ q ∈ flk 15, fW 15 q.1 q.2.1 q.2.2.1 ∈ gtb := (dt_all (k := 0) (n := 30) (gats fl_15_0 (fun _ => rfl)) (dt_end (k := 30) rfl))
theorem fn_15 : ∀ q ∈ fnk 15, fV 15 q.1 q.2.1 q.2.2.1 ∈ nws := (dt_all (k := 0) (n := 30) (nats fn_15_0 (fun _ => rfl)) (dt_end (k := 30) rfl))
theorem ml_15 : ∀ q ∈ mlk 15, mW 15 q.1 q.2.1 ∈ gtb := (dt_all (k := 0) (n := 30) (gats ml_15_0 (fun _ => rfl)) (dt_end (k := 30) rfl))
theorem mlm_15 : ∀ q ∈ mlk 15, mF q.2.1 := (dt_all (k := 0) (n := 30) (fun q h => mws_at (List.map_inj_left.mp mlc_15_0 q h)) (dt_end (k := 30) rfl))
theorem mn_15 : ∀ q ∈ mnk 15, mV 15 q.1 q.2.1 ∈ nws := (dt_all (k := 0) (n := 30) (nats mn_15_0 (fun _ => rfl)) (dt_end (k := 30) rfl))
theorem mnm_15 : ∀ q ∈ mnk 15, mF q.2.1 := (dt_all (k := 0) (n := 30) (fun q h => mws_at (List.map_inj_left.mp mnc_15_0 q h)) (dt_end (k := 30) rfl))
theorem fl_all : ∀ o, ∀ q ∈ flk o, (q.2.1 < 13 ∧ q.2.2.1 < (cT q.2.1).2.2) ∧ fW o q.1 q.2.1 q.2.2.1 ∈ gtb := by
  intro o q h
  match o, h with
  | 0, h => exact ⟨flb_0 q h, fl_0 q h⟩
  | 1, h => exact ⟨flb_1 q h, fl_1 q h⟩
  | 2, h => exact ⟨flb_2 q h, fl_2 q h⟩
  | 3, h => exact ⟨flb_3 q h, fl_3 q h⟩
  | 4, h => exact ⟨flb_4 q h, fl_4 q h⟩
  | 5, h => exact ⟨flb_5 q h, fl_5 q h⟩
  | 6, h => exact ⟨flb_6 q h, fl_6 q h⟩
  | 7, h => exact ⟨flb_7 q h, fl_7 q h⟩
  | 8, h => exact ⟨flb_8 q h, fl_8 q h⟩
  | 9, h => exact ⟨flb_9 q h, fl_9 q h⟩
  | 10, h => exact ⟨flb_10 q h, fl_10 q h⟩
  | 11, h => exact ⟨flb_11 q h, fl_11 q h⟩
  | 12, h => exact ⟨flb_12 q h, fl_12 q h⟩
  | 13, h => exact ⟨flb_13 q h, fl_13 q h⟩
  | 14, h => exact ⟨flb_14 q h, fl_14 q h⟩
  | 15, h => exact ⟨flb_15 q h, fl_15 q h⟩
  | n + 16, h => exact absurd h (by simp [flk, fl_t])
theorem fn_all : ∀ o, ∀ q ∈ fnk o, (q.2.1 < 13 ∧ q.2.2.1 < (cT q.2.1).2.2) ∧ fV o q.1 q.2.1 q.2.2.1 ∈ nws := by
  intro o q h
  match o, h with
  | 0, h => exact ⟨fnb_0 q h, fn_0 q h⟩
  | 1, h => exact ⟨fnb_1 q h, fn_1 q h⟩
  | 2, h => exact ⟨fnb_2 q h, fn_2 q h⟩
  | 3, h => exact ⟨fnb_3 q h, fn_3 q h⟩
  | 4, h => exact ⟨fnb_4 q h, fn_4 q h⟩
  | 5, h => exact ⟨fnb_5 q h, fn_5 q h⟩
  | 6, h => exact ⟨fnb_6 q h, fn_6 q h⟩
  | 7, h => exact ⟨fnb_7 q h, fn_7 q h⟩
  | 8, h => exact ⟨fnb_8 q h, fn_8 q h⟩
  | 9, h => exact ⟨fnb_9 q h, fn_9 q h⟩
  | 10, h => exact ⟨fnb_10 q h, fn_10 q h⟩
  | 11, h => exact ⟨fnb_11 q h, fn_11 q h⟩
  | 12, h => exact ⟨fnb_12 q h, fn_12 q h⟩
  | 13, h => exact ⟨fnb_13 q h, fn_13 q h⟩
  | 14, h => exact ⟨fnb_14 q h, fn_14 q h⟩
  | 15, h => exact ⟨fnb_15 q h, fn_15 q h⟩
  | n + 16, h => exact absurd h (by simp [fnk, fn_t])
theorem ml_all : ∀ o, ∀ q ∈ mlk o, mP q.2.1 q.2.2.1 ∧ mF q.2.1 ∧ mW o q.1 q.2.1 ∈ gtb := by
  intro o q h
  match o, h with
  | 0, h => exact ⟨mlb_0 q h, mlm_0 q h, ml_0 q h⟩
  | 1, h => exact ⟨mlb_1 q h, mlm_1 q h, ml_1 q h⟩
  | 2, h => exact ⟨mlb_2 q h, mlm_2 q h, ml_2 q h⟩
  | 3, h => exact ⟨mlb_3 q h, mlm_3 q h, ml_3 q h⟩
  | 4, h => exact ⟨mlb_4 q h, mlm_4 q h, ml_4 q h⟩
  | 5, h => exact ⟨mlb_5 q h, mlm_5 q h, ml_5 q h⟩
  | 6, h => exact ⟨mlb_6 q h, mlm_6 q h, ml_6 q h⟩
  | 7, h => exact ⟨mlb_7 q h, mlm_7 q h, ml_7 q h⟩
  | 8, h => exact ⟨mlb_8 q h, mlm_8 q h, ml_8 q h⟩
  | 9, h => exact ⟨mlb_9 q h, mlm_9 q h, ml_9 q h⟩
  | 10, h => exact ⟨mlb_10 q h, mlm_10 q h, ml_10 q h⟩
  | 11, h => exact ⟨mlb_11 q h, mlm_11 q h, ml_11 q h⟩
  | 12, h => exact ⟨mlb_12 q h, mlm_12 q h, ml_12 q h⟩
  | 13, h => exact ⟨mlb_13 q h, mlm_13 q h, ml_13 q h⟩
  | 14, h => exact ⟨mlb_14 q h, mlm_14 q h, ml_14 q h⟩
  | 15, h => exact ⟨mlb_15 q h, mlm_15 q h, ml_15 q h⟩
  | n + 16, h => exact absurd h (by simp [mlk, ml_t])
theorem mn_all : ∀ o, ∀ q ∈ mnk o, mP q.2.1 q.2.2.1 ∧ mF q.2.1 ∧ mV o q.1 q.2.1 ∈ nws := by
  intro o q h
  match o, h with
  | 0, h => exact ⟨mnb_0 q h, mnm_0 q h, mn_0 q h⟩
  | 1, h => exact ⟨mnb_1 q h, mnm_1 q h, mn_1 q h⟩
  | 2, h => exact ⟨mnb_2 q h, mnm_2 q h, mn_2 q h⟩
  | 3, h => exact ⟨mnb_3 q h, mnm_3 q h, mn_3 q h⟩
  | 4, h => exact ⟨mnb_4 q h, mnm_4 q h, mn_4 q h⟩
  | 5, h => exact ⟨mnb_5 q h, mnm_5 q h, mn_5 q h⟩
  | 6, h => exact ⟨mnb_6 q h, mnm_6 q h, mn_6 q h⟩
  | 7, h => exact ⟨mnb_7 q h, mnm_7 q h, mn_7 q h⟩
  | 8, h => exact ⟨mnb_8 q h, mnm_8 q h, mn_8 q h⟩
  | 9, h => exact ⟨mnb_9 q h, mnm_9 q h, mn_9 q h⟩
  | 10, h => exact ⟨mnb_10 q h, mnm_10 q h, mn_10 q h⟩
  | 11, h => exact ⟨mnb_11 q h, mnm_11 q h, mn_11 q h⟩
  | 12, h => exact ⟨mnb_12 q h, mnm_12 q h, mn_12 q h⟩
  | 13, h => exact ⟨mnb_13 q h, mnm_13 q h, mn_13 q h⟩
  | 14, h => exact ⟨mnb_14 q h, mnm_14 q h, mn_14 q h⟩
  | 15, h => exact ⟨mnb_15 q h, mnm_15 q h, mn_15 q h⟩
  | n + 16, h => exact absurd h (by simp [mnk, mn_t])

/-! the words of the tables, by their places (written by a program: wip/whole/gen_tables.py) -/
theorem zPlOk {l : List (Nat × Cond)} (h : (l.all fun q => decide (lw_tbl[q.1]? = some q.2) && goodWord q.2) = true) {k n : Nat} {w : Cond} (hk : l[k]? = some (n, w)) : w ∈ zAll := by
  have h1 := List.all_eq_true.mp h _ (List.mem_of_getElem? hk)
  simp only [Bool.and_eq_true, decide_eq_true_eq] at h1
  exact zAll_in (List.mem_of_getElem? h1.1) h1.2
def zPl_0 : List (Nat × Cond) := [(110, Cond.fieldLink RX6 9 "WeirLedger$Text" "bytes" "[I"), (111, Cond.fieldLink RX8 68 "WeirLedger$Text" "length" "I"), (112, Cond.fieldLink RX6 19 "WeirLedger$Text" "length" "I"), (113, Cond.fieldLink RX6 22 "WeirLedger$Text" "place" "I"), (114, Cond.fieldLink RX6 15 "WeirLedger$Text" "wrong" "I"), (115, Cond.fieldLink RX8 103 "WeirLedger$Text" "wrong" "I"), (132, Cond.fieldLink RX1 9 "WeirLedger$Fund" "terms" "[I"), (133, Cond.fieldLink RX0 28 "WeirLedger$Fund" "terms" "[I"), (134, Cond.fieldLink RX8 109 "WeirLedger$Fund" "terms" "[I"), (135, Cond.fieldLink RX1 15 "WeirLedger$Fund" "committed" "[I"), (136, Cond.fieldLink RX4 37 "WeirLedger$Fund" "committed" "[I"), (137, Cond.fieldLink RX1 18 "WeirLedger$Fund" "excused" "[I"), (138, Cond.fieldLink RX4 46 "WeirLedger$Fund" "excused" "[I"), (139, Cond.fieldLink RX8 149 "WeirLedger$Fund" "excused" "[I"), (140, Cond.fieldLink RX1 27 "WeirLedger$Fund" "investors" "I"), (141, Cond.fieldLink RX4 56 "WeirLedger$Fund" "investors" "I"), (142, Cond.fieldLink RX8 96 "WeirLedger$Fund" "investors" "I"), (143, Cond.fieldLink RX1 31 "WeirLedger$Fund" "dealCount" "I"), (144, Cond.fieldLink RX0 46 "WeirLedger$Fund" "dealCount" "I"), (145, Cond.fieldLink RX8 306 "WeirLedger$Fund" "dealCount" "I"), (146, Cond.fieldLink RX1 34 "WeirLedger$Fund" "dealsTold" "Z"), (166, Cond.fieldLink RX2 9 "WeirLedger$Journal" "rows" "[I"), (167, Cond.fieldLink RX5 132 "WeirLedger$Journal" "rows" "[I"), (168, Cond.fieldLink RX0 109 "WeirLedger$Journal" "rows" "[I"), (169, Cond.fieldLink RX8 297 "WeirLedger$Journal" "rows" "[I"), (170, Cond.fieldLink RX2 21 "WeirLedger$Journal" "size" "I"), (171, Cond.fieldLink RX8 90 "WeirLedger$Journal" "size" "I"), (189, Cond.fieldLink RX0 9 "WeirLedger$Books" "terms" "[I"), (190, Cond.fieldLink RX5 145 "WeirLedger$Books" "terms" "[I"), (191, Cond.fieldLink RX8 340 "WeirLedger$Books" "terms" "[I"), (192, Cond.fieldLink RX0 15 "WeirLedger$Books" "rungs" "[J"), (193, Cond.fieldLink RX8 158 "WeirLedger$Books" "rungs" "[J"), (194, Cond.fieldLink RX0 19 "WeirLedger$Books" "dealRows" "[I"), (195, Cond.fieldLink RX3 70 "WeirLedger$Books" "dealRows" "[I"), (196, Cond.fieldLink RX8 155 "WeirLedger$Books" "dealRows" "[I"), (197, Cond.fieldLink RX0 22 "WeirLedger$Books" "purse" "[J"), (198, Cond.fieldLink RX3 53 "WeirLedger$Books" "purse" "[J"), (199, Cond.fieldLink RX8 161 "WeirLedger$Books" "purse" "[J"), (200, Cond.fieldLink RX0 25 "WeirLedger$Books" "filled" "[J"), (201, Cond.fieldLink RX5 106 "WeirLedger$Books" "filled" "[J")]
theorem zPr_0 (k : Nat) {n : Nat} {w : Cond} (h : zPl_0[k]? = some (n, w)) : w ∈ zAll := zPlOk (show (zPl_0.all fun q => decide (lw_tbl[q.1]? = some q.2) && goodWord q.2) = true by decide +kernel) h
def zPl_1 : List (Nat × Cond) := [(202, Cond.fieldLink RX8 179 "WeirLedger$Books" "filled" "[J"), (203, Cond.fieldLink RX0 50 "WeirLedger$Books" "dealCount" "I"), (204, Cond.fieldLink RX3 63 "WeirLedger$Books" "dealCount" "I"), (205, Cond.fieldLink RX0 51 "WeirLedger$Books" "quarter" "I"), (206, Cond.fieldLink RX5 61 "WeirLedger$Books" "quarter" "I"), (207, Cond.fieldLink RX8 244 "WeirLedger$Books" "quarter" "I"), (208, Cond.fieldLink RX0 54 "WeirLedger$Books" "ended" "Z"), (209, Cond.fieldLink RX5 50 "WeirLedger$Books" "ended" "Z"), (210, Cond.fieldLink RX8 247 "WeirLedger$Books" "ended" "Z"), (235, Cond.fieldLink RX4 9 "WeirLedger$Register" "committed" "[I"), (236, Cond.fieldLink RX5 148 "WeirLedger$Register" "committed" "[I"), (237, Cond.fieldLink RX8 124 "WeirLedger$Register" "committed" "[I"), (238, Cond.fieldLink RX4 15 "WeirLedger$Register" "uncalled" "[I"), (239, Cond.fieldLink RX5 94 "WeirLedger$Register" "uncalled" "[I"), (240, Cond.fieldLink RX8 129 "WeirLedger$Register" "uncalled" "[I"), (241, Cond.fieldLink RX4 18 "WeirLedger$Register" "paid" "[I"), (242, Cond.fieldLink RX5 174 "WeirLedger$Register" "paid" "[I"), (243, Cond.fieldLink RX8 132 "WeirLedger$Register" "paid" "[I"), (244, Cond.fieldLink RX4 21 "WeirLedger$Register" "got" "[J"), (245, Cond.fieldLink RX8 135 "WeirLedger$Register" "got" "[J"), (246, Cond.fieldLink RX5 187 "WeirLedger$Register" "got" "[J"), (247, Cond.fieldLink RX4 25 "WeirLedger$Register" "excused" "[I"), (248, Cond.fieldLink RX4 28 "WeirLedger$Register" "weights" "[J"), (249, Cond.fieldLink RX4 31 "WeirLedger$Register" "parts" "[J"), (250, Cond.fieldLink RX5 171 "WeirLedger$Register" "parts" "[J"), (251, Cond.fieldLink RX8 190 "WeirLedger$Register" "parts" "[J"), (252, Cond.fieldLink RX4 34 "WeirLedger$Register" "remainders" "[J"), (253, Cond.fieldLink RX4 60 "WeirLedger$Register" "size" "I"), (254, Cond.fieldLink RX5 46 "WeirLedger$Register" "size" "I"), (255, Cond.fieldLink RX4 63 "WeirLedger$Register" "failedBits" "I"), (256, Cond.fieldLink RX4 66 "WeirLedger$Register" "gotTogether" "J"), (257, Cond.fieldLink RX5 181 "WeirLedger$Register" "gotTogether" "J"), (258, Cond.fieldLink RX8 203 "WeirLedger$Register" "gotTogether" "J"), (288, Cond.fieldLink RX7 11 "WeirLedger$Trace" "net" "[J"), (289, Cond.fieldLink RX7 15 "WeirLedger$Trace" "fees" "[J"), (290, Cond.fieldLink RX5 162 "WeirLedger$Trace" "fees" "[J"), (291, Cond.fieldLink RX8 341 "WeirLedger$Trace" "fees" "[J"), (297, Cond.fieldLink RX5 12 "WeirLedger$State" "books" "LWeirLedger$Books;"), (298, Cond.fieldLink RX8 152 "WeirLedger$State" "books" "LWeirLedger$Books;"), (299, Cond.fieldLink RX5 21 "WeirLedger$State" "register" "LWeirLedger$Register;")]
theorem zPr_1 (k : Nat) {n : Nat} {w : Cond} (h : zPl_1[k]? = some (n, w)) : w ∈ zAll := zPlOk (show (zPl_1.all fun q => decide (lw_tbl[q.1]? = some q.2) && goodWord q.2) = true by decide +kernel) h
def zPl_2 : List (Nat × Cond) := [(300, Cond.fieldLink RX8 120 "WeirLedger$State" "register" "LWeirLedger$Register;"), (301, Cond.fieldLink RX5 25 "WeirLedger$State" "traced" "Z"), (302, Cond.fieldLink RX5 34 "WeirLedger$State" "trace" "LWeirLedger$Trace;"), (303, Cond.fieldLink RX8 282 "WeirLedger$State" "trace" "LWeirLedger$Trace;"), (304, Cond.fieldLink RX5 75 "WeirLedger$State" "toInvestors" "J"), (305, Cond.fieldLink RX8 330 "WeirLedger$State" "toInvestors" "J"), (306, Cond.fieldLink RX5 79 "WeirLedger$State" "toManager" "J"), (307, Cond.fieldLink RX8 333 "WeirLedger$State" "toManager" "J"), (330, Cond.fieldLink RX3 11 "WeirLedger$Orders" "levels" "[LWeirLedger$Books;"), (331, Cond.fieldLink RX3 17 "WeirLedger$Orders" "path" "[I"), (332, Cond.fieldLink RX3 21 "WeirLedger$Orders" "bestPath" "[I"), (333, Cond.fieldLink RX8 216 "WeirLedger$Orders" "bestPath" "[I"), (334, Cond.fieldLink RX3 39 "WeirLedger$Orders" "length" "I"), (335, Cond.fieldLink RX8 213 "WeirLedger$Orders" "length" "I"), (336, Cond.fieldLink RX3 45 "WeirLedger$Orders" "best" "J"), (337, Cond.fieldLink RX8 210 "WeirLedger$Orders" "best" "J"), (351, Cond.fieldLink RX8 10 "WeirLedger" "tape" "LWeirLedger$Text;"), (352, Cond.fieldLink RX8 19 "WeirLedger" "told" "LWeirLedger$Fund;"), (353, Cond.fieldLink RX8 23 "WeirLedger" "draft" "LWeirLedger$Fund;"), (354, Cond.fieldLink RX8 29 "WeirLedger" "journal" "LWeirLedger$Journal;"), (355, Cond.fieldLink RX8 38 "WeirLedger" "now" "LWeirLedger$State;"), (356, Cond.fieldLink RX8 42 "WeirLedger" "trial" "LWeirLedger$State;"), (357, Cond.fieldLink RX8 48 "WeirLedger" "orders" "LWeirLedger$Orders;"), (358, Cond.fieldLink RX8 55 "WeirLedger" "forecast" "LWeirLedger$Books;"), (359, Cond.fieldLink RX8 59 "WeirLedger" "outcome" "LWeirLedger$Books;"), (360, Cond.fieldLink RX8 62 "WeirLedger" "keptFund" "LWeirLedger$Fund;"), (361, Cond.fieldLink RX8 65 "WeirLedger" "keptJournal" "LWeirLedger$Journal;"), (362, Cond.fieldLink RX8 303 "WeirLedger" "imageKept" "Z"), (1299, Cond.fieldLink RX9 93 "WeirLedgerModel" "thrown" "I"), (1300, Cond.fieldLink RX9 7 "WeirLedgerModel" "most" "[I"), (1301, Cond.fieldLink RX9 13 "WeirLedgerModel" "terms" "[I"), (1302, Cond.fieldLink RX9 16 "WeirLedgerModel" "promised" "[I"), (1303, Cond.fieldLink RX9 19 "WeirLedgerModel" "excused" "[I"), (1304, Cond.fieldLink RX9 96 "WeirLedgerModel" "many" "I"), (1305, Cond.fieldLink RX9 103 "WeirLedgerModel" "deals" "I"), (1306, Cond.fieldLink RX9 22 "WeirLedgerModel" "s" "[J"), (1307, Cond.fieldLink RX9 26 "WeirLedgerModel" "paidIn" "[J"), (1308, Cond.fieldLink RX9 29 "WeirLedgerModel" "gotIn" "[J"), (1309, Cond.fieldLink RX9 32 "WeirLedgerModel" "journal" "[I"), (1310, Cond.fieldLink RX9 116 "WeirLedgerModel" "acted" "I")]
theorem zPr_2 (k : Nat) {n : Nat} {w : Cond} (h : zPl_2[k]? = some (n, w)) : w ∈ zAll := zPlOk (show (zPl_2.all fun q => decide (lw_tbl[q.1]? = some q.2) && goodWord q.2) = true by decide +kernel) h
def zPl_3 : List (Nat × Cond) := [(1311, Cond.fieldLink RX9 35 "WeirLedgerModel" "theirs" "[J"), (1312, Cond.fieldLink RX9 38 "WeirLedgerModel" "hers" "[J"), (1313, Cond.fieldLink RX9 41 "WeirLedgerModel" "doing" "I"), (1314, Cond.fieldLink RX9 45 "WeirLedgerModel" "asideRow" "[J"), (1315, Cond.fieldLink RX9 48 "WeirLedgerModel" "asidePaid" "[J"), (1316, Cond.fieldLink RX9 51 "WeirLedgerModel" "asideGot" "[J"), (1317, Cond.fieldLink RX9 54 "WeirLedgerModel" "kept" "[I"), (1318, Cond.fieldLink RX9 435 "WeirLedgerModel" "hasImage" "Z"), (1319, Cond.fieldLink RX9 57 "WeirLedgerModel" "tape" "[I"), (1320, Cond.fieldLink RX9 236 "WeirLedgerModel" "taped" "I"), (1321, Cond.fieldLink RX9 239 "WeirLedgerModel" "end" "I"), (1322, Cond.fieldLink RX9 242 "WeirLedgerModel" "at" "I"), (1323, Cond.fieldLink RX9 60 "WeirLedgerModel" "fault" "I"), (1324, Cond.fieldLink RX9 63 "WeirLedgerModel" "readTerms" "[I"), (1325, Cond.fieldLink RX9 66 "WeirLedgerModel" "readPromised" "[I"), (1326, Cond.fieldLink RX9 69 "WeirLedgerModel" "readExcused" "[I"), (1327, Cond.fieldLink RX9 291 "WeirLedgerModel" "readMany" "I"), (1328, Cond.fieldLink RX9 294 "WeirLedgerModel" "readDeals" "I"), (1329, Cond.fieldLink RX9 305 "WeirLedgerModel" "toldDeals" "Z"), (1330, Cond.fieldLink RX9 72 "WeirLedgerModel" "weights" "[J"), (1331, Cond.fieldLink RX9 75 "WeirLedgerModel" "parts" "[J"), (1332, Cond.fieldLink RX9 78 "WeirLedgerModel" "rests" "[J"), (1333, Cond.fieldLink RX9 81 "WeirLedgerModel" "steps" "[J"), (1334, Cond.fieldLink RX9 159 "WeirLedgerModel" "toManager" "J"), (1335, Cond.fieldLink RX9 163 "WeirLedgerModel" "toInvestors" "J"), (1336, Cond.fieldLink RX9 84 "WeirLedgerModel" "row" "[I"), (1337, Cond.fieldLink RX9 87 "WeirLedgerModel" "bestRow" "[I"), (1338, Cond.fieldLink RX9 393 "WeirLedgerModel" "rowMany" "I"), (1339, Cond.fieldLink RX9 396 "WeirLedgerModel" "bestTaken" "J"), (69, Cond.initialized RL), (70, Cond.initialized RX8), (71, Cond.initialized RX6), (72, Cond.initialized RX1), (73, Cond.initialized RX2), (74, Cond.initialized RX5), (75, Cond.initialized RX0), (76, Cond.initialized RX4), (77, Cond.initialized RX7), (78, Cond.initialized RX3), (79, Cond.initialized RX9)]
theorem zPr_3 (k : Nat) {n : Nat} {w : Cond} (h : zPl_3[k]? = some (n, w)) : w ∈ zAll := zPlOk (show (zPl_3.all fun q => decide (lw_tbl[q.1]? = some q.2) && goodWord q.2) = true by decide +kernel) h
def zPl_4 : List (Nat × Cond) := [(80, Cond.initialized RJ7), (81, Cond.initialized RJ0), (82, Cond.initialized RJ1), (83, Cond.initialized RJ3), (84, Cond.initialized RJ2), (85, Cond.initialized "java/lang/Throwable"), (86, Cond.initialized "java/lang/Exception"), (87, Cond.initialized "java/lang/RuntimeException"), (88, Cond.initialized "java/lang/IllegalArgumentException"), (89, Cond.initialized RJ10), (90, Cond.initialized RJ9), (91, Cond.initialized "java/util/NoSuchElementException"), (92, Cond.initialized "java/lang/IndexOutOfBoundsException"), (93, Cond.initialized "java/lang/IllegalStateException"), (94, Cond.initialized "java/lang/UnsupportedOperationException"), (95, Cond.initialized RJ6), (98, Cond.methodLink RL 130 yX8_init), (99, Cond.instanceMethod yX8_init), (100, Cond.code yX8_init cX8_init 1 none), (107, Cond.instanceMethod yX6_init), (108, Cond.code yX6_init cX6_init 1 none), (129, Cond.instanceMethod yX1_init), (130, Cond.code yX1_init cX1_init 1 none), (163, Cond.instanceMethod yX2_init), (164, Cond.code yX2_init cX2_init 1 none), (179, Cond.methodLink RX8 35 yX5_init), (180, Cond.instanceMethod yX5_init), (181, Cond.code yX5_init cX5_init 2 none), (186, Cond.instanceMethod yX0_init), (187, Cond.code yX0_init cX0_init 1 none), (232, Cond.instanceMethod yX4_init), (233, Cond.code yX4_init cX4_init 1 none), (284, Cond.methodLink RX5 31 yX7_init), (285, Cond.instanceMethod yX7_init), (286, Cond.code yX7_init cX7_init 2 none), (323, Cond.methodLink RX8 47 yX3_init), (324, Cond.instanceMethod yX3_init), (325, Cond.code yX3_init cX3_init 2 none), (388, Cond.methodLink RL 134 yX8_feed), (389, Cond.instanceMethod yX8_feed)]
theorem zPr_4 (k : Nat) {n : Nat} {w : Cond} (h : zPl_4[k]? = some (n, w)) : w ∈ zAll := zPlOk (show (zPl_4.all fun q => decide (lw_tbl[q.1]? = some q.2) && goodWord q.2) = true by decide +kernel) h
def zPl_5 : List (Nat × Cond) := [(391, Cond.code yX8_feed cX8_feed 6 (some .int)), (392, Cond.methodLink RX8 72 yX6_append), (393, Cond.instanceMethod yX6_append), (395, Cond.code yX6_append cX6_append 3 none), (396, Cond.methodLink RL 139 yX8_end), (397, Cond.instanceMethod yX8_end), (399, Cond.code yX8_end cX8_end 2 (some .boolean)), (400, Cond.methodLink RL 156 yX8_fault), (401, Cond.instanceMethod yX8_fault), (403, Cond.code yX8_fault cX8_fault 1 (some .int)), (404, Cond.methodLink RL 215 yX8_claw), (405, Cond.instanceMethod yX8_claw), (407, Cond.code yX8_claw cX8_claw 1 (some .long)), (408, Cond.methodLink RX8 193 yX0_clawDue), (409, Cond.instanceMethod yX0_clawDue), (411, Cond.code yX0_clawDue cX0_clawDue 5 (some .long)), (412, Cond.methodLink RX0 101 yX0_dueNow), (413, Cond.instanceMethod yX0_dueNow), (415, Cond.code yX0_dueNow cX0_dueNow 1 (some .long)), (416, Cond.methodLink RX0 98 yJ9_max_f86c9), (417, Cond.static yJ9_max_f86c9), (418, Cond.code yJ9_max_f86c9 cJ9_max_f86c9 4 (some .long)), (419, Cond.methodLink RX0 70 yJ9_min_f86c9), (420, Cond.static yJ9_min_f86c9), (421, Cond.code yJ9_min_f86c9 cJ9_min_f86c9 4 (some .long)), (422, Cond.methodLink RX0 105 yX0_clawFromOut), (423, Cond.instanceMethod yX0_clawFromOut), (425, Cond.code yX0_clawFromOut cX0_clawFromOut 5 (some .long)), (426, Cond.constantLong RX0 80 (Int64.ofInt (100))), (427, Cond.methodLink RL 222 yX8_order), (428, Cond.instanceMethod yX8_order), (430, Cond.code yX8_order cX8_order 2 (some .long)), (431, Cond.methodLink RX8 207 yX3_search), (432, Cond.instanceMethod yX3_search), (434, Cond.code yX3_search cX3_search 2 none), (435, Cond.methodLink RX3 25 yX0_copyFrom), (436, Cond.instanceMethod yX0_copyFrom), (438, Cond.code yX0_copyFrom cX0_copyFrom 2 none), (439, Cond.methodLink RX0 31 arraycopyName), (442, Cond.methodLink RX3 29 yX0_openDeals)]
theorem zPr_5 (k : Nat) {n : Nat} {w : Cond} (h : zPl_5[k]? = some (n, w)) : w ∈ zAll := zPlOk (show (zPl_5.all fun q => decide (lw_tbl[q.1]? = some q.2) && goodWord q.2) = true by decide +kernel) h
def zPl_6 : List (Nat × Cond) := [(443, Cond.instanceMethod yX0_openDeals), (445, Cond.code yX0_openDeals cX0_openDeals 3 (some .int)), (446, Cond.methodLink RX0 58 yX0_isOpen), (447, Cond.instanceMethod yX0_isOpen), (449, Cond.code yX0_isOpen cX0_isOpen 2 (some .boolean)), (450, Cond.methodLink RX3 33 yJ6_bitCount_0f7a4), (451, Cond.static yJ6_bitCount_0f7a4), (452, Cond.code yJ6_bitCount_0f7a4 cJ6_bitCount_0f7a4 1 (some .int)), (453, Cond.constant RJ6 265 (Int32.ofInt (1431655765))), (454, Cond.constant RJ6 266 (Int32.ofInt (858993459))), (455, Cond.constant RJ6 267 (Int32.ofInt (252645135))), (456, Cond.constantLong RX3 43 (Int64.ofInt (-1))), (457, Cond.methodLink RX3 49 yX3_tryFrom), (458, Cond.instanceMethod yX3_tryFrom), (460, Cond.code yX3_tryFrom cX3_tryFrom 5 none), (461, Cond.methodLink RX3 57 arraycopyName), (462, Cond.methodLink RX3 66 yX0_isOpen), (463, Cond.methodLink RX3 73 yX0_sellDeal), (464, Cond.instanceMethod yX0_sellDeal), (466, Cond.code yX0_sellDeal cX0_sellDeal 8 none), (467, Cond.methodLink RX0 82 yX0_measure), (468, Cond.instanceMethod yX0_measure), (470, Cond.code yX0_measure cX0_measure 12 none), (471, Cond.methodLink RX0 76 yX0_catchUp), (472, Cond.instanceMethod yX0_catchUp), (474, Cond.code yX0_catchUp cX0_catchUp 16 (some .long)), (475, Cond.methodLink RX0 86 yX0_pour), (476, Cond.instanceMethod yX0_pour), (478, Cond.code yX0_pour cX0_pour 7 none), (479, Cond.methodLink RX0 62 yX0_isDealwise), (480, Cond.instanceMethod yX0_isDealwise), (482, Cond.code yX0_isDealwise cX0_isDealwise 1 (some .boolean)), (483, Cond.methodLink RX0 90 yX0_shiftToBurden), (484, Cond.instanceMethod yX0_shiftToBurden), (486, Cond.code yX0_shiftToBurden cX0_shiftToBurden 3 none), (487, Cond.constantLong RX8 214 (Int64.ofInt (-1))), (488, Cond.methodLink RL 244 yX8_clean), (489, Cond.instanceMethod yX8_clean), (491, Cond.code yX8_clean cX8_clean 5 (some .int)), (494, Cond.methodLink RX8 222 yX8_booksUnder)]
theorem zPr_6 (k : Nat) {n : Nat} {w : Cond} (h : zPl_6[k]? = some (n, w)) : w ∈ zAll := zPlOk (show (zPl_6.all fun q => decide (lw_tbl[q.1]? = some q.2) && goodWord q.2) = true by decide +kernel) h
def zPl_7 : List (Nat × Cond) := [(496, Cond.instanceMethod yX8_booksUnder), (497, Cond.code yX8_booksUnder cX8_booksUnder 5 (some (.object "WeirLedger$Books"))), (498, Cond.methodLink RX8 339 yX0_open), (499, Cond.instanceMethod yX0_open), (501, Cond.code yX0_open cX0_open 2 none), (502, Cond.methodLink RX0 37 yJ7_fill_d0a16), (503, Cond.static yJ7_fill_d0a16), (504, Cond.code yJ7_fill_d0a16 cJ7_fill_d0a16 5 none), (505, Cond.methodLink RX0 43 yJ7_fill_53178), (506, Cond.static yJ7_fill_53178), (507, Cond.code yJ7_fill_53178 cJ7_fill_53178 4 none), (508, Cond.methodLink RX8 344 yX0_retrace), (509, Cond.instanceMethod yX0_retrace), (511, Cond.code yX0_retrace cX0_retrace 8 none), (512, Cond.methodLink RX0 114 yX0_raise), (513, Cond.instanceMethod yX0_raise), (515, Cond.code yX0_raise cX0_raise 3 none), (516, Cond.methodLink RX0 94 yX0_sellDeal), (517, Cond.methodLink RX0 117 yX0_pass), (518, Cond.instanceMethod yX0_pass), (520, Cond.code yX0_pass cX0_pass 7 none), (521, Cond.constantLong RX0 66 (Int64.ofInt (10000))), (522, Cond.constantLong RX0 68 (Int64.ofInt (1000000000))), (523, Cond.methodLink RX0 121 yX0_settle), (524, Cond.instanceMethod yX0_settle), (526, Cond.code yX0_settle cX0_settle 7 (some .long)), (527, Cond.methodLink RL 248 yX8_idle), (528, Cond.instanceMethod yX8_idle), (530, Cond.code yX8_idle cX8_idle 5 (some .int)), (531, Cond.methodLink RX8 226 yX0_netTaken), (532, Cond.instanceMethod yX0_netTaken), (534, Cond.code yX0_netTaken cX0_netTaken 1 (some .long)), (535, Cond.methodLink RX8 236 yX8_netTakenWithout), (537, Cond.instanceMethod yX8_netTakenWithout), (538, Cond.code yX8_netTakenWithout cX8_netTakenWithout 3 (some .long)), (539, Cond.methodLink RX8 229 yX5_open), (540, Cond.instanceMethod yX5_open), (542, Cond.code yX5_open cX5_open 2 none), (543, Cond.methodLink RX5 38 yX0_open), (544, Cond.methodLink RX5 42 yX4_open)]
theorem zPr_7 (k : Nat) {n : Nat} {w : Cond} (h : zPl_7[k]? = some (n, w)) : w ∈ zAll := zPlOk (show (zPl_7.all fun q => decide (lw_tbl[q.1]? = some q.2) && goodWord q.2) = true by decide +kernel) h
def zPl_8 : List (Nat × Cond) := [(545, Cond.instanceMethod yX4_open), (547, Cond.code yX4_open cX4_open 2 none), (548, Cond.methodLink RX4 40 arraycopyName), (549, Cond.methodLink RX4 47 yJ7_fill_53178), (550, Cond.methodLink RX4 53 yJ7_fill_d0a16), (551, Cond.methodLink RX5 43 yX7_clear), (552, Cond.instanceMethod yX7_clear), (554, Cond.code yX7_clear cX7_clear 1 none), (555, Cond.methodLink RX7 18 yJ7_fill_d0a16), (556, Cond.methodLink RX8 232 yX5_follow), (557, Cond.instanceMethod yX5_follow), (559, Cond.code yX5_follow cX5_follow 9 (some .boolean)), (560, Cond.methodLink RX5 137 yX5_canBe), (561, Cond.instanceMethod yX5_canBe), (563, Cond.code yX5_canBe cX5_canBe 5 (some .boolean)), (564, Cond.methodLink RX5 53 yX0_isOpen), (565, Cond.methodLink RX5 57 yX4_callable), (566, Cond.instanceMethod yX4_callable), (568, Cond.code yX4_callable cX4_callable 5 (some .long)), (569, Cond.methodLink RX4 70 yX4_isExcused), (570, Cond.instanceMethod yX4_isExcused), (572, Cond.code yX4_isExcused cX4_isExcused 3 (some .boolean)), (573, Cond.methodLink RX5 64 yX4_hasFailed), (574, Cond.instanceMethod yX4_hasFailed), (576, Cond.code yX4_hasFailed cX4_hasFailed 2 (some .boolean)), (577, Cond.methodLink RX5 67 yX4_canHandOver), (578, Cond.instanceMethod yX4_canHandOver), (580, Cond.code yX4_canHandOver cX4_canHandOver 4 (some .boolean)), (581, Cond.methodLink RX4 78 yX4_hasFailed), (582, Cond.methodLink RX5 71 yX0_openDeals), (583, Cond.methodLink RX5 141 yX5_perform), (584, Cond.instanceMethod yX5_perform), (586, Cond.code yX5_perform cX5_perform 6 (some .long)), (587, Cond.methodLink RX5 82 yX4_weighUncalled), (588, Cond.instanceMethod yX4_weighUncalled), (590, Cond.code yX4_weighUncalled cX4_weighUncalled 3 none), (591, Cond.methodLink RX5 86 yX5_takeIn), (592, Cond.instanceMethod yX5_takeIn), (594, Cond.code yX5_takeIn cX5_takeIn 5 none), (595, Cond.methodLink RX5 168 yX4_split)]
theorem zPr_8 (k : Nat) {n : Nat} {w : Cond} (h : zPl_8[k]? = some (n, w)) : w ∈ zAll := zPlOk (show (zPl_8.all fun q => decide (lw_tbl[q.1]? = some q.2) && goodWord q.2) = true by decide +kernel) h
def zPl_9 : List (Nat × Cond) := [(596, Cond.instanceMethod yX4_split), (598, Cond.code yX4_split cX4_split 10 none), (599, Cond.methodLink RX5 177 yX7_add), (600, Cond.instanceMethod yX7_add), (602, Cond.code yX7_add cX7_add 5 none), (603, Cond.methodLink RX5 90 yX0_raise), (604, Cond.methodLink RX5 98 yX4_allOf), (605, Cond.instanceMethod yX4_allOf), (607, Cond.code yX4_allOf cX4_allOf 5 (some .long)), (608, Cond.methodLink RX5 102 yX0_sellDeal), (609, Cond.methodLink RX5 110 yX5_handOut), (610, Cond.instanceMethod yX5_handOut), (612, Cond.code yX5_handOut cX5_handOut 3 none), (613, Cond.methodLink RX5 184 yX4_weighFor), (614, Cond.instanceMethod yX4_weighFor), (616, Cond.code yX4_weighFor cX4_weighFor 3 none), (617, Cond.methodLink RX4 74 yX4_weightOf), (618, Cond.instanceMethod yX4_weightOf), (620, Cond.code yX4_weightOf cX4_weightOf 3 (some .int)), (621, Cond.methodLink RX5 113 yX0_remark), (622, Cond.instanceMethod yX0_remark), (624, Cond.code yX0_remark cX0_remark 4 (some .int)), (625, Cond.methodLink RX5 117 yX5_passQuarter), (626, Cond.instanceMethod yX5_passQuarter), (628, Cond.code yX5_passQuarter cX5_passQuarter 3 none), (629, Cond.methodLink RX5 153 yX5_fullFee), (630, Cond.instanceMethod yX5_fullFee), (632, Cond.code yX5_fullFee cX5_fullFee 1 (some .long)), (633, Cond.constantLong RX5 151 (Int64.ofInt (10000))), (634, Cond.methodLink RX5 156 yJ9_min_f86c9), (635, Cond.methodLink RX5 165 yX0_pass), (636, Cond.methodLink RX5 120 yX4_setFailed), (637, Cond.instanceMethod yX4_setFailed), (639, Cond.code yX4_setFailed cX4_setFailed 2 (some .int)), (640, Cond.methodLink RX5 124 yX4_handOver), (641, Cond.instanceMethod yX4_handOver), (643, Cond.code yX4_handOver cX4_handOver 5 (some .int)), (644, Cond.methodLink RX5 128 yX0_settle), (645, Cond.methodLink RL 252 yX8_blame), (646, Cond.instanceMethod yX8_blame)]
theorem zPr_9 (k : Nat) {n : Nat} {w : Cond} (h : zPl_9[k]? = some (n, w)) : w ∈ zAll := zPlOk (show (zPl_9.all fun q => decide (lw_tbl[q.1]? = some q.2) && goodWord q.2) = true by decide +kernel) h
def zPl_10 : List (Nat × Cond) := [(648, Cond.code yX8_blame cX8_blame 7 (some .int)), (649, Cond.methodLink RL 256 yX8_most), (650, Cond.instanceMethod yX8_most), (652, Cond.code yX8_most cX8_most 4 (some .long)), (653, Cond.methodLink RX8 251 yX0_standing), (654, Cond.instanceMethod yX0_standing), (656, Cond.code yX0_standing cX0_standing 2 (some .long)), (657, Cond.methodLink RX8 254 yJ9_max_f86c9), (658, Cond.methodLink RL 284 yX8_image), (659, Cond.instanceMethod yX8_image), (661, Cond.code yX8_image cX8_image 1 none), (662, Cond.methodLink RX8 86 yX1_copyFrom), (663, Cond.instanceMethod yX1_copyFrom), (665, Cond.code yX1_copyFrom cX1_copyFrom 2 none), (666, Cond.methodLink RX1 38 arraycopyName), (667, Cond.methodLink RX8 300 yX2_copyFrom), (668, Cond.instanceMethod yX2_copyFrom), (670, Cond.code yX2_copyFrom cX2_copyFrom 2 none), (671, Cond.methodLink RX2 15 arraycopyName), (672, Cond.methodLink RL 288 yX8_back), (673, Cond.instanceMethod yX8_back), (675, Cond.code yX8_back cX8_back 1 (some .boolean)), (676, Cond.methodLink RX8 93 yX8_goThroughAnew), (678, Cond.instanceMethod yX8_goThroughAnew), (679, Cond.code yX8_goThroughAnew cX8_goThroughAnew 2 none), (680, Cond.methodLink RL 293 yX8_count), (681, Cond.instanceMethod yX8_count), (683, Cond.code yX8_count cX8_count 2 (some .int)), (684, Cond.methodLink RL 144 yL_fund), (685, Cond.static yL_fund), (686, Cond.codeWith yL_fund cL_fund 3 (some .int) [(0, 8, 11, 13)]), (688, Cond.methodLink RL 7 yX8_fund), (689, Cond.instanceMethod yX8_fund), (691, Cond.code yX8_fund cX8_fund 2 (some .int)), (692, Cond.methodLink RX8 76 yX6_rewind), (693, Cond.instanceMethod yX6_rewind), (695, Cond.code yX6_rewind cX6_rewind 1 none), (696, Cond.methodLink RX8 79 yX1_readFrom), (697, Cond.instanceMethod yX1_readFrom), (699, Cond.code yX1_readFrom cX1_readFrom 3 (some .boolean))]
theorem zPr_10 (k : Nat) {n : Nat} {w : Cond} (h : zPl_10[k]? = some (n, w)) : w ∈ zAll := zPlOk (show (zPl_10.all fun q => decide (lw_tbl[q.1]? = some q.2) && goodWord q.2) = true by decide +kernel) h
def zPl_11 : List (Nat × Cond) := [(700, Cond.methodLink RX1 44 yX1_clear), (701, Cond.instanceMethod yX1_clear), (703, Cond.code yX1_clear cX1_clear 1 none), (704, Cond.methodLink RX1 21 yJ7_fill_53178), (706, Cond.methodLink RX1 49 yX6_takeWord), (707, Cond.instanceMethod yX6_takeWord), (709, Cond.code yX6_takeWord cX6_takeWord 5 (some .boolean)), (710, Cond.methodLink RX6 25 yX6_next), (711, Cond.instanceMethod yX6_next), (713, Cond.code yX6_next cX6_next 1 (some .int)), (714, Cond.methodLink RX6 37 yJ0_length_8abf5), (715, Cond.instanceMethod yJ0_length_8abf5), (717, Cond.code yJ0_length_8abf5 cJ0_length_8abf5 1 (some .int)), (718, Cond.methodLink RJ0 335 yJ0_coder_7d493), (719, Cond.instanceMethod yJ0_coder_7d493), (721, Cond.code yJ0_coder_7d493 cJ0_coder_7d493 1 (some .byte)), (724, Cond.methodLink RX6 41 yX6_isLetterAt), (725, Cond.instanceMethod yX6_isLetterAt), (727, Cond.code yX6_isLetterAt cX6_isLetterAt 2 (some .boolean)), (728, Cond.methodLink RX6 44 yJ0_charAt_5068e), (729, Cond.instanceMethod yJ0_charAt_5068e), (731, Cond.code yJ0_charAt_5068e cJ0_charAt_5068e 2 (some .char)), (732, Cond.methodLink RJ0 492 yJ0_isLatin1_aae02), (733, Cond.instanceMethod yJ0_isLatin1_aae02), (735, Cond.code yJ0_isLatin1_aae02 cJ0_isLatin1_aae02 1 (some .boolean)), (736, Cond.methodLink RJ0 495 yJ1_charAt_3b067), (737, Cond.static yJ1_charAt_3b067), (738, Cond.code yJ1_charAt_3b067 cJ1_charAt_3b067 2 (some .char)), (739, Cond.methodLink RJ1 9 yJ0_checkIndex_df160), (740, Cond.static yJ0_checkIndex_df160), (741, Cond.code yJ0_checkIndex_df160 cJ0_checkIndex_df160 2 none), (744, Cond.methodLink RJ0 1059 yJ3_checkIndex_8e157), (745, Cond.static yJ3_checkIndex_8e157), (746, Cond.code yJ3_checkIndex_8e157 cJ3_checkIndex_8e157 3 (some .int)), (747, Cond.methodLink RJ0 498 yJ2_charAt_3b067), (748, Cond.static yJ2_charAt_3b067), (749, Cond.code yJ2_charAt_3b067 cJ2_charAt_3b067 2 (some .char)), (750, Cond.methodLink RJ2 67 yJ2_checkIndex_2214a), (751, Cond.static yJ2_checkIndex_2214a), (752, Cond.code yJ2_checkIndex_2214a cJ2_checkIndex_2214a 2 none)]
theorem zPr_11 (k : Nat) {n : Nat} {w : Cond} (h : zPl_11[k]? = some (n, w)) : w ∈ zAll := zPlOk (show (zPl_11.all fun q => decide (lw_tbl[q.1]? = some q.2) && goodWord q.2) = true by decide +kernel) h
def zPl_12 : List (Nat × Cond) := [(753, Cond.methodLink RJ2 48 yJ2_length_9d52b), (754, Cond.static yJ2_length_9d52b), (755, Cond.code yJ2_length_9d52b cJ2_length_9d52b 1 (some .int)), (756, Cond.methodLink RJ2 414 yJ0_checkIndex_df160), (757, Cond.methodLink RJ2 71 yJ2_getChar_3b067), (758, Cond.static yJ2_getChar_3b067), (759, Cond.code yJ2_getChar_3b067 cJ2_getChar_3b067 2 (some .char)), (766, Cond.methodLink RX1 55 yX6_refuseNext), (767, Cond.instanceMethod yX6_refuseNext), (769, Cond.code yX6_refuseNext cX6_refuseNext 1 (some .boolean)), (770, Cond.methodLink RX6 29 yX6_refuse), (771, Cond.instanceMethod yX6_refuse), (773, Cond.code yX6_refuse cX6_refuse 2 (some .boolean)), (774, Cond.methodLink RX1 59 yX1_readTerms), (775, Cond.instanceMethod yX1_readTerms), (777, Cond.code yX1_readTerms cX1_readTerms 3 (some .boolean)), (778, Cond.methodLink RX1 72 yX1_termWord), (779, Cond.static yX1_termWord), (780, Cond.code yX1_termWord cX1_termWord 1 (some (.object "java/lang/String"))), (789, Cond.methodLink RX1 79 yX6_takeNumber), (790, Cond.instanceMethod yX6_takeNumber), (792, Cond.code yX6_takeNumber cX6_takeNumber 6 (some .int)), (793, Cond.methodLink RX6 48 yX6_isDigit), (794, Cond.static yX6_isDigit), (795, Cond.code yX6_isDigit cX6_isDigit 1 (some .boolean)), (796, Cond.methodLink RX1 83 yX6_isRight), (797, Cond.instanceMethod yX6_isRight), (799, Cond.code yX6_isRight cX6_isRight 1 (some .boolean)), (800, Cond.methodLink RX1 63 yX6_isThrough), (801, Cond.instanceMethod yX6_isThrough), (803, Cond.code yX6_isThrough cX6_isThrough 1 (some .boolean)), (804, Cond.methodLink RX1 66 yX6_takeSemicolon), (805, Cond.instanceMethod yX6_takeSemicolon), (807, Cond.code yX6_takeSemicolon cX6_takeSemicolon 1 (some .boolean)), (808, Cond.methodLink RX6 33 yX6_isThrough), (809, Cond.methodLink RX1 69 yX1_readLine), (810, Cond.instanceMethod yX1_readLine), (812, Cond.code yX1_readLine cX1_readLine 3 (some .boolean)), (813, Cond.methodLink RX1 100 yX6_next), (815, Cond.methodLink RX1 106 yX6_refuse)]
theorem zPr_12 (k : Nat) {n : Nat} {w : Cond} (h : zPl_12[k]? = some (n, w)) : w ∈ zAll := zPlOk (show (zPl_12.all fun q => decide (lw_tbl[q.1]? = some q.2) && goodWord q.2) = true by decide +kernel) h
def zPl_13 : List (Nat × Cond) := [(818, Cond.methodLink RX1 114 yX1_readExcuse), (819, Cond.instanceMethod yX1_readExcuse), (821, Cond.code yX1_readExcuse cX1_readExcuse 6 (some .boolean)), (888, Cond.methodLink RL 153 yL_acts), (889, Cond.static yL_acts), (890, Cond.codeWith yL_acts cL_acts 3 (some .int) [(0, 8, 11, 13)]), (891, Cond.methodLink RL 15 yX8_acts), (892, Cond.instanceMethod yX8_acts), (894, Cond.code yX8_acts cX8_acts 3 (some .int)), (895, Cond.methodLink RX8 99 yX8_readActs), (897, Cond.instanceMethod yX8_readActs), (898, Cond.code yX8_readActs cX8_readActs 2 (some .boolean)), (899, Cond.methodLink RX8 348 yX6_isThrough), (900, Cond.methodLink RX8 351 yX8_readAct), (902, Cond.instanceMethod yX8_readAct), (903, Cond.code yX8_readAct cX8_readAct 7 (some .boolean)), (904, Cond.methodLink RX8 360 yX6_next), (905, Cond.methodLink RX8 363 yX6_takeKind), (906, Cond.instanceMethod yX6_takeKind), (908, Cond.code yX6_takeKind cX6_takeKind 1 (some .int)), (910, Cond.methodLink RX6 57 yX6_takeWord), (917, Cond.methodLink RX8 366 yX6_refuse), (918, Cond.methodLink RX8 369 yX6_takeNumber), (919, Cond.methodLink RX8 372 yX6_isRight), (920, Cond.methodLink RX8 375 yX6_takeNumberUnlike), (921, Cond.instanceMethod yX6_takeNumberUnlike), (923, Cond.code yX6_takeNumberUnlike cX6_takeNumberUnlike 5 (some .int)), (924, Cond.methodLink RX6 51 yX6_takeNumber), (926, Cond.methodLink RX8 380 yX6_takeWord), (927, Cond.methodLink RX8 313 yX5_canBe), (928, Cond.methodLink RX8 320 yX8_doAndWrite), (930, Cond.instanceMethod yX8_doAndWrite), (931, Cond.code yX8_doAndWrite cX8_doAndWrite 8 (some .long)), (932, Cond.methodLink RX8 323 yX5_perform), (933, Cond.methodLink RX8 326 yX2_write), (934, Cond.instanceMethod yX2_write), (936, Cond.code yX2_write cX2_write 7 none), (937, Cond.methodLink RX8 336 yX2_writeComing), (938, Cond.instanceMethod yX2_writeComing), (940, Cond.code yX2_writeComing cX2_writeComing 4 none)]
theorem zPr_13 (k : Nat) {n : Nat} {w : Cond} (h : zPl_13[k]? = some (n, w)) : w ∈ zAll := zPlOk (show (zPl_13.all fun q => decide (lw_tbl[q.1]? = some q.2) && goodWord q.2) = true by decide +kernel) h
def zPl_14 : List (Nat × Cond) := [(941, Cond.methodLink RX8 354 yX6_takeSemicolon), (942, Cond.methodLink RX8 357 yX6_refuseNext), (943, Cond.methodLink RL 160 yL_term), (944, Cond.static yL_term), (945, Cond.codeWith yL_term cL_term 4 (some .int) [(0, 9, 12, 22)]), (947, Cond.methodLink RL 18 yX8_term), (948, Cond.instanceMethod yX8_term), (950, Cond.code yX8_term cX8_term 2 (some .int)), (966, Cond.methodLink RL 164 yL_investor), (967, Cond.static yL_investor), (968, Cond.codeWith yL_investor cL_investor 5 (some .int) [(0, 9, 12, 28), (0, 9, 16, 22)]), (970, Cond.methodLink RL 24 yX8_investor), (971, Cond.instanceMethod yX8_investor), (973, Cond.code yX8_investor cX8_investor 3 (some .long)), (974, Cond.methodLink RX8 113 yX8_isInvestor), (976, Cond.instanceMethod yX8_isInvestor), (977, Cond.code yX8_isInvestor cX8_isInvestor 2 (some .boolean)), (993, Cond.methodLink RX8 139 yX4_weightOf), (994, Cond.methodLink RX8 143 yX4_hasFailed), (995, Cond.methodLink RL 168 yL_deal), (996, Cond.static yL_deal), (997, Cond.codeWith yL_deal cL_deal 5 (some .int) [(0, 10, 13, 28), (0, 10, 17, 22)]), (998, Cond.methodLink RL 30 yX8_deal), (999, Cond.instanceMethod yX8_deal), (1001, Cond.code yX8_deal cX8_deal 3 (some .int)), (1002, Cond.methodLink RX8 146 yX8_isDeal), (1004, Cond.instanceMethod yX8_isDeal), (1005, Cond.code yX8_isDeal cX8_isDeal 2 (some .boolean)), (1006, Cond.methodLink RL 171 yL_ladder), (1007, Cond.static yL_ladder), (1008, Cond.codeWith yL_ladder cL_ladder 5 (some .int) [(0, 9, 12, 28), (0, 9, 16, 22)]), (1009, Cond.methodLink RL 34 yX8_ladder), (1010, Cond.instanceMethod yX8_ladder), (1012, Cond.code yX8_ladder cX8_ladder 4 (some .long)), (1013, Cond.methodLink RL 174 yL_manager), (1014, Cond.static yL_manager), (1015, Cond.codeWith yL_manager cL_manager 4 (some .int) [(0, 8, 11, 22)]), (1016, Cond.methodLink RL 37 yX8_manager), (1017, Cond.instanceMethod yX8_manager), (1019, Cond.code yX8_manager cX8_manager 2 (some .long))]
theorem zPr_14 (k : Nat) {n : Nat} {w : Cond} (h : zPl_14[k]? = some (n, w)) : w ∈ zAll := zPlOk (show (zPl_14.all fun q => decide (lw_tbl[q.1]? = some q.2) && goodWord q.2) = true by decide +kernel) h
def zPl_15 : List (Nat × Cond) := [(1020, Cond.methodLink RL 177 yL_call), (1021, Cond.static yL_call), (1022, Cond.codeWith yL_call cL_call 5 (some .int) [(0, 10, 13, 28), (0, 10, 17, 13), (0, 10, 21, 44), (0, 10, 25, 46)]), (1025, Cond.methodLink RL 41 yX8_call), (1026, Cond.instanceMethod yX8_call), (1028, Cond.code yX8_call cX8_call 3 (some .int)), (1029, Cond.methodLink RX8 164 yX8_done), (1031, Cond.instanceMethod yX8_done), (1032, Cond.code yX8_done cX8_done 5 (some .long)), (1063, Cond.methodLink RL 180 yL_sell), (1064, Cond.static yL_sell), (1065, Cond.codeWith yL_sell cL_sell 6 (some .int) [(0, 12, 15, 28), (0, 12, 19, 13), (0, 12, 23, 44), (0, 12, 27, 46)]), (1066, Cond.methodLink RL 48 yX8_sell), (1067, Cond.instanceMethod yX8_sell), (1069, Cond.code yX8_sell cX8_sell 4 (some .int)), (1070, Cond.methodLink RL 184 yL_mark), (1071, Cond.static yL_mark), (1072, Cond.codeWith yL_mark cL_mark 5 (some .int) [(0, 10, 13, 28), (0, 10, 17, 13), (0, 10, 21, 44), (0, 10, 25, 46)]), (1073, Cond.methodLink RL 52 yX8_mark), (1074, Cond.instanceMethod yX8_mark), (1076, Cond.code yX8_mark cX8_mark 3 (some .int)), (1077, Cond.methodLink RL 187 yL_quarters), (1078, Cond.static yL_quarters), (1079, Cond.codeWith yL_quarters cL_quarters 4 (some .int) [(0, 9, 12, 13), (0, 9, 15, 44), (0, 9, 18, 46)]), (1080, Cond.methodLink RL 55 yX8_quarters), (1081, Cond.instanceMethod yX8_quarters), (1083, Cond.code yX8_quarters cX8_quarters 2 (some .int)), (1084, Cond.methodLink RL 190 yL_fail), (1085, Cond.static yL_fail), (1086, Cond.codeWith yL_fail cL_fail 4 (some .int) [(0, 9, 12, 28), (0, 9, 15, 44), (0, 9, 18, 46)]), (1087, Cond.methodLink RL 58 yX8_fail), (1088, Cond.instanceMethod yX8_fail), (1090, Cond.code yX8_fail cX8_fail 2 (some .int)), (1091, Cond.methodLink RL 193 yL_move), (1092, Cond.static yL_move), (1093, Cond.codeWith yL_move cL_move 6 (some .int) [(0, 12, 15, 28), (0, 12, 19, 13), (0, 12, 23, 44), (0, 12, 27, 46)]), (1094, Cond.methodLink RL 61 yX8_move), (1095, Cond.instanceMethod yX8_move), (1097, Cond.code yX8_move cX8_move 4 (some .int)), (1098, Cond.methodLink RL 197 yL_close)]
theorem zPr_15 (k : Nat) {n : Nat} {w : Cond} (h : zPl_15[k]? = some (n, w)) : w ∈ zAll := zPlOk (show (zPl_15.all fun q => decide (lw_tbl[q.1]? = some q.2) && goodWord q.2) = true by decide +kernel) h
def zPl_16 : List (Nat × Cond) := [(1099, Cond.static yL_close), (1100, Cond.codeWith yL_close cL_close 3 (some .int) [(0, 7, 10, 44), (0, 7, 13, 46)]), (1101, Cond.methodLink RL 65 yX8_close), (1102, Cond.instanceMethod yX8_close), (1104, Cond.code yX8_close cX8_close 1 (some .long)), (1105, Cond.methodLink RL 200 yL_undo), (1106, Cond.static yL_undo), (1107, Cond.codeWith yL_undo cL_undo 3 (some .int) [(0, 8, 11, 44)]), (1108, Cond.methodLink RL 69 yX8_undo), (1109, Cond.instanceMethod yX8_undo), (1111, Cond.code yX8_undo cX8_undo 1 (some .int)), (1112, Cond.methodLink RL 203 yL_filling), (1113, Cond.static yL_filling), (1114, Cond.codeWith yL_filling cL_filling 6 (some .int) [(0, 11, 14, 28), (0, 11, 18, 13), (0, 11, 22, 22)]), (1115, Cond.methodLink RL 72 yX8_filling), (1116, Cond.instanceMethod yX8_filling), (1118, Cond.code yX8_filling cX8_filling 4 (some .long)), (1119, Cond.methodLink RX8 171 yX8_isDealOrNone), (1121, Cond.instanceMethod yX8_isDealOrNone), (1122, Cond.code yX8_isDealOrNone cX8_isDealOrNone 2 (some .boolean)), (1123, Cond.constant RX8 174 (Int32.ofInt (99999))), (1124, Cond.methodLink RX8 175 yX8_measureAt), (1126, Cond.instanceMethod yX8_measureAt), (1127, Cond.code yX8_measureAt cX8_measureAt 4 none), (1128, Cond.methodLink RX8 269 yX0_isDealwise), (1129, Cond.methodLink RX8 309 yX0_measure), (1130, Cond.methodLink RL 206 yL_needed), (1131, Cond.static yL_needed), (1132, Cond.codeWith yL_needed cL_needed 5 (some .int) [(0, 10, 13, 28), (0, 10, 17, 22)]), (1133, Cond.methodLink RL 76 yX8_needed), (1134, Cond.instanceMethod yX8_needed), (1136, Cond.code yX8_needed cX8_needed 7 (some .int)), (1137, Cond.methodLink RL 209 yL_reaches), (1138, Cond.static yL_reaches), (1139, Cond.codeWith yL_reaches cL_reaches 5 (some .int) [(0, 10, 13, 28), (0, 10, 17, 13)]), (1140, Cond.methodLink RL 79 yX8_reaches), (1141, Cond.instanceMethod yX8_reaches), (1143, Cond.code yX8_reaches cX8_reaches 7 (some .int)), (1144, Cond.constant RX8 182 (Int32.ofInt (100000))), (1145, Cond.methodLink RL 212 yL_share)]
theorem zPr_16 (k : Nat) {n : Nat} {w : Cond} (h : zPl_16[k]? = some (n, w)) : w ∈ zAll := zPlOk (show (zPl_16.all fun q => decide (lw_tbl[q.1]? = some q.2) && goodWord q.2) = true by decide +kernel) h
def zPl_17 : List (Nat × Cond) := [(1146, Cond.static yL_share), (1147, Cond.codeWith yL_share cL_share 6 (some .int) [(0, 12, 15, 28), (0, 12, 19, 13)]), (1148, Cond.methodLink RL 82 yX8_share), (1149, Cond.instanceMethod yX8_share), (1151, Cond.code yX8_share cX8_share 4 (some .int)), (1152, Cond.methodLink RX8 183 yX4_weighFor), (1153, Cond.methodLink RX8 186 yX4_split), (1154, Cond.methodLink RL 219 yL_soldOut), (1155, Cond.static yL_soldOut), (1156, Cond.codeWith yL_soldOut cL_soldOut 4 (some .int) [(0, 8, 11, 22)]), (1157, Cond.methodLink RL 85 yX8_soldOut), (1158, Cond.instanceMethod yX8_soldOut), (1160, Cond.code yX8_soldOut cX8_soldOut 4 (some .long)), (1161, Cond.methodLink RX8 197 yX0_copyFrom), (1162, Cond.methodLink RX8 200 yX0_sellAll), (1163, Cond.instanceMethod yX0_sellAll), (1165, Cond.code yX0_sellAll cX0_sellAll 4 (some .long)), (1166, Cond.methodLink RL 226 yL_would), (1167, Cond.static yL_would), (1168, Cond.codeWith yL_would cL_would 5 (some .int) [(0, 9, 12, 22), (0, 9, 16, 13)]), (1169, Cond.methodLink RL 88 yX8_would), (1170, Cond.instanceMethod yX8_would), (1172, Cond.code yX8_would cX8_would 3 (some .long)), (1173, Cond.methodLink RL 229 yL_bar), (1174, Cond.static yL_bar), (1175, Cond.codeWith yL_bar cL_bar 4 (some .int) [(0, 9, 12, 13)]), (1176, Cond.methodLink RL 91 yX8_bar), (1177, Cond.instanceMethod yX8_bar), (1179, Cond.code yX8_bar cX8_bar 3 (some .int)), (1180, Cond.methodLink RL 232 yL_drift), (1181, Cond.static yL_drift), (1182, Cond.codeWith yL_drift cL_drift 4 (some .int) [(0, 8, 11, 28)]), (1183, Cond.methodLink RL 94 yX8_drift), (1184, Cond.instanceMethod yX8_drift), (1186, Cond.code yX8_drift cX8_drift 2 (some .long)), (1187, Cond.methodLink RL 235 yL_swapped), (1188, Cond.static yL_swapped), (1189, Cond.codeWith yL_swapped cL_swapped 4 (some .int) [(0, 8, 11, 28)]), (1190, Cond.methodLink RL 97 yX8_swapped), (1191, Cond.instanceMethod yX8_swapped)]
theorem zPr_17 (k : Nat) {n : Nat} {w : Cond} (h : zPl_17[k]? = some (n, w)) : w ∈ zAll := zPlOk (show (zPl_17.all fun q => decide (lw_tbl[q.1]? = some q.2) && goodWord q.2) = true by decide +kernel) h
def zPl_18 : List (Nat × Cond) := [(1193, Cond.code yX8_swapped cX8_swapped 4 (some .long)), (1194, Cond.methodLink RL 238 yL_without), (1195, Cond.static yL_without), (1196, Cond.codeWith yL_without cL_without 4 (some .int) [(0, 8, 11, 28)]), (1197, Cond.methodLink RL 100 yX8_without), (1198, Cond.instanceMethod yX8_without), (1200, Cond.code yX8_without cX8_without 2 (some .long)), (1201, Cond.methodLink RL 241 yL_behind), (1202, Cond.static yL_behind), (1203, Cond.codeWith yL_behind cL_behind 5 (some .int) [(0, 9, 12, 28), (0, 9, 16, 22)]), (1204, Cond.methodLink RL 103 yX8_behind), (1205, Cond.instanceMethod yX8_behind), (1207, Cond.code yX8_behind cX8_behind 4 (some .long)), (1208, Cond.methodLink RX8 240 yX4_allOf), (1209, Cond.methodLink RL 260 yL_owed), (1210, Cond.static yL_owed), (1211, Cond.codeWith yL_owed cL_owed 5 (some .int) [(0, 9, 12, 28), (0, 9, 16, 13)]), (1212, Cond.methodLink RL 106 yX8_owed), (1213, Cond.instanceMethod yX8_owed), (1215, Cond.code yX8_owed cX8_owed 8 (some .long)), (1216, Cond.methodLink RX8 260 yX5_fullFee), (1217, Cond.methodLink RX8 263 yJ9_min_f86c9), (1218, Cond.methodLink RX8 266 yX0_pass), (1219, Cond.methodLink RL 263 yL_patience), (1220, Cond.static yL_patience), (1221, Cond.codeWith yL_patience cL_patience 4 (some .int) [(0, 9, 12, 13)]), (1222, Cond.methodLink RL 109 yX8_patience), (1223, Cond.instanceMethod yX8_patience), (1225, Cond.code yX8_patience cX8_patience 9 (some .int)), (1226, Cond.methodLink RX8 272 yJ9_min_7cf53), (1227, Cond.static yJ9_min_7cf53), (1228, Cond.code yJ9_min_7cf53 cJ9_min_7cf53 2 (some .int)), (1229, Cond.methodLink RL 266 yL_deals), (1230, Cond.static yL_deals), (1231, Cond.codeWith yL_deals cL_deals 4 (some .int) [(0, 9, 12, 22)]), (1232, Cond.methodLink RL 112 yX8_deals), (1233, Cond.instanceMethod yX8_deals), (1235, Cond.code yX8_deals cX8_deals 2 (some .int)), (1236, Cond.methodLink RX8 275 yX0_extremeDeal), (1237, Cond.instanceMethod yX0_extremeDeal)]
theorem zPr_18 (k : Nat) {n : Nat} {w : Cond} (h : zPl_18[k]? = some (n, w)) : w ∈ zAll := zPlOk (show (zPl_18.all fun q => decide (lw_tbl[q.1]? = some q.2) && goodWord q.2) = true by decide +kernel) h
def zPl_19 : List (Nat × Cond) := [(1239, Cond.code yX0_extremeDeal cX0_extremeDeal 6 (some .int)), (1240, Cond.methodLink RX8 278 yX0_openDeals), (1241, Cond.methodLink RL 269 yL_curve), (1242, Cond.static yL_curve), (1243, Cond.codeWith yL_curve cL_curve 4 (some .int) [(0, 8, 11, 13)]), (1244, Cond.methodLink RL 115 yX8_curve), (1245, Cond.instanceMethod yX8_curve), (1247, Cond.code yX8_curve cX8_curve 5 (some .long)), (1248, Cond.methodLink RX8 286 yX7_flow), (1249, Cond.instanceMethod yX7_flow), (1251, Cond.code yX7_flow cX7_flow 3 (some .long)), (1252, Cond.methodLink RL 272 yL_curves), (1253, Cond.static yL_curves), (1254, Cond.codeWith yL_curves cL_curves 4 (some .int) [(0, 9, 12, 22)]), (1255, Cond.methodLink RL 118 yX8_curves), (1256, Cond.instanceMethod yX8_curves), (1258, Cond.code yX8_curves cX8_curves 9 (some .int)), (1259, Cond.methodLink RL 275 yL_rate), (1260, Cond.static yL_rate), (1261, Cond.codeWith yL_rate cL_rate 4 (some .int) [(0, 9, 12, 28)]), (1262, Cond.methodLink RL 121 yX8_rate), (1263, Cond.instanceMethod yX8_rate), (1265, Cond.code yX8_rate cX8_rate 4 (some .int)), (1266, Cond.methodLink RX8 292 yX7_worth), (1267, Cond.instanceMethod yX7_worth), (1269, Cond.code yX7_worth cX7_worth 9 (some .double)), (1270, Cond.constantDouble RX7 24 4666723172467343360), (1271, Cond.methodLink RL 278 yL_multiple), (1272, Cond.static yL_multiple), (1273, Cond.codeWith yL_multiple cL_multiple 4 (some .int) [(0, 9, 12, 28)]), (1274, Cond.methodLink RL 124 yX8_multiple), (1275, Cond.instanceMethod yX8_multiple), (1277, Cond.code yX8_multiple cX8_multiple 7 (some .int)), (1278, Cond.constantFloat RX8 296 1148846080), (1279, Cond.methodLink RL 281 yL_act), (1280, Cond.static yL_act), (1281, Cond.codeWith yL_act cL_act 5 (some .int) [(0, 10, 13, 28), (0, 10, 17, 22)]), (1282, Cond.methodLink RL 127 yX8_act), (1283, Cond.instanceMethod yX8_act), (1285, Cond.code yX8_act cX8_act 3 (some .int))]
theorem zPr_19 (k : Nat) {n : Nat} {w : Cond} (h : zPl_19[k]? = some (n, w)) : w ∈ zAll := zPlOk (show (zPl_19.all fun q => decide (lw_tbl[q.1]? = some q.2) && goodWord q.2) = true by decide +kernel) h
def zPl_20 : List (Nat × Cond) := [(1288, Cond.methodLink RL 133 yX9_init), (1289, Cond.instanceMethod yX9_init), (1290, Cond.code yX9_init cX9_init 1 none), (1292, Cond.methodLink RX9 90 yX9_anew), (1294, Cond.instanceMethod yX9_anew), (1295, Cond.code yX9_anew cX9_anew 2 none), (1296, Cond.methodLink RX9 110 yX9_placeOf), (1297, Cond.static yX9_placeOf), (1298, Cond.code yX9_placeOf cX9_placeOf 2 (some .int)), (1423, Cond.methodLink RL 150 yX9_thrown), (1424, Cond.instanceMethod yX9_thrown), (1426, Cond.code yX9_thrown cX9_thrown 1 (some .int)), (1427, Cond.methodLink RL 138 yX9_feed), (1428, Cond.instanceMethod yX9_feed), (1430, Cond.code yX9_feed cX9_feed 8 (some .int)), (1431, Cond.methodLink RL 143 yX9_end), (1432, Cond.instanceMethod yX9_end), (1434, Cond.code yX9_end cX9_end 2 (some .boolean)), (1435, Cond.methodLink RX9 99 yX9_isIn), (1436, Cond.static yX9_isIn), (1437, Cond.code yX9_isIn cX9_isIn 6 (some .boolean)), (1438, Cond.methodLink RL 149 yX9_fund), (1439, Cond.instanceMethod yX9_fund), (1441, Cond.code yX9_fund cX9_fund 3 (some .int)), (1442, Cond.methodLink RX9 314 yX9_begins), (1444, Cond.instanceMethod yX9_begins), (1445, Cond.code yX9_begins cX9_begins 1 none), (1446, Cond.methodLink RX9 317 yX9_fundLine), (1448, Cond.instanceMethod yX9_fundLine), (1449, Cond.code yX9_fundLine cX9_fundLine 4 none), (1450, Cond.methodLink RX9 245 yX9_here), (1452, Cond.instanceMethod yX9_here), (1453, Cond.code yX9_here cX9_here 1 (some .int)), (1455, Cond.methodLink RX9 284 yX9_has), (1457, Cond.instanceMethod yX9_has), (1458, Cond.code yX9_has cX9_has 4 (some .boolean)), (1459, Cond.constantLong RX9 249 (Int64.ofInt (97))), (1460, Cond.constantLong RX9 251 (Int64.ofInt (122))), (1461, Cond.methodLink RX9 253 yJ0_length_8abf5), (1462, Cond.methodLink RX9 258 yJ0_charAt_5068e)]
theorem zPr_20 (k : Nat) {n : Nat} {w : Cond} (h : zPl_20[k]? = some (n, w)) : w ∈ zAll := zPlOk (show (zPl_20.all fun q => decide (lw_tbl[q.1]? = some q.2) && goodWord q.2) = true by decide +kernel) h
def zPl_21 : List (Nat × Cond) := [(1463, Cond.methodLink RX9 299 yX9_termLine), (1465, Cond.instanceMethod yX9_termLine), (1466, Cond.code yX9_termLine cX9_termLine 3 none), (1476, Cond.methodLink RX9 288 yX9_number), (1478, Cond.instanceMethod yX9_number), (1479, Cond.code yX9_number cX9_number 5 (some .int)), (1480, Cond.constantLong RX9 262 (Int64.ofInt (48))), (1481, Cond.constantLong RX9 264 (Int64.ofInt (57))), (1482, Cond.methodLink RX9 266 yX9_wrong), (1484, Cond.instanceMethod yX9_wrong), (1485, Cond.code yX9_wrong cX9_wrong 2 none), (1489, Cond.methodLink RX9 311 yX9_excuseLine), (1491, Cond.instanceMethod yX9_excuseLine), (1492, Cond.code yX9_excuseLine cX9_excuseLine 5 none), (1493, Cond.methodLink RX9 321 yX9_comesMore), (1495, Cond.instanceMethod yX9_comesMore), (1496, Cond.code yX9_comesMore cX9_comesMore 3 (some .boolean)), (1497, Cond.methodLink RL 155 yX9_acts_), (1498, Cond.instanceMethod yX9_acts_), (1500, Cond.code yX9_acts_ cX9_acts_ 3 (some .int)), (1501, Cond.methodLink RX9 339 yX9_actLine), (1503, Cond.instanceMethod yX9_actLine), (1504, Cond.code yX9_actLine cX9_actLine 7 none), (1513, Cond.methodLink RX9 229 yX9_canBe), (1515, Cond.instanceMethod yX9_canBe), (1516, Cond.code yX9_canBe cX9_canBe 5 (some .boolean)), (1517, Cond.methodLink RX9 166 yX9_dealAt), (1518, Cond.static yX9_dealAt), (1519, Cond.code yX9_dealAt cX9_dealAt 2 (some .int)), (1520, Cond.methodLink RX9 184 yX9_uncalled), (1522, Cond.instanceMethod yX9_uncalled), (1523, Cond.code yX9_uncalled cX9_uncalled 5 (some .long)), (1524, Cond.methodLink RX9 106 yX9_isExcused), (1526, Cond.instanceMethod yX9_isExcused), (1527, Cond.code yX9_isExcused cX9_isExcused 3 (some .boolean)), (1528, Cond.constantLong RX9 220 (Int64.ofInt (200))), (1529, Cond.methodLink RX9 222 yX9_areClosed), (1531, Cond.instanceMethod yX9_areClosed), (1532, Cond.code yX9_areClosed cX9_areClosed 2 (some .boolean)), (1533, Cond.methodLink RX9 225 yX9_canMove)]
theorem zPr_21 (k : Nat) {n : Nat} {w : Cond} (h : zPl_21[k]? = some (n, w)) : w ∈ zAll := zPlOk (show (zPl_21.all fun q => decide (lw_tbl[q.1]? = some q.2) && goodWord q.2) = true by decide +kernel) h
def zPl_22 : List (Nat × Cond) := [(1535, Cond.instanceMethod yX9_canMove), (1536, Cond.code yX9_canMove cX9_canMove 4 (some .boolean)), (1537, Cond.constantLong RX9 218 (Int64.ofInt (9999))), (1538, Cond.methodLink RX9 233 yX9_writesDown), (1540, Cond.instanceMethod yX9_writesDown), (1541, Cond.code yX9_writesDown cX9_writesDown 6 none), (1542, Cond.methodLink RX9 119 yX9_doesAgain), (1544, Cond.instanceMethod yX9_doesAgain), (1545, Cond.code yX9_doesAgain cX9_doesAgain 3 none), (1546, Cond.methodLink RX9 123 yX9_does), (1548, Cond.instanceMethod yX9_does), (1549, Cond.code yX9_does cX9_does 6 none), (1550, Cond.methodLink RX9 187 yX9_paysAll), (1552, Cond.instanceMethod yX9_paysAll), (1553, Cond.code yX9_paysAll cX9_paysAll 5 none), (1554, Cond.methodLink RX9 133 yX9_shares), (1556, Cond.instanceMethod yX9_shares), (1557, Cond.code yX9_shares cX9_shares 9 none), (1558, Cond.constantLong RX9 127 (Int64.ofInt (-1))), (1559, Cond.methodLink RX9 141 yX9_ladderAt), (1560, Cond.static yX9_ladderAt), (1561, Cond.code yX9_ladderAt cX9_ladderAt 2 (some .int)), (1562, Cond.methodLink RX9 173 yX9_isDealwise), (1564, Cond.instanceMethod yX9_isDealwise), (1565, Cond.code yX9_isDealwise cX9_isDealwise 1 (some .boolean)), (1566, Cond.methodLink RX9 204 yX9_sells), (1568, Cond.instanceMethod yX9_sells), (1569, Cond.code yX9_sells cX9_sells 10 none), (1570, Cond.methodLink RX9 169 yX9_fills), (1572, Cond.instanceMethod yX9_fills), (1573, Cond.code yX9_fills cX9_fills 7 none), (1574, Cond.methodLink RX9 152 yX9_takes), (1576, Cond.instanceMethod yX9_takes), (1577, Cond.code yX9_takes cX9_takes 7 (some .long)), (1578, Cond.methodLink RX9 144 yX9_lesser), (1579, Cond.static yX9_lesser), (1580, Cond.code yX9_lesser cX9_lesser 4 (some .long)), (1581, Cond.methodLink RX9 156 yX9_caught), (1583, Cond.instanceMethod yX9_caught), (1584, Cond.code yX9_caught cX9_caught 19 (some .long))]
theorem zPr_22 (k : Nat) {n : Nat} {w : Cond} (h : zPl_22[k]? = some (n, w)) : w ∈ zAll := zPlOk (show (zPl_22.all fun q => decide (lw_tbl[q.1]? = some q.2) && goodWord q.2) = true by decide +kernel) h
def zPl_23 : List (Nat × Cond) := [(1585, Cond.constantLong RX9 148 (Int64.ofInt (1000000000000))), (1586, Cond.constantLong RX9 150 (Int64.ofInt (100))), (1587, Cond.methodLink RX9 177 yX9_getsAll), (1589, Cond.instanceMethod yX9_getsAll), (1590, Cond.code yX9_getsAll cX9_getsAll 5 none), (1591, Cond.methodLink RX9 137 yX9_byWeights), (1593, Cond.instanceMethod yX9_byWeights), (1594, Cond.code yX9_byWeights cX9_byWeights 5 none), (1595, Cond.methodLink RX9 129 yX9_weightOf), (1597, Cond.instanceMethod yX9_weightOf), (1598, Cond.code yX9_weightOf cX9_weightOf 4 (some .long)), (1599, Cond.constantLong RX9 114 (Int64.ofInt (2))), (1600, Cond.methodLink RX9 208 yX9_quarterGoes), (1602, Cond.instanceMethod yX9_quarterGoes), (1603, Cond.code yX9_quarterGoes cX9_quarterGoes 5 none), (1604, Cond.constantLong RX9 180 (Int64.ofInt (10000))), (1605, Cond.constantLong RX9 182 (Int64.ofInt (1000000000))), (1606, Cond.methodLink RX9 211 yX9_moves), (1608, Cond.instanceMethod yX9_moves), (1609, Cond.code yX9_moves cX9_moves 6 none), (1610, Cond.methodLink RX9 200 yX9_movedBy), (1612, Cond.instanceMethod yX9_movedBy), (1613, Cond.code yX9_movedBy cX9_movedBy 3 (some .long)), (1614, Cond.methodLink RX9 215 yX9_ends), (1616, Cond.instanceMethod yX9_ends), (1617, Cond.code yX9_ends cX9_ends 5 none), (1618, Cond.methodLink RX9 193 yX9_fromHeld), (1620, Cond.instanceMethod yX9_fromHeld), (1621, Cond.code yX9_fromHeld cX9_fromHeld 1 (some .long)), (1622, Cond.methodLink RX9 190 yX9_greater), (1623, Cond.static yX9_greater), (1624, Cond.code yX9_greater cX9_greater 4 (some .long)), (1625, Cond.methodLink RX9 197 yX9_fromOut), (1627, Cond.instanceMethod yX9_fromOut), (1628, Cond.code yX9_fromOut cX9_fromOut 3 (some .long)), (1629, Cond.methodLink RX9 342 yX9_worksOut), (1631, Cond.instanceMethod yX9_worksOut), (1632, Cond.code yX9_worksOut cX9_worksOut 2 none), (1633, Cond.methodLink RL 159 yX9_fault), (1634, Cond.instanceMethod yX9_fault)]
theorem zPr_23 (k : Nat) {n : Nat} {w : Cond} (h : zPl_23[k]? = some (n, w)) : w ∈ zAll := zPlOk (show (zPl_23.all fun q => decide (lw_tbl[q.1]? = some q.2) && goodWord q.2) = true by decide +kernel) h
def zPl_24 : List (Nat × Cond) := [(1636, Cond.code yX9_fault cX9_fault 1 (some .int)), (1637, Cond.methodLink RL 163 yX9_term), (1638, Cond.instanceMethod yX9_term), (1640, Cond.code yX9_term cX9_term 2 (some .int)), (1641, Cond.constantLong RX9 345 (Int64.ofInt (6))), (1642, Cond.methodLink RL 167 yX9_investor), (1643, Cond.instanceMethod yX9_investor), (1645, Cond.code yX9_investor cX9_investor 3 (some .long)), (1646, Cond.methodLink RX9 347 yX9_isInvestor), (1648, Cond.instanceMethod yX9_isInvestor), (1649, Cond.code yX9_isInvestor cX9_isInvestor 2 (some .boolean)), (1650, Cond.constantLong RX9 351 (Int64.ofInt (5))), (1651, Cond.methodLink RL 170 yX9_deal), (1652, Cond.instanceMethod yX9_deal), (1654, Cond.code yX9_deal cX9_deal 3 (some .int)), (1655, Cond.methodLink RX9 353 yX9_isDeal), (1657, Cond.instanceMethod yX9_isDeal), (1658, Cond.code yX9_isDeal cX9_isDeal 2 (some .boolean)), (1659, Cond.constantLong RX9 356 (Int64.ofInt (4))), (1660, Cond.methodLink RL 173 yX9_ladder), (1661, Cond.instanceMethod yX9_ladder), (1663, Cond.code yX9_ladder cX9_ladder 3 (some .long)), (1664, Cond.constantLong RX9 358 (Int64.ofInt (-2))), (1665, Cond.constantLong RX9 360 (Int64.ofInt (3))), (1666, Cond.methodLink RL 176 yX9_manager), (1667, Cond.instanceMethod yX9_manager), (1669, Cond.code yX9_manager cX9_manager 2 (some .long)), (1670, Cond.methodLink RL 179 yX9_call), (1671, Cond.instanceMethod yX9_call), (1673, Cond.code yX9_call cX9_call 3 (some .int)), (1674, Cond.methodLink RX9 362 yX9_acts), (1676, Cond.instanceMethod yX9_acts), (1677, Cond.code yX9_acts cX9_acts 6 (some .boolean)), (1678, Cond.methodLink RL 183 yX9_sell), (1679, Cond.instanceMethod yX9_sell), (1681, Cond.code yX9_sell cX9_sell 6 (some .int)), (1682, Cond.methodLink RL 186 yX9_mark), (1683, Cond.instanceMethod yX9_mark), (1685, Cond.code yX9_mark cX9_mark 4 (some .int)), (1686, Cond.methodLink RL 189 yX9_quarters)]
theorem zPr_24 (k : Nat) {n : Nat} {w : Cond} (h : zPl_24[k]? = some (n, w)) : w ∈ zAll := zPlOk (show (zPl_24.all fun q => decide (lw_tbl[q.1]? = some q.2) && goodWord q.2) = true by decide +kernel) h
def zPl_25 : List (Nat × Cond) := [(1687, Cond.instanceMethod yX9_quarters), (1689, Cond.code yX9_quarters cX9_quarters 2 (some .int)), (1690, Cond.constantLong RX9 366 (Int64.ofInt (60))), (1691, Cond.methodLink RL 192 yX9_fail), (1692, Cond.instanceMethod yX9_fail), (1694, Cond.code yX9_fail cX9_fail 2 (some .int)), (1695, Cond.methodLink RL 196 yX9_move), (1696, Cond.instanceMethod yX9_move), (1698, Cond.code yX9_move cX9_move 5 (some .int)), (1699, Cond.methodLink RL 199 yX9_close), (1700, Cond.instanceMethod yX9_close), (1702, Cond.code yX9_close cX9_close 1 (some .long)), (1703, Cond.methodLink RL 202 yX9_undo), (1704, Cond.instanceMethod yX9_undo), (1706, Cond.code yX9_undo cX9_undo 1 (some .int)), (1707, Cond.methodLink RL 205 yX9_filling), (1708, Cond.instanceMethod yX9_filling), (1710, Cond.code yX9_filling cX9_filling 4 (some .long)), (1711, Cond.constantLong RX9 368 (Int64.ofInt (99999))), (1712, Cond.methodLink RX9 370 yX9_putsAside), (1714, Cond.instanceMethod yX9_putsAside), (1715, Cond.code yX9_putsAside cX9_putsAside 2 none), (1716, Cond.methodLink RX9 373 yX9_ladderOf), (1718, Cond.instanceMethod yX9_ladderOf), (1719, Cond.code yX9_ladderOf cX9_ladderOf 2 (some .int)), (1720, Cond.methodLink RX9 377 yX9_comesBack), (1722, Cond.instanceMethod yX9_comesBack), (1723, Cond.code yX9_comesBack cX9_comesBack 2 none), (1724, Cond.methodLink RL 208 yX9_needed), (1725, Cond.instanceMethod yX9_needed), (1727, Cond.code yX9_needed cX9_needed 13 (some .int)), (1728, Cond.methodLink RL 211 yX9_reaches), (1729, Cond.instanceMethod yX9_reaches), (1731, Cond.code yX9_reaches cX9_reaches 11 (some .int)), (1732, Cond.constant RX9 380 (Int32.ofInt (99999))), (1733, Cond.methodLink RX9 381 yX9_hersOf), (1735, Cond.instanceMethod yX9_hersOf), (1736, Cond.code yX9_hersOf cX9_hersOf 7 (some .long)), (1737, Cond.methodLink RL 214 yX9_share), (1738, Cond.instanceMethod yX9_share)]
theorem zPr_25 (k : Nat) {n : Nat} {w : Cond} (h : zPl_25[k]? = some (n, w)) : w ∈ zAll := zPlOk (show (zPl_25.all fun q => decide (lw_tbl[q.1]? = some q.2) && goodWord q.2) = true by decide +kernel) h
def zPl_26 : List (Nat × Cond) := [(1740, Cond.code yX9_share cX9_share 4 (some .int)), (1741, Cond.methodLink RL 218 yX9_claw), (1742, Cond.instanceMethod yX9_claw), (1744, Cond.code yX9_claw cX9_claw 1 (some .long)), (1745, Cond.methodLink RX9 384 yX9_claw0), (1747, Cond.instanceMethod yX9_claw0), (1748, Cond.code yX9_claw0 cX9_claw0 1 (some .long)), (1749, Cond.methodLink RL 221 yX9_soldOut), (1750, Cond.instanceMethod yX9_soldOut), (1752, Cond.code yX9_soldOut cX9_soldOut 6 (some .long)), (1753, Cond.methodLink RX9 387 yX9_sellsOut), (1755, Cond.instanceMethod yX9_sellsOut), (1756, Cond.code yX9_sellsOut cX9_sellsOut 2 none), (1757, Cond.methodLink RX9 390 yX9_gotAll), (1759, Cond.instanceMethod yX9_gotAll), (1760, Cond.code yX9_gotAll cX9_gotAll 4 (some .long)), (1761, Cond.methodLink RL 225 yX9_order), (1762, Cond.instanceMethod yX9_order), (1764, Cond.code yX9_order cX9_order 3 (some .long)), (1765, Cond.methodLink RX9 402 yX9_goesOn), (1767, Cond.instanceMethod yX9_goesOn), (1768, Cond.code yX9_goesOn cX9_goesOn 4 none), (1769, Cond.methodLink RX9 399 yX9_triesRow), (1771, Cond.instanceMethod yX9_triesRow), (1772, Cond.code yX9_triesRow cX9_triesRow 4 none), (1773, Cond.methodLink RL 228 yX9_would), (1774, Cond.instanceMethod yX9_would), (1776, Cond.code yX9_would cX9_would 6 (some .long)), (1777, Cond.methodLink RX9 405 yX9_keeps), (1779, Cond.instanceMethod yX9_keeps), (1780, Cond.code yX9_keeps cX9_keeps 1 (some .long)), (1781, Cond.methodLink RL 231 yX9_bar), (1782, Cond.instanceMethod yX9_bar), (1784, Cond.code yX9_bar cX9_bar 4 (some .int)), (1785, Cond.methodLink RX9 408 yX9_keptBy), (1787, Cond.instanceMethod yX9_keptBy), (1788, Cond.code yX9_keptBy cX9_keptBy 2 (some .long)), (1789, Cond.methodLink RL 234 yX9_drift), (1790, Cond.instanceMethod yX9_drift), (1792, Cond.code yX9_drift cX9_drift 2 (some .long))]
theorem zPr_26 (k : Nat) {n : Nat} {w : Cond} (h : zPl_26[k]? = some (n, w)) : w ∈ zAll := zPlOk (show (zPl_26.all fun q => decide (lw_tbl[q.1]? = some q.2) && goodWord q.2) = true by decide +kernel) h
def zPl_27 : List (Nat × Cond) := [(1793, Cond.methodLink RL 237 yX9_swapped), (1794, Cond.instanceMethod yX9_swapped), (1796, Cond.code yX9_swapped cX9_swapped 5 (some .long)), (1797, Cond.methodLink RX9 411 yX9_canAgain), (1799, Cond.instanceMethod yX9_canAgain), (1800, Cond.code yX9_canAgain cX9_canAgain 2 (some .boolean)), (1801, Cond.methodLink RL 240 yX9_without), (1802, Cond.instanceMethod yX9_without), (1804, Cond.code yX9_without cX9_without 2 (some .long)), (1805, Cond.methodLink RX9 414 yX9_keptWithout), (1807, Cond.instanceMethod yX9_keptWithout), (1808, Cond.code yX9_keptWithout cX9_keptWithout 4 (some .long)), (1809, Cond.methodLink RL 243 yX9_behind), (1810, Cond.instanceMethod yX9_behind), (1812, Cond.code yX9_behind cX9_behind 5 (some .long)), (1813, Cond.methodLink RX9 417 yX9_worksOutTo), (1815, Cond.instanceMethod yX9_worksOutTo), (1816, Cond.code yX9_worksOutTo cX9_worksOutTo 3 none), (1817, Cond.methodLink RL 259 yX9_most), (1818, Cond.instanceMethod yX9_most), (1820, Cond.code yX9_most cX9_most 4 (some .long)), (1821, Cond.methodLink RX9 420 yX9_owes), (1823, Cond.instanceMethod yX9_owes), (1824, Cond.code yX9_owes cX9_owes 2 (some .long)), (1825, Cond.methodLink RL 247 yX9_clean), (1826, Cond.instanceMethod yX9_clean), (1828, Cond.code yX9_clean cX9_clean 4 (some .int)), (1829, Cond.methodLink RL 251 yX9_idle), (1830, Cond.instanceMethod yX9_idle), (1832, Cond.code yX9_idle cX9_idle 5 (some .int)), (1833, Cond.methodLink RL 255 yX9_blame), (1834, Cond.instanceMethod yX9_blame), (1836, Cond.code yX9_blame cX9_blame 7 (some .int)), (1837, Cond.methodLink RL 262 yX9_owed), (1838, Cond.instanceMethod yX9_owed), (1840, Cond.code yX9_owed cX9_owed 6 (some .long)), (1841, Cond.methodLink RL 265 yX9_patience), (1842, Cond.instanceMethod yX9_patience), (1844, Cond.code yX9_patience cX9_patience 5 (some .int)), (1845, Cond.methodLink RL 268 yX9_deals)]
theorem zPr_27 (k : Nat) {n : Nat} {w : Cond} (h : zPl_27[k]? = some (n, w)) : w ∈ zAll := zPlOk (show (zPl_27.all fun q => decide (lw_tbl[q.1]? = some q.2) && goodWord q.2) = true by decide +kernel) h
def zPl_28 : List (Nat × Cond) := [(1846, Cond.instanceMethod yX9_deals), (1848, Cond.code yX9_deals cX9_deals 5 (some .int)), (1849, Cond.methodLink RX9 423 yX9_gainOf), (1851, Cond.instanceMethod yX9_gainOf), (1852, Cond.code yX9_gainOf cX9_gainOf 2 (some .long)), (1853, Cond.methodLink RL 271 yX9_curve), (1854, Cond.instanceMethod yX9_curve), (1856, Cond.code yX9_curve cX9_curve 2 (some .long)), (1857, Cond.methodLink RX9 429 yX9_curveAt), (1859, Cond.instanceMethod yX9_curveAt), (1860, Cond.code yX9_curveAt cX9_curveAt 5 (some .long)), (1861, Cond.methodLink RX9 426 yX9_flowIn), (1863, Cond.instanceMethod yX9_flowIn), (1864, Cond.code yX9_flowIn cX9_flowIn 6 (some .long)), (1865, Cond.methodLink RL 274 yX9_curves), (1866, Cond.instanceMethod yX9_curves), (1868, Cond.code yX9_curves cX9_curves 6 (some .int)), (1869, Cond.methodLink RL 277 yX9_rate), (1870, Cond.instanceMethod yX9_rate), (1872, Cond.code yX9_rate cX9_rate 6 (some .int)), (1873, Cond.constantDouble RX9 432 4666723172467343360), (1874, Cond.methodLink RL 280 yX9_multiple), (1875, Cond.instanceMethod yX9_multiple), (1877, Cond.code yX9_multiple cX9_multiple 7 (some .int)), (1878, Cond.constantFloat RX9 434 1148846080), (1879, Cond.methodLink RL 283 yX9_act), (1880, Cond.instanceMethod yX9_act), (1882, Cond.code yX9_act cX9_act 3 (some .int)), (1883, Cond.methodLink RL 287 yX9_image), (1884, Cond.instanceMethod yX9_image), (1886, Cond.code yX9_image cX9_image 2 none), (1887, Cond.methodLink RL 292 yX9_back), (1888, Cond.instanceMethod yX9_back), (1890, Cond.code yX9_back cX9_back 2 (some .boolean)), (1891, Cond.methodLink RL 296 yX9_count), (1892, Cond.instanceMethod yX9_count), (1894, Cond.code yX9_count cX9_count 2 (some .int)), (500, Cond.selects RX0 yX0_open yX0_open), (437, Cond.selects RX0 yX0_copyFrom yX0_copyFrom), (481, Cond.selects RX0 yX0_isDealwise yX0_isDealwise)]
theorem zPr_28 (k : Nat) {n : Nat} {w : Cond} (h : zPl_28[k]? = some (n, w)) : w ∈ zAll := zPlOk (show (zPl_28.all fun q => decide (lw_tbl[q.1]? = some q.2) && goodWord q.2) = true by decide +kernel) h
def zPl_29 : List (Nat × Cond) := [(448, Cond.selects RX0 yX0_isOpen yX0_isOpen), (444, Cond.selects RX0 yX0_openDeals yX0_openDeals), (1238, Cond.selects RX0 yX0_extremeDeal yX0_extremeDeal), (655, Cond.selects RX0 yX0_standing yX0_standing), (533, Cond.selects RX0 yX0_netTaken yX0_netTaken), (514, Cond.selects RX0 yX0_raise yX0_raise), (623, Cond.selects RX0 yX0_remark yX0_remark), (519, Cond.selects RX0 yX0_pass yX0_pass), (469, Cond.selects RX0 yX0_measure yX0_measure), (473, Cond.selects RX0 yX0_catchUp yX0_catchUp), (477, Cond.selects RX0 yX0_pour yX0_pour), (465, Cond.selects RX0 yX0_sellDeal yX0_sellDeal), (485, Cond.selects RX0 yX0_shiftToBurden yX0_shiftToBurden), (1164, Cond.selects RX0 yX0_sellAll yX0_sellAll), (414, Cond.selects RX0 yX0_dueNow yX0_dueNow), (424, Cond.selects RX0 yX0_clawFromOut yX0_clawFromOut), (410, Cond.selects RX0 yX0_clawDue yX0_clawDue), (525, Cond.selects RX0 yX0_settle yX0_settle), (510, Cond.selects RX0 yX0_retrace yX0_retrace), (702, Cond.selects RX1 yX1_clear yX1_clear), (664, Cond.selects RX1 yX1_copyFrom yX1_copyFrom), (698, Cond.selects RX1 yX1_readFrom yX1_readFrom), (776, Cond.selects RX1 yX1_readTerms yX1_readTerms), (811, Cond.selects RX1 yX1_readLine yX1_readLine), (820, Cond.selects RX1 yX1_readExcuse yX1_readExcuse), (669, Cond.selects RX2 yX2_copyFrom yX2_copyFrom), (935, Cond.selects RX2 yX2_write yX2_write), (939, Cond.selects RX2 yX2_writeComing yX2_writeComing), (433, Cond.selects RX3 yX3_search yX3_search), (459, Cond.selects RX3 yX3_tryFrom yX3_tryFrom), (546, Cond.selects RX4 yX4_open yX4_open), (575, Cond.selects RX4 yX4_hasFailed yX4_hasFailed), (571, Cond.selects RX4 yX4_isExcused yX4_isExcused), (619, Cond.selects RX4 yX4_weightOf yX4_weightOf), (606, Cond.selects RX4 yX4_allOf yX4_allOf), (615, Cond.selects RX4 yX4_weighFor yX4_weighFor), (589, Cond.selects RX4 yX4_weighUncalled yX4_weighUncalled), (567, Cond.selects RX4 yX4_callable yX4_callable), (597, Cond.selects RX4 yX4_split yX4_split), (638, Cond.selects RX4 yX4_setFailed yX4_setFailed)]
theorem zPr_29 (k : Nat) {n : Nat} {w : Cond} (h : zPl_29[k]? = some (n, w)) : w ∈ zAll := zPlOk (show (zPl_29.all fun q => decide (lw_tbl[q.1]? = some q.2) && goodWord q.2) = true by decide +kernel) h
def zPl_30 : List (Nat × Cond) := [(579, Cond.selects RX4 yX4_canHandOver yX4_canHandOver), (642, Cond.selects RX4 yX4_handOver yX4_handOver), (541, Cond.selects RX5 yX5_open yX5_open), (562, Cond.selects RX5 yX5_canBe yX5_canBe), (585, Cond.selects RX5 yX5_perform yX5_perform), (558, Cond.selects RX5 yX5_follow yX5_follow), (631, Cond.selects RX5 yX5_fullFee yX5_fullFee), (627, Cond.selects RX5 yX5_passQuarter yX5_passQuarter), (593, Cond.selects RX5 yX5_takeIn yX5_takeIn), (611, Cond.selects RX5 yX5_handOut yX5_handOut), (394, Cond.selects RX6 yX6_append yX6_append), (694, Cond.selects RX6 yX6_rewind yX6_rewind), (798, Cond.selects RX6 yX6_isRight yX6_isRight), (772, Cond.selects RX6 yX6_refuse yX6_refuse), (768, Cond.selects RX6 yX6_refuseNext yX6_refuseNext), (712, Cond.selects RX6 yX6_next yX6_next), (802, Cond.selects RX6 yX6_isThrough yX6_isThrough), (806, Cond.selects RX6 yX6_takeSemicolon yX6_takeSemicolon), (726, Cond.selects RX6 yX6_isLetterAt yX6_isLetterAt), (708, Cond.selects RX6 yX6_takeWord yX6_takeWord), (791, Cond.selects RX6 yX6_takeNumber yX6_takeNumber), (922, Cond.selects RX6 yX6_takeNumberUnlike yX6_takeNumberUnlike), (907, Cond.selects RX6 yX6_takeKind yX6_takeKind), (553, Cond.selects RX7 yX7_clear yX7_clear), (601, Cond.selects RX7 yX7_add yX7_add), (1250, Cond.selects RX7 yX7_flow yX7_flow), (1268, Cond.selects RX7 yX7_worth yX7_worth), (390, Cond.selects RX8 yX8_feed yX8_feed), (398, Cond.selects RX8 yX8_end yX8_end), (690, Cond.selects RX8 yX8_fund yX8_fund), (893, Cond.selects RX8 yX8_acts yX8_acts), (402, Cond.selects RX8 yX8_fault yX8_fault), (949, Cond.selects RX8 yX8_term yX8_term), (972, Cond.selects RX8 yX8_investor yX8_investor), (1000, Cond.selects RX8 yX8_deal yX8_deal), (1011, Cond.selects RX8 yX8_ladder yX8_ladder), (1018, Cond.selects RX8 yX8_manager yX8_manager), (1027, Cond.selects RX8 yX8_call yX8_call), (1068, Cond.selects RX8 yX8_sell yX8_sell), (1075, Cond.selects RX8 yX8_mark yX8_mark)]
theorem zPr_30 (k : Nat) {n : Nat} {w : Cond} (h : zPl_30[k]? = some (n, w)) : w ∈ zAll := zPlOk (show (zPl_30.all fun q => decide (lw_tbl[q.1]? = some q.2) && goodWord q.2) = true by decide +kernel) h
def zPl_31 : List (Nat × Cond) := [(1082, Cond.selects RX8 yX8_quarters yX8_quarters), (1089, Cond.selects RX8 yX8_fail yX8_fail), (1096, Cond.selects RX8 yX8_move yX8_move), (1103, Cond.selects RX8 yX8_close yX8_close), (1110, Cond.selects RX8 yX8_undo yX8_undo), (1117, Cond.selects RX8 yX8_filling yX8_filling), (1135, Cond.selects RX8 yX8_needed yX8_needed), (1142, Cond.selects RX8 yX8_reaches yX8_reaches), (1150, Cond.selects RX8 yX8_share yX8_share), (406, Cond.selects RX8 yX8_claw yX8_claw), (1159, Cond.selects RX8 yX8_soldOut yX8_soldOut), (429, Cond.selects RX8 yX8_order yX8_order), (1171, Cond.selects RX8 yX8_would yX8_would), (1178, Cond.selects RX8 yX8_bar yX8_bar), (1185, Cond.selects RX8 yX8_drift yX8_drift), (1192, Cond.selects RX8 yX8_swapped yX8_swapped), (1199, Cond.selects RX8 yX8_without yX8_without), (1206, Cond.selects RX8 yX8_behind yX8_behind), (490, Cond.selects RX8 yX8_clean yX8_clean), (529, Cond.selects RX8 yX8_idle yX8_idle), (647, Cond.selects RX8 yX8_blame yX8_blame), (651, Cond.selects RX8 yX8_most yX8_most), (1214, Cond.selects RX8 yX8_owed yX8_owed), (1224, Cond.selects RX8 yX8_patience yX8_patience), (1234, Cond.selects RX8 yX8_deals yX8_deals), (1246, Cond.selects RX8 yX8_curve yX8_curve), (1257, Cond.selects RX8 yX8_curves yX8_curves), (1264, Cond.selects RX8 yX8_rate yX8_rate), (1276, Cond.selects RX8 yX8_multiple yX8_multiple), (1284, Cond.selects RX8 yX8_act yX8_act), (660, Cond.selects RX8 yX8_image yX8_image), (674, Cond.selects RX8 yX8_back yX8_back), (682, Cond.selects RX8 yX8_count yX8_count), (7, Cond.selects RX8 yX8_isInvestor yX8_isInvestor), (8, Cond.selects RX8 yX8_isDeal yX8_isDeal), (10, Cond.selects RX8 yX8_isDealOrNone yX8_isDealOrNone), (11, Cond.selects RX8 yX8_measureAt yX8_measureAt), (9, Cond.selects RX8 yX8_done yX8_done), (6, Cond.selects RX8 yX8_doAndWrite yX8_doAndWrite), (2, Cond.selects RX8 yX8_goThroughAnew yX8_goThroughAnew)]
theorem zPr_31 (k : Nat) {n : Nat} {w : Cond} (h : zPl_31[k]? = some (n, w)) : w ∈ zAll := zPlOk (show (zPl_31.all fun q => decide (lw_tbl[q.1]? = some q.2) && goodWord q.2) = true by decide +kernel) h
def zPl_32 : List (Nat × Cond) := [(1, Cond.selects RX8 yX8_netTakenWithout yX8_netTakenWithout), (0, Cond.selects RX8 yX8_booksUnder yX8_booksUnder), (4, Cond.selects RX8 yX8_readActs yX8_readActs), (5, Cond.selects RX8 yX8_readAct yX8_readAct), (1425, Cond.selects RX9 yX9_thrown yX9_thrown), (48, Cond.selects RX9 yX9_isInvestor yX9_isInvestor), (49, Cond.selects RX9 yX9_isDeal yX9_isDeal), (24, Cond.selects RX9 yX9_uncalled yX9_uncalled), (40, Cond.selects RX9 yX9_weightOf yX9_weightOf), (12, Cond.selects RX9 yX9_anew yX9_anew), (47, Cond.selects RX9 yX9_worksOut yX9_worksOut), (29, Cond.selects RX9 yX9_doesAgain yX9_doesAgain), (51, Cond.selects RX9 yX9_putsAside yX9_putsAside), (53, Cond.selects RX9 yX9_comesBack yX9_comesBack), (32, Cond.selects RX9 yX9_shares yX9_shares), (25, Cond.selects RX9 yX9_isExcused yX9_isExcused), (39, Cond.selects RX9 yX9_byWeights yX9_byWeights), (38, Cond.selects RX9 yX9_getsAll yX9_getsAll), (31, Cond.selects RX9 yX9_paysAll yX9_paysAll), (36, Cond.selects RX9 yX9_takes yX9_takes), (37, Cond.selects RX9 yX9_caught yX9_caught), (35, Cond.selects RX9 yX9_fills yX9_fills), (33, Cond.selects RX9 yX9_isDealwise yX9_isDealwise), (34, Cond.selects RX9 yX9_sells yX9_sells), (41, Cond.selects RX9 yX9_quarterGoes yX9_quarterGoes), (45, Cond.selects RX9 yX9_fromHeld yX9_fromHeld), (46, Cond.selects RX9 yX9_fromOut yX9_fromOut), (44, Cond.selects RX9 yX9_ends yX9_ends), (43, Cond.selects RX9 yX9_movedBy yX9_movedBy), (42, Cond.selects RX9 yX9_moves yX9_moves), (30, Cond.selects RX9 yX9_does yX9_does), (26, Cond.selects RX9 yX9_areClosed yX9_areClosed), (27, Cond.selects RX9 yX9_canMove yX9_canMove), (23, Cond.selects RX9 yX9_canBe yX9_canBe), (28, Cond.selects RX9 yX9_writesDown yX9_writesDown), (50, Cond.selects RX9 yX9_acts yX9_acts), (1429, Cond.selects RX9 yX9_feed yX9_feed), (1433, Cond.selects RX9 yX9_end yX9_end), (13, Cond.selects RX9 yX9_begins yX9_begins), (15, Cond.selects RX9 yX9_here yX9_here)]
theorem zPr_32 (k : Nat) {n : Nat} {w : Cond} (h : zPl_32[k]? = some (n, w)) : w ∈ zAll := zPlOk (show (zPl_32.all fun q => decide (lw_tbl[q.1]? = some q.2) && goodWord q.2) = true by decide +kernel) h
def zPl_33 : List (Nat × Cond) := [(19, Cond.selects RX9 yX9_wrong yX9_wrong), (16, Cond.selects RX9 yX9_has yX9_has), (18, Cond.selects RX9 yX9_number yX9_number), (21, Cond.selects RX9 yX9_comesMore yX9_comesMore), (17, Cond.selects RX9 yX9_termLine yX9_termLine), (20, Cond.selects RX9 yX9_excuseLine yX9_excuseLine), (14, Cond.selects RX9 yX9_fundLine yX9_fundLine), (1440, Cond.selects RX9 yX9_fund yX9_fund), (22, Cond.selects RX9 yX9_actLine yX9_actLine), (1499, Cond.selects RX9 yX9_acts_ yX9_acts_), (1635, Cond.selects RX9 yX9_fault yX9_fault), (1639, Cond.selects RX9 yX9_term yX9_term), (1644, Cond.selects RX9 yX9_investor yX9_investor), (1653, Cond.selects RX9 yX9_deal yX9_deal), (1662, Cond.selects RX9 yX9_ladder yX9_ladder), (1668, Cond.selects RX9 yX9_manager yX9_manager), (1672, Cond.selects RX9 yX9_call yX9_call), (1680, Cond.selects RX9 yX9_sell yX9_sell), (1684, Cond.selects RX9 yX9_mark yX9_mark), (1688, Cond.selects RX9 yX9_quarters yX9_quarters), (1693, Cond.selects RX9 yX9_fail yX9_fail), (1697, Cond.selects RX9 yX9_move yX9_move), (1701, Cond.selects RX9 yX9_close yX9_close), (1705, Cond.selects RX9 yX9_undo yX9_undo), (52, Cond.selects RX9 yX9_ladderOf yX9_ladderOf), (1709, Cond.selects RX9 yX9_filling yX9_filling), (1726, Cond.selects RX9 yX9_needed yX9_needed), (54, Cond.selects RX9 yX9_hersOf yX9_hersOf), (1730, Cond.selects RX9 yX9_reaches yX9_reaches), (1739, Cond.selects RX9 yX9_share yX9_share), (55, Cond.selects RX9 yX9_claw0 yX9_claw0), (1743, Cond.selects RX9 yX9_claw yX9_claw), (1751, Cond.selects RX9 yX9_soldOut yX9_soldOut), (59, Cond.selects RX9 yX9_triesRow yX9_triesRow), (58, Cond.selects RX9 yX9_goesOn yX9_goesOn), (1763, Cond.selects RX9 yX9_order yX9_order), (1775, Cond.selects RX9 yX9_would yX9_would), (61, Cond.selects RX9 yX9_keptBy yX9_keptBy), (1783, Cond.selects RX9 yX9_bar yX9_bar), (1791, Cond.selects RX9 yX9_drift yX9_drift)]
theorem zPr_33 (k : Nat) {n : Nat} {w : Cond} (h : zPl_33[k]? = some (n, w)) : w ∈ zAll := zPlOk (show (zPl_33.all fun q => decide (lw_tbl[q.1]? = some q.2) && goodWord q.2) = true by decide +kernel) h
def zPl_34 : List (Nat × Cond) := [(62, Cond.selects RX9 yX9_canAgain yX9_canAgain), (60, Cond.selects RX9 yX9_keeps yX9_keeps), (1795, Cond.selects RX9 yX9_swapped yX9_swapped), (1803, Cond.selects RX9 yX9_without yX9_without), (63, Cond.selects RX9 yX9_keptWithout yX9_keptWithout), (57, Cond.selects RX9 yX9_gotAll yX9_gotAll), (64, Cond.selects RX9 yX9_worksOutTo yX9_worksOutTo), (1811, Cond.selects RX9 yX9_behind yX9_behind), (1819, Cond.selects RX9 yX9_most yX9_most), (1827, Cond.selects RX9 yX9_clean yX9_clean), (1831, Cond.selects RX9 yX9_idle yX9_idle), (1835, Cond.selects RX9 yX9_blame yX9_blame), (65, Cond.selects RX9 yX9_owes yX9_owes), (1839, Cond.selects RX9 yX9_owed yX9_owed), (56, Cond.selects RX9 yX9_sellsOut yX9_sellsOut), (1843, Cond.selects RX9 yX9_patience yX9_patience), (66, Cond.selects RX9 yX9_gainOf yX9_gainOf), (1847, Cond.selects RX9 yX9_deals yX9_deals), (67, Cond.selects RX9 yX9_curveAt yX9_curveAt), (1855, Cond.selects RX9 yX9_curve yX9_curve), (1867, Cond.selects RX9 yX9_curves yX9_curves), (68, Cond.selects RX9 yX9_flowIn yX9_flowIn), (1871, Cond.selects RX9 yX9_rate yX9_rate), (1876, Cond.selects RX9 yX9_multiple yX9_multiple), (1881, Cond.selects RX9 yX9_act yX9_act), (1885, Cond.selects RX9 yX9_image yX9_image), (1889, Cond.selects RX9 yX9_back yX9_back), (1893, Cond.selects RX9 yX9_count yX9_count), (716, Cond.selects RJ0 yJ0_length_8abf5 yJ0_length_8abf5), (730, Cond.selects RJ0 yJ0_charAt_5068e yJ0_charAt_5068e), (720, Cond.selects RJ0 yJ0_coder_7d493 yJ0_coder_7d493), (734, Cond.selects RJ0 yJ0_isLatin1_aae02 yJ0_isLatin1_aae02)]
theorem zPr_34 (k : Nat) {n : Nat} {w : Cond} (h : zPl_34[k]? = some (n, w)) : w ∈ zAll := zPlOk (show (zPl_34.all fun q => decide (lw_tbl[q.1]? = some q.2) && goodWord q.2) = true by decide +kernel) h
theorem zinX0 : ∀ w ∈ u_ws RX0 TX0 8, w ∈ zAll := fun w hw => zAll_in ((goodIn_r (big := lw_tbl) _ [211, 213, 215, 217, 219, 221, 223, 225] (by decide +kernel) (by decide +kernel)) w hw).1 (List.all_eq_true.mp (show (u_ws RX0 TX0 8).all goodWord = true by decide +kernel) w hw)
theorem zinX1 : ∀ w ∈ u_ws RX1 TX1 6, w ∈ zAll := fun w hw => zAll_in ((goodIn_r (big := lw_tbl) _ [147, 149, 151, 153, 155, 157] (by decide +kernel) (by decide +kernel)) w hw).1 (List.all_eq_true.mp (show (u_ws RX1 TX1 6).all goodWord = true by decide +kernel) w hw)
theorem zinX2 : ∀ w ∈ u_ws RX2 TX2 2, w ∈ zAll := fun w hw => zAll_in ((goodIn_r (big := lw_tbl) _ [172, 174] (by decide +kernel) (by decide +kernel)) w hw).1 (List.all_eq_true.mp (show (u_ws RX2 TX2 2).all goodWord = true by decide +kernel) w hw)
theorem zinX3 : ∀ w ∈ u_ws RX3 TX3 5, w ∈ zAll := fun w hw => zAll_in ((goodIn_r (big := lw_tbl) _ [338, 340, 342, 344, 346] (by decide +kernel) (by decide +kernel)) w hw).1 (List.all_eq_true.mp (show (u_ws RX3 TX3 5).all goodWord = true by decide +kernel) w hw)
theorem zinX4 : ∀ w ∈ u_ws RX4 TX4 11, w ∈ zAll := fun w hw => zAll_in ((goodIn_r (big := lw_tbl) _ [259, 261, 263, 265, 267, 269, 271, 273, 275, 277, 279] (by decide +kernel) (by decide +kernel)) w hw).1 (List.all_eq_true.mp (show (u_ws RX4 TX4 11).all goodWord = true by decide +kernel) w hw)
theorem zinX5 : ∀ w ∈ u_ws RX5 TX5 6, w ∈ zAll := fun w hw => zAll_in ((goodIn_r (big := lw_tbl) _ [308, 310, 312, 314, 316, 318] (by decide +kernel) (by decide +kernel)) w hw).1 (List.all_eq_true.mp (show (u_ws RX5 TX5 6).all goodWord = true by decide +kernel) w hw)
theorem zinX6 : ∀ w ∈ u_ws RX6 TX6 4, w ∈ zAll := fun w hw => zAll_in ((goodIn_r (big := lw_tbl) _ [116, 118, 120, 122] (by decide +kernel) (by decide +kernel)) w hw).1 (List.all_eq_true.mp (show (u_ws RX6 TX6 4).all goodWord = true by decide +kernel) w hw)
theorem zinX7 : ∀ w ∈ u_ws RX7 TX7 2, w ∈ zAll := fun w hw => zAll_in ((goodIn_r (big := lw_tbl) _ [292, 294] (by decide +kernel) (by decide +kernel)) w hw).1 (List.all_eq_true.mp (show (u_ws RX7 TX7 2).all goodWord = true by decide +kernel) w hw)
theorem zinX8 : ∀ w ∈ u_ws RX8 TX8 12, w ∈ zAll := fun w hw => zAll_in ((goodIn_r (big := lw_tbl) _ [363, 365, 367, 369, 371, 373, 375, 377, 379, 381, 383, 385] (by decide +kernel) (by decide +kernel)) w hw).1 (List.all_eq_true.mp (show (u_ws RX8 TX8 12).all goodWord = true by decide +kernel) w hw)
theorem zinX9 : ∀ w ∈ u_ws RX9 TX9 41, w ∈ zAll := fun w hw => zAll_in ((goodIn_r (big := lw_tbl) _ [1340, 1342, 1344, 1346, 1348, 1350, 1352, 1354, 1356, 1358, 1360, 1362, 1364, 1366, 1368, 1370, 1372, 1374, 1376, 1378, 1380, 1382, 1384, 1386, 1388, 1390, 1392, 1394, 1396, 1398, 1400, 1402, 1404, 1406, 1408, 1410, 1412, 1414, 1416, 1418, 1420] (by decide +kernel) (by decide +kernel)) w hw).1 (List.all_eq_true.mp (show (u_ws RX9 TX9 41).all goodWord = true by decide +kernel) w hw)
theorem zl_X6_9 : Cond.fieldLink RX6 9 "WeirLedger$Text" "bytes" "[I" ∈ zAll := zPr_0 0 rfl
theorem zl_X8_68 : Cond.fieldLink RX8 68 "WeirLedger$Text" "length" "I" ∈ zAll := zPr_0 1 rfl
theorem zl_X6_19 : Cond.fieldLink RX6 19 "WeirLedger$Text" "length" "I" ∈ zAll := zPr_0 2 rfl
theorem zl_X6_22 : Cond.fieldLink RX6 22 "WeirLedger$Text" "place" "I" ∈ zAll := zPr_0 3 rfl
theorem zl_X6_15 : Cond.fieldLink RX6 15 "WeirLedger$Text" "wrong" "I" ∈ zAll := zPr_0 4 rfl
theorem zl_X8_103 : Cond.fieldLink RX8 103 "WeirLedger$Text" "wrong" "I" ∈ zAll := zPr_0 5 rfl
theorem zl_X1_9 : Cond.fieldLink RX1 9 "WeirLedger$Fund" "terms" "[I" ∈ zAll := zPr_0 6 rfl
theorem zl_X0_28 : Cond.fieldLink RX0 28 "WeirLedger$Fund" "terms" "[I" ∈ zAll := zPr_0 7 rfl
theorem zl_X8_109 : Cond.fieldLink RX8 109 "WeirLedger$Fund" "terms" "[I" ∈ zAll := zPr_0 8 rfl
theorem zl_X1_15 : Cond.fieldLink RX1 15 "WeirLedger$Fund" "committed" "[I" ∈ zAll := zPr_0 9 rfl
theorem zl_X4_37 : Cond.fieldLink RX4 37 "WeirLedger$Fund" "committed" "[I" ∈ zAll := zPr_0 10 rfl
theorem zl_X1_18 : Cond.fieldLink RX1 18 "WeirLedger$Fund" "excused" "[I" ∈ zAll := zPr_0 11 rfl
theorem zl_X4_46 : Cond.fieldLink RX4 46 "WeirLedger$Fund" "excused" "[I" ∈ zAll := zPr_0 12 rfl
theorem zl_X8_149 : Cond.fieldLink RX8 149 "WeirLedger$Fund" "excused" "[I" ∈ zAll := zPr_0 13 rfl
theorem zl_X1_27 : Cond.fieldLink RX1 27 "WeirLedger$Fund" "investors" "I" ∈ zAll := zPr_0 14 rfl
theorem zl_X4_56 : Cond.fieldLink RX4 56 "WeirLedger$Fund" "investors" "I" ∈ zAll := zPr_0 15 rfl
theorem zl_X8_96 : Cond.fieldLink RX8 96 "WeirLedger$Fund" "investors" "I" ∈ zAll := zPr_0 16 rfl
theorem zl_X1_31 : Cond.fieldLink RX1 31 "WeirLedger$Fund" "dealCount" "I" ∈ zAll := zPr_0 17 rfl
theorem zl_X0_46 : Cond.fieldLink RX0 46 "WeirLedger$Fund" "dealCount" "I" ∈ zAll := zPr_0 18 rfl
theorem zl_X8_306 : Cond.fieldLink RX8 306 "WeirLedger$Fund" "dealCount" "I" ∈ zAll := zPr_0 19 rfl
theorem zl_X1_34 : Cond.fieldLink RX1 34 "WeirLedger$Fund" "dealsTold" "Z" ∈ zAll := zPr_0 20 rfl
theorem zl_X2_9 : Cond.fieldLink RX2 9 "WeirLedger$Journal" "rows" "[I" ∈ zAll := zPr_0 21 rfl
theorem zl_X5_132 : Cond.fieldLink RX5 132 "WeirLedger$Journal" "rows" "[I" ∈ zAll := zPr_0 22 rfl
theorem zl_X0_109 : Cond.fieldLink RX0 109 "WeirLedger$Journal" "rows" "[I" ∈ zAll := zPr_0 23 rfl
theorem zl_X8_297 : Cond.fieldLink RX8 297 "WeirLedger$Journal" "rows" "[I" ∈ zAll := zPr_0 24 rfl
theorem zl_X2_21 : Cond.fieldLink RX2 21 "WeirLedger$Journal" "size" "I" ∈ zAll := zPr_0 25 rfl
theorem zl_X8_90 : Cond.fieldLink RX8 90 "WeirLedger$Journal" "size" "I" ∈ zAll := zPr_0 26 rfl
theorem zl_X0_9 : Cond.fieldLink RX0 9 "WeirLedger$Books" "terms" "[I" ∈ zAll := zPr_0 27 rfl
theorem zl_X5_145 : Cond.fieldLink RX5 145 "WeirLedger$Books" "terms" "[I" ∈ zAll := zPr_0 28 rfl
theorem zl_X8_340 : Cond.fieldLink RX8 340 "WeirLedger$Books" "terms" "[I" ∈ zAll := zPr_0 29 rfl
theorem zl_X0_15 : Cond.fieldLink RX0 15 "WeirLedger$Books" "rungs" "[J" ∈ zAll := zPr_0 30 rfl
theorem zl_X8_158 : Cond.fieldLink RX8 158 "WeirLedger$Books" "rungs" "[J" ∈ zAll := zPr_0 31 rfl
theorem zl_X0_19 : Cond.fieldLink RX0 19 "WeirLedger$Books" "dealRows" "[I" ∈ zAll := zPr_0 32 rfl
theorem zl_X3_70 : Cond.fieldLink RX3 70 "WeirLedger$Books" "dealRows" "[I" ∈ zAll := zPr_0 33 rfl
theorem zl_X8_155 : Cond.fieldLink RX8 155 "WeirLedger$Books" "dealRows" "[I" ∈ zAll := zPr_0 34 rfl
theorem zl_X0_22 : Cond.fieldLink RX0 22 "WeirLedger$Books" "purse" "[J" ∈ zAll := zPr_0 35 rfl
theorem zl_X3_53 : Cond.fieldLink RX3 53 "WeirLedger$Books" "purse" "[J" ∈ zAll := zPr_0 36 rfl
theorem zl_X8_161 : Cond.fieldLink RX8 161 "WeirLedger$Books" "purse" "[J" ∈ zAll := zPr_0 37 rfl
theorem zl_X0_25 : Cond.fieldLink RX0 25 "WeirLedger$Books" "filled" "[J" ∈ zAll := zPr_0 38 rfl
theorem zl_X5_106 : Cond.fieldLink RX5 106 "WeirLedger$Books" "filled" "[J" ∈ zAll := zPr_0 39 rfl
theorem zl_X8_179 : Cond.fieldLink RX8 179 "WeirLedger$Books" "filled" "[J" ∈ zAll := zPr_1 0 rfl
theorem zl_X0_50 : Cond.fieldLink RX0 50 "WeirLedger$Books" "dealCount" "I" ∈ zAll := zPr_1 1 rfl
theorem zl_X3_63 : Cond.fieldLink RX3 63 "WeirLedger$Books" "dealCount" "I" ∈ zAll := zPr_1 2 rfl
theorem zl_X0_51 : Cond.fieldLink RX0 51 "WeirLedger$Books" "quarter" "I" ∈ zAll := zPr_1 3 rfl
theorem zl_X5_61 : Cond.fieldLink RX5 61 "WeirLedger$Books" "quarter" "I" ∈ zAll := zPr_1 4 rfl
theorem zl_X8_244 : Cond.fieldLink RX8 244 "WeirLedger$Books" "quarter" "I" ∈ zAll := zPr_1 5 rfl
theorem zl_X0_54 : Cond.fieldLink RX0 54 "WeirLedger$Books" "ended" "Z" ∈ zAll := zPr_1 6 rfl
theorem zl_X5_50 : Cond.fieldLink RX5 50 "WeirLedger$Books" "ended" "Z" ∈ zAll := zPr_1 7 rfl
theorem zl_X8_247 : Cond.fieldLink RX8 247 "WeirLedger$Books" "ended" "Z" ∈ zAll := zPr_1 8 rfl
theorem zl_X4_9 : Cond.fieldLink RX4 9 "WeirLedger$Register" "committed" "[I" ∈ zAll := zPr_1 9 rfl
theorem zl_X5_148 : Cond.fieldLink RX5 148 "WeirLedger$Register" "committed" "[I" ∈ zAll := zPr_1 10 rfl
theorem zl_X8_124 : Cond.fieldLink RX8 124 "WeirLedger$Register" "committed" "[I" ∈ zAll := zPr_1 11 rfl
theorem zl_X4_15 : Cond.fieldLink RX4 15 "WeirLedger$Register" "uncalled" "[I" ∈ zAll := zPr_1 12 rfl
theorem zl_X5_94 : Cond.fieldLink RX5 94 "WeirLedger$Register" "uncalled" "[I" ∈ zAll := zPr_1 13 rfl
theorem zl_X8_129 : Cond.fieldLink RX8 129 "WeirLedger$Register" "uncalled" "[I" ∈ zAll := zPr_1 14 rfl
theorem zl_X4_18 : Cond.fieldLink RX4 18 "WeirLedger$Register" "paid" "[I" ∈ zAll := zPr_1 15 rfl
theorem zl_X5_174 : Cond.fieldLink RX5 174 "WeirLedger$Register" "paid" "[I" ∈ zAll := zPr_1 16 rfl
theorem zl_X8_132 : Cond.fieldLink RX8 132 "WeirLedger$Register" "paid" "[I" ∈ zAll := zPr_1 17 rfl
theorem zl_X4_21 : Cond.fieldLink RX4 21 "WeirLedger$Register" "got" "[J" ∈ zAll := zPr_1 18 rfl
theorem zl_X8_135 : Cond.fieldLink RX8 135 "WeirLedger$Register" "got" "[J" ∈ zAll := zPr_1 19 rfl
theorem zl_X5_187 : Cond.fieldLink RX5 187 "WeirLedger$Register" "got" "[J" ∈ zAll := zPr_1 20 rfl
theorem zl_X4_25 : Cond.fieldLink RX4 25 "WeirLedger$Register" "excused" "[I" ∈ zAll := zPr_1 21 rfl
theorem zl_X4_28 : Cond.fieldLink RX4 28 "WeirLedger$Register" "weights" "[J" ∈ zAll := zPr_1 22 rfl
theorem zl_X4_31 : Cond.fieldLink RX4 31 "WeirLedger$Register" "parts" "[J" ∈ zAll := zPr_1 23 rfl
theorem zl_X5_171 : Cond.fieldLink RX5 171 "WeirLedger$Register" "parts" "[J" ∈ zAll := zPr_1 24 rfl
theorem zl_X8_190 : Cond.fieldLink RX8 190 "WeirLedger$Register" "parts" "[J" ∈ zAll := zPr_1 25 rfl
theorem zl_X4_34 : Cond.fieldLink RX4 34 "WeirLedger$Register" "remainders" "[J" ∈ zAll := zPr_1 26 rfl
theorem zl_X4_60 : Cond.fieldLink RX4 60 "WeirLedger$Register" "size" "I" ∈ zAll := zPr_1 27 rfl
theorem zl_X5_46 : Cond.fieldLink RX5 46 "WeirLedger$Register" "size" "I" ∈ zAll := zPr_1 28 rfl
theorem zl_X4_63 : Cond.fieldLink RX4 63 "WeirLedger$Register" "failedBits" "I" ∈ zAll := zPr_1 29 rfl
theorem zl_X4_66 : Cond.fieldLink RX4 66 "WeirLedger$Register" "gotTogether" "J" ∈ zAll := zPr_1 30 rfl
theorem zl_X5_181 : Cond.fieldLink RX5 181 "WeirLedger$Register" "gotTogether" "J" ∈ zAll := zPr_1 31 rfl
theorem zl_X8_203 : Cond.fieldLink RX8 203 "WeirLedger$Register" "gotTogether" "J" ∈ zAll := zPr_1 32 rfl
theorem zl_X7_11 : Cond.fieldLink RX7 11 "WeirLedger$Trace" "net" "[J" ∈ zAll := zPr_1 33 rfl
theorem zl_X7_15 : Cond.fieldLink RX7 15 "WeirLedger$Trace" "fees" "[J" ∈ zAll := zPr_1 34 rfl
theorem zl_X5_162 : Cond.fieldLink RX5 162 "WeirLedger$Trace" "fees" "[J" ∈ zAll := zPr_1 35 rfl
theorem zl_X8_341 : Cond.fieldLink RX8 341 "WeirLedger$Trace" "fees" "[J" ∈ zAll := zPr_1 36 rfl
theorem zl_X5_12 : Cond.fieldLink RX5 12 "WeirLedger$State" "books" "LWeirLedger$Books;" ∈ zAll := zPr_1 37 rfl
theorem zl_X8_152 : Cond.fieldLink RX8 152 "WeirLedger$State" "books" "LWeirLedger$Books;" ∈ zAll := zPr_1 38 rfl
theorem zl_X5_21 : Cond.fieldLink RX5 21 "WeirLedger$State" "register" "LWeirLedger$Register;" ∈ zAll := zPr_1 39 rfl
theorem zl_X8_120 : Cond.fieldLink RX8 120 "WeirLedger$State" "register" "LWeirLedger$Register;" ∈ zAll := zPr_2 0 rfl
theorem zl_X5_25 : Cond.fieldLink RX5 25 "WeirLedger$State" "traced" "Z" ∈ zAll := zPr_2 1 rfl
theorem zl_X5_34 : Cond.fieldLink RX5 34 "WeirLedger$State" "trace" "LWeirLedger$Trace;" ∈ zAll := zPr_2 2 rfl
theorem zl_X8_282 : Cond.fieldLink RX8 282 "WeirLedger$State" "trace" "LWeirLedger$Trace;" ∈ zAll := zPr_2 3 rfl
theorem zl_X5_75 : Cond.fieldLink RX5 75 "WeirLedger$State" "toInvestors" "J" ∈ zAll := zPr_2 4 rfl
theorem zl_X8_330 : Cond.fieldLink RX8 330 "WeirLedger$State" "toInvestors" "J" ∈ zAll := zPr_2 5 rfl
theorem zl_X5_79 : Cond.fieldLink RX5 79 "WeirLedger$State" "toManager" "J" ∈ zAll := zPr_2 6 rfl
theorem zl_X8_333 : Cond.fieldLink RX8 333 "WeirLedger$State" "toManager" "J" ∈ zAll := zPr_2 7 rfl
theorem zl_X3_11 : Cond.fieldLink RX3 11 "WeirLedger$Orders" "levels" "[LWeirLedger$Books;" ∈ zAll := zPr_2 8 rfl
theorem zl_X3_17 : Cond.fieldLink RX3 17 "WeirLedger$Orders" "path" "[I" ∈ zAll := zPr_2 9 rfl
theorem zl_X3_21 : Cond.fieldLink RX3 21 "WeirLedger$Orders" "bestPath" "[I" ∈ zAll := zPr_2 10 rfl
theorem zl_X8_216 : Cond.fieldLink RX8 216 "WeirLedger$Orders" "bestPath" "[I" ∈ zAll := zPr_2 11 rfl
theorem zl_X3_39 : Cond.fieldLink RX3 39 "WeirLedger$Orders" "length" "I" ∈ zAll := zPr_2 12 rfl
theorem zl_X8_213 : Cond.fieldLink RX8 213 "WeirLedger$Orders" "length" "I" ∈ zAll := zPr_2 13 rfl
theorem zl_X3_45 : Cond.fieldLink RX3 45 "WeirLedger$Orders" "best" "J" ∈ zAll := zPr_2 14 rfl
theorem zl_X8_210 : Cond.fieldLink RX8 210 "WeirLedger$Orders" "best" "J" ∈ zAll := zPr_2 15 rfl
theorem zl_X8_10 : Cond.fieldLink RX8 10 "WeirLedger" "tape" "LWeirLedger$Text;" ∈ zAll := zPr_2 16 rfl
theorem zl_X8_19 : Cond.fieldLink RX8 19 "WeirLedger" "told" "LWeirLedger$Fund;" ∈ zAll := zPr_2 17 rfl
theorem zl_X8_23 : Cond.fieldLink RX8 23 "WeirLedger" "draft" "LWeirLedger$Fund;" ∈ zAll := zPr_2 18 rfl
theorem zl_X8_29 : Cond.fieldLink RX8 29 "WeirLedger" "journal" "LWeirLedger$Journal;" ∈ zAll := zPr_2 19 rfl
theorem zl_X8_38 : Cond.fieldLink RX8 38 "WeirLedger" "now" "LWeirLedger$State;" ∈ zAll := zPr_2 20 rfl
theorem zl_X8_42 : Cond.fieldLink RX8 42 "WeirLedger" "trial" "LWeirLedger$State;" ∈ zAll := zPr_2 21 rfl
theorem zl_X8_48 : Cond.fieldLink RX8 48 "WeirLedger" "orders" "LWeirLedger$Orders;" ∈ zAll := zPr_2 22 rfl
theorem zl_X8_55 : Cond.fieldLink RX8 55 "WeirLedger" "forecast" "LWeirLedger$Books;" ∈ zAll := zPr_2 23 rfl
theorem zl_X8_59 : Cond.fieldLink RX8 59 "WeirLedger" "outcome" "LWeirLedger$Books;" ∈ zAll := zPr_2 24 rfl
theorem zl_X8_62 : Cond.fieldLink RX8 62 "WeirLedger" "keptFund" "LWeirLedger$Fund;" ∈ zAll := zPr_2 25 rfl
theorem zl_X8_65 : Cond.fieldLink RX8 65 "WeirLedger" "keptJournal" "LWeirLedger$Journal;" ∈ zAll := zPr_2 26 rfl
theorem zl_X8_303 : Cond.fieldLink RX8 303 "WeirLedger" "imageKept" "Z" ∈ zAll := zPr_2 27 rfl
theorem zl_X9_93 : Cond.fieldLink RX9 93 "WeirLedgerModel" "thrown" "I" ∈ zAll := zPr_2 28 rfl
theorem zl_X9_7 : Cond.fieldLink RX9 7 "WeirLedgerModel" "most" "[I" ∈ zAll := zPr_2 29 rfl
theorem zl_X9_13 : Cond.fieldLink RX9 13 "WeirLedgerModel" "terms" "[I" ∈ zAll := zPr_2 30 rfl
theorem zl_X9_16 : Cond.fieldLink RX9 16 "WeirLedgerModel" "promised" "[I" ∈ zAll := zPr_2 31 rfl
theorem zl_X9_19 : Cond.fieldLink RX9 19 "WeirLedgerModel" "excused" "[I" ∈ zAll := zPr_2 32 rfl
theorem zl_X9_96 : Cond.fieldLink RX9 96 "WeirLedgerModel" "many" "I" ∈ zAll := zPr_2 33 rfl
theorem zl_X9_103 : Cond.fieldLink RX9 103 "WeirLedgerModel" "deals" "I" ∈ zAll := zPr_2 34 rfl
theorem zl_X9_22 : Cond.fieldLink RX9 22 "WeirLedgerModel" "s" "[J" ∈ zAll := zPr_2 35 rfl
theorem zl_X9_26 : Cond.fieldLink RX9 26 "WeirLedgerModel" "paidIn" "[J" ∈ zAll := zPr_2 36 rfl
theorem zl_X9_29 : Cond.fieldLink RX9 29 "WeirLedgerModel" "gotIn" "[J" ∈ zAll := zPr_2 37 rfl
theorem zl_X9_32 : Cond.fieldLink RX9 32 "WeirLedgerModel" "journal" "[I" ∈ zAll := zPr_2 38 rfl
theorem zl_X9_116 : Cond.fieldLink RX9 116 "WeirLedgerModel" "acted" "I" ∈ zAll := zPr_2 39 rfl
theorem zl_X9_35 : Cond.fieldLink RX9 35 "WeirLedgerModel" "theirs" "[J" ∈ zAll := zPr_3 0 rfl
theorem zl_X9_38 : Cond.fieldLink RX9 38 "WeirLedgerModel" "hers" "[J" ∈ zAll := zPr_3 1 rfl
theorem zl_X9_41 : Cond.fieldLink RX9 41 "WeirLedgerModel" "doing" "I" ∈ zAll := zPr_3 2 rfl
theorem zl_X9_45 : Cond.fieldLink RX9 45 "WeirLedgerModel" "asideRow" "[J" ∈ zAll := zPr_3 3 rfl
theorem zl_X9_48 : Cond.fieldLink RX9 48 "WeirLedgerModel" "asidePaid" "[J" ∈ zAll := zPr_3 4 rfl
theorem zl_X9_51 : Cond.fieldLink RX9 51 "WeirLedgerModel" "asideGot" "[J" ∈ zAll := zPr_3 5 rfl
theorem zl_X9_54 : Cond.fieldLink RX9 54 "WeirLedgerModel" "kept" "[I" ∈ zAll := zPr_3 6 rfl
theorem zl_X9_435 : Cond.fieldLink RX9 435 "WeirLedgerModel" "hasImage" "Z" ∈ zAll := zPr_3 7 rfl
theorem zl_X9_57 : Cond.fieldLink RX9 57 "WeirLedgerModel" "tape" "[I" ∈ zAll := zPr_3 8 rfl
theorem zl_X9_236 : Cond.fieldLink RX9 236 "WeirLedgerModel" "taped" "I" ∈ zAll := zPr_3 9 rfl
theorem zl_X9_239 : Cond.fieldLink RX9 239 "WeirLedgerModel" "end" "I" ∈ zAll := zPr_3 10 rfl
theorem zl_X9_242 : Cond.fieldLink RX9 242 "WeirLedgerModel" "at" "I" ∈ zAll := zPr_3 11 rfl
theorem zl_X9_60 : Cond.fieldLink RX9 60 "WeirLedgerModel" "fault" "I" ∈ zAll := zPr_3 12 rfl
theorem zl_X9_63 : Cond.fieldLink RX9 63 "WeirLedgerModel" "readTerms" "[I" ∈ zAll := zPr_3 13 rfl
theorem zl_X9_66 : Cond.fieldLink RX9 66 "WeirLedgerModel" "readPromised" "[I" ∈ zAll := zPr_3 14 rfl
theorem zl_X9_69 : Cond.fieldLink RX9 69 "WeirLedgerModel" "readExcused" "[I" ∈ zAll := zPr_3 15 rfl
theorem zl_X9_291 : Cond.fieldLink RX9 291 "WeirLedgerModel" "readMany" "I" ∈ zAll := zPr_3 16 rfl
theorem zl_X9_294 : Cond.fieldLink RX9 294 "WeirLedgerModel" "readDeals" "I" ∈ zAll := zPr_3 17 rfl
theorem zl_X9_305 : Cond.fieldLink RX9 305 "WeirLedgerModel" "toldDeals" "Z" ∈ zAll := zPr_3 18 rfl
theorem zl_X9_72 : Cond.fieldLink RX9 72 "WeirLedgerModel" "weights" "[J" ∈ zAll := zPr_3 19 rfl
theorem zl_X9_75 : Cond.fieldLink RX9 75 "WeirLedgerModel" "parts" "[J" ∈ zAll := zPr_3 20 rfl
theorem zl_X9_78 : Cond.fieldLink RX9 78 "WeirLedgerModel" "rests" "[J" ∈ zAll := zPr_3 21 rfl
theorem zl_X9_81 : Cond.fieldLink RX9 81 "WeirLedgerModel" "steps" "[J" ∈ zAll := zPr_3 22 rfl
theorem zl_X9_159 : Cond.fieldLink RX9 159 "WeirLedgerModel" "toManager" "J" ∈ zAll := zPr_3 23 rfl
theorem zl_X9_163 : Cond.fieldLink RX9 163 "WeirLedgerModel" "toInvestors" "J" ∈ zAll := zPr_3 24 rfl
theorem zl_X9_84 : Cond.fieldLink RX9 84 "WeirLedgerModel" "row" "[I" ∈ zAll := zPr_3 25 rfl
theorem zl_X9_87 : Cond.fieldLink RX9 87 "WeirLedgerModel" "bestRow" "[I" ∈ zAll := zPr_3 26 rfl
theorem zl_X9_393 : Cond.fieldLink RX9 393 "WeirLedgerModel" "rowMany" "I" ∈ zAll := zPr_3 27 rfl
theorem zl_X9_396 : Cond.fieldLink RX9 396 "WeirLedgerModel" "bestTaken" "J" ∈ zAll := zPr_3 28 rfl
def zft_X6 : List (Nat × Nat × Nat × Nat) := [(9, 6, 0, 12), (19, 6, 1, 0), (22, 6, 2, 0), (15, 6, 3, 0)]
theorem zft_X6_ok : ∀ q ∈ zft_X6, zFok RX6 q := by
  unfold zft_X6
  refine List.forall_mem_cons.mpr ⟨⟨RX6, TX6, 4, tyX6, rfl, by decide, zl_X6_9, zinX6, tyX6_ok, nmX6, rfl, fun h => absurd h (by decide), fun _ => ⟨rfl, rfl⟩⟩, ?_⟩
  refine List.forall_mem_cons.mpr ⟨⟨RX6, TX6, 4, tyX6, rfl, by decide, zl_X6_19, zinX6, tyX6_ok, nmX6, rfl, fun _ => rfl, fun h => absurd h (by decide)⟩, ?_⟩
  refine List.forall_mem_cons.mpr ⟨⟨RX6, TX6, 4, tyX6, rfl, by decide, zl_X6_22, zinX6, tyX6_ok, nmX6, rfl, fun _ => rfl, fun h => absurd h (by decide)⟩, ?_⟩
  refine List.forall_mem_cons.mpr ⟨⟨RX6, TX6, 4, tyX6, rfl, by decide, zl_X6_15, zinX6, tyX6_ok, nmX6, rfl, fun _ => rfl, fun h => absurd h (by decide)⟩, ?_⟩
  exact fun _ h => absurd h List.not_mem_nil
def zft_X8 : List (Nat × Nat × Nat × Nat) := [(68, 6, 1, 0), (103, 6, 3, 0), (109, 1, 0, 22), (149, 1, 2, 22), (96, 1, 3, 0), (306, 1, 4, 0), (297, 2, 0, 22), (90, 2, 1, 0), (340, 0, 0, 22), (158, 0, 1, 22), (155, 0, 2, 22), (161, 0, 3, 22), (179, 0, 4, 22), (244, 0, 6, 0), (247, 0, 7, 3), (124, 4, 0, 22), (129, 4, 1, 22), (132, 4, 2, 22), (135, 4, 3, 22), (190, 4, 6, 22), (203, 4, 10, 1), (341, 7, 1, 22), (152, 5, 0, 22), (120, 5, 1, 22), (282, 5, 3, 22), (330, 5, 4, 1), (333, 5, 5, 1), (216, 3, 2, 22), (213, 3, 3, 0), (210, 3, 4, 1), (10, 8, 0, 12), (19, 8, 1, 12), (23, 8, 2, 12), (29, 8, 3, 12), (38, 8, 4, 12), (42, 8, 5, 12), (48, 8, 6, 12), (55, 8, 7, 12), (59, 8, 8, 12), (62, 8, 9, 12), (65, 8, 10, 12), (303, 8, 11, 3)]
theorem zft_X8_ok : ∀ q ∈ zft_X8, zFok RX8 q := by
  unfold zft_X8
  refine List.forall_mem_cons.mpr ⟨⟨RX6, TX6, 4, tyX6, rfl, by decide, zl_X8_68, zinX6, tyX6_ok, nmX6, rfl, fun _ => rfl, fun h => absurd h (by decide)⟩, ?_⟩
  refine List.forall_mem_cons.mpr ⟨⟨RX6, TX6, 4, tyX6, rfl, by decide, zl_X8_103, zinX6, tyX6_ok, nmX6, rfl, fun _ => rfl, fun h => absurd h (by decide)⟩, ?_⟩
  refine List.forall_mem_cons.mpr ⟨⟨RX1, TX1, 6, tyX1, rfl, by decide, zl_X8_109, zinX1, tyX1_ok, nmX1, rfl, fun h => absurd h (by decide), fun h => absurd h (by decide)⟩, ?_⟩
  refine List.forall_mem_cons.mpr ⟨⟨RX1, TX1, 6, tyX1, rfl, by decide, zl_X8_149, zinX1, tyX1_ok, nmX1, rfl, fun h => absurd h (by decide), fun h => absurd h (by decide)⟩, ?_⟩
  refine List.forall_mem_cons.mpr ⟨⟨RX1, TX1, 6, tyX1, rfl, by decide, zl_X8_96, zinX1, tyX1_ok, nmX1, rfl, fun _ => rfl, fun h => absurd h (by decide)⟩, ?_⟩
  refine List.forall_mem_cons.mpr ⟨⟨RX1, TX1, 6, tyX1, rfl, by decide, zl_X8_306, zinX1, tyX1_ok, nmX1, rfl, fun _ => rfl, fun h => absurd h (by decide)⟩, ?_⟩
  refine List.forall_mem_cons.mpr ⟨⟨RX2, TX2, 2, tyX2, rfl, by decide, zl_X8_297, zinX2, tyX2_ok, nmX2, rfl, fun h => absurd h (by decide), fun h => absurd h (by decide)⟩, ?_⟩
  refine List.forall_mem_cons.mpr ⟨⟨RX2, TX2, 2, tyX2, rfl, by decide, zl_X8_90, zinX2, tyX2_ok, nmX2, rfl, fun _ => rfl, fun h => absurd h (by decide)⟩, ?_⟩
  refine List.forall_mem_cons.mpr ⟨⟨RX0, TX0, 8, tyX0, rfl, by decide, zl_X8_340, zinX0, tyX0_ok, nmX0, rfl, fun h => absurd h (by decide), fun h => absurd h (by decide)⟩, ?_⟩
  refine List.forall_mem_cons.mpr ⟨⟨RX0, TX0, 8, tyX0, rfl, by decide, zl_X8_158, zinX0, tyX0_ok, nmX0, rfl, fun h => absurd h (by decide), fun h => absurd h (by decide)⟩, ?_⟩
  refine List.forall_mem_cons.mpr ⟨⟨RX0, TX0, 8, tyX0, rfl, by decide, zl_X8_155, zinX0, tyX0_ok, nmX0, rfl, fun h => absurd h (by decide), fun h => absurd h (by decide)⟩, ?_⟩
  refine List.forall_mem_cons.mpr ⟨⟨RX0, TX0, 8, tyX0, rfl, by decide, zl_X8_161, zinX0, tyX0_ok, nmX0, rfl, fun h => absurd h (by decide), fun h => absurd h (by decide)⟩, ?_⟩
  refine List.forall_mem_cons.mpr ⟨⟨RX0, TX0, 8, tyX0, rfl, by decide, zl_X8_179, zinX0, tyX0_ok, nmX0, rfl, fun h => absurd h (by decide), fun h => absurd h (by decide)⟩, ?_⟩
  refine List.forall_mem_cons.mpr ⟨⟨RX0, TX0, 8, tyX0, rfl, by decide, zl_X8_244, zinX0, tyX0_ok, nmX0, rfl, fun _ => rfl, fun h => absurd h (by decide)⟩, ?_⟩
  refine List.forall_mem_cons.mpr ⟨⟨RX0, TX0, 8, tyX0, rfl, by decide, zl_X8_247, zinX0, tyX0_ok, nmX0, rfl, fun _ => rfl, fun h => absurd h (by decide)⟩, ?_⟩
  refine List.forall_mem_cons.mpr ⟨⟨RX4, TX4, 11, tyX4, rfl, by decide, zl_X8_124, zinX4, tyX4_ok, nmX4, rfl, fun h => absurd h (by decide), fun h => absurd h (by decide)⟩, ?_⟩
  refine List.forall_mem_cons.mpr ⟨⟨RX4, TX4, 11, tyX4, rfl, by decide, zl_X8_129, zinX4, tyX4_ok, nmX4, rfl, fun h => absurd h (by decide), fun h => absurd h (by decide)⟩, ?_⟩
  refine List.forall_mem_cons.mpr ⟨⟨RX4, TX4, 11, tyX4, rfl, by decide, zl_X8_132, zinX4, tyX4_ok, nmX4, rfl, fun h => absurd h (by decide), fun h => absurd h (by decide)⟩, ?_⟩
  refine List.forall_mem_cons.mpr ⟨⟨RX4, TX4, 11, tyX4, rfl, by decide, zl_X8_135, zinX4, tyX4_ok, nmX4, rfl, fun h => absurd h (by decide), fun h => absurd h (by decide)⟩, ?_⟩
  refine List.forall_mem_cons.mpr ⟨⟨RX4, TX4, 11, tyX4, rfl, by decide, zl_X8_190, zinX4, tyX4_ok, nmX4, rfl, fun h => absurd h (by decide), fun h => absurd h (by decide)⟩, ?_⟩
  refine List.forall_mem_cons.mpr ⟨⟨RX4, TX4, 11, tyX4, rfl, by decide, zl_X8_203, zinX4, tyX4_ok, nmX4, rfl, fun _ => rfl, fun h => absurd h (by decide)⟩, ?_⟩
  refine List.forall_mem_cons.mpr ⟨⟨RX7, TX7, 2, tyX7, rfl, by decide, zl_X8_341, zinX7, tyX7_ok, nmX7, rfl, fun h => absurd h (by decide), fun h => absurd h (by decide)⟩, ?_⟩
  refine List.forall_mem_cons.mpr ⟨⟨RX5, TX5, 6, tyX5, rfl, by decide, zl_X8_152, zinX5, tyX5_ok, nmX5, rfl, fun h => absurd h (by decide), fun h => absurd h (by decide)⟩, ?_⟩
  refine List.forall_mem_cons.mpr ⟨⟨RX5, TX5, 6, tyX5, rfl, by decide, zl_X8_120, zinX5, tyX5_ok, nmX5, rfl, fun h => absurd h (by decide), fun h => absurd h (by decide)⟩, ?_⟩
  refine List.forall_mem_cons.mpr ⟨⟨RX5, TX5, 6, tyX5, rfl, by decide, zl_X8_282, zinX5, tyX5_ok, nmX5, rfl, fun h => absurd h (by decide), fun h => absurd h (by decide)⟩, ?_⟩
  refine List.forall_mem_cons.mpr ⟨⟨RX5, TX5, 6, tyX5, rfl, by decide, zl_X8_330, zinX5, tyX5_ok, nmX5, rfl, fun _ => rfl, fun h => absurd h (by decide)⟩, ?_⟩
  refine List.forall_mem_cons.mpr ⟨⟨RX5, TX5, 6, tyX5, rfl, by decide, zl_X8_333, zinX5, tyX5_ok, nmX5, rfl, fun _ => rfl, fun h => absurd h (by decide)⟩, ?_⟩
  refine List.forall_mem_cons.mpr ⟨⟨RX3, TX3, 5, tyX3, rfl, by decide, zl_X8_216, zinX3, tyX3_ok, nmX3, rfl, fun h => absurd h (by decide), fun h => absurd h (by decide)⟩, ?_⟩
  refine List.forall_mem_cons.mpr ⟨⟨RX3, TX3, 5, tyX3, rfl, by decide, zl_X8_213, zinX3, tyX3_ok, nmX3, rfl, fun _ => rfl, fun h => absurd h (by decide)⟩, ?_⟩
  refine List.forall_mem_cons.mpr ⟨⟨RX3, TX3, 5, tyX3, rfl, by decide, zl_X8_210, zinX3, tyX3_ok, nmX3, rfl, fun _ => rfl, fun h => absurd h (by decide)⟩, ?_⟩
  refine List.forall_mem_cons.mpr ⟨⟨RX8, TX8, 12, tyX8, rfl, by decide, zl_X8_10, zinX8, tyX8_ok, nmX8, rfl, fun h => absurd h (by decide), fun _ => ⟨rfl, rfl⟩⟩, ?_⟩
  refine List.forall_mem_cons.mpr ⟨⟨RX8, TX8, 12, tyX8, rfl, by decide, zl_X8_19, zinX8, tyX8_ok, nmX8, rfl, fun h => absurd h (by decide), fun _ => ⟨rfl, rfl⟩⟩, ?_⟩
  refine List.forall_mem_cons.mpr ⟨⟨RX8, TX8, 12, tyX8, rfl, by decide, zl_X8_23, zinX8, tyX8_ok, nmX8, rfl, fun h => absurd h (by decide), fun _ => ⟨rfl, rfl⟩⟩, ?_⟩
  refine List.forall_mem_cons.mpr ⟨⟨RX8, TX8, 12, tyX8, rfl, by decide, zl_X8_29, zinX8, tyX8_ok, nmX8, rfl, fun h => absurd h (by decide), fun _ => ⟨rfl, rfl⟩⟩, ?_⟩
  refine List.forall_mem_cons.mpr ⟨⟨RX8, TX8, 12, tyX8, rfl, by decide, zl_X8_38, zinX8, tyX8_ok, nmX8, rfl, fun h => absurd h (by decide), fun _ => ⟨rfl, rfl⟩⟩, ?_⟩
  refine List.forall_mem_cons.mpr ⟨⟨RX8, TX8, 12, tyX8, rfl, by decide, zl_X8_42, zinX8, tyX8_ok, nmX8, rfl, fun h => absurd h (by decide), fun _ => ⟨rfl, rfl⟩⟩, ?_⟩
  refine List.forall_mem_cons.mpr ⟨⟨RX8, TX8, 12, tyX8, rfl, by decide, zl_X8_48, zinX8, tyX8_ok, nmX8, rfl, fun h => absurd h (by decide), fun _ => ⟨rfl, rfl⟩⟩, ?_⟩
  refine List.forall_mem_cons.mpr ⟨⟨RX8, TX8, 12, tyX8, rfl, by decide, zl_X8_55, zinX8, tyX8_ok, nmX8, rfl, fun h => absurd h (by decide), fun _ => ⟨rfl, rfl⟩⟩, ?_⟩
  refine List.forall_mem_cons.mpr ⟨⟨RX8, TX8, 12, tyX8, rfl, by decide, zl_X8_59, zinX8, tyX8_ok, nmX8, rfl, fun h => absurd h (by decide), fun _ => ⟨rfl, rfl⟩⟩, ?_⟩
  refine List.forall_mem_cons.mpr ⟨⟨RX8, TX8, 12, tyX8, rfl, by decide, zl_X8_62, zinX8, tyX8_ok, nmX8, rfl, fun h => absurd h (by decide), fun _ => ⟨rfl, rfl⟩⟩, ?_⟩
  refine List.forall_mem_cons.mpr ⟨⟨RX8, TX8, 12, tyX8, rfl, by decide, zl_X8_65, zinX8, tyX8_ok, nmX8, rfl, fun h => absurd h (by decide), fun _ => ⟨rfl, rfl⟩⟩, ?_⟩
  refine List.forall_mem_cons.mpr ⟨⟨RX8, TX8, 12, tyX8, rfl, by decide, zl_X8_303, zinX8, tyX8_ok, nmX8, rfl, fun _ => rfl, fun h => absurd h (by decide)⟩, ?_⟩
  exact fun _ h => absurd h List.not_mem_nil
def zft_X1 : List (Nat × Nat × Nat × Nat) := [(9, 1, 0, 12), (15, 1, 1, 12), (18, 1, 2, 12), (27, 1, 3, 0), (31, 1, 4, 0), (34, 1, 5, 3)]
theorem zft_X1_ok : ∀ q ∈ zft_X1, zFok RX1 q := by
  unfold zft_X1
  refine List.forall_mem_cons.mpr ⟨⟨RX1, TX1, 6, tyX1, rfl, by decide, zl_X1_9, zinX1, tyX1_ok, nmX1, rfl, fun h => absurd h (by decide), fun _ => ⟨rfl, rfl⟩⟩, ?_⟩
  refine List.forall_mem_cons.mpr ⟨⟨RX1, TX1, 6, tyX1, rfl, by decide, zl_X1_15, zinX1, tyX1_ok, nmX1, rfl, fun h => absurd h (by decide), fun _ => ⟨rfl, rfl⟩⟩, ?_⟩
  refine List.forall_mem_cons.mpr ⟨⟨RX1, TX1, 6, tyX1, rfl, by decide, zl_X1_18, zinX1, tyX1_ok, nmX1, rfl, fun h => absurd h (by decide), fun _ => ⟨rfl, rfl⟩⟩, ?_⟩
  refine List.forall_mem_cons.mpr ⟨⟨RX1, TX1, 6, tyX1, rfl, by decide, zl_X1_27, zinX1, tyX1_ok, nmX1, rfl, fun _ => rfl, fun h => absurd h (by decide)⟩, ?_⟩
  refine List.forall_mem_cons.mpr ⟨⟨RX1, TX1, 6, tyX1, rfl, by decide, zl_X1_31, zinX1, tyX1_ok, nmX1, rfl, fun _ => rfl, fun h => absurd h (by decide)⟩, ?_⟩
  refine List.forall_mem_cons.mpr ⟨⟨RX1, TX1, 6, tyX1, rfl, by decide, zl_X1_34, zinX1, tyX1_ok, nmX1, rfl, fun _ => rfl, fun h => absurd h (by decide)⟩, ?_⟩
  exact fun _ h => absurd h List.not_mem_nil
def zft_X0 : List (Nat × Nat × Nat × Nat) := [(28, 1, 0, 22), (46, 1, 4, 0), (109, 2, 0, 22), (9, 0, 0, 12), (15, 0, 1, 12), (19, 0, 2, 12), (22, 0, 3, 12), (25, 0, 4, 12), (50, 0, 5, 0), (51, 0, 6, 0), (54, 0, 7, 3)]
theorem zft_X0_ok : ∀ q ∈ zft_X0, zFok RX0 q := by
  unfold zft_X0
  refine List.forall_mem_cons.mpr ⟨⟨RX1, TX1, 6, tyX1, rfl, by decide, zl_X0_28, zinX1, tyX1_ok, nmX1, rfl, fun h => absurd h (by decide), fun h => absurd h (by decide)⟩, ?_⟩
  refine List.forall_mem_cons.mpr ⟨⟨RX1, TX1, 6, tyX1, rfl, by decide, zl_X0_46, zinX1, tyX1_ok, nmX1, rfl, fun _ => rfl, fun h => absurd h (by decide)⟩, ?_⟩
  refine List.forall_mem_cons.mpr ⟨⟨RX2, TX2, 2, tyX2, rfl, by decide, zl_X0_109, zinX2, tyX2_ok, nmX2, rfl, fun h => absurd h (by decide), fun h => absurd h (by decide)⟩, ?_⟩
  refine List.forall_mem_cons.mpr ⟨⟨RX0, TX0, 8, tyX0, rfl, by decide, zl_X0_9, zinX0, tyX0_ok, nmX0, rfl, fun h => absurd h (by decide), fun _ => ⟨rfl, rfl⟩⟩, ?_⟩
  refine List.forall_mem_cons.mpr ⟨⟨RX0, TX0, 8, tyX0, rfl, by decide, zl_X0_15, zinX0, tyX0_ok, nmX0, rfl, fun h => absurd h (by decide), fun _ => ⟨rfl, rfl⟩⟩, ?_⟩
  refine List.forall_mem_cons.mpr ⟨⟨RX0, TX0, 8, tyX0, rfl, by decide, zl_X0_19, zinX0, tyX0_ok, nmX0, rfl, fun h => absurd h (by decide), fun _ => ⟨rfl, rfl⟩⟩, ?_⟩
  refine List.forall_mem_cons.mpr ⟨⟨RX0, TX0, 8, tyX0, rfl, by decide, zl_X0_22, zinX0, tyX0_ok, nmX0, rfl, fun h => absurd h (by decide), fun _ => ⟨rfl, rfl⟩⟩, ?_⟩
  refine List.forall_mem_cons.mpr ⟨⟨RX0, TX0, 8, tyX0, rfl, by decide, zl_X0_25, zinX0, tyX0_ok, nmX0, rfl, fun h => absurd h (by decide), fun _ => ⟨rfl, rfl⟩⟩, ?_⟩
  refine List.forall_mem_cons.mpr ⟨⟨RX0, TX0, 8, tyX0, rfl, by decide, zl_X0_50, zinX0, tyX0_ok, nmX0, rfl, fun _ => rfl, fun h => absurd h (by decide)⟩, ?_⟩
  refine List.forall_mem_cons.mpr ⟨⟨RX0, TX0, 8, tyX0, rfl, by decide, zl_X0_51, zinX0, tyX0_ok, nmX0, rfl, fun _ => rfl, fun h => absurd h (by decide)⟩, ?_⟩
  refine List.forall_mem_cons.mpr ⟨⟨RX0, TX0, 8, tyX0, rfl, by decide, zl_X0_54, zinX0, tyX0_ok, nmX0, rfl, fun _ => rfl, fun h => absurd h (by decide)⟩, ?_⟩
  exact fun _ h => absurd h List.not_mem_nil
def zft_X4 : List (Nat × Nat × Nat × Nat) := [(37, 1, 1, 22), (46, 1, 2, 22), (56, 1, 3, 0), (9, 4, 0, 12), (15, 4, 1, 12), (18, 4, 2, 12), (21, 4, 3, 12), (25, 4, 4, 12), (28, 4, 5, 12), (31, 4, 6, 12), (34, 4, 7, 12), (60, 4, 8, 0), (63, 4, 9, 0), (66, 4, 10, 1)]
theorem zft_X4_ok : ∀ q ∈ zft_X4, zFok RX4 q := by
  unfold zft_X4
  refine List.forall_mem_cons.mpr ⟨⟨RX1, TX1, 6, tyX1, rfl, by decide, zl_X4_37, zinX1, tyX1_ok, nmX1, rfl, fun h => absurd h (by decide), fun h => absurd h (by decide)⟩, ?_⟩
  refine List.forall_mem_cons.mpr ⟨⟨RX1, TX1, 6, tyX1, rfl, by decide, zl_X4_46, zinX1, tyX1_ok, nmX1, rfl, fun h => absurd h (by decide), fun h => absurd h (by decide)⟩, ?_⟩
  refine List.forall_mem_cons.mpr ⟨⟨RX1, TX1, 6, tyX1, rfl, by decide, zl_X4_56, zinX1, tyX1_ok, nmX1, rfl, fun _ => rfl, fun h => absurd h (by decide)⟩, ?_⟩
  refine List.forall_mem_cons.mpr ⟨⟨RX4, TX4, 11, tyX4, rfl, by decide, zl_X4_9, zinX4, tyX4_ok, nmX4, rfl, fun h => absurd h (by decide), fun _ => ⟨rfl, rfl⟩⟩, ?_⟩
  refine List.forall_mem_cons.mpr ⟨⟨RX4, TX4, 11, tyX4, rfl, by decide, zl_X4_15, zinX4, tyX4_ok, nmX4, rfl, fun h => absurd h (by decide), fun _ => ⟨rfl, rfl⟩⟩, ?_⟩
  refine List.forall_mem_cons.mpr ⟨⟨RX4, TX4, 11, tyX4, rfl, by decide, zl_X4_18, zinX4, tyX4_ok, nmX4, rfl, fun h => absurd h (by decide), fun _ => ⟨rfl, rfl⟩⟩, ?_⟩
  refine List.forall_mem_cons.mpr ⟨⟨RX4, TX4, 11, tyX4, rfl, by decide, zl_X4_21, zinX4, tyX4_ok, nmX4, rfl, fun h => absurd h (by decide), fun _ => ⟨rfl, rfl⟩⟩, ?_⟩
  refine List.forall_mem_cons.mpr ⟨⟨RX4, TX4, 11, tyX4, rfl, by decide, zl_X4_25, zinX4, tyX4_ok, nmX4, rfl, fun h => absurd h (by decide), fun _ => ⟨rfl, rfl⟩⟩, ?_⟩
  refine List.forall_mem_cons.mpr ⟨⟨RX4, TX4, 11, tyX4, rfl, by decide, zl_X4_28, zinX4, tyX4_ok, nmX4, rfl, fun h => absurd h (by decide), fun _ => ⟨rfl, rfl⟩⟩, ?_⟩
  refine List.forall_mem_cons.mpr ⟨⟨RX4, TX4, 11, tyX4, rfl, by decide, zl_X4_31, zinX4, tyX4_ok, nmX4, rfl, fun h => absurd h (by decide), fun _ => ⟨rfl, rfl⟩⟩, ?_⟩
  refine List.forall_mem_cons.mpr ⟨⟨RX4, TX4, 11, tyX4, rfl, by decide, zl_X4_34, zinX4, tyX4_ok, nmX4, rfl, fun h => absurd h (by decide), fun _ => ⟨rfl, rfl⟩⟩, ?_⟩
  refine List.forall_mem_cons.mpr ⟨⟨RX4, TX4, 11, tyX4, rfl, by decide, zl_X4_60, zinX4, tyX4_ok, nmX4, rfl, fun _ => rfl, fun h => absurd h (by decide)⟩, ?_⟩
  refine List.forall_mem_cons.mpr ⟨⟨RX4, TX4, 11, tyX4, rfl, by decide, zl_X4_63, zinX4, tyX4_ok, nmX4, rfl, fun _ => rfl, fun h => absurd h (by decide)⟩, ?_⟩
  refine List.forall_mem_cons.mpr ⟨⟨RX4, TX4, 11, tyX4, rfl, by decide, zl_X4_66, zinX4, tyX4_ok, nmX4, rfl, fun _ => rfl, fun h => absurd h (by decide)⟩, ?_⟩
  exact fun _ h => absurd h List.not_mem_nil
def zft_X2 : List (Nat × Nat × Nat × Nat) := [(9, 2, 0, 12), (21, 2, 1, 0)]
theorem zft_X2_ok : ∀ q ∈ zft_X2, zFok RX2 q := by
  unfold zft_X2
  refine List.forall_mem_cons.mpr ⟨⟨RX2, TX2, 2, tyX2, rfl, by decide, zl_X2_9, zinX2, tyX2_ok, nmX2, rfl, fun h => absurd h (by decide), fun _ => ⟨rfl, rfl⟩⟩, ?_⟩
  refine List.forall_mem_cons.mpr ⟨⟨RX2, TX2, 2, tyX2, rfl, by decide, zl_X2_21, zinX2, tyX2_ok, nmX2, rfl, fun _ => rfl, fun h => absurd h (by decide)⟩, ?_⟩
  exact fun _ h => absurd h List.not_mem_nil
def zft_X5 : List (Nat × Nat × Nat × Nat) := [(132, 2, 0, 22), (145, 0, 0, 22), (106, 0, 4, 22), (61, 0, 6, 0), (50, 0, 7, 3), (148, 4, 0, 22), (94, 4, 1, 22), (174, 4, 2, 22), (187, 4, 3, 22), (171, 4, 6, 22), (46, 4, 8, 0), (181, 4, 10, 1), (162, 7, 1, 22), (12, 5, 0, 12), (21, 5, 1, 12), (25, 5, 2, 13), (34, 5, 3, 12), (75, 5, 4, 1), (79, 5, 5, 1)]
theorem zft_X5_ok : ∀ q ∈ zft_X5, zFok RX5 q := by
  unfold zft_X5
  refine List.forall_mem_cons.mpr ⟨⟨RX2, TX2, 2, tyX2, rfl, by decide, zl_X5_132, zinX2, tyX2_ok, nmX2, rfl, fun h => absurd h (by decide), fun h => absurd h (by decide)⟩, ?_⟩
  refine List.forall_mem_cons.mpr ⟨⟨RX0, TX0, 8, tyX0, rfl, by decide, zl_X5_145, zinX0, tyX0_ok, nmX0, rfl, fun h => absurd h (by decide), fun h => absurd h (by decide)⟩, ?_⟩
  refine List.forall_mem_cons.mpr ⟨⟨RX0, TX0, 8, tyX0, rfl, by decide, zl_X5_106, zinX0, tyX0_ok, nmX0, rfl, fun h => absurd h (by decide), fun h => absurd h (by decide)⟩, ?_⟩
  refine List.forall_mem_cons.mpr ⟨⟨RX0, TX0, 8, tyX0, rfl, by decide, zl_X5_61, zinX0, tyX0_ok, nmX0, rfl, fun _ => rfl, fun h => absurd h (by decide)⟩, ?_⟩
  refine List.forall_mem_cons.mpr ⟨⟨RX0, TX0, 8, tyX0, rfl, by decide, zl_X5_50, zinX0, tyX0_ok, nmX0, rfl, fun _ => rfl, fun h => absurd h (by decide)⟩, ?_⟩
  refine List.forall_mem_cons.mpr ⟨⟨RX4, TX4, 11, tyX4, rfl, by decide, zl_X5_148, zinX4, tyX4_ok, nmX4, rfl, fun h => absurd h (by decide), fun h => absurd h (by decide)⟩, ?_⟩
  refine List.forall_mem_cons.mpr ⟨⟨RX4, TX4, 11, tyX4, rfl, by decide, zl_X5_94, zinX4, tyX4_ok, nmX4, rfl, fun h => absurd h (by decide), fun h => absurd h (by decide)⟩, ?_⟩
  refine List.forall_mem_cons.mpr ⟨⟨RX4, TX4, 11, tyX4, rfl, by decide, zl_X5_174, zinX4, tyX4_ok, nmX4, rfl, fun h => absurd h (by decide), fun h => absurd h (by decide)⟩, ?_⟩
  refine List.forall_mem_cons.mpr ⟨⟨RX4, TX4, 11, tyX4, rfl, by decide, zl_X5_187, zinX4, tyX4_ok, nmX4, rfl, fun h => absurd h (by decide), fun h => absurd h (by decide)⟩, ?_⟩
  refine List.forall_mem_cons.mpr ⟨⟨RX4, TX4, 11, tyX4, rfl, by decide, zl_X5_171, zinX4, tyX4_ok, nmX4, rfl, fun h => absurd h (by decide), fun h => absurd h (by decide)⟩, ?_⟩
  refine List.forall_mem_cons.mpr ⟨⟨RX4, TX4, 11, tyX4, rfl, by decide, zl_X5_46, zinX4, tyX4_ok, nmX4, rfl, fun _ => rfl, fun h => absurd h (by decide)⟩, ?_⟩
  refine List.forall_mem_cons.mpr ⟨⟨RX4, TX4, 11, tyX4, rfl, by decide, zl_X5_181, zinX4, tyX4_ok, nmX4, rfl, fun _ => rfl, fun h => absurd h (by decide)⟩, ?_⟩
  refine List.forall_mem_cons.mpr ⟨⟨RX7, TX7, 2, tyX7, rfl, by decide, zl_X5_162, zinX7, tyX7_ok, nmX7, rfl, fun h => absurd h (by decide), fun h => absurd h (by decide)⟩, ?_⟩
  refine List.forall_mem_cons.mpr ⟨⟨RX5, TX5, 6, tyX5, rfl, by decide, zl_X5_12, zinX5, tyX5_ok, nmX5, rfl, fun h => absurd h (by decide), fun _ => ⟨rfl, rfl⟩⟩, ?_⟩
  refine List.forall_mem_cons.mpr ⟨⟨RX5, TX5, 6, tyX5, rfl, by decide, zl_X5_21, zinX5, tyX5_ok, nmX5, rfl, fun h => absurd h (by decide), fun _ => ⟨rfl, rfl⟩⟩, ?_⟩
  refine List.forall_mem_cons.mpr ⟨⟨RX5, TX5, 6, tyX5, rfl, by decide, zl_X5_25, zinX5, tyX5_ok, nmX5, rfl, fun h => absurd h (by decide), fun _ => ⟨rfl, rfl⟩⟩, ?_⟩
  refine List.forall_mem_cons.mpr ⟨⟨RX5, TX5, 6, tyX5, rfl, by decide, zl_X5_34, zinX5, tyX5_ok, nmX5, rfl, fun h => absurd h (by decide), fun _ => ⟨rfl, rfl⟩⟩, ?_⟩
  refine List.forall_mem_cons.mpr ⟨⟨RX5, TX5, 6, tyX5, rfl, by decide, zl_X5_75, zinX5, tyX5_ok, nmX5, rfl, fun _ => rfl, fun h => absurd h (by decide)⟩, ?_⟩
  refine List.forall_mem_cons.mpr ⟨⟨RX5, TX5, 6, tyX5, rfl, by decide, zl_X5_79, zinX5, tyX5_ok, nmX5, rfl, fun _ => rfl, fun h => absurd h (by decide)⟩, ?_⟩
  exact fun _ h => absurd h List.not_mem_nil
def zft_X3 : List (Nat × Nat × Nat × Nat) := [(70, 0, 2, 22), (53, 0, 3, 22), (63, 0, 5, 0), (11, 3, 0, 12), (17, 3, 1, 12), (21, 3, 2, 12), (39, 3, 3, 0), (45, 3, 4, 1)]
theorem zft_X3_ok : ∀ q ∈ zft_X3, zFok RX3 q := by
  unfold zft_X3
  refine List.forall_mem_cons.mpr ⟨⟨RX0, TX0, 8, tyX0, rfl, by decide, zl_X3_70, zinX0, tyX0_ok, nmX0, rfl, fun h => absurd h (by decide), fun h => absurd h (by decide)⟩, ?_⟩
  refine List.forall_mem_cons.mpr ⟨⟨RX0, TX0, 8, tyX0, rfl, by decide, zl_X3_53, zinX0, tyX0_ok, nmX0, rfl, fun h => absurd h (by decide), fun h => absurd h (by decide)⟩, ?_⟩
  refine List.forall_mem_cons.mpr ⟨⟨RX0, TX0, 8, tyX0, rfl, by decide, zl_X3_63, zinX0, tyX0_ok, nmX0, rfl, fun _ => rfl, fun h => absurd h (by decide)⟩, ?_⟩
  refine List.forall_mem_cons.mpr ⟨⟨RX3, TX3, 5, tyX3, rfl, by decide, zl_X3_11, zinX3, tyX3_ok, nmX3, rfl, fun h => absurd h (by decide), fun _ => ⟨rfl, rfl⟩⟩, ?_⟩
  refine List.forall_mem_cons.mpr ⟨⟨RX3, TX3, 5, tyX3, rfl, by decide, zl_X3_17, zinX3, tyX3_ok, nmX3, rfl, fun h => absurd h (by decide), fun _ => ⟨rfl, rfl⟩⟩, ?_⟩
  refine List.forall_mem_cons.mpr ⟨⟨RX3, TX3, 5, tyX3, rfl, by decide, zl_X3_21, zinX3, tyX3_ok, nmX3, rfl, fun h => absurd h (by decide), fun _ => ⟨rfl, rfl⟩⟩, ?_⟩
  refine List.forall_mem_cons.mpr ⟨⟨RX3, TX3, 5, tyX3, rfl, by decide, zl_X3_39, zinX3, tyX3_ok, nmX3, rfl, fun _ => rfl, fun h => absurd h (by decide)⟩, ?_⟩
  refine List.forall_mem_cons.mpr ⟨⟨RX3, TX3, 5, tyX3, rfl, by decide, zl_X3_45, zinX3, tyX3_ok, nmX3, rfl, fun _ => rfl, fun h => absurd h (by decide)⟩, ?_⟩
  exact fun _ h => absurd h List.not_mem_nil
def zft_X7 : List (Nat × Nat × Nat × Nat) := [(11, 7, 0, 12), (15, 7, 1, 12)]
theorem zft_X7_ok : ∀ q ∈ zft_X7, zFok RX7 q := by
  unfold zft_X7
  refine List.forall_mem_cons.mpr ⟨⟨RX7, TX7, 2, tyX7, rfl, by decide, zl_X7_11, zinX7, tyX7_ok, nmX7, rfl, fun h => absurd h (by decide), fun _ => ⟨rfl, rfl⟩⟩, ?_⟩
  refine List.forall_mem_cons.mpr ⟨⟨RX7, TX7, 2, tyX7, rfl, by decide, zl_X7_15, zinX7, tyX7_ok, nmX7, rfl, fun h => absurd h (by decide), fun _ => ⟨rfl, rfl⟩⟩, ?_⟩
  exact fun _ h => absurd h List.not_mem_nil
def zft_X9 : List (Nat × Nat × Nat × Nat) := [(93, 9, 0, 0), (7, 9, 1, 12), (13, 9, 2, 12), (16, 9, 3, 12), (19, 9, 4, 12), (96, 9, 5, 0), (103, 9, 6, 0), (22, 9, 7, 12), (26, 9, 8, 12), (29, 9, 9, 12), (32, 9, 10, 12), (116, 9, 11, 0), (35, 9, 12, 12), (38, 9, 13, 12), (41, 9, 14, 0), (45, 9, 15, 12), (48, 9, 16, 12), (51, 9, 17, 12), (54, 9, 18, 12), (435, 9, 19, 3), (57, 9, 20, 12), (236, 9, 21, 0), (239, 9, 22, 0), (242, 9, 23, 0), (60, 9, 24, 0), (63, 9, 25, 12), (66, 9, 26, 12), (69, 9, 27, 12), (291, 9, 28, 0), (294, 9, 29, 0), (305, 9, 30, 3), (72, 9, 31, 12), (75, 9, 32, 12), (78, 9, 33, 12), (81, 9, 34, 12), (159, 9, 35, 1), (163, 9, 36, 1), (84, 9, 37, 12), (87, 9, 38, 12), (393, 9, 39, 0), (396, 9, 40, 1)]
theorem zft_X9_ok : ∀ q ∈ zft_X9, zFok RX9 q := by
  unfold zft_X9
  refine List.forall_mem_cons.mpr ⟨⟨RX9, TX9, 41, tyX9, rfl, by decide, zl_X9_93, zinX9, tyX9_ok, nmX9, rfl, fun _ => rfl, fun h => absurd h (by decide)⟩, ?_⟩
  refine List.forall_mem_cons.mpr ⟨⟨RX9, TX9, 41, tyX9, rfl, by decide, zl_X9_7, zinX9, tyX9_ok, nmX9, rfl, fun h => absurd h (by decide), fun _ => ⟨rfl, rfl⟩⟩, ?_⟩
  refine List.forall_mem_cons.mpr ⟨⟨RX9, TX9, 41, tyX9, rfl, by decide, zl_X9_13, zinX9, tyX9_ok, nmX9, rfl, fun h => absurd h (by decide), fun _ => ⟨rfl, rfl⟩⟩, ?_⟩
  refine List.forall_mem_cons.mpr ⟨⟨RX9, TX9, 41, tyX9, rfl, by decide, zl_X9_16, zinX9, tyX9_ok, nmX9, rfl, fun h => absurd h (by decide), fun _ => ⟨rfl, rfl⟩⟩, ?_⟩
  refine List.forall_mem_cons.mpr ⟨⟨RX9, TX9, 41, tyX9, rfl, by decide, zl_X9_19, zinX9, tyX9_ok, nmX9, rfl, fun h => absurd h (by decide), fun _ => ⟨rfl, rfl⟩⟩, ?_⟩
  refine List.forall_mem_cons.mpr ⟨⟨RX9, TX9, 41, tyX9, rfl, by decide, zl_X9_96, zinX9, tyX9_ok, nmX9, rfl, fun _ => rfl, fun h => absurd h (by decide)⟩, ?_⟩
  refine List.forall_mem_cons.mpr ⟨⟨RX9, TX9, 41, tyX9, rfl, by decide, zl_X9_103, zinX9, tyX9_ok, nmX9, rfl, fun _ => rfl, fun h => absurd h (by decide)⟩, ?_⟩
  refine List.forall_mem_cons.mpr ⟨⟨RX9, TX9, 41, tyX9, rfl, by decide, zl_X9_22, zinX9, tyX9_ok, nmX9, rfl, fun h => absurd h (by decide), fun _ => ⟨rfl, rfl⟩⟩, ?_⟩
  refine List.forall_mem_cons.mpr ⟨⟨RX9, TX9, 41, tyX9, rfl, by decide, zl_X9_26, zinX9, tyX9_ok, nmX9, rfl, fun h => absurd h (by decide), fun _ => ⟨rfl, rfl⟩⟩, ?_⟩
  refine List.forall_mem_cons.mpr ⟨⟨RX9, TX9, 41, tyX9, rfl, by decide, zl_X9_29, zinX9, tyX9_ok, nmX9, rfl, fun h => absurd h (by decide), fun _ => ⟨rfl, rfl⟩⟩, ?_⟩
  refine List.forall_mem_cons.mpr ⟨⟨RX9, TX9, 41, tyX9, rfl, by decide, zl_X9_32, zinX9, tyX9_ok, nmX9, rfl, fun h => absurd h (by decide), fun _ => ⟨rfl, rfl⟩⟩, ?_⟩
  refine List.forall_mem_cons.mpr ⟨⟨RX9, TX9, 41, tyX9, rfl, by decide, zl_X9_116, zinX9, tyX9_ok, nmX9, rfl, fun _ => rfl, fun h => absurd h (by decide)⟩, ?_⟩
  refine List.forall_mem_cons.mpr ⟨⟨RX9, TX9, 41, tyX9, rfl, by decide, zl_X9_35, zinX9, tyX9_ok, nmX9, rfl, fun h => absurd h (by decide), fun _ => ⟨rfl, rfl⟩⟩, ?_⟩
  refine List.forall_mem_cons.mpr ⟨⟨RX9, TX9, 41, tyX9, rfl, by decide, zl_X9_38, zinX9, tyX9_ok, nmX9, rfl, fun h => absurd h (by decide), fun _ => ⟨rfl, rfl⟩⟩, ?_⟩
  refine List.forall_mem_cons.mpr ⟨⟨RX9, TX9, 41, tyX9, rfl, by decide, zl_X9_41, zinX9, tyX9_ok, nmX9, rfl, fun _ => rfl, fun h => absurd h (by decide)⟩, ?_⟩
  refine List.forall_mem_cons.mpr ⟨⟨RX9, TX9, 41, tyX9, rfl, by decide, zl_X9_45, zinX9, tyX9_ok, nmX9, rfl, fun h => absurd h (by decide), fun _ => ⟨rfl, rfl⟩⟩, ?_⟩
  refine List.forall_mem_cons.mpr ⟨⟨RX9, TX9, 41, tyX9, rfl, by decide, zl_X9_48, zinX9, tyX9_ok, nmX9, rfl, fun h => absurd h (by decide), fun _ => ⟨rfl, rfl⟩⟩, ?_⟩
  refine List.forall_mem_cons.mpr ⟨⟨RX9, TX9, 41, tyX9, rfl, by decide, zl_X9_51, zinX9, tyX9_ok, nmX9, rfl, fun h => absurd h (by decide), fun _ => ⟨rfl, rfl⟩⟩, ?_⟩
  refine List.forall_mem_cons.mpr ⟨⟨RX9, TX9, 41, tyX9, rfl, by decide, zl_X9_54, zinX9, tyX9_ok, nmX9, rfl, fun h => absurd h (by decide), fun _ => ⟨rfl, rfl⟩⟩, ?_⟩
  refine List.forall_mem_cons.mpr ⟨⟨RX9, TX9, 41, tyX9, rfl, by decide, zl_X9_435, zinX9, tyX9_ok, nmX9, rfl, fun _ => rfl, fun h => absurd h (by decide)⟩, ?_⟩
  refine List.forall_mem_cons.mpr ⟨⟨RX9, TX9, 41, tyX9, rfl, by decide, zl_X9_57, zinX9, tyX9_ok, nmX9, rfl, fun h => absurd h (by decide), fun _ => ⟨rfl, rfl⟩⟩, ?_⟩
  refine List.forall_mem_cons.mpr ⟨⟨RX9, TX9, 41, tyX9, rfl, by decide, zl_X9_236, zinX9, tyX9_ok, nmX9, rfl, fun _ => rfl, fun h => absurd h (by decide)⟩, ?_⟩
  refine List.forall_mem_cons.mpr ⟨⟨RX9, TX9, 41, tyX9, rfl, by decide, zl_X9_239, zinX9, tyX9_ok, nmX9, rfl, fun _ => rfl, fun h => absurd h (by decide)⟩, ?_⟩
  refine List.forall_mem_cons.mpr ⟨⟨RX9, TX9, 41, tyX9, rfl, by decide, zl_X9_242, zinX9, tyX9_ok, nmX9, rfl, fun _ => rfl, fun h => absurd h (by decide)⟩, ?_⟩
  refine List.forall_mem_cons.mpr ⟨⟨RX9, TX9, 41, tyX9, rfl, by decide, zl_X9_60, zinX9, tyX9_ok, nmX9, rfl, fun _ => rfl, fun h => absurd h (by decide)⟩, ?_⟩
  refine List.forall_mem_cons.mpr ⟨⟨RX9, TX9, 41, tyX9, rfl, by decide, zl_X9_63, zinX9, tyX9_ok, nmX9, rfl, fun h => absurd h (by decide), fun _ => ⟨rfl, rfl⟩⟩, ?_⟩
  refine List.forall_mem_cons.mpr ⟨⟨RX9, TX9, 41, tyX9, rfl, by decide, zl_X9_66, zinX9, tyX9_ok, nmX9, rfl, fun h => absurd h (by decide), fun _ => ⟨rfl, rfl⟩⟩, ?_⟩
  refine List.forall_mem_cons.mpr ⟨⟨RX9, TX9, 41, tyX9, rfl, by decide, zl_X9_69, zinX9, tyX9_ok, nmX9, rfl, fun h => absurd h (by decide), fun _ => ⟨rfl, rfl⟩⟩, ?_⟩
  refine List.forall_mem_cons.mpr ⟨⟨RX9, TX9, 41, tyX9, rfl, by decide, zl_X9_291, zinX9, tyX9_ok, nmX9, rfl, fun _ => rfl, fun h => absurd h (by decide)⟩, ?_⟩
  refine List.forall_mem_cons.mpr ⟨⟨RX9, TX9, 41, tyX9, rfl, by decide, zl_X9_294, zinX9, tyX9_ok, nmX9, rfl, fun _ => rfl, fun h => absurd h (by decide)⟩, ?_⟩
  refine List.forall_mem_cons.mpr ⟨⟨RX9, TX9, 41, tyX9, rfl, by decide, zl_X9_305, zinX9, tyX9_ok, nmX9, rfl, fun _ => rfl, fun h => absurd h (by decide)⟩, ?_⟩
  refine List.forall_mem_cons.mpr ⟨⟨RX9, TX9, 41, tyX9, rfl, by decide, zl_X9_72, zinX9, tyX9_ok, nmX9, rfl, fun h => absurd h (by decide), fun _ => ⟨rfl, rfl⟩⟩, ?_⟩
  refine List.forall_mem_cons.mpr ⟨⟨RX9, TX9, 41, tyX9, rfl, by decide, zl_X9_75, zinX9, tyX9_ok, nmX9, rfl, fun h => absurd h (by decide), fun _ => ⟨rfl, rfl⟩⟩, ?_⟩
  refine List.forall_mem_cons.mpr ⟨⟨RX9, TX9, 41, tyX9, rfl, by decide, zl_X9_78, zinX9, tyX9_ok, nmX9, rfl, fun h => absurd h (by decide), fun _ => ⟨rfl, rfl⟩⟩, ?_⟩
  refine List.forall_mem_cons.mpr ⟨⟨RX9, TX9, 41, tyX9, rfl, by decide, zl_X9_81, zinX9, tyX9_ok, nmX9, rfl, fun h => absurd h (by decide), fun _ => ⟨rfl, rfl⟩⟩, ?_⟩
  refine List.forall_mem_cons.mpr ⟨⟨RX9, TX9, 41, tyX9, rfl, by decide, zl_X9_159, zinX9, tyX9_ok, nmX9, rfl, fun _ => rfl, fun h => absurd h (by decide)⟩, ?_⟩
  refine List.forall_mem_cons.mpr ⟨⟨RX9, TX9, 41, tyX9, rfl, by decide, zl_X9_163, zinX9, tyX9_ok, nmX9, rfl, fun _ => rfl, fun h => absurd h (by decide)⟩, ?_⟩
  refine List.forall_mem_cons.mpr ⟨⟨RX9, TX9, 41, tyX9, rfl, by decide, zl_X9_84, zinX9, tyX9_ok, nmX9, rfl, fun h => absurd h (by decide), fun _ => ⟨rfl, rfl⟩⟩, ?_⟩
  refine List.forall_mem_cons.mpr ⟨⟨RX9, TX9, 41, tyX9, rfl, by decide, zl_X9_87, zinX9, tyX9_ok, nmX9, rfl, fun h => absurd h (by decide), fun _ => ⟨rfl, rfl⟩⟩, ?_⟩
  refine List.forall_mem_cons.mpr ⟨⟨RX9, TX9, 41, tyX9, rfl, by decide, zl_X9_393, zinX9, tyX9_ok, nmX9, rfl, fun _ => rfl, fun h => absurd h (by decide)⟩, ?_⟩
  refine List.forall_mem_cons.mpr ⟨⟨RX9, TX9, 41, tyX9, rfl, by decide, zl_X9_396, zinX9, tyX9_ok, nmX9, rfl, fun _ => rfl, fun h => absurd h (by decide)⟩, ?_⟩
  exact fun _ h => absurd h List.not_mem_nil
theorem zn_L : Cond.initialized RL ∈ zAll := zPr_3 29 rfl
theorem zn_X8 : Cond.initialized RX8 ∈ zAll := zPr_3 30 rfl
theorem zn_X6 : Cond.initialized RX6 ∈ zAll := zPr_3 31 rfl
theorem zn_X1 : Cond.initialized RX1 ∈ zAll := zPr_3 32 rfl
theorem zn_X2 : Cond.initialized RX2 ∈ zAll := zPr_3 33 rfl
theorem zn_X5 : Cond.initialized RX5 ∈ zAll := zPr_3 34 rfl
theorem zn_X0 : Cond.initialized RX0 ∈ zAll := zPr_3 35 rfl
theorem zn_X4 : Cond.initialized RX4 ∈ zAll := zPr_3 36 rfl
theorem zn_X7 : Cond.initialized RX7 ∈ zAll := zPr_3 37 rfl
theorem zn_X3 : Cond.initialized RX3 ∈ zAll := zPr_3 38 rfl
theorem zn_X9 : Cond.initialized RX9 ∈ zAll := zPr_3 39 rfl
theorem zn_J7 : Cond.initialized RJ7 ∈ zAll := zPr_4 0 rfl
theorem zn_J0 : Cond.initialized RJ0 ∈ zAll := zPr_4 1 rfl
theorem zn_J1 : Cond.initialized RJ1 ∈ zAll := zPr_4 2 rfl
theorem zn_J3 : Cond.initialized RJ3 ∈ zAll := zPr_4 3 rfl
theorem zn_J2 : Cond.initialized RJ2 ∈ zAll := zPr_4 4 rfl
theorem zn_java_lang_Throwable : Cond.initialized "java/lang/Throwable" ∈ zAll := zPr_4 5 rfl
theorem zn_java_lang_Exception : Cond.initialized "java/lang/Exception" ∈ zAll := zPr_4 6 rfl
theorem zn_java_lang_RuntimeException : Cond.initialized "java/lang/RuntimeException" ∈ zAll := zPr_4 7 rfl
theorem zn_java_lang_IllegalArgumentException : Cond.initialized "java/lang/IllegalArgumentException" ∈ zAll := zPr_4 8 rfl
theorem zn_J10 : Cond.initialized RJ10 ∈ zAll := zPr_4 9 rfl
theorem zn_J9 : Cond.initialized RJ9 ∈ zAll := zPr_4 10 rfl
theorem zn_java_util_NoSuchElementException : Cond.initialized "java/util/NoSuchElementException" ∈ zAll := zPr_4 11 rfl
theorem zn_java_lang_IndexOutOfBoundsException : Cond.initialized "java/lang/IndexOutOfBoundsException" ∈ zAll := zPr_4 12 rfl
theorem zn_java_lang_IllegalStateException : Cond.initialized "java/lang/IllegalStateException" ∈ zAll := zPr_4 13 rfl
theorem zn_java_lang_UnsupportedOperationException : Cond.initialized "java/lang/UnsupportedOperationException" ∈ zAll := zPr_4 14 rfl
theorem zn_J6 : Cond.initialized RJ6 ∈ zAll := zPr_4 15 rfl
theorem zm_L_130 : Cond.methodLink RL 130 yX8_init ∈ zAll := zPr_4 16 rfl
theorem zi_yX8_init : Cond.instanceMethod yX8_init ∈ zAll := zPr_4 17 rfl
theorem zc_yX8_init : Cond.code yX8_init cX8_init 1 none ∈ zAll := zPr_4 18 rfl
theorem zi_yX6_init : Cond.instanceMethod yX6_init ∈ zAll := zPr_4 19 rfl
theorem zc_yX6_init : Cond.code yX6_init cX6_init 1 none ∈ zAll := zPr_4 20 rfl
theorem zi_yX1_init : Cond.instanceMethod yX1_init ∈ zAll := zPr_4 21 rfl
theorem zc_yX1_init : Cond.code yX1_init cX1_init 1 none ∈ zAll := zPr_4 22 rfl
theorem zi_yX2_init : Cond.instanceMethod yX2_init ∈ zAll := zPr_4 23 rfl
theorem zc_yX2_init : Cond.code yX2_init cX2_init 1 none ∈ zAll := zPr_4 24 rfl
theorem zm_X8_35 : Cond.methodLink RX8 35 yX5_init ∈ zAll := zPr_4 25 rfl
theorem zi_yX5_init : Cond.instanceMethod yX5_init ∈ zAll := zPr_4 26 rfl
theorem zc_yX5_init : Cond.code yX5_init cX5_init 2 none ∈ zAll := zPr_4 27 rfl
theorem zi_yX0_init : Cond.instanceMethod yX0_init ∈ zAll := zPr_4 28 rfl
theorem zc_yX0_init : Cond.code yX0_init cX0_init 1 none ∈ zAll := zPr_4 29 rfl
theorem zi_yX4_init : Cond.instanceMethod yX4_init ∈ zAll := zPr_4 30 rfl
theorem zc_yX4_init : Cond.code yX4_init cX4_init 1 none ∈ zAll := zPr_4 31 rfl
theorem zm_X5_31 : Cond.methodLink RX5 31 yX7_init ∈ zAll := zPr_4 32 rfl
theorem zi_yX7_init : Cond.instanceMethod yX7_init ∈ zAll := zPr_4 33 rfl
theorem zc_yX7_init : Cond.code yX7_init cX7_init 2 none ∈ zAll := zPr_4 34 rfl
theorem zm_X8_47 : Cond.methodLink RX8 47 yX3_init ∈ zAll := zPr_4 35 rfl
theorem zi_yX3_init : Cond.instanceMethod yX3_init ∈ zAll := zPr_4 36 rfl
theorem zc_yX3_init : Cond.code yX3_init cX3_init 2 none ∈ zAll := zPr_4 37 rfl
theorem zm_L_134 : Cond.methodLink RL 134 yX8_feed ∈ zAll := zPr_4 38 rfl
theorem zi_yX8_feed : Cond.instanceMethod yX8_feed ∈ zAll := zPr_4 39 rfl
theorem zc_yX8_feed : Cond.code yX8_feed cX8_feed 6 (some .int) ∈ zAll := zPr_5 0 rfl
theorem zm_X8_72 : Cond.methodLink RX8 72 yX6_append ∈ zAll := zPr_5 1 rfl
theorem zi_yX6_append : Cond.instanceMethod yX6_append ∈ zAll := zPr_5 2 rfl
theorem zc_yX6_append : Cond.code yX6_append cX6_append 3 none ∈ zAll := zPr_5 3 rfl
theorem zm_L_139 : Cond.methodLink RL 139 yX8_end ∈ zAll := zPr_5 4 rfl
theorem zi_yX8_end : Cond.instanceMethod yX8_end ∈ zAll := zPr_5 5 rfl
theorem zc_yX8_end : Cond.code yX8_end cX8_end 2 (some .boolean) ∈ zAll := zPr_5 6 rfl
theorem zm_L_156 : Cond.methodLink RL 156 yX8_fault ∈ zAll := zPr_5 7 rfl
theorem zi_yX8_fault : Cond.instanceMethod yX8_fault ∈ zAll := zPr_5 8 rfl
theorem zc_yX8_fault : Cond.code yX8_fault cX8_fault 1 (some .int) ∈ zAll := zPr_5 9 rfl
theorem zm_L_215 : Cond.methodLink RL 215 yX8_claw ∈ zAll := zPr_5 10 rfl
theorem zi_yX8_claw : Cond.instanceMethod yX8_claw ∈ zAll := zPr_5 11 rfl
theorem zc_yX8_claw : Cond.code yX8_claw cX8_claw 1 (some .long) ∈ zAll := zPr_5 12 rfl
theorem zm_X8_193 : Cond.methodLink RX8 193 yX0_clawDue ∈ zAll := zPr_5 13 rfl
theorem zi_yX0_clawDue : Cond.instanceMethod yX0_clawDue ∈ zAll := zPr_5 14 rfl
theorem zc_yX0_clawDue : Cond.code yX0_clawDue cX0_clawDue 5 (some .long) ∈ zAll := zPr_5 15 rfl
theorem zm_X0_101 : Cond.methodLink RX0 101 yX0_dueNow ∈ zAll := zPr_5 16 rfl
theorem zi_yX0_dueNow : Cond.instanceMethod yX0_dueNow ∈ zAll := zPr_5 17 rfl
theorem zc_yX0_dueNow : Cond.code yX0_dueNow cX0_dueNow 1 (some .long) ∈ zAll := zPr_5 18 rfl
theorem zm_X0_98 : Cond.methodLink RX0 98 yJ9_max_f86c9 ∈ zAll := zPr_5 19 rfl
theorem zt_yJ9_max_f86c9 : Cond.static yJ9_max_f86c9 ∈ zAll := zPr_5 20 rfl
theorem zc_yJ9_max_f86c9 : Cond.code yJ9_max_f86c9 cJ9_max_f86c9 4 (some .long) ∈ zAll := zPr_5 21 rfl
theorem zm_X0_70 : Cond.methodLink RX0 70 yJ9_min_f86c9 ∈ zAll := zPr_5 22 rfl
theorem zt_yJ9_min_f86c9 : Cond.static yJ9_min_f86c9 ∈ zAll := zPr_5 23 rfl
theorem zc_yJ9_min_f86c9 : Cond.code yJ9_min_f86c9 cJ9_min_f86c9 4 (some .long) ∈ zAll := zPr_5 24 rfl
theorem zm_X0_105 : Cond.methodLink RX0 105 yX0_clawFromOut ∈ zAll := zPr_5 25 rfl
theorem zi_yX0_clawFromOut : Cond.instanceMethod yX0_clawFromOut ∈ zAll := zPr_5 26 rfl
theorem zc_yX0_clawFromOut : Cond.code yX0_clawFromOut cX0_clawFromOut 5 (some .long) ∈ zAll := zPr_5 27 rfl
theorem zk_X0_80 : Cond.constantLong RX0 80 (Int64.ofInt (100)) ∈ zAll := zPr_5 28 rfl
theorem zm_L_222 : Cond.methodLink RL 222 yX8_order ∈ zAll := zPr_5 29 rfl
theorem zi_yX8_order : Cond.instanceMethod yX8_order ∈ zAll := zPr_5 30 rfl
theorem zc_yX8_order : Cond.code yX8_order cX8_order 2 (some .long) ∈ zAll := zPr_5 31 rfl
theorem zm_X8_207 : Cond.methodLink RX8 207 yX3_search ∈ zAll := zPr_5 32 rfl
theorem zi_yX3_search : Cond.instanceMethod yX3_search ∈ zAll := zPr_5 33 rfl
theorem zc_yX3_search : Cond.code yX3_search cX3_search 2 none ∈ zAll := zPr_5 34 rfl
theorem zm_X3_25 : Cond.methodLink RX3 25 yX0_copyFrom ∈ zAll := zPr_5 35 rfl
theorem zi_yX0_copyFrom : Cond.instanceMethod yX0_copyFrom ∈ zAll := zPr_5 36 rfl
theorem zc_yX0_copyFrom : Cond.code yX0_copyFrom cX0_copyFrom 2 none ∈ zAll := zPr_5 37 rfl
theorem zm_X0_31 : Cond.methodLink RX0 31 arraycopyName ∈ zAll := zPr_5 38 rfl
theorem zm_X3_29 : Cond.methodLink RX3 29 yX0_openDeals ∈ zAll := zPr_5 39 rfl
theorem zi_yX0_openDeals : Cond.instanceMethod yX0_openDeals ∈ zAll := zPr_6 0 rfl
theorem zc_yX0_openDeals : Cond.code yX0_openDeals cX0_openDeals 3 (some .int) ∈ zAll := zPr_6 1 rfl
theorem zm_X0_58 : Cond.methodLink RX0 58 yX0_isOpen ∈ zAll := zPr_6 2 rfl
theorem zi_yX0_isOpen : Cond.instanceMethod yX0_isOpen ∈ zAll := zPr_6 3 rfl
theorem zc_yX0_isOpen : Cond.code yX0_isOpen cX0_isOpen 2 (some .boolean) ∈ zAll := zPr_6 4 rfl
theorem zm_X3_33 : Cond.methodLink RX3 33 yJ6_bitCount_0f7a4 ∈ zAll := zPr_6 5 rfl
theorem zt_yJ6_bitCount_0f7a4 : Cond.static yJ6_bitCount_0f7a4 ∈ zAll := zPr_6 6 rfl
theorem zc_yJ6_bitCount_0f7a4 : Cond.code yJ6_bitCount_0f7a4 cJ6_bitCount_0f7a4 1 (some .int) ∈ zAll := zPr_6 7 rfl
theorem zk_J6_265 : Cond.constant RJ6 265 (Int32.ofInt (1431655765)) ∈ zAll := zPr_6 8 rfl
theorem zk_J6_266 : Cond.constant RJ6 266 (Int32.ofInt (858993459)) ∈ zAll := zPr_6 9 rfl
theorem zk_J6_267 : Cond.constant RJ6 267 (Int32.ofInt (252645135)) ∈ zAll := zPr_6 10 rfl
theorem zk_X3_43 : Cond.constantLong RX3 43 (Int64.ofInt (-1)) ∈ zAll := zPr_6 11 rfl
theorem zm_X3_49 : Cond.methodLink RX3 49 yX3_tryFrom ∈ zAll := zPr_6 12 rfl
theorem zi_yX3_tryFrom : Cond.instanceMethod yX3_tryFrom ∈ zAll := zPr_6 13 rfl
theorem zc_yX3_tryFrom : Cond.code yX3_tryFrom cX3_tryFrom 5 none ∈ zAll := zPr_6 14 rfl
theorem zm_X3_57 : Cond.methodLink RX3 57 arraycopyName ∈ zAll := zPr_6 15 rfl
theorem zm_X3_66 : Cond.methodLink RX3 66 yX0_isOpen ∈ zAll := zPr_6 16 rfl
theorem zm_X3_73 : Cond.methodLink RX3 73 yX0_sellDeal ∈ zAll := zPr_6 17 rfl
theorem zi_yX0_sellDeal : Cond.instanceMethod yX0_sellDeal ∈ zAll := zPr_6 18 rfl
theorem zc_yX0_sellDeal : Cond.code yX0_sellDeal cX0_sellDeal 8 none ∈ zAll := zPr_6 19 rfl
theorem zm_X0_82 : Cond.methodLink RX0 82 yX0_measure ∈ zAll := zPr_6 20 rfl
theorem zi_yX0_measure : Cond.instanceMethod yX0_measure ∈ zAll := zPr_6 21 rfl
theorem zc_yX0_measure : Cond.code yX0_measure cX0_measure 12 none ∈ zAll := zPr_6 22 rfl
theorem zm_X0_76 : Cond.methodLink RX0 76 yX0_catchUp ∈ zAll := zPr_6 23 rfl
theorem zi_yX0_catchUp : Cond.instanceMethod yX0_catchUp ∈ zAll := zPr_6 24 rfl
theorem zc_yX0_catchUp : Cond.code yX0_catchUp cX0_catchUp 16 (some .long) ∈ zAll := zPr_6 25 rfl
theorem zm_X0_86 : Cond.methodLink RX0 86 yX0_pour ∈ zAll := zPr_6 26 rfl
theorem zi_yX0_pour : Cond.instanceMethod yX0_pour ∈ zAll := zPr_6 27 rfl
theorem zc_yX0_pour : Cond.code yX0_pour cX0_pour 7 none ∈ zAll := zPr_6 28 rfl
theorem zm_X0_62 : Cond.methodLink RX0 62 yX0_isDealwise ∈ zAll := zPr_6 29 rfl
theorem zi_yX0_isDealwise : Cond.instanceMethod yX0_isDealwise ∈ zAll := zPr_6 30 rfl
theorem zc_yX0_isDealwise : Cond.code yX0_isDealwise cX0_isDealwise 1 (some .boolean) ∈ zAll := zPr_6 31 rfl
theorem zm_X0_90 : Cond.methodLink RX0 90 yX0_shiftToBurden ∈ zAll := zPr_6 32 rfl
theorem zi_yX0_shiftToBurden : Cond.instanceMethod yX0_shiftToBurden ∈ zAll := zPr_6 33 rfl
theorem zc_yX0_shiftToBurden : Cond.code yX0_shiftToBurden cX0_shiftToBurden 3 none ∈ zAll := zPr_6 34 rfl
theorem zk_X8_214 : Cond.constantLong RX8 214 (Int64.ofInt (-1)) ∈ zAll := zPr_6 35 rfl
theorem zm_L_244 : Cond.methodLink RL 244 yX8_clean ∈ zAll := zPr_6 36 rfl
theorem zi_yX8_clean : Cond.instanceMethod yX8_clean ∈ zAll := zPr_6 37 rfl
theorem zc_yX8_clean : Cond.code yX8_clean cX8_clean 5 (some .int) ∈ zAll := zPr_6 38 rfl
theorem zm_X8_222 : Cond.methodLink RX8 222 yX8_booksUnder ∈ zAll := zPr_6 39 rfl
theorem zi_yX8_booksUnder : Cond.instanceMethod yX8_booksUnder ∈ zAll := zPr_7 0 rfl
theorem zc_yX8_booksUnder : Cond.code yX8_booksUnder cX8_booksUnder 5 (some (.object "WeirLedger$Books")) ∈ zAll := zPr_7 1 rfl
theorem zm_X8_339 : Cond.methodLink RX8 339 yX0_open ∈ zAll := zPr_7 2 rfl
theorem zi_yX0_open : Cond.instanceMethod yX0_open ∈ zAll := zPr_7 3 rfl
theorem zc_yX0_open : Cond.code yX0_open cX0_open 2 none ∈ zAll := zPr_7 4 rfl
theorem zm_X0_37 : Cond.methodLink RX0 37 yJ7_fill_d0a16 ∈ zAll := zPr_7 5 rfl
theorem zt_yJ7_fill_d0a16 : Cond.static yJ7_fill_d0a16 ∈ zAll := zPr_7 6 rfl
theorem zc_yJ7_fill_d0a16 : Cond.code yJ7_fill_d0a16 cJ7_fill_d0a16 5 none ∈ zAll := zPr_7 7 rfl
theorem zm_X0_43 : Cond.methodLink RX0 43 yJ7_fill_53178 ∈ zAll := zPr_7 8 rfl
theorem zt_yJ7_fill_53178 : Cond.static yJ7_fill_53178 ∈ zAll := zPr_7 9 rfl
theorem zc_yJ7_fill_53178 : Cond.code yJ7_fill_53178 cJ7_fill_53178 4 none ∈ zAll := zPr_7 10 rfl
theorem zm_X8_344 : Cond.methodLink RX8 344 yX0_retrace ∈ zAll := zPr_7 11 rfl
theorem zi_yX0_retrace : Cond.instanceMethod yX0_retrace ∈ zAll := zPr_7 12 rfl
theorem zc_yX0_retrace : Cond.code yX0_retrace cX0_retrace 8 none ∈ zAll := zPr_7 13 rfl
theorem zm_X0_114 : Cond.methodLink RX0 114 yX0_raise ∈ zAll := zPr_7 14 rfl
theorem zi_yX0_raise : Cond.instanceMethod yX0_raise ∈ zAll := zPr_7 15 rfl
theorem zc_yX0_raise : Cond.code yX0_raise cX0_raise 3 none ∈ zAll := zPr_7 16 rfl
theorem zm_X0_94 : Cond.methodLink RX0 94 yX0_sellDeal ∈ zAll := zPr_7 17 rfl
theorem zm_X0_117 : Cond.methodLink RX0 117 yX0_pass ∈ zAll := zPr_7 18 rfl
theorem zi_yX0_pass : Cond.instanceMethod yX0_pass ∈ zAll := zPr_7 19 rfl
theorem zc_yX0_pass : Cond.code yX0_pass cX0_pass 7 none ∈ zAll := zPr_7 20 rfl
theorem zk_X0_66 : Cond.constantLong RX0 66 (Int64.ofInt (10000)) ∈ zAll := zPr_7 21 rfl
theorem zk_X0_68 : Cond.constantLong RX0 68 (Int64.ofInt (1000000000)) ∈ zAll := zPr_7 22 rfl
theorem zm_X0_121 : Cond.methodLink RX0 121 yX0_settle ∈ zAll := zPr_7 23 rfl
theorem zi_yX0_settle : Cond.instanceMethod yX0_settle ∈ zAll := zPr_7 24 rfl
theorem zc_yX0_settle : Cond.code yX0_settle cX0_settle 7 (some .long) ∈ zAll := zPr_7 25 rfl
theorem zm_L_248 : Cond.methodLink RL 248 yX8_idle ∈ zAll := zPr_7 26 rfl
theorem zi_yX8_idle : Cond.instanceMethod yX8_idle ∈ zAll := zPr_7 27 rfl
theorem zc_yX8_idle : Cond.code yX8_idle cX8_idle 5 (some .int) ∈ zAll := zPr_7 28 rfl
theorem zm_X8_226 : Cond.methodLink RX8 226 yX0_netTaken ∈ zAll := zPr_7 29 rfl
theorem zi_yX0_netTaken : Cond.instanceMethod yX0_netTaken ∈ zAll := zPr_7 30 rfl
theorem zc_yX0_netTaken : Cond.code yX0_netTaken cX0_netTaken 1 (some .long) ∈ zAll := zPr_7 31 rfl
theorem zm_X8_236 : Cond.methodLink RX8 236 yX8_netTakenWithout ∈ zAll := zPr_7 32 rfl
theorem zi_yX8_netTakenWithout : Cond.instanceMethod yX8_netTakenWithout ∈ zAll := zPr_7 33 rfl
theorem zc_yX8_netTakenWithout : Cond.code yX8_netTakenWithout cX8_netTakenWithout 3 (some .long) ∈ zAll := zPr_7 34 rfl
theorem zm_X8_229 : Cond.methodLink RX8 229 yX5_open ∈ zAll := zPr_7 35 rfl
theorem zi_yX5_open : Cond.instanceMethod yX5_open ∈ zAll := zPr_7 36 rfl
theorem zc_yX5_open : Cond.code yX5_open cX5_open 2 none ∈ zAll := zPr_7 37 rfl
theorem zm_X5_38 : Cond.methodLink RX5 38 yX0_open ∈ zAll := zPr_7 38 rfl
theorem zm_X5_42 : Cond.methodLink RX5 42 yX4_open ∈ zAll := zPr_7 39 rfl
theorem zi_yX4_open : Cond.instanceMethod yX4_open ∈ zAll := zPr_8 0 rfl
theorem zc_yX4_open : Cond.code yX4_open cX4_open 2 none ∈ zAll := zPr_8 1 rfl
theorem zm_X4_40 : Cond.methodLink RX4 40 arraycopyName ∈ zAll := zPr_8 2 rfl
theorem zm_X4_47 : Cond.methodLink RX4 47 yJ7_fill_53178 ∈ zAll := zPr_8 3 rfl
theorem zm_X4_53 : Cond.methodLink RX4 53 yJ7_fill_d0a16 ∈ zAll := zPr_8 4 rfl
theorem zm_X5_43 : Cond.methodLink RX5 43 yX7_clear ∈ zAll := zPr_8 5 rfl
theorem zi_yX7_clear : Cond.instanceMethod yX7_clear ∈ zAll := zPr_8 6 rfl
theorem zc_yX7_clear : Cond.code yX7_clear cX7_clear 1 none ∈ zAll := zPr_8 7 rfl
theorem zm_X7_18 : Cond.methodLink RX7 18 yJ7_fill_d0a16 ∈ zAll := zPr_8 8 rfl
theorem zm_X8_232 : Cond.methodLink RX8 232 yX5_follow ∈ zAll := zPr_8 9 rfl
theorem zi_yX5_follow : Cond.instanceMethod yX5_follow ∈ zAll := zPr_8 10 rfl
theorem zc_yX5_follow : Cond.code yX5_follow cX5_follow 9 (some .boolean) ∈ zAll := zPr_8 11 rfl
theorem zm_X5_137 : Cond.methodLink RX5 137 yX5_canBe ∈ zAll := zPr_8 12 rfl
theorem zi_yX5_canBe : Cond.instanceMethod yX5_canBe ∈ zAll := zPr_8 13 rfl
theorem zc_yX5_canBe : Cond.code yX5_canBe cX5_canBe 5 (some .boolean) ∈ zAll := zPr_8 14 rfl
theorem zm_X5_53 : Cond.methodLink RX5 53 yX0_isOpen ∈ zAll := zPr_8 15 rfl
theorem zm_X5_57 : Cond.methodLink RX5 57 yX4_callable ∈ zAll := zPr_8 16 rfl
theorem zi_yX4_callable : Cond.instanceMethod yX4_callable ∈ zAll := zPr_8 17 rfl
theorem zc_yX4_callable : Cond.code yX4_callable cX4_callable 5 (some .long) ∈ zAll := zPr_8 18 rfl
theorem zm_X4_70 : Cond.methodLink RX4 70 yX4_isExcused ∈ zAll := zPr_8 19 rfl
theorem zi_yX4_isExcused : Cond.instanceMethod yX4_isExcused ∈ zAll := zPr_8 20 rfl
theorem zc_yX4_isExcused : Cond.code yX4_isExcused cX4_isExcused 3 (some .boolean) ∈ zAll := zPr_8 21 rfl
theorem zm_X5_64 : Cond.methodLink RX5 64 yX4_hasFailed ∈ zAll := zPr_8 22 rfl
theorem zi_yX4_hasFailed : Cond.instanceMethod yX4_hasFailed ∈ zAll := zPr_8 23 rfl
theorem zc_yX4_hasFailed : Cond.code yX4_hasFailed cX4_hasFailed 2 (some .boolean) ∈ zAll := zPr_8 24 rfl
theorem zm_X5_67 : Cond.methodLink RX5 67 yX4_canHandOver ∈ zAll := zPr_8 25 rfl
theorem zi_yX4_canHandOver : Cond.instanceMethod yX4_canHandOver ∈ zAll := zPr_8 26 rfl
theorem zc_yX4_canHandOver : Cond.code yX4_canHandOver cX4_canHandOver 4 (some .boolean) ∈ zAll := zPr_8 27 rfl
theorem zm_X4_78 : Cond.methodLink RX4 78 yX4_hasFailed ∈ zAll := zPr_8 28 rfl
theorem zm_X5_71 : Cond.methodLink RX5 71 yX0_openDeals ∈ zAll := zPr_8 29 rfl
theorem zm_X5_141 : Cond.methodLink RX5 141 yX5_perform ∈ zAll := zPr_8 30 rfl
theorem zi_yX5_perform : Cond.instanceMethod yX5_perform ∈ zAll := zPr_8 31 rfl
theorem zc_yX5_perform : Cond.code yX5_perform cX5_perform 6 (some .long) ∈ zAll := zPr_8 32 rfl
theorem zm_X5_82 : Cond.methodLink RX5 82 yX4_weighUncalled ∈ zAll := zPr_8 33 rfl
theorem zi_yX4_weighUncalled : Cond.instanceMethod yX4_weighUncalled ∈ zAll := zPr_8 34 rfl
theorem zc_yX4_weighUncalled : Cond.code yX4_weighUncalled cX4_weighUncalled 3 none ∈ zAll := zPr_8 35 rfl
theorem zm_X5_86 : Cond.methodLink RX5 86 yX5_takeIn ∈ zAll := zPr_8 36 rfl
theorem zi_yX5_takeIn : Cond.instanceMethod yX5_takeIn ∈ zAll := zPr_8 37 rfl
theorem zc_yX5_takeIn : Cond.code yX5_takeIn cX5_takeIn 5 none ∈ zAll := zPr_8 38 rfl
theorem zm_X5_168 : Cond.methodLink RX5 168 yX4_split ∈ zAll := zPr_8 39 rfl
theorem zi_yX4_split : Cond.instanceMethod yX4_split ∈ zAll := zPr_9 0 rfl
theorem zc_yX4_split : Cond.code yX4_split cX4_split 10 none ∈ zAll := zPr_9 1 rfl
theorem zm_X5_177 : Cond.methodLink RX5 177 yX7_add ∈ zAll := zPr_9 2 rfl
theorem zi_yX7_add : Cond.instanceMethod yX7_add ∈ zAll := zPr_9 3 rfl
theorem zc_yX7_add : Cond.code yX7_add cX7_add 5 none ∈ zAll := zPr_9 4 rfl
theorem zm_X5_90 : Cond.methodLink RX5 90 yX0_raise ∈ zAll := zPr_9 5 rfl
theorem zm_X5_98 : Cond.methodLink RX5 98 yX4_allOf ∈ zAll := zPr_9 6 rfl
theorem zi_yX4_allOf : Cond.instanceMethod yX4_allOf ∈ zAll := zPr_9 7 rfl
theorem zc_yX4_allOf : Cond.code yX4_allOf cX4_allOf 5 (some .long) ∈ zAll := zPr_9 8 rfl
theorem zm_X5_102 : Cond.methodLink RX5 102 yX0_sellDeal ∈ zAll := zPr_9 9 rfl
theorem zm_X5_110 : Cond.methodLink RX5 110 yX5_handOut ∈ zAll := zPr_9 10 rfl
theorem zi_yX5_handOut : Cond.instanceMethod yX5_handOut ∈ zAll := zPr_9 11 rfl
theorem zc_yX5_handOut : Cond.code yX5_handOut cX5_handOut 3 none ∈ zAll := zPr_9 12 rfl
theorem zm_X5_184 : Cond.methodLink RX5 184 yX4_weighFor ∈ zAll := zPr_9 13 rfl
theorem zi_yX4_weighFor : Cond.instanceMethod yX4_weighFor ∈ zAll := zPr_9 14 rfl
theorem zc_yX4_weighFor : Cond.code yX4_weighFor cX4_weighFor 3 none ∈ zAll := zPr_9 15 rfl
theorem zm_X4_74 : Cond.methodLink RX4 74 yX4_weightOf ∈ zAll := zPr_9 16 rfl
theorem zi_yX4_weightOf : Cond.instanceMethod yX4_weightOf ∈ zAll := zPr_9 17 rfl
theorem zc_yX4_weightOf : Cond.code yX4_weightOf cX4_weightOf 3 (some .int) ∈ zAll := zPr_9 18 rfl
theorem zm_X5_113 : Cond.methodLink RX5 113 yX0_remark ∈ zAll := zPr_9 19 rfl
theorem zi_yX0_remark : Cond.instanceMethod yX0_remark ∈ zAll := zPr_9 20 rfl
theorem zc_yX0_remark : Cond.code yX0_remark cX0_remark 4 (some .int) ∈ zAll := zPr_9 21 rfl
theorem zm_X5_117 : Cond.methodLink RX5 117 yX5_passQuarter ∈ zAll := zPr_9 22 rfl
theorem zi_yX5_passQuarter : Cond.instanceMethod yX5_passQuarter ∈ zAll := zPr_9 23 rfl
theorem zc_yX5_passQuarter : Cond.code yX5_passQuarter cX5_passQuarter 3 none ∈ zAll := zPr_9 24 rfl
theorem zm_X5_153 : Cond.methodLink RX5 153 yX5_fullFee ∈ zAll := zPr_9 25 rfl
theorem zi_yX5_fullFee : Cond.instanceMethod yX5_fullFee ∈ zAll := zPr_9 26 rfl
theorem zc_yX5_fullFee : Cond.code yX5_fullFee cX5_fullFee 1 (some .long) ∈ zAll := zPr_9 27 rfl
theorem zk_X5_151 : Cond.constantLong RX5 151 (Int64.ofInt (10000)) ∈ zAll := zPr_9 28 rfl
theorem zm_X5_156 : Cond.methodLink RX5 156 yJ9_min_f86c9 ∈ zAll := zPr_9 29 rfl
theorem zm_X5_165 : Cond.methodLink RX5 165 yX0_pass ∈ zAll := zPr_9 30 rfl
theorem zm_X5_120 : Cond.methodLink RX5 120 yX4_setFailed ∈ zAll := zPr_9 31 rfl
theorem zi_yX4_setFailed : Cond.instanceMethod yX4_setFailed ∈ zAll := zPr_9 32 rfl
theorem zc_yX4_setFailed : Cond.code yX4_setFailed cX4_setFailed 2 (some .int) ∈ zAll := zPr_9 33 rfl
theorem zm_X5_124 : Cond.methodLink RX5 124 yX4_handOver ∈ zAll := zPr_9 34 rfl
theorem zi_yX4_handOver : Cond.instanceMethod yX4_handOver ∈ zAll := zPr_9 35 rfl
theorem zc_yX4_handOver : Cond.code yX4_handOver cX4_handOver 5 (some .int) ∈ zAll := zPr_9 36 rfl
theorem zm_X5_128 : Cond.methodLink RX5 128 yX0_settle ∈ zAll := zPr_9 37 rfl
theorem zm_L_252 : Cond.methodLink RL 252 yX8_blame ∈ zAll := zPr_9 38 rfl
theorem zi_yX8_blame : Cond.instanceMethod yX8_blame ∈ zAll := zPr_9 39 rfl
theorem zc_yX8_blame : Cond.code yX8_blame cX8_blame 7 (some .int) ∈ zAll := zPr_10 0 rfl
theorem zm_L_256 : Cond.methodLink RL 256 yX8_most ∈ zAll := zPr_10 1 rfl
theorem zi_yX8_most : Cond.instanceMethod yX8_most ∈ zAll := zPr_10 2 rfl
theorem zc_yX8_most : Cond.code yX8_most cX8_most 4 (some .long) ∈ zAll := zPr_10 3 rfl
theorem zm_X8_251 : Cond.methodLink RX8 251 yX0_standing ∈ zAll := zPr_10 4 rfl
theorem zi_yX0_standing : Cond.instanceMethod yX0_standing ∈ zAll := zPr_10 5 rfl
theorem zc_yX0_standing : Cond.code yX0_standing cX0_standing 2 (some .long) ∈ zAll := zPr_10 6 rfl
theorem zm_X8_254 : Cond.methodLink RX8 254 yJ9_max_f86c9 ∈ zAll := zPr_10 7 rfl
theorem zm_L_284 : Cond.methodLink RL 284 yX8_image ∈ zAll := zPr_10 8 rfl
theorem zi_yX8_image : Cond.instanceMethod yX8_image ∈ zAll := zPr_10 9 rfl
theorem zc_yX8_image : Cond.code yX8_image cX8_image 1 none ∈ zAll := zPr_10 10 rfl
theorem zm_X8_86 : Cond.methodLink RX8 86 yX1_copyFrom ∈ zAll := zPr_10 11 rfl
theorem zi_yX1_copyFrom : Cond.instanceMethod yX1_copyFrom ∈ zAll := zPr_10 12 rfl
theorem zc_yX1_copyFrom : Cond.code yX1_copyFrom cX1_copyFrom 2 none ∈ zAll := zPr_10 13 rfl
theorem zm_X1_38 : Cond.methodLink RX1 38 arraycopyName ∈ zAll := zPr_10 14 rfl
theorem zm_X8_300 : Cond.methodLink RX8 300 yX2_copyFrom ∈ zAll := zPr_10 15 rfl
theorem zi_yX2_copyFrom : Cond.instanceMethod yX2_copyFrom ∈ zAll := zPr_10 16 rfl
theorem zc_yX2_copyFrom : Cond.code yX2_copyFrom cX2_copyFrom 2 none ∈ zAll := zPr_10 17 rfl
theorem zm_X2_15 : Cond.methodLink RX2 15 arraycopyName ∈ zAll := zPr_10 18 rfl
theorem zm_L_288 : Cond.methodLink RL 288 yX8_back ∈ zAll := zPr_10 19 rfl
theorem zi_yX8_back : Cond.instanceMethod yX8_back ∈ zAll := zPr_10 20 rfl
theorem zc_yX8_back : Cond.code yX8_back cX8_back 1 (some .boolean) ∈ zAll := zPr_10 21 rfl
theorem zm_X8_93 : Cond.methodLink RX8 93 yX8_goThroughAnew ∈ zAll := zPr_10 22 rfl
theorem zi_yX8_goThroughAnew : Cond.instanceMethod yX8_goThroughAnew ∈ zAll := zPr_10 23 rfl
theorem zc_yX8_goThroughAnew : Cond.code yX8_goThroughAnew cX8_goThroughAnew 2 none ∈ zAll := zPr_10 24 rfl
theorem zm_L_293 : Cond.methodLink RL 293 yX8_count ∈ zAll := zPr_10 25 rfl
theorem zi_yX8_count : Cond.instanceMethod yX8_count ∈ zAll := zPr_10 26 rfl
theorem zc_yX8_count : Cond.code yX8_count cX8_count 2 (some .int) ∈ zAll := zPr_10 27 rfl
theorem zm_L_144 : Cond.methodLink RL 144 yL_fund ∈ zAll := zPr_10 28 rfl
theorem zt_yL_fund : Cond.static yL_fund ∈ zAll := zPr_10 29 rfl
theorem zc_yL_fund : Cond.codeWith yL_fund cL_fund 3 (some .int) [(0, 8, 11, 13)] ∈ zAll := zPr_10 30 rfl
theorem zm_L_7 : Cond.methodLink RL 7 yX8_fund ∈ zAll := zPr_10 31 rfl
theorem zi_yX8_fund : Cond.instanceMethod yX8_fund ∈ zAll := zPr_10 32 rfl
theorem zc_yX8_fund : Cond.code yX8_fund cX8_fund 2 (some .int) ∈ zAll := zPr_10 33 rfl
theorem zm_X8_76 : Cond.methodLink RX8 76 yX6_rewind ∈ zAll := zPr_10 34 rfl
theorem zi_yX6_rewind : Cond.instanceMethod yX6_rewind ∈ zAll := zPr_10 35 rfl
theorem zc_yX6_rewind : Cond.code yX6_rewind cX6_rewind 1 none ∈ zAll := zPr_10 36 rfl
theorem zm_X8_79 : Cond.methodLink RX8 79 yX1_readFrom ∈ zAll := zPr_10 37 rfl
theorem zi_yX1_readFrom : Cond.instanceMethod yX1_readFrom ∈ zAll := zPr_10 38 rfl
theorem zc_yX1_readFrom : Cond.code yX1_readFrom cX1_readFrom 3 (some .boolean) ∈ zAll := zPr_10 39 rfl
theorem zm_X1_44 : Cond.methodLink RX1 44 yX1_clear ∈ zAll := zPr_11 0 rfl
theorem zi_yX1_clear : Cond.instanceMethod yX1_clear ∈ zAll := zPr_11 1 rfl
theorem zc_yX1_clear : Cond.code yX1_clear cX1_clear 1 none ∈ zAll := zPr_11 2 rfl
theorem zm_X1_21 : Cond.methodLink RX1 21 yJ7_fill_53178 ∈ zAll := zPr_11 3 rfl
theorem zm_X1_49 : Cond.methodLink RX1 49 yX6_takeWord ∈ zAll := zPr_11 4 rfl
theorem zi_yX6_takeWord : Cond.instanceMethod yX6_takeWord ∈ zAll := zPr_11 5 rfl
theorem zc_yX6_takeWord : Cond.code yX6_takeWord cX6_takeWord 5 (some .boolean) ∈ zAll := zPr_11 6 rfl
theorem zm_X6_25 : Cond.methodLink RX6 25 yX6_next ∈ zAll := zPr_11 7 rfl
theorem zi_yX6_next : Cond.instanceMethod yX6_next ∈ zAll := zPr_11 8 rfl
theorem zc_yX6_next : Cond.code yX6_next cX6_next 1 (some .int) ∈ zAll := zPr_11 9 rfl
theorem zm_X6_37 : Cond.methodLink RX6 37 yJ0_length_8abf5 ∈ zAll := zPr_11 10 rfl
theorem zi_yJ0_length_8abf5 : Cond.instanceMethod yJ0_length_8abf5 ∈ zAll := zPr_11 11 rfl
theorem zc_yJ0_length_8abf5 : Cond.code yJ0_length_8abf5 cJ0_length_8abf5 1 (some .int) ∈ zAll := zPr_11 12 rfl
theorem zm_J0_335 : Cond.methodLink RJ0 335 yJ0_coder_7d493 ∈ zAll := zPr_11 13 rfl
theorem zi_yJ0_coder_7d493 : Cond.instanceMethod yJ0_coder_7d493 ∈ zAll := zPr_11 14 rfl
theorem zc_yJ0_coder_7d493 : Cond.code yJ0_coder_7d493 cJ0_coder_7d493 1 (some .byte) ∈ zAll := zPr_11 15 rfl
theorem zm_X6_41 : Cond.methodLink RX6 41 yX6_isLetterAt ∈ zAll := zPr_11 16 rfl
theorem zi_yX6_isLetterAt : Cond.instanceMethod yX6_isLetterAt ∈ zAll := zPr_11 17 rfl
theorem zc_yX6_isLetterAt : Cond.code yX6_isLetterAt cX6_isLetterAt 2 (some .boolean) ∈ zAll := zPr_11 18 rfl
theorem zm_X6_44 : Cond.methodLink RX6 44 yJ0_charAt_5068e ∈ zAll := zPr_11 19 rfl
theorem zi_yJ0_charAt_5068e : Cond.instanceMethod yJ0_charAt_5068e ∈ zAll := zPr_11 20 rfl
theorem zc_yJ0_charAt_5068e : Cond.code yJ0_charAt_5068e cJ0_charAt_5068e 2 (some .char) ∈ zAll := zPr_11 21 rfl
theorem zm_J0_492 : Cond.methodLink RJ0 492 yJ0_isLatin1_aae02 ∈ zAll := zPr_11 22 rfl
theorem zi_yJ0_isLatin1_aae02 : Cond.instanceMethod yJ0_isLatin1_aae02 ∈ zAll := zPr_11 23 rfl
theorem zc_yJ0_isLatin1_aae02 : Cond.code yJ0_isLatin1_aae02 cJ0_isLatin1_aae02 1 (some .boolean) ∈ zAll := zPr_11 24 rfl
theorem zm_J0_495 : Cond.methodLink RJ0 495 yJ1_charAt_3b067 ∈ zAll := zPr_11 25 rfl
theorem zt_yJ1_charAt_3b067 : Cond.static yJ1_charAt_3b067 ∈ zAll := zPr_11 26 rfl
theorem zc_yJ1_charAt_3b067 : Cond.code yJ1_charAt_3b067 cJ1_charAt_3b067 2 (some .char) ∈ zAll := zPr_11 27 rfl
theorem zm_J1_9 : Cond.methodLink RJ1 9 yJ0_checkIndex_df160 ∈ zAll := zPr_11 28 rfl
theorem zt_yJ0_checkIndex_df160 : Cond.static yJ0_checkIndex_df160 ∈ zAll := zPr_11 29 rfl
theorem zc_yJ0_checkIndex_df160 : Cond.code yJ0_checkIndex_df160 cJ0_checkIndex_df160 2 none ∈ zAll := zPr_11 30 rfl
theorem zm_J0_1059 : Cond.methodLink RJ0 1059 yJ3_checkIndex_8e157 ∈ zAll := zPr_11 31 rfl
theorem zt_yJ3_checkIndex_8e157 : Cond.static yJ3_checkIndex_8e157 ∈ zAll := zPr_11 32 rfl
theorem zc_yJ3_checkIndex_8e157 : Cond.code yJ3_checkIndex_8e157 cJ3_checkIndex_8e157 3 (some .int) ∈ zAll := zPr_11 33 rfl
theorem zm_J0_498 : Cond.methodLink RJ0 498 yJ2_charAt_3b067 ∈ zAll := zPr_11 34 rfl
theorem zt_yJ2_charAt_3b067 : Cond.static yJ2_charAt_3b067 ∈ zAll := zPr_11 35 rfl
theorem zc_yJ2_charAt_3b067 : Cond.code yJ2_charAt_3b067 cJ2_charAt_3b067 2 (some .char) ∈ zAll := zPr_11 36 rfl
theorem zm_J2_67 : Cond.methodLink RJ2 67 yJ2_checkIndex_2214a ∈ zAll := zPr_11 37 rfl
theorem zt_yJ2_checkIndex_2214a : Cond.static yJ2_checkIndex_2214a ∈ zAll := zPr_11 38 rfl
theorem zc_yJ2_checkIndex_2214a : Cond.code yJ2_checkIndex_2214a cJ2_checkIndex_2214a 2 none ∈ zAll := zPr_11 39 rfl
theorem zm_J2_48 : Cond.methodLink RJ2 48 yJ2_length_9d52b ∈ zAll := zPr_12 0 rfl
theorem zt_yJ2_length_9d52b : Cond.static yJ2_length_9d52b ∈ zAll := zPr_12 1 rfl
theorem zc_yJ2_length_9d52b : Cond.code yJ2_length_9d52b cJ2_length_9d52b 1 (some .int) ∈ zAll := zPr_12 2 rfl
theorem zm_J2_414 : Cond.methodLink RJ2 414 yJ0_checkIndex_df160 ∈ zAll := zPr_12 3 rfl
theorem zm_J2_71 : Cond.methodLink RJ2 71 yJ2_getChar_3b067 ∈ zAll := zPr_12 4 rfl
theorem zt_yJ2_getChar_3b067 : Cond.static yJ2_getChar_3b067 ∈ zAll := zPr_12 5 rfl
theorem zc_yJ2_getChar_3b067 : Cond.code yJ2_getChar_3b067 cJ2_getChar_3b067 2 (some .char) ∈ zAll := zPr_12 6 rfl
theorem zm_X1_55 : Cond.methodLink RX1 55 yX6_refuseNext ∈ zAll := zPr_12 7 rfl
theorem zi_yX6_refuseNext : Cond.instanceMethod yX6_refuseNext ∈ zAll := zPr_12 8 rfl
theorem zc_yX6_refuseNext : Cond.code yX6_refuseNext cX6_refuseNext 1 (some .boolean) ∈ zAll := zPr_12 9 rfl
theorem zm_X6_29 : Cond.methodLink RX6 29 yX6_refuse ∈ zAll := zPr_12 10 rfl
theorem zi_yX6_refuse : Cond.instanceMethod yX6_refuse ∈ zAll := zPr_12 11 rfl
theorem zc_yX6_refuse : Cond.code yX6_refuse cX6_refuse 2 (some .boolean) ∈ zAll := zPr_12 12 rfl
theorem zm_X1_59 : Cond.methodLink RX1 59 yX1_readTerms ∈ zAll := zPr_12 13 rfl
theorem zi_yX1_readTerms : Cond.instanceMethod yX1_readTerms ∈ zAll := zPr_12 14 rfl
theorem zc_yX1_readTerms : Cond.code yX1_readTerms cX1_readTerms 3 (some .boolean) ∈ zAll := zPr_12 15 rfl
theorem zm_X1_72 : Cond.methodLink RX1 72 yX1_termWord ∈ zAll := zPr_12 16 rfl
theorem zt_yX1_termWord : Cond.static yX1_termWord ∈ zAll := zPr_12 17 rfl
theorem zc_yX1_termWord : Cond.code yX1_termWord cX1_termWord 1 (some (.object "java/lang/String")) ∈ zAll := zPr_12 18 rfl
theorem zm_X1_79 : Cond.methodLink RX1 79 yX6_takeNumber ∈ zAll := zPr_12 19 rfl
theorem zi_yX6_takeNumber : Cond.instanceMethod yX6_takeNumber ∈ zAll := zPr_12 20 rfl
theorem zc_yX6_takeNumber : Cond.code yX6_takeNumber cX6_takeNumber 6 (some .int) ∈ zAll := zPr_12 21 rfl
theorem zm_X6_48 : Cond.methodLink RX6 48 yX6_isDigit ∈ zAll := zPr_12 22 rfl
theorem zt_yX6_isDigit : Cond.static yX6_isDigit ∈ zAll := zPr_12 23 rfl
theorem zc_yX6_isDigit : Cond.code yX6_isDigit cX6_isDigit 1 (some .boolean) ∈ zAll := zPr_12 24 rfl
theorem zm_X1_83 : Cond.methodLink RX1 83 yX6_isRight ∈ zAll := zPr_12 25 rfl
theorem zi_yX6_isRight : Cond.instanceMethod yX6_isRight ∈ zAll := zPr_12 26 rfl
theorem zc_yX6_isRight : Cond.code yX6_isRight cX6_isRight 1 (some .boolean) ∈ zAll := zPr_12 27 rfl
theorem zm_X1_63 : Cond.methodLink RX1 63 yX6_isThrough ∈ zAll := zPr_12 28 rfl
theorem zi_yX6_isThrough : Cond.instanceMethod yX6_isThrough ∈ zAll := zPr_12 29 rfl
theorem zc_yX6_isThrough : Cond.code yX6_isThrough cX6_isThrough 1 (some .boolean) ∈ zAll := zPr_12 30 rfl
theorem zm_X1_66 : Cond.methodLink RX1 66 yX6_takeSemicolon ∈ zAll := zPr_12 31 rfl
theorem zi_yX6_takeSemicolon : Cond.instanceMethod yX6_takeSemicolon ∈ zAll := zPr_12 32 rfl
theorem zc_yX6_takeSemicolon : Cond.code yX6_takeSemicolon cX6_takeSemicolon 1 (some .boolean) ∈ zAll := zPr_12 33 rfl
theorem zm_X6_33 : Cond.methodLink RX6 33 yX6_isThrough ∈ zAll := zPr_12 34 rfl
theorem zm_X1_69 : Cond.methodLink RX1 69 yX1_readLine ∈ zAll := zPr_12 35 rfl
theorem zi_yX1_readLine : Cond.instanceMethod yX1_readLine ∈ zAll := zPr_12 36 rfl
theorem zc_yX1_readLine : Cond.code yX1_readLine cX1_readLine 3 (some .boolean) ∈ zAll := zPr_12 37 rfl
theorem zm_X1_100 : Cond.methodLink RX1 100 yX6_next ∈ zAll := zPr_12 38 rfl
theorem zm_X1_106 : Cond.methodLink RX1 106 yX6_refuse ∈ zAll := zPr_12 39 rfl
theorem zm_X1_114 : Cond.methodLink RX1 114 yX1_readExcuse ∈ zAll := zPr_13 0 rfl
theorem zi_yX1_readExcuse : Cond.instanceMethod yX1_readExcuse ∈ zAll := zPr_13 1 rfl
theorem zc_yX1_readExcuse : Cond.code yX1_readExcuse cX1_readExcuse 6 (some .boolean) ∈ zAll := zPr_13 2 rfl
theorem zm_L_153 : Cond.methodLink RL 153 yL_acts ∈ zAll := zPr_13 3 rfl
theorem zt_yL_acts : Cond.static yL_acts ∈ zAll := zPr_13 4 rfl
theorem zc_yL_acts : Cond.codeWith yL_acts cL_acts 3 (some .int) [(0, 8, 11, 13)] ∈ zAll := zPr_13 5 rfl
theorem zm_L_15 : Cond.methodLink RL 15 yX8_acts ∈ zAll := zPr_13 6 rfl
theorem zi_yX8_acts : Cond.instanceMethod yX8_acts ∈ zAll := zPr_13 7 rfl
theorem zc_yX8_acts : Cond.code yX8_acts cX8_acts 3 (some .int) ∈ zAll := zPr_13 8 rfl
theorem zm_X8_99 : Cond.methodLink RX8 99 yX8_readActs ∈ zAll := zPr_13 9 rfl
theorem zi_yX8_readActs : Cond.instanceMethod yX8_readActs ∈ zAll := zPr_13 10 rfl
theorem zc_yX8_readActs : Cond.code yX8_readActs cX8_readActs 2 (some .boolean) ∈ zAll := zPr_13 11 rfl
theorem zm_X8_348 : Cond.methodLink RX8 348 yX6_isThrough ∈ zAll := zPr_13 12 rfl
theorem zm_X8_351 : Cond.methodLink RX8 351 yX8_readAct ∈ zAll := zPr_13 13 rfl
theorem zi_yX8_readAct : Cond.instanceMethod yX8_readAct ∈ zAll := zPr_13 14 rfl
theorem zc_yX8_readAct : Cond.code yX8_readAct cX8_readAct 7 (some .boolean) ∈ zAll := zPr_13 15 rfl
theorem zm_X8_360 : Cond.methodLink RX8 360 yX6_next ∈ zAll := zPr_13 16 rfl
theorem zm_X8_363 : Cond.methodLink RX8 363 yX6_takeKind ∈ zAll := zPr_13 17 rfl
theorem zi_yX6_takeKind : Cond.instanceMethod yX6_takeKind ∈ zAll := zPr_13 18 rfl
theorem zc_yX6_takeKind : Cond.code yX6_takeKind cX6_takeKind 1 (some .int) ∈ zAll := zPr_13 19 rfl
theorem zm_X6_57 : Cond.methodLink RX6 57 yX6_takeWord ∈ zAll := zPr_13 20 rfl
theorem zm_X8_366 : Cond.methodLink RX8 366 yX6_refuse ∈ zAll := zPr_13 21 rfl
theorem zm_X8_369 : Cond.methodLink RX8 369 yX6_takeNumber ∈ zAll := zPr_13 22 rfl
theorem zm_X8_372 : Cond.methodLink RX8 372 yX6_isRight ∈ zAll := zPr_13 23 rfl
theorem zm_X8_375 : Cond.methodLink RX8 375 yX6_takeNumberUnlike ∈ zAll := zPr_13 24 rfl
theorem zi_yX6_takeNumberUnlike : Cond.instanceMethod yX6_takeNumberUnlike ∈ zAll := zPr_13 25 rfl
theorem zc_yX6_takeNumberUnlike : Cond.code yX6_takeNumberUnlike cX6_takeNumberUnlike 5 (some .int) ∈ zAll := zPr_13 26 rfl
theorem zm_X6_51 : Cond.methodLink RX6 51 yX6_takeNumber ∈ zAll := zPr_13 27 rfl
theorem zm_X8_380 : Cond.methodLink RX8 380 yX6_takeWord ∈ zAll := zPr_13 28 rfl
theorem zm_X8_313 : Cond.methodLink RX8 313 yX5_canBe ∈ zAll := zPr_13 29 rfl
theorem zm_X8_320 : Cond.methodLink RX8 320 yX8_doAndWrite ∈ zAll := zPr_13 30 rfl
theorem zi_yX8_doAndWrite : Cond.instanceMethod yX8_doAndWrite ∈ zAll := zPr_13 31 rfl
theorem zc_yX8_doAndWrite : Cond.code yX8_doAndWrite cX8_doAndWrite 8 (some .long) ∈ zAll := zPr_13 32 rfl
theorem zm_X8_323 : Cond.methodLink RX8 323 yX5_perform ∈ zAll := zPr_13 33 rfl
theorem zm_X8_326 : Cond.methodLink RX8 326 yX2_write ∈ zAll := zPr_13 34 rfl
theorem zi_yX2_write : Cond.instanceMethod yX2_write ∈ zAll := zPr_13 35 rfl
theorem zc_yX2_write : Cond.code yX2_write cX2_write 7 none ∈ zAll := zPr_13 36 rfl
theorem zm_X8_336 : Cond.methodLink RX8 336 yX2_writeComing ∈ zAll := zPr_13 37 rfl
theorem zi_yX2_writeComing : Cond.instanceMethod yX2_writeComing ∈ zAll := zPr_13 38 rfl
theorem zc_yX2_writeComing : Cond.code yX2_writeComing cX2_writeComing 4 none ∈ zAll := zPr_13 39 rfl
theorem zm_X8_354 : Cond.methodLink RX8 354 yX6_takeSemicolon ∈ zAll := zPr_14 0 rfl
theorem zm_X8_357 : Cond.methodLink RX8 357 yX6_refuseNext ∈ zAll := zPr_14 1 rfl
theorem zm_L_160 : Cond.methodLink RL 160 yL_term ∈ zAll := zPr_14 2 rfl
theorem zt_yL_term : Cond.static yL_term ∈ zAll := zPr_14 3 rfl
theorem zc_yL_term : Cond.codeWith yL_term cL_term 4 (some .int) [(0, 9, 12, 22)] ∈ zAll := zPr_14 4 rfl
theorem zm_L_18 : Cond.methodLink RL 18 yX8_term ∈ zAll := zPr_14 5 rfl
theorem zi_yX8_term : Cond.instanceMethod yX8_term ∈ zAll := zPr_14 6 rfl
theorem zc_yX8_term : Cond.code yX8_term cX8_term 2 (some .int) ∈ zAll := zPr_14 7 rfl
theorem zm_L_164 : Cond.methodLink RL 164 yL_investor ∈ zAll := zPr_14 8 rfl
theorem zt_yL_investor : Cond.static yL_investor ∈ zAll := zPr_14 9 rfl
theorem zc_yL_investor : Cond.codeWith yL_investor cL_investor 5 (some .int) [(0, 9, 12, 28), (0, 9, 16, 22)] ∈ zAll := zPr_14 10 rfl
theorem zm_L_24 : Cond.methodLink RL 24 yX8_investor ∈ zAll := zPr_14 11 rfl
theorem zi_yX8_investor : Cond.instanceMethod yX8_investor ∈ zAll := zPr_14 12 rfl
theorem zc_yX8_investor : Cond.code yX8_investor cX8_investor 3 (some .long) ∈ zAll := zPr_14 13 rfl
theorem zm_X8_113 : Cond.methodLink RX8 113 yX8_isInvestor ∈ zAll := zPr_14 14 rfl
theorem zi_yX8_isInvestor : Cond.instanceMethod yX8_isInvestor ∈ zAll := zPr_14 15 rfl
theorem zc_yX8_isInvestor : Cond.code yX8_isInvestor cX8_isInvestor 2 (some .boolean) ∈ zAll := zPr_14 16 rfl
theorem zm_X8_139 : Cond.methodLink RX8 139 yX4_weightOf ∈ zAll := zPr_14 17 rfl
theorem zm_X8_143 : Cond.methodLink RX8 143 yX4_hasFailed ∈ zAll := zPr_14 18 rfl
theorem zm_L_168 : Cond.methodLink RL 168 yL_deal ∈ zAll := zPr_14 19 rfl
theorem zt_yL_deal : Cond.static yL_deal ∈ zAll := zPr_14 20 rfl
theorem zc_yL_deal : Cond.codeWith yL_deal cL_deal 5 (some .int) [(0, 10, 13, 28), (0, 10, 17, 22)] ∈ zAll := zPr_14 21 rfl
theorem zm_L_30 : Cond.methodLink RL 30 yX8_deal ∈ zAll := zPr_14 22 rfl
theorem zi_yX8_deal : Cond.instanceMethod yX8_deal ∈ zAll := zPr_14 23 rfl
theorem zc_yX8_deal : Cond.code yX8_deal cX8_deal 3 (some .int) ∈ zAll := zPr_14 24 rfl
theorem zm_X8_146 : Cond.methodLink RX8 146 yX8_isDeal ∈ zAll := zPr_14 25 rfl
theorem zi_yX8_isDeal : Cond.instanceMethod yX8_isDeal ∈ zAll := zPr_14 26 rfl
theorem zc_yX8_isDeal : Cond.code yX8_isDeal cX8_isDeal 2 (some .boolean) ∈ zAll := zPr_14 27 rfl
theorem zm_L_171 : Cond.methodLink RL 171 yL_ladder ∈ zAll := zPr_14 28 rfl
theorem zt_yL_ladder : Cond.static yL_ladder ∈ zAll := zPr_14 29 rfl
theorem zc_yL_ladder : Cond.codeWith yL_ladder cL_ladder 5 (some .int) [(0, 9, 12, 28), (0, 9, 16, 22)] ∈ zAll := zPr_14 30 rfl
theorem zm_L_34 : Cond.methodLink RL 34 yX8_ladder ∈ zAll := zPr_14 31 rfl
theorem zi_yX8_ladder : Cond.instanceMethod yX8_ladder ∈ zAll := zPr_14 32 rfl
theorem zc_yX8_ladder : Cond.code yX8_ladder cX8_ladder 4 (some .long) ∈ zAll := zPr_14 33 rfl
theorem zm_L_174 : Cond.methodLink RL 174 yL_manager ∈ zAll := zPr_14 34 rfl
theorem zt_yL_manager : Cond.static yL_manager ∈ zAll := zPr_14 35 rfl
theorem zc_yL_manager : Cond.codeWith yL_manager cL_manager 4 (some .int) [(0, 8, 11, 22)] ∈ zAll := zPr_14 36 rfl
theorem zm_L_37 : Cond.methodLink RL 37 yX8_manager ∈ zAll := zPr_14 37 rfl
theorem zi_yX8_manager : Cond.instanceMethod yX8_manager ∈ zAll := zPr_14 38 rfl
theorem zc_yX8_manager : Cond.code yX8_manager cX8_manager 2 (some .long) ∈ zAll := zPr_14 39 rfl
theorem zm_L_177 : Cond.methodLink RL 177 yL_call ∈ zAll := zPr_15 0 rfl
theorem zt_yL_call : Cond.static yL_call ∈ zAll := zPr_15 1 rfl
theorem zc_yL_call : Cond.codeWith yL_call cL_call 5 (some .int) [(0, 10, 13, 28), (0, 10, 17, 13), (0, 10, 21, 44), (0, 10, 25, 46)] ∈ zAll := zPr_15 2 rfl
theorem zm_L_41 : Cond.methodLink RL 41 yX8_call ∈ zAll := zPr_15 3 rfl
theorem zi_yX8_call : Cond.instanceMethod yX8_call ∈ zAll := zPr_15 4 rfl
theorem zc_yX8_call : Cond.code yX8_call cX8_call 3 (some .int) ∈ zAll := zPr_15 5 rfl
theorem zm_X8_164 : Cond.methodLink RX8 164 yX8_done ∈ zAll := zPr_15 6 rfl
theorem zi_yX8_done : Cond.instanceMethod yX8_done ∈ zAll := zPr_15 7 rfl
theorem zc_yX8_done : Cond.code yX8_done cX8_done 5 (some .long) ∈ zAll := zPr_15 8 rfl
theorem zm_L_180 : Cond.methodLink RL 180 yL_sell ∈ zAll := zPr_15 9 rfl
theorem zt_yL_sell : Cond.static yL_sell ∈ zAll := zPr_15 10 rfl
theorem zc_yL_sell : Cond.codeWith yL_sell cL_sell 6 (some .int) [(0, 12, 15, 28), (0, 12, 19, 13), (0, 12, 23, 44), (0, 12, 27, 46)] ∈ zAll := zPr_15 11 rfl
theorem zm_L_48 : Cond.methodLink RL 48 yX8_sell ∈ zAll := zPr_15 12 rfl
theorem zi_yX8_sell : Cond.instanceMethod yX8_sell ∈ zAll := zPr_15 13 rfl
theorem zc_yX8_sell : Cond.code yX8_sell cX8_sell 4 (some .int) ∈ zAll := zPr_15 14 rfl
theorem zm_L_184 : Cond.methodLink RL 184 yL_mark ∈ zAll := zPr_15 15 rfl
theorem zt_yL_mark : Cond.static yL_mark ∈ zAll := zPr_15 16 rfl
theorem zc_yL_mark : Cond.codeWith yL_mark cL_mark 5 (some .int) [(0, 10, 13, 28), (0, 10, 17, 13), (0, 10, 21, 44), (0, 10, 25, 46)] ∈ zAll := zPr_15 17 rfl
theorem zm_L_52 : Cond.methodLink RL 52 yX8_mark ∈ zAll := zPr_15 18 rfl
theorem zi_yX8_mark : Cond.instanceMethod yX8_mark ∈ zAll := zPr_15 19 rfl
theorem zc_yX8_mark : Cond.code yX8_mark cX8_mark 3 (some .int) ∈ zAll := zPr_15 20 rfl
theorem zm_L_187 : Cond.methodLink RL 187 yL_quarters ∈ zAll := zPr_15 21 rfl
theorem zt_yL_quarters : Cond.static yL_quarters ∈ zAll := zPr_15 22 rfl
theorem zc_yL_quarters : Cond.codeWith yL_quarters cL_quarters 4 (some .int) [(0, 9, 12, 13), (0, 9, 15, 44), (0, 9, 18, 46)] ∈ zAll := zPr_15 23 rfl
theorem zm_L_55 : Cond.methodLink RL 55 yX8_quarters ∈ zAll := zPr_15 24 rfl
theorem zi_yX8_quarters : Cond.instanceMethod yX8_quarters ∈ zAll := zPr_15 25 rfl
theorem zc_yX8_quarters : Cond.code yX8_quarters cX8_quarters 2 (some .int) ∈ zAll := zPr_15 26 rfl
theorem zm_L_190 : Cond.methodLink RL 190 yL_fail ∈ zAll := zPr_15 27 rfl
theorem zt_yL_fail : Cond.static yL_fail ∈ zAll := zPr_15 28 rfl
theorem zc_yL_fail : Cond.codeWith yL_fail cL_fail 4 (some .int) [(0, 9, 12, 28), (0, 9, 15, 44), (0, 9, 18, 46)] ∈ zAll := zPr_15 29 rfl
theorem zm_L_58 : Cond.methodLink RL 58 yX8_fail ∈ zAll := zPr_15 30 rfl
theorem zi_yX8_fail : Cond.instanceMethod yX8_fail ∈ zAll := zPr_15 31 rfl
theorem zc_yX8_fail : Cond.code yX8_fail cX8_fail 2 (some .int) ∈ zAll := zPr_15 32 rfl
theorem zm_L_193 : Cond.methodLink RL 193 yL_move ∈ zAll := zPr_15 33 rfl
theorem zt_yL_move : Cond.static yL_move ∈ zAll := zPr_15 34 rfl
theorem zc_yL_move : Cond.codeWith yL_move cL_move 6 (some .int) [(0, 12, 15, 28), (0, 12, 19, 13), (0, 12, 23, 44), (0, 12, 27, 46)] ∈ zAll := zPr_15 35 rfl
theorem zm_L_61 : Cond.methodLink RL 61 yX8_move ∈ zAll := zPr_15 36 rfl
theorem zi_yX8_move : Cond.instanceMethod yX8_move ∈ zAll := zPr_15 37 rfl
theorem zc_yX8_move : Cond.code yX8_move cX8_move 4 (some .int) ∈ zAll := zPr_15 38 rfl
theorem zm_L_197 : Cond.methodLink RL 197 yL_close ∈ zAll := zPr_15 39 rfl
theorem zt_yL_close : Cond.static yL_close ∈ zAll := zPr_16 0 rfl
theorem zc_yL_close : Cond.codeWith yL_close cL_close 3 (some .int) [(0, 7, 10, 44), (0, 7, 13, 46)] ∈ zAll := zPr_16 1 rfl
theorem zm_L_65 : Cond.methodLink RL 65 yX8_close ∈ zAll := zPr_16 2 rfl
theorem zi_yX8_close : Cond.instanceMethod yX8_close ∈ zAll := zPr_16 3 rfl
theorem zc_yX8_close : Cond.code yX8_close cX8_close 1 (some .long) ∈ zAll := zPr_16 4 rfl
theorem zm_L_200 : Cond.methodLink RL 200 yL_undo ∈ zAll := zPr_16 5 rfl
theorem zt_yL_undo : Cond.static yL_undo ∈ zAll := zPr_16 6 rfl
theorem zc_yL_undo : Cond.codeWith yL_undo cL_undo 3 (some .int) [(0, 8, 11, 44)] ∈ zAll := zPr_16 7 rfl
theorem zm_L_69 : Cond.methodLink RL 69 yX8_undo ∈ zAll := zPr_16 8 rfl
theorem zi_yX8_undo : Cond.instanceMethod yX8_undo ∈ zAll := zPr_16 9 rfl
theorem zc_yX8_undo : Cond.code yX8_undo cX8_undo 1 (some .int) ∈ zAll := zPr_16 10 rfl
theorem zm_L_203 : Cond.methodLink RL 203 yL_filling ∈ zAll := zPr_16 11 rfl
theorem zt_yL_filling : Cond.static yL_filling ∈ zAll := zPr_16 12 rfl
theorem zc_yL_filling : Cond.codeWith yL_filling cL_filling 6 (some .int) [(0, 11, 14, 28), (0, 11, 18, 13), (0, 11, 22, 22)] ∈ zAll := zPr_16 13 rfl
theorem zm_L_72 : Cond.methodLink RL 72 yX8_filling ∈ zAll := zPr_16 14 rfl
theorem zi_yX8_filling : Cond.instanceMethod yX8_filling ∈ zAll := zPr_16 15 rfl
theorem zc_yX8_filling : Cond.code yX8_filling cX8_filling 4 (some .long) ∈ zAll := zPr_16 16 rfl
theorem zm_X8_171 : Cond.methodLink RX8 171 yX8_isDealOrNone ∈ zAll := zPr_16 17 rfl
theorem zi_yX8_isDealOrNone : Cond.instanceMethod yX8_isDealOrNone ∈ zAll := zPr_16 18 rfl
theorem zc_yX8_isDealOrNone : Cond.code yX8_isDealOrNone cX8_isDealOrNone 2 (some .boolean) ∈ zAll := zPr_16 19 rfl
theorem zk_X8_174 : Cond.constant RX8 174 (Int32.ofInt (99999)) ∈ zAll := zPr_16 20 rfl
theorem zm_X8_175 : Cond.methodLink RX8 175 yX8_measureAt ∈ zAll := zPr_16 21 rfl
theorem zi_yX8_measureAt : Cond.instanceMethod yX8_measureAt ∈ zAll := zPr_16 22 rfl
theorem zc_yX8_measureAt : Cond.code yX8_measureAt cX8_measureAt 4 none ∈ zAll := zPr_16 23 rfl
theorem zm_X8_269 : Cond.methodLink RX8 269 yX0_isDealwise ∈ zAll := zPr_16 24 rfl
theorem zm_X8_309 : Cond.methodLink RX8 309 yX0_measure ∈ zAll := zPr_16 25 rfl
theorem zm_L_206 : Cond.methodLink RL 206 yL_needed ∈ zAll := zPr_16 26 rfl
theorem zt_yL_needed : Cond.static yL_needed ∈ zAll := zPr_16 27 rfl
theorem zc_yL_needed : Cond.codeWith yL_needed cL_needed 5 (some .int) [(0, 10, 13, 28), (0, 10, 17, 22)] ∈ zAll := zPr_16 28 rfl
theorem zm_L_76 : Cond.methodLink RL 76 yX8_needed ∈ zAll := zPr_16 29 rfl
theorem zi_yX8_needed : Cond.instanceMethod yX8_needed ∈ zAll := zPr_16 30 rfl
theorem zc_yX8_needed : Cond.code yX8_needed cX8_needed 7 (some .int) ∈ zAll := zPr_16 31 rfl
theorem zm_L_209 : Cond.methodLink RL 209 yL_reaches ∈ zAll := zPr_16 32 rfl
theorem zt_yL_reaches : Cond.static yL_reaches ∈ zAll := zPr_16 33 rfl
theorem zc_yL_reaches : Cond.codeWith yL_reaches cL_reaches 5 (some .int) [(0, 10, 13, 28), (0, 10, 17, 13)] ∈ zAll := zPr_16 34 rfl
theorem zm_L_79 : Cond.methodLink RL 79 yX8_reaches ∈ zAll := zPr_16 35 rfl
theorem zi_yX8_reaches : Cond.instanceMethod yX8_reaches ∈ zAll := zPr_16 36 rfl
theorem zc_yX8_reaches : Cond.code yX8_reaches cX8_reaches 7 (some .int) ∈ zAll := zPr_16 37 rfl
theorem zk_X8_182 : Cond.constant RX8 182 (Int32.ofInt (100000)) ∈ zAll := zPr_16 38 rfl
theorem zm_L_212 : Cond.methodLink RL 212 yL_share ∈ zAll := zPr_16 39 rfl
theorem zt_yL_share : Cond.static yL_share ∈ zAll := zPr_17 0 rfl
theorem zc_yL_share : Cond.codeWith yL_share cL_share 6 (some .int) [(0, 12, 15, 28), (0, 12, 19, 13)] ∈ zAll := zPr_17 1 rfl
theorem zm_L_82 : Cond.methodLink RL 82 yX8_share ∈ zAll := zPr_17 2 rfl
theorem zi_yX8_share : Cond.instanceMethod yX8_share ∈ zAll := zPr_17 3 rfl
theorem zc_yX8_share : Cond.code yX8_share cX8_share 4 (some .int) ∈ zAll := zPr_17 4 rfl
theorem zm_X8_183 : Cond.methodLink RX8 183 yX4_weighFor ∈ zAll := zPr_17 5 rfl
theorem zm_X8_186 : Cond.methodLink RX8 186 yX4_split ∈ zAll := zPr_17 6 rfl
theorem zm_L_219 : Cond.methodLink RL 219 yL_soldOut ∈ zAll := zPr_17 7 rfl
theorem zt_yL_soldOut : Cond.static yL_soldOut ∈ zAll := zPr_17 8 rfl
theorem zc_yL_soldOut : Cond.codeWith yL_soldOut cL_soldOut 4 (some .int) [(0, 8, 11, 22)] ∈ zAll := zPr_17 9 rfl
theorem zm_L_85 : Cond.methodLink RL 85 yX8_soldOut ∈ zAll := zPr_17 10 rfl
theorem zi_yX8_soldOut : Cond.instanceMethod yX8_soldOut ∈ zAll := zPr_17 11 rfl
theorem zc_yX8_soldOut : Cond.code yX8_soldOut cX8_soldOut 4 (some .long) ∈ zAll := zPr_17 12 rfl
theorem zm_X8_197 : Cond.methodLink RX8 197 yX0_copyFrom ∈ zAll := zPr_17 13 rfl
theorem zm_X8_200 : Cond.methodLink RX8 200 yX0_sellAll ∈ zAll := zPr_17 14 rfl
theorem zi_yX0_sellAll : Cond.instanceMethod yX0_sellAll ∈ zAll := zPr_17 15 rfl
theorem zc_yX0_sellAll : Cond.code yX0_sellAll cX0_sellAll 4 (some .long) ∈ zAll := zPr_17 16 rfl
theorem zm_L_226 : Cond.methodLink RL 226 yL_would ∈ zAll := zPr_17 17 rfl
theorem zt_yL_would : Cond.static yL_would ∈ zAll := zPr_17 18 rfl
theorem zc_yL_would : Cond.codeWith yL_would cL_would 5 (some .int) [(0, 9, 12, 22), (0, 9, 16, 13)] ∈ zAll := zPr_17 19 rfl
theorem zm_L_88 : Cond.methodLink RL 88 yX8_would ∈ zAll := zPr_17 20 rfl
theorem zi_yX8_would : Cond.instanceMethod yX8_would ∈ zAll := zPr_17 21 rfl
theorem zc_yX8_would : Cond.code yX8_would cX8_would 3 (some .long) ∈ zAll := zPr_17 22 rfl
theorem zm_L_229 : Cond.methodLink RL 229 yL_bar ∈ zAll := zPr_17 23 rfl
theorem zt_yL_bar : Cond.static yL_bar ∈ zAll := zPr_17 24 rfl
theorem zc_yL_bar : Cond.codeWith yL_bar cL_bar 4 (some .int) [(0, 9, 12, 13)] ∈ zAll := zPr_17 25 rfl
theorem zm_L_91 : Cond.methodLink RL 91 yX8_bar ∈ zAll := zPr_17 26 rfl
theorem zi_yX8_bar : Cond.instanceMethod yX8_bar ∈ zAll := zPr_17 27 rfl
theorem zc_yX8_bar : Cond.code yX8_bar cX8_bar 3 (some .int) ∈ zAll := zPr_17 28 rfl
theorem zm_L_232 : Cond.methodLink RL 232 yL_drift ∈ zAll := zPr_17 29 rfl
theorem zt_yL_drift : Cond.static yL_drift ∈ zAll := zPr_17 30 rfl
theorem zc_yL_drift : Cond.codeWith yL_drift cL_drift 4 (some .int) [(0, 8, 11, 28)] ∈ zAll := zPr_17 31 rfl
theorem zm_L_94 : Cond.methodLink RL 94 yX8_drift ∈ zAll := zPr_17 32 rfl
theorem zi_yX8_drift : Cond.instanceMethod yX8_drift ∈ zAll := zPr_17 33 rfl
theorem zc_yX8_drift : Cond.code yX8_drift cX8_drift 2 (some .long) ∈ zAll := zPr_17 34 rfl
theorem zm_L_235 : Cond.methodLink RL 235 yL_swapped ∈ zAll := zPr_17 35 rfl
theorem zt_yL_swapped : Cond.static yL_swapped ∈ zAll := zPr_17 36 rfl
theorem zc_yL_swapped : Cond.codeWith yL_swapped cL_swapped 4 (some .int) [(0, 8, 11, 28)] ∈ zAll := zPr_17 37 rfl
theorem zm_L_97 : Cond.methodLink RL 97 yX8_swapped ∈ zAll := zPr_17 38 rfl
theorem zi_yX8_swapped : Cond.instanceMethod yX8_swapped ∈ zAll := zPr_17 39 rfl
theorem zc_yX8_swapped : Cond.code yX8_swapped cX8_swapped 4 (some .long) ∈ zAll := zPr_18 0 rfl
theorem zm_L_238 : Cond.methodLink RL 238 yL_without ∈ zAll := zPr_18 1 rfl
theorem zt_yL_without : Cond.static yL_without ∈ zAll := zPr_18 2 rfl
theorem zc_yL_without : Cond.codeWith yL_without cL_without 4 (some .int) [(0, 8, 11, 28)] ∈ zAll := zPr_18 3 rfl
theorem zm_L_100 : Cond.methodLink RL 100 yX8_without ∈ zAll := zPr_18 4 rfl
theorem zi_yX8_without : Cond.instanceMethod yX8_without ∈ zAll := zPr_18 5 rfl
theorem zc_yX8_without : Cond.code yX8_without cX8_without 2 (some .long) ∈ zAll := zPr_18 6 rfl
theorem zm_L_241 : Cond.methodLink RL 241 yL_behind ∈ zAll := zPr_18 7 rfl
theorem zt_yL_behind : Cond.static yL_behind ∈ zAll := zPr_18 8 rfl
theorem zc_yL_behind : Cond.codeWith yL_behind cL_behind 5 (some .int) [(0, 9, 12, 28), (0, 9, 16, 22)] ∈ zAll := zPr_18 9 rfl
theorem zm_L_103 : Cond.methodLink RL 103 yX8_behind ∈ zAll := zPr_18 10 rfl
theorem zi_yX8_behind : Cond.instanceMethod yX8_behind ∈ zAll := zPr_18 11 rfl
theorem zc_yX8_behind : Cond.code yX8_behind cX8_behind 4 (some .long) ∈ zAll := zPr_18 12 rfl
theorem zm_X8_240 : Cond.methodLink RX8 240 yX4_allOf ∈ zAll := zPr_18 13 rfl
theorem zm_L_260 : Cond.methodLink RL 260 yL_owed ∈ zAll := zPr_18 14 rfl
theorem zt_yL_owed : Cond.static yL_owed ∈ zAll := zPr_18 15 rfl
theorem zc_yL_owed : Cond.codeWith yL_owed cL_owed 5 (some .int) [(0, 9, 12, 28), (0, 9, 16, 13)] ∈ zAll := zPr_18 16 rfl
theorem zm_L_106 : Cond.methodLink RL 106 yX8_owed ∈ zAll := zPr_18 17 rfl
theorem zi_yX8_owed : Cond.instanceMethod yX8_owed ∈ zAll := zPr_18 18 rfl
theorem zc_yX8_owed : Cond.code yX8_owed cX8_owed 8 (some .long) ∈ zAll := zPr_18 19 rfl
theorem zm_X8_260 : Cond.methodLink RX8 260 yX5_fullFee ∈ zAll := zPr_18 20 rfl
theorem zm_X8_263 : Cond.methodLink RX8 263 yJ9_min_f86c9 ∈ zAll := zPr_18 21 rfl
theorem zm_X8_266 : Cond.methodLink RX8 266 yX0_pass ∈ zAll := zPr_18 22 rfl
theorem zm_L_263 : Cond.methodLink RL 263 yL_patience ∈ zAll := zPr_18 23 rfl
theorem zt_yL_patience : Cond.static yL_patience ∈ zAll := zPr_18 24 rfl
theorem zc_yL_patience : Cond.codeWith yL_patience cL_patience 4 (some .int) [(0, 9, 12, 13)] ∈ zAll := zPr_18 25 rfl
theorem zm_L_109 : Cond.methodLink RL 109 yX8_patience ∈ zAll := zPr_18 26 rfl
theorem zi_yX8_patience : Cond.instanceMethod yX8_patience ∈ zAll := zPr_18 27 rfl
theorem zc_yX8_patience : Cond.code yX8_patience cX8_patience 9 (some .int) ∈ zAll := zPr_18 28 rfl
theorem zm_X8_272 : Cond.methodLink RX8 272 yJ9_min_7cf53 ∈ zAll := zPr_18 29 rfl
theorem zt_yJ9_min_7cf53 : Cond.static yJ9_min_7cf53 ∈ zAll := zPr_18 30 rfl
theorem zc_yJ9_min_7cf53 : Cond.code yJ9_min_7cf53 cJ9_min_7cf53 2 (some .int) ∈ zAll := zPr_18 31 rfl
theorem zm_L_266 : Cond.methodLink RL 266 yL_deals ∈ zAll := zPr_18 32 rfl
theorem zt_yL_deals : Cond.static yL_deals ∈ zAll := zPr_18 33 rfl
theorem zc_yL_deals : Cond.codeWith yL_deals cL_deals 4 (some .int) [(0, 9, 12, 22)] ∈ zAll := zPr_18 34 rfl
theorem zm_L_112 : Cond.methodLink RL 112 yX8_deals ∈ zAll := zPr_18 35 rfl
theorem zi_yX8_deals : Cond.instanceMethod yX8_deals ∈ zAll := zPr_18 36 rfl
theorem zc_yX8_deals : Cond.code yX8_deals cX8_deals 2 (some .int) ∈ zAll := zPr_18 37 rfl
theorem zm_X8_275 : Cond.methodLink RX8 275 yX0_extremeDeal ∈ zAll := zPr_18 38 rfl
theorem zi_yX0_extremeDeal : Cond.instanceMethod yX0_extremeDeal ∈ zAll := zPr_18 39 rfl
theorem zc_yX0_extremeDeal : Cond.code yX0_extremeDeal cX0_extremeDeal 6 (some .int) ∈ zAll := zPr_19 0 rfl
theorem zm_X8_278 : Cond.methodLink RX8 278 yX0_openDeals ∈ zAll := zPr_19 1 rfl
theorem zm_L_269 : Cond.methodLink RL 269 yL_curve ∈ zAll := zPr_19 2 rfl
theorem zt_yL_curve : Cond.static yL_curve ∈ zAll := zPr_19 3 rfl
theorem zc_yL_curve : Cond.codeWith yL_curve cL_curve 4 (some .int) [(0, 8, 11, 13)] ∈ zAll := zPr_19 4 rfl
theorem zm_L_115 : Cond.methodLink RL 115 yX8_curve ∈ zAll := zPr_19 5 rfl
theorem zi_yX8_curve : Cond.instanceMethod yX8_curve ∈ zAll := zPr_19 6 rfl
theorem zc_yX8_curve : Cond.code yX8_curve cX8_curve 5 (some .long) ∈ zAll := zPr_19 7 rfl
theorem zm_X8_286 : Cond.methodLink RX8 286 yX7_flow ∈ zAll := zPr_19 8 rfl
theorem zi_yX7_flow : Cond.instanceMethod yX7_flow ∈ zAll := zPr_19 9 rfl
theorem zc_yX7_flow : Cond.code yX7_flow cX7_flow 3 (some .long) ∈ zAll := zPr_19 10 rfl
theorem zm_L_272 : Cond.methodLink RL 272 yL_curves ∈ zAll := zPr_19 11 rfl
theorem zt_yL_curves : Cond.static yL_curves ∈ zAll := zPr_19 12 rfl
theorem zc_yL_curves : Cond.codeWith yL_curves cL_curves 4 (some .int) [(0, 9, 12, 22)] ∈ zAll := zPr_19 13 rfl
theorem zm_L_118 : Cond.methodLink RL 118 yX8_curves ∈ zAll := zPr_19 14 rfl
theorem zi_yX8_curves : Cond.instanceMethod yX8_curves ∈ zAll := zPr_19 15 rfl
theorem zc_yX8_curves : Cond.code yX8_curves cX8_curves 9 (some .int) ∈ zAll := zPr_19 16 rfl
theorem zm_L_275 : Cond.methodLink RL 275 yL_rate ∈ zAll := zPr_19 17 rfl
theorem zt_yL_rate : Cond.static yL_rate ∈ zAll := zPr_19 18 rfl
theorem zc_yL_rate : Cond.codeWith yL_rate cL_rate 4 (some .int) [(0, 9, 12, 28)] ∈ zAll := zPr_19 19 rfl
theorem zm_L_121 : Cond.methodLink RL 121 yX8_rate ∈ zAll := zPr_19 20 rfl
theorem zi_yX8_rate : Cond.instanceMethod yX8_rate ∈ zAll := zPr_19 21 rfl
theorem zc_yX8_rate : Cond.code yX8_rate cX8_rate 4 (some .int) ∈ zAll := zPr_19 22 rfl
theorem zm_X8_292 : Cond.methodLink RX8 292 yX7_worth ∈ zAll := zPr_19 23 rfl
theorem zi_yX7_worth : Cond.instanceMethod yX7_worth ∈ zAll := zPr_19 24 rfl
theorem zc_yX7_worth : Cond.code yX7_worth cX7_worth 9 (some .double) ∈ zAll := zPr_19 25 rfl
theorem zk_X7_24 : Cond.constantDouble RX7 24 4666723172467343360 ∈ zAll := zPr_19 26 rfl
theorem zm_L_278 : Cond.methodLink RL 278 yL_multiple ∈ zAll := zPr_19 27 rfl
theorem zt_yL_multiple : Cond.static yL_multiple ∈ zAll := zPr_19 28 rfl
theorem zc_yL_multiple : Cond.codeWith yL_multiple cL_multiple 4 (some .int) [(0, 9, 12, 28)] ∈ zAll := zPr_19 29 rfl
theorem zm_L_124 : Cond.methodLink RL 124 yX8_multiple ∈ zAll := zPr_19 30 rfl
theorem zi_yX8_multiple : Cond.instanceMethod yX8_multiple ∈ zAll := zPr_19 31 rfl
theorem zc_yX8_multiple : Cond.code yX8_multiple cX8_multiple 7 (some .int) ∈ zAll := zPr_19 32 rfl
theorem zk_X8_296 : Cond.constantFloat RX8 296 1148846080 ∈ zAll := zPr_19 33 rfl
theorem zm_L_281 : Cond.methodLink RL 281 yL_act ∈ zAll := zPr_19 34 rfl
theorem zt_yL_act : Cond.static yL_act ∈ zAll := zPr_19 35 rfl
theorem zc_yL_act : Cond.codeWith yL_act cL_act 5 (some .int) [(0, 10, 13, 28), (0, 10, 17, 22)] ∈ zAll := zPr_19 36 rfl
theorem zm_L_127 : Cond.methodLink RL 127 yX8_act ∈ zAll := zPr_19 37 rfl
theorem zi_yX8_act : Cond.instanceMethod yX8_act ∈ zAll := zPr_19 38 rfl
theorem zc_yX8_act : Cond.code yX8_act cX8_act 3 (some .int) ∈ zAll := zPr_19 39 rfl
theorem zm_L_133 : Cond.methodLink RL 133 yX9_init ∈ zAll := zPr_20 0 rfl
theorem zi_yX9_init : Cond.instanceMethod yX9_init ∈ zAll := zPr_20 1 rfl
theorem zc_yX9_init : Cond.code yX9_init cX9_init 1 none ∈ zAll := zPr_20 2 rfl
theorem zm_X9_90 : Cond.methodLink RX9 90 yX9_anew ∈ zAll := zPr_20 3 rfl
theorem zi_yX9_anew : Cond.instanceMethod yX9_anew ∈ zAll := zPr_20 4 rfl
theorem zc_yX9_anew : Cond.code yX9_anew cX9_anew 2 none ∈ zAll := zPr_20 5 rfl
theorem zm_X9_110 : Cond.methodLink RX9 110 yX9_placeOf ∈ zAll := zPr_20 6 rfl
theorem zt_yX9_placeOf : Cond.static yX9_placeOf ∈ zAll := zPr_20 7 rfl
theorem zc_yX9_placeOf : Cond.code yX9_placeOf cX9_placeOf 2 (some .int) ∈ zAll := zPr_20 8 rfl
theorem zm_L_150 : Cond.methodLink RL 150 yX9_thrown ∈ zAll := zPr_20 9 rfl
theorem zi_yX9_thrown : Cond.instanceMethod yX9_thrown ∈ zAll := zPr_20 10 rfl
theorem zc_yX9_thrown : Cond.code yX9_thrown cX9_thrown 1 (some .int) ∈ zAll := zPr_20 11 rfl
theorem zm_L_138 : Cond.methodLink RL 138 yX9_feed ∈ zAll := zPr_20 12 rfl
theorem zi_yX9_feed : Cond.instanceMethod yX9_feed ∈ zAll := zPr_20 13 rfl
theorem zc_yX9_feed : Cond.code yX9_feed cX9_feed 8 (some .int) ∈ zAll := zPr_20 14 rfl
theorem zm_L_143 : Cond.methodLink RL 143 yX9_end ∈ zAll := zPr_20 15 rfl
theorem zi_yX9_end : Cond.instanceMethod yX9_end ∈ zAll := zPr_20 16 rfl
theorem zc_yX9_end : Cond.code yX9_end cX9_end 2 (some .boolean) ∈ zAll := zPr_20 17 rfl
theorem zm_X9_99 : Cond.methodLink RX9 99 yX9_isIn ∈ zAll := zPr_20 18 rfl
theorem zt_yX9_isIn : Cond.static yX9_isIn ∈ zAll := zPr_20 19 rfl
theorem zc_yX9_isIn : Cond.code yX9_isIn cX9_isIn 6 (some .boolean) ∈ zAll := zPr_20 20 rfl
theorem zm_L_149 : Cond.methodLink RL 149 yX9_fund ∈ zAll := zPr_20 21 rfl
theorem zi_yX9_fund : Cond.instanceMethod yX9_fund ∈ zAll := zPr_20 22 rfl
theorem zc_yX9_fund : Cond.code yX9_fund cX9_fund 3 (some .int) ∈ zAll := zPr_20 23 rfl
theorem zm_X9_314 : Cond.methodLink RX9 314 yX9_begins ∈ zAll := zPr_20 24 rfl
theorem zi_yX9_begins : Cond.instanceMethod yX9_begins ∈ zAll := zPr_20 25 rfl
theorem zc_yX9_begins : Cond.code yX9_begins cX9_begins 1 none ∈ zAll := zPr_20 26 rfl
theorem zm_X9_317 : Cond.methodLink RX9 317 yX9_fundLine ∈ zAll := zPr_20 27 rfl
theorem zi_yX9_fundLine : Cond.instanceMethod yX9_fundLine ∈ zAll := zPr_20 28 rfl
theorem zc_yX9_fundLine : Cond.code yX9_fundLine cX9_fundLine 4 none ∈ zAll := zPr_20 29 rfl
theorem zm_X9_245 : Cond.methodLink RX9 245 yX9_here ∈ zAll := zPr_20 30 rfl
theorem zi_yX9_here : Cond.instanceMethod yX9_here ∈ zAll := zPr_20 31 rfl
theorem zc_yX9_here : Cond.code yX9_here cX9_here 1 (some .int) ∈ zAll := zPr_20 32 rfl
theorem zm_X9_284 : Cond.methodLink RX9 284 yX9_has ∈ zAll := zPr_20 33 rfl
theorem zi_yX9_has : Cond.instanceMethod yX9_has ∈ zAll := zPr_20 34 rfl
theorem zc_yX9_has : Cond.code yX9_has cX9_has 4 (some .boolean) ∈ zAll := zPr_20 35 rfl
theorem zk_X9_249 : Cond.constantLong RX9 249 (Int64.ofInt (97)) ∈ zAll := zPr_20 36 rfl
theorem zk_X9_251 : Cond.constantLong RX9 251 (Int64.ofInt (122)) ∈ zAll := zPr_20 37 rfl
theorem zm_X9_253 : Cond.methodLink RX9 253 yJ0_length_8abf5 ∈ zAll := zPr_20 38 rfl
theorem zm_X9_258 : Cond.methodLink RX9 258 yJ0_charAt_5068e ∈ zAll := zPr_20 39 rfl
theorem zm_X9_299 : Cond.methodLink RX9 299 yX9_termLine ∈ zAll := zPr_21 0 rfl
theorem zi_yX9_termLine : Cond.instanceMethod yX9_termLine ∈ zAll := zPr_21 1 rfl
theorem zc_yX9_termLine : Cond.code yX9_termLine cX9_termLine 3 none ∈ zAll := zPr_21 2 rfl
theorem zm_X9_288 : Cond.methodLink RX9 288 yX9_number ∈ zAll := zPr_21 3 rfl
theorem zi_yX9_number : Cond.instanceMethod yX9_number ∈ zAll := zPr_21 4 rfl
theorem zc_yX9_number : Cond.code yX9_number cX9_number 5 (some .int) ∈ zAll := zPr_21 5 rfl
theorem zk_X9_262 : Cond.constantLong RX9 262 (Int64.ofInt (48)) ∈ zAll := zPr_21 6 rfl
theorem zk_X9_264 : Cond.constantLong RX9 264 (Int64.ofInt (57)) ∈ zAll := zPr_21 7 rfl
theorem zm_X9_266 : Cond.methodLink RX9 266 yX9_wrong ∈ zAll := zPr_21 8 rfl
theorem zi_yX9_wrong : Cond.instanceMethod yX9_wrong ∈ zAll := zPr_21 9 rfl
theorem zc_yX9_wrong : Cond.code yX9_wrong cX9_wrong 2 none ∈ zAll := zPr_21 10 rfl
theorem zm_X9_311 : Cond.methodLink RX9 311 yX9_excuseLine ∈ zAll := zPr_21 11 rfl
theorem zi_yX9_excuseLine : Cond.instanceMethod yX9_excuseLine ∈ zAll := zPr_21 12 rfl
theorem zc_yX9_excuseLine : Cond.code yX9_excuseLine cX9_excuseLine 5 none ∈ zAll := zPr_21 13 rfl
theorem zm_X9_321 : Cond.methodLink RX9 321 yX9_comesMore ∈ zAll := zPr_21 14 rfl
theorem zi_yX9_comesMore : Cond.instanceMethod yX9_comesMore ∈ zAll := zPr_21 15 rfl
theorem zc_yX9_comesMore : Cond.code yX9_comesMore cX9_comesMore 3 (some .boolean) ∈ zAll := zPr_21 16 rfl
theorem zm_L_155 : Cond.methodLink RL 155 yX9_acts_ ∈ zAll := zPr_21 17 rfl
theorem zi_yX9_acts_ : Cond.instanceMethod yX9_acts_ ∈ zAll := zPr_21 18 rfl
theorem zc_yX9_acts_ : Cond.code yX9_acts_ cX9_acts_ 3 (some .int) ∈ zAll := zPr_21 19 rfl
theorem zm_X9_339 : Cond.methodLink RX9 339 yX9_actLine ∈ zAll := zPr_21 20 rfl
theorem zi_yX9_actLine : Cond.instanceMethod yX9_actLine ∈ zAll := zPr_21 21 rfl
theorem zc_yX9_actLine : Cond.code yX9_actLine cX9_actLine 7 none ∈ zAll := zPr_21 22 rfl
theorem zm_X9_229 : Cond.methodLink RX9 229 yX9_canBe ∈ zAll := zPr_21 23 rfl
theorem zi_yX9_canBe : Cond.instanceMethod yX9_canBe ∈ zAll := zPr_21 24 rfl
theorem zc_yX9_canBe : Cond.code yX9_canBe cX9_canBe 5 (some .boolean) ∈ zAll := zPr_21 25 rfl
theorem zm_X9_166 : Cond.methodLink RX9 166 yX9_dealAt ∈ zAll := zPr_21 26 rfl
theorem zt_yX9_dealAt : Cond.static yX9_dealAt ∈ zAll := zPr_21 27 rfl
theorem zc_yX9_dealAt : Cond.code yX9_dealAt cX9_dealAt 2 (some .int) ∈ zAll := zPr_21 28 rfl
theorem zm_X9_184 : Cond.methodLink RX9 184 yX9_uncalled ∈ zAll := zPr_21 29 rfl
theorem zi_yX9_uncalled : Cond.instanceMethod yX9_uncalled ∈ zAll := zPr_21 30 rfl
theorem zc_yX9_uncalled : Cond.code yX9_uncalled cX9_uncalled 5 (some .long) ∈ zAll := zPr_21 31 rfl
theorem zm_X9_106 : Cond.methodLink RX9 106 yX9_isExcused ∈ zAll := zPr_21 32 rfl
theorem zi_yX9_isExcused : Cond.instanceMethod yX9_isExcused ∈ zAll := zPr_21 33 rfl
theorem zc_yX9_isExcused : Cond.code yX9_isExcused cX9_isExcused 3 (some .boolean) ∈ zAll := zPr_21 34 rfl
theorem zk_X9_220 : Cond.constantLong RX9 220 (Int64.ofInt (200)) ∈ zAll := zPr_21 35 rfl
theorem zm_X9_222 : Cond.methodLink RX9 222 yX9_areClosed ∈ zAll := zPr_21 36 rfl
theorem zi_yX9_areClosed : Cond.instanceMethod yX9_areClosed ∈ zAll := zPr_21 37 rfl
theorem zc_yX9_areClosed : Cond.code yX9_areClosed cX9_areClosed 2 (some .boolean) ∈ zAll := zPr_21 38 rfl
theorem zm_X9_225 : Cond.methodLink RX9 225 yX9_canMove ∈ zAll := zPr_21 39 rfl
theorem zi_yX9_canMove : Cond.instanceMethod yX9_canMove ∈ zAll := zPr_22 0 rfl
theorem zc_yX9_canMove : Cond.code yX9_canMove cX9_canMove 4 (some .boolean) ∈ zAll := zPr_22 1 rfl
theorem zk_X9_218 : Cond.constantLong RX9 218 (Int64.ofInt (9999)) ∈ zAll := zPr_22 2 rfl
theorem zm_X9_233 : Cond.methodLink RX9 233 yX9_writesDown ∈ zAll := zPr_22 3 rfl
theorem zi_yX9_writesDown : Cond.instanceMethod yX9_writesDown ∈ zAll := zPr_22 4 rfl
theorem zc_yX9_writesDown : Cond.code yX9_writesDown cX9_writesDown 6 none ∈ zAll := zPr_22 5 rfl
theorem zm_X9_119 : Cond.methodLink RX9 119 yX9_doesAgain ∈ zAll := zPr_22 6 rfl
theorem zi_yX9_doesAgain : Cond.instanceMethod yX9_doesAgain ∈ zAll := zPr_22 7 rfl
theorem zc_yX9_doesAgain : Cond.code yX9_doesAgain cX9_doesAgain 3 none ∈ zAll := zPr_22 8 rfl
theorem zm_X9_123 : Cond.methodLink RX9 123 yX9_does ∈ zAll := zPr_22 9 rfl
theorem zi_yX9_does : Cond.instanceMethod yX9_does ∈ zAll := zPr_22 10 rfl
theorem zc_yX9_does : Cond.code yX9_does cX9_does 6 none ∈ zAll := zPr_22 11 rfl
theorem zm_X9_187 : Cond.methodLink RX9 187 yX9_paysAll ∈ zAll := zPr_22 12 rfl
theorem zi_yX9_paysAll : Cond.instanceMethod yX9_paysAll ∈ zAll := zPr_22 13 rfl
theorem zc_yX9_paysAll : Cond.code yX9_paysAll cX9_paysAll 5 none ∈ zAll := zPr_22 14 rfl
theorem zm_X9_133 : Cond.methodLink RX9 133 yX9_shares ∈ zAll := zPr_22 15 rfl
theorem zi_yX9_shares : Cond.instanceMethod yX9_shares ∈ zAll := zPr_22 16 rfl
theorem zc_yX9_shares : Cond.code yX9_shares cX9_shares 9 none ∈ zAll := zPr_22 17 rfl
theorem zk_X9_127 : Cond.constantLong RX9 127 (Int64.ofInt (-1)) ∈ zAll := zPr_22 18 rfl
theorem zm_X9_141 : Cond.methodLink RX9 141 yX9_ladderAt ∈ zAll := zPr_22 19 rfl
theorem zt_yX9_ladderAt : Cond.static yX9_ladderAt ∈ zAll := zPr_22 20 rfl
theorem zc_yX9_ladderAt : Cond.code yX9_ladderAt cX9_ladderAt 2 (some .int) ∈ zAll := zPr_22 21 rfl
theorem zm_X9_173 : Cond.methodLink RX9 173 yX9_isDealwise ∈ zAll := zPr_22 22 rfl
theorem zi_yX9_isDealwise : Cond.instanceMethod yX9_isDealwise ∈ zAll := zPr_22 23 rfl
theorem zc_yX9_isDealwise : Cond.code yX9_isDealwise cX9_isDealwise 1 (some .boolean) ∈ zAll := zPr_22 24 rfl
theorem zm_X9_204 : Cond.methodLink RX9 204 yX9_sells ∈ zAll := zPr_22 25 rfl
theorem zi_yX9_sells : Cond.instanceMethod yX9_sells ∈ zAll := zPr_22 26 rfl
theorem zc_yX9_sells : Cond.code yX9_sells cX9_sells 10 none ∈ zAll := zPr_22 27 rfl
theorem zm_X9_169 : Cond.methodLink RX9 169 yX9_fills ∈ zAll := zPr_22 28 rfl
theorem zi_yX9_fills : Cond.instanceMethod yX9_fills ∈ zAll := zPr_22 29 rfl
theorem zc_yX9_fills : Cond.code yX9_fills cX9_fills 7 none ∈ zAll := zPr_22 30 rfl
theorem zm_X9_152 : Cond.methodLink RX9 152 yX9_takes ∈ zAll := zPr_22 31 rfl
theorem zi_yX9_takes : Cond.instanceMethod yX9_takes ∈ zAll := zPr_22 32 rfl
theorem zc_yX9_takes : Cond.code yX9_takes cX9_takes 7 (some .long) ∈ zAll := zPr_22 33 rfl
theorem zm_X9_144 : Cond.methodLink RX9 144 yX9_lesser ∈ zAll := zPr_22 34 rfl
theorem zt_yX9_lesser : Cond.static yX9_lesser ∈ zAll := zPr_22 35 rfl
theorem zc_yX9_lesser : Cond.code yX9_lesser cX9_lesser 4 (some .long) ∈ zAll := zPr_22 36 rfl
theorem zm_X9_156 : Cond.methodLink RX9 156 yX9_caught ∈ zAll := zPr_22 37 rfl
theorem zi_yX9_caught : Cond.instanceMethod yX9_caught ∈ zAll := zPr_22 38 rfl
theorem zc_yX9_caught : Cond.code yX9_caught cX9_caught 19 (some .long) ∈ zAll := zPr_22 39 rfl
theorem zk_X9_148 : Cond.constantLong RX9 148 (Int64.ofInt (1000000000000)) ∈ zAll := zPr_23 0 rfl
theorem zk_X9_150 : Cond.constantLong RX9 150 (Int64.ofInt (100)) ∈ zAll := zPr_23 1 rfl
theorem zm_X9_177 : Cond.methodLink RX9 177 yX9_getsAll ∈ zAll := zPr_23 2 rfl
theorem zi_yX9_getsAll : Cond.instanceMethod yX9_getsAll ∈ zAll := zPr_23 3 rfl
theorem zc_yX9_getsAll : Cond.code yX9_getsAll cX9_getsAll 5 none ∈ zAll := zPr_23 4 rfl
theorem zm_X9_137 : Cond.methodLink RX9 137 yX9_byWeights ∈ zAll := zPr_23 5 rfl
theorem zi_yX9_byWeights : Cond.instanceMethod yX9_byWeights ∈ zAll := zPr_23 6 rfl
theorem zc_yX9_byWeights : Cond.code yX9_byWeights cX9_byWeights 5 none ∈ zAll := zPr_23 7 rfl
theorem zm_X9_129 : Cond.methodLink RX9 129 yX9_weightOf ∈ zAll := zPr_23 8 rfl
theorem zi_yX9_weightOf : Cond.instanceMethod yX9_weightOf ∈ zAll := zPr_23 9 rfl
theorem zc_yX9_weightOf : Cond.code yX9_weightOf cX9_weightOf 4 (some .long) ∈ zAll := zPr_23 10 rfl
theorem zk_X9_114 : Cond.constantLong RX9 114 (Int64.ofInt (2)) ∈ zAll := zPr_23 11 rfl
theorem zm_X9_208 : Cond.methodLink RX9 208 yX9_quarterGoes ∈ zAll := zPr_23 12 rfl
theorem zi_yX9_quarterGoes : Cond.instanceMethod yX9_quarterGoes ∈ zAll := zPr_23 13 rfl
theorem zc_yX9_quarterGoes : Cond.code yX9_quarterGoes cX9_quarterGoes 5 none ∈ zAll := zPr_23 14 rfl
theorem zk_X9_180 : Cond.constantLong RX9 180 (Int64.ofInt (10000)) ∈ zAll := zPr_23 15 rfl
theorem zk_X9_182 : Cond.constantLong RX9 182 (Int64.ofInt (1000000000)) ∈ zAll := zPr_23 16 rfl
theorem zm_X9_211 : Cond.methodLink RX9 211 yX9_moves ∈ zAll := zPr_23 17 rfl
theorem zi_yX9_moves : Cond.instanceMethod yX9_moves ∈ zAll := zPr_23 18 rfl
theorem zc_yX9_moves : Cond.code yX9_moves cX9_moves 6 none ∈ zAll := zPr_23 19 rfl
theorem zm_X9_200 : Cond.methodLink RX9 200 yX9_movedBy ∈ zAll := zPr_23 20 rfl
theorem zi_yX9_movedBy : Cond.instanceMethod yX9_movedBy ∈ zAll := zPr_23 21 rfl
theorem zc_yX9_movedBy : Cond.code yX9_movedBy cX9_movedBy 3 (some .long) ∈ zAll := zPr_23 22 rfl
theorem zm_X9_215 : Cond.methodLink RX9 215 yX9_ends ∈ zAll := zPr_23 23 rfl
theorem zi_yX9_ends : Cond.instanceMethod yX9_ends ∈ zAll := zPr_23 24 rfl
theorem zc_yX9_ends : Cond.code yX9_ends cX9_ends 5 none ∈ zAll := zPr_23 25 rfl
theorem zm_X9_193 : Cond.methodLink RX9 193 yX9_fromHeld ∈ zAll := zPr_23 26 rfl
theorem zi_yX9_fromHeld : Cond.instanceMethod yX9_fromHeld ∈ zAll := zPr_23 27 rfl
theorem zc_yX9_fromHeld : Cond.code yX9_fromHeld cX9_fromHeld 1 (some .long) ∈ zAll := zPr_23 28 rfl
theorem zm_X9_190 : Cond.methodLink RX9 190 yX9_greater ∈ zAll := zPr_23 29 rfl
theorem zt_yX9_greater : Cond.static yX9_greater ∈ zAll := zPr_23 30 rfl
theorem zc_yX9_greater : Cond.code yX9_greater cX9_greater 4 (some .long) ∈ zAll := zPr_23 31 rfl
theorem zm_X9_197 : Cond.methodLink RX9 197 yX9_fromOut ∈ zAll := zPr_23 32 rfl
theorem zi_yX9_fromOut : Cond.instanceMethod yX9_fromOut ∈ zAll := zPr_23 33 rfl
theorem zc_yX9_fromOut : Cond.code yX9_fromOut cX9_fromOut 3 (some .long) ∈ zAll := zPr_23 34 rfl
theorem zm_X9_342 : Cond.methodLink RX9 342 yX9_worksOut ∈ zAll := zPr_23 35 rfl
theorem zi_yX9_worksOut : Cond.instanceMethod yX9_worksOut ∈ zAll := zPr_23 36 rfl
theorem zc_yX9_worksOut : Cond.code yX9_worksOut cX9_worksOut 2 none ∈ zAll := zPr_23 37 rfl
theorem zm_L_159 : Cond.methodLink RL 159 yX9_fault ∈ zAll := zPr_23 38 rfl
theorem zi_yX9_fault : Cond.instanceMethod yX9_fault ∈ zAll := zPr_23 39 rfl
theorem zc_yX9_fault : Cond.code yX9_fault cX9_fault 1 (some .int) ∈ zAll := zPr_24 0 rfl
theorem zm_L_163 : Cond.methodLink RL 163 yX9_term ∈ zAll := zPr_24 1 rfl
theorem zi_yX9_term : Cond.instanceMethod yX9_term ∈ zAll := zPr_24 2 rfl
theorem zc_yX9_term : Cond.code yX9_term cX9_term 2 (some .int) ∈ zAll := zPr_24 3 rfl
theorem zk_X9_345 : Cond.constantLong RX9 345 (Int64.ofInt (6)) ∈ zAll := zPr_24 4 rfl
theorem zm_L_167 : Cond.methodLink RL 167 yX9_investor ∈ zAll := zPr_24 5 rfl
theorem zi_yX9_investor : Cond.instanceMethod yX9_investor ∈ zAll := zPr_24 6 rfl
theorem zc_yX9_investor : Cond.code yX9_investor cX9_investor 3 (some .long) ∈ zAll := zPr_24 7 rfl
theorem zm_X9_347 : Cond.methodLink RX9 347 yX9_isInvestor ∈ zAll := zPr_24 8 rfl
theorem zi_yX9_isInvestor : Cond.instanceMethod yX9_isInvestor ∈ zAll := zPr_24 9 rfl
theorem zc_yX9_isInvestor : Cond.code yX9_isInvestor cX9_isInvestor 2 (some .boolean) ∈ zAll := zPr_24 10 rfl
theorem zk_X9_351 : Cond.constantLong RX9 351 (Int64.ofInt (5)) ∈ zAll := zPr_24 11 rfl
theorem zm_L_170 : Cond.methodLink RL 170 yX9_deal ∈ zAll := zPr_24 12 rfl
theorem zi_yX9_deal : Cond.instanceMethod yX9_deal ∈ zAll := zPr_24 13 rfl
theorem zc_yX9_deal : Cond.code yX9_deal cX9_deal 3 (some .int) ∈ zAll := zPr_24 14 rfl
theorem zm_X9_353 : Cond.methodLink RX9 353 yX9_isDeal ∈ zAll := zPr_24 15 rfl
theorem zi_yX9_isDeal : Cond.instanceMethod yX9_isDeal ∈ zAll := zPr_24 16 rfl
theorem zc_yX9_isDeal : Cond.code yX9_isDeal cX9_isDeal 2 (some .boolean) ∈ zAll := zPr_24 17 rfl
theorem zk_X9_356 : Cond.constantLong RX9 356 (Int64.ofInt (4)) ∈ zAll := zPr_24 18 rfl
theorem zm_L_173 : Cond.methodLink RL 173 yX9_ladder ∈ zAll := zPr_24 19 rfl
theorem zi_yX9_ladder : Cond.instanceMethod yX9_ladder ∈ zAll := zPr_24 20 rfl
theorem zc_yX9_ladder : Cond.code yX9_ladder cX9_ladder 3 (some .long) ∈ zAll := zPr_24 21 rfl
theorem zk_X9_358 : Cond.constantLong RX9 358 (Int64.ofInt (-2)) ∈ zAll := zPr_24 22 rfl
theorem zk_X9_360 : Cond.constantLong RX9 360 (Int64.ofInt (3)) ∈ zAll := zPr_24 23 rfl
theorem zm_L_176 : Cond.methodLink RL 176 yX9_manager ∈ zAll := zPr_24 24 rfl
theorem zi_yX9_manager : Cond.instanceMethod yX9_manager ∈ zAll := zPr_24 25 rfl
theorem zc_yX9_manager : Cond.code yX9_manager cX9_manager 2 (some .long) ∈ zAll := zPr_24 26 rfl
theorem zm_L_179 : Cond.methodLink RL 179 yX9_call ∈ zAll := zPr_24 27 rfl
theorem zi_yX9_call : Cond.instanceMethod yX9_call ∈ zAll := zPr_24 28 rfl
theorem zc_yX9_call : Cond.code yX9_call cX9_call 3 (some .int) ∈ zAll := zPr_24 29 rfl
theorem zm_X9_362 : Cond.methodLink RX9 362 yX9_acts ∈ zAll := zPr_24 30 rfl
theorem zi_yX9_acts : Cond.instanceMethod yX9_acts ∈ zAll := zPr_24 31 rfl
theorem zc_yX9_acts : Cond.code yX9_acts cX9_acts 6 (some .boolean) ∈ zAll := zPr_24 32 rfl
theorem zm_L_183 : Cond.methodLink RL 183 yX9_sell ∈ zAll := zPr_24 33 rfl
theorem zi_yX9_sell : Cond.instanceMethod yX9_sell ∈ zAll := zPr_24 34 rfl
theorem zc_yX9_sell : Cond.code yX9_sell cX9_sell 6 (some .int) ∈ zAll := zPr_24 35 rfl
theorem zm_L_186 : Cond.methodLink RL 186 yX9_mark ∈ zAll := zPr_24 36 rfl
theorem zi_yX9_mark : Cond.instanceMethod yX9_mark ∈ zAll := zPr_24 37 rfl
theorem zc_yX9_mark : Cond.code yX9_mark cX9_mark 4 (some .int) ∈ zAll := zPr_24 38 rfl
theorem zm_L_189 : Cond.methodLink RL 189 yX9_quarters ∈ zAll := zPr_24 39 rfl
theorem zi_yX9_quarters : Cond.instanceMethod yX9_quarters ∈ zAll := zPr_25 0 rfl
theorem zc_yX9_quarters : Cond.code yX9_quarters cX9_quarters 2 (some .int) ∈ zAll := zPr_25 1 rfl
theorem zk_X9_366 : Cond.constantLong RX9 366 (Int64.ofInt (60)) ∈ zAll := zPr_25 2 rfl
theorem zm_L_192 : Cond.methodLink RL 192 yX9_fail ∈ zAll := zPr_25 3 rfl
theorem zi_yX9_fail : Cond.instanceMethod yX9_fail ∈ zAll := zPr_25 4 rfl
theorem zc_yX9_fail : Cond.code yX9_fail cX9_fail 2 (some .int) ∈ zAll := zPr_25 5 rfl
theorem zm_L_196 : Cond.methodLink RL 196 yX9_move ∈ zAll := zPr_25 6 rfl
theorem zi_yX9_move : Cond.instanceMethod yX9_move ∈ zAll := zPr_25 7 rfl
theorem zc_yX9_move : Cond.code yX9_move cX9_move 5 (some .int) ∈ zAll := zPr_25 8 rfl
theorem zm_L_199 : Cond.methodLink RL 199 yX9_close ∈ zAll := zPr_25 9 rfl
theorem zi_yX9_close : Cond.instanceMethod yX9_close ∈ zAll := zPr_25 10 rfl
theorem zc_yX9_close : Cond.code yX9_close cX9_close 1 (some .long) ∈ zAll := zPr_25 11 rfl
theorem zm_L_202 : Cond.methodLink RL 202 yX9_undo ∈ zAll := zPr_25 12 rfl
theorem zi_yX9_undo : Cond.instanceMethod yX9_undo ∈ zAll := zPr_25 13 rfl
theorem zc_yX9_undo : Cond.code yX9_undo cX9_undo 1 (some .int) ∈ zAll := zPr_25 14 rfl
theorem zm_L_205 : Cond.methodLink RL 205 yX9_filling ∈ zAll := zPr_25 15 rfl
theorem zi_yX9_filling : Cond.instanceMethod yX9_filling ∈ zAll := zPr_25 16 rfl
theorem zc_yX9_filling : Cond.code yX9_filling cX9_filling 4 (some .long) ∈ zAll := zPr_25 17 rfl
theorem zk_X9_368 : Cond.constantLong RX9 368 (Int64.ofInt (99999)) ∈ zAll := zPr_25 18 rfl
theorem zm_X9_370 : Cond.methodLink RX9 370 yX9_putsAside ∈ zAll := zPr_25 19 rfl
theorem zi_yX9_putsAside : Cond.instanceMethod yX9_putsAside ∈ zAll := zPr_25 20 rfl
theorem zc_yX9_putsAside : Cond.code yX9_putsAside cX9_putsAside 2 none ∈ zAll := zPr_25 21 rfl
theorem zm_X9_373 : Cond.methodLink RX9 373 yX9_ladderOf ∈ zAll := zPr_25 22 rfl
theorem zi_yX9_ladderOf : Cond.instanceMethod yX9_ladderOf ∈ zAll := zPr_25 23 rfl
theorem zc_yX9_ladderOf : Cond.code yX9_ladderOf cX9_ladderOf 2 (some .int) ∈ zAll := zPr_25 24 rfl
theorem zm_X9_377 : Cond.methodLink RX9 377 yX9_comesBack ∈ zAll := zPr_25 25 rfl
theorem zi_yX9_comesBack : Cond.instanceMethod yX9_comesBack ∈ zAll := zPr_25 26 rfl
theorem zc_yX9_comesBack : Cond.code yX9_comesBack cX9_comesBack 2 none ∈ zAll := zPr_25 27 rfl
theorem zm_L_208 : Cond.methodLink RL 208 yX9_needed ∈ zAll := zPr_25 28 rfl
theorem zi_yX9_needed : Cond.instanceMethod yX9_needed ∈ zAll := zPr_25 29 rfl
theorem zc_yX9_needed : Cond.code yX9_needed cX9_needed 13 (some .int) ∈ zAll := zPr_25 30 rfl
theorem zm_L_211 : Cond.methodLink RL 211 yX9_reaches ∈ zAll := zPr_25 31 rfl
theorem zi_yX9_reaches : Cond.instanceMethod yX9_reaches ∈ zAll := zPr_25 32 rfl
theorem zc_yX9_reaches : Cond.code yX9_reaches cX9_reaches 11 (some .int) ∈ zAll := zPr_25 33 rfl
theorem zk_X9_380 : Cond.constant RX9 380 (Int32.ofInt (99999)) ∈ zAll := zPr_25 34 rfl
theorem zm_X9_381 : Cond.methodLink RX9 381 yX9_hersOf ∈ zAll := zPr_25 35 rfl
theorem zi_yX9_hersOf : Cond.instanceMethod yX9_hersOf ∈ zAll := zPr_25 36 rfl
theorem zc_yX9_hersOf : Cond.code yX9_hersOf cX9_hersOf 7 (some .long) ∈ zAll := zPr_25 37 rfl
theorem zm_L_214 : Cond.methodLink RL 214 yX9_share ∈ zAll := zPr_25 38 rfl
theorem zi_yX9_share : Cond.instanceMethod yX9_share ∈ zAll := zPr_25 39 rfl
theorem zc_yX9_share : Cond.code yX9_share cX9_share 4 (some .int) ∈ zAll := zPr_26 0 rfl
theorem zm_L_218 : Cond.methodLink RL 218 yX9_claw ∈ zAll := zPr_26 1 rfl
theorem zi_yX9_claw : Cond.instanceMethod yX9_claw ∈ zAll := zPr_26 2 rfl
theorem zc_yX9_claw : Cond.code yX9_claw cX9_claw 1 (some .long) ∈ zAll := zPr_26 3 rfl
theorem zm_X9_384 : Cond.methodLink RX9 384 yX9_claw0 ∈ zAll := zPr_26 4 rfl
theorem zi_yX9_claw0 : Cond.instanceMethod yX9_claw0 ∈ zAll := zPr_26 5 rfl
theorem zc_yX9_claw0 : Cond.code yX9_claw0 cX9_claw0 1 (some .long) ∈ zAll := zPr_26 6 rfl
theorem zm_L_221 : Cond.methodLink RL 221 yX9_soldOut ∈ zAll := zPr_26 7 rfl
theorem zi_yX9_soldOut : Cond.instanceMethod yX9_soldOut ∈ zAll := zPr_26 8 rfl
theorem zc_yX9_soldOut : Cond.code yX9_soldOut cX9_soldOut 6 (some .long) ∈ zAll := zPr_26 9 rfl
theorem zm_X9_387 : Cond.methodLink RX9 387 yX9_sellsOut ∈ zAll := zPr_26 10 rfl
theorem zi_yX9_sellsOut : Cond.instanceMethod yX9_sellsOut ∈ zAll := zPr_26 11 rfl
theorem zc_yX9_sellsOut : Cond.code yX9_sellsOut cX9_sellsOut 2 none ∈ zAll := zPr_26 12 rfl
theorem zm_X9_390 : Cond.methodLink RX9 390 yX9_gotAll ∈ zAll := zPr_26 13 rfl
theorem zi_yX9_gotAll : Cond.instanceMethod yX9_gotAll ∈ zAll := zPr_26 14 rfl
theorem zc_yX9_gotAll : Cond.code yX9_gotAll cX9_gotAll 4 (some .long) ∈ zAll := zPr_26 15 rfl
theorem zm_L_225 : Cond.methodLink RL 225 yX9_order ∈ zAll := zPr_26 16 rfl
theorem zi_yX9_order : Cond.instanceMethod yX9_order ∈ zAll := zPr_26 17 rfl
theorem zc_yX9_order : Cond.code yX9_order cX9_order 3 (some .long) ∈ zAll := zPr_26 18 rfl
theorem zm_X9_402 : Cond.methodLink RX9 402 yX9_goesOn ∈ zAll := zPr_26 19 rfl
theorem zi_yX9_goesOn : Cond.instanceMethod yX9_goesOn ∈ zAll := zPr_26 20 rfl
theorem zc_yX9_goesOn : Cond.code yX9_goesOn cX9_goesOn 4 none ∈ zAll := zPr_26 21 rfl
theorem zm_X9_399 : Cond.methodLink RX9 399 yX9_triesRow ∈ zAll := zPr_26 22 rfl
theorem zi_yX9_triesRow : Cond.instanceMethod yX9_triesRow ∈ zAll := zPr_26 23 rfl
theorem zc_yX9_triesRow : Cond.code yX9_triesRow cX9_triesRow 4 none ∈ zAll := zPr_26 24 rfl
theorem zm_L_228 : Cond.methodLink RL 228 yX9_would ∈ zAll := zPr_26 25 rfl
theorem zi_yX9_would : Cond.instanceMethod yX9_would ∈ zAll := zPr_26 26 rfl
theorem zc_yX9_would : Cond.code yX9_would cX9_would 6 (some .long) ∈ zAll := zPr_26 27 rfl
theorem zm_X9_405 : Cond.methodLink RX9 405 yX9_keeps ∈ zAll := zPr_26 28 rfl
theorem zi_yX9_keeps : Cond.instanceMethod yX9_keeps ∈ zAll := zPr_26 29 rfl
theorem zc_yX9_keeps : Cond.code yX9_keeps cX9_keeps 1 (some .long) ∈ zAll := zPr_26 30 rfl
theorem zm_L_231 : Cond.methodLink RL 231 yX9_bar ∈ zAll := zPr_26 31 rfl
theorem zi_yX9_bar : Cond.instanceMethod yX9_bar ∈ zAll := zPr_26 32 rfl
theorem zc_yX9_bar : Cond.code yX9_bar cX9_bar 4 (some .int) ∈ zAll := zPr_26 33 rfl
theorem zm_X9_408 : Cond.methodLink RX9 408 yX9_keptBy ∈ zAll := zPr_26 34 rfl
theorem zi_yX9_keptBy : Cond.instanceMethod yX9_keptBy ∈ zAll := zPr_26 35 rfl
theorem zc_yX9_keptBy : Cond.code yX9_keptBy cX9_keptBy 2 (some .long) ∈ zAll := zPr_26 36 rfl
theorem zm_L_234 : Cond.methodLink RL 234 yX9_drift ∈ zAll := zPr_26 37 rfl
theorem zi_yX9_drift : Cond.instanceMethod yX9_drift ∈ zAll := zPr_26 38 rfl
theorem zc_yX9_drift : Cond.code yX9_drift cX9_drift 2 (some .long) ∈ zAll := zPr_26 39 rfl
theorem zm_L_237 : Cond.methodLink RL 237 yX9_swapped ∈ zAll := zPr_27 0 rfl
theorem zi_yX9_swapped : Cond.instanceMethod yX9_swapped ∈ zAll := zPr_27 1 rfl
theorem zc_yX9_swapped : Cond.code yX9_swapped cX9_swapped 5 (some .long) ∈ zAll := zPr_27 2 rfl
theorem zm_X9_411 : Cond.methodLink RX9 411 yX9_canAgain ∈ zAll := zPr_27 3 rfl
theorem zi_yX9_canAgain : Cond.instanceMethod yX9_canAgain ∈ zAll := zPr_27 4 rfl
theorem zc_yX9_canAgain : Cond.code yX9_canAgain cX9_canAgain 2 (some .boolean) ∈ zAll := zPr_27 5 rfl
theorem zm_L_240 : Cond.methodLink RL 240 yX9_without ∈ zAll := zPr_27 6 rfl
theorem zi_yX9_without : Cond.instanceMethod yX9_without ∈ zAll := zPr_27 7 rfl
theorem zc_yX9_without : Cond.code yX9_without cX9_without 2 (some .long) ∈ zAll := zPr_27 8 rfl
theorem zm_X9_414 : Cond.methodLink RX9 414 yX9_keptWithout ∈ zAll := zPr_27 9 rfl
theorem zi_yX9_keptWithout : Cond.instanceMethod yX9_keptWithout ∈ zAll := zPr_27 10 rfl
theorem zc_yX9_keptWithout : Cond.code yX9_keptWithout cX9_keptWithout 4 (some .long) ∈ zAll := zPr_27 11 rfl
theorem zm_L_243 : Cond.methodLink RL 243 yX9_behind ∈ zAll := zPr_27 12 rfl
theorem zi_yX9_behind : Cond.instanceMethod yX9_behind ∈ zAll := zPr_27 13 rfl
theorem zc_yX9_behind : Cond.code yX9_behind cX9_behind 5 (some .long) ∈ zAll := zPr_27 14 rfl
theorem zm_X9_417 : Cond.methodLink RX9 417 yX9_worksOutTo ∈ zAll := zPr_27 15 rfl
theorem zi_yX9_worksOutTo : Cond.instanceMethod yX9_worksOutTo ∈ zAll := zPr_27 16 rfl
theorem zc_yX9_worksOutTo : Cond.code yX9_worksOutTo cX9_worksOutTo 3 none ∈ zAll := zPr_27 17 rfl
theorem zm_L_259 : Cond.methodLink RL 259 yX9_most ∈ zAll := zPr_27 18 rfl
theorem zi_yX9_most : Cond.instanceMethod yX9_most ∈ zAll := zPr_27 19 rfl
theorem zc_yX9_most : Cond.code yX9_most cX9_most 4 (some .long) ∈ zAll := zPr_27 20 rfl
theorem zm_X9_420 : Cond.methodLink RX9 420 yX9_owes ∈ zAll := zPr_27 21 rfl
theorem zi_yX9_owes : Cond.instanceMethod yX9_owes ∈ zAll := zPr_27 22 rfl
theorem zc_yX9_owes : Cond.code yX9_owes cX9_owes 2 (some .long) ∈ zAll := zPr_27 23 rfl
theorem zm_L_247 : Cond.methodLink RL 247 yX9_clean ∈ zAll := zPr_27 24 rfl
theorem zi_yX9_clean : Cond.instanceMethod yX9_clean ∈ zAll := zPr_27 25 rfl
theorem zc_yX9_clean : Cond.code yX9_clean cX9_clean 4 (some .int) ∈ zAll := zPr_27 26 rfl
theorem zm_L_251 : Cond.methodLink RL 251 yX9_idle ∈ zAll := zPr_27 27 rfl
theorem zi_yX9_idle : Cond.instanceMethod yX9_idle ∈ zAll := zPr_27 28 rfl
theorem zc_yX9_idle : Cond.code yX9_idle cX9_idle 5 (some .int) ∈ zAll := zPr_27 29 rfl
theorem zm_L_255 : Cond.methodLink RL 255 yX9_blame ∈ zAll := zPr_27 30 rfl
theorem zi_yX9_blame : Cond.instanceMethod yX9_blame ∈ zAll := zPr_27 31 rfl
theorem zc_yX9_blame : Cond.code yX9_blame cX9_blame 7 (some .int) ∈ zAll := zPr_27 32 rfl
theorem zm_L_262 : Cond.methodLink RL 262 yX9_owed ∈ zAll := zPr_27 33 rfl
theorem zi_yX9_owed : Cond.instanceMethod yX9_owed ∈ zAll := zPr_27 34 rfl
theorem zc_yX9_owed : Cond.code yX9_owed cX9_owed 6 (some .long) ∈ zAll := zPr_27 35 rfl
theorem zm_L_265 : Cond.methodLink RL 265 yX9_patience ∈ zAll := zPr_27 36 rfl
theorem zi_yX9_patience : Cond.instanceMethod yX9_patience ∈ zAll := zPr_27 37 rfl
theorem zc_yX9_patience : Cond.code yX9_patience cX9_patience 5 (some .int) ∈ zAll := zPr_27 38 rfl
theorem zm_L_268 : Cond.methodLink RL 268 yX9_deals ∈ zAll := zPr_27 39 rfl
theorem zi_yX9_deals : Cond.instanceMethod yX9_deals ∈ zAll := zPr_28 0 rfl
theorem zc_yX9_deals : Cond.code yX9_deals cX9_deals 5 (some .int) ∈ zAll := zPr_28 1 rfl
theorem zm_X9_423 : Cond.methodLink RX9 423 yX9_gainOf ∈ zAll := zPr_28 2 rfl
theorem zi_yX9_gainOf : Cond.instanceMethod yX9_gainOf ∈ zAll := zPr_28 3 rfl
theorem zc_yX9_gainOf : Cond.code yX9_gainOf cX9_gainOf 2 (some .long) ∈ zAll := zPr_28 4 rfl
theorem zm_L_271 : Cond.methodLink RL 271 yX9_curve ∈ zAll := zPr_28 5 rfl
theorem zi_yX9_curve : Cond.instanceMethod yX9_curve ∈ zAll := zPr_28 6 rfl
theorem zc_yX9_curve : Cond.code yX9_curve cX9_curve 2 (some .long) ∈ zAll := zPr_28 7 rfl
theorem zm_X9_429 : Cond.methodLink RX9 429 yX9_curveAt ∈ zAll := zPr_28 8 rfl
theorem zi_yX9_curveAt : Cond.instanceMethod yX9_curveAt ∈ zAll := zPr_28 9 rfl
theorem zc_yX9_curveAt : Cond.code yX9_curveAt cX9_curveAt 5 (some .long) ∈ zAll := zPr_28 10 rfl
theorem zm_X9_426 : Cond.methodLink RX9 426 yX9_flowIn ∈ zAll := zPr_28 11 rfl
theorem zi_yX9_flowIn : Cond.instanceMethod yX9_flowIn ∈ zAll := zPr_28 12 rfl
theorem zc_yX9_flowIn : Cond.code yX9_flowIn cX9_flowIn 6 (some .long) ∈ zAll := zPr_28 13 rfl
theorem zm_L_274 : Cond.methodLink RL 274 yX9_curves ∈ zAll := zPr_28 14 rfl
theorem zi_yX9_curves : Cond.instanceMethod yX9_curves ∈ zAll := zPr_28 15 rfl
theorem zc_yX9_curves : Cond.code yX9_curves cX9_curves 6 (some .int) ∈ zAll := zPr_28 16 rfl
theorem zm_L_277 : Cond.methodLink RL 277 yX9_rate ∈ zAll := zPr_28 17 rfl
theorem zi_yX9_rate : Cond.instanceMethod yX9_rate ∈ zAll := zPr_28 18 rfl
theorem zc_yX9_rate : Cond.code yX9_rate cX9_rate 6 (some .int) ∈ zAll := zPr_28 19 rfl
theorem zk_X9_432 : Cond.constantDouble RX9 432 4666723172467343360 ∈ zAll := zPr_28 20 rfl
theorem zm_L_280 : Cond.methodLink RL 280 yX9_multiple ∈ zAll := zPr_28 21 rfl
theorem zi_yX9_multiple : Cond.instanceMethod yX9_multiple ∈ zAll := zPr_28 22 rfl
theorem zc_yX9_multiple : Cond.code yX9_multiple cX9_multiple 7 (some .int) ∈ zAll := zPr_28 23 rfl
theorem zk_X9_434 : Cond.constantFloat RX9 434 1148846080 ∈ zAll := zPr_28 24 rfl
theorem zm_L_283 : Cond.methodLink RL 283 yX9_act ∈ zAll := zPr_28 25 rfl
theorem zi_yX9_act : Cond.instanceMethod yX9_act ∈ zAll := zPr_28 26 rfl
theorem zc_yX9_act : Cond.code yX9_act cX9_act 3 (some .int) ∈ zAll := zPr_28 27 rfl
theorem zm_L_287 : Cond.methodLink RL 287 yX9_image ∈ zAll := zPr_28 28 rfl
theorem zi_yX9_image : Cond.instanceMethod yX9_image ∈ zAll := zPr_28 29 rfl
theorem zc_yX9_image : Cond.code yX9_image cX9_image 2 none ∈ zAll := zPr_28 30 rfl
theorem zm_L_292 : Cond.methodLink RL 292 yX9_back ∈ zAll := zPr_28 31 rfl
theorem zi_yX9_back : Cond.instanceMethod yX9_back ∈ zAll := zPr_28 32 rfl
theorem zc_yX9_back : Cond.code yX9_back cX9_back 2 (some .boolean) ∈ zAll := zPr_28 33 rfl
theorem zm_L_296 : Cond.methodLink RL 296 yX9_count ∈ zAll := zPr_28 34 rfl
theorem zi_yX9_count : Cond.instanceMethod yX9_count ∈ zAll := zPr_28 35 rfl
theorem zc_yX9_count : Cond.code yX9_count cX9_count 2 (some .int) ∈ zAll := zPr_28 36 rfl
theorem zs_yX0_open : Cond.selects RX0 yX0_open yX0_open ∈ zAll := zPr_28 37 rfl
theorem zs_yX0_copyFrom : Cond.selects RX0 yX0_copyFrom yX0_copyFrom ∈ zAll := zPr_28 38 rfl
theorem zs_yX0_isDealwise : Cond.selects RX0 yX0_isDealwise yX0_isDealwise ∈ zAll := zPr_28 39 rfl
theorem zs_yX0_isOpen : Cond.selects RX0 yX0_isOpen yX0_isOpen ∈ zAll := zPr_29 0 rfl
theorem zs_yX0_openDeals : Cond.selects RX0 yX0_openDeals yX0_openDeals ∈ zAll := zPr_29 1 rfl
theorem zs_yX0_extremeDeal : Cond.selects RX0 yX0_extremeDeal yX0_extremeDeal ∈ zAll := zPr_29 2 rfl
theorem zs_yX0_standing : Cond.selects RX0 yX0_standing yX0_standing ∈ zAll := zPr_29 3 rfl
theorem zs_yX0_netTaken : Cond.selects RX0 yX0_netTaken yX0_netTaken ∈ zAll := zPr_29 4 rfl
theorem zs_yX0_raise : Cond.selects RX0 yX0_raise yX0_raise ∈ zAll := zPr_29 5 rfl
theorem zs_yX0_remark : Cond.selects RX0 yX0_remark yX0_remark ∈ zAll := zPr_29 6 rfl
theorem zs_yX0_pass : Cond.selects RX0 yX0_pass yX0_pass ∈ zAll := zPr_29 7 rfl
theorem zs_yX0_measure : Cond.selects RX0 yX0_measure yX0_measure ∈ zAll := zPr_29 8 rfl
theorem zs_yX0_catchUp : Cond.selects RX0 yX0_catchUp yX0_catchUp ∈ zAll := zPr_29 9 rfl
theorem zs_yX0_pour : Cond.selects RX0 yX0_pour yX0_pour ∈ zAll := zPr_29 10 rfl
theorem zs_yX0_sellDeal : Cond.selects RX0 yX0_sellDeal yX0_sellDeal ∈ zAll := zPr_29 11 rfl
theorem zs_yX0_shiftToBurden : Cond.selects RX0 yX0_shiftToBurden yX0_shiftToBurden ∈ zAll := zPr_29 12 rfl
theorem zs_yX0_sellAll : Cond.selects RX0 yX0_sellAll yX0_sellAll ∈ zAll := zPr_29 13 rfl
theorem zs_yX0_dueNow : Cond.selects RX0 yX0_dueNow yX0_dueNow ∈ zAll := zPr_29 14 rfl
theorem zs_yX0_clawFromOut : Cond.selects RX0 yX0_clawFromOut yX0_clawFromOut ∈ zAll := zPr_29 15 rfl
theorem zs_yX0_clawDue : Cond.selects RX0 yX0_clawDue yX0_clawDue ∈ zAll := zPr_29 16 rfl
theorem zs_yX0_settle : Cond.selects RX0 yX0_settle yX0_settle ∈ zAll := zPr_29 17 rfl
theorem zs_yX0_retrace : Cond.selects RX0 yX0_retrace yX0_retrace ∈ zAll := zPr_29 18 rfl
theorem zs_yX1_clear : Cond.selects RX1 yX1_clear yX1_clear ∈ zAll := zPr_29 19 rfl
theorem zs_yX1_copyFrom : Cond.selects RX1 yX1_copyFrom yX1_copyFrom ∈ zAll := zPr_29 20 rfl
theorem zs_yX1_readFrom : Cond.selects RX1 yX1_readFrom yX1_readFrom ∈ zAll := zPr_29 21 rfl
theorem zs_yX1_readTerms : Cond.selects RX1 yX1_readTerms yX1_readTerms ∈ zAll := zPr_29 22 rfl
theorem zs_yX1_readLine : Cond.selects RX1 yX1_readLine yX1_readLine ∈ zAll := zPr_29 23 rfl
theorem zs_yX1_readExcuse : Cond.selects RX1 yX1_readExcuse yX1_readExcuse ∈ zAll := zPr_29 24 rfl
theorem zs_yX2_copyFrom : Cond.selects RX2 yX2_copyFrom yX2_copyFrom ∈ zAll := zPr_29 25 rfl
theorem zs_yX2_write : Cond.selects RX2 yX2_write yX2_write ∈ zAll := zPr_29 26 rfl
theorem zs_yX2_writeComing : Cond.selects RX2 yX2_writeComing yX2_writeComing ∈ zAll := zPr_29 27 rfl
theorem zs_yX3_search : Cond.selects RX3 yX3_search yX3_search ∈ zAll := zPr_29 28 rfl
theorem zs_yX3_tryFrom : Cond.selects RX3 yX3_tryFrom yX3_tryFrom ∈ zAll := zPr_29 29 rfl
theorem zs_yX4_open : Cond.selects RX4 yX4_open yX4_open ∈ zAll := zPr_29 30 rfl
theorem zs_yX4_hasFailed : Cond.selects RX4 yX4_hasFailed yX4_hasFailed ∈ zAll := zPr_29 31 rfl
theorem zs_yX4_isExcused : Cond.selects RX4 yX4_isExcused yX4_isExcused ∈ zAll := zPr_29 32 rfl
theorem zs_yX4_weightOf : Cond.selects RX4 yX4_weightOf yX4_weightOf ∈ zAll := zPr_29 33 rfl
theorem zs_yX4_allOf : Cond.selects RX4 yX4_allOf yX4_allOf ∈ zAll := zPr_29 34 rfl
theorem zs_yX4_weighFor : Cond.selects RX4 yX4_weighFor yX4_weighFor ∈ zAll := zPr_29 35 rfl
theorem zs_yX4_weighUncalled : Cond.selects RX4 yX4_weighUncalled yX4_weighUncalled ∈ zAll := zPr_29 36 rfl
theorem zs_yX4_callable : Cond.selects RX4 yX4_callable yX4_callable ∈ zAll := zPr_29 37 rfl
theorem zs_yX4_split : Cond.selects RX4 yX4_split yX4_split ∈ zAll := zPr_29 38 rfl
theorem zs_yX4_setFailed : Cond.selects RX4 yX4_setFailed yX4_setFailed ∈ zAll := zPr_29 39 rfl
theorem zs_yX4_canHandOver : Cond.selects RX4 yX4_canHandOver yX4_canHandOver ∈ zAll := zPr_30 0 rfl
theorem zs_yX4_handOver : Cond.selects RX4 yX4_handOver yX4_handOver ∈ zAll := zPr_30 1 rfl
theorem zs_yX5_open : Cond.selects RX5 yX5_open yX5_open ∈ zAll := zPr_30 2 rfl
theorem zs_yX5_canBe : Cond.selects RX5 yX5_canBe yX5_canBe ∈ zAll := zPr_30 3 rfl
theorem zs_yX5_perform : Cond.selects RX5 yX5_perform yX5_perform ∈ zAll := zPr_30 4 rfl
theorem zs_yX5_follow : Cond.selects RX5 yX5_follow yX5_follow ∈ zAll := zPr_30 5 rfl
theorem zs_yX5_fullFee : Cond.selects RX5 yX5_fullFee yX5_fullFee ∈ zAll := zPr_30 6 rfl
theorem zs_yX5_passQuarter : Cond.selects RX5 yX5_passQuarter yX5_passQuarter ∈ zAll := zPr_30 7 rfl
theorem zs_yX5_takeIn : Cond.selects RX5 yX5_takeIn yX5_takeIn ∈ zAll := zPr_30 8 rfl
theorem zs_yX5_handOut : Cond.selects RX5 yX5_handOut yX5_handOut ∈ zAll := zPr_30 9 rfl
theorem zs_yX6_append : Cond.selects RX6 yX6_append yX6_append ∈ zAll := zPr_30 10 rfl
theorem zs_yX6_rewind : Cond.selects RX6 yX6_rewind yX6_rewind ∈ zAll := zPr_30 11 rfl
theorem zs_yX6_isRight : Cond.selects RX6 yX6_isRight yX6_isRight ∈ zAll := zPr_30 12 rfl
theorem zs_yX6_refuse : Cond.selects RX6 yX6_refuse yX6_refuse ∈ zAll := zPr_30 13 rfl
theorem zs_yX6_refuseNext : Cond.selects RX6 yX6_refuseNext yX6_refuseNext ∈ zAll := zPr_30 14 rfl
theorem zs_yX6_next : Cond.selects RX6 yX6_next yX6_next ∈ zAll := zPr_30 15 rfl
theorem zs_yX6_isThrough : Cond.selects RX6 yX6_isThrough yX6_isThrough ∈ zAll := zPr_30 16 rfl
theorem zs_yX6_takeSemicolon : Cond.selects RX6 yX6_takeSemicolon yX6_takeSemicolon ∈ zAll := zPr_30 17 rfl
theorem zs_yX6_isLetterAt : Cond.selects RX6 yX6_isLetterAt yX6_isLetterAt ∈ zAll := zPr_30 18 rfl
theorem zs_yX6_takeWord : Cond.selects RX6 yX6_takeWord yX6_takeWord ∈ zAll := zPr_30 19 rfl
theorem zs_yX6_takeNumber : Cond.selects RX6 yX6_takeNumber yX6_takeNumber ∈ zAll := zPr_30 20 rfl
theorem zs_yX6_takeNumberUnlike : Cond.selects RX6 yX6_takeNumberUnlike yX6_takeNumberUnlike ∈ zAll := zPr_30 21 rfl
theorem zs_yX6_takeKind : Cond.selects RX6 yX6_takeKind yX6_takeKind ∈ zAll := zPr_30 22 rfl
theorem zs_yX7_clear : Cond.selects RX7 yX7_clear yX7_clear ∈ zAll := zPr_30 23 rfl
theorem zs_yX7_add : Cond.selects RX7 yX7_add yX7_add ∈ zAll := zPr_30 24 rfl
theorem zs_yX7_flow : Cond.selects RX7 yX7_flow yX7_flow ∈ zAll := zPr_30 25 rfl
theorem zs_yX7_worth : Cond.selects RX7 yX7_worth yX7_worth ∈ zAll := zPr_30 26 rfl
theorem zs_yX8_feed : Cond.selects RX8 yX8_feed yX8_feed ∈ zAll := zPr_30 27 rfl
theorem zs_yX8_end : Cond.selects RX8 yX8_end yX8_end ∈ zAll := zPr_30 28 rfl
theorem zs_yX8_fund : Cond.selects RX8 yX8_fund yX8_fund ∈ zAll := zPr_30 29 rfl
theorem zs_yX8_acts : Cond.selects RX8 yX8_acts yX8_acts ∈ zAll := zPr_30 30 rfl
theorem zs_yX8_fault : Cond.selects RX8 yX8_fault yX8_fault ∈ zAll := zPr_30 31 rfl
theorem zs_yX8_term : Cond.selects RX8 yX8_term yX8_term ∈ zAll := zPr_30 32 rfl
theorem zs_yX8_investor : Cond.selects RX8 yX8_investor yX8_investor ∈ zAll := zPr_30 33 rfl
theorem zs_yX8_deal : Cond.selects RX8 yX8_deal yX8_deal ∈ zAll := zPr_30 34 rfl
theorem zs_yX8_ladder : Cond.selects RX8 yX8_ladder yX8_ladder ∈ zAll := zPr_30 35 rfl
theorem zs_yX8_manager : Cond.selects RX8 yX8_manager yX8_manager ∈ zAll := zPr_30 36 rfl
theorem zs_yX8_call : Cond.selects RX8 yX8_call yX8_call ∈ zAll := zPr_30 37 rfl
theorem zs_yX8_sell : Cond.selects RX8 yX8_sell yX8_sell ∈ zAll := zPr_30 38 rfl
theorem zs_yX8_mark : Cond.selects RX8 yX8_mark yX8_mark ∈ zAll := zPr_30 39 rfl
theorem zs_yX8_quarters : Cond.selects RX8 yX8_quarters yX8_quarters ∈ zAll := zPr_31 0 rfl
theorem zs_yX8_fail : Cond.selects RX8 yX8_fail yX8_fail ∈ zAll := zPr_31 1 rfl
theorem zs_yX8_move : Cond.selects RX8 yX8_move yX8_move ∈ zAll := zPr_31 2 rfl
theorem zs_yX8_close : Cond.selects RX8 yX8_close yX8_close ∈ zAll := zPr_31 3 rfl
theorem zs_yX8_undo : Cond.selects RX8 yX8_undo yX8_undo ∈ zAll := zPr_31 4 rfl
theorem zs_yX8_filling : Cond.selects RX8 yX8_filling yX8_filling ∈ zAll := zPr_31 5 rfl
theorem zs_yX8_needed : Cond.selects RX8 yX8_needed yX8_needed ∈ zAll := zPr_31 6 rfl
theorem zs_yX8_reaches : Cond.selects RX8 yX8_reaches yX8_reaches ∈ zAll := zPr_31 7 rfl
theorem zs_yX8_share : Cond.selects RX8 yX8_share yX8_share ∈ zAll := zPr_31 8 rfl
theorem zs_yX8_claw : Cond.selects RX8 yX8_claw yX8_claw ∈ zAll := zPr_31 9 rfl
theorem zs_yX8_soldOut : Cond.selects RX8 yX8_soldOut yX8_soldOut ∈ zAll := zPr_31 10 rfl
theorem zs_yX8_order : Cond.selects RX8 yX8_order yX8_order ∈ zAll := zPr_31 11 rfl
theorem zs_yX8_would : Cond.selects RX8 yX8_would yX8_would ∈ zAll := zPr_31 12 rfl
theorem zs_yX8_bar : Cond.selects RX8 yX8_bar yX8_bar ∈ zAll := zPr_31 13 rfl
theorem zs_yX8_drift : Cond.selects RX8 yX8_drift yX8_drift ∈ zAll := zPr_31 14 rfl
theorem zs_yX8_swapped : Cond.selects RX8 yX8_swapped yX8_swapped ∈ zAll := zPr_31 15 rfl
theorem zs_yX8_without : Cond.selects RX8 yX8_without yX8_without ∈ zAll := zPr_31 16 rfl
theorem zs_yX8_behind : Cond.selects RX8 yX8_behind yX8_behind ∈ zAll := zPr_31 17 rfl
theorem zs_yX8_clean : Cond.selects RX8 yX8_clean yX8_clean ∈ zAll := zPr_31 18 rfl
theorem zs_yX8_idle : Cond.selects RX8 yX8_idle yX8_idle ∈ zAll := zPr_31 19 rfl
theorem zs_yX8_blame : Cond.selects RX8 yX8_blame yX8_blame ∈ zAll := zPr_31 20 rfl
theorem zs_yX8_most : Cond.selects RX8 yX8_most yX8_most ∈ zAll := zPr_31 21 rfl
theorem zs_yX8_owed : Cond.selects RX8 yX8_owed yX8_owed ∈ zAll := zPr_31 22 rfl
theorem zs_yX8_patience : Cond.selects RX8 yX8_patience yX8_patience ∈ zAll := zPr_31 23 rfl
theorem zs_yX8_deals : Cond.selects RX8 yX8_deals yX8_deals ∈ zAll := zPr_31 24 rfl
theorem zs_yX8_curve : Cond.selects RX8 yX8_curve yX8_curve ∈ zAll := zPr_31 25 rfl
theorem zs_yX8_curves : Cond.selects RX8 yX8_curves yX8_curves ∈ zAll := zPr_31 26 rfl
theorem zs_yX8_rate : Cond.selects RX8 yX8_rate yX8_rate ∈ zAll := zPr_31 27 rfl
theorem zs_yX8_multiple : Cond.selects RX8 yX8_multiple yX8_multiple ∈ zAll := zPr_31 28 rfl
theorem zs_yX8_act : Cond.selects RX8 yX8_act yX8_act ∈ zAll := zPr_31 29 rfl
theorem zs_yX8_image : Cond.selects RX8 yX8_image yX8_image ∈ zAll := zPr_31 30 rfl
theorem zs_yX8_back : Cond.selects RX8 yX8_back yX8_back ∈ zAll := zPr_31 31 rfl
theorem zs_yX8_count : Cond.selects RX8 yX8_count yX8_count ∈ zAll := zPr_31 32 rfl
theorem zs_yX8_isInvestor : Cond.selects RX8 yX8_isInvestor yX8_isInvestor ∈ zAll := zPr_31 33 rfl
theorem zs_yX8_isDeal : Cond.selects RX8 yX8_isDeal yX8_isDeal ∈ zAll := zPr_31 34 rfl
theorem zs_yX8_isDealOrNone : Cond.selects RX8 yX8_isDealOrNone yX8_isDealOrNone ∈ zAll := zPr_31 35 rfl
theorem zs_yX8_measureAt : Cond.selects RX8 yX8_measureAt yX8_measureAt ∈ zAll := zPr_31 36 rfl
theorem zs_yX8_done : Cond.selects RX8 yX8_done yX8_done ∈ zAll := zPr_31 37 rfl
theorem zs_yX8_doAndWrite : Cond.selects RX8 yX8_doAndWrite yX8_doAndWrite ∈ zAll := zPr_31 38 rfl
theorem zs_yX8_goThroughAnew : Cond.selects RX8 yX8_goThroughAnew yX8_goThroughAnew ∈ zAll := zPr_31 39 rfl
theorem zs_yX8_netTakenWithout : Cond.selects RX8 yX8_netTakenWithout yX8_netTakenWithout ∈ zAll := zPr_32 0 rfl
theorem zs_yX8_booksUnder : Cond.selects RX8 yX8_booksUnder yX8_booksUnder ∈ zAll := zPr_32 1 rfl
theorem zs_yX8_readActs : Cond.selects RX8 yX8_readActs yX8_readActs ∈ zAll := zPr_32 2 rfl
theorem zs_yX8_readAct : Cond.selects RX8 yX8_readAct yX8_readAct ∈ zAll := zPr_32 3 rfl
theorem zs_yX9_thrown : Cond.selects RX9 yX9_thrown yX9_thrown ∈ zAll := zPr_32 4 rfl
theorem zs_yX9_isInvestor : Cond.selects RX9 yX9_isInvestor yX9_isInvestor ∈ zAll := zPr_32 5 rfl
theorem zs_yX9_isDeal : Cond.selects RX9 yX9_isDeal yX9_isDeal ∈ zAll := zPr_32 6 rfl
theorem zs_yX9_uncalled : Cond.selects RX9 yX9_uncalled yX9_uncalled ∈ zAll := zPr_32 7 rfl
theorem zs_yX9_weightOf : Cond.selects RX9 yX9_weightOf yX9_weightOf ∈ zAll := zPr_32 8 rfl
theorem zs_yX9_anew : Cond.selects RX9 yX9_anew yX9_anew ∈ zAll := zPr_32 9 rfl
theorem zs_yX9_worksOut : Cond.selects RX9 yX9_worksOut yX9_worksOut ∈ zAll := zPr_32 10 rfl
theorem zs_yX9_doesAgain : Cond.selects RX9 yX9_doesAgain yX9_doesAgain ∈ zAll := zPr_32 11 rfl
theorem zs_yX9_putsAside : Cond.selects RX9 yX9_putsAside yX9_putsAside ∈ zAll := zPr_32 12 rfl
theorem zs_yX9_comesBack : Cond.selects RX9 yX9_comesBack yX9_comesBack ∈ zAll := zPr_32 13 rfl
theorem zs_yX9_shares : Cond.selects RX9 yX9_shares yX9_shares ∈ zAll := zPr_32 14 rfl
theorem zs_yX9_isExcused : Cond.selects RX9 yX9_isExcused yX9_isExcused ∈ zAll := zPr_32 15 rfl
theorem zs_yX9_byWeights : Cond.selects RX9 yX9_byWeights yX9_byWeights ∈ zAll := zPr_32 16 rfl
theorem zs_yX9_getsAll : Cond.selects RX9 yX9_getsAll yX9_getsAll ∈ zAll := zPr_32 17 rfl
theorem zs_yX9_paysAll : Cond.selects RX9 yX9_paysAll yX9_paysAll ∈ zAll := zPr_32 18 rfl
theorem zs_yX9_takes : Cond.selects RX9 yX9_takes yX9_takes ∈ zAll := zPr_32 19 rfl
theorem zs_yX9_caught : Cond.selects RX9 yX9_caught yX9_caught ∈ zAll := zPr_32 20 rfl
theorem zs_yX9_fills : Cond.selects RX9 yX9_fills yX9_fills ∈ zAll := zPr_32 21 rfl
theorem zs_yX9_isDealwise : Cond.selects RX9 yX9_isDealwise yX9_isDealwise ∈ zAll := zPr_32 22 rfl
theorem zs_yX9_sells : Cond.selects RX9 yX9_sells yX9_sells ∈ zAll := zPr_32 23 rfl
theorem zs_yX9_quarterGoes : Cond.selects RX9 yX9_quarterGoes yX9_quarterGoes ∈ zAll := zPr_32 24 rfl
theorem zs_yX9_fromHeld : Cond.selects RX9 yX9_fromHeld yX9_fromHeld ∈ zAll := zPr_32 25 rfl
theorem zs_yX9_fromOut : Cond.selects RX9 yX9_fromOut yX9_fromOut ∈ zAll := zPr_32 26 rfl
theorem zs_yX9_ends : Cond.selects RX9 yX9_ends yX9_ends ∈ zAll := zPr_32 27 rfl
theorem zs_yX9_movedBy : Cond.selects RX9 yX9_movedBy yX9_movedBy ∈ zAll := zPr_32 28 rfl
theorem zs_yX9_moves : Cond.selects RX9 yX9_moves yX9_moves ∈ zAll := zPr_32 29 rfl
theorem zs_yX9_does : Cond.selects RX9 yX9_does yX9_does ∈ zAll := zPr_32 30 rfl
theorem zs_yX9_areClosed : Cond.selects RX9 yX9_areClosed yX9_areClosed ∈ zAll := zPr_32 31 rfl
theorem zs_yX9_canMove : Cond.selects RX9 yX9_canMove yX9_canMove ∈ zAll := zPr_32 32 rfl
theorem zs_yX9_canBe : Cond.selects RX9 yX9_canBe yX9_canBe ∈ zAll := zPr_32 33 rfl
theorem zs_yX9_writesDown : Cond.selects RX9 yX9_writesDown yX9_writesDown ∈ zAll := zPr_32 34 rfl
theorem zs_yX9_acts : Cond.selects RX9 yX9_acts yX9_acts ∈ zAll := zPr_32 35 rfl
theorem zs_yX9_feed : Cond.selects RX9 yX9_feed yX9_feed ∈ zAll := zPr_32 36 rfl
theorem zs_yX9_end : Cond.selects RX9 yX9_end yX9_end ∈ zAll := zPr_32 37 rfl
theorem zs_yX9_begins : Cond.selects RX9 yX9_begins yX9_begins ∈ zAll := zPr_32 38 rfl
theorem zs_yX9_here : Cond.selects RX9 yX9_here yX9_here ∈ zAll := zPr_32 39 rfl
theorem zs_yX9_wrong : Cond.selects RX9 yX9_wrong yX9_wrong ∈ zAll := zPr_33 0 rfl
theorem zs_yX9_has : Cond.selects RX9 yX9_has yX9_has ∈ zAll := zPr_33 1 rfl
theorem zs_yX9_number : Cond.selects RX9 yX9_number yX9_number ∈ zAll := zPr_33 2 rfl
theorem zs_yX9_comesMore : Cond.selects RX9 yX9_comesMore yX9_comesMore ∈ zAll := zPr_33 3 rfl
theorem zs_yX9_termLine : Cond.selects RX9 yX9_termLine yX9_termLine ∈ zAll := zPr_33 4 rfl
theorem zs_yX9_excuseLine : Cond.selects RX9 yX9_excuseLine yX9_excuseLine ∈ zAll := zPr_33 5 rfl
theorem zs_yX9_fundLine : Cond.selects RX9 yX9_fundLine yX9_fundLine ∈ zAll := zPr_33 6 rfl
theorem zs_yX9_fund : Cond.selects RX9 yX9_fund yX9_fund ∈ zAll := zPr_33 7 rfl
theorem zs_yX9_actLine : Cond.selects RX9 yX9_actLine yX9_actLine ∈ zAll := zPr_33 8 rfl
theorem zs_yX9_acts_ : Cond.selects RX9 yX9_acts_ yX9_acts_ ∈ zAll := zPr_33 9 rfl
theorem zs_yX9_fault : Cond.selects RX9 yX9_fault yX9_fault ∈ zAll := zPr_33 10 rfl
theorem zs_yX9_term : Cond.selects RX9 yX9_term yX9_term ∈ zAll := zPr_33 11 rfl
theorem zs_yX9_investor : Cond.selects RX9 yX9_investor yX9_investor ∈ zAll := zPr_33 12 rfl
theorem zs_yX9_deal : Cond.selects RX9 yX9_deal yX9_deal ∈ zAll := zPr_33 13 rfl
theorem zs_yX9_ladder : Cond.selects RX9 yX9_ladder yX9_ladder ∈ zAll := zPr_33 14 rfl
theorem zs_yX9_manager : Cond.selects RX9 yX9_manager yX9_manager ∈ zAll := zPr_33 15 rfl
theorem zs_yX9_call : Cond.selects RX9 yX9_call yX9_call ∈ zAll := zPr_33 16 rfl
theorem zs_yX9_sell : Cond.selects RX9 yX9_sell yX9_sell ∈ zAll := zPr_33 17 rfl
theorem zs_yX9_mark : Cond.selects RX9 yX9_mark yX9_mark ∈ zAll := zPr_33 18 rfl
theorem zs_yX9_quarters : Cond.selects RX9 yX9_quarters yX9_quarters ∈ zAll := zPr_33 19 rfl
theorem zs_yX9_fail : Cond.selects RX9 yX9_fail yX9_fail ∈ zAll := zPr_33 20 rfl
theorem zs_yX9_move : Cond.selects RX9 yX9_move yX9_move ∈ zAll := zPr_33 21 rfl
theorem zs_yX9_close : Cond.selects RX9 yX9_close yX9_close ∈ zAll := zPr_33 22 rfl
theorem zs_yX9_undo : Cond.selects RX9 yX9_undo yX9_undo ∈ zAll := zPr_33 23 rfl
theorem zs_yX9_ladderOf : Cond.selects RX9 yX9_ladderOf yX9_ladderOf ∈ zAll := zPr_33 24 rfl
theorem zs_yX9_filling : Cond.selects RX9 yX9_filling yX9_filling ∈ zAll := zPr_33 25 rfl
theorem zs_yX9_needed : Cond.selects RX9 yX9_needed yX9_needed ∈ zAll := zPr_33 26 rfl
theorem zs_yX9_hersOf : Cond.selects RX9 yX9_hersOf yX9_hersOf ∈ zAll := zPr_33 27 rfl
theorem zs_yX9_reaches : Cond.selects RX9 yX9_reaches yX9_reaches ∈ zAll := zPr_33 28 rfl
theorem zs_yX9_share : Cond.selects RX9 yX9_share yX9_share ∈ zAll := zPr_33 29 rfl
theorem zs_yX9_claw0 : Cond.selects RX9 yX9_claw0 yX9_claw0 ∈ zAll := zPr_33 30 rfl
theorem zs_yX9_claw : Cond.selects RX9 yX9_claw yX9_claw ∈ zAll := zPr_33 31 rfl
theorem zs_yX9_soldOut : Cond.selects RX9 yX9_soldOut yX9_soldOut ∈ zAll := zPr_33 32 rfl
theorem zs_yX9_triesRow : Cond.selects RX9 yX9_triesRow yX9_triesRow ∈ zAll := zPr_33 33 rfl
theorem zs_yX9_goesOn : Cond.selects RX9 yX9_goesOn yX9_goesOn ∈ zAll := zPr_33 34 rfl
theorem zs_yX9_order : Cond.selects RX9 yX9_order yX9_order ∈ zAll := zPr_33 35 rfl
theorem zs_yX9_would : Cond.selects RX9 yX9_would yX9_would ∈ zAll := zPr_33 36 rfl
theorem zs_yX9_keptBy : Cond.selects RX9 yX9_keptBy yX9_keptBy ∈ zAll := zPr_33 37 rfl
theorem zs_yX9_bar : Cond.selects RX9 yX9_bar yX9_bar ∈ zAll := zPr_33 38 rfl
theorem zs_yX9_drift : Cond.selects RX9 yX9_drift yX9_drift ∈ zAll := zPr_33 39 rfl
theorem zs_yX9_canAgain : Cond.selects RX9 yX9_canAgain yX9_canAgain ∈ zAll := zPr_34 0 rfl
theorem zs_yX9_keeps : Cond.selects RX9 yX9_keeps yX9_keeps ∈ zAll := zPr_34 1 rfl
theorem zs_yX9_swapped : Cond.selects RX9 yX9_swapped yX9_swapped ∈ zAll := zPr_34 2 rfl
theorem zs_yX9_without : Cond.selects RX9 yX9_without yX9_without ∈ zAll := zPr_34 3 rfl
theorem zs_yX9_keptWithout : Cond.selects RX9 yX9_keptWithout yX9_keptWithout ∈ zAll := zPr_34 4 rfl
theorem zs_yX9_gotAll : Cond.selects RX9 yX9_gotAll yX9_gotAll ∈ zAll := zPr_34 5 rfl
theorem zs_yX9_worksOutTo : Cond.selects RX9 yX9_worksOutTo yX9_worksOutTo ∈ zAll := zPr_34 6 rfl
theorem zs_yX9_behind : Cond.selects RX9 yX9_behind yX9_behind ∈ zAll := zPr_34 7 rfl
theorem zs_yX9_most : Cond.selects RX9 yX9_most yX9_most ∈ zAll := zPr_34 8 rfl
theorem zs_yX9_clean : Cond.selects RX9 yX9_clean yX9_clean ∈ zAll := zPr_34 9 rfl
theorem zs_yX9_idle : Cond.selects RX9 yX9_idle yX9_idle ∈ zAll := zPr_34 10 rfl
theorem zs_yX9_blame : Cond.selects RX9 yX9_blame yX9_blame ∈ zAll := zPr_34 11 rfl
theorem zs_yX9_owes : Cond.selects RX9 yX9_owes yX9_owes ∈ zAll := zPr_34 12 rfl
theorem zs_yX9_owed : Cond.selects RX9 yX9_owed yX9_owed ∈ zAll := zPr_34 13 rfl
theorem zs_yX9_sellsOut : Cond.selects RX9 yX9_sellsOut yX9_sellsOut ∈ zAll := zPr_34 14 rfl
theorem zs_yX9_patience : Cond.selects RX9 yX9_patience yX9_patience ∈ zAll := zPr_34 15 rfl
theorem zs_yX9_gainOf : Cond.selects RX9 yX9_gainOf yX9_gainOf ∈ zAll := zPr_34 16 rfl
theorem zs_yX9_deals : Cond.selects RX9 yX9_deals yX9_deals ∈ zAll := zPr_34 17 rfl
theorem zs_yX9_curveAt : Cond.selects RX9 yX9_curveAt yX9_curveAt ∈ zAll := zPr_34 18 rfl
theorem zs_yX9_curve : Cond.selects RX9 yX9_curve yX9_curve ∈ zAll := zPr_34 19 rfl
theorem zs_yX9_curves : Cond.selects RX9 yX9_curves yX9_curves ∈ zAll := zPr_34 20 rfl
theorem zs_yX9_flowIn : Cond.selects RX9 yX9_flowIn yX9_flowIn ∈ zAll := zPr_34 21 rfl
theorem zs_yX9_rate : Cond.selects RX9 yX9_rate yX9_rate ∈ zAll := zPr_34 22 rfl
theorem zs_yX9_multiple : Cond.selects RX9 yX9_multiple yX9_multiple ∈ zAll := zPr_34 23 rfl
theorem zs_yX9_act : Cond.selects RX9 yX9_act yX9_act ∈ zAll := zPr_34 24 rfl
theorem zs_yX9_image : Cond.selects RX9 yX9_image yX9_image ∈ zAll := zPr_34 25 rfl
theorem zs_yX9_back : Cond.selects RX9 yX9_back yX9_back ∈ zAll := zPr_34 26 rfl
theorem zs_yX9_count : Cond.selects RX9 yX9_count yX9_count ∈ zAll := zPr_34 27 rfl
theorem zs_yJ0_length_8abf5 : Cond.selects RJ0 yJ0_length_8abf5 yJ0_length_8abf5 ∈ zAll := zPr_34 28 rfl
theorem zs_yJ0_charAt_5068e : Cond.selects RJ0 yJ0_charAt_5068e yJ0_charAt_5068e ∈ zAll := zPr_34 29 rfl
theorem zs_yJ0_coder_7d493 : Cond.selects RJ0 yJ0_coder_7d493 yJ0_coder_7d493 ∈ zAll := zPr_34 30 rfl
theorem zs_yJ0_isLatin1_aae02 : Cond.selects RJ0 yJ0_isLatin1_aae02 yJ0_isLatin1_aae02 ∈ zAll := zPr_34 31 rfl

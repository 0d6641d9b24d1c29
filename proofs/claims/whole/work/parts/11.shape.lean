/-! ===== the cells as the constructors make them: what each is, what refers to what ===== -/
def gstab : List (Nat × Nat) := [(11, 0), (7, 0), (14, 16), (14, 16), (14, 16), (14, 16), (14, 16), (14, 16), (14, 16), (6, 0), (14, 48), (10, 0), (14, 100), (17, 10), (9, 0), (14, 8), (14, 8), (14, 32), (14, 32), (14, 100), (9, 0), (14, 8), (14, 8), (14, 32), (14, 32), (14, 100), (9, 0), (14, 8), (14, 8), (14, 32), (14, 32), (14, 100), (9, 0), (14, 8), (14, 8), (14, 32), (14, 32), (14, 100), (9, 0), (14, 8), (14, 8), (14, 32), (14, 32), (14, 100), (9, 0), (14, 8), (14, 8), (14, 32), (14, 32), (14, 100), (9, 0), (14, 8), (14, 8), (14, 32), (14, 32), (14, 100), (9, 0), (14, 8), (14, 8), (14, 32), (14, 32), (14, 100), (9, 0), (14, 8), (14, 8), (14, 32), (14, 32), (14, 100), (9, 0), (14, 8), (14, 8), (14, 32), (14, 32), (14, 100), (5, 0), (14, 16), (3, 0), (14, 16), (1, 0), (14, 4), (14, 4), (14, 4), (14, 4), (14, 16), (8, 0), (14, 40), (14, 40), (14, 40), (14, 40), (14, 40), (16, 40), (14, 40), (14, 40), (14, 40), (14, 40), (2, 0), (14, 20), (14, 20), (14, 20), (14, 20), (14, 20), (4, 0), (14, 40), (0, 0), (14, 60), (15, 4), (18, 16), (15, 32), (15, 32), (15, 32), (15, 32), (15, 32), (15, 32), (15, 32), (15, 32), (15, 32), (15, 32), (15, 32), (15, 32), (15, 32), (15, 32), (15, 32), (15, 32), (15, 32), (15, 32), (15, 32), (0, 0), (14, 60), (15, 4), (18, 16), (15, 32), (15, 32), (15, 32), (15, 32), (15, 32), (15, 32), (15, 32), (15, 32), (15, 32), (15, 32), (15, 32), (15, 32), (15, 32), (15, 32), (15, 32), (15, 32), (15, 32), (15, 32), (15, 32), (12, 0), (13, 100), (14, 16), (14, 16), (14, 16), (14, 16), (14, 16), (14, 48), (14, 10), (14, 10), (14, 10), (14, 10), (14, 80), (14, 80), (14, 80), (16, 320), (14, 320), (14, 320), (14, 1000), (14, 1000), (14, 120), (16, 120), (14, 16), (14, 4), (14, 16), (14, 40), (14, 40), (14, 40), (14, 40), (14, 40), (14, 40), (16, 40), (14, 40), (14, 40), (14, 40), (14, 20), (14, 20), (14, 20), (14, 20), (14, 20), (14, 200), (14, 200), (15, 120), (14, 100), (14, 100)]
def grtab : List (List (Option Nat)) := [[some 1, some 9, some 11, some 13, some 74, some 76, some 78, some 84, some 95, some 101, some 103, some 126, none, none, none, none], [some 2, some 3, some 4, some 5, some 6, some 7, some 8, none, none], [], [], [], [], [], [], [], [some 10, none], [], [some 12, none, none, none, none], [], [some 14, some 20, some 26, some 32, some 38, some 44, some 50, some 56, some 62, some 68], [some 15, some 16, some 17, some 18, some 19, none, none, none, none, none, none, none, none], [], [], [], [], [], [some 21, some 22, some 23, some 24, some 25, none, none, none, none, none, none, none, none], [], [], [], [], [], [some 27, some 28, some 29, some 30, some 31, none, none, none, none, none, none, none, none], [], [], [], [], [], [some 33, some 34, some 35, some 36, some 37, none, none, none, none, none, none, none, none], [], [], [], [], [], [some 39, some 40, some 41, some 42, some 43, none, none, none, none, none, none, none, none], [], [], [], [], [], [some 45, some 46, some 47, some 48, some 49, none, none, none, none, none, none, none, none], [], [], [], [], [], [some 51, some 52, some 53, some 54, some 55, none, none, none, none, none, none, none, none], [], [], [], [], [], [some 57, some 58, some 59, some 60, some 61, none, none, none, none, none, none, none, none], [], [], [], [], [], [some 63, some 64, some 65, some 66, some 67, none, none, none, none, none, none, none, none], [], [], [], [], [], [some 69, some 70, some 71, some 72, some 73, none, none, none, none, none, none, none, none], [], [], [], [], [], [some 75, none, none], [], [some 77, none], [], [some 1, some 9, some 74, some 76, some 79, some 80, some 81, some 82, some 83, none, none, none, none], [], [], [], [], [], [some 85, some 86, some 87, some 88, some 89, some 90, some 91, some 92, some 93, some 94, none], [], [], [], [], [], [], [], [], [], [], [some 96, some 97, some 98, some 99, some 100, none], [], [], [], [], [], [some 84, some 74, some 76, some 102, none, none, none, none, none], [], [some 104, some 105, some 106, some 123, some 124, some 125, none, none, none, none, none], [], [], [some 107, some 108, some 109, some 110, some 111, some 112, some 113, some 114, some 115, some 116, some 117, some 118, some 119, some 120, some 121, some 122], [], [], [], [], [], [], [], [], [], [], [], [], [], [], [], [], [], [], [], [some 127, some 128, some 129, some 146, some 147, some 148, none, none, none, none, none], [], [], [some 130, some 131, some 132, some 133, some 134, some 135, some 136, some 137, some 138, some 139, some 140, some 141, some 142, some 143, some 144, some 145], [], [], [], [], [], [], [], [], [], [], [], [], [], [], [], [], [], [], [], [some 150, none, none, none, none, none, none, none, none, none, some 151, some 152, some 153, some 154, some 155, some 156, some 157, some 158, some 159, some 160, some 161, some 162, some 163, some 164, some 165, some 166, some 167, some 168, none, none, none, none, none, none, none, none, some 169, some 170, some 171, none, none, some 172, none, some 173, some 174, some 175, some 176, some 177, some 178, some 179, some 180, some 181, some 182, some 183, some 184, some 185, some 186, some 187, some 188, none, none, none, some 189, some 190, some 191, some 192, some 193], [], [], [], [], [], [], [], [], [], [], [], [], [], [], [], [], [], [], [], [], [], [], [], [], [], [], [], [], [], [], [], [], [], [], [], [], [], [], [], [], [], [], [], []]
def gS0 : gSt := (194, fun a => gstab.getD a (0, 0))
def gact (w : Bool) : Nat := cond w 126 103
def gR0 (w : Bool) : gRt := fun a j => if a = 0 ∧ j = 10 then some (gact w) else if a = 0 ∧ j = 11 then some (gact (!w)) else (grtab.getD a []).getD j none
def gI0 : gIt := gu2 (gu2 (gu2 (gu2 (fun _ _ => 0) 0 14 1700) 9 1 5) 149 2 1700) 149 8 5
theorem ss_0 : gS0.2 0 = (11, 0) := rfl
theorem sk_0 : (gS0.2 0).1 = 11 := rfl
theorem sl_0 : 0 < gS0.1 := by decide
theorem rr_0_0 (w : Bool) : gR0 w 0 0 = some 1 := rfl
theorem rr_0_1 (w : Bool) : gR0 w 0 1 = some 9 := rfl
theorem rr_0_2 (w : Bool) : gR0 w 0 2 = some 11 := rfl
theorem rr_0_3 (w : Bool) : gR0 w 0 3 = some 13 := rfl
theorem rr_0_4 (w : Bool) : gR0 w 0 4 = some 74 := rfl
theorem rr_0_5 (w : Bool) : gR0 w 0 5 = some 76 := rfl
theorem rr_0_6 (w : Bool) : gR0 w 0 6 = some 78 := rfl
theorem rr_0_7 (w : Bool) : gR0 w 0 7 = some 84 := rfl
theorem rr_0_8 (w : Bool) : gR0 w 0 8 = some 95 := rfl
theorem rr_0_9 (w : Bool) : gR0 w 0 9 = some 101 := rfl
theorem ss_1 : gS0.2 1 = (7, 0) := rfl
theorem sk_1 : (gS0.2 1).1 = 7 := rfl
theorem sl_1 : 1 < gS0.1 := by decide
theorem rr_1_0 (w : Bool) : gR0 w 1 0 = some 2 := rfl
theorem rr_1_1 (w : Bool) : gR0 w 1 1 = some 3 := rfl
theorem rr_1_2 (w : Bool) : gR0 w 1 2 = some 4 := rfl
theorem rr_1_3 (w : Bool) : gR0 w 1 3 = some 5 := rfl
theorem rr_1_4 (w : Bool) : gR0 w 1 4 = some 6 := rfl
theorem rr_1_5 (w : Bool) : gR0 w 1 5 = some 7 := rfl
theorem rr_1_6 (w : Bool) : gR0 w 1 6 = some 8 := rfl
theorem ss_2 : gS0.2 2 = (14, 16) := rfl
theorem sk_2 : (gS0.2 2).1 = 14 := rfl
theorem sl_2 : 2 < gS0.1 := by decide
theorem ss_3 : gS0.2 3 = (14, 16) := rfl
theorem sk_3 : (gS0.2 3).1 = 14 := rfl
theorem sl_3 : 3 < gS0.1 := by decide
theorem ss_4 : gS0.2 4 = (14, 16) := rfl
theorem sk_4 : (gS0.2 4).1 = 14 := rfl
theorem sl_4 : 4 < gS0.1 := by decide
theorem ss_5 : gS0.2 5 = (14, 16) := rfl
theorem sk_5 : (gS0.2 5).1 = 14 := rfl
theorem sl_5 : 5 < gS0.1 := by decide
theorem ss_6 : gS0.2 6 = (14, 16) := rfl
theorem sk_6 : (gS0.2 6).1 = 14 := rfl
theorem sl_6 : 6 < gS0.1 := by decide
theorem ss_7 : gS0.2 7 = (14, 16) := rfl
theorem sk_7 : (gS0.2 7).1 = 14 := rfl
theorem sl_7 : 7 < gS0.1 := by decide
theorem ss_8 : gS0.2 8 = (14, 16) := rfl
theorem sk_8 : (gS0.2 8).1 = 14 := rfl
theorem sl_8 : 8 < gS0.1 := by decide
theorem ss_9 : gS0.2 9 = (6, 0) := rfl
theorem sk_9 : (gS0.2 9).1 = 6 := rfl
theorem sl_9 : 9 < gS0.1 := by decide
theorem rr_9_0 (w : Bool) : gR0 w 9 0 = some 10 := rfl
theorem ss_10 : gS0.2 10 = (14, 48) := rfl
theorem sk_10 : (gS0.2 10).1 = 14 := rfl
theorem sl_10 : 10 < gS0.1 := by decide
theorem ss_11 : gS0.2 11 = (10, 0) := rfl
theorem sk_11 : (gS0.2 11).1 = 10 := rfl
theorem sl_11 : 11 < gS0.1 := by decide
theorem rr_11_0 (w : Bool) : gR0 w 11 0 = some 12 := rfl
theorem ss_12 : gS0.2 12 = (14, 100) := rfl
theorem sk_12 : (gS0.2 12).1 = 14 := rfl
theorem sl_12 : 12 < gS0.1 := by decide
theorem ss_13 : gS0.2 13 = (17, 10) := rfl
theorem sk_13 : (gS0.2 13).1 = 17 := rfl
theorem sl_13 : 13 < gS0.1 := by decide
theorem ss_74 : gS0.2 74 = (5, 0) := rfl
theorem sk_74 : (gS0.2 74).1 = 5 := rfl
theorem sl_74 : 74 < gS0.1 := by decide
theorem rr_74_0 (w : Bool) : gR0 w 74 0 = some 75 := rfl
theorem ss_75 : gS0.2 75 = (14, 16) := rfl
theorem sk_75 : (gS0.2 75).1 = 14 := rfl
theorem sl_75 : 75 < gS0.1 := by decide
theorem ss_76 : gS0.2 76 = (3, 0) := rfl
theorem sk_76 : (gS0.2 76).1 = 3 := rfl
theorem sl_76 : 76 < gS0.1 := by decide
theorem rr_76_0 (w : Bool) : gR0 w 76 0 = some 77 := rfl
theorem ss_77 : gS0.2 77 = (14, 16) := rfl
theorem sk_77 : (gS0.2 77).1 = 14 := rfl
theorem sl_77 : 77 < gS0.1 := by decide
theorem ss_78 : gS0.2 78 = (1, 0) := rfl
theorem sk_78 : (gS0.2 78).1 = 1 := rfl
theorem sl_78 : 78 < gS0.1 := by decide
theorem rr_78_4 (w : Bool) : gR0 w 78 4 = some 79 := rfl
theorem rr_78_5 (w : Bool) : gR0 w 78 5 = some 80 := rfl
theorem rr_78_6 (w : Bool) : gR0 w 78 6 = some 81 := rfl
theorem rr_78_7 (w : Bool) : gR0 w 78 7 = some 82 := rfl
theorem rr_78_8 (w : Bool) : gR0 w 78 8 = some 83 := rfl
theorem rr_78_0 (w : Bool) : gR0 w 78 0 = some 1 := rfl
theorem rr_78_1 (w : Bool) : gR0 w 78 1 = some 9 := rfl
theorem rr_78_2 (w : Bool) : gR0 w 78 2 = some 74 := rfl
theorem rr_78_3 (w : Bool) : gR0 w 78 3 = some 76 := rfl
theorem ss_79 : gS0.2 79 = (14, 4) := rfl
theorem sk_79 : (gS0.2 79).1 = 14 := rfl
theorem sl_79 : 79 < gS0.1 := by decide
theorem ss_80 : gS0.2 80 = (14, 4) := rfl
theorem sk_80 : (gS0.2 80).1 = 14 := rfl
theorem sl_80 : 80 < gS0.1 := by decide
theorem ss_81 : gS0.2 81 = (14, 4) := rfl
theorem sk_81 : (gS0.2 81).1 = 14 := rfl
theorem sl_81 : 81 < gS0.1 := by decide
theorem ss_82 : gS0.2 82 = (14, 4) := rfl
theorem sk_82 : (gS0.2 82).1 = 14 := rfl
theorem sl_82 : 82 < gS0.1 := by decide
theorem ss_83 : gS0.2 83 = (14, 16) := rfl
theorem sk_83 : (gS0.2 83).1 = 14 := rfl
theorem sl_83 : 83 < gS0.1 := by decide
theorem ss_84 : gS0.2 84 = (8, 0) := rfl
theorem sk_84 : (gS0.2 84).1 = 8 := rfl
theorem sl_84 : 84 < gS0.1 := by decide
theorem rr_84_0 (w : Bool) : gR0 w 84 0 = some 85 := rfl
theorem rr_84_1 (w : Bool) : gR0 w 84 1 = some 86 := rfl
theorem rr_84_2 (w : Bool) : gR0 w 84 2 = some 87 := rfl
theorem rr_84_3 (w : Bool) : gR0 w 84 3 = some 88 := rfl
theorem rr_84_4 (w : Bool) : gR0 w 84 4 = some 89 := rfl
theorem rr_84_5 (w : Bool) : gR0 w 84 5 = some 90 := rfl
theorem rr_84_6 (w : Bool) : gR0 w 84 6 = some 91 := rfl
theorem rr_84_7 (w : Bool) : gR0 w 84 7 = some 92 := rfl
theorem rr_84_8 (w : Bool) : gR0 w 84 8 = some 93 := rfl
theorem rr_84_9 (w : Bool) : gR0 w 84 9 = some 94 := rfl
theorem ss_85 : gS0.2 85 = (14, 40) := rfl
theorem sk_85 : (gS0.2 85).1 = 14 := rfl
theorem sl_85 : 85 < gS0.1 := by decide
theorem ss_86 : gS0.2 86 = (14, 40) := rfl
theorem sk_86 : (gS0.2 86).1 = 14 := rfl
theorem sl_86 : 86 < gS0.1 := by decide
theorem ss_87 : gS0.2 87 = (14, 40) := rfl
theorem sk_87 : (gS0.2 87).1 = 14 := rfl
theorem sl_87 : 87 < gS0.1 := by decide
theorem ss_88 : gS0.2 88 = (14, 40) := rfl
theorem sk_88 : (gS0.2 88).1 = 14 := rfl
theorem sl_88 : 88 < gS0.1 := by decide
theorem ss_89 : gS0.2 89 = (14, 40) := rfl
theorem sk_89 : (gS0.2 89).1 = 14 := rfl
theorem sl_89 : 89 < gS0.1 := by decide
theorem ss_90 : gS0.2 90 = (16, 40) := rfl
theorem sk_90 : (gS0.2 90).1 = 16 := rfl
theorem sl_90 : 90 < gS0.1 := by decide
theorem ss_91 : gS0.2 91 = (14, 40) := rfl
theorem sk_91 : (gS0.2 91).1 = 14 := rfl
theorem sl_91 : 91 < gS0.1 := by decide
theorem ss_92 : gS0.2 92 = (14, 40) := rfl
theorem sk_92 : (gS0.2 92).1 = 14 := rfl
theorem sl_92 : 92 < gS0.1 := by decide
theorem ss_93 : gS0.2 93 = (14, 40) := rfl
theorem sk_93 : (gS0.2 93).1 = 14 := rfl
theorem sl_93 : 93 < gS0.1 := by decide
theorem ss_94 : gS0.2 94 = (14, 40) := rfl
theorem sk_94 : (gS0.2 94).1 = 14 := rfl
theorem sl_94 : 94 < gS0.1 := by decide
theorem ss_95 : gS0.2 95 = (2, 0) := rfl
theorem sk_95 : (gS0.2 95).1 = 2 := rfl
theorem sl_95 : 95 < gS0.1 := by decide
theorem rr_95_0 (w : Bool) : gR0 w 95 0 = some 96 := rfl
theorem rr_95_1 (w : Bool) : gR0 w 95 1 = some 97 := rfl
theorem rr_95_2 (w : Bool) : gR0 w 95 2 = some 98 := rfl
theorem rr_95_3 (w : Bool) : gR0 w 95 3 = some 99 := rfl
theorem rr_95_4 (w : Bool) : gR0 w 95 4 = some 100 := rfl
theorem ss_96 : gS0.2 96 = (14, 20) := rfl
theorem sk_96 : (gS0.2 96).1 = 14 := rfl
theorem sl_96 : 96 < gS0.1 := by decide
theorem ss_97 : gS0.2 97 = (14, 20) := rfl
theorem sk_97 : (gS0.2 97).1 = 14 := rfl
theorem sl_97 : 97 < gS0.1 := by decide
theorem ss_98 : gS0.2 98 = (14, 20) := rfl
theorem sk_98 : (gS0.2 98).1 = 14 := rfl
theorem sl_98 : 98 < gS0.1 := by decide
theorem ss_99 : gS0.2 99 = (14, 20) := rfl
theorem sk_99 : (gS0.2 99).1 = 14 := rfl
theorem sl_99 : 99 < gS0.1 := by decide
theorem ss_100 : gS0.2 100 = (14, 20) := rfl
theorem sk_100 : (gS0.2 100).1 = 14 := rfl
theorem sl_100 : 100 < gS0.1 := by decide
theorem ss_101 : gS0.2 101 = (4, 0) := rfl
theorem sk_101 : (gS0.2 101).1 = 4 := rfl
theorem sl_101 : 101 < gS0.1 := by decide
theorem rr_101_3 (w : Bool) : gR0 w 101 3 = some 102 := rfl
theorem rr_101_0 (w : Bool) : gR0 w 101 0 = some 84 := rfl
theorem rr_101_1 (w : Bool) : gR0 w 101 1 = some 74 := rfl
theorem rr_101_2 (w : Bool) : gR0 w 101 2 = some 76 := rfl
theorem ss_102 : gS0.2 102 = (14, 40) := rfl
theorem sk_102 : (gS0.2 102).1 = 14 := rfl
theorem sl_102 : 102 < gS0.1 := by decide
theorem ss_149 : gS0.2 149 = (12, 0) := rfl
theorem sk_149 : (gS0.2 149).1 = 12 := rfl
theorem sl_149 : 149 < gS0.1 := by decide
theorem rr_149_0 (w : Bool) : gR0 w 149 0 = some 150 := rfl
theorem rr_149_10 (w : Bool) : gR0 w 149 10 = some 151 := rfl
theorem rr_149_11 (w : Bool) : gR0 w 149 11 = some 152 := rfl
theorem rr_149_12 (w : Bool) : gR0 w 149 12 = some 153 := rfl
theorem rr_149_13 (w : Bool) : gR0 w 149 13 = some 154 := rfl
theorem rr_149_14 (w : Bool) : gR0 w 149 14 = some 155 := rfl
theorem rr_149_15 (w : Bool) : gR0 w 149 15 = some 156 := rfl
theorem rr_149_16 (w : Bool) : gR0 w 149 16 = some 157 := rfl
theorem rr_149_17 (w : Bool) : gR0 w 149 17 = some 158 := rfl
theorem rr_149_18 (w : Bool) : gR0 w 149 18 = some 159 := rfl
theorem rr_149_19 (w : Bool) : gR0 w 149 19 = some 160 := rfl
theorem rr_149_20 (w : Bool) : gR0 w 149 20 = some 161 := rfl
theorem rr_149_21 (w : Bool) : gR0 w 149 21 = some 162 := rfl
theorem rr_149_22 (w : Bool) : gR0 w 149 22 = some 163 := rfl
theorem rr_149_23 (w : Bool) : gR0 w 149 23 = some 164 := rfl
theorem rr_149_24 (w : Bool) : gR0 w 149 24 = some 165 := rfl
theorem rr_149_25 (w : Bool) : gR0 w 149 25 = some 166 := rfl
theorem rr_149_26 (w : Bool) : gR0 w 149 26 = some 167 := rfl
theorem rr_149_27 (w : Bool) : gR0 w 149 27 = some 168 := rfl
theorem rr_149_36 (w : Bool) : gR0 w 149 36 = some 169 := rfl
theorem rr_149_37 (w : Bool) : gR0 w 149 37 = some 170 := rfl
theorem rr_149_38 (w : Bool) : gR0 w 149 38 = some 171 := rfl
theorem rr_149_41 (w : Bool) : gR0 w 149 41 = some 172 := rfl
theorem rr_149_43 (w : Bool) : gR0 w 149 43 = some 173 := rfl
theorem rr_149_44 (w : Bool) : gR0 w 149 44 = some 174 := rfl
theorem rr_149_45 (w : Bool) : gR0 w 149 45 = some 175 := rfl
theorem rr_149_46 (w : Bool) : gR0 w 149 46 = some 176 := rfl
theorem rr_149_47 (w : Bool) : gR0 w 149 47 = some 177 := rfl
theorem rr_149_48 (w : Bool) : gR0 w 149 48 = some 178 := rfl
theorem rr_149_49 (w : Bool) : gR0 w 149 49 = some 179 := rfl
theorem rr_149_50 (w : Bool) : gR0 w 149 50 = some 180 := rfl
theorem rr_149_51 (w : Bool) : gR0 w 149 51 = some 181 := rfl
theorem rr_149_52 (w : Bool) : gR0 w 149 52 = some 182 := rfl
theorem rr_149_53 (w : Bool) : gR0 w 149 53 = some 183 := rfl
theorem rr_149_54 (w : Bool) : gR0 w 149 54 = some 184 := rfl
theorem rr_149_55 (w : Bool) : gR0 w 149 55 = some 185 := rfl
theorem rr_149_56 (w : Bool) : gR0 w 149 56 = some 186 := rfl
theorem rr_149_57 (w : Bool) : gR0 w 149 57 = some 187 := rfl
theorem rr_149_58 (w : Bool) : gR0 w 149 58 = some 188 := rfl
theorem rr_149_62 (w : Bool) : gR0 w 149 62 = some 189 := rfl
theorem rr_149_63 (w : Bool) : gR0 w 149 63 = some 190 := rfl
theorem rr_149_64 (w : Bool) : gR0 w 149 64 = some 191 := rfl
theorem rr_149_65 (w : Bool) : gR0 w 149 65 = some 192 := rfl
theorem rr_149_66 (w : Bool) : gR0 w 149 66 = some 193 := rfl
theorem ss_150 : gS0.2 150 = (13, 100) := rfl
theorem sk_150 : (gS0.2 150).1 = 13 := rfl
theorem sl_150 : 150 < gS0.1 := by decide
theorem ss_151 : gS0.2 151 = (14, 16) := rfl
theorem sk_151 : (gS0.2 151).1 = 14 := rfl
theorem sl_151 : 151 < gS0.1 := by decide
theorem ss_152 : gS0.2 152 = (14, 16) := rfl
theorem sk_152 : (gS0.2 152).1 = 14 := rfl
theorem sl_152 : 152 < gS0.1 := by decide
theorem ss_153 : gS0.2 153 = (14, 16) := rfl
theorem sk_153 : (gS0.2 153).1 = 14 := rfl
theorem sl_153 : 153 < gS0.1 := by decide
theorem ss_154 : gS0.2 154 = (14, 16) := rfl
theorem sk_154 : (gS0.2 154).1 = 14 := rfl
theorem sl_154 : 154 < gS0.1 := by decide
theorem ss_155 : gS0.2 155 = (14, 16) := rfl
theorem sk_155 : (gS0.2 155).1 = 14 := rfl
theorem sl_155 : 155 < gS0.1 := by decide
theorem ss_156 : gS0.2 156 = (14, 48) := rfl
theorem sk_156 : (gS0.2 156).1 = 14 := rfl
theorem sl_156 : 156 < gS0.1 := by decide
theorem ss_157 : gS0.2 157 = (14, 10) := rfl
theorem sk_157 : (gS0.2 157).1 = 14 := rfl
theorem sl_157 : 157 < gS0.1 := by decide
theorem ss_158 : gS0.2 158 = (14, 10) := rfl
theorem sk_158 : (gS0.2 158).1 = 14 := rfl
theorem sl_158 : 158 < gS0.1 := by decide
theorem ss_159 : gS0.2 159 = (14, 10) := rfl
theorem sk_159 : (gS0.2 159).1 = 14 := rfl
theorem sl_159 : 159 < gS0.1 := by decide
theorem ss_160 : gS0.2 160 = (14, 10) := rfl
theorem sk_160 : (gS0.2 160).1 = 14 := rfl
theorem sl_160 : 160 < gS0.1 := by decide
theorem ss_161 : gS0.2 161 = (14, 80) := rfl
theorem sk_161 : (gS0.2 161).1 = 14 := rfl
theorem sl_161 : 161 < gS0.1 := by decide
theorem ss_162 : gS0.2 162 = (14, 80) := rfl
theorem sk_162 : (gS0.2 162).1 = 14 := rfl
theorem sl_162 : 162 < gS0.1 := by decide
theorem ss_163 : gS0.2 163 = (14, 80) := rfl
theorem sk_163 : (gS0.2 163).1 = 14 := rfl
theorem sl_163 : 163 < gS0.1 := by decide
theorem ss_164 : gS0.2 164 = (16, 320) := rfl
theorem sk_164 : (gS0.2 164).1 = 16 := rfl
theorem sl_164 : 164 < gS0.1 := by decide
theorem ss_165 : gS0.2 165 = (14, 320) := rfl
theorem sk_165 : (gS0.2 165).1 = 14 := rfl
theorem sl_165 : 165 < gS0.1 := by decide
theorem ss_166 : gS0.2 166 = (14, 320) := rfl
theorem sk_166 : (gS0.2 166).1 = 14 := rfl
theorem sl_166 : 166 < gS0.1 := by decide
theorem ss_167 : gS0.2 167 = (14, 1000) := rfl
theorem sk_167 : (gS0.2 167).1 = 14 := rfl
theorem sl_167 : 167 < gS0.1 := by decide
theorem ss_168 : gS0.2 168 = (14, 1000) := rfl
theorem sk_168 : (gS0.2 168).1 = 14 := rfl
theorem sl_168 : 168 < gS0.1 := by decide
theorem ss_169 : gS0.2 169 = (14, 120) := rfl
theorem sk_169 : (gS0.2 169).1 = 14 := rfl
theorem sl_169 : 169 < gS0.1 := by decide
theorem ss_170 : gS0.2 170 = (16, 120) := rfl
theorem sk_170 : (gS0.2 170).1 = 16 := rfl
theorem sl_170 : 170 < gS0.1 := by decide
theorem ss_171 : gS0.2 171 = (14, 16) := rfl
theorem sk_171 : (gS0.2 171).1 = 14 := rfl
theorem sl_171 : 171 < gS0.1 := by decide
theorem ss_172 : gS0.2 172 = (14, 4) := rfl
theorem sk_172 : (gS0.2 172).1 = 14 := rfl
theorem sl_172 : 172 < gS0.1 := by decide
theorem ss_173 : gS0.2 173 = (14, 16) := rfl
theorem sk_173 : (gS0.2 173).1 = 14 := rfl
theorem sl_173 : 173 < gS0.1 := by decide
theorem ss_174 : gS0.2 174 = (14, 40) := rfl
theorem sk_174 : (gS0.2 174).1 = 14 := rfl
theorem sl_174 : 174 < gS0.1 := by decide
theorem ss_175 : gS0.2 175 = (14, 40) := rfl
theorem sk_175 : (gS0.2 175).1 = 14 := rfl
theorem sl_175 : 175 < gS0.1 := by decide
theorem ss_176 : gS0.2 176 = (14, 40) := rfl
theorem sk_176 : (gS0.2 176).1 = 14 := rfl
theorem sl_176 : 176 < gS0.1 := by decide
theorem ss_177 : gS0.2 177 = (14, 40) := rfl
theorem sk_177 : (gS0.2 177).1 = 14 := rfl
theorem sl_177 : 177 < gS0.1 := by decide
theorem ss_178 : gS0.2 178 = (14, 40) := rfl
theorem sk_178 : (gS0.2 178).1 = 14 := rfl
theorem sl_178 : 178 < gS0.1 := by decide
theorem ss_179 : gS0.2 179 = (14, 40) := rfl
theorem sk_179 : (gS0.2 179).1 = 14 := rfl
theorem sl_179 : 179 < gS0.1 := by decide
theorem ss_180 : gS0.2 180 = (16, 40) := rfl
theorem sk_180 : (gS0.2 180).1 = 16 := rfl
theorem sl_180 : 180 < gS0.1 := by decide
theorem ss_181 : gS0.2 181 = (14, 40) := rfl
theorem sk_181 : (gS0.2 181).1 = 14 := rfl
theorem sl_181 : 181 < gS0.1 := by decide
theorem ss_182 : gS0.2 182 = (14, 40) := rfl
theorem sk_182 : (gS0.2 182).1 = 14 := rfl
theorem sl_182 : 182 < gS0.1 := by decide
theorem ss_183 : gS0.2 183 = (14, 40) := rfl
theorem sk_183 : (gS0.2 183).1 = 14 := rfl
theorem sl_183 : 183 < gS0.1 := by decide
theorem ss_184 : gS0.2 184 = (14, 20) := rfl
theorem sk_184 : (gS0.2 184).1 = 14 := rfl
theorem sl_184 : 184 < gS0.1 := by decide
theorem ss_185 : gS0.2 185 = (14, 20) := rfl
theorem sk_185 : (gS0.2 185).1 = 14 := rfl
theorem sl_185 : 185 < gS0.1 := by decide
theorem ss_186 : gS0.2 186 = (14, 20) := rfl
theorem sk_186 : (gS0.2 186).1 = 14 := rfl
theorem sl_186 : 186 < gS0.1 := by decide
theorem ss_187 : gS0.2 187 = (14, 20) := rfl
theorem sk_187 : (gS0.2 187).1 = 14 := rfl
theorem sl_187 : 187 < gS0.1 := by decide
theorem ss_188 : gS0.2 188 = (14, 20) := rfl
theorem sk_188 : (gS0.2 188).1 = 14 := rfl
theorem sl_188 : 188 < gS0.1 := by decide
theorem ss_189 : gS0.2 189 = (14, 200) := rfl
theorem sk_189 : (gS0.2 189).1 = 14 := rfl
theorem sl_189 : 189 < gS0.1 := by decide
theorem ss_190 : gS0.2 190 = (14, 200) := rfl
theorem sk_190 : (gS0.2 190).1 = 14 := rfl
theorem sl_190 : 190 < gS0.1 := by decide
theorem ss_191 : gS0.2 191 = (15, 120) := rfl
theorem sk_191 : (gS0.2 191).1 = 15 := rfl
theorem sl_191 : 191 < gS0.1 := by decide
theorem ss_192 : gS0.2 192 = (14, 100) := rfl
theorem sk_192 : (gS0.2 192).1 = 14 := rfl
theorem sl_192 : 192 < gS0.1 := by decide
theorem ss_193 : gS0.2 193 = (14, 100) := rfl
theorem sk_193 : (gS0.2 193).1 = 14 := rfl
theorem sl_193 : 193 < gS0.1 := by decide
theorem rr_0_10 (w : Bool) : gR0 w 0 10 = some (gact w) := rfl
theorem rr_0_11 (w : Bool) : gR0 w 0 11 = some (gact (!w)) := rfl
-- the settlements
def gset (a : Nat) : Prop := ∃ s, s < 10 ∧ a = 14 + 6 * s
theorem gset_cases {P : Nat → Prop} (h0 : P 14) (h1 : P 20) (h2 : P 26) (h3 : P 32) (h4 : P 38) (h5 : P 44) (h6 : P 50) (h7 : P 56) (h8 : P 62) (h9 : P 68) {a : Nat} (h : gset a) : P a := by
  obtain ⟨s, hs, rfl⟩ := h
  rcases (show s = 0 ∨ s = 1 ∨ s = 2 ∨ s = 3 ∨ s = 4 ∨ s = 5 ∨ s = 6 ∨ s = 7 ∨ s = 8 ∨ s = 9 by omega) with rfl | rfl | rfl | rfl | rfl | rfl | rfl | rfl | rfl | rfl <;> assumption
theorem gset_sk {a : Nat} (h : gset a) : (gS0.2 a).1 = 9 := gset_cases (P := fun a => (gS0.2 a).1 = 9) rfl rfl rfl rfl rfl rfl rfl rfl rfl rfl h
theorem gset_sl {a : Nat} (h : gset a) : a < gS0.1 := gset_cases (P := fun a => a < gS0.1) (by decide) (by decide) (by decide) (by decide) (by decide) (by decide) (by decide) (by decide) (by decide) (by decide) h
theorem gset_r0 (w : Bool) {a : Nat} (h : gset a) : gR0 w a 0 = some (a + 1) := gset_cases (P := fun a => gR0 w a 0 = some (a + 1)) rfl rfl rfl rfl rfl rfl rfl rfl rfl rfl h
theorem gset_s0 {a : Nat} (h : gset a) : gS0.2 (a + 1) = (14, 8) := gset_cases (P := fun a => gS0.2 (a + 1) = (14, 8)) rfl rfl rfl rfl rfl rfl rfl rfl rfl rfl h
theorem gset_l0 {a : Nat} (h : gset a) : a + 1 < gS0.1 := by obtain ⟨s, hs, rfl⟩ := h; show 14 + 6 * s + 1 < 194; omega
theorem gset_r1 (w : Bool) {a : Nat} (h : gset a) : gR0 w a 1 = some (a + 2) := gset_cases (P := fun a => gR0 w a 1 = some (a + 2)) rfl rfl rfl rfl rfl rfl rfl rfl rfl rfl h
theorem gset_s1 {a : Nat} (h : gset a) : gS0.2 (a + 2) = (14, 8) := gset_cases (P := fun a => gS0.2 (a + 2) = (14, 8)) rfl rfl rfl rfl rfl rfl rfl rfl rfl rfl h
theorem gset_l1 {a : Nat} (h : gset a) : a + 2 < gS0.1 := by obtain ⟨s, hs, rfl⟩ := h; show 14 + 6 * s + 2 < 194; omega
theorem gset_r2 (w : Bool) {a : Nat} (h : gset a) : gR0 w a 2 = some (a + 3) := gset_cases (P := fun a => gR0 w a 2 = some (a + 3)) rfl rfl rfl rfl rfl rfl rfl rfl rfl rfl h
theorem gset_s2 {a : Nat} (h : gset a) : gS0.2 (a + 3) = (14, 32) := gset_cases (P := fun a => gS0.2 (a + 3) = (14, 32)) rfl rfl rfl rfl rfl rfl rfl rfl rfl rfl h
theorem gset_l2 {a : Nat} (h : gset a) : a + 3 < gS0.1 := by obtain ⟨s, hs, rfl⟩ := h; show 14 + 6 * s + 3 < 194; omega
theorem gset_r3 (w : Bool) {a : Nat} (h : gset a) : gR0 w a 3 = some (a + 4) := gset_cases (P := fun a => gR0 w a 3 = some (a + 4)) rfl rfl rfl rfl rfl rfl rfl rfl rfl rfl h
theorem gset_s3 {a : Nat} (h : gset a) : gS0.2 (a + 4) = (14, 32) := gset_cases (P := fun a => gS0.2 (a + 4) = (14, 32)) rfl rfl rfl rfl rfl rfl rfl rfl rfl rfl h
theorem gset_l3 {a : Nat} (h : gset a) : a + 4 < gS0.1 := by obtain ⟨s, hs, rfl⟩ := h; show 14 + 6 * s + 4 < 194; omega
theorem gset_r4 (w : Bool) {a : Nat} (h : gset a) : gR0 w a 4 = some (a + 5) := gset_cases (P := fun a => gR0 w a 4 = some (a + 5)) rfl rfl rfl rfl rfl rfl rfl rfl rfl rfl h
theorem gset_s4 {a : Nat} (h : gset a) : gS0.2 (a + 5) = (14, 100) := gset_cases (P := fun a => gS0.2 (a + 5) = (14, 100)) rfl rfl rfl rfl rfl rfl rfl rfl rfl rfl h
theorem gset_l4 {a : Nat} (h : gset a) : a + 5 < gS0.1 := by obtain ⟨s, hs, rfl⟩ := h; show 14 + 6 * s + 5 < 194; omega
theorem gset_of {i : Nat} (h : i < 10) : gset (14 + 6 * i) := ⟨i, h, rfl⟩
theorem gset_ar (w : Bool) {i : Nat} (h : i < 10) : gR0 w 13 i = some (14 + 6 * i) := by
  rcases (show i = 0 ∨ i = 1 ∨ i = 2 ∨ i = 3 ∨ i = 4 ∨ i = 5 ∨ i = 6 ∨ i = 7 ∨ i = 8 ∨ i = 9 by omega) with rfl | rfl | rfl | rfl | rfl | rfl | rfl | rfl | rfl | rfl <;> rfl
-- the acts
def gisa (a : Nat) : Prop := a = 103 ∨ a = 126
theorem gisa_act (w : Bool) : gisa (gact w) := by cases w <;> simp [gisa, gact]
theorem gisa_sk {a : Nat} (h : gisa a) : (gS0.2 a).1 = 0 := by rcases h with rfl | rfl <;> rfl
theorem gisa_sl {a : Nat} (h : gisa a) : a < gS0.1 := by rcases h with rfl | rfl <;> decide
theorem gisa_r0 (w : Bool) {a : Nat} (h : gisa a) : gR0 w a 0 = some (a + 1) := by rcases h with rfl | rfl <;> rfl
theorem gisa_s0 {a : Nat} (h : gisa a) : gS0.2 (a + 1) = (14, 60) := by rcases h with rfl | rfl <;> rfl
theorem gisa_l0 {a : Nat} (h : gisa a) : a + 1 < gS0.1 := by rcases h with rfl | rfl <;> decide
theorem gisa_r1 (w : Bool) {a : Nat} (h : gisa a) : gR0 w a 1 = some (a + 2) := by rcases h with rfl | rfl <;> rfl
theorem gisa_s1 {a : Nat} (h : gisa a) : gS0.2 (a + 2) = (15, 4) := by rcases h with rfl | rfl <;> rfl
theorem gisa_l1 {a : Nat} (h : gisa a) : a + 2 < gS0.1 := by rcases h with rfl | rfl <;> decide
theorem gisa_r2 (w : Bool) {a : Nat} (h : gisa a) : gR0 w a 2 = some (a + 3) := by rcases h with rfl | rfl <;> rfl
theorem gisa_s2 {a : Nat} (h : gisa a) : gS0.2 (a + 3) = (18, 16) := by rcases h with rfl | rfl <;> rfl
theorem gisa_l2 {a : Nat} (h : gisa a) : a + 3 < gS0.1 := by rcases h with rfl | rfl <;> decide
theorem gisa_r3 (w : Bool) {a : Nat} (h : gisa a) : gR0 w a 3 = some (a + 20) := by rcases h with rfl | rfl <;> rfl
theorem gisa_s3 {a : Nat} (h : gisa a) : gS0.2 (a + 20) = (15, 32) := by rcases h with rfl | rfl <;> rfl
theorem gisa_l3 {a : Nat} (h : gisa a) : a + 20 < gS0.1 := by rcases h with rfl | rfl <;> decide
theorem gisa_r4 (w : Bool) {a : Nat} (h : gisa a) : gR0 w a 4 = some (a + 21) := by rcases h with rfl | rfl <;> rfl
theorem gisa_s4 {a : Nat} (h : gisa a) : gS0.2 (a + 21) = (15, 32) := by rcases h with rfl | rfl <;> rfl
theorem gisa_l4 {a : Nat} (h : gisa a) : a + 21 < gS0.1 := by rcases h with rfl | rfl <;> decide
theorem gisa_r5 (w : Bool) {a : Nat} (h : gisa a) : gR0 w a 5 = some (a + 22) := by rcases h with rfl | rfl <;> rfl
theorem gisa_s5 {a : Nat} (h : gisa a) : gS0.2 (a + 22) = (15, 32) := by rcases h with rfl | rfl <;> rfl
theorem gisa_l5 {a : Nat} (h : gisa a) : a + 22 < gS0.1 := by rcases h with rfl | rfl <;> decide
theorem gisa_ar (w : Bool) {a i : Nat} (h : gisa a) (hi : i < 16) : gR0 w (a + 3) i = some (a + 4 + i) := by
  rcases (show i = 0 ∨ i = 1 ∨ i = 2 ∨ i = 3 ∨ i = 4 ∨ i = 5 ∨ i = 6 ∨ i = 7 ∨ i = 8 ∨ i = 9 ∨ i = 10 ∨ i = 11 ∨ i = 12 ∨ i = 13 ∨ i = 14 ∨ i = 15 by omega) with rfl | rfl | rfl | rfl | rfl | rfl | rfl | rfl | rfl | rfl | rfl | rfl | rfl | rfl | rfl | rfl <;> rcases h with rfl | rfl <;> rfl
theorem gisa_as {a i : Nat} (h : gisa a) (hi : i < 16) : gS0.2 (a + 4 + i) = (15, 32) := by
  rcases (show i = 0 ∨ i = 1 ∨ i = 2 ∨ i = 3 ∨ i = 4 ∨ i = 5 ∨ i = 6 ∨ i = 7 ∨ i = 8 ∨ i = 9 ∨ i = 10 ∨ i = 11 ∨ i = 12 ∨ i = 13 ∨ i = 14 ∨ i = 15 by omega) with rfl | rfl | rfl | rfl | rfl | rfl | rfl | rfl | rfl | rfl | rfl | rfl | rfl | rfl | rfl | rfl <;> rcases h with rfl | rfl <;> rfl
theorem gisa_al {a i : Nat} (h : gisa a) (hi : i < 16) : a + 4 + i < gS0.1 := by
  rcases h with rfl | rfl
  · show 103 + 4 + i < 194; omega
  · show 126 + 4 + i < 194; omega
/-! ===== small words of the printed programs ===== -/
def gshl (x y : Int32) : Int32 := x <<< (y &&& 31)
def gshr (x y : Int32) : Int32 := x >>> (y &&& 31)
def gushr (x y : Int32) : Int32 := (x.toUInt32 >>> (y.toUInt32 &&& Int32.toUInt32 31)).toInt32
def grem (x y : Int32) : Int32 := x - x / y * y
def gin (i : Int32) (N : Nat) : Bool := decide (¬ i < 0) && decide (i.toNatClampNeg < N)
theorem gin_in {i : Int32} {N : Nat} (h : gin i N = true) : vp_in i N := by
  simp only [gin, Bool.and_eq_true, decide_eq_true_eq] at h
  intro q
  rcases q with q | q
  · exact h.1 q
  · omega
theorem gin_lt {i : Int32} {N : Nat} (h : gin i N = true) : i.toNatClampNeg < N := by
  simp only [gin, Bool.and_eq_true, decide_eq_true_eq] at h
  exact h.2
def gck {α : Type} (b : Bool) (k : Option α) : Option α := bif b then k else none
theorem gck_some {α : Type} {b : Bool} {k : Option α} {v : α} (h : gck b k = some v) : b = true ∧ k = some v := by
  cases b with
  | false => cases h
  | true => exact ⟨rfl, h⟩
theorem gck_t {α : Type} {b : Bool} {k : Option α} (h : b = true) : gck b k = k := by rw [h]; rfl
def gL {α β : Type} (x : α) (f : α → Option β) : Option β := f x
theorem gL_some {α β : Type} {x e : α} {f : α → Option β} {v : β} (hx : x = e) (h : gL e f = some v) : f x = some v := by rw [hx]; exact h
def gB {α β : Type} (o : Option α) (f : α → Option β) : Option β := o.bind f
theorem gB_some {α β : Type} {o : Option α} {f : α → Option β} {v : β} (h : gB o f = some v) : ∃ x, o = some x ∧ f x = some v := by
  cases o with
  | none => cases h
  | some x => exact ⟨x, rfl, h⟩
theorem git {α : Type} {c : Prop} {i : Decidable c} {a b : Option α} {v : α} (hc : c) (h : @ite _ c i a b = some v) : a = some v := by rwa [if_pos hc] at h
theorem gif {α : Type} {c : Prop} {i : Decidable c} {a b : Option α} {v : α} (hc : ¬ c) (h : @ite _ c i a b = some v) : b = some v := by rwa [if_neg hc] at h
/-- how many rounds a loop may take -/
def gFu : Nat := 1000000
/-- a truth value, as a number -/
def gbo (x : Int32) : Bool := decide (x = 0) || decide (x = 1)
theorem gbo_or {x : Int32} (h : gbo x = true) : x = 0 ∨ x = 1 := by simpa [gbo] using h
theorem gbo_nf {x : Int32} (h : gbo x = true) : narrow .boolean (.int x) = .int x ∧ fits .boolean (.int x) = true := by
  rcases gbo_or h with rfl | rfl <;> exact ⟨rfl, rfl⟩
theorem gside_s {a b : Nat} (h : gisa a) (hb : b = a + 21 ∨ b = a + 22) : gS0.2 b = (15, 32) := by
  rcases h with rfl | rfl <;> rcases hb with rfl | rfl <;> rfl
theorem gside_l {a b : Nat} (h : gisa a) (hb : b = a + 21 ∨ b = a + 22) : b < gS0.1 := by
  rcases h with rfl | rfl <;> rcases hb with rfl | rfl <;> decide

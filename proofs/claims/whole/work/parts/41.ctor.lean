/-! ===== the constructors ===== -/
def gz32 : gIt := fun _ _ => 0
def gz64 : gJt := fun _ _ => 0
theorem gobj_w : Cond.instanceMethod objectInit ∈ gtb ∧ Cond.code objectInit ⟨#[0xb1]⟩ 1 none ∈ gtb := ⟨gtb_in 111 (by decide +kernel) (by decide +kernel), gtb_in 112 (by decide +kernel) (by decide +kernel)⟩
theorem gac_0 : Cond.arrayClass .byte ∈ gtb := gtb_in 1278 (by decide +kernel) (by decide +kernel)
theorem gblk0 {I : gIt} {J : gJt} {R : gRt} (N0 len : Nat) (h : ∀ j, I N0 j = 0) (b : Nat) (c : ClassId) : vp_cell c (len, gar b I J R N0 13) = arrV c len (fun _ => defaultValue .byte) := by
  have e : I N0 = fun _ => 0 := funext h
  unfold gar
  rw [e]
  rfl
theorem gac_1 : Cond.arrayClass .int ∈ gtb := gtb_in 157 (by decide +kernel) (by decide +kernel)
theorem gblk1 {I : gIt} {J : gJt} {R : gRt} (N0 len : Nat) (h : ∀ j, I N0 j = 0) (b : Nat) (c : ClassId) : vp_cell c (len, gar b I J R N0 14) = arrV c len (fun _ => defaultValue .int) := by
  have e : I N0 = fun _ => 0 := funext h
  unfold gar
  rw [e]
  rfl
theorem gac_2 : Cond.arrayClass .long ∈ gtb := gtb_in 503 (by decide +kernel) (by decide +kernel)
theorem gblk2 {I : gIt} {J : gJt} {R : gRt} (N0 len : Nat) (h : ∀ j, J N0 j = 0) (b : Nat) (c : ClassId) : vp_cell c (len, gar b I J R N0 15) = arrV c len (fun _ => defaultValue .long) := by
  have e : J N0 = fun _ => 0 := funext h
  unfold gar
  rw [e]
  rfl
theorem gac_3 : Cond.arrayClass .boolean ∈ gtb := gtb_in 394 (by decide +kernel) (by decide +kernel)
theorem gblk3 {I : gIt} {J : gJt} {R : gRt} (N0 len : Nat) (h : ∀ j, I N0 j = 0) (b : Nat) (c : ClassId) : vp_cell c (len, gar b I J R N0 16) = arrV c len (fun _ => defaultValue .boolean) := by
  have e : I N0 = fun _ => 0 := funext h
  unfold gar
  rw [e]
  rfl
theorem sp_0 : gS0.2 0 = (11, 0) := rfl
theorem sq_0 : (gS0.2 0).1 = 11 := rfl
theorem sp_1 : gS0.2 1 = (7, 0) := rfl
theorem sq_1 : (gS0.2 1).1 = 7 := rfl
theorem sp_2 : gS0.2 2 = (14, 16) := rfl
theorem sq_2 : (gS0.2 2).1 = 14 := rfl
theorem sp_3 : gS0.2 3 = (14, 16) := rfl
theorem sq_3 : (gS0.2 3).1 = 14 := rfl
theorem sp_4 : gS0.2 4 = (14, 16) := rfl
theorem sq_4 : (gS0.2 4).1 = 14 := rfl
theorem sp_5 : gS0.2 5 = (14, 16) := rfl
theorem sq_5 : (gS0.2 5).1 = 14 := rfl
theorem sp_6 : gS0.2 6 = (14, 16) := rfl
theorem sq_6 : (gS0.2 6).1 = 14 := rfl
theorem sp_7 : gS0.2 7 = (14, 16) := rfl
theorem sq_7 : (gS0.2 7).1 = 14 := rfl
theorem sp_8 : gS0.2 8 = (14, 16) := rfl
theorem sq_8 : (gS0.2 8).1 = 14 := rfl
theorem sp_9 : gS0.2 9 = (6, 0) := rfl
theorem sq_9 : (gS0.2 9).1 = 6 := rfl
theorem sp_10 : gS0.2 10 = (14, 48) := rfl
theorem sq_10 : (gS0.2 10).1 = 14 := rfl
theorem sp_11 : gS0.2 11 = (10, 0) := rfl
theorem sq_11 : (gS0.2 11).1 = 10 := rfl
theorem sp_12 : gS0.2 12 = (14, 100) := rfl
theorem sq_12 : (gS0.2 12).1 = 14 := rfl
theorem sp_13 : gS0.2 13 = (17, 10) := rfl
theorem sq_13 : (gS0.2 13).1 = 17 := rfl
theorem sp_14 : gS0.2 14 = (9, 0) := rfl
theorem sq_14 : (gS0.2 14).1 = 9 := rfl
theorem sp_15 : gS0.2 15 = (14, 8) := rfl
theorem sq_15 : (gS0.2 15).1 = 14 := rfl
theorem sp_16 : gS0.2 16 = (14, 8) := rfl
theorem sq_16 : (gS0.2 16).1 = 14 := rfl
theorem sp_17 : gS0.2 17 = (14, 32) := rfl
theorem sq_17 : (gS0.2 17).1 = 14 := rfl
theorem sp_18 : gS0.2 18 = (14, 32) := rfl
theorem sq_18 : (gS0.2 18).1 = 14 := rfl
theorem sp_19 : gS0.2 19 = (14, 100) := rfl
theorem sq_19 : (gS0.2 19).1 = 14 := rfl
theorem sp_20 : gS0.2 20 = (9, 0) := rfl
theorem sq_20 : (gS0.2 20).1 = 9 := rfl
theorem sp_21 : gS0.2 21 = (14, 8) := rfl
theorem sq_21 : (gS0.2 21).1 = 14 := rfl
theorem sp_22 : gS0.2 22 = (14, 8) := rfl
theorem sq_22 : (gS0.2 22).1 = 14 := rfl
theorem sp_23 : gS0.2 23 = (14, 32) := rfl
theorem sq_23 : (gS0.2 23).1 = 14 := rfl
theorem sp_24 : gS0.2 24 = (14, 32) := rfl
theorem sq_24 : (gS0.2 24).1 = 14 := rfl
theorem sp_25 : gS0.2 25 = (14, 100) := rfl
theorem sq_25 : (gS0.2 25).1 = 14 := rfl
theorem sp_26 : gS0.2 26 = (9, 0) := rfl
theorem sq_26 : (gS0.2 26).1 = 9 := rfl
theorem sp_27 : gS0.2 27 = (14, 8) := rfl
theorem sq_27 : (gS0.2 27).1 = 14 := rfl
theorem sp_28 : gS0.2 28 = (14, 8) := rfl
theorem sq_28 : (gS0.2 28).1 = 14 := rfl
theorem sp_29 : gS0.2 29 = (14, 32) := rfl
theorem sq_29 : (gS0.2 29).1 = 14 := rfl
theorem sp_30 : gS0.2 30 = (14, 32) := rfl
theorem sq_30 : (gS0.2 30).1 = 14 := rfl
theorem sp_31 : gS0.2 31 = (14, 100) := rfl
theorem sq_31 : (gS0.2 31).1 = 14 := rfl
theorem sp_32 : gS0.2 32 = (9, 0) := rfl
theorem sq_32 : (gS0.2 32).1 = 9 := rfl
theorem sp_33 : gS0.2 33 = (14, 8) := rfl
theorem sq_33 : (gS0.2 33).1 = 14 := rfl
theorem sp_34 : gS0.2 34 = (14, 8) := rfl
theorem sq_34 : (gS0.2 34).1 = 14 := rfl
theorem sp_35 : gS0.2 35 = (14, 32) := rfl
theorem sq_35 : (gS0.2 35).1 = 14 := rfl
theorem sp_36 : gS0.2 36 = (14, 32) := rfl
theorem sq_36 : (gS0.2 36).1 = 14 := rfl
theorem sp_37 : gS0.2 37 = (14, 100) := rfl
theorem sq_37 : (gS0.2 37).1 = 14 := rfl
theorem sp_38 : gS0.2 38 = (9, 0) := rfl
theorem sq_38 : (gS0.2 38).1 = 9 := rfl
theorem sp_39 : gS0.2 39 = (14, 8) := rfl
theorem sq_39 : (gS0.2 39).1 = 14 := rfl
theorem sp_40 : gS0.2 40 = (14, 8) := rfl
theorem sq_40 : (gS0.2 40).1 = 14 := rfl
theorem sp_41 : gS0.2 41 = (14, 32) := rfl
theorem sq_41 : (gS0.2 41).1 = 14 := rfl
theorem sp_42 : gS0.2 42 = (14, 32) := rfl
theorem sq_42 : (gS0.2 42).1 = 14 := rfl
theorem sp_43 : gS0.2 43 = (14, 100) := rfl
theorem sq_43 : (gS0.2 43).1 = 14 := rfl
theorem sp_44 : gS0.2 44 = (9, 0) := rfl
theorem sq_44 : (gS0.2 44).1 = 9 := rfl
theorem sp_45 : gS0.2 45 = (14, 8) := rfl
theorem sq_45 : (gS0.2 45).1 = 14 := rfl
theorem sp_46 : gS0.2 46 = (14, 8) := rfl
theorem sq_46 : (gS0.2 46).1 = 14 := rfl
theorem sp_47 : gS0.2 47 = (14, 32) := rfl
theorem sq_47 : (gS0.2 47).1 = 14 := rfl
theorem sp_48 : gS0.2 48 = (14, 32) := rfl
theorem sq_48 : (gS0.2 48).1 = 14 := rfl
theorem sp_49 : gS0.2 49 = (14, 100) := rfl
theorem sq_49 : (gS0.2 49).1 = 14 := rfl
theorem sp_50 : gS0.2 50 = (9, 0) := rfl
theorem sq_50 : (gS0.2 50).1 = 9 := rfl
theorem sp_51 : gS0.2 51 = (14, 8) := rfl
theorem sq_51 : (gS0.2 51).1 = 14 := rfl
theorem sp_52 : gS0.2 52 = (14, 8) := rfl
theorem sq_52 : (gS0.2 52).1 = 14 := rfl
theorem sp_53 : gS0.2 53 = (14, 32) := rfl
theorem sq_53 : (gS0.2 53).1 = 14 := rfl
theorem sp_54 : gS0.2 54 = (14, 32) := rfl
theorem sq_54 : (gS0.2 54).1 = 14 := rfl
theorem sp_55 : gS0.2 55 = (14, 100) := rfl
theorem sq_55 : (gS0.2 55).1 = 14 := rfl
theorem sp_56 : gS0.2 56 = (9, 0) := rfl
theorem sq_56 : (gS0.2 56).1 = 9 := rfl
theorem sp_57 : gS0.2 57 = (14, 8) := rfl
theorem sq_57 : (gS0.2 57).1 = 14 := rfl
theorem sp_58 : gS0.2 58 = (14, 8) := rfl
theorem sq_58 : (gS0.2 58).1 = 14 := rfl
theorem sp_59 : gS0.2 59 = (14, 32) := rfl
theorem sq_59 : (gS0.2 59).1 = 14 := rfl
theorem sp_60 : gS0.2 60 = (14, 32) := rfl
theorem sq_60 : (gS0.2 60).1 = 14 := rfl
theorem sp_61 : gS0.2 61 = (14, 100) := rfl
theorem sq_61 : (gS0.2 61).1 = 14 := rfl
theorem sp_62 : gS0.2 62 = (9, 0) := rfl
theorem sq_62 : (gS0.2 62).1 = 9 := rfl
theorem sp_63 : gS0.2 63 = (14, 8) := rfl
theorem sq_63 : (gS0.2 63).1 = 14 := rfl
theorem sp_64 : gS0.2 64 = (14, 8) := rfl
theorem sq_64 : (gS0.2 64).1 = 14 := rfl
theorem sp_65 : gS0.2 65 = (14, 32) := rfl
theorem sq_65 : (gS0.2 65).1 = 14 := rfl
theorem sp_66 : gS0.2 66 = (14, 32) := rfl
theorem sq_66 : (gS0.2 66).1 = 14 := rfl
theorem sp_67 : gS0.2 67 = (14, 100) := rfl
theorem sq_67 : (gS0.2 67).1 = 14 := rfl
theorem sp_68 : gS0.2 68 = (9, 0) := rfl
theorem sq_68 : (gS0.2 68).1 = 9 := rfl
theorem sp_69 : gS0.2 69 = (14, 8) := rfl
theorem sq_69 : (gS0.2 69).1 = 14 := rfl
theorem sp_70 : gS0.2 70 = (14, 8) := rfl
theorem sq_70 : (gS0.2 70).1 = 14 := rfl
theorem sp_71 : gS0.2 71 = (14, 32) := rfl
theorem sq_71 : (gS0.2 71).1 = 14 := rfl
theorem sp_72 : gS0.2 72 = (14, 32) := rfl
theorem sq_72 : (gS0.2 72).1 = 14 := rfl
theorem sp_73 : gS0.2 73 = (14, 100) := rfl
theorem sq_73 : (gS0.2 73).1 = 14 := rfl
theorem sp_74 : gS0.2 74 = (5, 0) := rfl
theorem sq_74 : (gS0.2 74).1 = 5 := rfl
theorem sp_75 : gS0.2 75 = (14, 16) := rfl
theorem sq_75 : (gS0.2 75).1 = 14 := rfl
theorem sp_76 : gS0.2 76 = (3, 0) := rfl
theorem sq_76 : (gS0.2 76).1 = 3 := rfl
theorem sp_77 : gS0.2 77 = (14, 16) := rfl
theorem sq_77 : (gS0.2 77).1 = 14 := rfl
theorem sp_78 : gS0.2 78 = (1, 0) := rfl
theorem sq_78 : (gS0.2 78).1 = 1 := rfl
theorem sp_79 : gS0.2 79 = (14, 4) := rfl
theorem sq_79 : (gS0.2 79).1 = 14 := rfl
theorem sp_80 : gS0.2 80 = (14, 4) := rfl
theorem sq_80 : (gS0.2 80).1 = 14 := rfl
theorem sp_81 : gS0.2 81 = (14, 4) := rfl
theorem sq_81 : (gS0.2 81).1 = 14 := rfl
theorem sp_82 : gS0.2 82 = (14, 4) := rfl
theorem sq_82 : (gS0.2 82).1 = 14 := rfl
theorem sp_83 : gS0.2 83 = (14, 16) := rfl
theorem sq_83 : (gS0.2 83).1 = 14 := rfl
theorem sp_84 : gS0.2 84 = (8, 0) := rfl
theorem sq_84 : (gS0.2 84).1 = 8 := rfl
theorem sp_85 : gS0.2 85 = (14, 40) := rfl
theorem sq_85 : (gS0.2 85).1 = 14 := rfl
theorem sp_86 : gS0.2 86 = (14, 40) := rfl
theorem sq_86 : (gS0.2 86).1 = 14 := rfl
theorem sp_87 : gS0.2 87 = (14, 40) := rfl
theorem sq_87 : (gS0.2 87).1 = 14 := rfl
theorem sp_88 : gS0.2 88 = (14, 40) := rfl
theorem sq_88 : (gS0.2 88).1 = 14 := rfl
theorem sp_89 : gS0.2 89 = (14, 40) := rfl
theorem sq_89 : (gS0.2 89).1 = 14 := rfl
theorem sp_90 : gS0.2 90 = (16, 40) := rfl
theorem sq_90 : (gS0.2 90).1 = 16 := rfl
theorem sp_91 : gS0.2 91 = (14, 40) := rfl
theorem sq_91 : (gS0.2 91).1 = 14 := rfl
theorem sp_92 : gS0.2 92 = (14, 40) := rfl
theorem sq_92 : (gS0.2 92).1 = 14 := rfl
theorem sp_93 : gS0.2 93 = (14, 40) := rfl
theorem sq_93 : (gS0.2 93).1 = 14 := rfl
theorem sp_94 : gS0.2 94 = (14, 40) := rfl
theorem sq_94 : (gS0.2 94).1 = 14 := rfl
theorem sp_95 : gS0.2 95 = (2, 0) := rfl
theorem sq_95 : (gS0.2 95).1 = 2 := rfl
theorem sp_96 : gS0.2 96 = (14, 20) := rfl
theorem sq_96 : (gS0.2 96).1 = 14 := rfl
theorem sp_97 : gS0.2 97 = (14, 20) := rfl
theorem sq_97 : (gS0.2 97).1 = 14 := rfl
theorem sp_98 : gS0.2 98 = (14, 20) := rfl
theorem sq_98 : (gS0.2 98).1 = 14 := rfl
theorem sp_99 : gS0.2 99 = (14, 20) := rfl
theorem sq_99 : (gS0.2 99).1 = 14 := rfl
theorem sp_100 : gS0.2 100 = (14, 20) := rfl
theorem sq_100 : (gS0.2 100).1 = 14 := rfl
theorem sp_101 : gS0.2 101 = (4, 0) := rfl
theorem sq_101 : (gS0.2 101).1 = 4 := rfl
theorem sp_102 : gS0.2 102 = (14, 40) := rfl
theorem sq_102 : (gS0.2 102).1 = 14 := rfl
theorem sp_103 : gS0.2 103 = (0, 0) := rfl
theorem sq_103 : (gS0.2 103).1 = 0 := rfl
theorem sp_104 : gS0.2 104 = (14, 60) := rfl
theorem sq_104 : (gS0.2 104).1 = 14 := rfl
theorem sp_105 : gS0.2 105 = (15, 4) := rfl
theorem sq_105 : (gS0.2 105).1 = 15 := rfl
theorem sp_106 : gS0.2 106 = (18, 16) := rfl
theorem sq_106 : (gS0.2 106).1 = 18 := rfl
theorem sp_107 : gS0.2 107 = (15, 32) := rfl
theorem sq_107 : (gS0.2 107).1 = 15 := rfl
theorem sp_108 : gS0.2 108 = (15, 32) := rfl
theorem sq_108 : (gS0.2 108).1 = 15 := rfl
theorem sp_109 : gS0.2 109 = (15, 32) := rfl
theorem sq_109 : (gS0.2 109).1 = 15 := rfl
theorem sp_110 : gS0.2 110 = (15, 32) := rfl
theorem sq_110 : (gS0.2 110).1 = 15 := rfl
theorem sp_111 : gS0.2 111 = (15, 32) := rfl
theorem sq_111 : (gS0.2 111).1 = 15 := rfl
theorem sp_112 : gS0.2 112 = (15, 32) := rfl
theorem sq_112 : (gS0.2 112).1 = 15 := rfl
theorem sp_113 : gS0.2 113 = (15, 32) := rfl
theorem sq_113 : (gS0.2 113).1 = 15 := rfl
theorem sp_114 : gS0.2 114 = (15, 32) := rfl
theorem sq_114 : (gS0.2 114).1 = 15 := rfl
theorem sp_115 : gS0.2 115 = (15, 32) := rfl
theorem sq_115 : (gS0.2 115).1 = 15 := rfl
theorem sp_116 : gS0.2 116 = (15, 32) := rfl
theorem sq_116 : (gS0.2 116).1 = 15 := rfl
theorem sp_117 : gS0.2 117 = (15, 32) := rfl
theorem sq_117 : (gS0.2 117).1 = 15 := rfl
theorem sp_118 : gS0.2 118 = (15, 32) := rfl
theorem sq_118 : (gS0.2 118).1 = 15 := rfl
theorem sp_119 : gS0.2 119 = (15, 32) := rfl
theorem sq_119 : (gS0.2 119).1 = 15 := rfl
theorem sp_120 : gS0.2 120 = (15, 32) := rfl
theorem sq_120 : (gS0.2 120).1 = 15 := rfl
theorem sp_121 : gS0.2 121 = (15, 32) := rfl
theorem sq_121 : (gS0.2 121).1 = 15 := rfl
theorem sp_122 : gS0.2 122 = (15, 32) := rfl
theorem sq_122 : (gS0.2 122).1 = 15 := rfl
theorem sp_123 : gS0.2 123 = (15, 32) := rfl
theorem sq_123 : (gS0.2 123).1 = 15 := rfl
theorem sp_124 : gS0.2 124 = (15, 32) := rfl
theorem sq_124 : (gS0.2 124).1 = 15 := rfl
theorem sp_125 : gS0.2 125 = (15, 32) := rfl
theorem sq_125 : (gS0.2 125).1 = 15 := rfl
theorem sp_126 : gS0.2 126 = (0, 0) := rfl
theorem sq_126 : (gS0.2 126).1 = 0 := rfl
theorem sp_127 : gS0.2 127 = (14, 60) := rfl
theorem sq_127 : (gS0.2 127).1 = 14 := rfl
theorem sp_128 : gS0.2 128 = (15, 4) := rfl
theorem sq_128 : (gS0.2 128).1 = 15 := rfl
theorem sp_129 : gS0.2 129 = (18, 16) := rfl
theorem sq_129 : (gS0.2 129).1 = 18 := rfl
theorem sp_130 : gS0.2 130 = (15, 32) := rfl
theorem sq_130 : (gS0.2 130).1 = 15 := rfl
theorem sp_131 : gS0.2 131 = (15, 32) := rfl
theorem sq_131 : (gS0.2 131).1 = 15 := rfl
theorem sp_132 : gS0.2 132 = (15, 32) := rfl
theorem sq_132 : (gS0.2 132).1 = 15 := rfl
theorem sp_133 : gS0.2 133 = (15, 32) := rfl
theorem sq_133 : (gS0.2 133).1 = 15 := rfl
theorem sp_134 : gS0.2 134 = (15, 32) := rfl
theorem sq_134 : (gS0.2 134).1 = 15 := rfl
theorem sp_135 : gS0.2 135 = (15, 32) := rfl
theorem sq_135 : (gS0.2 135).1 = 15 := rfl
theorem sp_136 : gS0.2 136 = (15, 32) := rfl
theorem sq_136 : (gS0.2 136).1 = 15 := rfl
theorem sp_137 : gS0.2 137 = (15, 32) := rfl
theorem sq_137 : (gS0.2 137).1 = 15 := rfl
theorem sp_138 : gS0.2 138 = (15, 32) := rfl
theorem sq_138 : (gS0.2 138).1 = 15 := rfl
theorem sp_139 : gS0.2 139 = (15, 32) := rfl
theorem sq_139 : (gS0.2 139).1 = 15 := rfl
theorem sp_140 : gS0.2 140 = (15, 32) := rfl
theorem sq_140 : (gS0.2 140).1 = 15 := rfl
theorem sp_141 : gS0.2 141 = (15, 32) := rfl
theorem sq_141 : (gS0.2 141).1 = 15 := rfl
theorem sp_142 : gS0.2 142 = (15, 32) := rfl
theorem sq_142 : (gS0.2 142).1 = 15 := rfl
theorem sp_143 : gS0.2 143 = (15, 32) := rfl
theorem sq_143 : (gS0.2 143).1 = 15 := rfl
theorem sp_144 : gS0.2 144 = (15, 32) := rfl
theorem sq_144 : (gS0.2 144).1 = 15 := rfl
theorem sp_145 : gS0.2 145 = (15, 32) := rfl
theorem sq_145 : (gS0.2 145).1 = 15 := rfl
theorem sp_146 : gS0.2 146 = (15, 32) := rfl
theorem sq_146 : (gS0.2 146).1 = 15 := rfl
theorem sp_147 : gS0.2 147 = (15, 32) := rfl
theorem sq_147 : (gS0.2 147).1 = 15 := rfl
theorem sp_148 : gS0.2 148 = (15, 32) := rfl
theorem sq_148 : (gS0.2 148).1 = 15 := rfl
theorem sp_149 : gS0.2 149 = (12, 0) := rfl
theorem sq_149 : (gS0.2 149).1 = 12 := rfl
theorem sp_150 : gS0.2 150 = (13, 100) := rfl
theorem sq_150 : (gS0.2 150).1 = 13 := rfl
theorem sp_151 : gS0.2 151 = (14, 16) := rfl
theorem sq_151 : (gS0.2 151).1 = 14 := rfl
theorem sp_152 : gS0.2 152 = (14, 16) := rfl
theorem sq_152 : (gS0.2 152).1 = 14 := rfl
theorem sp_153 : gS0.2 153 = (14, 16) := rfl
theorem sq_153 : (gS0.2 153).1 = 14 := rfl
theorem sp_154 : gS0.2 154 = (14, 16) := rfl
theorem sq_154 : (gS0.2 154).1 = 14 := rfl
theorem sp_155 : gS0.2 155 = (14, 16) := rfl
theorem sq_155 : (gS0.2 155).1 = 14 := rfl
theorem sp_156 : gS0.2 156 = (14, 48) := rfl
theorem sq_156 : (gS0.2 156).1 = 14 := rfl
theorem sp_157 : gS0.2 157 = (14, 10) := rfl
theorem sq_157 : (gS0.2 157).1 = 14 := rfl
theorem sp_158 : gS0.2 158 = (14, 10) := rfl
theorem sq_158 : (gS0.2 158).1 = 14 := rfl
theorem sp_159 : gS0.2 159 = (14, 10) := rfl
theorem sq_159 : (gS0.2 159).1 = 14 := rfl
theorem sp_160 : gS0.2 160 = (14, 10) := rfl
theorem sq_160 : (gS0.2 160).1 = 14 := rfl
theorem sp_161 : gS0.2 161 = (14, 80) := rfl
theorem sq_161 : (gS0.2 161).1 = 14 := rfl
theorem sp_162 : gS0.2 162 = (14, 80) := rfl
theorem sq_162 : (gS0.2 162).1 = 14 := rfl
theorem sp_163 : gS0.2 163 = (14, 80) := rfl
theorem sq_163 : (gS0.2 163).1 = 14 := rfl
theorem sp_164 : gS0.2 164 = (16, 320) := rfl
theorem sq_164 : (gS0.2 164).1 = 16 := rfl
theorem sp_165 : gS0.2 165 = (14, 320) := rfl
theorem sq_165 : (gS0.2 165).1 = 14 := rfl
theorem sp_166 : gS0.2 166 = (14, 320) := rfl
theorem sq_166 : (gS0.2 166).1 = 14 := rfl
theorem sp_167 : gS0.2 167 = (14, 1000) := rfl
theorem sq_167 : (gS0.2 167).1 = 14 := rfl
theorem sp_168 : gS0.2 168 = (14, 1000) := rfl
theorem sq_168 : (gS0.2 168).1 = 14 := rfl
theorem sp_169 : gS0.2 169 = (14, 120) := rfl
theorem sq_169 : (gS0.2 169).1 = 14 := rfl
theorem sp_170 : gS0.2 170 = (16, 120) := rfl
theorem sq_170 : (gS0.2 170).1 = 16 := rfl
theorem sp_171 : gS0.2 171 = (14, 16) := rfl
theorem sq_171 : (gS0.2 171).1 = 14 := rfl
theorem sp_172 : gS0.2 172 = (14, 4) := rfl
theorem sq_172 : (gS0.2 172).1 = 14 := rfl
theorem sp_173 : gS0.2 173 = (14, 16) := rfl
theorem sq_173 : (gS0.2 173).1 = 14 := rfl
theorem sp_174 : gS0.2 174 = (14, 40) := rfl
theorem sq_174 : (gS0.2 174).1 = 14 := rfl
theorem sp_175 : gS0.2 175 = (14, 40) := rfl
theorem sq_175 : (gS0.2 175).1 = 14 := rfl
theorem sp_176 : gS0.2 176 = (14, 40) := rfl
theorem sq_176 : (gS0.2 176).1 = 14 := rfl
theorem sp_177 : gS0.2 177 = (14, 40) := rfl
theorem sq_177 : (gS0.2 177).1 = 14 := rfl
theorem sp_178 : gS0.2 178 = (14, 40) := rfl
theorem sq_178 : (gS0.2 178).1 = 14 := rfl
theorem sp_179 : gS0.2 179 = (14, 40) := rfl
theorem sq_179 : (gS0.2 179).1 = 14 := rfl
theorem sp_180 : gS0.2 180 = (16, 40) := rfl
theorem sq_180 : (gS0.2 180).1 = 16 := rfl
theorem sp_181 : gS0.2 181 = (14, 40) := rfl
theorem sq_181 : (gS0.2 181).1 = 14 := rfl
theorem sp_182 : gS0.2 182 = (14, 40) := rfl
theorem sq_182 : (gS0.2 182).1 = 14 := rfl
theorem sp_183 : gS0.2 183 = (14, 40) := rfl
theorem sq_183 : (gS0.2 183).1 = 14 := rfl
theorem sp_184 : gS0.2 184 = (14, 20) := rfl
theorem sq_184 : (gS0.2 184).1 = 14 := rfl
theorem sp_185 : gS0.2 185 = (14, 20) := rfl
theorem sq_185 : (gS0.2 185).1 = 14 := rfl
theorem sp_186 : gS0.2 186 = (14, 20) := rfl
theorem sq_186 : (gS0.2 186).1 = 14 := rfl
theorem sp_187 : gS0.2 187 = (14, 20) := rfl
theorem sq_187 : (gS0.2 187).1 = 14 := rfl
theorem sp_188 : gS0.2 188 = (14, 20) := rfl
theorem sq_188 : (gS0.2 188).1 = 14 := rfl
theorem sp_189 : gS0.2 189 = (14, 200) := rfl
theorem sq_189 : (gS0.2 189).1 = 14 := rfl
theorem sp_190 : gS0.2 190 = (14, 200) := rfl
theorem sq_190 : (gS0.2 190).1 = 14 := rfl
theorem sp_191 : gS0.2 191 = (15, 120) := rfl
theorem sq_191 : (gS0.2 191).1 = 15 := rfl
theorem sp_192 : gS0.2 192 = (14, 100) := rfl
theorem sq_192 : (gS0.2 192).1 = 14 := rfl
theorem sp_193 : gS0.2 193 = (14, 100) := rfl
theorem sq_193 : (gS0.2 193).1 = 14 := rfl
def gl_0 : List (Nat × Nat × Nat) := []
def gl_1 : List (Nat × Nat × Nat) := (1, 6, 8) :: (1, 5, 7) :: (1, 4, 6) :: (1, 3, 5) :: (1, 2, 4) :: (1, 1, 3) :: (1, 0, 2) :: gl_0
set_option maxRecDepth 20000 in
theorem qi_1 {l : Launch} : Cn l gX7_init 2 7 112 [.ref 1] (2, gS0.2) gz32 gz64 (grl gl_0) (fun v' S' I' J' R' => v' = none ∧ S' = (9, gS0.2) ∧ I' = gz32 ∧ J' = gz64 ∧ R' = grl gl_1) := by
  refine Cn.of [some (.ref 1)] (by decide) rfl (Nat.le_of_ble_eq_true rfl) ?_
  refine G_aload_n dX7_init_0 rfl rfl ?_
  refine G_objI (gtb_in 118 (by decide +kernel) (by decide +kernel)) (by decide) (Nat.le_of_ble_eq_true rfl) dX7_init_1 gobj_w ?_
  refine G_aload_n dX7_init_4 rfl rfl ?_
  refine G_bipush (v := 16) dX7_init_5 rfl ?_
  refine G_newarr (aty := .int) (ty := .int) (f := gS0.2) (N0 := 2) (t := 14) (q := 1) (len := 16) rfl (fun _ => rfl) (fun _ _ h => h) (by decide) sp_2 (gblk1 2 16 (fun _ => rfl)) gac_1 (by decide) (by decide) (by decide) (Nat.le_of_ble_eq_true rfl) (Nat.le_of_ble_eq_true rfl) dX7_init_7 ?_
  refine G_putRF fl_X7_9 (by decide) sq_1 rfl rfl rfl rfl dX7_init_9 ?_
  refine G_aload_n dX7_init_12 rfl rfl ?_
  refine G_bipush (v := 16) dX7_init_13 rfl ?_
  refine G_newarr (aty := .int) (ty := .int) (f := gS0.2) (N0 := 3) (t := 14) (q := 1) (len := 16) rfl (fun _ => rfl) (fun _ _ h => h) (by decide) sp_3 (gblk1 3 16 (fun _ => rfl)) gac_1 (by decide) (by decide) (by decide) (Nat.le_of_ble_eq_true rfl) (Nat.le_of_ble_eq_true rfl) dX7_init_15 ?_
  refine G_putRF fl_X7_15 (by decide) sq_1 rfl rfl rfl rfl dX7_init_17 ?_
  refine G_aload_n dX7_init_20 rfl rfl ?_
  refine G_bipush (v := 16) dX7_init_21 rfl ?_
  refine G_newarr (aty := .int) (ty := .int) (f := gS0.2) (N0 := 4) (t := 14) (q := 1) (len := 16) rfl (fun _ => rfl) (fun _ _ h => h) (by decide) sp_4 (gblk1 4 16 (fun _ => rfl)) gac_1 (by decide) (by decide) (by decide) (Nat.le_of_ble_eq_true rfl) (Nat.le_of_ble_eq_true rfl) dX7_init_23 ?_
  refine G_putRF fl_X7_18 (by decide) sq_1 rfl rfl rfl rfl dX7_init_25 ?_
  refine G_aload_n dX7_init_28 rfl rfl ?_
  refine G_bipush (v := 16) dX7_init_29 rfl ?_
  refine G_newarr (aty := .int) (ty := .int) (f := gS0.2) (N0 := 5) (t := 14) (q := 1) (len := 16) rfl (fun _ => rfl) (fun _ _ h => h) (by decide) sp_5 (gblk1 5 16 (fun _ => rfl)) gac_1 (by decide) (by decide) (by decide) (Nat.le_of_ble_eq_true rfl) (Nat.le_of_ble_eq_true rfl) dX7_init_31 ?_
  refine G_putRF fl_X7_21 (by decide) sq_1 rfl rfl rfl rfl dX7_init_33 ?_
  refine G_aload_n dX7_init_36 rfl rfl ?_
  refine G_bipush (v := 16) dX7_init_37 rfl ?_
  refine G_newarr (aty := .int) (ty := .int) (f := gS0.2) (N0 := 6) (t := 14) (q := 1) (len := 16) rfl (fun _ => rfl) (fun _ _ h => h) (by decide) sp_6 (gblk1 6 16 (fun _ => rfl)) gac_1 (by decide) (by decide) (by decide) (Nat.le_of_ble_eq_true rfl) (Nat.le_of_ble_eq_true rfl) dX7_init_39 ?_
  refine G_putRF fl_X7_24 (by decide) sq_1 rfl rfl rfl rfl dX7_init_41 ?_
  refine G_aload_n dX7_init_44 rfl rfl ?_
  refine G_bipush (v := 16) dX7_init_45 rfl ?_
  refine G_newarr (aty := .int) (ty := .int) (f := gS0.2) (N0 := 7) (t := 14) (q := 1) (len := 16) rfl (fun _ => rfl) (fun _ _ h => h) (by decide) sp_7 (gblk1 7 16 (fun _ => rfl)) gac_1 (by decide) (by decide) (by decide) (Nat.le_of_ble_eq_true rfl) (Nat.le_of_ble_eq_true rfl) dX7_init_47 ?_
  refine G_putRF fl_X7_27 (by decide) sq_1 rfl rfl rfl rfl dX7_init_49 ?_
  refine G_aload_n dX7_init_52 rfl rfl ?_
  refine G_bipush (v := 16) dX7_init_53 rfl ?_
  refine G_newarr (aty := .int) (ty := .int) (f := gS0.2) (N0 := 8) (t := 14) (q := 1) (len := 16) rfl (fun _ => rfl) (fun _ _ h => h) (by decide) sp_8 (gblk1 8 16 (fun _ => rfl)) gac_1 (by decide) (by decide) (by decide) (Nat.le_of_ble_eq_true rfl) (Nat.le_of_ble_eq_true rfl) dX7_init_55 ?_
  refine G_putRF fl_X7_30 (by decide) sq_1 rfl rfl rfl rfl dX7_init_57 ?_
  refine G_vret rfl (Nat.le_refl _) (Nat.le_refl _) dX7_init_60 ?_
  exact ⟨rfl, rfl, rfl, rfl, rfl⟩
def gl_2 : List (Nat × Nat × Nat) := (0, 0, 1) :: gl_1
def gl_3 : List (Nat × Nat × Nat) := (9, 0, 10) :: gl_2
set_option maxRecDepth 20000 in
theorem qi_2 {l : Launch} : Cn l gX6_init 2 1 48 [.ref 9] (10, gS0.2) gz32 gz64 (grl gl_2) (fun v' S' I' J' R' => v' = none ∧ S' = (11, gS0.2) ∧ I' = (gu2 gz32 9 1 5) ∧ J' = gz64 ∧ R' = grl gl_3) := by
  refine Cn.of [some (.ref 9)] (by decide) rfl (Nat.le_of_ble_eq_true rfl) ?_
  refine G_aload_n dX6_init_0 rfl rfl ?_
  refine G_objI (gtb_in 163 (by decide +kernel) (by decide +kernel)) (by decide) (Nat.le_of_ble_eq_true rfl) dX6_init_1 gobj_w ?_
  refine G_aload_n dX6_init_4 rfl rfl ?_
  refine G_bipush (v := 48) dX6_init_5 rfl ?_
  refine G_newarr (aty := .int) (ty := .int) (f := gS0.2) (N0 := 10) (t := 14) (q := 1) (len := 48) rfl (fun _ => rfl) (fun _ _ h => h) (by decide) sp_10 (gblk1 10 48 (fun _ => rfl)) gac_1 (by decide) (by decide) (by decide) (Nat.le_of_ble_eq_true rfl) (Nat.le_of_ble_eq_true rfl) dX6_init_7 ?_
  refine G_putRF fl_X6_9 (by decide) sq_9 rfl rfl rfl rfl dX6_init_9 ?_
  refine G_aload_n dX6_init_12 rfl rfl ?_
  refine G_iconst (v := 5) dX6_init_13 rfl ?_
  refine G_putI fl_X6_15 (by decide) sq_9 rfl rfl ⟨rfl, rfl⟩ dX6_init_14 ?_
  refine G_vret rfl (Nat.le_refl _) (Nat.le_refl _) dX6_init_17 ?_
  exact ⟨rfl, rfl, rfl, rfl, rfl⟩
def gl_4 : List (Nat × Nat × Nat) := (0, 1, 9) :: gl_3
def gl_5 : List (Nat × Nat × Nat) := (11, 0, 12) :: gl_4
set_option maxRecDepth 20000 in
theorem qi_3 {l : Launch} : Cn l gX10_init 2 1 100 [.ref 11] (12, gS0.2) (gu2 gz32 9 1 5) gz64 (grl gl_4) (fun v' S' I' J' R' => v' = none ∧ S' = (13, gS0.2) ∧ I' = (gu2 gz32 9 1 5) ∧ J' = gz64 ∧ R' = grl gl_5) := by
  refine Cn.of [some (.ref 11)] (by decide) rfl (Nat.le_of_ble_eq_true rfl) ?_
  refine G_aload_n dX10_init_0 rfl rfl ?_
  refine G_objI (gtb_in 177 (by decide +kernel) (by decide +kernel)) (by decide) (Nat.le_of_ble_eq_true rfl) dX10_init_1 gobj_w ?_
  refine G_aload_n dX10_init_4 rfl rfl ?_
  refine G_bipush (v := 100) dX10_init_5 rfl ?_
  refine G_newarr (aty := .int) (ty := .int) (f := gS0.2) (N0 := 12) (t := 14) (q := 1) (len := 100) rfl (fun _ => rfl) (fun _ _ h => h) (by decide) sp_12 (gblk1 12 100 (fun _ => rfl)) gac_1 (by decide) (by decide) (by decide) (Nat.le_of_ble_eq_true rfl) (Nat.le_of_ble_eq_true rfl) dX10_init_7 ?_
  refine G_putRF fl_X10_9 (by decide) sq_11 rfl rfl rfl rfl dX10_init_9 ?_
  refine G_vret rfl (Nat.le_refl _) (Nat.le_refl _) dX10_init_12 ?_
  exact ⟨rfl, rfl, rfl, rfl, rfl⟩
def gl_6 : List (Nat × Nat × Nat) := (0, 3, 13) :: (0, 2, 11) :: gl_5
def gl_7 : List (Nat × Nat × Nat) := (14, 4, 19) :: (14, 3, 18) :: (14, 2, 17) :: (14, 1, 16) :: (14, 0, 15) :: gl_6
set_option maxRecDepth 20000 in
theorem qi_4 {l : Launch} : Cn l gX9_init 2 5 180 [.ref 14] (15, gS0.2) (gu2 gz32 9 1 5) gz64 (grl gl_6) (fun v' S' I' J' R' => v' = none ∧ S' = (20, gS0.2) ∧ I' = (gu2 gz32 9 1 5) ∧ J' = gz64 ∧ R' = grl gl_7) := by
  refine Cn.of [some (.ref 14)] (by decide) rfl (Nat.le_of_ble_eq_true rfl) ?_
  refine G_aload_n dX9_init_0 rfl rfl ?_
  refine G_objI (gtb_in 204 (by decide +kernel) (by decide +kernel)) (by decide) (Nat.le_of_ble_eq_true rfl) dX9_init_1 gobj_w ?_
  refine G_aload_n dX9_init_4 rfl rfl ?_
  refine G_bipush (v := 8) dX9_init_5 rfl ?_
  refine G_newarr (aty := .int) (ty := .int) (f := gS0.2) (N0 := 15) (t := 14) (q := 1) (len := 8) rfl (fun _ => rfl) (fun _ _ h => h) (by decide) sp_15 (gblk1 15 8 (fun _ => rfl)) gac_1 (by decide) (by decide) (by decide) (Nat.le_of_ble_eq_true rfl) (Nat.le_of_ble_eq_true rfl) dX9_init_7 ?_
  refine G_putRF fl_X9_9 (by decide) sq_14 rfl rfl rfl rfl dX9_init_9 ?_
  refine G_aload_n dX9_init_12 rfl rfl ?_
  refine G_bipush (v := 8) dX9_init_13 rfl ?_
  refine G_newarr (aty := .int) (ty := .int) (f := gS0.2) (N0 := 16) (t := 14) (q := 1) (len := 8) rfl (fun _ => rfl) (fun _ _ h => h) (by decide) sp_16 (gblk1 16 8 (fun _ => rfl)) gac_1 (by decide) (by decide) (by decide) (Nat.le_of_ble_eq_true rfl) (Nat.le_of_ble_eq_true rfl) dX9_init_15 ?_
  refine G_putRF fl_X9_15 (by decide) sq_14 rfl rfl rfl rfl dX9_init_17 ?_
  refine G_aload_n dX9_init_20 rfl rfl ?_
  refine G_bipush (v := 32) dX9_init_21 rfl ?_
  refine G_newarr (aty := .int) (ty := .int) (f := gS0.2) (N0 := 17) (t := 14) (q := 1) (len := 32) rfl (fun _ => rfl) (fun _ _ h => h) (by decide) sp_17 (gblk1 17 32 (fun _ => rfl)) gac_1 (by decide) (by decide) (by decide) (Nat.le_of_ble_eq_true rfl) (Nat.le_of_ble_eq_true rfl) dX9_init_23 ?_
  refine G_putRF fl_X9_18 (by decide) sq_14 rfl rfl rfl rfl dX9_init_25 ?_
  refine G_aload_n dX9_init_28 rfl rfl ?_
  refine G_bipush (v := 32) dX9_init_29 rfl ?_
  refine G_newarr (aty := .int) (ty := .int) (f := gS0.2) (N0 := 18) (t := 14) (q := 1) (len := 32) rfl (fun _ => rfl) (fun _ _ h => h) (by decide) sp_18 (gblk1 18 32 (fun _ => rfl)) gac_1 (by decide) (by decide) (by decide) (Nat.le_of_ble_eq_true rfl) (Nat.le_of_ble_eq_true rfl) dX9_init_31 ?_
  refine G_putRF fl_X9_21 (by decide) sq_14 rfl rfl rfl rfl dX9_init_33 ?_
  refine G_aload_n dX9_init_36 rfl rfl ?_
  refine G_bipush (v := 100) dX9_init_37 rfl ?_
  refine G_newarr (aty := .int) (ty := .int) (f := gS0.2) (N0 := 19) (t := 14) (q := 1) (len := 100) rfl (fun _ => rfl) (fun _ _ h => h) (by decide) sp_19 (gblk1 19 100 (fun _ => rfl)) gac_1 (by decide) (by decide) (by decide) (Nat.le_of_ble_eq_true rfl) (Nat.le_of_ble_eq_true rfl) dX9_init_39 ?_
  refine G_putRF fl_X9_24 (by decide) sq_14 rfl rfl rfl rfl dX9_init_41 ?_
  refine G_vret rfl (Nat.le_refl _) (Nat.le_refl _) dX9_init_44 ?_
  exact ⟨rfl, rfl, rfl, rfl, rfl⟩
def gl_8 : List (Nat × Nat × Nat) := (13, 0, 14) :: gl_7
def gl_9 : List (Nat × Nat × Nat) := (20, 4, 25) :: (20, 3, 24) :: (20, 2, 23) :: (20, 1, 22) :: (20, 0, 21) :: gl_8
set_option maxRecDepth 20000 in
theorem qi_5 {l : Launch} : Cn l gX9_init 2 5 180 [.ref 20] (21, gS0.2) (gu2 gz32 9 1 5) gz64 (grl gl_8) (fun v' S' I' J' R' => v' = none ∧ S' = (26, gS0.2) ∧ I' = (gu2 gz32 9 1 5) ∧ J' = gz64 ∧ R' = grl gl_9) := by
  refine Cn.of [some (.ref 20)] (by decide) rfl (Nat.le_of_ble_eq_true rfl) ?_
  refine G_aload_n dX9_init_0 rfl rfl ?_
  refine G_objI (gtb_in 204 (by decide +kernel) (by decide +kernel)) (by decide) (Nat.le_of_ble_eq_true rfl) dX9_init_1 gobj_w ?_
  refine G_aload_n dX9_init_4 rfl rfl ?_
  refine G_bipush (v := 8) dX9_init_5 rfl ?_
  refine G_newarr (aty := .int) (ty := .int) (f := gS0.2) (N0 := 21) (t := 14) (q := 1) (len := 8) rfl (fun _ => rfl) (fun _ _ h => h) (by decide) sp_21 (gblk1 21 8 (fun _ => rfl)) gac_1 (by decide) (by decide) (by decide) (Nat.le_of_ble_eq_true rfl) (Nat.le_of_ble_eq_true rfl) dX9_init_7 ?_
  refine G_putRF fl_X9_9 (by decide) sq_20 rfl rfl rfl rfl dX9_init_9 ?_
  refine G_aload_n dX9_init_12 rfl rfl ?_
  refine G_bipush (v := 8) dX9_init_13 rfl ?_
  refine G_newarr (aty := .int) (ty := .int) (f := gS0.2) (N0 := 22) (t := 14) (q := 1) (len := 8) rfl (fun _ => rfl) (fun _ _ h => h) (by decide) sp_22 (gblk1 22 8 (fun _ => rfl)) gac_1 (by decide) (by decide) (by decide) (Nat.le_of_ble_eq_true rfl) (Nat.le_of_ble_eq_true rfl) dX9_init_15 ?_
  refine G_putRF fl_X9_15 (by decide) sq_20 rfl rfl rfl rfl dX9_init_17 ?_
  refine G_aload_n dX9_init_20 rfl rfl ?_
  refine G_bipush (v := 32) dX9_init_21 rfl ?_
  refine G_newarr (aty := .int) (ty := .int) (f := gS0.2) (N0 := 23) (t := 14) (q := 1) (len := 32) rfl (fun _ => rfl) (fun _ _ h => h) (by decide) sp_23 (gblk1 23 32 (fun _ => rfl)) gac_1 (by decide) (by decide) (by decide) (Nat.le_of_ble_eq_true rfl) (Nat.le_of_ble_eq_true rfl) dX9_init_23 ?_
  refine G_putRF fl_X9_18 (by decide) sq_20 rfl rfl rfl rfl dX9_init_25 ?_
  refine G_aload_n dX9_init_28 rfl rfl ?_
  refine G_bipush (v := 32) dX9_init_29 rfl ?_
  refine G_newarr (aty := .int) (ty := .int) (f := gS0.2) (N0 := 24) (t := 14) (q := 1) (len := 32) rfl (fun _ => rfl) (fun _ _ h => h) (by decide) sp_24 (gblk1 24 32 (fun _ => rfl)) gac_1 (by decide) (by decide) (by decide) (Nat.le_of_ble_eq_true rfl) (Nat.le_of_ble_eq_true rfl) dX9_init_31 ?_
  refine G_putRF fl_X9_21 (by decide) sq_20 rfl rfl rfl rfl dX9_init_33 ?_
  refine G_aload_n dX9_init_36 rfl rfl ?_
  refine G_bipush (v := 100) dX9_init_37 rfl ?_
  refine G_newarr (aty := .int) (ty := .int) (f := gS0.2) (N0 := 25) (t := 14) (q := 1) (len := 100) rfl (fun _ => rfl) (fun _ _ h => h) (by decide) sp_25 (gblk1 25 100 (fun _ => rfl)) gac_1 (by decide) (by decide) (by decide) (Nat.le_of_ble_eq_true rfl) (Nat.le_of_ble_eq_true rfl) dX9_init_39 ?_
  refine G_putRF fl_X9_24 (by decide) sq_20 rfl rfl rfl rfl dX9_init_41 ?_
  refine G_vret rfl (Nat.le_refl _) (Nat.le_refl _) dX9_init_44 ?_
  exact ⟨rfl, rfl, rfl, rfl, rfl⟩
def gl_10 : List (Nat × Nat × Nat) := (13, 1, 20) :: gl_9
def gl_11 : List (Nat × Nat × Nat) := (26, 4, 31) :: (26, 3, 30) :: (26, 2, 29) :: (26, 1, 28) :: (26, 0, 27) :: gl_10
set_option maxRecDepth 20000 in
theorem qi_6 {l : Launch} : Cn l gX9_init 2 5 180 [.ref 26] (27, gS0.2) (gu2 gz32 9 1 5) gz64 (grl gl_10) (fun v' S' I' J' R' => v' = none ∧ S' = (32, gS0.2) ∧ I' = (gu2 gz32 9 1 5) ∧ J' = gz64 ∧ R' = grl gl_11) := by
  refine Cn.of [some (.ref 26)] (by decide) rfl (Nat.le_of_ble_eq_true rfl) ?_
  refine G_aload_n dX9_init_0 rfl rfl ?_
  refine G_objI (gtb_in 204 (by decide +kernel) (by decide +kernel)) (by decide) (Nat.le_of_ble_eq_true rfl) dX9_init_1 gobj_w ?_
  refine G_aload_n dX9_init_4 rfl rfl ?_
  refine G_bipush (v := 8) dX9_init_5 rfl ?_
  refine G_newarr (aty := .int) (ty := .int) (f := gS0.2) (N0 := 27) (t := 14) (q := 1) (len := 8) rfl (fun _ => rfl) (fun _ _ h => h) (by decide) sp_27 (gblk1 27 8 (fun _ => rfl)) gac_1 (by decide) (by decide) (by decide) (Nat.le_of_ble_eq_true rfl) (Nat.le_of_ble_eq_true rfl) dX9_init_7 ?_
  refine G_putRF fl_X9_9 (by decide) sq_26 rfl rfl rfl rfl dX9_init_9 ?_
  refine G_aload_n dX9_init_12 rfl rfl ?_
  refine G_bipush (v := 8) dX9_init_13 rfl ?_
  refine G_newarr (aty := .int) (ty := .int) (f := gS0.2) (N0 := 28) (t := 14) (q := 1) (len := 8) rfl (fun _ => rfl) (fun _ _ h => h) (by decide) sp_28 (gblk1 28 8 (fun _ => rfl)) gac_1 (by decide) (by decide) (by decide) (Nat.le_of_ble_eq_true rfl) (Nat.le_of_ble_eq_true rfl) dX9_init_15 ?_
  refine G_putRF fl_X9_15 (by decide) sq_26 rfl rfl rfl rfl dX9_init_17 ?_
  refine G_aload_n dX9_init_20 rfl rfl ?_
  refine G_bipush (v := 32) dX9_init_21 rfl ?_
  refine G_newarr (aty := .int) (ty := .int) (f := gS0.2) (N0 := 29) (t := 14) (q := 1) (len := 32) rfl (fun _ => rfl) (fun _ _ h => h) (by decide) sp_29 (gblk1 29 32 (fun _ => rfl)) gac_1 (by decide) (by decide) (by decide) (Nat.le_of_ble_eq_true rfl) (Nat.le_of_ble_eq_true rfl) dX9_init_23 ?_
  refine G_putRF fl_X9_18 (by decide) sq_26 rfl rfl rfl rfl dX9_init_25 ?_
  refine G_aload_n dX9_init_28 rfl rfl ?_
  refine G_bipush (v := 32) dX9_init_29 rfl ?_
  refine G_newarr (aty := .int) (ty := .int) (f := gS0.2) (N0 := 30) (t := 14) (q := 1) (len := 32) rfl (fun _ => rfl) (fun _ _ h => h) (by decide) sp_30 (gblk1 30 32 (fun _ => rfl)) gac_1 (by decide) (by decide) (by decide) (Nat.le_of_ble_eq_true rfl) (Nat.le_of_ble_eq_true rfl) dX9_init_31 ?_
  refine G_putRF fl_X9_21 (by decide) sq_26 rfl rfl rfl rfl dX9_init_33 ?_
  refine G_aload_n dX9_init_36 rfl rfl ?_
  refine G_bipush (v := 100) dX9_init_37 rfl ?_
  refine G_newarr (aty := .int) (ty := .int) (f := gS0.2) (N0 := 31) (t := 14) (q := 1) (len := 100) rfl (fun _ => rfl) (fun _ _ h => h) (by decide) sp_31 (gblk1 31 100 (fun _ => rfl)) gac_1 (by decide) (by decide) (by decide) (Nat.le_of_ble_eq_true rfl) (Nat.le_of_ble_eq_true rfl) dX9_init_39 ?_
  refine G_putRF fl_X9_24 (by decide) sq_26 rfl rfl rfl rfl dX9_init_41 ?_
  refine G_vret rfl (Nat.le_refl _) (Nat.le_refl _) dX9_init_44 ?_
  exact ⟨rfl, rfl, rfl, rfl, rfl⟩
def gl_12 : List (Nat × Nat × Nat) := (13, 2, 26) :: gl_11
def gl_13 : List (Nat × Nat × Nat) := (32, 4, 37) :: (32, 3, 36) :: (32, 2, 35) :: (32, 1, 34) :: (32, 0, 33) :: gl_12
set_option maxRecDepth 20000 in
theorem qi_7 {l : Launch} : Cn l gX9_init 2 5 180 [.ref 32] (33, gS0.2) (gu2 gz32 9 1 5) gz64 (grl gl_12) (fun v' S' I' J' R' => v' = none ∧ S' = (38, gS0.2) ∧ I' = (gu2 gz32 9 1 5) ∧ J' = gz64 ∧ R' = grl gl_13) := by
  refine Cn.of [some (.ref 32)] (by decide) rfl (Nat.le_of_ble_eq_true rfl) ?_
  refine G_aload_n dX9_init_0 rfl rfl ?_
  refine G_objI (gtb_in 204 (by decide +kernel) (by decide +kernel)) (by decide) (Nat.le_of_ble_eq_true rfl) dX9_init_1 gobj_w ?_
  refine G_aload_n dX9_init_4 rfl rfl ?_
  refine G_bipush (v := 8) dX9_init_5 rfl ?_
  refine G_newarr (aty := .int) (ty := .int) (f := gS0.2) (N0 := 33) (t := 14) (q := 1) (len := 8) rfl (fun _ => rfl) (fun _ _ h => h) (by decide) sp_33 (gblk1 33 8 (fun _ => rfl)) gac_1 (by decide) (by decide) (by decide) (Nat.le_of_ble_eq_true rfl) (Nat.le_of_ble_eq_true rfl) dX9_init_7 ?_
  refine G_putRF fl_X9_9 (by decide) sq_32 rfl rfl rfl rfl dX9_init_9 ?_
  refine G_aload_n dX9_init_12 rfl rfl ?_
  refine G_bipush (v := 8) dX9_init_13 rfl ?_
  refine G_newarr (aty := .int) (ty := .int) (f := gS0.2) (N0 := 34) (t := 14) (q := 1) (len := 8) rfl (fun _ => rfl) (fun _ _ h => h) (by decide) sp_34 (gblk1 34 8 (fun _ => rfl)) gac_1 (by decide) (by decide) (by decide) (Nat.le_of_ble_eq_true rfl) (Nat.le_of_ble_eq_true rfl) dX9_init_15 ?_
  refine G_putRF fl_X9_15 (by decide) sq_32 rfl rfl rfl rfl dX9_init_17 ?_
  refine G_aload_n dX9_init_20 rfl rfl ?_
  refine G_bipush (v := 32) dX9_init_21 rfl ?_
  refine G_newarr (aty := .int) (ty := .int) (f := gS0.2) (N0 := 35) (t := 14) (q := 1) (len := 32) rfl (fun _ => rfl) (fun _ _ h => h) (by decide) sp_35 (gblk1 35 32 (fun _ => rfl)) gac_1 (by decide) (by decide) (by decide) (Nat.le_of_ble_eq_true rfl) (Nat.le_of_ble_eq_true rfl) dX9_init_23 ?_
  refine G_putRF fl_X9_18 (by decide) sq_32 rfl rfl rfl rfl dX9_init_25 ?_
  refine G_aload_n dX9_init_28 rfl rfl ?_
  refine G_bipush (v := 32) dX9_init_29 rfl ?_
  refine G_newarr (aty := .int) (ty := .int) (f := gS0.2) (N0 := 36) (t := 14) (q := 1) (len := 32) rfl (fun _ => rfl) (fun _ _ h => h) (by decide) sp_36 (gblk1 36 32 (fun _ => rfl)) gac_1 (by decide) (by decide) (by decide) (Nat.le_of_ble_eq_true rfl) (Nat.le_of_ble_eq_true rfl) dX9_init_31 ?_
  refine G_putRF fl_X9_21 (by decide) sq_32 rfl rfl rfl rfl dX9_init_33 ?_
  refine G_aload_n dX9_init_36 rfl rfl ?_
  refine G_bipush (v := 100) dX9_init_37 rfl ?_
  refine G_newarr (aty := .int) (ty := .int) (f := gS0.2) (N0 := 37) (t := 14) (q := 1) (len := 100) rfl (fun _ => rfl) (fun _ _ h => h) (by decide) sp_37 (gblk1 37 100 (fun _ => rfl)) gac_1 (by decide) (by decide) (by decide) (Nat.le_of_ble_eq_true rfl) (Nat.le_of_ble_eq_true rfl) dX9_init_39 ?_
  refine G_putRF fl_X9_24 (by decide) sq_32 rfl rfl rfl rfl dX9_init_41 ?_
  refine G_vret rfl (Nat.le_refl _) (Nat.le_refl _) dX9_init_44 ?_
  exact ⟨rfl, rfl, rfl, rfl, rfl⟩
def gl_14 : List (Nat × Nat × Nat) := (13, 3, 32) :: gl_13
def gl_15 : List (Nat × Nat × Nat) := (38, 4, 43) :: (38, 3, 42) :: (38, 2, 41) :: (38, 1, 40) :: (38, 0, 39) :: gl_14
set_option maxRecDepth 20000 in
theorem qi_8 {l : Launch} : Cn l gX9_init 2 5 180 [.ref 38] (39, gS0.2) (gu2 gz32 9 1 5) gz64 (grl gl_14) (fun v' S' I' J' R' => v' = none ∧ S' = (44, gS0.2) ∧ I' = (gu2 gz32 9 1 5) ∧ J' = gz64 ∧ R' = grl gl_15) := by
  refine Cn.of [some (.ref 38)] (by decide) rfl (Nat.le_of_ble_eq_true rfl) ?_
  refine G_aload_n dX9_init_0 rfl rfl ?_
  refine G_objI (gtb_in 204 (by decide +kernel) (by decide +kernel)) (by decide) (Nat.le_of_ble_eq_true rfl) dX9_init_1 gobj_w ?_
  refine G_aload_n dX9_init_4 rfl rfl ?_
  refine G_bipush (v := 8) dX9_init_5 rfl ?_
  refine G_newarr (aty := .int) (ty := .int) (f := gS0.2) (N0 := 39) (t := 14) (q := 1) (len := 8) rfl (fun _ => rfl) (fun _ _ h => h) (by decide) sp_39 (gblk1 39 8 (fun _ => rfl)) gac_1 (by decide) (by decide) (by decide) (Nat.le_of_ble_eq_true rfl) (Nat.le_of_ble_eq_true rfl) dX9_init_7 ?_
  refine G_putRF fl_X9_9 (by decide) sq_38 rfl rfl rfl rfl dX9_init_9 ?_
  refine G_aload_n dX9_init_12 rfl rfl ?_
  refine G_bipush (v := 8) dX9_init_13 rfl ?_
  refine G_newarr (aty := .int) (ty := .int) (f := gS0.2) (N0 := 40) (t := 14) (q := 1) (len := 8) rfl (fun _ => rfl) (fun _ _ h => h) (by decide) sp_40 (gblk1 40 8 (fun _ => rfl)) gac_1 (by decide) (by decide) (by decide) (Nat.le_of_ble_eq_true rfl) (Nat.le_of_ble_eq_true rfl) dX9_init_15 ?_
  refine G_putRF fl_X9_15 (by decide) sq_38 rfl rfl rfl rfl dX9_init_17 ?_
  refine G_aload_n dX9_init_20 rfl rfl ?_
  refine G_bipush (v := 32) dX9_init_21 rfl ?_
  refine G_newarr (aty := .int) (ty := .int) (f := gS0.2) (N0 := 41) (t := 14) (q := 1) (len := 32) rfl (fun _ => rfl) (fun _ _ h => h) (by decide) sp_41 (gblk1 41 32 (fun _ => rfl)) gac_1 (by decide) (by decide) (by decide) (Nat.le_of_ble_eq_true rfl) (Nat.le_of_ble_eq_true rfl) dX9_init_23 ?_
  refine G_putRF fl_X9_18 (by decide) sq_38 rfl rfl rfl rfl dX9_init_25 ?_
  refine G_aload_n dX9_init_28 rfl rfl ?_
  refine G_bipush (v := 32) dX9_init_29 rfl ?_
  refine G_newarr (aty := .int) (ty := .int) (f := gS0.2) (N0 := 42) (t := 14) (q := 1) (len := 32) rfl (fun _ => rfl) (fun _ _ h => h) (by decide) sp_42 (gblk1 42 32 (fun _ => rfl)) gac_1 (by decide) (by decide) (by decide) (Nat.le_of_ble_eq_true rfl) (Nat.le_of_ble_eq_true rfl) dX9_init_31 ?_
  refine G_putRF fl_X9_21 (by decide) sq_38 rfl rfl rfl rfl dX9_init_33 ?_
  refine G_aload_n dX9_init_36 rfl rfl ?_
  refine G_bipush (v := 100) dX9_init_37 rfl ?_
  refine G_newarr (aty := .int) (ty := .int) (f := gS0.2) (N0 := 43) (t := 14) (q := 1) (len := 100) rfl (fun _ => rfl) (fun _ _ h => h) (by decide) sp_43 (gblk1 43 100 (fun _ => rfl)) gac_1 (by decide) (by decide) (by decide) (Nat.le_of_ble_eq_true rfl) (Nat.le_of_ble_eq_true rfl) dX9_init_39 ?_
  refine G_putRF fl_X9_24 (by decide) sq_38 rfl rfl rfl rfl dX9_init_41 ?_
  refine G_vret rfl (Nat.le_refl _) (Nat.le_refl _) dX9_init_44 ?_
  exact ⟨rfl, rfl, rfl, rfl, rfl⟩
def gl_16 : List (Nat × Nat × Nat) := (13, 4, 38) :: gl_15
def gl_17 : List (Nat × Nat × Nat) := (44, 4, 49) :: (44, 3, 48) :: (44, 2, 47) :: (44, 1, 46) :: (44, 0, 45) :: gl_16
set_option maxRecDepth 20000 in
theorem qi_9 {l : Launch} : Cn l gX9_init 2 5 180 [.ref 44] (45, gS0.2) (gu2 gz32 9 1 5) gz64 (grl gl_16) (fun v' S' I' J' R' => v' = none ∧ S' = (50, gS0.2) ∧ I' = (gu2 gz32 9 1 5) ∧ J' = gz64 ∧ R' = grl gl_17) := by
  refine Cn.of [some (.ref 44)] (by decide) rfl (Nat.le_of_ble_eq_true rfl) ?_
  refine G_aload_n dX9_init_0 rfl rfl ?_
  refine G_objI (gtb_in 204 (by decide +kernel) (by decide +kernel)) (by decide) (Nat.le_of_ble_eq_true rfl) dX9_init_1 gobj_w ?_
  refine G_aload_n dX9_init_4 rfl rfl ?_
  refine G_bipush (v := 8) dX9_init_5 rfl ?_
  refine G_newarr (aty := .int) (ty := .int) (f := gS0.2) (N0 := 45) (t := 14) (q := 1) (len := 8) rfl (fun _ => rfl) (fun _ _ h => h) (by decide) sp_45 (gblk1 45 8 (fun _ => rfl)) gac_1 (by decide) (by decide) (by decide) (Nat.le_of_ble_eq_true rfl) (Nat.le_of_ble_eq_true rfl) dX9_init_7 ?_
  refine G_putRF fl_X9_9 (by decide) sq_44 rfl rfl rfl rfl dX9_init_9 ?_
  refine G_aload_n dX9_init_12 rfl rfl ?_
  refine G_bipush (v := 8) dX9_init_13 rfl ?_
  refine G_newarr (aty := .int) (ty := .int) (f := gS0.2) (N0 := 46) (t := 14) (q := 1) (len := 8) rfl (fun _ => rfl) (fun _ _ h => h) (by decide) sp_46 (gblk1 46 8 (fun _ => rfl)) gac_1 (by decide) (by decide) (by decide) (Nat.le_of_ble_eq_true rfl) (Nat.le_of_ble_eq_true rfl) dX9_init_15 ?_
  refine G_putRF fl_X9_15 (by decide) sq_44 rfl rfl rfl rfl dX9_init_17 ?_
  refine G_aload_n dX9_init_20 rfl rfl ?_
  refine G_bipush (v := 32) dX9_init_21 rfl ?_
  refine G_newarr (aty := .int) (ty := .int) (f := gS0.2) (N0 := 47) (t := 14) (q := 1) (len := 32) rfl (fun _ => rfl) (fun _ _ h => h) (by decide) sp_47 (gblk1 47 32 (fun _ => rfl)) gac_1 (by decide) (by decide) (by decide) (Nat.le_of_ble_eq_true rfl) (Nat.le_of_ble_eq_true rfl) dX9_init_23 ?_
  refine G_putRF fl_X9_18 (by decide) sq_44 rfl rfl rfl rfl dX9_init_25 ?_
  refine G_aload_n dX9_init_28 rfl rfl ?_
  refine G_bipush (v := 32) dX9_init_29 rfl ?_
  refine G_newarr (aty := .int) (ty := .int) (f := gS0.2) (N0 := 48) (t := 14) (q := 1) (len := 32) rfl (fun _ => rfl) (fun _ _ h => h) (by decide) sp_48 (gblk1 48 32 (fun _ => rfl)) gac_1 (by decide) (by decide) (by decide) (Nat.le_of_ble_eq_true rfl) (Nat.le_of_ble_eq_true rfl) dX9_init_31 ?_
  refine G_putRF fl_X9_21 (by decide) sq_44 rfl rfl rfl rfl dX9_init_33 ?_
  refine G_aload_n dX9_init_36 rfl rfl ?_
  refine G_bipush (v := 100) dX9_init_37 rfl ?_
  refine G_newarr (aty := .int) (ty := .int) (f := gS0.2) (N0 := 49) (t := 14) (q := 1) (len := 100) rfl (fun _ => rfl) (fun _ _ h => h) (by decide) sp_49 (gblk1 49 100 (fun _ => rfl)) gac_1 (by decide) (by decide) (by decide) (Nat.le_of_ble_eq_true rfl) (Nat.le_of_ble_eq_true rfl) dX9_init_39 ?_
  refine G_putRF fl_X9_24 (by decide) sq_44 rfl rfl rfl rfl dX9_init_41 ?_
  refine G_vret rfl (Nat.le_refl _) (Nat.le_refl _) dX9_init_44 ?_
  exact ⟨rfl, rfl, rfl, rfl, rfl⟩
def gl_18 : List (Nat × Nat × Nat) := (13, 5, 44) :: gl_17
def gl_19 : List (Nat × Nat × Nat) := (50, 4, 55) :: (50, 3, 54) :: (50, 2, 53) :: (50, 1, 52) :: (50, 0, 51) :: gl_18
set_option maxRecDepth 20000 in
theorem qi_10 {l : Launch} : Cn l gX9_init 2 5 180 [.ref 50] (51, gS0.2) (gu2 gz32 9 1 5) gz64 (grl gl_18) (fun v' S' I' J' R' => v' = none ∧ S' = (56, gS0.2) ∧ I' = (gu2 gz32 9 1 5) ∧ J' = gz64 ∧ R' = grl gl_19) := by
  refine Cn.of [some (.ref 50)] (by decide) rfl (Nat.le_of_ble_eq_true rfl) ?_
  refine G_aload_n dX9_init_0 rfl rfl ?_
  refine G_objI (gtb_in 204 (by decide +kernel) (by decide +kernel)) (by decide) (Nat.le_of_ble_eq_true rfl) dX9_init_1 gobj_w ?_
  refine G_aload_n dX9_init_4 rfl rfl ?_
  refine G_bipush (v := 8) dX9_init_5 rfl ?_
  refine G_newarr (aty := .int) (ty := .int) (f := gS0.2) (N0 := 51) (t := 14) (q := 1) (len := 8) rfl (fun _ => rfl) (fun _ _ h => h) (by decide) sp_51 (gblk1 51 8 (fun _ => rfl)) gac_1 (by decide) (by decide) (by decide) (Nat.le_of_ble_eq_true rfl) (Nat.le_of_ble_eq_true rfl) dX9_init_7 ?_
  refine G_putRF fl_X9_9 (by decide) sq_50 rfl rfl rfl rfl dX9_init_9 ?_
  refine G_aload_n dX9_init_12 rfl rfl ?_
  refine G_bipush (v := 8) dX9_init_13 rfl ?_
  refine G_newarr (aty := .int) (ty := .int) (f := gS0.2) (N0 := 52) (t := 14) (q := 1) (len := 8) rfl (fun _ => rfl) (fun _ _ h => h) (by decide) sp_52 (gblk1 52 8 (fun _ => rfl)) gac_1 (by decide) (by decide) (by decide) (Nat.le_of_ble_eq_true rfl) (Nat.le_of_ble_eq_true rfl) dX9_init_15 ?_
  refine G_putRF fl_X9_15 (by decide) sq_50 rfl rfl rfl rfl dX9_init_17 ?_
  refine G_aload_n dX9_init_20 rfl rfl ?_
  refine G_bipush (v := 32) dX9_init_21 rfl ?_
  refine G_newarr (aty := .int) (ty := .int) (f := gS0.2) (N0 := 53) (t := 14) (q := 1) (len := 32) rfl (fun _ => rfl) (fun _ _ h => h) (by decide) sp_53 (gblk1 53 32 (fun _ => rfl)) gac_1 (by decide) (by decide) (by decide) (Nat.le_of_ble_eq_true rfl) (Nat.le_of_ble_eq_true rfl) dX9_init_23 ?_
  refine G_putRF fl_X9_18 (by decide) sq_50 rfl rfl rfl rfl dX9_init_25 ?_
  refine G_aload_n dX9_init_28 rfl rfl ?_
  refine G_bipush (v := 32) dX9_init_29 rfl ?_
  refine G_newarr (aty := .int) (ty := .int) (f := gS0.2) (N0 := 54) (t := 14) (q := 1) (len := 32) rfl (fun _ => rfl) (fun _ _ h => h) (by decide) sp_54 (gblk1 54 32 (fun _ => rfl)) gac_1 (by decide) (by decide) (by decide) (Nat.le_of_ble_eq_true rfl) (Nat.le_of_ble_eq_true rfl) dX9_init_31 ?_
  refine G_putRF fl_X9_21 (by decide) sq_50 rfl rfl rfl rfl dX9_init_33 ?_
  refine G_aload_n dX9_init_36 rfl rfl ?_
  refine G_bipush (v := 100) dX9_init_37 rfl ?_
  refine G_newarr (aty := .int) (ty := .int) (f := gS0.2) (N0 := 55) (t := 14) (q := 1) (len := 100) rfl (fun _ => rfl) (fun _ _ h => h) (by decide) sp_55 (gblk1 55 100 (fun _ => rfl)) gac_1 (by decide) (by decide) (by decide) (Nat.le_of_ble_eq_true rfl) (Nat.le_of_ble_eq_true rfl) dX9_init_39 ?_
  refine G_putRF fl_X9_24 (by decide) sq_50 rfl rfl rfl rfl dX9_init_41 ?_
  refine G_vret rfl (Nat.le_refl _) (Nat.le_refl _) dX9_init_44 ?_
  exact ⟨rfl, rfl, rfl, rfl, rfl⟩
def gl_20 : List (Nat × Nat × Nat) := (13, 6, 50) :: gl_19
def gl_21 : List (Nat × Nat × Nat) := (56, 4, 61) :: (56, 3, 60) :: (56, 2, 59) :: (56, 1, 58) :: (56, 0, 57) :: gl_20
set_option maxRecDepth 20000 in
theorem qi_11 {l : Launch} : Cn l gX9_init 2 5 180 [.ref 56] (57, gS0.2) (gu2 gz32 9 1 5) gz64 (grl gl_20) (fun v' S' I' J' R' => v' = none ∧ S' = (62, gS0.2) ∧ I' = (gu2 gz32 9 1 5) ∧ J' = gz64 ∧ R' = grl gl_21) := by
  refine Cn.of [some (.ref 56)] (by decide) rfl (Nat.le_of_ble_eq_true rfl) ?_
  refine G_aload_n dX9_init_0 rfl rfl ?_
  refine G_objI (gtb_in 204 (by decide +kernel) (by decide +kernel)) (by decide) (Nat.le_of_ble_eq_true rfl) dX9_init_1 gobj_w ?_
  refine G_aload_n dX9_init_4 rfl rfl ?_
  refine G_bipush (v := 8) dX9_init_5 rfl ?_
  refine G_newarr (aty := .int) (ty := .int) (f := gS0.2) (N0 := 57) (t := 14) (q := 1) (len := 8) rfl (fun _ => rfl) (fun _ _ h => h) (by decide) sp_57 (gblk1 57 8 (fun _ => rfl)) gac_1 (by decide) (by decide) (by decide) (Nat.le_of_ble_eq_true rfl) (Nat.le_of_ble_eq_true rfl) dX9_init_7 ?_
  refine G_putRF fl_X9_9 (by decide) sq_56 rfl rfl rfl rfl dX9_init_9 ?_
  refine G_aload_n dX9_init_12 rfl rfl ?_
  refine G_bipush (v := 8) dX9_init_13 rfl ?_
  refine G_newarr (aty := .int) (ty := .int) (f := gS0.2) (N0 := 58) (t := 14) (q := 1) (len := 8) rfl (fun _ => rfl) (fun _ _ h => h) (by decide) sp_58 (gblk1 58 8 (fun _ => rfl)) gac_1 (by decide) (by decide) (by decide) (Nat.le_of_ble_eq_true rfl) (Nat.le_of_ble_eq_true rfl) dX9_init_15 ?_
  refine G_putRF fl_X9_15 (by decide) sq_56 rfl rfl rfl rfl dX9_init_17 ?_
  refine G_aload_n dX9_init_20 rfl rfl ?_
  refine G_bipush (v := 32) dX9_init_21 rfl ?_
  refine G_newarr (aty := .int) (ty := .int) (f := gS0.2) (N0 := 59) (t := 14) (q := 1) (len := 32) rfl (fun _ => rfl) (fun _ _ h => h) (by decide) sp_59 (gblk1 59 32 (fun _ => rfl)) gac_1 (by decide) (by decide) (by decide) (Nat.le_of_ble_eq_true rfl) (Nat.le_of_ble_eq_true rfl) dX9_init_23 ?_
  refine G_putRF fl_X9_18 (by decide) sq_56 rfl rfl rfl rfl dX9_init_25 ?_
  refine G_aload_n dX9_init_28 rfl rfl ?_
  refine G_bipush (v := 32) dX9_init_29 rfl ?_
  refine G_newarr (aty := .int) (ty := .int) (f := gS0.2) (N0 := 60) (t := 14) (q := 1) (len := 32) rfl (fun _ => rfl) (fun _ _ h => h) (by decide) sp_60 (gblk1 60 32 (fun _ => rfl)) gac_1 (by decide) (by decide) (by decide) (Nat.le_of_ble_eq_true rfl) (Nat.le_of_ble_eq_true rfl) dX9_init_31 ?_
  refine G_putRF fl_X9_21 (by decide) sq_56 rfl rfl rfl rfl dX9_init_33 ?_
  refine G_aload_n dX9_init_36 rfl rfl ?_
  refine G_bipush (v := 100) dX9_init_37 rfl ?_
  refine G_newarr (aty := .int) (ty := .int) (f := gS0.2) (N0 := 61) (t := 14) (q := 1) (len := 100) rfl (fun _ => rfl) (fun _ _ h => h) (by decide) sp_61 (gblk1 61 100 (fun _ => rfl)) gac_1 (by decide) (by decide) (by decide) (Nat.le_of_ble_eq_true rfl) (Nat.le_of_ble_eq_true rfl) dX9_init_39 ?_
  refine G_putRF fl_X9_24 (by decide) sq_56 rfl rfl rfl rfl dX9_init_41 ?_
  refine G_vret rfl (Nat.le_refl _) (Nat.le_refl _) dX9_init_44 ?_
  exact ⟨rfl, rfl, rfl, rfl, rfl⟩
def gl_22 : List (Nat × Nat × Nat) := (13, 7, 56) :: gl_21
def gl_23 : List (Nat × Nat × Nat) := (62, 4, 67) :: (62, 3, 66) :: (62, 2, 65) :: (62, 1, 64) :: (62, 0, 63) :: gl_22
set_option maxRecDepth 20000 in
theorem qi_12 {l : Launch} : Cn l gX9_init 2 5 180 [.ref 62] (63, gS0.2) (gu2 gz32 9 1 5) gz64 (grl gl_22) (fun v' S' I' J' R' => v' = none ∧ S' = (68, gS0.2) ∧ I' = (gu2 gz32 9 1 5) ∧ J' = gz64 ∧ R' = grl gl_23) := by
  refine Cn.of [some (.ref 62)] (by decide) rfl (Nat.le_of_ble_eq_true rfl) ?_
  refine G_aload_n dX9_init_0 rfl rfl ?_
  refine G_objI (gtb_in 204 (by decide +kernel) (by decide +kernel)) (by decide) (Nat.le_of_ble_eq_true rfl) dX9_init_1 gobj_w ?_
  refine G_aload_n dX9_init_4 rfl rfl ?_
  refine G_bipush (v := 8) dX9_init_5 rfl ?_
  refine G_newarr (aty := .int) (ty := .int) (f := gS0.2) (N0 := 63) (t := 14) (q := 1) (len := 8) rfl (fun _ => rfl) (fun _ _ h => h) (by decide) sp_63 (gblk1 63 8 (fun _ => rfl)) gac_1 (by decide) (by decide) (by decide) (Nat.le_of_ble_eq_true rfl) (Nat.le_of_ble_eq_true rfl) dX9_init_7 ?_
  refine G_putRF fl_X9_9 (by decide) sq_62 rfl rfl rfl rfl dX9_init_9 ?_
  refine G_aload_n dX9_init_12 rfl rfl ?_
  refine G_bipush (v := 8) dX9_init_13 rfl ?_
  refine G_newarr (aty := .int) (ty := .int) (f := gS0.2) (N0 := 64) (t := 14) (q := 1) (len := 8) rfl (fun _ => rfl) (fun _ _ h => h) (by decide) sp_64 (gblk1 64 8 (fun _ => rfl)) gac_1 (by decide) (by decide) (by decide) (Nat.le_of_ble_eq_true rfl) (Nat.le_of_ble_eq_true rfl) dX9_init_15 ?_
  refine G_putRF fl_X9_15 (by decide) sq_62 rfl rfl rfl rfl dX9_init_17 ?_
  refine G_aload_n dX9_init_20 rfl rfl ?_
  refine G_bipush (v := 32) dX9_init_21 rfl ?_
  refine G_newarr (aty := .int) (ty := .int) (f := gS0.2) (N0 := 65) (t := 14) (q := 1) (len := 32) rfl (fun _ => rfl) (fun _ _ h => h) (by decide) sp_65 (gblk1 65 32 (fun _ => rfl)) gac_1 (by decide) (by decide) (by decide) (Nat.le_of_ble_eq_true rfl) (Nat.le_of_ble_eq_true rfl) dX9_init_23 ?_
  refine G_putRF fl_X9_18 (by decide) sq_62 rfl rfl rfl rfl dX9_init_25 ?_
  refine G_aload_n dX9_init_28 rfl rfl ?_
  refine G_bipush (v := 32) dX9_init_29 rfl ?_
  refine G_newarr (aty := .int) (ty := .int) (f := gS0.2) (N0 := 66) (t := 14) (q := 1) (len := 32) rfl (fun _ => rfl) (fun _ _ h => h) (by decide) sp_66 (gblk1 66 32 (fun _ => rfl)) gac_1 (by decide) (by decide) (by decide) (Nat.le_of_ble_eq_true rfl) (Nat.le_of_ble_eq_true rfl) dX9_init_31 ?_
  refine G_putRF fl_X9_21 (by decide) sq_62 rfl rfl rfl rfl dX9_init_33 ?_
  refine G_aload_n dX9_init_36 rfl rfl ?_
  refine G_bipush (v := 100) dX9_init_37 rfl ?_
  refine G_newarr (aty := .int) (ty := .int) (f := gS0.2) (N0 := 67) (t := 14) (q := 1) (len := 100) rfl (fun _ => rfl) (fun _ _ h => h) (by decide) sp_67 (gblk1 67 100 (fun _ => rfl)) gac_1 (by decide) (by decide) (by decide) (Nat.le_of_ble_eq_true rfl) (Nat.le_of_ble_eq_true rfl) dX9_init_39 ?_
  refine G_putRF fl_X9_24 (by decide) sq_62 rfl rfl rfl rfl dX9_init_41 ?_
  refine G_vret rfl (Nat.le_refl _) (Nat.le_refl _) dX9_init_44 ?_
  exact ⟨rfl, rfl, rfl, rfl, rfl⟩
def gl_24 : List (Nat × Nat × Nat) := (13, 8, 62) :: gl_23
def gl_25 : List (Nat × Nat × Nat) := (68, 4, 73) :: (68, 3, 72) :: (68, 2, 71) :: (68, 1, 70) :: (68, 0, 69) :: gl_24
set_option maxRecDepth 20000 in
theorem qi_13 {l : Launch} : Cn l gX9_init 2 5 180 [.ref 68] (69, gS0.2) (gu2 gz32 9 1 5) gz64 (grl gl_24) (fun v' S' I' J' R' => v' = none ∧ S' = (74, gS0.2) ∧ I' = (gu2 gz32 9 1 5) ∧ J' = gz64 ∧ R' = grl gl_25) := by
  refine Cn.of [some (.ref 68)] (by decide) rfl (Nat.le_of_ble_eq_true rfl) ?_
  refine G_aload_n dX9_init_0 rfl rfl ?_
  refine G_objI (gtb_in 204 (by decide +kernel) (by decide +kernel)) (by decide) (Nat.le_of_ble_eq_true rfl) dX9_init_1 gobj_w ?_
  refine G_aload_n dX9_init_4 rfl rfl ?_
  refine G_bipush (v := 8) dX9_init_5 rfl ?_
  refine G_newarr (aty := .int) (ty := .int) (f := gS0.2) (N0 := 69) (t := 14) (q := 1) (len := 8) rfl (fun _ => rfl) (fun _ _ h => h) (by decide) sp_69 (gblk1 69 8 (fun _ => rfl)) gac_1 (by decide) (by decide) (by decide) (Nat.le_of_ble_eq_true rfl) (Nat.le_of_ble_eq_true rfl) dX9_init_7 ?_
  refine G_putRF fl_X9_9 (by decide) sq_68 rfl rfl rfl rfl dX9_init_9 ?_
  refine G_aload_n dX9_init_12 rfl rfl ?_
  refine G_bipush (v := 8) dX9_init_13 rfl ?_
  refine G_newarr (aty := .int) (ty := .int) (f := gS0.2) (N0 := 70) (t := 14) (q := 1) (len := 8) rfl (fun _ => rfl) (fun _ _ h => h) (by decide) sp_70 (gblk1 70 8 (fun _ => rfl)) gac_1 (by decide) (by decide) (by decide) (Nat.le_of_ble_eq_true rfl) (Nat.le_of_ble_eq_true rfl) dX9_init_15 ?_
  refine G_putRF fl_X9_15 (by decide) sq_68 rfl rfl rfl rfl dX9_init_17 ?_
  refine G_aload_n dX9_init_20 rfl rfl ?_
  refine G_bipush (v := 32) dX9_init_21 rfl ?_
  refine G_newarr (aty := .int) (ty := .int) (f := gS0.2) (N0 := 71) (t := 14) (q := 1) (len := 32) rfl (fun _ => rfl) (fun _ _ h => h) (by decide) sp_71 (gblk1 71 32 (fun _ => rfl)) gac_1 (by decide) (by decide) (by decide) (Nat.le_of_ble_eq_true rfl) (Nat.le_of_ble_eq_true rfl) dX9_init_23 ?_
  refine G_putRF fl_X9_18 (by decide) sq_68 rfl rfl rfl rfl dX9_init_25 ?_
  refine G_aload_n dX9_init_28 rfl rfl ?_
  refine G_bipush (v := 32) dX9_init_29 rfl ?_
  refine G_newarr (aty := .int) (ty := .int) (f := gS0.2) (N0 := 72) (t := 14) (q := 1) (len := 32) rfl (fun _ => rfl) (fun _ _ h => h) (by decide) sp_72 (gblk1 72 32 (fun _ => rfl)) gac_1 (by decide) (by decide) (by decide) (Nat.le_of_ble_eq_true rfl) (Nat.le_of_ble_eq_true rfl) dX9_init_31 ?_
  refine G_putRF fl_X9_21 (by decide) sq_68 rfl rfl rfl rfl dX9_init_33 ?_
  refine G_aload_n dX9_init_36 rfl rfl ?_
  refine G_bipush (v := 100) dX9_init_37 rfl ?_
  refine G_newarr (aty := .int) (ty := .int) (f := gS0.2) (N0 := 73) (t := 14) (q := 1) (len := 100) rfl (fun _ => rfl) (fun _ _ h => h) (by decide) sp_73 (gblk1 73 100 (fun _ => rfl)) gac_1 (by decide) (by decide) (by decide) (Nat.le_of_ble_eq_true rfl) (Nat.le_of_ble_eq_true rfl) dX9_init_39 ?_
  refine G_putRF fl_X9_24 (by decide) sq_68 rfl rfl rfl rfl dX9_init_41 ?_
  refine G_vret rfl (Nat.le_refl _) (Nat.le_refl _) dX9_init_44 ?_
  exact ⟨rfl, rfl, rfl, rfl, rfl⟩
def gl_26 : List (Nat × Nat × Nat) := (13, 9, 68) :: gl_25
def gl_27 : List (Nat × Nat × Nat) := (74, 0, 75) :: gl_26
set_option maxRecDepth 20000 in
theorem qi_14 {l : Launch} : Cn l gX5_init 2 1 16 [.ref 74] (75, gS0.2) (gu2 gz32 9 1 5) gz64 (grl gl_26) (fun v' S' I' J' R' => v' = none ∧ S' = (76, gS0.2) ∧ I' = (gu2 gz32 9 1 5) ∧ J' = gz64 ∧ R' = grl gl_27) := by
  refine Cn.of [some (.ref 74)] (by decide) rfl (Nat.le_of_ble_eq_true rfl) ?_
  refine G_aload_n dX5_init_0 rfl rfl ?_
  refine G_objI (gtb_in 263 (by decide +kernel) (by decide +kernel)) (by decide) (Nat.le_of_ble_eq_true rfl) dX5_init_1 gobj_w ?_
  refine G_aload_n dX5_init_4 rfl rfl ?_
  refine G_bipush (v := 16) dX5_init_5 rfl ?_
  refine G_newarr (aty := .int) (ty := .int) (f := gS0.2) (N0 := 75) (t := 14) (q := 1) (len := 16) rfl (fun _ => rfl) (fun _ _ h => h) (by decide) sp_75 (gblk1 75 16 (fun _ => rfl)) gac_1 (by decide) (by decide) (by decide) (Nat.le_of_ble_eq_true rfl) (Nat.le_of_ble_eq_true rfl) dX5_init_7 ?_
  refine G_putRF fl_X5_9 (by decide) sq_74 rfl rfl rfl rfl dX5_init_9 ?_
  refine G_vret rfl (Nat.le_refl _) (Nat.le_refl _) dX5_init_12 ?_
  exact ⟨rfl, rfl, rfl, rfl, rfl⟩
def gl_28 : List (Nat × Nat × Nat) := (0, 4, 74) :: gl_27
def gl_29 : List (Nat × Nat × Nat) := (76, 0, 77) :: gl_28
set_option maxRecDepth 20000 in
theorem qi_15 {l : Launch} : Cn l gX3_init 2 1 16 [.ref 76] (77, gS0.2) (gu2 gz32 9 1 5) gz64 (grl gl_28) (fun v' S' I' J' R' => v' = none ∧ S' = (78, gS0.2) ∧ I' = (gu2 gz32 9 1 5) ∧ J' = gz64 ∧ R' = grl gl_29) := by
  refine Cn.of [some (.ref 76)] (by decide) rfl (Nat.le_of_ble_eq_true rfl) ?_
  refine G_aload_n dX3_init_0 rfl rfl ?_
  refine G_objI (gtb_in 282 (by decide +kernel) (by decide +kernel)) (by decide) (Nat.le_of_ble_eq_true rfl) dX3_init_1 gobj_w ?_
  refine G_aload_n dX3_init_4 rfl rfl ?_
  refine G_bipush (v := 16) dX3_init_5 rfl ?_
  refine G_newarr (aty := .int) (ty := .int) (f := gS0.2) (N0 := 77) (t := 14) (q := 1) (len := 16) rfl (fun _ => rfl) (fun _ _ h => h) (by decide) sp_77 (gblk1 77 16 (fun _ => rfl)) gac_1 (by decide) (by decide) (by decide) (Nat.le_of_ble_eq_true rfl) (Nat.le_of_ble_eq_true rfl) dX3_init_7 ?_
  refine G_putRF fl_X3_9 (by decide) sq_76 rfl rfl rfl rfl dX3_init_9 ?_
  refine G_vret rfl (Nat.le_refl _) (Nat.le_refl _) dX3_init_12 ?_
  exact ⟨rfl, rfl, rfl, rfl, rfl⟩
def gl_30 : List (Nat × Nat × Nat) := (0, 5, 76) :: gl_29
def gl_31 : List (Nat × Nat × Nat) := (78, 3, 76) :: (78, 2, 74) :: (78, 1, 9) :: (78, 0, 1) :: (78, 8, 83) :: (78, 7, 82) :: (78, 6, 81) :: (78, 5, 80) :: (78, 4, 79) :: gl_30
set_option maxRecDepth 20000 in
theorem qi_16 {l : Launch} : Cn l gX1_init 2 5 32 [.ref 78, .ref 1, .ref 9, .ref 74, .ref 76] (79, gS0.2) (gu2 gz32 9 1 5) gz64 (grl gl_30) (fun v' S' I' J' R' => v' = none ∧ S' = (84, gS0.2) ∧ I' = (gu2 gz32 9 1 5) ∧ J' = gz64 ∧ R' = grl gl_31) := by
  refine Cn.of [some (.ref 78), some (.ref 1), some (.ref 9), some (.ref 74), some (.ref 76)] (by decide) rfl (Nat.le_of_ble_eq_true rfl) ?_
  refine G_aload_n dX1_init_0 rfl rfl ?_
  refine G_objI (gtb_in 295 (by decide +kernel) (by decide +kernel)) (by decide) (Nat.le_of_ble_eq_true rfl) dX1_init_1 gobj_w ?_
  refine G_aload_n dX1_init_4 rfl rfl ?_
  refine G_iconst (v := 4) dX1_init_5 rfl ?_
  refine G_newarr (aty := .int) (ty := .int) (f := gS0.2) (N0 := 79) (t := 14) (q := 1) (len := 4) rfl (fun _ => rfl) (fun _ _ h => h) (by decide) sp_79 (gblk1 79 4 (fun _ => rfl)) gac_1 (by decide) (by decide) (by decide) (Nat.le_of_ble_eq_true rfl) (Nat.le_of_ble_eq_true rfl) dX1_init_6 ?_
  refine G_putRF fl_X1_9 (by decide) sq_78 rfl rfl rfl rfl dX1_init_8 ?_
  refine G_aload_n dX1_init_11 rfl rfl ?_
  refine G_iconst (v := 4) dX1_init_12 rfl ?_
  refine G_newarr (aty := .int) (ty := .int) (f := gS0.2) (N0 := 80) (t := 14) (q := 1) (len := 4) rfl (fun _ => rfl) (fun _ _ h => h) (by decide) sp_80 (gblk1 80 4 (fun _ => rfl)) gac_1 (by decide) (by decide) (by decide) (Nat.le_of_ble_eq_true rfl) (Nat.le_of_ble_eq_true rfl) dX1_init_13 ?_
  refine G_putRF fl_X1_15 (by decide) sq_78 rfl rfl rfl rfl dX1_init_15 ?_
  refine G_aload_n dX1_init_18 rfl rfl ?_
  refine G_iconst (v := 4) dX1_init_19 rfl ?_
  refine G_newarr (aty := .int) (ty := .int) (f := gS0.2) (N0 := 81) (t := 14) (q := 1) (len := 4) rfl (fun _ => rfl) (fun _ _ h => h) (by decide) sp_81 (gblk1 81 4 (fun _ => rfl)) gac_1 (by decide) (by decide) (by decide) (Nat.le_of_ble_eq_true rfl) (Nat.le_of_ble_eq_true rfl) dX1_init_20 ?_
  refine G_putRF fl_X1_18 (by decide) sq_78 rfl rfl rfl rfl dX1_init_22 ?_
  refine G_aload_n dX1_init_25 rfl rfl ?_
  refine G_iconst (v := 4) dX1_init_26 rfl ?_
  refine G_newarr (aty := .int) (ty := .int) (f := gS0.2) (N0 := 82) (t := 14) (q := 1) (len := 4) rfl (fun _ => rfl) (fun _ _ h => h) (by decide) sp_82 (gblk1 82 4 (fun _ => rfl)) gac_1 (by decide) (by decide) (by decide) (Nat.le_of_ble_eq_true rfl) (Nat.le_of_ble_eq_true rfl) dX1_init_27 ?_
  refine G_putRF fl_X1_21 (by decide) sq_78 rfl rfl rfl rfl dX1_init_29 ?_
  refine G_aload_n dX1_init_32 rfl rfl ?_
  refine G_bipush (v := 16) dX1_init_33 rfl ?_
  refine G_newarr (aty := .int) (ty := .int) (f := gS0.2) (N0 := 83) (t := 14) (q := 1) (len := 16) rfl (fun _ => rfl) (fun _ _ h => h) (by decide) sp_83 (gblk1 83 16 (fun _ => rfl)) gac_1 (by decide) (by decide) (by decide) (Nat.le_of_ble_eq_true rfl) (Nat.le_of_ble_eq_true rfl) dX1_init_35 ?_
  refine G_putRF fl_X1_24 (by decide) sq_78 rfl rfl rfl rfl dX1_init_37 ?_
  refine G_aload_n dX1_init_40 rfl rfl ?_
  refine G_aload_n dX1_init_41 rfl rfl ?_
  refine G_putRF fl_X1_27 (by decide) sq_78 rfl rfl rfl rfl dX1_init_42 ?_
  refine G_aload_n dX1_init_45 rfl rfl ?_
  refine G_aload_n dX1_init_46 rfl rfl ?_
  refine G_putRF fl_X1_31 (by decide) sq_78 rfl rfl rfl rfl dX1_init_47 ?_
  refine G_aload_n dX1_init_50 rfl rfl ?_
  refine G_aload_n dX1_init_51 rfl rfl ?_
  refine G_putRF fl_X1_35 (by decide) sq_78 rfl rfl rfl rfl dX1_init_52 ?_
  refine G_aload_n dX1_init_55 rfl rfl ?_
  refine G_aload dX1_init_56 rfl ?_
  refine G_putRF fl_X1_39 (by decide) sq_78 rfl rfl rfl rfl dX1_init_58 ?_
  refine G_vret rfl (Nat.le_refl _) (Nat.le_refl _) dX1_init_61 ?_
  exact ⟨rfl, rfl, rfl, rfl, rfl⟩
def gl_32 : List (Nat × Nat × Nat) := (0, 6, 78) :: gl_31
def gl_33 : List (Nat × Nat × Nat) := (84, 9, 94) :: (84, 8, 93) :: (84, 7, 92) :: (84, 6, 91) :: (84, 5, 90) :: (84, 4, 89) :: (84, 3, 88) :: (84, 2, 87) :: (84, 1, 86) :: (84, 0, 85) :: gl_32
set_option maxRecDepth 20000 in
theorem qi_17 {l : Launch} : Cn l gX8_init 2 10 400 [.ref 84] (85, gS0.2) (gu2 gz32 9 1 5) gz64 (grl gl_32) (fun v' S' I' J' R' => v' = none ∧ S' = (95, gS0.2) ∧ I' = (gu2 gz32 9 1 5) ∧ J' = gz64 ∧ R' = grl gl_33) := by
  refine Cn.of [some (.ref 84)] (by decide) rfl (Nat.le_of_ble_eq_true rfl) ?_
  refine G_aload_n dX8_init_0 rfl rfl ?_
  refine G_objI (gtb_in 342 (by decide +kernel) (by decide +kernel)) (by decide) (Nat.le_of_ble_eq_true rfl) dX8_init_1 gobj_w ?_
  refine G_aload_n dX8_init_4 rfl rfl ?_
  refine G_bipush (v := 40) dX8_init_5 rfl ?_
  refine G_newarr (aty := .int) (ty := .int) (f := gS0.2) (N0 := 85) (t := 14) (q := 1) (len := 40) rfl (fun _ => rfl) (fun _ _ h => h) (by decide) sp_85 (gblk1 85 40 (fun _ => rfl)) gac_1 (by decide) (by decide) (by decide) (Nat.le_of_ble_eq_true rfl) (Nat.le_of_ble_eq_true rfl) dX8_init_7 ?_
  refine G_putRF fl_X8_9 (by decide) sq_84 rfl rfl rfl rfl dX8_init_9 ?_
  refine G_aload_n dX8_init_12 rfl rfl ?_
  refine G_bipush (v := 40) dX8_init_13 rfl ?_
  refine G_newarr (aty := .int) (ty := .int) (f := gS0.2) (N0 := 86) (t := 14) (q := 1) (len := 40) rfl (fun _ => rfl) (fun _ _ h => h) (by decide) sp_86 (gblk1 86 40 (fun _ => rfl)) gac_1 (by decide) (by decide) (by decide) (Nat.le_of_ble_eq_true rfl) (Nat.le_of_ble_eq_true rfl) dX8_init_15 ?_
  refine G_putRF fl_X8_15 (by decide) sq_84 rfl rfl rfl rfl dX8_init_17 ?_
  refine G_aload_n dX8_init_20 rfl rfl ?_
  refine G_bipush (v := 40) dX8_init_21 rfl ?_
  refine G_newarr (aty := .int) (ty := .int) (f := gS0.2) (N0 := 87) (t := 14) (q := 1) (len := 40) rfl (fun _ => rfl) (fun _ _ h => h) (by decide) sp_87 (gblk1 87 40 (fun _ => rfl)) gac_1 (by decide) (by decide) (by decide) (Nat.le_of_ble_eq_true rfl) (Nat.le_of_ble_eq_true rfl) dX8_init_23 ?_
  refine G_putRF fl_X8_18 (by decide) sq_84 rfl rfl rfl rfl dX8_init_25 ?_
  refine G_aload_n dX8_init_28 rfl rfl ?_
  refine G_bipush (v := 40) dX8_init_29 rfl ?_
  refine G_newarr (aty := .int) (ty := .int) (f := gS0.2) (N0 := 88) (t := 14) (q := 1) (len := 40) rfl (fun _ => rfl) (fun _ _ h => h) (by decide) sp_88 (gblk1 88 40 (fun _ => rfl)) gac_1 (by decide) (by decide) (by decide) (Nat.le_of_ble_eq_true rfl) (Nat.le_of_ble_eq_true rfl) dX8_init_31 ?_
  refine G_putRF fl_X8_21 (by decide) sq_84 rfl rfl rfl rfl dX8_init_33 ?_
  refine G_aload_n dX8_init_36 rfl rfl ?_
  refine G_bipush (v := 40) dX8_init_37 rfl ?_
  refine G_newarr (aty := .int) (ty := .int) (f := gS0.2) (N0 := 89) (t := 14) (q := 1) (len := 40) rfl (fun _ => rfl) (fun _ _ h => h) (by decide) sp_89 (gblk1 89 40 (fun _ => rfl)) gac_1 (by decide) (by decide) (by decide) (Nat.le_of_ble_eq_true rfl) (Nat.le_of_ble_eq_true rfl) dX8_init_39 ?_
  refine G_putRF fl_X8_24 (by decide) sq_84 rfl rfl rfl rfl dX8_init_41 ?_
  refine G_aload_n dX8_init_44 rfl rfl ?_
  refine G_bipush (v := 40) dX8_init_45 rfl ?_
  refine G_newarr (aty := .boolean) (ty := .boolean) (f := gS0.2) (N0 := 90) (t := 16) (q := 3) (len := 40) rfl (fun _ => rfl) (fun _ _ h => h) (by decide) sp_90 (gblk3 90 40 (fun _ => rfl)) gac_3 (by decide) (by decide) (by decide) (Nat.le_of_ble_eq_true rfl) (Nat.le_of_ble_eq_true rfl) dX8_init_47 ?_
  refine G_putRF fl_X8_27 (by decide) sq_84 rfl rfl rfl rfl dX8_init_49 ?_
  refine G_aload_n dX8_init_52 rfl rfl ?_
  refine G_bipush (v := 40) dX8_init_53 rfl ?_
  refine G_newarr (aty := .int) (ty := .int) (f := gS0.2) (N0 := 91) (t := 14) (q := 1) (len := 40) rfl (fun _ => rfl) (fun _ _ h => h) (by decide) sp_91 (gblk1 91 40 (fun _ => rfl)) gac_1 (by decide) (by decide) (by decide) (Nat.le_of_ble_eq_true rfl) (Nat.le_of_ble_eq_true rfl) dX8_init_55 ?_
  refine G_putRF fl_X8_31 (by decide) sq_84 rfl rfl rfl rfl dX8_init_57 ?_
  refine G_aload_n dX8_init_60 rfl rfl ?_
  refine G_bipush (v := 40) dX8_init_61 rfl ?_
  refine G_newarr (aty := .int) (ty := .int) (f := gS0.2) (N0 := 92) (t := 14) (q := 1) (len := 40) rfl (fun _ => rfl) (fun _ _ h => h) (by decide) sp_92 (gblk1 92 40 (fun _ => rfl)) gac_1 (by decide) (by decide) (by decide) (Nat.le_of_ble_eq_true rfl) (Nat.le_of_ble_eq_true rfl) dX8_init_63 ?_
  refine G_putRF fl_X8_34 (by decide) sq_84 rfl rfl rfl rfl dX8_init_65 ?_
  refine G_aload_n dX8_init_68 rfl rfl ?_
  refine G_bipush (v := 40) dX8_init_69 rfl ?_
  refine G_newarr (aty := .int) (ty := .int) (f := gS0.2) (N0 := 93) (t := 14) (q := 1) (len := 40) rfl (fun _ => rfl) (fun _ _ h => h) (by decide) sp_93 (gblk1 93 40 (fun _ => rfl)) gac_1 (by decide) (by decide) (by decide) (Nat.le_of_ble_eq_true rfl) (Nat.le_of_ble_eq_true rfl) dX8_init_71 ?_
  refine G_putRF fl_X8_37 (by decide) sq_84 rfl rfl rfl rfl dX8_init_73 ?_
  refine G_aload_n dX8_init_76 rfl rfl ?_
  refine G_bipush (v := 40) dX8_init_77 rfl ?_
  refine G_newarr (aty := .int) (ty := .int) (f := gS0.2) (N0 := 94) (t := 14) (q := 1) (len := 40) rfl (fun _ => rfl) (fun _ _ h => h) (by decide) sp_94 (gblk1 94 40 (fun _ => rfl)) gac_1 (by decide) (by decide) (by decide) (Nat.le_of_ble_eq_true rfl) (Nat.le_of_ble_eq_true rfl) dX8_init_79 ?_
  refine G_putRF fl_X8_40 (by decide) sq_84 rfl rfl rfl rfl dX8_init_81 ?_
  refine G_vret rfl (Nat.le_refl _) (Nat.le_refl _) dX8_init_84 ?_
  exact ⟨rfl, rfl, rfl, rfl, rfl⟩
def gl_34 : List (Nat × Nat × Nat) := (0, 7, 84) :: gl_33
def gl_35 : List (Nat × Nat × Nat) := (95, 4, 100) :: (95, 3, 99) :: (95, 2, 98) :: (95, 1, 97) :: (95, 0, 96) :: gl_34
set_option maxRecDepth 20000 in
theorem qi_18 {l : Launch} : Cn l gX2_init 2 5 100 [.ref 95] (96, gS0.2) (gu2 gz32 9 1 5) gz64 (grl gl_34) (fun v' S' I' J' R' => v' = none ∧ S' = (101, gS0.2) ∧ I' = (gu2 gz32 9 1 5) ∧ J' = gz64 ∧ R' = grl gl_35) := by
  refine Cn.of [some (.ref 95)] (by decide) rfl (Nat.le_of_ble_eq_true rfl) ?_
  refine G_aload_n dX2_init_0 rfl rfl ?_
  refine G_objI (gtb_in 400 (by decide +kernel) (by decide +kernel)) (by decide) (Nat.le_of_ble_eq_true rfl) dX2_init_1 gobj_w ?_
  refine G_aload_n dX2_init_4 rfl rfl ?_
  refine G_bipush (v := 20) dX2_init_5 rfl ?_
  refine G_newarr (aty := .int) (ty := .int) (f := gS0.2) (N0 := 96) (t := 14) (q := 1) (len := 20) rfl (fun _ => rfl) (fun _ _ h => h) (by decide) sp_96 (gblk1 96 20 (fun _ => rfl)) gac_1 (by decide) (by decide) (by decide) (Nat.le_of_ble_eq_true rfl) (Nat.le_of_ble_eq_true rfl) dX2_init_7 ?_
  refine G_putRF fl_X2_9 (by decide) sq_95 rfl rfl rfl rfl dX2_init_9 ?_
  refine G_aload_n dX2_init_12 rfl rfl ?_
  refine G_bipush (v := 20) dX2_init_13 rfl ?_
  refine G_newarr (aty := .int) (ty := .int) (f := gS0.2) (N0 := 97) (t := 14) (q := 1) (len := 20) rfl (fun _ => rfl) (fun _ _ h => h) (by decide) sp_97 (gblk1 97 20 (fun _ => rfl)) gac_1 (by decide) (by decide) (by decide) (Nat.le_of_ble_eq_true rfl) (Nat.le_of_ble_eq_true rfl) dX2_init_15 ?_
  refine G_putRF fl_X2_15 (by decide) sq_95 rfl rfl rfl rfl dX2_init_17 ?_
  refine G_aload_n dX2_init_20 rfl rfl ?_
  refine G_bipush (v := 20) dX2_init_21 rfl ?_
  refine G_newarr (aty := .int) (ty := .int) (f := gS0.2) (N0 := 98) (t := 14) (q := 1) (len := 20) rfl (fun _ => rfl) (fun _ _ h => h) (by decide) sp_98 (gblk1 98 20 (fun _ => rfl)) gac_1 (by decide) (by decide) (by decide) (Nat.le_of_ble_eq_true rfl) (Nat.le_of_ble_eq_true rfl) dX2_init_23 ?_
  refine G_putRF fl_X2_18 (by decide) sq_95 rfl rfl rfl rfl dX2_init_25 ?_
  refine G_aload_n dX2_init_28 rfl rfl ?_
  refine G_bipush (v := 20) dX2_init_29 rfl ?_
  refine G_newarr (aty := .int) (ty := .int) (f := gS0.2) (N0 := 99) (t := 14) (q := 1) (len := 20) rfl (fun _ => rfl) (fun _ _ h => h) (by decide) sp_99 (gblk1 99 20 (fun _ => rfl)) gac_1 (by decide) (by decide) (by decide) (Nat.le_of_ble_eq_true rfl) (Nat.le_of_ble_eq_true rfl) dX2_init_31 ?_
  refine G_putRF fl_X2_21 (by decide) sq_95 rfl rfl rfl rfl dX2_init_33 ?_
  refine G_aload_n dX2_init_36 rfl rfl ?_
  refine G_bipush (v := 20) dX2_init_37 rfl ?_
  refine G_newarr (aty := .int) (ty := .int) (f := gS0.2) (N0 := 100) (t := 14) (q := 1) (len := 20) rfl (fun _ => rfl) (fun _ _ h => h) (by decide) sp_100 (gblk1 100 20 (fun _ => rfl)) gac_1 (by decide) (by decide) (by decide) (Nat.le_of_ble_eq_true rfl) (Nat.le_of_ble_eq_true rfl) dX2_init_39 ?_
  refine G_putRF fl_X2_24 (by decide) sq_95 rfl rfl rfl rfl dX2_init_41 ?_
  refine G_vret rfl (Nat.le_refl _) (Nat.le_refl _) dX2_init_44 ?_
  exact ⟨rfl, rfl, rfl, rfl, rfl⟩
def gl_36 : List (Nat × Nat × Nat) := (0, 8, 95) :: gl_35
def gl_37 : List (Nat × Nat × Nat) := (101, 2, 76) :: (101, 1, 74) :: (101, 0, 84) :: (101, 3, 102) :: gl_36
set_option maxRecDepth 20000 in
theorem qi_19 {l : Launch} : Cn l gX4_init 2 1 40 [.ref 101, .ref 84, .ref 74, .ref 76] (102, gS0.2) (gu2 gz32 9 1 5) gz64 (grl gl_36) (fun v' S' I' J' R' => v' = none ∧ S' = (103, gS0.2) ∧ I' = (gu2 gz32 9 1 5) ∧ J' = gz64 ∧ R' = grl gl_37) := by
  refine Cn.of [some (.ref 101), some (.ref 84), some (.ref 74), some (.ref 76)] (by decide) rfl (Nat.le_of_ble_eq_true rfl) ?_
  refine G_aload_n dX4_init_0 rfl rfl ?_
  refine G_objI (gtb_in 428 (by decide +kernel) (by decide +kernel)) (by decide) (Nat.le_of_ble_eq_true rfl) dX4_init_1 gobj_w ?_
  refine G_aload_n dX4_init_4 rfl rfl ?_
  refine G_bipush (v := 40) dX4_init_5 rfl ?_
  refine G_newarr (aty := .int) (ty := .int) (f := gS0.2) (N0 := 102) (t := 14) (q := 1) (len := 40) rfl (fun _ => rfl) (fun _ _ h => h) (by decide) sp_102 (gblk1 102 40 (fun _ => rfl)) gac_1 (by decide) (by decide) (by decide) (Nat.le_of_ble_eq_true rfl) (Nat.le_of_ble_eq_true rfl) dX4_init_7 ?_
  refine G_putRF fl_X4_9 (by decide) sq_101 rfl rfl rfl rfl dX4_init_9 ?_
  refine G_aload_n dX4_init_12 rfl rfl ?_
  refine G_aload_n dX4_init_13 rfl rfl ?_
  refine G_putRF fl_X4_15 (by decide) sq_101 rfl rfl rfl rfl dX4_init_14 ?_
  refine G_aload_n dX4_init_17 rfl rfl ?_
  refine G_aload_n dX4_init_18 rfl rfl ?_
  refine G_putRF fl_X4_19 (by decide) sq_101 rfl rfl rfl rfl dX4_init_19 ?_
  refine G_aload_n dX4_init_22 rfl rfl ?_
  refine G_aload_n dX4_init_23 rfl rfl ?_
  refine G_putRF fl_X4_23 (by decide) sq_101 rfl rfl rfl rfl dX4_init_24 ?_
  refine G_vret rfl (Nat.le_refl _) (Nat.le_refl _) dX4_init_27 ?_
  exact ⟨rfl, rfl, rfl, rfl, rfl⟩
def gl_38 : List (Nat × Nat × Nat) := (0, 9, 101) :: gl_37
def gl_39 : List (Nat × Nat × Nat) := (103, 5, 125) :: (103, 4, 124) :: (103, 3, 123) :: (103, 2, 106) :: (106, 0, 107) :: (106, 1, 108) :: (106, 2, 109) :: (106, 3, 110) :: (106, 4, 111) :: (106, 5, 112) :: (106, 6, 113) :: (106, 7, 114) :: (106, 8, 115) :: (106, 9, 116) :: (106, 10, 117) :: (106, 11, 118) :: (106, 12, 119) :: (106, 13, 120) :: (106, 14, 121) :: (106, 15, 122) :: (103, 1, 105) :: (103, 0, 104) :: gl_38
set_option maxRecDepth 20000 in
theorem qi_20 {l : Launch} : Cn l gX0_init 2 22 688 [.ref 103] (104, gS0.2) (gu2 gz32 9 1 5) gz64 (grl gl_38) (fun v' S' I' J' R' => v' = none ∧ S' = (126, gS0.2) ∧ I' = (gu2 gz32 9 1 5) ∧ J' = gz64 ∧ R' = grl gl_39) := by
  refine Cn.of [some (.ref 103)] (by decide) rfl (Nat.le_of_ble_eq_true rfl) ?_
  refine G_aload_n dX0_init_0 rfl rfl ?_
  refine G_objI (gtb_in 466 (by decide +kernel) (by decide +kernel)) (by decide) (Nat.le_of_ble_eq_true rfl) dX0_init_1 gobj_w ?_
  refine G_aload_n dX0_init_4 rfl rfl ?_
  refine G_bipush (v := 60) dX0_init_5 rfl ?_
  refine G_newarr (aty := .int) (ty := .int) (f := gS0.2) (N0 := 104) (t := 14) (q := 1) (len := 60) rfl (fun _ => rfl) (fun _ _ h => h) (by decide) sp_104 (gblk1 104 60 (fun _ => rfl)) gac_1 (by decide) (by decide) (by decide) (Nat.le_of_ble_eq_true rfl) (Nat.le_of_ble_eq_true rfl) dX0_init_7 ?_
  refine G_putRF fl_X0_9 (by decide) sq_103 rfl rfl rfl rfl dX0_init_9 ?_
  refine G_aload_n dX0_init_12 rfl rfl ?_
  refine G_iconst (v := 4) dX0_init_13 rfl ?_
  refine G_newarr (aty := .long) (ty := .long) (f := gS0.2) (N0 := 105) (t := 15) (q := 2) (len := 4) rfl (fun _ => rfl) (fun _ _ h => h) (by decide) sp_105 (gblk2 105 4 (fun _ => rfl)) gac_2 (by decide) (by decide) (by decide) (Nat.le_of_ble_eq_true rfl) (Nat.le_of_ble_eq_true rfl) dX0_init_14 ?_
  refine G_putRF fl_X0_15 (by decide) sq_103 rfl rfl rfl rfl dX0_init_16 ?_
  refine G_aload_n dX0_init_19 rfl rfl ?_
  refine G_bipush (v := 16) dX0_init_20 rfl ?_
  refine G_bipush (v := 32) dX0_init_22 rfl ?_
  refine G_mnew (f := gS0.2) (N0 := 106) (gtb_in 467 (by decide +kernel) (by decide +kernel)) gac_2 sp_106 (by decide) (fun x hx j => grl_none (n := 106) (by decide) hx j) (fun _ _ _ => rfl) (Nat.le_of_ble_eq_true rfl) (Nat.le_of_ble_eq_true rfl) dX0_init_24 ?_
  refine G_putRF fl_X0_21 (by decide) sq_103 rfl rfl rfl rfl dX0_init_28 ?_
  refine G_aload_n dX0_init_31 rfl rfl ?_
  refine G_bipush (v := 32) dX0_init_32 rfl ?_
  refine G_newarr (aty := .long) (ty := .long) (f := gS0.2) (N0 := 123) (t := 15) (q := 2) (len := 32) rfl (fun _ => rfl) (fun _ _ h => h) (by decide) sp_123 (gblk2 123 32 (fun _ => rfl)) gac_2 (by decide) (by decide) (by decide) (Nat.le_of_ble_eq_true rfl) (Nat.le_of_ble_eq_true rfl) dX0_init_34 ?_
  refine G_putRF fl_X0_24 (by decide) sq_103 rfl rfl rfl rfl dX0_init_36 ?_
  refine G_aload_n dX0_init_39 rfl rfl ?_
  refine G_bipush (v := 32) dX0_init_40 rfl ?_
  refine G_newarr (aty := .long) (ty := .long) (f := gS0.2) (N0 := 124) (t := 15) (q := 2) (len := 32) rfl (fun _ => rfl) (fun _ _ h => h) (by decide) sp_124 (gblk2 124 32 (fun _ => rfl)) gac_2 (by decide) (by decide) (by decide) (Nat.le_of_ble_eq_true rfl) (Nat.le_of_ble_eq_true rfl) dX0_init_42 ?_
  refine G_putRF fl_X0_27 (by decide) sq_103 rfl rfl rfl rfl dX0_init_44 ?_
  refine G_aload_n dX0_init_47 rfl rfl ?_
  refine G_bipush (v := 32) dX0_init_48 rfl ?_
  refine G_newarr (aty := .long) (ty := .long) (f := gS0.2) (N0 := 125) (t := 15) (q := 2) (len := 32) rfl (fun _ => rfl) (fun _ _ h => h) (by decide) sp_125 (gblk2 125 32 (fun _ => rfl)) gac_2 (by decide) (by decide) (by decide) (Nat.le_of_ble_eq_true rfl) (Nat.le_of_ble_eq_true rfl) dX0_init_50 ?_
  refine G_putRF fl_X0_30 (by decide) sq_103 rfl rfl rfl rfl dX0_init_52 ?_
  refine G_vret rfl (Nat.le_refl _) (Nat.le_refl _) dX0_init_55 ?_
  exact ⟨rfl, rfl, rfl, rfl, rfl⟩
def gl_40 : List (Nat × Nat × Nat) := (0, 10, 103) :: gl_39
def gl_41 : List (Nat × Nat × Nat) := (126, 5, 148) :: (126, 4, 147) :: (126, 3, 146) :: (126, 2, 129) :: (129, 0, 130) :: (129, 1, 131) :: (129, 2, 132) :: (129, 3, 133) :: (129, 4, 134) :: (129, 5, 135) :: (129, 6, 136) :: (129, 7, 137) :: (129, 8, 138) :: (129, 9, 139) :: (129, 10, 140) :: (129, 11, 141) :: (129, 12, 142) :: (129, 13, 143) :: (129, 14, 144) :: (129, 15, 145) :: (126, 1, 128) :: (126, 0, 127) :: gl_40
set_option maxRecDepth 20000 in
theorem qi_21 {l : Launch} : Cn l gX0_init 2 22 688 [.ref 126] (127, gS0.2) (gu2 gz32 9 1 5) gz64 (grl gl_40) (fun v' S' I' J' R' => v' = none ∧ S' = (149, gS0.2) ∧ I' = (gu2 gz32 9 1 5) ∧ J' = gz64 ∧ R' = grl gl_41) := by
  refine Cn.of [some (.ref 126)] (by decide) rfl (Nat.le_of_ble_eq_true rfl) ?_
  refine G_aload_n dX0_init_0 rfl rfl ?_
  refine G_objI (gtb_in 466 (by decide +kernel) (by decide +kernel)) (by decide) (Nat.le_of_ble_eq_true rfl) dX0_init_1 gobj_w ?_
  refine G_aload_n dX0_init_4 rfl rfl ?_
  refine G_bipush (v := 60) dX0_init_5 rfl ?_
  refine G_newarr (aty := .int) (ty := .int) (f := gS0.2) (N0 := 127) (t := 14) (q := 1) (len := 60) rfl (fun _ => rfl) (fun _ _ h => h) (by decide) sp_127 (gblk1 127 60 (fun _ => rfl)) gac_1 (by decide) (by decide) (by decide) (Nat.le_of_ble_eq_true rfl) (Nat.le_of_ble_eq_true rfl) dX0_init_7 ?_
  refine G_putRF fl_X0_9 (by decide) sq_126 rfl rfl rfl rfl dX0_init_9 ?_
  refine G_aload_n dX0_init_12 rfl rfl ?_
  refine G_iconst (v := 4) dX0_init_13 rfl ?_
  refine G_newarr (aty := .long) (ty := .long) (f := gS0.2) (N0 := 128) (t := 15) (q := 2) (len := 4) rfl (fun _ => rfl) (fun _ _ h => h) (by decide) sp_128 (gblk2 128 4 (fun _ => rfl)) gac_2 (by decide) (by decide) (by decide) (Nat.le_of_ble_eq_true rfl) (Nat.le_of_ble_eq_true rfl) dX0_init_14 ?_
  refine G_putRF fl_X0_15 (by decide) sq_126 rfl rfl rfl rfl dX0_init_16 ?_
  refine G_aload_n dX0_init_19 rfl rfl ?_
  refine G_bipush (v := 16) dX0_init_20 rfl ?_
  refine G_bipush (v := 32) dX0_init_22 rfl ?_
  refine G_mnew (f := gS0.2) (N0 := 129) (gtb_in 467 (by decide +kernel) (by decide +kernel)) gac_2 sp_129 (by decide) (fun x hx j => grl_none (n := 129) (by decide) hx j) (fun _ _ _ => rfl) (Nat.le_of_ble_eq_true rfl) (Nat.le_of_ble_eq_true rfl) dX0_init_24 ?_
  refine G_putRF fl_X0_21 (by decide) sq_126 rfl rfl rfl rfl dX0_init_28 ?_
  refine G_aload_n dX0_init_31 rfl rfl ?_
  refine G_bipush (v := 32) dX0_init_32 rfl ?_
  refine G_newarr (aty := .long) (ty := .long) (f := gS0.2) (N0 := 146) (t := 15) (q := 2) (len := 32) rfl (fun _ => rfl) (fun _ _ h => h) (by decide) sp_146 (gblk2 146 32 (fun _ => rfl)) gac_2 (by decide) (by decide) (by decide) (Nat.le_of_ble_eq_true rfl) (Nat.le_of_ble_eq_true rfl) dX0_init_34 ?_
  refine G_putRF fl_X0_24 (by decide) sq_126 rfl rfl rfl rfl dX0_init_36 ?_
  refine G_aload_n dX0_init_39 rfl rfl ?_
  refine G_bipush (v := 32) dX0_init_40 rfl ?_
  refine G_newarr (aty := .long) (ty := .long) (f := gS0.2) (N0 := 147) (t := 15) (q := 2) (len := 32) rfl (fun _ => rfl) (fun _ _ h => h) (by decide) sp_147 (gblk2 147 32 (fun _ => rfl)) gac_2 (by decide) (by decide) (by decide) (Nat.le_of_ble_eq_true rfl) (Nat.le_of_ble_eq_true rfl) dX0_init_42 ?_
  refine G_putRF fl_X0_27 (by decide) sq_126 rfl rfl rfl rfl dX0_init_44 ?_
  refine G_aload_n dX0_init_47 rfl rfl ?_
  refine G_bipush (v := 32) dX0_init_48 rfl ?_
  refine G_newarr (aty := .long) (ty := .long) (f := gS0.2) (N0 := 148) (t := 15) (q := 2) (len := 32) rfl (fun _ => rfl) (fun _ _ h => h) (by decide) sp_148 (gblk2 148 32 (fun _ => rfl)) gac_2 (by decide) (by decide) (by decide) (Nat.le_of_ble_eq_true rfl) (Nat.le_of_ble_eq_true rfl) dX0_init_50 ?_
  refine G_putRF fl_X0_30 (by decide) sq_126 rfl rfl rfl rfl dX0_init_52 ?_
  refine G_vret rfl (Nat.le_refl _) (Nat.le_refl _) dX0_init_55 ?_
  exact ⟨rfl, rfl, rfl, rfl, rfl⟩
def gl_42 : List (Nat × Nat × Nat) := (0, 11, 126) :: gl_41

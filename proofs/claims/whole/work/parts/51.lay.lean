/-! ===== the layout, cell by cell ===== -/
theorem La_ds (a : Nat) (h : a < 610) : La.2.1 a = DSl.getD a (999, 0) := by rw [La_eq]; exact L0_ds a h
theorem La_rf (a : Nat) (h : a < 610) (j : Nat) (hj : j < (RFl.getD a []).length) : La.2.2 a j = (RFl.getD a []).getD j none := by rw [La_eq]; exact L0_rf a h j hj
theorem ds_0 : La.2.1 0 = (11, 0) := (La_ds 0 (okl rfl)).trans (by decide +kernel)
theorem oc_0 : (La.2.1 0).1 = 11 := by rw [ds_0]
theorem ds_1 : La.2.1 1 = (101, 2000) := (La_ds 1 (okl rfl)).trans (by decide +kernel)
theorem ds_2 : La.2.1 2 = (105, 8) := (La_ds 2 (okl rfl)).trans (by decide +kernel)
theorem ds_3 : La.2.1 3 = (105, 6) := (La_ds 3 (okl rfl)).trans (by decide +kernel)
theorem ds_4 : La.2.1 4 = (10, 0) := (La_ds 4 (okl rfl)).trans (by decide +kernel)
theorem oc_4 : (La.2.1 4).1 = 10 := by rw [ds_4]
theorem ds_5 : La.2.1 5 = (100, 401) := (La_ds 5 (okl rfl)).trans (by decide +kernel)
theorem ds_6 : La.2.1 6 = (100, 401) := (La_ds 6 (okl rfl)).trans (by decide +kernel)
theorem ds_7 : La.2.1 7 = (103, 401) := (La_ds 7 (okl rfl)).trans (by decide +kernel)
theorem ds_8 : La.2.1 8 = (103, 10) := (La_ds 8 (okl rfl)).trans (by decide +kernel)
theorem ds_9 : La.2.1 9 = (8, 0) := (La_ds 9 (okl rfl)).trans (by decide +kernel)
theorem oc_9 : (La.2.1 9).1 = 8 := by rw [ds_9]
theorem ds_10 : La.2.1 10 = (5, 0) := (La_ds 10 (okl rfl)).trans (by decide +kernel)
theorem oc_10 : (La.2.1 10).1 = 5 := by rw [ds_10]
theorem ds_11 : La.2.1 11 = (103, 14) := (La_ds 11 (okl rfl)).trans (by decide +kernel)
theorem ds_12 : La.2.1 12 = (1, 0) := (La_ds 12 (okl rfl)).trans (by decide +kernel)
theorem oc_12 : (La.2.1 12).1 = 1 := by rw [ds_12]
theorem ds_13 : La.2.1 13 = (104, 14) := (La_ds 13 (okl rfl)).trans (by decide +kernel)
theorem ds_14 : La.2.1 14 = (102, 14) := (La_ds 14 (okl rfl)).trans (by decide +kernel)
theorem ds_15 : La.2.1 15 = (103, 14) := (La_ds 15 (okl rfl)).trans (by decide +kernel)
theorem ds_16 : La.2.1 16 = (104, 7) := (La_ds 16 (okl rfl)).trans (by decide +kernel)
theorem ds_17 : La.2.1 17 = (104, 7) := (La_ds 17 (okl rfl)).trans (by decide +kernel)
theorem ds_18 : La.2.1 18 = (7, 0) := (La_ds 18 (okl rfl)).trans (by decide +kernel)
theorem oc_18 : (La.2.1 18).1 = 7 := by rw [ds_18]
theorem ds_19 : La.2.1 19 = (100, 8) := (La_ds 19 (okl rfl)).trans (by decide +kernel)
theorem ds_20 : La.2.1 20 = (100, 400) := (La_ds 20 (okl rfl)).trans (by decide +kernel)
theorem ds_21 : La.2.1 21 = (7, 0) := (La_ds 21 (okl rfl)).trans (by decide +kernel)
theorem oc_21 : (La.2.1 21).1 = 7 := by rw [ds_21]
theorem ds_22 : La.2.1 22 = (100, 8) := (La_ds 22 (okl rfl)).trans (by decide +kernel)
theorem ds_23 : La.2.1 23 = (7, 0) := (La_ds 23 (okl rfl)).trans (by decide +kernel)
theorem oc_23 : (La.2.1 23).1 = 7 := by rw [ds_23]
theorem ds_24 : La.2.1 24 = (100, 8) := (La_ds 24 (okl rfl)).trans (by decide +kernel)
theorem ds_25 : La.2.1 25 = (7, 0) := (La_ds 25 (okl rfl)).trans (by decide +kernel)
theorem oc_25 : (La.2.1 25).1 = 7 := by rw [ds_25]
theorem ds_26 : La.2.1 26 = (100, 8) := (La_ds 26 (okl rfl)).trans (by decide +kernel)
theorem ds_27 : La.2.1 27 = (7, 0) := (La_ds 27 (okl rfl)).trans (by decide +kernel)
theorem oc_27 : (La.2.1 27).1 = 7 := by rw [ds_27]
theorem ds_28 : La.2.1 28 = (100, 8) := (La_ds 28 (okl rfl)).trans (by decide +kernel)
theorem ds_29 : La.2.1 29 = (7, 0) := (La_ds 29 (okl rfl)).trans (by decide +kernel)
theorem oc_29 : (La.2.1 29).1 = 7 := by rw [ds_29]
theorem ds_30 : La.2.1 30 = (100, 8) := (La_ds 30 (okl rfl)).trans (by decide +kernel)
theorem ds_31 : La.2.1 31 = (7, 0) := (La_ds 31 (okl rfl)).trans (by decide +kernel)
theorem oc_31 : (La.2.1 31).1 = 7 := by rw [ds_31]
theorem ds_32 : La.2.1 32 = (100, 8) := (La_ds 32 (okl rfl)).trans (by decide +kernel)
theorem ds_33 : La.2.1 33 = (7, 0) := (La_ds 33 (okl rfl)).trans (by decide +kernel)
theorem oc_33 : (La.2.1 33).1 = 7 := by rw [ds_33]
theorem ds_34 : La.2.1 34 = (100, 8) := (La_ds 34 (okl rfl)).trans (by decide +kernel)
theorem ds_35 : La.2.1 35 = (7, 0) := (La_ds 35 (okl rfl)).trans (by decide +kernel)
theorem oc_35 : (La.2.1 35).1 = 7 := by rw [ds_35]
theorem ds_36 : La.2.1 36 = (100, 8) := (La_ds 36 (okl rfl)).trans (by decide +kernel)
theorem ds_37 : La.2.1 37 = (7, 0) := (La_ds 37 (okl rfl)).trans (by decide +kernel)
theorem oc_37 : (La.2.1 37).1 = 7 := by rw [ds_37]
theorem ds_38 : La.2.1 38 = (100, 8) := (La_ds 38 (okl rfl)).trans (by decide +kernel)
theorem ds_39 : La.2.1 39 = (7, 0) := (La_ds 39 (okl rfl)).trans (by decide +kernel)
theorem oc_39 : (La.2.1 39).1 = 7 := by rw [ds_39]
theorem ds_40 : La.2.1 40 = (100, 8) := (La_ds 40 (okl rfl)).trans (by decide +kernel)
theorem ds_41 : La.2.1 41 = (7, 0) := (La_ds 41 (okl rfl)).trans (by decide +kernel)
theorem oc_41 : (La.2.1 41).1 = 7 := by rw [ds_41]
theorem ds_42 : La.2.1 42 = (100, 8) := (La_ds 42 (okl rfl)).trans (by decide +kernel)
theorem ds_43 : La.2.1 43 = (7, 0) := (La_ds 43 (okl rfl)).trans (by decide +kernel)
theorem oc_43 : (La.2.1 43).1 = 7 := by rw [ds_43]
theorem ds_44 : La.2.1 44 = (100, 8) := (La_ds 44 (okl rfl)).trans (by decide +kernel)
theorem ds_45 : La.2.1 45 = (7, 0) := (La_ds 45 (okl rfl)).trans (by decide +kernel)
theorem oc_45 : (La.2.1 45).1 = 7 := by rw [ds_45]
theorem ds_46 : La.2.1 46 = (100, 8) := (La_ds 46 (okl rfl)).trans (by decide +kernel)
theorem ds_47 : La.2.1 47 = (7, 0) := (La_ds 47 (okl rfl)).trans (by decide +kernel)
theorem oc_47 : (La.2.1 47).1 = 7 := by rw [ds_47]
theorem ds_48 : La.2.1 48 = (100, 8) := (La_ds 48 (okl rfl)).trans (by decide +kernel)
theorem ds_49 : La.2.1 49 = (7, 0) := (La_ds 49 (okl rfl)).trans (by decide +kernel)
theorem oc_49 : (La.2.1 49).1 = 7 := by rw [ds_49]
theorem ds_50 : La.2.1 50 = (100, 8) := (La_ds 50 (okl rfl)).trans (by decide +kernel)
theorem ds_51 : La.2.1 51 = (7, 0) := (La_ds 51 (okl rfl)).trans (by decide +kernel)
theorem oc_51 : (La.2.1 51).1 = 7 := by rw [ds_51]
theorem ds_52 : La.2.1 52 = (100, 8) := (La_ds 52 (okl rfl)).trans (by decide +kernel)
theorem ds_53 : La.2.1 53 = (7, 0) := (La_ds 53 (okl rfl)).trans (by decide +kernel)
theorem oc_53 : (La.2.1 53).1 = 7 := by rw [ds_53]
theorem ds_54 : La.2.1 54 = (100, 8) := (La_ds 54 (okl rfl)).trans (by decide +kernel)
theorem ds_55 : La.2.1 55 = (7, 0) := (La_ds 55 (okl rfl)).trans (by decide +kernel)
theorem oc_55 : (La.2.1 55).1 = 7 := by rw [ds_55]
theorem ds_56 : La.2.1 56 = (100, 8) := (La_ds 56 (okl rfl)).trans (by decide +kernel)
theorem ds_57 : La.2.1 57 = (7, 0) := (La_ds 57 (okl rfl)).trans (by decide +kernel)
theorem oc_57 : (La.2.1 57).1 = 7 := by rw [ds_57]
theorem ds_58 : La.2.1 58 = (100, 8) := (La_ds 58 (okl rfl)).trans (by decide +kernel)
theorem ds_59 : La.2.1 59 = (7, 0) := (La_ds 59 (okl rfl)).trans (by decide +kernel)
theorem oc_59 : (La.2.1 59).1 = 7 := by rw [ds_59]
theorem ds_60 : La.2.1 60 = (100, 8) := (La_ds 60 (okl rfl)).trans (by decide +kernel)
theorem ds_61 : La.2.1 61 = (7, 0) := (La_ds 61 (okl rfl)).trans (by decide +kernel)
theorem oc_61 : (La.2.1 61).1 = 7 := by rw [ds_61]
theorem ds_62 : La.2.1 62 = (100, 8) := (La_ds 62 (okl rfl)).trans (by decide +kernel)
theorem ds_63 : La.2.1 63 = (7, 0) := (La_ds 63 (okl rfl)).trans (by decide +kernel)
theorem oc_63 : (La.2.1 63).1 = 7 := by rw [ds_63]
theorem ds_64 : La.2.1 64 = (100, 8) := (La_ds 64 (okl rfl)).trans (by decide +kernel)
theorem ds_65 : La.2.1 65 = (7, 0) := (La_ds 65 (okl rfl)).trans (by decide +kernel)
theorem oc_65 : (La.2.1 65).1 = 7 := by rw [ds_65]
theorem ds_66 : La.2.1 66 = (100, 8) := (La_ds 66 (okl rfl)).trans (by decide +kernel)
theorem ds_67 : La.2.1 67 = (7, 0) := (La_ds 67 (okl rfl)).trans (by decide +kernel)
theorem oc_67 : (La.2.1 67).1 = 7 := by rw [ds_67]
theorem ds_68 : La.2.1 68 = (100, 8) := (La_ds 68 (okl rfl)).trans (by decide +kernel)
theorem ds_69 : La.2.1 69 = (7, 0) := (La_ds 69 (okl rfl)).trans (by decide +kernel)
theorem oc_69 : (La.2.1 69).1 = 7 := by rw [ds_69]
theorem ds_70 : La.2.1 70 = (100, 8) := (La_ds 70 (okl rfl)).trans (by decide +kernel)
theorem ds_71 : La.2.1 71 = (7, 0) := (La_ds 71 (okl rfl)).trans (by decide +kernel)
theorem oc_71 : (La.2.1 71).1 = 7 := by rw [ds_71]
theorem ds_72 : La.2.1 72 = (100, 8) := (La_ds 72 (okl rfl)).trans (by decide +kernel)
theorem ds_73 : La.2.1 73 = (7, 0) := (La_ds 73 (okl rfl)).trans (by decide +kernel)
theorem oc_73 : (La.2.1 73).1 = 7 := by rw [ds_73]
theorem ds_74 : La.2.1 74 = (100, 8) := (La_ds 74 (okl rfl)).trans (by decide +kernel)
theorem ds_75 : La.2.1 75 = (7, 0) := (La_ds 75 (okl rfl)).trans (by decide +kernel)
theorem oc_75 : (La.2.1 75).1 = 7 := by rw [ds_75]
theorem ds_76 : La.2.1 76 = (100, 8) := (La_ds 76 (okl rfl)).trans (by decide +kernel)
theorem ds_77 : La.2.1 77 = (6, 0) := (La_ds 77 (okl rfl)).trans (by decide +kernel)
theorem oc_77 : (La.2.1 77).1 = 6 := by rw [ds_77]
theorem ds_78 : La.2.1 78 = (7, 0) := (La_ds 78 (okl rfl)).trans (by decide +kernel)
theorem oc_78 : (La.2.1 78).1 = 7 := by rw [ds_78]
theorem ds_79 : La.2.1 79 = (100, 8) := (La_ds 79 (okl rfl)).trans (by decide +kernel)
theorem ds_80 : La.2.1 80 = (100, 256) := (La_ds 80 (okl rfl)).trans (by decide +kernel)
theorem ds_81 : La.2.1 81 = (3, 0) := (La_ds 81 (okl rfl)).trans (by decide +kernel)
theorem oc_81 : (La.2.1 81).1 = 3 := by rw [ds_81]
theorem ds_82 : La.2.1 82 = (7, 0) := (La_ds 82 (okl rfl)).trans (by decide +kernel)
theorem oc_82 : (La.2.1 82).1 = 7 := by rw [ds_82]
theorem ds_83 : La.2.1 83 = (100, 8) := (La_ds 83 (okl rfl)).trans (by decide +kernel)
theorem ds_84 : La.2.1 84 = (100, 8) := (La_ds 84 (okl rfl)).trans (by decide +kernel)
theorem ds_85 : La.2.1 85 = (100, 8) := (La_ds 85 (okl rfl)).trans (by decide +kernel)
theorem ds_86 : La.2.1 86 = (100, 6) := (La_ds 86 (okl rfl)).trans (by decide +kernel)
theorem ds_87 : La.2.1 87 = (106, 6) := (La_ds 87 (okl rfl)).trans (by decide +kernel)
theorem ds_88 : La.2.1 88 = (100, 8) := (La_ds 88 (okl rfl)).trans (by decide +kernel)
theorem ds_89 : La.2.1 89 = (100, 8) := (La_ds 89 (okl rfl)).trans (by decide +kernel)
theorem ds_90 : La.2.1 90 = (100, 8) := (La_ds 90 (okl rfl)).trans (by decide +kernel)
theorem ds_91 : La.2.1 91 = (100, 8) := (La_ds 91 (okl rfl)).trans (by decide +kernel)
theorem ds_92 : La.2.1 92 = (100, 8) := (La_ds 92 (okl rfl)).trans (by decide +kernel)
theorem ds_93 : La.2.1 93 = (100, 8) := (La_ds 93 (okl rfl)).trans (by decide +kernel)
theorem ds_94 : La.2.1 94 = (2, 0) := (La_ds 94 (okl rfl)).trans (by decide +kernel)
theorem oc_94 : (La.2.1 94).1 = 2 := by rw [ds_94]
theorem ds_95 : La.2.1 95 = (7, 0) := (La_ds 95 (okl rfl)).trans (by decide +kernel)
theorem oc_95 : (La.2.1 95).1 = 7 := by rw [ds_95]
theorem ds_96 : La.2.1 96 = (100, 8) := (La_ds 96 (okl rfl)).trans (by decide +kernel)
theorem ds_97 : La.2.1 97 = (7, 0) := (La_ds 97 (okl rfl)).trans (by decide +kernel)
theorem oc_97 : (La.2.1 97).1 = 7 := by rw [ds_97]
theorem ds_98 : La.2.1 98 = (100, 8) := (La_ds 98 (okl rfl)).trans (by decide +kernel)
theorem ds_99 : La.2.1 99 = (7, 0) := (La_ds 99 (okl rfl)).trans (by decide +kernel)
theorem oc_99 : (La.2.1 99).1 = 7 := by rw [ds_99]
theorem ds_100 : La.2.1 100 = (100, 8) := (La_ds 100 (okl rfl)).trans (by decide +kernel)
theorem ds_101 : La.2.1 101 = (7, 0) := (La_ds 101 (okl rfl)).trans (by decide +kernel)
theorem oc_101 : (La.2.1 101).1 = 7 := by rw [ds_101]
theorem ds_102 : La.2.1 102 = (100, 8) := (La_ds 102 (okl rfl)).trans (by decide +kernel)
theorem ds_103 : La.2.1 103 = (7, 0) := (La_ds 103 (okl rfl)).trans (by decide +kernel)
theorem oc_103 : (La.2.1 103).1 = 7 := by rw [ds_103]
theorem ds_104 : La.2.1 104 = (100, 8) := (La_ds 104 (okl rfl)).trans (by decide +kernel)
theorem ds_105 : La.2.1 105 = (4, 0) := (La_ds 105 (okl rfl)).trans (by decide +kernel)
theorem oc_105 : (La.2.1 105).1 = 4 := by rw [ds_105]
theorem ds_106 : La.2.1 106 = (7, 0) := (La_ds 106 (okl rfl)).trans (by decide +kernel)
theorem oc_106 : (La.2.1 106).1 = 7 := by rw [ds_106]
theorem ds_107 : La.2.1 107 = (100, 8) := (La_ds 107 (okl rfl)).trans (by decide +kernel)
theorem ds_108 : La.2.1 108 = (104, 8) := (La_ds 108 (okl rfl)).trans (by decide +kernel)
theorem ds_109 : La.2.1 109 = (100, 8) := (La_ds 109 (okl rfl)).trans (by decide +kernel)
theorem ds_110 : La.2.1 110 = (100, 8) := (La_ds 110 (okl rfl)).trans (by decide +kernel)
theorem ds_111 : La.2.1 111 = (100, 8) := (La_ds 111 (okl rfl)).trans (by decide +kernel)
theorem ds_112 : La.2.1 112 = (100, 8) := (La_ds 112 (okl rfl)).trans (by decide +kernel)
theorem ds_113 : La.2.1 113 = (7, 0) := (La_ds 113 (okl rfl)).trans (by decide +kernel)
theorem oc_113 : (La.2.1 113).1 = 7 := by rw [ds_113]
theorem ds_114 : La.2.1 114 = (100, 8) := (La_ds 114 (okl rfl)).trans (by decide +kernel)
theorem ds_115 : La.2.1 115 = (7, 0) := (La_ds 115 (okl rfl)).trans (by decide +kernel)
theorem oc_115 : (La.2.1 115).1 = 7 := by rw [ds_115]
theorem ds_116 : La.2.1 116 = (100, 8) := (La_ds 116 (okl rfl)).trans (by decide +kernel)
theorem ds_117 : La.2.1 117 = (7, 0) := (La_ds 117 (okl rfl)).trans (by decide +kernel)
theorem oc_117 : (La.2.1 117).1 = 7 := by rw [ds_117]
theorem ds_118 : La.2.1 118 = (100, 8) := (La_ds 118 (okl rfl)).trans (by decide +kernel)
theorem ds_119 : La.2.1 119 = (7, 0) := (La_ds 119 (okl rfl)).trans (by decide +kernel)
theorem oc_119 : (La.2.1 119).1 = 7 := by rw [ds_119]
theorem ds_120 : La.2.1 120 = (100, 8) := (La_ds 120 (okl rfl)).trans (by decide +kernel)
theorem ds_121 : La.2.1 121 = (7, 0) := (La_ds 121 (okl rfl)).trans (by decide +kernel)
theorem oc_121 : (La.2.1 121).1 = 7 := by rw [ds_121]
theorem ds_122 : La.2.1 122 = (100, 8) := (La_ds 122 (okl rfl)).trans (by decide +kernel)
theorem ds_123 : La.2.1 123 = (7, 0) := (La_ds 123 (okl rfl)).trans (by decide +kernel)
theorem oc_123 : (La.2.1 123).1 = 7 := by rw [ds_123]
theorem ds_124 : La.2.1 124 = (100, 8) := (La_ds 124 (okl rfl)).trans (by decide +kernel)
theorem ds_125 : La.2.1 125 = (7, 0) := (La_ds 125 (okl rfl)).trans (by decide +kernel)
theorem oc_125 : (La.2.1 125).1 = 7 := by rw [ds_125]
theorem ds_126 : La.2.1 126 = (100, 8) := (La_ds 126 (okl rfl)).trans (by decide +kernel)
theorem ds_127 : La.2.1 127 = (7, 0) := (La_ds 127 (okl rfl)).trans (by decide +kernel)
theorem oc_127 : (La.2.1 127).1 = 7 := by rw [ds_127]
theorem ds_128 : La.2.1 128 = (100, 8) := (La_ds 128 (okl rfl)).trans (by decide +kernel)
theorem ds_129 : La.2.1 129 = (9, 0) := (La_ds 129 (okl rfl)).trans (by decide +kernel)
theorem oc_129 : (La.2.1 129).1 = 9 := by rw [ds_129]
theorem ds_130 : La.2.1 130 = (104, 8) := (La_ds 130 (okl rfl)).trans (by decide +kernel)
theorem ds_131 : La.2.1 131 = (100, 8) := (La_ds 131 (okl rfl)).trans (by decide +kernel)
theorem ds_132 : La.2.1 132 = (7, 0) := (La_ds 132 (okl rfl)).trans (by decide +kernel)
theorem oc_132 : (La.2.1 132).1 = 7 := by rw [ds_132]
theorem ds_133 : La.2.1 133 = (100, 8) := (La_ds 133 (okl rfl)).trans (by decide +kernel)
theorem ds_134 : La.2.1 134 = (7, 0) := (La_ds 134 (okl rfl)).trans (by decide +kernel)
theorem oc_134 : (La.2.1 134).1 = 7 := by rw [ds_134]
theorem ds_135 : La.2.1 135 = (100, 8) := (La_ds 135 (okl rfl)).trans (by decide +kernel)
theorem ds_136 : La.2.1 136 = (7, 0) := (La_ds 136 (okl rfl)).trans (by decide +kernel)
theorem oc_136 : (La.2.1 136).1 = 7 := by rw [ds_136]
theorem ds_137 : La.2.1 137 = (100, 8) := (La_ds 137 (okl rfl)).trans (by decide +kernel)
theorem ds_138 : La.2.1 138 = (7, 0) := (La_ds 138 (okl rfl)).trans (by decide +kernel)
theorem oc_138 : (La.2.1 138).1 = 7 := by rw [ds_138]
theorem ds_139 : La.2.1 139 = (100, 8) := (La_ds 139 (okl rfl)).trans (by decide +kernel)
theorem ds_140 : La.2.1 140 = (7, 0) := (La_ds 140 (okl rfl)).trans (by decide +kernel)
theorem oc_140 : (La.2.1 140).1 = 7 := by rw [ds_140]
theorem ds_141 : La.2.1 141 = (100, 8) := (La_ds 141 (okl rfl)).trans (by decide +kernel)
theorem ds_142 : La.2.1 142 = (7, 0) := (La_ds 142 (okl rfl)).trans (by decide +kernel)
theorem oc_142 : (La.2.1 142).1 = 7 := by rw [ds_142]
theorem ds_143 : La.2.1 143 = (100, 8) := (La_ds 143 (okl rfl)).trans (by decide +kernel)
theorem ds_144 : La.2.1 144 = (7, 0) := (La_ds 144 (okl rfl)).trans (by decide +kernel)
theorem oc_144 : (La.2.1 144).1 = 7 := by rw [ds_144]
theorem ds_145 : La.2.1 145 = (100, 8) := (La_ds 145 (okl rfl)).trans (by decide +kernel)
theorem ds_146 : La.2.1 146 = (7, 0) := (La_ds 146 (okl rfl)).trans (by decide +kernel)
theorem oc_146 : (La.2.1 146).1 = 7 := by rw [ds_146]
theorem ds_147 : La.2.1 147 = (100, 8) := (La_ds 147 (okl rfl)).trans (by decide +kernel)
theorem ds_148 : La.2.1 148 = (7, 0) := (La_ds 148 (okl rfl)).trans (by decide +kernel)
theorem oc_148 : (La.2.1 148).1 = 7 := by rw [ds_148]
theorem ds_149 : La.2.1 149 = (100, 8) := (La_ds 149 (okl rfl)).trans (by decide +kernel)
theorem ds_150 : La.2.1 150 = (7, 0) := (La_ds 150 (okl rfl)).trans (by decide +kernel)
theorem oc_150 : (La.2.1 150).1 = 7 := by rw [ds_150]
theorem ds_151 : La.2.1 151 = (100, 8) := (La_ds 151 (okl rfl)).trans (by decide +kernel)
theorem ds_152 : La.2.1 152 = (7, 0) := (La_ds 152 (okl rfl)).trans (by decide +kernel)
theorem oc_152 : (La.2.1 152).1 = 7 := by rw [ds_152]
theorem ds_153 : La.2.1 153 = (100, 8) := (La_ds 153 (okl rfl)).trans (by decide +kernel)
theorem ds_154 : La.2.1 154 = (0, 0) := (La_ds 154 (okl rfl)).trans (by decide +kernel)
theorem oc_154 : (La.2.1 154).1 = 0 := by rw [ds_154]
theorem ds_155 : La.2.1 155 = (100, 60) := (La_ds 155 (okl rfl)).trans (by decide +kernel)
theorem ds_156 : La.2.1 156 = (100, 60) := (La_ds 156 (okl rfl)).trans (by decide +kernel)
theorem ds_157 : La.2.1 157 = (100, 60) := (La_ds 157 (okl rfl)).trans (by decide +kernel)
theorem ds_158 : La.2.1 158 = (100, 60) := (La_ds 158 (okl rfl)).trans (by decide +kernel)
theorem ds_159 : La.2.1 159 = (106, 60) := (La_ds 159 (okl rfl)).trans (by decide +kernel)
theorem ds_160 : La.2.1 160 = (100, 8) := (La_ds 160 (okl rfl)).trans (by decide +kernel)
theorem ds_161 : La.2.1 161 = (100, 8) := (La_ds 161 (okl rfl)).trans (by decide +kernel)
theorem ds_162 : La.2.1 162 = (100, 8) := (La_ds 162 (okl rfl)).trans (by decide +kernel)
theorem ds_163 : La.2.1 163 = (100, 8) := (La_ds 163 (okl rfl)).trans (by decide +kernel)
theorem ds_164 : La.2.1 164 = (100, 8) := (La_ds 164 (okl rfl)).trans (by decide +kernel)
theorem ds_165 : La.2.1 165 = (100, 8) := (La_ds 165 (okl rfl)).trans (by decide +kernel)
theorem ds_166 : La.2.1 166 = (100, 8) := (La_ds 166 (okl rfl)).trans (by decide +kernel)
theorem ds_167 : La.2.1 167 = (100, 8) := (La_ds 167 (okl rfl)).trans (by decide +kernel)
theorem ds_168 : La.2.1 168 = (100, 8) := (La_ds 168 (okl rfl)).trans (by decide +kernel)
theorem ds_169 : La.2.1 169 = (100, 8) := (La_ds 169 (okl rfl)).trans (by decide +kernel)
theorem ds_170 : La.2.1 170 = (100, 8) := (La_ds 170 (okl rfl)).trans (by decide +kernel)
theorem ds_171 : La.2.1 171 = (100, 8) := (La_ds 171 (okl rfl)).trans (by decide +kernel)
theorem ds_172 : La.2.1 172 = (100, 8) := (La_ds 172 (okl rfl)).trans (by decide +kernel)
theorem ds_173 : La.2.1 173 = (100, 8) := (La_ds 173 (okl rfl)).trans (by decide +kernel)
theorem ds_174 : La.2.1 174 = (100, 8) := (La_ds 174 (okl rfl)).trans (by decide +kernel)
theorem ds_175 : La.2.1 175 = (100, 8) := (La_ds 175 (okl rfl)).trans (by decide +kernel)
theorem ds_176 : La.2.1 176 = (100, 8) := (La_ds 176 (okl rfl)).trans (by decide +kernel)
theorem ds_177 : La.2.1 177 = (100, 8) := (La_ds 177 (okl rfl)).trans (by decide +kernel)
theorem ds_178 : La.2.1 178 = (100, 8) := (La_ds 178 (okl rfl)).trans (by decide +kernel)
theorem ds_179 : La.2.1 179 = (100, 8) := (La_ds 179 (okl rfl)).trans (by decide +kernel)
theorem ds_180 : La.2.1 180 = (100, 8) := (La_ds 180 (okl rfl)).trans (by decide +kernel)
theorem ds_181 : La.2.1 181 = (100, 8) := (La_ds 181 (okl rfl)).trans (by decide +kernel)
theorem ds_182 : La.2.1 182 = (100, 8) := (La_ds 182 (okl rfl)).trans (by decide +kernel)
theorem ds_183 : La.2.1 183 = (100, 8) := (La_ds 183 (okl rfl)).trans (by decide +kernel)
theorem ds_184 : La.2.1 184 = (100, 8) := (La_ds 184 (okl rfl)).trans (by decide +kernel)
theorem ds_185 : La.2.1 185 = (100, 8) := (La_ds 185 (okl rfl)).trans (by decide +kernel)
theorem ds_186 : La.2.1 186 = (100, 8) := (La_ds 186 (okl rfl)).trans (by decide +kernel)
theorem ds_187 : La.2.1 187 = (100, 8) := (La_ds 187 (okl rfl)).trans (by decide +kernel)
theorem ds_188 : La.2.1 188 = (100, 8) := (La_ds 188 (okl rfl)).trans (by decide +kernel)
theorem ds_189 : La.2.1 189 = (100, 8) := (La_ds 189 (okl rfl)).trans (by decide +kernel)
theorem ds_190 : La.2.1 190 = (100, 8) := (La_ds 190 (okl rfl)).trans (by decide +kernel)
theorem ds_191 : La.2.1 191 = (100, 8) := (La_ds 191 (okl rfl)).trans (by decide +kernel)
theorem ds_192 : La.2.1 192 = (100, 8) := (La_ds 192 (okl rfl)).trans (by decide +kernel)
theorem ds_193 : La.2.1 193 = (100, 8) := (La_ds 193 (okl rfl)).trans (by decide +kernel)
theorem ds_194 : La.2.1 194 = (100, 8) := (La_ds 194 (okl rfl)).trans (by decide +kernel)
theorem ds_195 : La.2.1 195 = (100, 8) := (La_ds 195 (okl rfl)).trans (by decide +kernel)
theorem ds_196 : La.2.1 196 = (100, 8) := (La_ds 196 (okl rfl)).trans (by decide +kernel)
theorem ds_197 : La.2.1 197 = (100, 8) := (La_ds 197 (okl rfl)).trans (by decide +kernel)
theorem ds_198 : La.2.1 198 = (100, 8) := (La_ds 198 (okl rfl)).trans (by decide +kernel)
theorem ds_199 : La.2.1 199 = (100, 8) := (La_ds 199 (okl rfl)).trans (by decide +kernel)
theorem ds_200 : La.2.1 200 = (100, 8) := (La_ds 200 (okl rfl)).trans (by decide +kernel)
theorem ds_201 : La.2.1 201 = (100, 8) := (La_ds 201 (okl rfl)).trans (by decide +kernel)
theorem ds_202 : La.2.1 202 = (100, 8) := (La_ds 202 (okl rfl)).trans (by decide +kernel)
theorem ds_203 : La.2.1 203 = (100, 8) := (La_ds 203 (okl rfl)).trans (by decide +kernel)
theorem ds_204 : La.2.1 204 = (100, 8) := (La_ds 204 (okl rfl)).trans (by decide +kernel)
theorem ds_205 : La.2.1 205 = (100, 8) := (La_ds 205 (okl rfl)).trans (by decide +kernel)
theorem ds_206 : La.2.1 206 = (100, 8) := (La_ds 206 (okl rfl)).trans (by decide +kernel)
theorem ds_207 : La.2.1 207 = (100, 8) := (La_ds 207 (okl rfl)).trans (by decide +kernel)
theorem ds_208 : La.2.1 208 = (100, 8) := (La_ds 208 (okl rfl)).trans (by decide +kernel)
theorem ds_209 : La.2.1 209 = (100, 8) := (La_ds 209 (okl rfl)).trans (by decide +kernel)
theorem ds_210 : La.2.1 210 = (100, 8) := (La_ds 210 (okl rfl)).trans (by decide +kernel)
theorem ds_211 : La.2.1 211 = (100, 8) := (La_ds 211 (okl rfl)).trans (by decide +kernel)
theorem ds_212 : La.2.1 212 = (100, 8) := (La_ds 212 (okl rfl)).trans (by decide +kernel)
theorem ds_213 : La.2.1 213 = (100, 8) := (La_ds 213 (okl rfl)).trans (by decide +kernel)
theorem ds_214 : La.2.1 214 = (100, 8) := (La_ds 214 (okl rfl)).trans (by decide +kernel)
theorem ds_215 : La.2.1 215 = (100, 8) := (La_ds 215 (okl rfl)).trans (by decide +kernel)
theorem ds_216 : La.2.1 216 = (100, 8) := (La_ds 216 (okl rfl)).trans (by decide +kernel)
theorem ds_217 : La.2.1 217 = (100, 8) := (La_ds 217 (okl rfl)).trans (by decide +kernel)
theorem ds_218 : La.2.1 218 = (100, 8) := (La_ds 218 (okl rfl)).trans (by decide +kernel)
theorem ds_219 : La.2.1 219 = (100, 8) := (La_ds 219 (okl rfl)).trans (by decide +kernel)
theorem ds_220 : La.2.1 220 = (100, 60) := (La_ds 220 (okl rfl)).trans (by decide +kernel)
theorem ds_221 : La.2.1 221 = (7, 0) := (La_ds 221 (okl rfl)).trans (by decide +kernel)
theorem oc_221 : (La.2.1 221).1 = 7 := by rw [ds_221]
theorem ds_222 : La.2.1 222 = (100, 8) := (La_ds 222 (okl rfl)).trans (by decide +kernel)
theorem ds_223 : La.2.1 223 = (4, 0) := (La_ds 223 (okl rfl)).trans (by decide +kernel)
theorem oc_223 : (La.2.1 223).1 = 4 := by rw [ds_223]
theorem ds_224 : La.2.1 224 = (7, 0) := (La_ds 224 (okl rfl)).trans (by decide +kernel)
theorem oc_224 : (La.2.1 224).1 = 7 := by rw [ds_224]
theorem ds_225 : La.2.1 225 = (100, 8) := (La_ds 225 (okl rfl)).trans (by decide +kernel)
theorem ds_226 : La.2.1 226 = (104, 8) := (La_ds 226 (okl rfl)).trans (by decide +kernel)
theorem ds_227 : La.2.1 227 = (100, 8) := (La_ds 227 (okl rfl)).trans (by decide +kernel)
theorem ds_228 : La.2.1 228 = (100, 8) := (La_ds 228 (okl rfl)).trans (by decide +kernel)
theorem ds_229 : La.2.1 229 = (100, 8) := (La_ds 229 (okl rfl)).trans (by decide +kernel)
theorem ds_230 : La.2.1 230 = (100, 8) := (La_ds 230 (okl rfl)).trans (by decide +kernel)
theorem ds_231 : La.2.1 231 = (7, 0) := (La_ds 231 (okl rfl)).trans (by decide +kernel)
theorem oc_231 : (La.2.1 231).1 = 7 := by rw [ds_231]
theorem ds_232 : La.2.1 232 = (100, 8) := (La_ds 232 (okl rfl)).trans (by decide +kernel)
theorem ds_233 : La.2.1 233 = (7, 0) := (La_ds 233 (okl rfl)).trans (by decide +kernel)
theorem oc_233 : (La.2.1 233).1 = 7 := by rw [ds_233]
theorem ds_234 : La.2.1 234 = (100, 8) := (La_ds 234 (okl rfl)).trans (by decide +kernel)
theorem ds_235 : La.2.1 235 = (7, 0) := (La_ds 235 (okl rfl)).trans (by decide +kernel)
theorem oc_235 : (La.2.1 235).1 = 7 := by rw [ds_235]
theorem ds_236 : La.2.1 236 = (100, 8) := (La_ds 236 (okl rfl)).trans (by decide +kernel)
theorem ds_237 : La.2.1 237 = (7, 0) := (La_ds 237 (okl rfl)).trans (by decide +kernel)
theorem oc_237 : (La.2.1 237).1 = 7 := by rw [ds_237]
theorem ds_238 : La.2.1 238 = (100, 8) := (La_ds 238 (okl rfl)).trans (by decide +kernel)
theorem ds_239 : La.2.1 239 = (7, 0) := (La_ds 239 (okl rfl)).trans (by decide +kernel)
theorem oc_239 : (La.2.1 239).1 = 7 := by rw [ds_239]
theorem ds_240 : La.2.1 240 = (100, 8) := (La_ds 240 (okl rfl)).trans (by decide +kernel)
theorem ds_241 : La.2.1 241 = (7, 0) := (La_ds 241 (okl rfl)).trans (by decide +kernel)
theorem oc_241 : (La.2.1 241).1 = 7 := by rw [ds_241]
theorem ds_242 : La.2.1 242 = (100, 8) := (La_ds 242 (okl rfl)).trans (by decide +kernel)
theorem ds_243 : La.2.1 243 = (7, 0) := (La_ds 243 (okl rfl)).trans (by decide +kernel)
theorem oc_243 : (La.2.1 243).1 = 7 := by rw [ds_243]
theorem ds_244 : La.2.1 244 = (100, 8) := (La_ds 244 (okl rfl)).trans (by decide +kernel)
theorem ds_245 : La.2.1 245 = (7, 0) := (La_ds 245 (okl rfl)).trans (by decide +kernel)
theorem oc_245 : (La.2.1 245).1 = 7 := by rw [ds_245]
theorem ds_246 : La.2.1 246 = (100, 8) := (La_ds 246 (okl rfl)).trans (by decide +kernel)
theorem ds_247 : La.2.1 247 = (4, 0) := (La_ds 247 (okl rfl)).trans (by decide +kernel)
theorem oc_247 : (La.2.1 247).1 = 4 := by rw [ds_247]
theorem ds_248 : La.2.1 248 = (7, 0) := (La_ds 248 (okl rfl)).trans (by decide +kernel)
theorem oc_248 : (La.2.1 248).1 = 7 := by rw [ds_248]
theorem ds_249 : La.2.1 249 = (100, 8) := (La_ds 249 (okl rfl)).trans (by decide +kernel)
theorem ds_250 : La.2.1 250 = (104, 8) := (La_ds 250 (okl rfl)).trans (by decide +kernel)
theorem ds_251 : La.2.1 251 = (100, 8) := (La_ds 251 (okl rfl)).trans (by decide +kernel)
theorem ds_252 : La.2.1 252 = (100, 8) := (La_ds 252 (okl rfl)).trans (by decide +kernel)
theorem ds_253 : La.2.1 253 = (100, 8) := (La_ds 253 (okl rfl)).trans (by decide +kernel)
theorem ds_254 : La.2.1 254 = (100, 8) := (La_ds 254 (okl rfl)).trans (by decide +kernel)
theorem ds_255 : La.2.1 255 = (7, 0) := (La_ds 255 (okl rfl)).trans (by decide +kernel)
theorem oc_255 : (La.2.1 255).1 = 7 := by rw [ds_255]
theorem ds_256 : La.2.1 256 = (100, 8) := (La_ds 256 (okl rfl)).trans (by decide +kernel)
theorem ds_257 : La.2.1 257 = (7, 0) := (La_ds 257 (okl rfl)).trans (by decide +kernel)
theorem oc_257 : (La.2.1 257).1 = 7 := by rw [ds_257]
theorem ds_258 : La.2.1 258 = (100, 8) := (La_ds 258 (okl rfl)).trans (by decide +kernel)
theorem ds_259 : La.2.1 259 = (7, 0) := (La_ds 259 (okl rfl)).trans (by decide +kernel)
theorem oc_259 : (La.2.1 259).1 = 7 := by rw [ds_259]
theorem ds_260 : La.2.1 260 = (100, 8) := (La_ds 260 (okl rfl)).trans (by decide +kernel)
theorem ds_261 : La.2.1 261 = (7, 0) := (La_ds 261 (okl rfl)).trans (by decide +kernel)
theorem oc_261 : (La.2.1 261).1 = 7 := by rw [ds_261]
theorem ds_262 : La.2.1 262 = (100, 8) := (La_ds 262 (okl rfl)).trans (by decide +kernel)
theorem ds_263 : La.2.1 263 = (7, 0) := (La_ds 263 (okl rfl)).trans (by decide +kernel)
theorem oc_263 : (La.2.1 263).1 = 7 := by rw [ds_263]
theorem ds_264 : La.2.1 264 = (100, 8) := (La_ds 264 (okl rfl)).trans (by decide +kernel)
theorem ds_265 : La.2.1 265 = (7, 0) := (La_ds 265 (okl rfl)).trans (by decide +kernel)
theorem oc_265 : (La.2.1 265).1 = 7 := by rw [ds_265]
theorem ds_266 : La.2.1 266 = (100, 8) := (La_ds 266 (okl rfl)).trans (by decide +kernel)
theorem ds_267 : La.2.1 267 = (7, 0) := (La_ds 267 (okl rfl)).trans (by decide +kernel)
theorem oc_267 : (La.2.1 267).1 = 7 := by rw [ds_267]
theorem ds_268 : La.2.1 268 = (100, 8) := (La_ds 268 (okl rfl)).trans (by decide +kernel)
theorem ds_269 : La.2.1 269 = (7, 0) := (La_ds 269 (okl rfl)).trans (by decide +kernel)
theorem oc_269 : (La.2.1 269).1 = 7 := by rw [ds_269]
theorem ds_270 : La.2.1 270 = (100, 8) := (La_ds 270 (okl rfl)).trans (by decide +kernel)
theorem ds_271 : La.2.1 271 = (4, 0) := (La_ds 271 (okl rfl)).trans (by decide +kernel)
theorem oc_271 : (La.2.1 271).1 = 4 := by rw [ds_271]
theorem ds_272 : La.2.1 272 = (7, 0) := (La_ds 272 (okl rfl)).trans (by decide +kernel)
theorem oc_272 : (La.2.1 272).1 = 7 := by rw [ds_272]
theorem ds_273 : La.2.1 273 = (100, 8) := (La_ds 273 (okl rfl)).trans (by decide +kernel)
theorem ds_274 : La.2.1 274 = (104, 8) := (La_ds 274 (okl rfl)).trans (by decide +kernel)
theorem ds_275 : La.2.1 275 = (100, 8) := (La_ds 275 (okl rfl)).trans (by decide +kernel)
theorem ds_276 : La.2.1 276 = (100, 8) := (La_ds 276 (okl rfl)).trans (by decide +kernel)
theorem ds_277 : La.2.1 277 = (100, 8) := (La_ds 277 (okl rfl)).trans (by decide +kernel)
theorem ds_278 : La.2.1 278 = (100, 8) := (La_ds 278 (okl rfl)).trans (by decide +kernel)
theorem ds_279 : La.2.1 279 = (7, 0) := (La_ds 279 (okl rfl)).trans (by decide +kernel)
theorem oc_279 : (La.2.1 279).1 = 7 := by rw [ds_279]
theorem ds_280 : La.2.1 280 = (100, 8) := (La_ds 280 (okl rfl)).trans (by decide +kernel)
theorem ds_281 : La.2.1 281 = (7, 0) := (La_ds 281 (okl rfl)).trans (by decide +kernel)
theorem oc_281 : (La.2.1 281).1 = 7 := by rw [ds_281]
theorem ds_282 : La.2.1 282 = (100, 8) := (La_ds 282 (okl rfl)).trans (by decide +kernel)
theorem ds_283 : La.2.1 283 = (7, 0) := (La_ds 283 (okl rfl)).trans (by decide +kernel)
theorem oc_283 : (La.2.1 283).1 = 7 := by rw [ds_283]
theorem ds_284 : La.2.1 284 = (100, 8) := (La_ds 284 (okl rfl)).trans (by decide +kernel)
theorem ds_285 : La.2.1 285 = (7, 0) := (La_ds 285 (okl rfl)).trans (by decide +kernel)
theorem oc_285 : (La.2.1 285).1 = 7 := by rw [ds_285]
theorem ds_286 : La.2.1 286 = (100, 8) := (La_ds 286 (okl rfl)).trans (by decide +kernel)
theorem ds_287 : La.2.1 287 = (7, 0) := (La_ds 287 (okl rfl)).trans (by decide +kernel)
theorem oc_287 : (La.2.1 287).1 = 7 := by rw [ds_287]
theorem ds_288 : La.2.1 288 = (100, 8) := (La_ds 288 (okl rfl)).trans (by decide +kernel)
theorem ds_289 : La.2.1 289 = (7, 0) := (La_ds 289 (okl rfl)).trans (by decide +kernel)
theorem oc_289 : (La.2.1 289).1 = 7 := by rw [ds_289]
theorem ds_290 : La.2.1 290 = (100, 8) := (La_ds 290 (okl rfl)).trans (by decide +kernel)
theorem ds_291 : La.2.1 291 = (7, 0) := (La_ds 291 (okl rfl)).trans (by decide +kernel)
theorem oc_291 : (La.2.1 291).1 = 7 := by rw [ds_291]
theorem ds_292 : La.2.1 292 = (100, 8) := (La_ds 292 (okl rfl)).trans (by decide +kernel)
theorem ds_293 : La.2.1 293 = (7, 0) := (La_ds 293 (okl rfl)).trans (by decide +kernel)
theorem oc_293 : (La.2.1 293).1 = 7 := by rw [ds_293]
theorem ds_294 : La.2.1 294 = (100, 8) := (La_ds 294 (okl rfl)).trans (by decide +kernel)
theorem ds_295 : La.2.1 295 = (4, 0) := (La_ds 295 (okl rfl)).trans (by decide +kernel)
theorem oc_295 : (La.2.1 295).1 = 4 := by rw [ds_295]
theorem ds_296 : La.2.1 296 = (7, 0) := (La_ds 296 (okl rfl)).trans (by decide +kernel)
theorem oc_296 : (La.2.1 296).1 = 7 := by rw [ds_296]
theorem ds_297 : La.2.1 297 = (100, 8) := (La_ds 297 (okl rfl)).trans (by decide +kernel)
theorem ds_298 : La.2.1 298 = (104, 8) := (La_ds 298 (okl rfl)).trans (by decide +kernel)
theorem ds_299 : La.2.1 299 = (100, 8) := (La_ds 299 (okl rfl)).trans (by decide +kernel)
theorem ds_300 : La.2.1 300 = (100, 8) := (La_ds 300 (okl rfl)).trans (by decide +kernel)
theorem ds_301 : La.2.1 301 = (100, 8) := (La_ds 301 (okl rfl)).trans (by decide +kernel)
theorem ds_302 : La.2.1 302 = (100, 8) := (La_ds 302 (okl rfl)).trans (by decide +kernel)
theorem ds_303 : La.2.1 303 = (7, 0) := (La_ds 303 (okl rfl)).trans (by decide +kernel)
theorem oc_303 : (La.2.1 303).1 = 7 := by rw [ds_303]
theorem ds_304 : La.2.1 304 = (100, 8) := (La_ds 304 (okl rfl)).trans (by decide +kernel)
theorem ds_305 : La.2.1 305 = (7, 0) := (La_ds 305 (okl rfl)).trans (by decide +kernel)
theorem oc_305 : (La.2.1 305).1 = 7 := by rw [ds_305]
theorem ds_306 : La.2.1 306 = (100, 8) := (La_ds 306 (okl rfl)).trans (by decide +kernel)
theorem ds_307 : La.2.1 307 = (7, 0) := (La_ds 307 (okl rfl)).trans (by decide +kernel)
theorem oc_307 : (La.2.1 307).1 = 7 := by rw [ds_307]
theorem ds_308 : La.2.1 308 = (100, 8) := (La_ds 308 (okl rfl)).trans (by decide +kernel)
theorem ds_309 : La.2.1 309 = (7, 0) := (La_ds 309 (okl rfl)).trans (by decide +kernel)
theorem oc_309 : (La.2.1 309).1 = 7 := by rw [ds_309]
theorem ds_310 : La.2.1 310 = (100, 8) := (La_ds 310 (okl rfl)).trans (by decide +kernel)
theorem ds_311 : La.2.1 311 = (7, 0) := (La_ds 311 (okl rfl)).trans (by decide +kernel)
theorem oc_311 : (La.2.1 311).1 = 7 := by rw [ds_311]
theorem ds_312 : La.2.1 312 = (100, 8) := (La_ds 312 (okl rfl)).trans (by decide +kernel)
theorem ds_313 : La.2.1 313 = (7, 0) := (La_ds 313 (okl rfl)).trans (by decide +kernel)
theorem oc_313 : (La.2.1 313).1 = 7 := by rw [ds_313]
theorem ds_314 : La.2.1 314 = (100, 8) := (La_ds 314 (okl rfl)).trans (by decide +kernel)
theorem ds_315 : La.2.1 315 = (7, 0) := (La_ds 315 (okl rfl)).trans (by decide +kernel)
theorem oc_315 : (La.2.1 315).1 = 7 := by rw [ds_315]
theorem ds_316 : La.2.1 316 = (100, 8) := (La_ds 316 (okl rfl)).trans (by decide +kernel)
theorem ds_317 : La.2.1 317 = (7, 0) := (La_ds 317 (okl rfl)).trans (by decide +kernel)
theorem oc_317 : (La.2.1 317).1 = 7 := by rw [ds_317]
theorem ds_318 : La.2.1 318 = (100, 8) := (La_ds 318 (okl rfl)).trans (by decide +kernel)
theorem ds_319 : La.2.1 319 = (4, 0) := (La_ds 319 (okl rfl)).trans (by decide +kernel)
theorem oc_319 : (La.2.1 319).1 = 4 := by rw [ds_319]
theorem ds_320 : La.2.1 320 = (7, 0) := (La_ds 320 (okl rfl)).trans (by decide +kernel)
theorem oc_320 : (La.2.1 320).1 = 7 := by rw [ds_320]
theorem ds_321 : La.2.1 321 = (100, 8) := (La_ds 321 (okl rfl)).trans (by decide +kernel)
theorem ds_322 : La.2.1 322 = (104, 8) := (La_ds 322 (okl rfl)).trans (by decide +kernel)
theorem ds_323 : La.2.1 323 = (100, 8) := (La_ds 323 (okl rfl)).trans (by decide +kernel)
theorem ds_324 : La.2.1 324 = (100, 8) := (La_ds 324 (okl rfl)).trans (by decide +kernel)
theorem ds_325 : La.2.1 325 = (100, 8) := (La_ds 325 (okl rfl)).trans (by decide +kernel)
theorem ds_326 : La.2.1 326 = (100, 8) := (La_ds 326 (okl rfl)).trans (by decide +kernel)
theorem ds_327 : La.2.1 327 = (7, 0) := (La_ds 327 (okl rfl)).trans (by decide +kernel)
theorem oc_327 : (La.2.1 327).1 = 7 := by rw [ds_327]
theorem ds_328 : La.2.1 328 = (100, 8) := (La_ds 328 (okl rfl)).trans (by decide +kernel)
theorem ds_329 : La.2.1 329 = (7, 0) := (La_ds 329 (okl rfl)).trans (by decide +kernel)
theorem oc_329 : (La.2.1 329).1 = 7 := by rw [ds_329]
theorem ds_330 : La.2.1 330 = (100, 8) := (La_ds 330 (okl rfl)).trans (by decide +kernel)
theorem ds_331 : La.2.1 331 = (7, 0) := (La_ds 331 (okl rfl)).trans (by decide +kernel)
theorem oc_331 : (La.2.1 331).1 = 7 := by rw [ds_331]
theorem ds_332 : La.2.1 332 = (100, 8) := (La_ds 332 (okl rfl)).trans (by decide +kernel)
theorem ds_333 : La.2.1 333 = (7, 0) := (La_ds 333 (okl rfl)).trans (by decide +kernel)
theorem oc_333 : (La.2.1 333).1 = 7 := by rw [ds_333]
theorem ds_334 : La.2.1 334 = (100, 8) := (La_ds 334 (okl rfl)).trans (by decide +kernel)
theorem ds_335 : La.2.1 335 = (7, 0) := (La_ds 335 (okl rfl)).trans (by decide +kernel)
theorem oc_335 : (La.2.1 335).1 = 7 := by rw [ds_335]
theorem ds_336 : La.2.1 336 = (100, 8) := (La_ds 336 (okl rfl)).trans (by decide +kernel)
theorem ds_337 : La.2.1 337 = (7, 0) := (La_ds 337 (okl rfl)).trans (by decide +kernel)
theorem oc_337 : (La.2.1 337).1 = 7 := by rw [ds_337]
theorem ds_338 : La.2.1 338 = (100, 8) := (La_ds 338 (okl rfl)).trans (by decide +kernel)
theorem ds_339 : La.2.1 339 = (7, 0) := (La_ds 339 (okl rfl)).trans (by decide +kernel)
theorem oc_339 : (La.2.1 339).1 = 7 := by rw [ds_339]
theorem ds_340 : La.2.1 340 = (100, 8) := (La_ds 340 (okl rfl)).trans (by decide +kernel)
theorem ds_341 : La.2.1 341 = (7, 0) := (La_ds 341 (okl rfl)).trans (by decide +kernel)
theorem oc_341 : (La.2.1 341).1 = 7 := by rw [ds_341]
theorem ds_342 : La.2.1 342 = (100, 8) := (La_ds 342 (okl rfl)).trans (by decide +kernel)
theorem ds_343 : La.2.1 343 = (4, 0) := (La_ds 343 (okl rfl)).trans (by decide +kernel)
theorem oc_343 : (La.2.1 343).1 = 4 := by rw [ds_343]
theorem ds_344 : La.2.1 344 = (7, 0) := (La_ds 344 (okl rfl)).trans (by decide +kernel)
theorem oc_344 : (La.2.1 344).1 = 7 := by rw [ds_344]
theorem ds_345 : La.2.1 345 = (100, 8) := (La_ds 345 (okl rfl)).trans (by decide +kernel)
theorem ds_346 : La.2.1 346 = (104, 8) := (La_ds 346 (okl rfl)).trans (by decide +kernel)
theorem ds_347 : La.2.1 347 = (100, 8) := (La_ds 347 (okl rfl)).trans (by decide +kernel)
theorem ds_348 : La.2.1 348 = (100, 8) := (La_ds 348 (okl rfl)).trans (by decide +kernel)
theorem ds_349 : La.2.1 349 = (100, 8) := (La_ds 349 (okl rfl)).trans (by decide +kernel)
theorem ds_350 : La.2.1 350 = (100, 8) := (La_ds 350 (okl rfl)).trans (by decide +kernel)
theorem ds_351 : La.2.1 351 = (7, 0) := (La_ds 351 (okl rfl)).trans (by decide +kernel)
theorem oc_351 : (La.2.1 351).1 = 7 := by rw [ds_351]
theorem ds_352 : La.2.1 352 = (100, 8) := (La_ds 352 (okl rfl)).trans (by decide +kernel)
theorem ds_353 : La.2.1 353 = (7, 0) := (La_ds 353 (okl rfl)).trans (by decide +kernel)
theorem oc_353 : (La.2.1 353).1 = 7 := by rw [ds_353]
theorem ds_354 : La.2.1 354 = (100, 8) := (La_ds 354 (okl rfl)).trans (by decide +kernel)
theorem ds_355 : La.2.1 355 = (7, 0) := (La_ds 355 (okl rfl)).trans (by decide +kernel)
theorem oc_355 : (La.2.1 355).1 = 7 := by rw [ds_355]
theorem ds_356 : La.2.1 356 = (100, 8) := (La_ds 356 (okl rfl)).trans (by decide +kernel)
theorem ds_357 : La.2.1 357 = (7, 0) := (La_ds 357 (okl rfl)).trans (by decide +kernel)
theorem oc_357 : (La.2.1 357).1 = 7 := by rw [ds_357]
theorem ds_358 : La.2.1 358 = (100, 8) := (La_ds 358 (okl rfl)).trans (by decide +kernel)
theorem ds_359 : La.2.1 359 = (7, 0) := (La_ds 359 (okl rfl)).trans (by decide +kernel)
theorem oc_359 : (La.2.1 359).1 = 7 := by rw [ds_359]
theorem ds_360 : La.2.1 360 = (100, 8) := (La_ds 360 (okl rfl)).trans (by decide +kernel)
theorem ds_361 : La.2.1 361 = (7, 0) := (La_ds 361 (okl rfl)).trans (by decide +kernel)
theorem oc_361 : (La.2.1 361).1 = 7 := by rw [ds_361]
theorem ds_362 : La.2.1 362 = (100, 8) := (La_ds 362 (okl rfl)).trans (by decide +kernel)
theorem ds_363 : La.2.1 363 = (7, 0) := (La_ds 363 (okl rfl)).trans (by decide +kernel)
theorem oc_363 : (La.2.1 363).1 = 7 := by rw [ds_363]
theorem ds_364 : La.2.1 364 = (100, 8) := (La_ds 364 (okl rfl)).trans (by decide +kernel)
theorem ds_365 : La.2.1 365 = (7, 0) := (La_ds 365 (okl rfl)).trans (by decide +kernel)
theorem oc_365 : (La.2.1 365).1 = 7 := by rw [ds_365]
theorem ds_366 : La.2.1 366 = (100, 8) := (La_ds 366 (okl rfl)).trans (by decide +kernel)
theorem ds_367 : La.2.1 367 = (4, 0) := (La_ds 367 (okl rfl)).trans (by decide +kernel)
theorem oc_367 : (La.2.1 367).1 = 4 := by rw [ds_367]
theorem ds_368 : La.2.1 368 = (7, 0) := (La_ds 368 (okl rfl)).trans (by decide +kernel)
theorem oc_368 : (La.2.1 368).1 = 7 := by rw [ds_368]
theorem ds_369 : La.2.1 369 = (100, 8) := (La_ds 369 (okl rfl)).trans (by decide +kernel)
theorem ds_370 : La.2.1 370 = (104, 8) := (La_ds 370 (okl rfl)).trans (by decide +kernel)
theorem ds_371 : La.2.1 371 = (100, 8) := (La_ds 371 (okl rfl)).trans (by decide +kernel)
theorem ds_372 : La.2.1 372 = (100, 8) := (La_ds 372 (okl rfl)).trans (by decide +kernel)
theorem ds_373 : La.2.1 373 = (100, 8) := (La_ds 373 (okl rfl)).trans (by decide +kernel)
theorem ds_374 : La.2.1 374 = (100, 8) := (La_ds 374 (okl rfl)).trans (by decide +kernel)
theorem ds_375 : La.2.1 375 = (7, 0) := (La_ds 375 (okl rfl)).trans (by decide +kernel)
theorem oc_375 : (La.2.1 375).1 = 7 := by rw [ds_375]
theorem ds_376 : La.2.1 376 = (100, 8) := (La_ds 376 (okl rfl)).trans (by decide +kernel)
theorem ds_377 : La.2.1 377 = (7, 0) := (La_ds 377 (okl rfl)).trans (by decide +kernel)
theorem oc_377 : (La.2.1 377).1 = 7 := by rw [ds_377]
theorem ds_378 : La.2.1 378 = (100, 8) := (La_ds 378 (okl rfl)).trans (by decide +kernel)
theorem ds_379 : La.2.1 379 = (7, 0) := (La_ds 379 (okl rfl)).trans (by decide +kernel)
theorem oc_379 : (La.2.1 379).1 = 7 := by rw [ds_379]
theorem ds_380 : La.2.1 380 = (100, 8) := (La_ds 380 (okl rfl)).trans (by decide +kernel)
theorem ds_381 : La.2.1 381 = (7, 0) := (La_ds 381 (okl rfl)).trans (by decide +kernel)
theorem oc_381 : (La.2.1 381).1 = 7 := by rw [ds_381]
theorem ds_382 : La.2.1 382 = (100, 8) := (La_ds 382 (okl rfl)).trans (by decide +kernel)
theorem ds_383 : La.2.1 383 = (7, 0) := (La_ds 383 (okl rfl)).trans (by decide +kernel)
theorem oc_383 : (La.2.1 383).1 = 7 := by rw [ds_383]
theorem ds_384 : La.2.1 384 = (100, 8) := (La_ds 384 (okl rfl)).trans (by decide +kernel)
theorem ds_385 : La.2.1 385 = (7, 0) := (La_ds 385 (okl rfl)).trans (by decide +kernel)
theorem oc_385 : (La.2.1 385).1 = 7 := by rw [ds_385]
theorem ds_386 : La.2.1 386 = (100, 8) := (La_ds 386 (okl rfl)).trans (by decide +kernel)
theorem ds_387 : La.2.1 387 = (7, 0) := (La_ds 387 (okl rfl)).trans (by decide +kernel)
theorem oc_387 : (La.2.1 387).1 = 7 := by rw [ds_387]
theorem ds_388 : La.2.1 388 = (100, 8) := (La_ds 388 (okl rfl)).trans (by decide +kernel)
theorem ds_389 : La.2.1 389 = (7, 0) := (La_ds 389 (okl rfl)).trans (by decide +kernel)
theorem oc_389 : (La.2.1 389).1 = 7 := by rw [ds_389]
theorem ds_390 : La.2.1 390 = (100, 8) := (La_ds 390 (okl rfl)).trans (by decide +kernel)
theorem ds_391 : La.2.1 391 = (4, 0) := (La_ds 391 (okl rfl)).trans (by decide +kernel)
theorem oc_391 : (La.2.1 391).1 = 4 := by rw [ds_391]
theorem ds_392 : La.2.1 392 = (7, 0) := (La_ds 392 (okl rfl)).trans (by decide +kernel)
theorem oc_392 : (La.2.1 392).1 = 7 := by rw [ds_392]
theorem ds_393 : La.2.1 393 = (100, 8) := (La_ds 393 (okl rfl)).trans (by decide +kernel)
theorem ds_394 : La.2.1 394 = (104, 8) := (La_ds 394 (okl rfl)).trans (by decide +kernel)
theorem ds_395 : La.2.1 395 = (100, 8) := (La_ds 395 (okl rfl)).trans (by decide +kernel)
theorem ds_396 : La.2.1 396 = (100, 8) := (La_ds 396 (okl rfl)).trans (by decide +kernel)
theorem ds_397 : La.2.1 397 = (100, 8) := (La_ds 397 (okl rfl)).trans (by decide +kernel)
theorem ds_398 : La.2.1 398 = (100, 8) := (La_ds 398 (okl rfl)).trans (by decide +kernel)
theorem ds_399 : La.2.1 399 = (7, 0) := (La_ds 399 (okl rfl)).trans (by decide +kernel)
theorem oc_399 : (La.2.1 399).1 = 7 := by rw [ds_399]
theorem ds_400 : La.2.1 400 = (100, 8) := (La_ds 400 (okl rfl)).trans (by decide +kernel)
theorem ds_401 : La.2.1 401 = (7, 0) := (La_ds 401 (okl rfl)).trans (by decide +kernel)
theorem oc_401 : (La.2.1 401).1 = 7 := by rw [ds_401]
theorem ds_402 : La.2.1 402 = (100, 8) := (La_ds 402 (okl rfl)).trans (by decide +kernel)
theorem ds_403 : La.2.1 403 = (7, 0) := (La_ds 403 (okl rfl)).trans (by decide +kernel)
theorem oc_403 : (La.2.1 403).1 = 7 := by rw [ds_403]
theorem ds_404 : La.2.1 404 = (100, 8) := (La_ds 404 (okl rfl)).trans (by decide +kernel)
theorem ds_405 : La.2.1 405 = (7, 0) := (La_ds 405 (okl rfl)).trans (by decide +kernel)
theorem oc_405 : (La.2.1 405).1 = 7 := by rw [ds_405]
theorem ds_406 : La.2.1 406 = (100, 8) := (La_ds 406 (okl rfl)).trans (by decide +kernel)
theorem ds_407 : La.2.1 407 = (7, 0) := (La_ds 407 (okl rfl)).trans (by decide +kernel)
theorem oc_407 : (La.2.1 407).1 = 7 := by rw [ds_407]
theorem ds_408 : La.2.1 408 = (100, 8) := (La_ds 408 (okl rfl)).trans (by decide +kernel)
theorem ds_409 : La.2.1 409 = (7, 0) := (La_ds 409 (okl rfl)).trans (by decide +kernel)
theorem oc_409 : (La.2.1 409).1 = 7 := by rw [ds_409]
theorem ds_410 : La.2.1 410 = (100, 8) := (La_ds 410 (okl rfl)).trans (by decide +kernel)
theorem ds_411 : La.2.1 411 = (7, 0) := (La_ds 411 (okl rfl)).trans (by decide +kernel)
theorem oc_411 : (La.2.1 411).1 = 7 := by rw [ds_411]
theorem ds_412 : La.2.1 412 = (100, 8) := (La_ds 412 (okl rfl)).trans (by decide +kernel)
theorem ds_413 : La.2.1 413 = (7, 0) := (La_ds 413 (okl rfl)).trans (by decide +kernel)
theorem oc_413 : (La.2.1 413).1 = 7 := by rw [ds_413]
theorem ds_414 : La.2.1 414 = (100, 8) := (La_ds 414 (okl rfl)).trans (by decide +kernel)
theorem ds_415 : La.2.1 415 = (4, 0) := (La_ds 415 (okl rfl)).trans (by decide +kernel)
theorem oc_415 : (La.2.1 415).1 = 4 := by rw [ds_415]
theorem ds_416 : La.2.1 416 = (7, 0) := (La_ds 416 (okl rfl)).trans (by decide +kernel)
theorem oc_416 : (La.2.1 416).1 = 7 := by rw [ds_416]
theorem ds_417 : La.2.1 417 = (100, 8) := (La_ds 417 (okl rfl)).trans (by decide +kernel)
theorem ds_418 : La.2.1 418 = (104, 8) := (La_ds 418 (okl rfl)).trans (by decide +kernel)
theorem ds_419 : La.2.1 419 = (100, 8) := (La_ds 419 (okl rfl)).trans (by decide +kernel)
theorem ds_420 : La.2.1 420 = (100, 8) := (La_ds 420 (okl rfl)).trans (by decide +kernel)
theorem ds_421 : La.2.1 421 = (100, 8) := (La_ds 421 (okl rfl)).trans (by decide +kernel)
theorem ds_422 : La.2.1 422 = (100, 8) := (La_ds 422 (okl rfl)).trans (by decide +kernel)
theorem ds_423 : La.2.1 423 = (7, 0) := (La_ds 423 (okl rfl)).trans (by decide +kernel)
theorem oc_423 : (La.2.1 423).1 = 7 := by rw [ds_423]
theorem ds_424 : La.2.1 424 = (100, 8) := (La_ds 424 (okl rfl)).trans (by decide +kernel)
theorem ds_425 : La.2.1 425 = (7, 0) := (La_ds 425 (okl rfl)).trans (by decide +kernel)
theorem oc_425 : (La.2.1 425).1 = 7 := by rw [ds_425]
theorem ds_426 : La.2.1 426 = (100, 8) := (La_ds 426 (okl rfl)).trans (by decide +kernel)
theorem ds_427 : La.2.1 427 = (7, 0) := (La_ds 427 (okl rfl)).trans (by decide +kernel)
theorem oc_427 : (La.2.1 427).1 = 7 := by rw [ds_427]
theorem ds_428 : La.2.1 428 = (100, 8) := (La_ds 428 (okl rfl)).trans (by decide +kernel)
theorem ds_429 : La.2.1 429 = (7, 0) := (La_ds 429 (okl rfl)).trans (by decide +kernel)
theorem oc_429 : (La.2.1 429).1 = 7 := by rw [ds_429]
theorem ds_430 : La.2.1 430 = (100, 8) := (La_ds 430 (okl rfl)).trans (by decide +kernel)
theorem ds_431 : La.2.1 431 = (7, 0) := (La_ds 431 (okl rfl)).trans (by decide +kernel)
theorem oc_431 : (La.2.1 431).1 = 7 := by rw [ds_431]
theorem ds_432 : La.2.1 432 = (100, 8) := (La_ds 432 (okl rfl)).trans (by decide +kernel)
theorem ds_433 : La.2.1 433 = (7, 0) := (La_ds 433 (okl rfl)).trans (by decide +kernel)
theorem oc_433 : (La.2.1 433).1 = 7 := by rw [ds_433]
theorem ds_434 : La.2.1 434 = (100, 8) := (La_ds 434 (okl rfl)).trans (by decide +kernel)
theorem ds_435 : La.2.1 435 = (7, 0) := (La_ds 435 (okl rfl)).trans (by decide +kernel)
theorem oc_435 : (La.2.1 435).1 = 7 := by rw [ds_435]
theorem ds_436 : La.2.1 436 = (100, 8) := (La_ds 436 (okl rfl)).trans (by decide +kernel)
theorem ds_437 : La.2.1 437 = (7, 0) := (La_ds 437 (okl rfl)).trans (by decide +kernel)
theorem oc_437 : (La.2.1 437).1 = 7 := by rw [ds_437]
theorem ds_438 : La.2.1 438 = (100, 8) := (La_ds 438 (okl rfl)).trans (by decide +kernel)
theorem ds_439 : La.2.1 439 = (4, 0) := (La_ds 439 (okl rfl)).trans (by decide +kernel)
theorem oc_439 : (La.2.1 439).1 = 4 := by rw [ds_439]
theorem ds_440 : La.2.1 440 = (7, 0) := (La_ds 440 (okl rfl)).trans (by decide +kernel)
theorem oc_440 : (La.2.1 440).1 = 7 := by rw [ds_440]
theorem ds_441 : La.2.1 441 = (100, 8) := (La_ds 441 (okl rfl)).trans (by decide +kernel)
theorem ds_442 : La.2.1 442 = (104, 8) := (La_ds 442 (okl rfl)).trans (by decide +kernel)
theorem ds_443 : La.2.1 443 = (100, 8) := (La_ds 443 (okl rfl)).trans (by decide +kernel)
theorem ds_444 : La.2.1 444 = (100, 8) := (La_ds 444 (okl rfl)).trans (by decide +kernel)
theorem ds_445 : La.2.1 445 = (100, 8) := (La_ds 445 (okl rfl)).trans (by decide +kernel)
theorem ds_446 : La.2.1 446 = (100, 8) := (La_ds 446 (okl rfl)).trans (by decide +kernel)
theorem ds_447 : La.2.1 447 = (7, 0) := (La_ds 447 (okl rfl)).trans (by decide +kernel)
theorem oc_447 : (La.2.1 447).1 = 7 := by rw [ds_447]
theorem ds_448 : La.2.1 448 = (100, 8) := (La_ds 448 (okl rfl)).trans (by decide +kernel)
theorem ds_449 : La.2.1 449 = (7, 0) := (La_ds 449 (okl rfl)).trans (by decide +kernel)
theorem oc_449 : (La.2.1 449).1 = 7 := by rw [ds_449]
theorem ds_450 : La.2.1 450 = (100, 8) := (La_ds 450 (okl rfl)).trans (by decide +kernel)
theorem ds_451 : La.2.1 451 = (7, 0) := (La_ds 451 (okl rfl)).trans (by decide +kernel)
theorem oc_451 : (La.2.1 451).1 = 7 := by rw [ds_451]
theorem ds_452 : La.2.1 452 = (100, 8) := (La_ds 452 (okl rfl)).trans (by decide +kernel)
theorem ds_453 : La.2.1 453 = (7, 0) := (La_ds 453 (okl rfl)).trans (by decide +kernel)
theorem oc_453 : (La.2.1 453).1 = 7 := by rw [ds_453]
theorem ds_454 : La.2.1 454 = (100, 8) := (La_ds 454 (okl rfl)).trans (by decide +kernel)
theorem ds_455 : La.2.1 455 = (7, 0) := (La_ds 455 (okl rfl)).trans (by decide +kernel)
theorem oc_455 : (La.2.1 455).1 = 7 := by rw [ds_455]
theorem ds_456 : La.2.1 456 = (100, 8) := (La_ds 456 (okl rfl)).trans (by decide +kernel)
theorem ds_457 : La.2.1 457 = (7, 0) := (La_ds 457 (okl rfl)).trans (by decide +kernel)
theorem oc_457 : (La.2.1 457).1 = 7 := by rw [ds_457]
theorem ds_458 : La.2.1 458 = (100, 8) := (La_ds 458 (okl rfl)).trans (by decide +kernel)
theorem ds_459 : La.2.1 459 = (7, 0) := (La_ds 459 (okl rfl)).trans (by decide +kernel)
theorem oc_459 : (La.2.1 459).1 = 7 := by rw [ds_459]
theorem ds_460 : La.2.1 460 = (100, 8) := (La_ds 460 (okl rfl)).trans (by decide +kernel)
theorem ds_461 : La.2.1 461 = (7, 0) := (La_ds 461 (okl rfl)).trans (by decide +kernel)
theorem oc_461 : (La.2.1 461).1 = 7 := by rw [ds_461]
theorem ds_462 : La.2.1 462 = (100, 8) := (La_ds 462 (okl rfl)).trans (by decide +kernel)
theorem ds_463 : La.2.1 463 = (4, 0) := (La_ds 463 (okl rfl)).trans (by decide +kernel)
theorem oc_463 : (La.2.1 463).1 = 4 := by rw [ds_463]
theorem ds_464 : La.2.1 464 = (7, 0) := (La_ds 464 (okl rfl)).trans (by decide +kernel)
theorem oc_464 : (La.2.1 464).1 = 7 := by rw [ds_464]
theorem ds_465 : La.2.1 465 = (100, 8) := (La_ds 465 (okl rfl)).trans (by decide +kernel)
theorem ds_466 : La.2.1 466 = (104, 8) := (La_ds 466 (okl rfl)).trans (by decide +kernel)
theorem ds_467 : La.2.1 467 = (100, 8) := (La_ds 467 (okl rfl)).trans (by decide +kernel)
theorem ds_468 : La.2.1 468 = (100, 8) := (La_ds 468 (okl rfl)).trans (by decide +kernel)
theorem ds_469 : La.2.1 469 = (100, 8) := (La_ds 469 (okl rfl)).trans (by decide +kernel)
theorem ds_470 : La.2.1 470 = (100, 8) := (La_ds 470 (okl rfl)).trans (by decide +kernel)
theorem ds_471 : La.2.1 471 = (7, 0) := (La_ds 471 (okl rfl)).trans (by decide +kernel)
theorem oc_471 : (La.2.1 471).1 = 7 := by rw [ds_471]
theorem ds_472 : La.2.1 472 = (100, 8) := (La_ds 472 (okl rfl)).trans (by decide +kernel)
theorem ds_473 : La.2.1 473 = (7, 0) := (La_ds 473 (okl rfl)).trans (by decide +kernel)
theorem oc_473 : (La.2.1 473).1 = 7 := by rw [ds_473]
theorem ds_474 : La.2.1 474 = (100, 8) := (La_ds 474 (okl rfl)).trans (by decide +kernel)
theorem ds_475 : La.2.1 475 = (7, 0) := (La_ds 475 (okl rfl)).trans (by decide +kernel)
theorem oc_475 : (La.2.1 475).1 = 7 := by rw [ds_475]
theorem ds_476 : La.2.1 476 = (100, 8) := (La_ds 476 (okl rfl)).trans (by decide +kernel)
theorem ds_477 : La.2.1 477 = (7, 0) := (La_ds 477 (okl rfl)).trans (by decide +kernel)
theorem oc_477 : (La.2.1 477).1 = 7 := by rw [ds_477]
theorem ds_478 : La.2.1 478 = (100, 8) := (La_ds 478 (okl rfl)).trans (by decide +kernel)
theorem ds_479 : La.2.1 479 = (7, 0) := (La_ds 479 (okl rfl)).trans (by decide +kernel)
theorem oc_479 : (La.2.1 479).1 = 7 := by rw [ds_479]
theorem ds_480 : La.2.1 480 = (100, 8) := (La_ds 480 (okl rfl)).trans (by decide +kernel)
theorem ds_481 : La.2.1 481 = (7, 0) := (La_ds 481 (okl rfl)).trans (by decide +kernel)
theorem oc_481 : (La.2.1 481).1 = 7 := by rw [ds_481]
theorem ds_482 : La.2.1 482 = (100, 8) := (La_ds 482 (okl rfl)).trans (by decide +kernel)
theorem ds_483 : La.2.1 483 = (7, 0) := (La_ds 483 (okl rfl)).trans (by decide +kernel)
theorem oc_483 : (La.2.1 483).1 = 7 := by rw [ds_483]
theorem ds_484 : La.2.1 484 = (100, 8) := (La_ds 484 (okl rfl)).trans (by decide +kernel)
theorem ds_485 : La.2.1 485 = (7, 0) := (La_ds 485 (okl rfl)).trans (by decide +kernel)
theorem oc_485 : (La.2.1 485).1 = 7 := by rw [ds_485]
theorem ds_486 : La.2.1 486 = (100, 8) := (La_ds 486 (okl rfl)).trans (by decide +kernel)
theorem ds_487 : La.2.1 487 = (4, 0) := (La_ds 487 (okl rfl)).trans (by decide +kernel)
theorem oc_487 : (La.2.1 487).1 = 4 := by rw [ds_487]
theorem ds_488 : La.2.1 488 = (7, 0) := (La_ds 488 (okl rfl)).trans (by decide +kernel)
theorem oc_488 : (La.2.1 488).1 = 7 := by rw [ds_488]
theorem ds_489 : La.2.1 489 = (100, 8) := (La_ds 489 (okl rfl)).trans (by decide +kernel)
theorem ds_490 : La.2.1 490 = (104, 8) := (La_ds 490 (okl rfl)).trans (by decide +kernel)
theorem ds_491 : La.2.1 491 = (100, 8) := (La_ds 491 (okl rfl)).trans (by decide +kernel)
theorem ds_492 : La.2.1 492 = (100, 8) := (La_ds 492 (okl rfl)).trans (by decide +kernel)
theorem ds_493 : La.2.1 493 = (100, 8) := (La_ds 493 (okl rfl)).trans (by decide +kernel)
theorem ds_494 : La.2.1 494 = (100, 8) := (La_ds 494 (okl rfl)).trans (by decide +kernel)
theorem ds_495 : La.2.1 495 = (7, 0) := (La_ds 495 (okl rfl)).trans (by decide +kernel)
theorem oc_495 : (La.2.1 495).1 = 7 := by rw [ds_495]
theorem ds_496 : La.2.1 496 = (100, 8) := (La_ds 496 (okl rfl)).trans (by decide +kernel)
theorem ds_497 : La.2.1 497 = (7, 0) := (La_ds 497 (okl rfl)).trans (by decide +kernel)
theorem oc_497 : (La.2.1 497).1 = 7 := by rw [ds_497]
theorem ds_498 : La.2.1 498 = (100, 8) := (La_ds 498 (okl rfl)).trans (by decide +kernel)
theorem ds_499 : La.2.1 499 = (7, 0) := (La_ds 499 (okl rfl)).trans (by decide +kernel)
theorem oc_499 : (La.2.1 499).1 = 7 := by rw [ds_499]
theorem ds_500 : La.2.1 500 = (100, 8) := (La_ds 500 (okl rfl)).trans (by decide +kernel)
theorem ds_501 : La.2.1 501 = (7, 0) := (La_ds 501 (okl rfl)).trans (by decide +kernel)
theorem oc_501 : (La.2.1 501).1 = 7 := by rw [ds_501]
theorem ds_502 : La.2.1 502 = (100, 8) := (La_ds 502 (okl rfl)).trans (by decide +kernel)
theorem ds_503 : La.2.1 503 = (7, 0) := (La_ds 503 (okl rfl)).trans (by decide +kernel)
theorem oc_503 : (La.2.1 503).1 = 7 := by rw [ds_503]
theorem ds_504 : La.2.1 504 = (100, 8) := (La_ds 504 (okl rfl)).trans (by decide +kernel)
theorem ds_505 : La.2.1 505 = (7, 0) := (La_ds 505 (okl rfl)).trans (by decide +kernel)
theorem oc_505 : (La.2.1 505).1 = 7 := by rw [ds_505]
theorem ds_506 : La.2.1 506 = (100, 8) := (La_ds 506 (okl rfl)).trans (by decide +kernel)
theorem ds_507 : La.2.1 507 = (7, 0) := (La_ds 507 (okl rfl)).trans (by decide +kernel)
theorem oc_507 : (La.2.1 507).1 = 7 := by rw [ds_507]
theorem ds_508 : La.2.1 508 = (100, 8) := (La_ds 508 (okl rfl)).trans (by decide +kernel)
theorem ds_509 : La.2.1 509 = (7, 0) := (La_ds 509 (okl rfl)).trans (by decide +kernel)
theorem oc_509 : (La.2.1 509).1 = 7 := by rw [ds_509]
theorem ds_510 : La.2.1 510 = (100, 8) := (La_ds 510 (okl rfl)).trans (by decide +kernel)
theorem ds_511 : La.2.1 511 = (4, 0) := (La_ds 511 (okl rfl)).trans (by decide +kernel)
theorem oc_511 : (La.2.1 511).1 = 4 := by rw [ds_511]
theorem ds_512 : La.2.1 512 = (7, 0) := (La_ds 512 (okl rfl)).trans (by decide +kernel)
theorem oc_512 : (La.2.1 512).1 = 7 := by rw [ds_512]
theorem ds_513 : La.2.1 513 = (100, 8) := (La_ds 513 (okl rfl)).trans (by decide +kernel)
theorem ds_514 : La.2.1 514 = (104, 8) := (La_ds 514 (okl rfl)).trans (by decide +kernel)
theorem ds_515 : La.2.1 515 = (100, 8) := (La_ds 515 (okl rfl)).trans (by decide +kernel)
theorem ds_516 : La.2.1 516 = (100, 8) := (La_ds 516 (okl rfl)).trans (by decide +kernel)
theorem ds_517 : La.2.1 517 = (100, 8) := (La_ds 517 (okl rfl)).trans (by decide +kernel)
theorem ds_518 : La.2.1 518 = (100, 8) := (La_ds 518 (okl rfl)).trans (by decide +kernel)
theorem ds_519 : La.2.1 519 = (7, 0) := (La_ds 519 (okl rfl)).trans (by decide +kernel)
theorem oc_519 : (La.2.1 519).1 = 7 := by rw [ds_519]
theorem ds_520 : La.2.1 520 = (100, 8) := (La_ds 520 (okl rfl)).trans (by decide +kernel)
theorem ds_521 : La.2.1 521 = (7, 0) := (La_ds 521 (okl rfl)).trans (by decide +kernel)
theorem oc_521 : (La.2.1 521).1 = 7 := by rw [ds_521]
theorem ds_522 : La.2.1 522 = (100, 8) := (La_ds 522 (okl rfl)).trans (by decide +kernel)
theorem ds_523 : La.2.1 523 = (7, 0) := (La_ds 523 (okl rfl)).trans (by decide +kernel)
theorem oc_523 : (La.2.1 523).1 = 7 := by rw [ds_523]
theorem ds_524 : La.2.1 524 = (100, 8) := (La_ds 524 (okl rfl)).trans (by decide +kernel)
theorem ds_525 : La.2.1 525 = (7, 0) := (La_ds 525 (okl rfl)).trans (by decide +kernel)
theorem oc_525 : (La.2.1 525).1 = 7 := by rw [ds_525]
theorem ds_526 : La.2.1 526 = (100, 8) := (La_ds 526 (okl rfl)).trans (by decide +kernel)
theorem ds_527 : La.2.1 527 = (7, 0) := (La_ds 527 (okl rfl)).trans (by decide +kernel)
theorem oc_527 : (La.2.1 527).1 = 7 := by rw [ds_527]
theorem ds_528 : La.2.1 528 = (100, 8) := (La_ds 528 (okl rfl)).trans (by decide +kernel)
theorem ds_529 : La.2.1 529 = (7, 0) := (La_ds 529 (okl rfl)).trans (by decide +kernel)
theorem oc_529 : (La.2.1 529).1 = 7 := by rw [ds_529]
theorem ds_530 : La.2.1 530 = (100, 8) := (La_ds 530 (okl rfl)).trans (by decide +kernel)
theorem ds_531 : La.2.1 531 = (7, 0) := (La_ds 531 (okl rfl)).trans (by decide +kernel)
theorem oc_531 : (La.2.1 531).1 = 7 := by rw [ds_531]
theorem ds_532 : La.2.1 532 = (100, 8) := (La_ds 532 (okl rfl)).trans (by decide +kernel)
theorem ds_533 : La.2.1 533 = (7, 0) := (La_ds 533 (okl rfl)).trans (by decide +kernel)
theorem oc_533 : (La.2.1 533).1 = 7 := by rw [ds_533]
theorem ds_534 : La.2.1 534 = (100, 8) := (La_ds 534 (okl rfl)).trans (by decide +kernel)
theorem ds_535 : La.2.1 535 = (4, 0) := (La_ds 535 (okl rfl)).trans (by decide +kernel)
theorem oc_535 : (La.2.1 535).1 = 4 := by rw [ds_535]
theorem ds_536 : La.2.1 536 = (7, 0) := (La_ds 536 (okl rfl)).trans (by decide +kernel)
theorem oc_536 : (La.2.1 536).1 = 7 := by rw [ds_536]
theorem ds_537 : La.2.1 537 = (100, 8) := (La_ds 537 (okl rfl)).trans (by decide +kernel)
theorem ds_538 : La.2.1 538 = (104, 8) := (La_ds 538 (okl rfl)).trans (by decide +kernel)
theorem ds_539 : La.2.1 539 = (100, 8) := (La_ds 539 (okl rfl)).trans (by decide +kernel)
theorem ds_540 : La.2.1 540 = (100, 8) := (La_ds 540 (okl rfl)).trans (by decide +kernel)
theorem ds_541 : La.2.1 541 = (100, 8) := (La_ds 541 (okl rfl)).trans (by decide +kernel)
theorem ds_542 : La.2.1 542 = (100, 8) := (La_ds 542 (okl rfl)).trans (by decide +kernel)
theorem ds_543 : La.2.1 543 = (7, 0) := (La_ds 543 (okl rfl)).trans (by decide +kernel)
theorem oc_543 : (La.2.1 543).1 = 7 := by rw [ds_543]
theorem ds_544 : La.2.1 544 = (100, 8) := (La_ds 544 (okl rfl)).trans (by decide +kernel)
theorem ds_545 : La.2.1 545 = (7, 0) := (La_ds 545 (okl rfl)).trans (by decide +kernel)
theorem oc_545 : (La.2.1 545).1 = 7 := by rw [ds_545]
theorem ds_546 : La.2.1 546 = (100, 8) := (La_ds 546 (okl rfl)).trans (by decide +kernel)
theorem ds_547 : La.2.1 547 = (7, 0) := (La_ds 547 (okl rfl)).trans (by decide +kernel)
theorem oc_547 : (La.2.1 547).1 = 7 := by rw [ds_547]
theorem ds_548 : La.2.1 548 = (100, 8) := (La_ds 548 (okl rfl)).trans (by decide +kernel)
theorem ds_549 : La.2.1 549 = (7, 0) := (La_ds 549 (okl rfl)).trans (by decide +kernel)
theorem oc_549 : (La.2.1 549).1 = 7 := by rw [ds_549]
theorem ds_550 : La.2.1 550 = (100, 8) := (La_ds 550 (okl rfl)).trans (by decide +kernel)
theorem ds_551 : La.2.1 551 = (7, 0) := (La_ds 551 (okl rfl)).trans (by decide +kernel)
theorem oc_551 : (La.2.1 551).1 = 7 := by rw [ds_551]
theorem ds_552 : La.2.1 552 = (100, 8) := (La_ds 552 (okl rfl)).trans (by decide +kernel)
theorem ds_553 : La.2.1 553 = (7, 0) := (La_ds 553 (okl rfl)).trans (by decide +kernel)
theorem oc_553 : (La.2.1 553).1 = 7 := by rw [ds_553]
theorem ds_554 : La.2.1 554 = (100, 8) := (La_ds 554 (okl rfl)).trans (by decide +kernel)
theorem ds_555 : La.2.1 555 = (7, 0) := (La_ds 555 (okl rfl)).trans (by decide +kernel)
theorem oc_555 : (La.2.1 555).1 = 7 := by rw [ds_555]
theorem ds_556 : La.2.1 556 = (100, 8) := (La_ds 556 (okl rfl)).trans (by decide +kernel)
theorem ds_557 : La.2.1 557 = (7, 0) := (La_ds 557 (okl rfl)).trans (by decide +kernel)
theorem oc_557 : (La.2.1 557).1 = 7 := by rw [ds_557]
theorem ds_558 : La.2.1 558 = (100, 8) := (La_ds 558 (okl rfl)).trans (by decide +kernel)
theorem ds_559 : La.2.1 559 = (12, 0) := (La_ds 559 (okl rfl)).trans (by decide +kernel)
theorem oc_559 : (La.2.1 559).1 = 12 := by rw [ds_559]
theorem ds_560 : La.2.1 560 = (101, 2000) := (La_ds 560 (okl rfl)).trans (by decide +kernel)
theorem ds_561 : La.2.1 561 = (101, 2000) := (La_ds 561 (okl rfl)).trans (by decide +kernel)
theorem ds_562 : La.2.1 562 = (100, 403) := (La_ds 562 (okl rfl)).trans (by decide +kernel)
theorem ds_563 : La.2.1 563 = (100, 403) := (La_ds 563 (okl rfl)).trans (by decide +kernel)
theorem ds_564 : La.2.1 564 = (100, 403) := (La_ds 564 (okl rfl)).trans (by decide +kernel)
theorem ds_565 : La.2.1 565 = (103, 403) := (La_ds 565 (okl rfl)).trans (by decide +kernel)
theorem ds_566 : La.2.1 566 = (103, 10) := (La_ds 566 (okl rfl)).trans (by decide +kernel)
theorem ds_567 : La.2.1 567 = (102, 14336) := (La_ds 567 (okl rfl)).trans (by decide +kernel)
theorem ds_568 : La.2.1 568 = (100, 2) := (La_ds 568 (okl rfl)).trans (by decide +kernel)
theorem ds_569 : La.2.1 569 = (100, 2) := (La_ds 569 (okl rfl)).trans (by decide +kernel)
theorem ds_570 : La.2.1 570 = (103, 14) := (La_ds 570 (okl rfl)).trans (by decide +kernel)
theorem ds_571 : La.2.1 571 = (100, 14) := (La_ds 571 (okl rfl)).trans (by decide +kernel)
theorem ds_572 : La.2.1 572 = (102, 14) := (La_ds 572 (okl rfl)).trans (by decide +kernel)
theorem ds_573 : La.2.1 573 = (100, 14) := (La_ds 573 (okl rfl)).trans (by decide +kernel)
theorem ds_574 : La.2.1 574 = (100, 15) := (La_ds 574 (okl rfl)).trans (by decide +kernel)
theorem ds_575 : La.2.1 575 = (100, 500) := (La_ds 575 (okl rfl)).trans (by decide +kernel)
theorem ds_576 : La.2.1 576 = (100, 500) := (La_ds 576 (okl rfl)).trans (by decide +kernel)
theorem ds_577 : La.2.1 577 = (100, 500) := (La_ds 577 (okl rfl)).trans (by decide +kernel)
theorem ds_578 : La.2.1 578 = (100, 500) := (La_ds 578 (okl rfl)).trans (by decide +kernel)
theorem ds_579 : La.2.1 579 = (100, 500) := (La_ds 579 (okl rfl)).trans (by decide +kernel)
theorem ds_580 : La.2.1 580 = (100, 500) := (La_ds 580 (okl rfl)).trans (by decide +kernel)
theorem ds_581 : La.2.1 581 = (100, 420) := (La_ds 581 (okl rfl)).trans (by decide +kernel)
theorem ds_582 : La.2.1 582 = (100, 420) := (La_ds 582 (okl rfl)).trans (by decide +kernel)
theorem ds_583 : La.2.1 583 = (100, 420) := (La_ds 583 (okl rfl)).trans (by decide +kernel)
theorem ds_584 : La.2.1 584 = (100, 420) := (La_ds 584 (okl rfl)).trans (by decide +kernel)
theorem ds_585 : La.2.1 585 = (100, 256) := (La_ds 585 (okl rfl)).trans (by decide +kernel)
theorem ds_586 : La.2.1 586 = (102, 256) := (La_ds 586 (okl rfl)).trans (by decide +kernel)
theorem ds_587 : La.2.1 587 = (102, 8) := (La_ds 587 (okl rfl)).trans (by decide +kernel)
theorem ds_588 : La.2.1 588 = (100, 64) := (La_ds 588 (okl rfl)).trans (by decide +kernel)
theorem ds_589 : La.2.1 589 = (100, 16384) := (La_ds 589 (okl rfl)).trans (by decide +kernel)
theorem ds_590 : La.2.1 590 = (102, 64) := (La_ds 590 (okl rfl)).trans (by decide +kernel)
theorem ds_591 : La.2.1 591 = (102, 256) := (La_ds 591 (okl rfl)).trans (by decide +kernel)
theorem ds_592 : La.2.1 592 = (100, 9) := (La_ds 592 (okl rfl)).trans (by decide +kernel)
theorem ds_593 : La.2.1 593 = (100, 9) := (La_ds 593 (okl rfl)).trans (by decide +kernel)
theorem ds_594 : La.2.1 594 = (100, 9) := (La_ds 594 (okl rfl)).trans (by decide +kernel)
theorem ds_595 : La.2.1 595 = (100, 9) := (La_ds 595 (okl rfl)).trans (by decide +kernel)
theorem ds_596 : La.2.1 596 = (100, 8) := (La_ds 596 (okl rfl)).trans (by decide +kernel)
theorem ds_597 : La.2.1 597 = (100, 8) := (La_ds 597 (okl rfl)).trans (by decide +kernel)
theorem ds_598 : La.2.1 598 = (100, 8) := (La_ds 598 (okl rfl)).trans (by decide +kernel)
theorem ds_599 : La.2.1 599 = (100, 8) := (La_ds 599 (okl rfl)).trans (by decide +kernel)
theorem ds_600 : La.2.1 600 = (100, 8) := (La_ds 600 (okl rfl)).trans (by decide +kernel)
theorem ds_601 : La.2.1 601 = (100, 8) := (La_ds 601 (okl rfl)).trans (by decide +kernel)
theorem ds_602 : La.2.1 602 = (100, 8) := (La_ds 602 (okl rfl)).trans (by decide +kernel)
theorem ds_603 : La.2.1 603 = (102, 2048) := (La_ds 603 (okl rfl)).trans (by decide +kernel)
theorem ds_604 : La.2.1 604 = (100, 60) := (La_ds 604 (okl rfl)).trans (by decide +kernel)
theorem ds_605 : La.2.1 605 = (100, 60) := (La_ds 605 (okl rfl)).trans (by decide +kernel)
theorem ds_606 : La.2.1 606 = (100, 60) := (La_ds 606 (okl rfl)).trans (by decide +kernel)
theorem ds_607 : La.2.1 607 = (100, 60) := (La_ds 607 (okl rfl)).trans (by decide +kernel)
theorem ds_608 : La.2.1 608 = (100, 60) := (La_ds 608 (okl rfl)).trans (by decide +kernel)
theorem ds_609 : La.2.1 609 = (102, 122880) := (La_ds 609 (okl rfl)).trans (by decide +kernel)
theorem rf_0_0 {mi : IM} {ml : JM} : gR 11 0 0 (K mi ml) = some 1 := gR_K oc_0 ((La_rf 0 (okl rfl) 0 (by decide +kernel)).trans (by decide +kernel))
theorem rf_0_3 {mi : IM} {ml : JM} : gR 11 3 0 (K mi ml) = some 2 := gR_K oc_0 ((La_rf 0 (okl rfl) 3 (by decide +kernel)).trans (by decide +kernel))
theorem rf_0_4 {mi : IM} {ml : JM} : gR 11 4 0 (K mi ml) = some 3 := gR_K oc_0 ((La_rf 0 (okl rfl) 4 (by decide +kernel)).trans (by decide +kernel))
theorem rf_0_7 {mi : IM} {ml : JM} : gR 11 7 0 (K mi ml) = some 4 := gR_K oc_0 ((La_rf 0 (okl rfl) 7 (by decide +kernel)).trans (by decide +kernel))
theorem rf_0_8 {mi : IM} {ml : JM} : gR 11 8 0 (K mi ml) = some 9 := gR_K oc_0 ((La_rf 0 (okl rfl) 8 (by decide +kernel)).trans (by decide +kernel))
theorem rf_0_9 {mi : IM} {ml : JM} : gR 11 9 0 (K mi ml) = some 10 := gR_K oc_0 ((La_rf 0 (okl rfl) 9 (by decide +kernel)).trans (by decide +kernel))
theorem rf_0_10 {mi : IM} {ml : JM} : gR 11 10 0 (K mi ml) = some 12 := gR_K oc_0 ((La_rf 0 (okl rfl) 10 (by decide +kernel)).trans (by decide +kernel))
theorem rf_0_11 {mi : IM} {ml : JM} : gR 11 11 0 (K mi ml) = some 77 := gR_K oc_0 ((La_rf 0 (okl rfl) 11 (by decide +kernel)).trans (by decide +kernel))
theorem rf_0_12 {mi : IM} {ml : JM} : gR 11 12 0 (K mi ml) = some 81 := gR_K oc_0 ((La_rf 0 (okl rfl) 12 (by decide +kernel)).trans (by decide +kernel))
theorem rf_0_13 {mi : IM} {ml : JM} : gR 11 13 0 (K mi ml) = some 94 := gR_K oc_0 ((La_rf 0 (okl rfl) 13 (by decide +kernel)).trans (by decide +kernel))
theorem rf_0_14 {mi : IM} {ml : JM} : gR 11 14 0 (K mi ml) = some 129 := gR_K oc_0 ((La_rf 0 (okl rfl) 14 (by decide +kernel)).trans (by decide +kernel))
theorem rf_0_15 {mi : IM} {ml : JM} : gR 11 15 0 (K mi ml) = some 154 := gR_K oc_0 ((La_rf 0 (okl rfl) 15 (by decide +kernel)).trans (by decide +kernel))
theorem rf_0_16 {mi : IM} {ml : JM} : gR 11 16 0 (K mi ml) = some 221 := gR_K oc_0 ((La_rf 0 (okl rfl) 16 (by decide +kernel)).trans (by decide +kernel))
theorem rf_4_0 {mi : IM} {ml : JM} : gR 10 0 4 (K mi ml) = some 5 := gR_K oc_4 ((La_rf 4 (okl rfl) 0 (by decide +kernel)).trans (by decide +kernel))
theorem rf_4_1 {mi : IM} {ml : JM} : gR 10 1 4 (K mi ml) = some 6 := gR_K oc_4 ((La_rf 4 (okl rfl) 1 (by decide +kernel)).trans (by decide +kernel))
theorem rf_4_2 {mi : IM} {ml : JM} : gR 10 2 4 (K mi ml) = some 7 := gR_K oc_4 ((La_rf 4 (okl rfl) 2 (by decide +kernel)).trans (by decide +kernel))
theorem rf_4_7 {mi : IM} {ml : JM} : gR 10 7 4 (K mi ml) = some 8 := gR_K oc_4 ((La_rf 4 (okl rfl) 7 (by decide +kernel)).trans (by decide +kernel))
theorem rf_10_0 {mi : IM} {ml : JM} : gR 5 0 10 (K mi ml) = some 11 := gR_K oc_10 ((La_rf 10 (okl rfl) 0 (by decide +kernel)).trans (by decide +kernel))
theorem rf_12_0 {mi : IM} {ml : JM} : gR 1 0 12 (K mi ml) = some 13 := gR_K oc_12 ((La_rf 12 (okl rfl) 0 (by decide +kernel)).trans (by decide +kernel))
theorem rf_12_1 {mi : IM} {ml : JM} : gR 1 1 12 (K mi ml) = some 14 := gR_K oc_12 ((La_rf 12 (okl rfl) 1 (by decide +kernel)).trans (by decide +kernel))
theorem rf_12_3 {mi : IM} {ml : JM} : gR 1 3 12 (K mi ml) = some 15 := gR_K oc_12 ((La_rf 12 (okl rfl) 3 (by decide +kernel)).trans (by decide +kernel))
theorem rf_12_4 {mi : IM} {ml : JM} : gR 1 4 12 (K mi ml) = some 16 := gR_K oc_12 ((La_rf 12 (okl rfl) 4 (by decide +kernel)).trans (by decide +kernel))
theorem rf_12_5 {mi : IM} {ml : JM} : gR 1 5 12 (K mi ml) = some 17 := gR_K oc_12 ((La_rf 12 (okl rfl) 5 (by decide +kernel)).trans (by decide +kernel))
theorem rf_12_6 {mi : IM} {ml : JM} : gR 1 6 12 (K mi ml) = some 18 := gR_K oc_12 ((La_rf 12 (okl rfl) 6 (by decide +kernel)).trans (by decide +kernel))
theorem rf_12_7 {mi : IM} {ml : JM} : gR 1 7 12 (K mi ml) = some 20 := gR_K oc_12 ((La_rf 12 (okl rfl) 7 (by decide +kernel)).trans (by decide +kernel))
theorem rf_12_9 {mi : IM} {ml : JM} : gR 1 9 12 (K mi ml) = some 4 := gR_K oc_12 ((La_rf 12 (okl rfl) 9 (by decide +kernel)).trans (by decide +kernel))
theorem rf_77_0 {mi : IM} {ml : JM} : gR 6 0 77 (K mi ml) = some 78 := gR_K oc_77 ((La_rf 77 (okl rfl) 0 (by decide +kernel)).trans (by decide +kernel))
theorem rf_77_1 {mi : IM} {ml : JM} : gR 6 1 77 (K mi ml) = some 80 := gR_K oc_77 ((La_rf 77 (okl rfl) 1 (by decide +kernel)).trans (by decide +kernel))
theorem rf_81_1 {mi : IM} {ml : JM} : gR 3 1 81 (K mi ml) = some 2 := gR_K oc_81 ((La_rf 81 (okl rfl) 1 (by decide +kernel)).trans (by decide +kernel))
theorem rf_81_2 {mi : IM} {ml : JM} : gR 3 2 81 (K mi ml) = some 82 := gR_K oc_81 ((La_rf 81 (okl rfl) 2 (by decide +kernel)).trans (by decide +kernel))
theorem rf_81_7 {mi : IM} {ml : JM} : gR 3 7 81 (K mi ml) = some 84 := gR_K oc_81 ((La_rf 81 (okl rfl) 7 (by decide +kernel)).trans (by decide +kernel))
theorem rf_81_8 {mi : IM} {ml : JM} : gR 3 8 81 (K mi ml) = some 85 := gR_K oc_81 ((La_rf 81 (okl rfl) 8 (by decide +kernel)).trans (by decide +kernel))
theorem rf_81_10 {mi : IM} {ml : JM} : gR 3 10 81 (K mi ml) = some 86 := gR_K oc_81 ((La_rf 81 (okl rfl) 10 (by decide +kernel)).trans (by decide +kernel))
theorem rf_81_11 {mi : IM} {ml : JM} : gR 3 11 81 (K mi ml) = some 87 := gR_K oc_81 ((La_rf 81 (okl rfl) 11 (by decide +kernel)).trans (by decide +kernel))
theorem rf_94_4 {mi : IM} {ml : JM} : gR 2 4 94 (K mi ml) = some 95 := gR_K oc_94 ((La_rf 94 (okl rfl) 4 (by decide +kernel)).trans (by decide +kernel))
theorem rf_94_5 {mi : IM} {ml : JM} : gR 2 5 94 (K mi ml) = some 97 := gR_K oc_94 ((La_rf 94 (okl rfl) 5 (by decide +kernel)).trans (by decide +kernel))
theorem rf_94_6 {mi : IM} {ml : JM} : gR 2 6 94 (K mi ml) = some 99 := gR_K oc_94 ((La_rf 94 (okl rfl) 6 (by decide +kernel)).trans (by decide +kernel))
theorem rf_94_7 {mi : IM} {ml : JM} : gR 2 7 94 (K mi ml) = some 101 := gR_K oc_94 ((La_rf 94 (okl rfl) 7 (by decide +kernel)).trans (by decide +kernel))
theorem rf_94_8 {mi : IM} {ml : JM} : gR 2 8 94 (K mi ml) = some 103 := gR_K oc_94 ((La_rf 94 (okl rfl) 8 (by decide +kernel)).trans (by decide +kernel))
theorem rf_94_9 {mi : IM} {ml : JM} : gR 2 9 94 (K mi ml) = some 105 := gR_K oc_94 ((La_rf 94 (okl rfl) 9 (by decide +kernel)).trans (by decide +kernel))
theorem rf_129_0 {mi : IM} {ml : JM} : gR 9 0 129 (K mi ml) = some 130 := gR_K oc_129 ((La_rf 129 (okl rfl) 0 (by decide +kernel)).trans (by decide +kernel))
theorem rf_129_1 {mi : IM} {ml : JM} : gR 9 1 129 (K mi ml) = some 131 := gR_K oc_129 ((La_rf 129 (okl rfl) 1 (by decide +kernel)).trans (by decide +kernel))
theorem rf_129_2 {mi : IM} {ml : JM} : gR 9 2 129 (K mi ml) = some 132 := gR_K oc_129 ((La_rf 129 (okl rfl) 2 (by decide +kernel)).trans (by decide +kernel))
theorem rf_129_3 {mi : IM} {ml : JM} : gR 9 3 129 (K mi ml) = some 134 := gR_K oc_129 ((La_rf 129 (okl rfl) 3 (by decide +kernel)).trans (by decide +kernel))
theorem rf_129_4 {mi : IM} {ml : JM} : gR 9 4 129 (K mi ml) = some 136 := gR_K oc_129 ((La_rf 129 (okl rfl) 4 (by decide +kernel)).trans (by decide +kernel))
theorem rf_154_1 {mi : IM} {ml : JM} : gR 0 1 154 (K mi ml) = some 155 := gR_K oc_154 ((La_rf 154 (okl rfl) 1 (by decide +kernel)).trans (by decide +kernel))
theorem rf_154_2 {mi : IM} {ml : JM} : gR 0 2 154 (K mi ml) = some 156 := gR_K oc_154 ((La_rf 154 (okl rfl) 2 (by decide +kernel)).trans (by decide +kernel))
theorem rf_154_3 {mi : IM} {ml : JM} : gR 0 3 154 (K mi ml) = some 157 := gR_K oc_154 ((La_rf 154 (okl rfl) 3 (by decide +kernel)).trans (by decide +kernel))
theorem rf_154_4 {mi : IM} {ml : JM} : gR 0 4 154 (K mi ml) = some 158 := gR_K oc_154 ((La_rf 154 (okl rfl) 4 (by decide +kernel)).trans (by decide +kernel))
theorem rf_154_5 {mi : IM} {ml : JM} : gR 0 5 154 (K mi ml) = some 159 := gR_K oc_154 ((La_rf 154 (okl rfl) 5 (by decide +kernel)).trans (by decide +kernel))
theorem rf_154_6 {mi : IM} {ml : JM} : gR 0 6 154 (K mi ml) = some 220 := gR_K oc_154 ((La_rf 154 (okl rfl) 6 (by decide +kernel)).trans (by decide +kernel))
theorem rf_559_1 {mi : IM} {ml : JM} : gR 12 1 559 (K mi ml) = some 560 := gR_K oc_559 ((La_rf 559 (okl rfl) 1 (by decide +kernel)).trans (by decide +kernel))
theorem rf_559_3 {mi : IM} {ml : JM} : gR 12 3 559 (K mi ml) = some 561 := gR_K oc_559 ((La_rf 559 (okl rfl) 3 (by decide +kernel)).trans (by decide +kernel))
theorem rf_559_5 {mi : IM} {ml : JM} : gR 12 5 559 (K mi ml) = some 562 := gR_K oc_559 ((La_rf 559 (okl rfl) 5 (by decide +kernel)).trans (by decide +kernel))
theorem rf_559_6 {mi : IM} {ml : JM} : gR 12 6 559 (K mi ml) = some 563 := gR_K oc_559 ((La_rf 559 (okl rfl) 6 (by decide +kernel)).trans (by decide +kernel))
theorem rf_559_7 {mi : IM} {ml : JM} : gR 12 7 559 (K mi ml) = some 564 := gR_K oc_559 ((La_rf 559 (okl rfl) 7 (by decide +kernel)).trans (by decide +kernel))
theorem rf_559_8 {mi : IM} {ml : JM} : gR 12 8 559 (K mi ml) = some 565 := gR_K oc_559 ((La_rf 559 (okl rfl) 8 (by decide +kernel)).trans (by decide +kernel))
theorem rf_559_9 {mi : IM} {ml : JM} : gR 12 9 559 (K mi ml) = some 566 := gR_K oc_559 ((La_rf 559 (okl rfl) 9 (by decide +kernel)).trans (by decide +kernel))
theorem rf_559_18 {mi : IM} {ml : JM} : gR 12 18 559 (K mi ml) = some 567 := gR_K oc_559 ((La_rf 559 (okl rfl) 18 (by decide +kernel)).trans (by decide +kernel))
theorem rf_559_21 {mi : IM} {ml : JM} : gR 12 21 559 (K mi ml) = some 568 := gR_K oc_559 ((La_rf 559 (okl rfl) 21 (by decide +kernel)).trans (by decide +kernel))
theorem rf_559_22 {mi : IM} {ml : JM} : gR 12 22 559 (K mi ml) = some 569 := gR_K oc_559 ((La_rf 559 (okl rfl) 22 (by decide +kernel)).trans (by decide +kernel))
theorem rf_559_24 {mi : IM} {ml : JM} : gR 12 24 559 (K mi ml) = some 570 := gR_K oc_559 ((La_rf 559 (okl rfl) 24 (by decide +kernel)).trans (by decide +kernel))
theorem rf_559_25 {mi : IM} {ml : JM} : gR 12 25 559 (K mi ml) = some 571 := gR_K oc_559 ((La_rf 559 (okl rfl) 25 (by decide +kernel)).trans (by decide +kernel))
theorem rf_559_26 {mi : IM} {ml : JM} : gR 12 26 559 (K mi ml) = some 572 := gR_K oc_559 ((La_rf 559 (okl rfl) 26 (by decide +kernel)).trans (by decide +kernel))
theorem rf_559_27 {mi : IM} {ml : JM} : gR 12 27 559 (K mi ml) = some 573 := gR_K oc_559 ((La_rf 559 (okl rfl) 27 (by decide +kernel)).trans (by decide +kernel))
theorem rf_559_28 {mi : IM} {ml : JM} : gR 12 28 559 (K mi ml) = some 574 := gR_K oc_559 ((La_rf 559 (okl rfl) 28 (by decide +kernel)).trans (by decide +kernel))
theorem rf_559_30 {mi : IM} {ml : JM} : gR 12 30 559 (K mi ml) = some 575 := gR_K oc_559 ((La_rf 559 (okl rfl) 30 (by decide +kernel)).trans (by decide +kernel))
theorem rf_559_31 {mi : IM} {ml : JM} : gR 12 31 559 (K mi ml) = some 576 := gR_K oc_559 ((La_rf 559 (okl rfl) 31 (by decide +kernel)).trans (by decide +kernel))
theorem rf_559_32 {mi : IM} {ml : JM} : gR 12 32 559 (K mi ml) = some 577 := gR_K oc_559 ((La_rf 559 (okl rfl) 32 (by decide +kernel)).trans (by decide +kernel))
theorem rf_559_33 {mi : IM} {ml : JM} : gR 12 33 559 (K mi ml) = some 578 := gR_K oc_559 ((La_rf 559 (okl rfl) 33 (by decide +kernel)).trans (by decide +kernel))
theorem rf_559_34 {mi : IM} {ml : JM} : gR 12 34 559 (K mi ml) = some 579 := gR_K oc_559 ((La_rf 559 (okl rfl) 34 (by decide +kernel)).trans (by decide +kernel))
theorem rf_559_35 {mi : IM} {ml : JM} : gR 12 35 559 (K mi ml) = some 580 := gR_K oc_559 ((La_rf 559 (okl rfl) 35 (by decide +kernel)).trans (by decide +kernel))
theorem rf_559_36 {mi : IM} {ml : JM} : gR 12 36 559 (K mi ml) = some 581 := gR_K oc_559 ((La_rf 559 (okl rfl) 36 (by decide +kernel)).trans (by decide +kernel))
theorem rf_559_37 {mi : IM} {ml : JM} : gR 12 37 559 (K mi ml) = some 582 := gR_K oc_559 ((La_rf 559 (okl rfl) 37 (by decide +kernel)).trans (by decide +kernel))
theorem rf_559_38 {mi : IM} {ml : JM} : gR 12 38 559 (K mi ml) = some 583 := gR_K oc_559 ((La_rf 559 (okl rfl) 38 (by decide +kernel)).trans (by decide +kernel))
theorem rf_559_39 {mi : IM} {ml : JM} : gR 12 39 559 (K mi ml) = some 584 := gR_K oc_559 ((La_rf 559 (okl rfl) 39 (by decide +kernel)).trans (by decide +kernel))
theorem rf_559_41 {mi : IM} {ml : JM} : gR 12 41 559 (K mi ml) = some 585 := gR_K oc_559 ((La_rf 559 (okl rfl) 41 (by decide +kernel)).trans (by decide +kernel))
theorem rf_559_42 {mi : IM} {ml : JM} : gR 12 42 559 (K mi ml) = some 586 := gR_K oc_559 ((La_rf 559 (okl rfl) 42 (by decide +kernel)).trans (by decide +kernel))
theorem rf_559_44 {mi : IM} {ml : JM} : gR 12 44 559 (K mi ml) = some 587 := gR_K oc_559 ((La_rf 559 (okl rfl) 44 (by decide +kernel)).trans (by decide +kernel))
theorem rf_559_45 {mi : IM} {ml : JM} : gR 12 45 559 (K mi ml) = some 588 := gR_K oc_559 ((La_rf 559 (okl rfl) 45 (by decide +kernel)).trans (by decide +kernel))
theorem rf_559_46 {mi : IM} {ml : JM} : gR 12 46 559 (K mi ml) = some 589 := gR_K oc_559 ((La_rf 559 (okl rfl) 46 (by decide +kernel)).trans (by decide +kernel))
theorem rf_559_47 {mi : IM} {ml : JM} : gR 12 47 559 (K mi ml) = some 590 := gR_K oc_559 ((La_rf 559 (okl rfl) 47 (by decide +kernel)).trans (by decide +kernel))
theorem rf_559_49 {mi : IM} {ml : JM} : gR 12 49 559 (K mi ml) = some 591 := gR_K oc_559 ((La_rf 559 (okl rfl) 49 (by decide +kernel)).trans (by decide +kernel))
theorem rf_559_54 {mi : IM} {ml : JM} : gR 12 54 559 (K mi ml) = some 592 := gR_K oc_559 ((La_rf 559 (okl rfl) 54 (by decide +kernel)).trans (by decide +kernel))
theorem rf_559_55 {mi : IM} {ml : JM} : gR 12 55 559 (K mi ml) = some 593 := gR_K oc_559 ((La_rf 559 (okl rfl) 55 (by decide +kernel)).trans (by decide +kernel))
theorem rf_559_56 {mi : IM} {ml : JM} : gR 12 56 559 (K mi ml) = some 594 := gR_K oc_559 ((La_rf 559 (okl rfl) 56 (by decide +kernel)).trans (by decide +kernel))
theorem rf_559_57 {mi : IM} {ml : JM} : gR 12 57 559 (K mi ml) = some 595 := gR_K oc_559 ((La_rf 559 (okl rfl) 57 (by decide +kernel)).trans (by decide +kernel))
theorem rf_559_59 {mi : IM} {ml : JM} : gR 12 59 559 (K mi ml) = some 596 := gR_K oc_559 ((La_rf 559 (okl rfl) 59 (by decide +kernel)).trans (by decide +kernel))
theorem rf_559_60 {mi : IM} {ml : JM} : gR 12 60 559 (K mi ml) = some 597 := gR_K oc_559 ((La_rf 559 (okl rfl) 60 (by decide +kernel)).trans (by decide +kernel))
theorem rf_559_61 {mi : IM} {ml : JM} : gR 12 61 559 (K mi ml) = some 598 := gR_K oc_559 ((La_rf 559 (okl rfl) 61 (by decide +kernel)).trans (by decide +kernel))
theorem rf_559_62 {mi : IM} {ml : JM} : gR 12 62 559 (K mi ml) = some 599 := gR_K oc_559 ((La_rf 559 (okl rfl) 62 (by decide +kernel)).trans (by decide +kernel))
theorem rf_559_63 {mi : IM} {ml : JM} : gR 12 63 559 (K mi ml) = some 600 := gR_K oc_559 ((La_rf 559 (okl rfl) 63 (by decide +kernel)).trans (by decide +kernel))
theorem rf_559_64 {mi : IM} {ml : JM} : gR 12 64 559 (K mi ml) = some 601 := gR_K oc_559 ((La_rf 559 (okl rfl) 64 (by decide +kernel)).trans (by decide +kernel))
theorem rf_559_71 {mi : IM} {ml : JM} : gR 12 71 559 (K mi ml) = some 602 := gR_K oc_559 ((La_rf 559 (okl rfl) 71 (by decide +kernel)).trans (by decide +kernel))
theorem rf_559_72 {mi : IM} {ml : JM} : gR 12 72 559 (K mi ml) = some 603 := gR_K oc_559 ((La_rf 559 (okl rfl) 72 (by decide +kernel)).trans (by decide +kernel))
theorem rf_559_74 {mi : IM} {ml : JM} : gR 12 74 559 (K mi ml) = some 604 := gR_K oc_559 ((La_rf 559 (okl rfl) 74 (by decide +kernel)).trans (by decide +kernel))
theorem rf_559_75 {mi : IM} {ml : JM} : gR 12 75 559 (K mi ml) = some 605 := gR_K oc_559 ((La_rf 559 (okl rfl) 75 (by decide +kernel)).trans (by decide +kernel))
theorem rf_559_76 {mi : IM} {ml : JM} : gR 12 76 559 (K mi ml) = some 606 := gR_K oc_559 ((La_rf 559 (okl rfl) 76 (by decide +kernel)).trans (by decide +kernel))
theorem rf_559_77 {mi : IM} {ml : JM} : gR 12 77 559 (K mi ml) = some 607 := gR_K oc_559 ((La_rf 559 (okl rfl) 77 (by decide +kernel)).trans (by decide +kernel))
theorem rf_559_78 {mi : IM} {ml : JM} : gR 12 78 559 (K mi ml) = some 608 := gR_K oc_559 ((La_rf 559 (okl rfl) 78 (by decide +kernel)).trans (by decide +kernel))
theorem rf_559_79 {mi : IM} {ml : JM} : gR 12 79 559 (K mi ml) = some 609 := gR_K oc_559 ((La_rf 559 (okl rfl) 79 (by decide +kernel)).trans (by decide +kernel))
theorem o_0 {β : Type} {mi : IM} {ml : JM} {b : Option β} : og 11 0 (K mi ml) b = b := og_K oc_0
theorem g_0 {mi : IM} {ml : JM} {k : Nat} : gI 11 k 0 (K mi ml) = some (mi 0 k) := gI_K oc_0
theorem p_0 {mi : IM} {ml : JM} {k : Nat} {v : Int32} : pI 11 k 0 v (K mi ml) = some (K (upd2 mi 0 k v) ml) := pI_K oc_0
theorem z_0 {mi : IM} {ml : JM} {k : Nat} {v : Int32} (hv : v &&& 1 = v) : pZ 11 k 0 v (K mi ml) = some (K (upd2 mi 0 k v) ml) := pZ_K oc_0 hv
theorem gl_0 {mi : IM} {ml : JM} {k : Nat} : gL 11 k 0 (K mi ml) = some (ml 0 k) := gL_K oc_0
theorem pl_0 {mi : IM} {ml : JM} {k : Nat} {v : Int64} : pL 11 k 0 v (K mi ml) = some (K mi (upd2 ml 0 k v)) := pL_K oc_0
theorem a_1 {mi : IM} {ml : JM} {j : Nat} (h : j < 2000) : aI 101 1 (nI j) (K mi ml) = some (mi 1 j) := aI_K ds_1 (by decide) h
theorem s_1 {mi : IM} {ml : JM} {j : Nat} {v : Int32} (h : j < 2000) : sI 101 1 (nI j) v (K mi ml) = some (K (upd2 mi 1 j (nrw 101 v)) ml) := sI_K ds_1 (by decide) h
theorem o_4 {β : Type} {mi : IM} {ml : JM} {b : Option β} : og 10 4 (K mi ml) b = b := og_K oc_4
theorem g_4 {mi : IM} {ml : JM} {k : Nat} : gI 10 k 4 (K mi ml) = some (mi 4 k) := gI_K oc_4
theorem p_4 {mi : IM} {ml : JM} {k : Nat} {v : Int32} : pI 10 k 4 v (K mi ml) = some (K (upd2 mi 4 k v) ml) := pI_K oc_4
theorem z_4 {mi : IM} {ml : JM} {k : Nat} {v : Int32} (hv : v &&& 1 = v) : pZ 10 k 4 v (K mi ml) = some (K (upd2 mi 4 k v) ml) := pZ_K oc_4 hv
theorem gl_4 {mi : IM} {ml : JM} {k : Nat} : gL 10 k 4 (K mi ml) = some (ml 4 k) := gL_K oc_4
theorem pl_4 {mi : IM} {ml : JM} {k : Nat} {v : Int64} : pL 10 k 4 v (K mi ml) = some (K mi (upd2 ml 4 k v)) := pL_K oc_4
theorem a_5 {mi : IM} {ml : JM} {j : Nat} (h : j < 401) : aI 100 5 (nI j) (K mi ml) = some (mi 5 j) := aI_K ds_5 (by decide) h
theorem s_5 {mi : IM} {ml : JM} {j : Nat} {v : Int32} (h : j < 401) : sI 100 5 (nI j) v (K mi ml) = some (K (upd2 mi 5 j (nrw 100 v)) ml) := sI_K ds_5 (by decide) h
theorem a_6 {mi : IM} {ml : JM} {j : Nat} (h : j < 401) : aI 100 6 (nI j) (K mi ml) = some (mi 6 j) := aI_K ds_6 (by decide) h
theorem s_6 {mi : IM} {ml : JM} {j : Nat} {v : Int32} (h : j < 401) : sI 100 6 (nI j) v (K mi ml) = some (K (upd2 mi 6 j (nrw 100 v)) ml) := sI_K ds_6 (by decide) h
theorem a_7 {mi : IM} {ml : JM} {j : Nat} (h : j < 401) : aL 7 (nI j) (K mi ml) = some (ml 7 j) := aL_K ds_7 (by decide) h
theorem s_7 {mi : IM} {ml : JM} {j : Nat} {v : Int64} (h : j < 401) : sL 7 (nI j) v (K mi ml) = some (K mi (upd2 ml 7 j v)) := sL_K ds_7 (by decide) h
theorem a_8 {mi : IM} {ml : JM} {j : Nat} (h : j < 10) : aL 8 (nI j) (K mi ml) = some (ml 8 j) := aL_K ds_8 (by decide) h
theorem s_8 {mi : IM} {ml : JM} {j : Nat} {v : Int64} (h : j < 10) : sL 8 (nI j) v (K mi ml) = some (K mi (upd2 ml 8 j v)) := sL_K ds_8 (by decide) h
theorem o_9 {β : Type} {mi : IM} {ml : JM} {b : Option β} : og 8 9 (K mi ml) b = b := og_K oc_9
theorem g_9 {mi : IM} {ml : JM} {k : Nat} : gI 8 k 9 (K mi ml) = some (mi 9 k) := gI_K oc_9
theorem p_9 {mi : IM} {ml : JM} {k : Nat} {v : Int32} : pI 8 k 9 v (K mi ml) = some (K (upd2 mi 9 k v) ml) := pI_K oc_9
theorem z_9 {mi : IM} {ml : JM} {k : Nat} {v : Int32} (hv : v &&& 1 = v) : pZ 8 k 9 v (K mi ml) = some (K (upd2 mi 9 k v) ml) := pZ_K oc_9 hv
theorem gl_9 {mi : IM} {ml : JM} {k : Nat} : gL 8 k 9 (K mi ml) = some (ml 9 k) := gL_K oc_9
theorem pl_9 {mi : IM} {ml : JM} {k : Nat} {v : Int64} : pL 8 k 9 v (K mi ml) = some (K mi (upd2 ml 9 k v)) := pL_K oc_9
theorem o_10 {β : Type} {mi : IM} {ml : JM} {b : Option β} : og 5 10 (K mi ml) b = b := og_K oc_10
theorem g_10 {mi : IM} {ml : JM} {k : Nat} : gI 5 k 10 (K mi ml) = some (mi 10 k) := gI_K oc_10
theorem p_10 {mi : IM} {ml : JM} {k : Nat} {v : Int32} : pI 5 k 10 v (K mi ml) = some (K (upd2 mi 10 k v) ml) := pI_K oc_10
theorem z_10 {mi : IM} {ml : JM} {k : Nat} {v : Int32} (hv : v &&& 1 = v) : pZ 5 k 10 v (K mi ml) = some (K (upd2 mi 10 k v) ml) := pZ_K oc_10 hv
theorem gl_10 {mi : IM} {ml : JM} {k : Nat} : gL 5 k 10 (K mi ml) = some (ml 10 k) := gL_K oc_10
theorem pl_10 {mi : IM} {ml : JM} {k : Nat} {v : Int64} : pL 5 k 10 v (K mi ml) = some (K mi (upd2 ml 10 k v)) := pL_K oc_10
theorem a_11 {mi : IM} {ml : JM} {j : Nat} (h : j < 14) : aL 11 (nI j) (K mi ml) = some (ml 11 j) := aL_K ds_11 (by decide) h
theorem s_11 {mi : IM} {ml : JM} {j : Nat} {v : Int64} (h : j < 14) : sL 11 (nI j) v (K mi ml) = some (K mi (upd2 ml 11 j v)) := sL_K ds_11 (by decide) h
theorem o_12 {β : Type} {mi : IM} {ml : JM} {b : Option β} : og 1 12 (K mi ml) b = b := og_K oc_12
theorem g_12 {mi : IM} {ml : JM} {k : Nat} : gI 1 k 12 (K mi ml) = some (mi 12 k) := gI_K oc_12
theorem p_12 {mi : IM} {ml : JM} {k : Nat} {v : Int32} : pI 1 k 12 v (K mi ml) = some (K (upd2 mi 12 k v) ml) := pI_K oc_12
theorem z_12 {mi : IM} {ml : JM} {k : Nat} {v : Int32} (hv : v &&& 1 = v) : pZ 1 k 12 v (K mi ml) = some (K (upd2 mi 12 k v) ml) := pZ_K oc_12 hv
theorem gl_12 {mi : IM} {ml : JM} {k : Nat} : gL 1 k 12 (K mi ml) = some (ml 12 k) := gL_K oc_12
theorem pl_12 {mi : IM} {ml : JM} {k : Nat} {v : Int64} : pL 1 k 12 v (K mi ml) = some (K mi (upd2 ml 12 k v)) := pL_K oc_12
theorem a_14 {mi : IM} {ml : JM} {j : Nat} (h : j < 14) : aI 102 14 (nI j) (K mi ml) = some (mi 14 j) := aI_K ds_14 (by decide) h
theorem s_14 {mi : IM} {ml : JM} {j : Nat} {v : Int32} (h : j < 14) : sI 102 14 (nI j) v (K mi ml) = some (K (upd2 mi 14 j (nrw 102 v)) ml) := sI_K ds_14 (by decide) h
theorem a_15 {mi : IM} {ml : JM} {j : Nat} (h : j < 14) : aL 15 (nI j) (K mi ml) = some (ml 15 j) := aL_K ds_15 (by decide) h
theorem s_15 {mi : IM} {ml : JM} {j : Nat} {v : Int64} (h : j < 14) : sL 15 (nI j) v (K mi ml) = some (K mi (upd2 ml 15 j v)) := sL_K ds_15 (by decide) h
theorem a_19 {mi : IM} {ml : JM} {j : Nat} (h : j < 8) : aI 100 19 (nI j) (K mi ml) = some (mi 19 j) := aI_K ds_19 (by decide) h
theorem s_19 {mi : IM} {ml : JM} {j : Nat} {v : Int32} (h : j < 8) : sI 100 19 (nI j) v (K mi ml) = some (K (upd2 mi 19 j (nrw 100 v)) ml) := sI_K ds_19 (by decide) h
theorem a_20 {mi : IM} {ml : JM} {j : Nat} (h : j < 400) : aI 100 20 (nI j) (K mi ml) = some (mi 20 j) := aI_K ds_20 (by decide) h
theorem s_20 {mi : IM} {ml : JM} {j : Nat} {v : Int32} (h : j < 400) : sI 100 20 (nI j) v (K mi ml) = some (K (upd2 mi 20 j (nrw 100 v)) ml) := sI_K ds_20 (by decide) h
theorem a_22 {mi : IM} {ml : JM} {j : Nat} (h : j < 8) : aI 100 22 (nI j) (K mi ml) = some (mi 22 j) := aI_K ds_22 (by decide) h
theorem s_22 {mi : IM} {ml : JM} {j : Nat} {v : Int32} (h : j < 8) : sI 100 22 (nI j) v (K mi ml) = some (K (upd2 mi 22 j (nrw 100 v)) ml) := sI_K ds_22 (by decide) h
theorem a_24 {mi : IM} {ml : JM} {j : Nat} (h : j < 8) : aI 100 24 (nI j) (K mi ml) = some (mi 24 j) := aI_K ds_24 (by decide) h
theorem s_24 {mi : IM} {ml : JM} {j : Nat} {v : Int32} (h : j < 8) : sI 100 24 (nI j) v (K mi ml) = some (K (upd2 mi 24 j (nrw 100 v)) ml) := sI_K ds_24 (by decide) h
theorem a_26 {mi : IM} {ml : JM} {j : Nat} (h : j < 8) : aI 100 26 (nI j) (K mi ml) = some (mi 26 j) := aI_K ds_26 (by decide) h
theorem s_26 {mi : IM} {ml : JM} {j : Nat} {v : Int32} (h : j < 8) : sI 100 26 (nI j) v (K mi ml) = some (K (upd2 mi 26 j (nrw 100 v)) ml) := sI_K ds_26 (by decide) h
theorem a_28 {mi : IM} {ml : JM} {j : Nat} (h : j < 8) : aI 100 28 (nI j) (K mi ml) = some (mi 28 j) := aI_K ds_28 (by decide) h
theorem s_28 {mi : IM} {ml : JM} {j : Nat} {v : Int32} (h : j < 8) : sI 100 28 (nI j) v (K mi ml) = some (K (upd2 mi 28 j (nrw 100 v)) ml) := sI_K ds_28 (by decide) h
theorem a_30 {mi : IM} {ml : JM} {j : Nat} (h : j < 8) : aI 100 30 (nI j) (K mi ml) = some (mi 30 j) := aI_K ds_30 (by decide) h
theorem s_30 {mi : IM} {ml : JM} {j : Nat} {v : Int32} (h : j < 8) : sI 100 30 (nI j) v (K mi ml) = some (K (upd2 mi 30 j (nrw 100 v)) ml) := sI_K ds_30 (by decide) h
theorem a_32 {mi : IM} {ml : JM} {j : Nat} (h : j < 8) : aI 100 32 (nI j) (K mi ml) = some (mi 32 j) := aI_K ds_32 (by decide) h
theorem s_32 {mi : IM} {ml : JM} {j : Nat} {v : Int32} (h : j < 8) : sI 100 32 (nI j) v (K mi ml) = some (K (upd2 mi 32 j (nrw 100 v)) ml) := sI_K ds_32 (by decide) h
theorem a_34 {mi : IM} {ml : JM} {j : Nat} (h : j < 8) : aI 100 34 (nI j) (K mi ml) = some (mi 34 j) := aI_K ds_34 (by decide) h
theorem s_34 {mi : IM} {ml : JM} {j : Nat} {v : Int32} (h : j < 8) : sI 100 34 (nI j) v (K mi ml) = some (K (upd2 mi 34 j (nrw 100 v)) ml) := sI_K ds_34 (by decide) h
theorem a_36 {mi : IM} {ml : JM} {j : Nat} (h : j < 8) : aI 100 36 (nI j) (K mi ml) = some (mi 36 j) := aI_K ds_36 (by decide) h
theorem s_36 {mi : IM} {ml : JM} {j : Nat} {v : Int32} (h : j < 8) : sI 100 36 (nI j) v (K mi ml) = some (K (upd2 mi 36 j (nrw 100 v)) ml) := sI_K ds_36 (by decide) h
theorem a_38 {mi : IM} {ml : JM} {j : Nat} (h : j < 8) : aI 100 38 (nI j) (K mi ml) = some (mi 38 j) := aI_K ds_38 (by decide) h
theorem s_38 {mi : IM} {ml : JM} {j : Nat} {v : Int32} (h : j < 8) : sI 100 38 (nI j) v (K mi ml) = some (K (upd2 mi 38 j (nrw 100 v)) ml) := sI_K ds_38 (by decide) h
theorem a_40 {mi : IM} {ml : JM} {j : Nat} (h : j < 8) : aI 100 40 (nI j) (K mi ml) = some (mi 40 j) := aI_K ds_40 (by decide) h
theorem s_40 {mi : IM} {ml : JM} {j : Nat} {v : Int32} (h : j < 8) : sI 100 40 (nI j) v (K mi ml) = some (K (upd2 mi 40 j (nrw 100 v)) ml) := sI_K ds_40 (by decide) h
theorem a_42 {mi : IM} {ml : JM} {j : Nat} (h : j < 8) : aI 100 42 (nI j) (K mi ml) = some (mi 42 j) := aI_K ds_42 (by decide) h
theorem s_42 {mi : IM} {ml : JM} {j : Nat} {v : Int32} (h : j < 8) : sI 100 42 (nI j) v (K mi ml) = some (K (upd2 mi 42 j (nrw 100 v)) ml) := sI_K ds_42 (by decide) h
theorem a_44 {mi : IM} {ml : JM} {j : Nat} (h : j < 8) : aI 100 44 (nI j) (K mi ml) = some (mi 44 j) := aI_K ds_44 (by decide) h
theorem s_44 {mi : IM} {ml : JM} {j : Nat} {v : Int32} (h : j < 8) : sI 100 44 (nI j) v (K mi ml) = some (K (upd2 mi 44 j (nrw 100 v)) ml) := sI_K ds_44 (by decide) h
theorem a_46 {mi : IM} {ml : JM} {j : Nat} (h : j < 8) : aI 100 46 (nI j) (K mi ml) = some (mi 46 j) := aI_K ds_46 (by decide) h
theorem s_46 {mi : IM} {ml : JM} {j : Nat} {v : Int32} (h : j < 8) : sI 100 46 (nI j) v (K mi ml) = some (K (upd2 mi 46 j (nrw 100 v)) ml) := sI_K ds_46 (by decide) h
theorem a_48 {mi : IM} {ml : JM} {j : Nat} (h : j < 8) : aI 100 48 (nI j) (K mi ml) = some (mi 48 j) := aI_K ds_48 (by decide) h
theorem s_48 {mi : IM} {ml : JM} {j : Nat} {v : Int32} (h : j < 8) : sI 100 48 (nI j) v (K mi ml) = some (K (upd2 mi 48 j (nrw 100 v)) ml) := sI_K ds_48 (by decide) h
theorem a_50 {mi : IM} {ml : JM} {j : Nat} (h : j < 8) : aI 100 50 (nI j) (K mi ml) = some (mi 50 j) := aI_K ds_50 (by decide) h
theorem s_50 {mi : IM} {ml : JM} {j : Nat} {v : Int32} (h : j < 8) : sI 100 50 (nI j) v (K mi ml) = some (K (upd2 mi 50 j (nrw 100 v)) ml) := sI_K ds_50 (by decide) h
theorem a_52 {mi : IM} {ml : JM} {j : Nat} (h : j < 8) : aI 100 52 (nI j) (K mi ml) = some (mi 52 j) := aI_K ds_52 (by decide) h
theorem s_52 {mi : IM} {ml : JM} {j : Nat} {v : Int32} (h : j < 8) : sI 100 52 (nI j) v (K mi ml) = some (K (upd2 mi 52 j (nrw 100 v)) ml) := sI_K ds_52 (by decide) h
theorem a_54 {mi : IM} {ml : JM} {j : Nat} (h : j < 8) : aI 100 54 (nI j) (K mi ml) = some (mi 54 j) := aI_K ds_54 (by decide) h
theorem s_54 {mi : IM} {ml : JM} {j : Nat} {v : Int32} (h : j < 8) : sI 100 54 (nI j) v (K mi ml) = some (K (upd2 mi 54 j (nrw 100 v)) ml) := sI_K ds_54 (by decide) h
theorem a_56 {mi : IM} {ml : JM} {j : Nat} (h : j < 8) : aI 100 56 (nI j) (K mi ml) = some (mi 56 j) := aI_K ds_56 (by decide) h
theorem s_56 {mi : IM} {ml : JM} {j : Nat} {v : Int32} (h : j < 8) : sI 100 56 (nI j) v (K mi ml) = some (K (upd2 mi 56 j (nrw 100 v)) ml) := sI_K ds_56 (by decide) h
theorem a_58 {mi : IM} {ml : JM} {j : Nat} (h : j < 8) : aI 100 58 (nI j) (K mi ml) = some (mi 58 j) := aI_K ds_58 (by decide) h
theorem s_58 {mi : IM} {ml : JM} {j : Nat} {v : Int32} (h : j < 8) : sI 100 58 (nI j) v (K mi ml) = some (K (upd2 mi 58 j (nrw 100 v)) ml) := sI_K ds_58 (by decide) h
theorem a_60 {mi : IM} {ml : JM} {j : Nat} (h : j < 8) : aI 100 60 (nI j) (K mi ml) = some (mi 60 j) := aI_K ds_60 (by decide) h
theorem s_60 {mi : IM} {ml : JM} {j : Nat} {v : Int32} (h : j < 8) : sI 100 60 (nI j) v (K mi ml) = some (K (upd2 mi 60 j (nrw 100 v)) ml) := sI_K ds_60 (by decide) h
theorem a_62 {mi : IM} {ml : JM} {j : Nat} (h : j < 8) : aI 100 62 (nI j) (K mi ml) = some (mi 62 j) := aI_K ds_62 (by decide) h
theorem s_62 {mi : IM} {ml : JM} {j : Nat} {v : Int32} (h : j < 8) : sI 100 62 (nI j) v (K mi ml) = some (K (upd2 mi 62 j (nrw 100 v)) ml) := sI_K ds_62 (by decide) h
theorem a_64 {mi : IM} {ml : JM} {j : Nat} (h : j < 8) : aI 100 64 (nI j) (K mi ml) = some (mi 64 j) := aI_K ds_64 (by decide) h
theorem s_64 {mi : IM} {ml : JM} {j : Nat} {v : Int32} (h : j < 8) : sI 100 64 (nI j) v (K mi ml) = some (K (upd2 mi 64 j (nrw 100 v)) ml) := sI_K ds_64 (by decide) h
theorem a_66 {mi : IM} {ml : JM} {j : Nat} (h : j < 8) : aI 100 66 (nI j) (K mi ml) = some (mi 66 j) := aI_K ds_66 (by decide) h
theorem s_66 {mi : IM} {ml : JM} {j : Nat} {v : Int32} (h : j < 8) : sI 100 66 (nI j) v (K mi ml) = some (K (upd2 mi 66 j (nrw 100 v)) ml) := sI_K ds_66 (by decide) h
theorem a_68 {mi : IM} {ml : JM} {j : Nat} (h : j < 8) : aI 100 68 (nI j) (K mi ml) = some (mi 68 j) := aI_K ds_68 (by decide) h
theorem s_68 {mi : IM} {ml : JM} {j : Nat} {v : Int32} (h : j < 8) : sI 100 68 (nI j) v (K mi ml) = some (K (upd2 mi 68 j (nrw 100 v)) ml) := sI_K ds_68 (by decide) h
theorem a_70 {mi : IM} {ml : JM} {j : Nat} (h : j < 8) : aI 100 70 (nI j) (K mi ml) = some (mi 70 j) := aI_K ds_70 (by decide) h
theorem s_70 {mi : IM} {ml : JM} {j : Nat} {v : Int32} (h : j < 8) : sI 100 70 (nI j) v (K mi ml) = some (K (upd2 mi 70 j (nrw 100 v)) ml) := sI_K ds_70 (by decide) h
theorem a_72 {mi : IM} {ml : JM} {j : Nat} (h : j < 8) : aI 100 72 (nI j) (K mi ml) = some (mi 72 j) := aI_K ds_72 (by decide) h
theorem s_72 {mi : IM} {ml : JM} {j : Nat} {v : Int32} (h : j < 8) : sI 100 72 (nI j) v (K mi ml) = some (K (upd2 mi 72 j (nrw 100 v)) ml) := sI_K ds_72 (by decide) h
theorem a_74 {mi : IM} {ml : JM} {j : Nat} (h : j < 8) : aI 100 74 (nI j) (K mi ml) = some (mi 74 j) := aI_K ds_74 (by decide) h
theorem s_74 {mi : IM} {ml : JM} {j : Nat} {v : Int32} (h : j < 8) : sI 100 74 (nI j) v (K mi ml) = some (K (upd2 mi 74 j (nrw 100 v)) ml) := sI_K ds_74 (by decide) h
theorem a_76 {mi : IM} {ml : JM} {j : Nat} (h : j < 8) : aI 100 76 (nI j) (K mi ml) = some (mi 76 j) := aI_K ds_76 (by decide) h
theorem s_76 {mi : IM} {ml : JM} {j : Nat} {v : Int32} (h : j < 8) : sI 100 76 (nI j) v (K mi ml) = some (K (upd2 mi 76 j (nrw 100 v)) ml) := sI_K ds_76 (by decide) h
theorem o_77 {β : Type} {mi : IM} {ml : JM} {b : Option β} : og 6 77 (K mi ml) b = b := og_K oc_77
theorem g_77 {mi : IM} {ml : JM} {k : Nat} : gI 6 k 77 (K mi ml) = some (mi 77 k) := gI_K oc_77
theorem p_77 {mi : IM} {ml : JM} {k : Nat} {v : Int32} : pI 6 k 77 v (K mi ml) = some (K (upd2 mi 77 k v) ml) := pI_K oc_77
theorem z_77 {mi : IM} {ml : JM} {k : Nat} {v : Int32} (hv : v &&& 1 = v) : pZ 6 k 77 v (K mi ml) = some (K (upd2 mi 77 k v) ml) := pZ_K oc_77 hv
theorem gl_77 {mi : IM} {ml : JM} {k : Nat} : gL 6 k 77 (K mi ml) = some (ml 77 k) := gL_K oc_77
theorem pl_77 {mi : IM} {ml : JM} {k : Nat} {v : Int64} : pL 6 k 77 v (K mi ml) = some (K mi (upd2 ml 77 k v)) := pL_K oc_77
theorem a_79 {mi : IM} {ml : JM} {j : Nat} (h : j < 8) : aI 100 79 (nI j) (K mi ml) = some (mi 79 j) := aI_K ds_79 (by decide) h
theorem s_79 {mi : IM} {ml : JM} {j : Nat} {v : Int32} (h : j < 8) : sI 100 79 (nI j) v (K mi ml) = some (K (upd2 mi 79 j (nrw 100 v)) ml) := sI_K ds_79 (by decide) h
theorem a_80 {mi : IM} {ml : JM} {j : Nat} (h : j < 256) : aI 100 80 (nI j) (K mi ml) = some (mi 80 j) := aI_K ds_80 (by decide) h
theorem s_80 {mi : IM} {ml : JM} {j : Nat} {v : Int32} (h : j < 256) : sI 100 80 (nI j) v (K mi ml) = some (K (upd2 mi 80 j (nrw 100 v)) ml) := sI_K ds_80 (by decide) h
theorem o_81 {β : Type} {mi : IM} {ml : JM} {b : Option β} : og 3 81 (K mi ml) b = b := og_K oc_81
theorem g_81 {mi : IM} {ml : JM} {k : Nat} : gI 3 k 81 (K mi ml) = some (mi 81 k) := gI_K oc_81
theorem p_81 {mi : IM} {ml : JM} {k : Nat} {v : Int32} : pI 3 k 81 v (K mi ml) = some (K (upd2 mi 81 k v) ml) := pI_K oc_81
theorem z_81 {mi : IM} {ml : JM} {k : Nat} {v : Int32} (hv : v &&& 1 = v) : pZ 3 k 81 v (K mi ml) = some (K (upd2 mi 81 k v) ml) := pZ_K oc_81 hv
theorem gl_81 {mi : IM} {ml : JM} {k : Nat} : gL 3 k 81 (K mi ml) = some (ml 81 k) := gL_K oc_81
theorem pl_81 {mi : IM} {ml : JM} {k : Nat} {v : Int64} : pL 3 k 81 v (K mi ml) = some (K mi (upd2 ml 81 k v)) := pL_K oc_81
theorem a_83 {mi : IM} {ml : JM} {j : Nat} (h : j < 8) : aI 100 83 (nI j) (K mi ml) = some (mi 83 j) := aI_K ds_83 (by decide) h
theorem s_83 {mi : IM} {ml : JM} {j : Nat} {v : Int32} (h : j < 8) : sI 100 83 (nI j) v (K mi ml) = some (K (upd2 mi 83 j (nrw 100 v)) ml) := sI_K ds_83 (by decide) h
theorem a_84 {mi : IM} {ml : JM} {j : Nat} (h : j < 8) : aI 100 84 (nI j) (K mi ml) = some (mi 84 j) := aI_K ds_84 (by decide) h
theorem s_84 {mi : IM} {ml : JM} {j : Nat} {v : Int32} (h : j < 8) : sI 100 84 (nI j) v (K mi ml) = some (K (upd2 mi 84 j (nrw 100 v)) ml) := sI_K ds_84 (by decide) h
theorem a_85 {mi : IM} {ml : JM} {j : Nat} (h : j < 8) : aI 100 85 (nI j) (K mi ml) = some (mi 85 j) := aI_K ds_85 (by decide) h
theorem s_85 {mi : IM} {ml : JM} {j : Nat} {v : Int32} (h : j < 8) : sI 100 85 (nI j) v (K mi ml) = some (K (upd2 mi 85 j (nrw 100 v)) ml) := sI_K ds_85 (by decide) h
theorem a_86 {mi : IM} {ml : JM} {j : Nat} (h : j < 6) : aI 100 86 (nI j) (K mi ml) = some (mi 86 j) := aI_K ds_86 (by decide) h
theorem s_86 {mi : IM} {ml : JM} {j : Nat} {v : Int32} (h : j < 6) : sI 100 86 (nI j) v (K mi ml) = some (K (upd2 mi 86 j (nrw 100 v)) ml) := sI_K ds_86 (by decide) h
theorem a_88 {mi : IM} {ml : JM} {j : Nat} (h : j < 8) : aI 100 88 (nI j) (K mi ml) = some (mi 88 j) := aI_K ds_88 (by decide) h
theorem s_88 {mi : IM} {ml : JM} {j : Nat} {v : Int32} (h : j < 8) : sI 100 88 (nI j) v (K mi ml) = some (K (upd2 mi 88 j (nrw 100 v)) ml) := sI_K ds_88 (by decide) h
theorem a_89 {mi : IM} {ml : JM} {j : Nat} (h : j < 8) : aI 100 89 (nI j) (K mi ml) = some (mi 89 j) := aI_K ds_89 (by decide) h
theorem s_89 {mi : IM} {ml : JM} {j : Nat} {v : Int32} (h : j < 8) : sI 100 89 (nI j) v (K mi ml) = some (K (upd2 mi 89 j (nrw 100 v)) ml) := sI_K ds_89 (by decide) h
theorem a_90 {mi : IM} {ml : JM} {j : Nat} (h : j < 8) : aI 100 90 (nI j) (K mi ml) = some (mi 90 j) := aI_K ds_90 (by decide) h
theorem s_90 {mi : IM} {ml : JM} {j : Nat} {v : Int32} (h : j < 8) : sI 100 90 (nI j) v (K mi ml) = some (K (upd2 mi 90 j (nrw 100 v)) ml) := sI_K ds_90 (by decide) h
theorem a_91 {mi : IM} {ml : JM} {j : Nat} (h : j < 8) : aI 100 91 (nI j) (K mi ml) = some (mi 91 j) := aI_K ds_91 (by decide) h
theorem s_91 {mi : IM} {ml : JM} {j : Nat} {v : Int32} (h : j < 8) : sI 100 91 (nI j) v (K mi ml) = some (K (upd2 mi 91 j (nrw 100 v)) ml) := sI_K ds_91 (by decide) h
theorem a_92 {mi : IM} {ml : JM} {j : Nat} (h : j < 8) : aI 100 92 (nI j) (K mi ml) = some (mi 92 j) := aI_K ds_92 (by decide) h
theorem s_92 {mi : IM} {ml : JM} {j : Nat} {v : Int32} (h : j < 8) : sI 100 92 (nI j) v (K mi ml) = some (K (upd2 mi 92 j (nrw 100 v)) ml) := sI_K ds_92 (by decide) h
theorem a_93 {mi : IM} {ml : JM} {j : Nat} (h : j < 8) : aI 100 93 (nI j) (K mi ml) = some (mi 93 j) := aI_K ds_93 (by decide) h
theorem s_93 {mi : IM} {ml : JM} {j : Nat} {v : Int32} (h : j < 8) : sI 100 93 (nI j) v (K mi ml) = some (K (upd2 mi 93 j (nrw 100 v)) ml) := sI_K ds_93 (by decide) h
theorem o_94 {β : Type} {mi : IM} {ml : JM} {b : Option β} : og 2 94 (K mi ml) b = b := og_K oc_94
theorem g_94 {mi : IM} {ml : JM} {k : Nat} : gI 2 k 94 (K mi ml) = some (mi 94 k) := gI_K oc_94
theorem p_94 {mi : IM} {ml : JM} {k : Nat} {v : Int32} : pI 2 k 94 v (K mi ml) = some (K (upd2 mi 94 k v) ml) := pI_K oc_94
theorem z_94 {mi : IM} {ml : JM} {k : Nat} {v : Int32} (hv : v &&& 1 = v) : pZ 2 k 94 v (K mi ml) = some (K (upd2 mi 94 k v) ml) := pZ_K oc_94 hv
theorem gl_94 {mi : IM} {ml : JM} {k : Nat} : gL 2 k 94 (K mi ml) = some (ml 94 k) := gL_K oc_94
theorem pl_94 {mi : IM} {ml : JM} {k : Nat} {v : Int64} : pL 2 k 94 v (K mi ml) = some (K mi (upd2 ml 94 k v)) := pL_K oc_94
theorem a_96 {mi : IM} {ml : JM} {j : Nat} (h : j < 8) : aI 100 96 (nI j) (K mi ml) = some (mi 96 j) := aI_K ds_96 (by decide) h
theorem s_96 {mi : IM} {ml : JM} {j : Nat} {v : Int32} (h : j < 8) : sI 100 96 (nI j) v (K mi ml) = some (K (upd2 mi 96 j (nrw 100 v)) ml) := sI_K ds_96 (by decide) h
theorem a_98 {mi : IM} {ml : JM} {j : Nat} (h : j < 8) : aI 100 98 (nI j) (K mi ml) = some (mi 98 j) := aI_K ds_98 (by decide) h
theorem s_98 {mi : IM} {ml : JM} {j : Nat} {v : Int32} (h : j < 8) : sI 100 98 (nI j) v (K mi ml) = some (K (upd2 mi 98 j (nrw 100 v)) ml) := sI_K ds_98 (by decide) h
theorem a_100 {mi : IM} {ml : JM} {j : Nat} (h : j < 8) : aI 100 100 (nI j) (K mi ml) = some (mi 100 j) := aI_K ds_100 (by decide) h
theorem s_100 {mi : IM} {ml : JM} {j : Nat} {v : Int32} (h : j < 8) : sI 100 100 (nI j) v (K mi ml) = some (K (upd2 mi 100 j (nrw 100 v)) ml) := sI_K ds_100 (by decide) h
theorem a_102 {mi : IM} {ml : JM} {j : Nat} (h : j < 8) : aI 100 102 (nI j) (K mi ml) = some (mi 102 j) := aI_K ds_102 (by decide) h
theorem s_102 {mi : IM} {ml : JM} {j : Nat} {v : Int32} (h : j < 8) : sI 100 102 (nI j) v (K mi ml) = some (K (upd2 mi 102 j (nrw 100 v)) ml) := sI_K ds_102 (by decide) h
theorem a_104 {mi : IM} {ml : JM} {j : Nat} (h : j < 8) : aI 100 104 (nI j) (K mi ml) = some (mi 104 j) := aI_K ds_104 (by decide) h
theorem s_104 {mi : IM} {ml : JM} {j : Nat} {v : Int32} (h : j < 8) : sI 100 104 (nI j) v (K mi ml) = some (K (upd2 mi 104 j (nrw 100 v)) ml) := sI_K ds_104 (by decide) h
theorem a_107 {mi : IM} {ml : JM} {j : Nat} (h : j < 8) : aI 100 107 (nI j) (K mi ml) = some (mi 107 j) := aI_K ds_107 (by decide) h
theorem s_107 {mi : IM} {ml : JM} {j : Nat} {v : Int32} (h : j < 8) : sI 100 107 (nI j) v (K mi ml) = some (K (upd2 mi 107 j (nrw 100 v)) ml) := sI_K ds_107 (by decide) h
theorem a_109 {mi : IM} {ml : JM} {j : Nat} (h : j < 8) : aI 100 109 (nI j) (K mi ml) = some (mi 109 j) := aI_K ds_109 (by decide) h
theorem s_109 {mi : IM} {ml : JM} {j : Nat} {v : Int32} (h : j < 8) : sI 100 109 (nI j) v (K mi ml) = some (K (upd2 mi 109 j (nrw 100 v)) ml) := sI_K ds_109 (by decide) h
theorem a_110 {mi : IM} {ml : JM} {j : Nat} (h : j < 8) : aI 100 110 (nI j) (K mi ml) = some (mi 110 j) := aI_K ds_110 (by decide) h
theorem s_110 {mi : IM} {ml : JM} {j : Nat} {v : Int32} (h : j < 8) : sI 100 110 (nI j) v (K mi ml) = some (K (upd2 mi 110 j (nrw 100 v)) ml) := sI_K ds_110 (by decide) h
theorem a_111 {mi : IM} {ml : JM} {j : Nat} (h : j < 8) : aI 100 111 (nI j) (K mi ml) = some (mi 111 j) := aI_K ds_111 (by decide) h
theorem s_111 {mi : IM} {ml : JM} {j : Nat} {v : Int32} (h : j < 8) : sI 100 111 (nI j) v (K mi ml) = some (K (upd2 mi 111 j (nrw 100 v)) ml) := sI_K ds_111 (by decide) h
theorem a_112 {mi : IM} {ml : JM} {j : Nat} (h : j < 8) : aI 100 112 (nI j) (K mi ml) = some (mi 112 j) := aI_K ds_112 (by decide) h
theorem s_112 {mi : IM} {ml : JM} {j : Nat} {v : Int32} (h : j < 8) : sI 100 112 (nI j) v (K mi ml) = some (K (upd2 mi 112 j (nrw 100 v)) ml) := sI_K ds_112 (by decide) h
theorem a_114 {mi : IM} {ml : JM} {j : Nat} (h : j < 8) : aI 100 114 (nI j) (K mi ml) = some (mi 114 j) := aI_K ds_114 (by decide) h
theorem s_114 {mi : IM} {ml : JM} {j : Nat} {v : Int32} (h : j < 8) : sI 100 114 (nI j) v (K mi ml) = some (K (upd2 mi 114 j (nrw 100 v)) ml) := sI_K ds_114 (by decide) h
theorem a_116 {mi : IM} {ml : JM} {j : Nat} (h : j < 8) : aI 100 116 (nI j) (K mi ml) = some (mi 116 j) := aI_K ds_116 (by decide) h
theorem s_116 {mi : IM} {ml : JM} {j : Nat} {v : Int32} (h : j < 8) : sI 100 116 (nI j) v (K mi ml) = some (K (upd2 mi 116 j (nrw 100 v)) ml) := sI_K ds_116 (by decide) h
theorem a_118 {mi : IM} {ml : JM} {j : Nat} (h : j < 8) : aI 100 118 (nI j) (K mi ml) = some (mi 118 j) := aI_K ds_118 (by decide) h
theorem s_118 {mi : IM} {ml : JM} {j : Nat} {v : Int32} (h : j < 8) : sI 100 118 (nI j) v (K mi ml) = some (K (upd2 mi 118 j (nrw 100 v)) ml) := sI_K ds_118 (by decide) h
theorem a_120 {mi : IM} {ml : JM} {j : Nat} (h : j < 8) : aI 100 120 (nI j) (K mi ml) = some (mi 120 j) := aI_K ds_120 (by decide) h
theorem s_120 {mi : IM} {ml : JM} {j : Nat} {v : Int32} (h : j < 8) : sI 100 120 (nI j) v (K mi ml) = some (K (upd2 mi 120 j (nrw 100 v)) ml) := sI_K ds_120 (by decide) h
theorem a_122 {mi : IM} {ml : JM} {j : Nat} (h : j < 8) : aI 100 122 (nI j) (K mi ml) = some (mi 122 j) := aI_K ds_122 (by decide) h
theorem s_122 {mi : IM} {ml : JM} {j : Nat} {v : Int32} (h : j < 8) : sI 100 122 (nI j) v (K mi ml) = some (K (upd2 mi 122 j (nrw 100 v)) ml) := sI_K ds_122 (by decide) h
theorem a_124 {mi : IM} {ml : JM} {j : Nat} (h : j < 8) : aI 100 124 (nI j) (K mi ml) = some (mi 124 j) := aI_K ds_124 (by decide) h
theorem s_124 {mi : IM} {ml : JM} {j : Nat} {v : Int32} (h : j < 8) : sI 100 124 (nI j) v (K mi ml) = some (K (upd2 mi 124 j (nrw 100 v)) ml) := sI_K ds_124 (by decide) h
theorem a_126 {mi : IM} {ml : JM} {j : Nat} (h : j < 8) : aI 100 126 (nI j) (K mi ml) = some (mi 126 j) := aI_K ds_126 (by decide) h
theorem s_126 {mi : IM} {ml : JM} {j : Nat} {v : Int32} (h : j < 8) : sI 100 126 (nI j) v (K mi ml) = some (K (upd2 mi 126 j (nrw 100 v)) ml) := sI_K ds_126 (by decide) h
theorem a_128 {mi : IM} {ml : JM} {j : Nat} (h : j < 8) : aI 100 128 (nI j) (K mi ml) = some (mi 128 j) := aI_K ds_128 (by decide) h
theorem s_128 {mi : IM} {ml : JM} {j : Nat} {v : Int32} (h : j < 8) : sI 100 128 (nI j) v (K mi ml) = some (K (upd2 mi 128 j (nrw 100 v)) ml) := sI_K ds_128 (by decide) h
theorem o_129 {β : Type} {mi : IM} {ml : JM} {b : Option β} : og 9 129 (K mi ml) b = b := og_K oc_129
theorem g_129 {mi : IM} {ml : JM} {k : Nat} : gI 9 k 129 (K mi ml) = some (mi 129 k) := gI_K oc_129
theorem p_129 {mi : IM} {ml : JM} {k : Nat} {v : Int32} : pI 9 k 129 v (K mi ml) = some (K (upd2 mi 129 k v) ml) := pI_K oc_129
theorem z_129 {mi : IM} {ml : JM} {k : Nat} {v : Int32} (hv : v &&& 1 = v) : pZ 9 k 129 v (K mi ml) = some (K (upd2 mi 129 k v) ml) := pZ_K oc_129 hv
theorem gl_129 {mi : IM} {ml : JM} {k : Nat} : gL 9 k 129 (K mi ml) = some (ml 129 k) := gL_K oc_129
theorem pl_129 {mi : IM} {ml : JM} {k : Nat} {v : Int64} : pL 9 k 129 v (K mi ml) = some (K mi (upd2 ml 129 k v)) := pL_K oc_129
theorem a_131 {mi : IM} {ml : JM} {j : Nat} (h : j < 8) : aI 100 131 (nI j) (K mi ml) = some (mi 131 j) := aI_K ds_131 (by decide) h
theorem s_131 {mi : IM} {ml : JM} {j : Nat} {v : Int32} (h : j < 8) : sI 100 131 (nI j) v (K mi ml) = some (K (upd2 mi 131 j (nrw 100 v)) ml) := sI_K ds_131 (by decide) h
theorem a_133 {mi : IM} {ml : JM} {j : Nat} (h : j < 8) : aI 100 133 (nI j) (K mi ml) = some (mi 133 j) := aI_K ds_133 (by decide) h
theorem s_133 {mi : IM} {ml : JM} {j : Nat} {v : Int32} (h : j < 8) : sI 100 133 (nI j) v (K mi ml) = some (K (upd2 mi 133 j (nrw 100 v)) ml) := sI_K ds_133 (by decide) h
theorem a_135 {mi : IM} {ml : JM} {j : Nat} (h : j < 8) : aI 100 135 (nI j) (K mi ml) = some (mi 135 j) := aI_K ds_135 (by decide) h
theorem s_135 {mi : IM} {ml : JM} {j : Nat} {v : Int32} (h : j < 8) : sI 100 135 (nI j) v (K mi ml) = some (K (upd2 mi 135 j (nrw 100 v)) ml) := sI_K ds_135 (by decide) h
theorem a_137 {mi : IM} {ml : JM} {j : Nat} (h : j < 8) : aI 100 137 (nI j) (K mi ml) = some (mi 137 j) := aI_K ds_137 (by decide) h
theorem s_137 {mi : IM} {ml : JM} {j : Nat} {v : Int32} (h : j < 8) : sI 100 137 (nI j) v (K mi ml) = some (K (upd2 mi 137 j (nrw 100 v)) ml) := sI_K ds_137 (by decide) h
theorem a_139 {mi : IM} {ml : JM} {j : Nat} (h : j < 8) : aI 100 139 (nI j) (K mi ml) = some (mi 139 j) := aI_K ds_139 (by decide) h
theorem s_139 {mi : IM} {ml : JM} {j : Nat} {v : Int32} (h : j < 8) : sI 100 139 (nI j) v (K mi ml) = some (K (upd2 mi 139 j (nrw 100 v)) ml) := sI_K ds_139 (by decide) h
theorem a_141 {mi : IM} {ml : JM} {j : Nat} (h : j < 8) : aI 100 141 (nI j) (K mi ml) = some (mi 141 j) := aI_K ds_141 (by decide) h
theorem s_141 {mi : IM} {ml : JM} {j : Nat} {v : Int32} (h : j < 8) : sI 100 141 (nI j) v (K mi ml) = some (K (upd2 mi 141 j (nrw 100 v)) ml) := sI_K ds_141 (by decide) h
theorem a_143 {mi : IM} {ml : JM} {j : Nat} (h : j < 8) : aI 100 143 (nI j) (K mi ml) = some (mi 143 j) := aI_K ds_143 (by decide) h
theorem s_143 {mi : IM} {ml : JM} {j : Nat} {v : Int32} (h : j < 8) : sI 100 143 (nI j) v (K mi ml) = some (K (upd2 mi 143 j (nrw 100 v)) ml) := sI_K ds_143 (by decide) h
theorem a_145 {mi : IM} {ml : JM} {j : Nat} (h : j < 8) : aI 100 145 (nI j) (K mi ml) = some (mi 145 j) := aI_K ds_145 (by decide) h
theorem s_145 {mi : IM} {ml : JM} {j : Nat} {v : Int32} (h : j < 8) : sI 100 145 (nI j) v (K mi ml) = some (K (upd2 mi 145 j (nrw 100 v)) ml) := sI_K ds_145 (by decide) h
theorem a_147 {mi : IM} {ml : JM} {j : Nat} (h : j < 8) : aI 100 147 (nI j) (K mi ml) = some (mi 147 j) := aI_K ds_147 (by decide) h
theorem s_147 {mi : IM} {ml : JM} {j : Nat} {v : Int32} (h : j < 8) : sI 100 147 (nI j) v (K mi ml) = some (K (upd2 mi 147 j (nrw 100 v)) ml) := sI_K ds_147 (by decide) h
theorem a_149 {mi : IM} {ml : JM} {j : Nat} (h : j < 8) : aI 100 149 (nI j) (K mi ml) = some (mi 149 j) := aI_K ds_149 (by decide) h
theorem s_149 {mi : IM} {ml : JM} {j : Nat} {v : Int32} (h : j < 8) : sI 100 149 (nI j) v (K mi ml) = some (K (upd2 mi 149 j (nrw 100 v)) ml) := sI_K ds_149 (by decide) h
theorem a_151 {mi : IM} {ml : JM} {j : Nat} (h : j < 8) : aI 100 151 (nI j) (K mi ml) = some (mi 151 j) := aI_K ds_151 (by decide) h
theorem s_151 {mi : IM} {ml : JM} {j : Nat} {v : Int32} (h : j < 8) : sI 100 151 (nI j) v (K mi ml) = some (K (upd2 mi 151 j (nrw 100 v)) ml) := sI_K ds_151 (by decide) h
theorem a_153 {mi : IM} {ml : JM} {j : Nat} (h : j < 8) : aI 100 153 (nI j) (K mi ml) = some (mi 153 j) := aI_K ds_153 (by decide) h
theorem s_153 {mi : IM} {ml : JM} {j : Nat} {v : Int32} (h : j < 8) : sI 100 153 (nI j) v (K mi ml) = some (K (upd2 mi 153 j (nrw 100 v)) ml) := sI_K ds_153 (by decide) h
theorem o_154 {β : Type} {mi : IM} {ml : JM} {b : Option β} : og 0 154 (K mi ml) b = b := og_K oc_154
theorem g_154 {mi : IM} {ml : JM} {k : Nat} : gI 0 k 154 (K mi ml) = some (mi 154 k) := gI_K oc_154
theorem p_154 {mi : IM} {ml : JM} {k : Nat} {v : Int32} : pI 0 k 154 v (K mi ml) = some (K (upd2 mi 154 k v) ml) := pI_K oc_154
theorem z_154 {mi : IM} {ml : JM} {k : Nat} {v : Int32} (hv : v &&& 1 = v) : pZ 0 k 154 v (K mi ml) = some (K (upd2 mi 154 k v) ml) := pZ_K oc_154 hv
theorem gl_154 {mi : IM} {ml : JM} {k : Nat} : gL 0 k 154 (K mi ml) = some (ml 154 k) := gL_K oc_154
theorem pl_154 {mi : IM} {ml : JM} {k : Nat} {v : Int64} : pL 0 k 154 v (K mi ml) = some (K mi (upd2 ml 154 k v)) := pL_K oc_154
theorem a_155 {mi : IM} {ml : JM} {j : Nat} (h : j < 60) : aI 100 155 (nI j) (K mi ml) = some (mi 155 j) := aI_K ds_155 (by decide) h
theorem s_155 {mi : IM} {ml : JM} {j : Nat} {v : Int32} (h : j < 60) : sI 100 155 (nI j) v (K mi ml) = some (K (upd2 mi 155 j (nrw 100 v)) ml) := sI_K ds_155 (by decide) h
theorem a_156 {mi : IM} {ml : JM} {j : Nat} (h : j < 60) : aI 100 156 (nI j) (K mi ml) = some (mi 156 j) := aI_K ds_156 (by decide) h
theorem s_156 {mi : IM} {ml : JM} {j : Nat} {v : Int32} (h : j < 60) : sI 100 156 (nI j) v (K mi ml) = some (K (upd2 mi 156 j (nrw 100 v)) ml) := sI_K ds_156 (by decide) h
theorem a_157 {mi : IM} {ml : JM} {j : Nat} (h : j < 60) : aI 100 157 (nI j) (K mi ml) = some (mi 157 j) := aI_K ds_157 (by decide) h
theorem s_157 {mi : IM} {ml : JM} {j : Nat} {v : Int32} (h : j < 60) : sI 100 157 (nI j) v (K mi ml) = some (K (upd2 mi 157 j (nrw 100 v)) ml) := sI_K ds_157 (by decide) h
theorem a_158 {mi : IM} {ml : JM} {j : Nat} (h : j < 60) : aI 100 158 (nI j) (K mi ml) = some (mi 158 j) := aI_K ds_158 (by decide) h
theorem s_158 {mi : IM} {ml : JM} {j : Nat} {v : Int32} (h : j < 60) : sI 100 158 (nI j) v (K mi ml) = some (K (upd2 mi 158 j (nrw 100 v)) ml) := sI_K ds_158 (by decide) h
theorem a_160 {mi : IM} {ml : JM} {j : Nat} (h : j < 8) : aI 100 160 (nI j) (K mi ml) = some (mi 160 j) := aI_K ds_160 (by decide) h
theorem s_160 {mi : IM} {ml : JM} {j : Nat} {v : Int32} (h : j < 8) : sI 100 160 (nI j) v (K mi ml) = some (K (upd2 mi 160 j (nrw 100 v)) ml) := sI_K ds_160 (by decide) h
theorem a_161 {mi : IM} {ml : JM} {j : Nat} (h : j < 8) : aI 100 161 (nI j) (K mi ml) = some (mi 161 j) := aI_K ds_161 (by decide) h
theorem s_161 {mi : IM} {ml : JM} {j : Nat} {v : Int32} (h : j < 8) : sI 100 161 (nI j) v (K mi ml) = some (K (upd2 mi 161 j (nrw 100 v)) ml) := sI_K ds_161 (by decide) h
theorem a_162 {mi : IM} {ml : JM} {j : Nat} (h : j < 8) : aI 100 162 (nI j) (K mi ml) = some (mi 162 j) := aI_K ds_162 (by decide) h
theorem s_162 {mi : IM} {ml : JM} {j : Nat} {v : Int32} (h : j < 8) : sI 100 162 (nI j) v (K mi ml) = some (K (upd2 mi 162 j (nrw 100 v)) ml) := sI_K ds_162 (by decide) h
theorem a_163 {mi : IM} {ml : JM} {j : Nat} (h : j < 8) : aI 100 163 (nI j) (K mi ml) = some (mi 163 j) := aI_K ds_163 (by decide) h
theorem s_163 {mi : IM} {ml : JM} {j : Nat} {v : Int32} (h : j < 8) : sI 100 163 (nI j) v (K mi ml) = some (K (upd2 mi 163 j (nrw 100 v)) ml) := sI_K ds_163 (by decide) h
theorem a_164 {mi : IM} {ml : JM} {j : Nat} (h : j < 8) : aI 100 164 (nI j) (K mi ml) = some (mi 164 j) := aI_K ds_164 (by decide) h
theorem s_164 {mi : IM} {ml : JM} {j : Nat} {v : Int32} (h : j < 8) : sI 100 164 (nI j) v (K mi ml) = some (K (upd2 mi 164 j (nrw 100 v)) ml) := sI_K ds_164 (by decide) h
theorem a_165 {mi : IM} {ml : JM} {j : Nat} (h : j < 8) : aI 100 165 (nI j) (K mi ml) = some (mi 165 j) := aI_K ds_165 (by decide) h
theorem s_165 {mi : IM} {ml : JM} {j : Nat} {v : Int32} (h : j < 8) : sI 100 165 (nI j) v (K mi ml) = some (K (upd2 mi 165 j (nrw 100 v)) ml) := sI_K ds_165 (by decide) h
theorem a_166 {mi : IM} {ml : JM} {j : Nat} (h : j < 8) : aI 100 166 (nI j) (K mi ml) = some (mi 166 j) := aI_K ds_166 (by decide) h
theorem s_166 {mi : IM} {ml : JM} {j : Nat} {v : Int32} (h : j < 8) : sI 100 166 (nI j) v (K mi ml) = some (K (upd2 mi 166 j (nrw 100 v)) ml) := sI_K ds_166 (by decide) h
theorem a_167 {mi : IM} {ml : JM} {j : Nat} (h : j < 8) : aI 100 167 (nI j) (K mi ml) = some (mi 167 j) := aI_K ds_167 (by decide) h
theorem s_167 {mi : IM} {ml : JM} {j : Nat} {v : Int32} (h : j < 8) : sI 100 167 (nI j) v (K mi ml) = some (K (upd2 mi 167 j (nrw 100 v)) ml) := sI_K ds_167 (by decide) h
theorem a_168 {mi : IM} {ml : JM} {j : Nat} (h : j < 8) : aI 100 168 (nI j) (K mi ml) = some (mi 168 j) := aI_K ds_168 (by decide) h
theorem s_168 {mi : IM} {ml : JM} {j : Nat} {v : Int32} (h : j < 8) : sI 100 168 (nI j) v (K mi ml) = some (K (upd2 mi 168 j (nrw 100 v)) ml) := sI_K ds_168 (by decide) h
theorem a_169 {mi : IM} {ml : JM} {j : Nat} (h : j < 8) : aI 100 169 (nI j) (K mi ml) = some (mi 169 j) := aI_K ds_169 (by decide) h
theorem s_169 {mi : IM} {ml : JM} {j : Nat} {v : Int32} (h : j < 8) : sI 100 169 (nI j) v (K mi ml) = some (K (upd2 mi 169 j (nrw 100 v)) ml) := sI_K ds_169 (by decide) h
theorem a_170 {mi : IM} {ml : JM} {j : Nat} (h : j < 8) : aI 100 170 (nI j) (K mi ml) = some (mi 170 j) := aI_K ds_170 (by decide) h
theorem s_170 {mi : IM} {ml : JM} {j : Nat} {v : Int32} (h : j < 8) : sI 100 170 (nI j) v (K mi ml) = some (K (upd2 mi 170 j (nrw 100 v)) ml) := sI_K ds_170 (by decide) h
theorem a_171 {mi : IM} {ml : JM} {j : Nat} (h : j < 8) : aI 100 171 (nI j) (K mi ml) = some (mi 171 j) := aI_K ds_171 (by decide) h
theorem s_171 {mi : IM} {ml : JM} {j : Nat} {v : Int32} (h : j < 8) : sI 100 171 (nI j) v (K mi ml) = some (K (upd2 mi 171 j (nrw 100 v)) ml) := sI_K ds_171 (by decide) h
theorem a_172 {mi : IM} {ml : JM} {j : Nat} (h : j < 8) : aI 100 172 (nI j) (K mi ml) = some (mi 172 j) := aI_K ds_172 (by decide) h
theorem s_172 {mi : IM} {ml : JM} {j : Nat} {v : Int32} (h : j < 8) : sI 100 172 (nI j) v (K mi ml) = some (K (upd2 mi 172 j (nrw 100 v)) ml) := sI_K ds_172 (by decide) h
theorem a_173 {mi : IM} {ml : JM} {j : Nat} (h : j < 8) : aI 100 173 (nI j) (K mi ml) = some (mi 173 j) := aI_K ds_173 (by decide) h
theorem s_173 {mi : IM} {ml : JM} {j : Nat} {v : Int32} (h : j < 8) : sI 100 173 (nI j) v (K mi ml) = some (K (upd2 mi 173 j (nrw 100 v)) ml) := sI_K ds_173 (by decide) h
theorem a_174 {mi : IM} {ml : JM} {j : Nat} (h : j < 8) : aI 100 174 (nI j) (K mi ml) = some (mi 174 j) := aI_K ds_174 (by decide) h
theorem s_174 {mi : IM} {ml : JM} {j : Nat} {v : Int32} (h : j < 8) : sI 100 174 (nI j) v (K mi ml) = some (K (upd2 mi 174 j (nrw 100 v)) ml) := sI_K ds_174 (by decide) h
theorem a_175 {mi : IM} {ml : JM} {j : Nat} (h : j < 8) : aI 100 175 (nI j) (K mi ml) = some (mi 175 j) := aI_K ds_175 (by decide) h
theorem s_175 {mi : IM} {ml : JM} {j : Nat} {v : Int32} (h : j < 8) : sI 100 175 (nI j) v (K mi ml) = some (K (upd2 mi 175 j (nrw 100 v)) ml) := sI_K ds_175 (by decide) h
theorem a_176 {mi : IM} {ml : JM} {j : Nat} (h : j < 8) : aI 100 176 (nI j) (K mi ml) = some (mi 176 j) := aI_K ds_176 (by decide) h
theorem s_176 {mi : IM} {ml : JM} {j : Nat} {v : Int32} (h : j < 8) : sI 100 176 (nI j) v (K mi ml) = some (K (upd2 mi 176 j (nrw 100 v)) ml) := sI_K ds_176 (by decide) h
theorem a_177 {mi : IM} {ml : JM} {j : Nat} (h : j < 8) : aI 100 177 (nI j) (K mi ml) = some (mi 177 j) := aI_K ds_177 (by decide) h
theorem s_177 {mi : IM} {ml : JM} {j : Nat} {v : Int32} (h : j < 8) : sI 100 177 (nI j) v (K mi ml) = some (K (upd2 mi 177 j (nrw 100 v)) ml) := sI_K ds_177 (by decide) h
theorem a_178 {mi : IM} {ml : JM} {j : Nat} (h : j < 8) : aI 100 178 (nI j) (K mi ml) = some (mi 178 j) := aI_K ds_178 (by decide) h
theorem s_178 {mi : IM} {ml : JM} {j : Nat} {v : Int32} (h : j < 8) : sI 100 178 (nI j) v (K mi ml) = some (K (upd2 mi 178 j (nrw 100 v)) ml) := sI_K ds_178 (by decide) h
theorem a_179 {mi : IM} {ml : JM} {j : Nat} (h : j < 8) : aI 100 179 (nI j) (K mi ml) = some (mi 179 j) := aI_K ds_179 (by decide) h
theorem s_179 {mi : IM} {ml : JM} {j : Nat} {v : Int32} (h : j < 8) : sI 100 179 (nI j) v (K mi ml) = some (K (upd2 mi 179 j (nrw 100 v)) ml) := sI_K ds_179 (by decide) h
theorem a_180 {mi : IM} {ml : JM} {j : Nat} (h : j < 8) : aI 100 180 (nI j) (K mi ml) = some (mi 180 j) := aI_K ds_180 (by decide) h
theorem s_180 {mi : IM} {ml : JM} {j : Nat} {v : Int32} (h : j < 8) : sI 100 180 (nI j) v (K mi ml) = some (K (upd2 mi 180 j (nrw 100 v)) ml) := sI_K ds_180 (by decide) h
theorem a_181 {mi : IM} {ml : JM} {j : Nat} (h : j < 8) : aI 100 181 (nI j) (K mi ml) = some (mi 181 j) := aI_K ds_181 (by decide) h
theorem s_181 {mi : IM} {ml : JM} {j : Nat} {v : Int32} (h : j < 8) : sI 100 181 (nI j) v (K mi ml) = some (K (upd2 mi 181 j (nrw 100 v)) ml) := sI_K ds_181 (by decide) h
theorem a_182 {mi : IM} {ml : JM} {j : Nat} (h : j < 8) : aI 100 182 (nI j) (K mi ml) = some (mi 182 j) := aI_K ds_182 (by decide) h
theorem s_182 {mi : IM} {ml : JM} {j : Nat} {v : Int32} (h : j < 8) : sI 100 182 (nI j) v (K mi ml) = some (K (upd2 mi 182 j (nrw 100 v)) ml) := sI_K ds_182 (by decide) h
theorem a_183 {mi : IM} {ml : JM} {j : Nat} (h : j < 8) : aI 100 183 (nI j) (K mi ml) = some (mi 183 j) := aI_K ds_183 (by decide) h
theorem s_183 {mi : IM} {ml : JM} {j : Nat} {v : Int32} (h : j < 8) : sI 100 183 (nI j) v (K mi ml) = some (K (upd2 mi 183 j (nrw 100 v)) ml) := sI_K ds_183 (by decide) h
theorem a_184 {mi : IM} {ml : JM} {j : Nat} (h : j < 8) : aI 100 184 (nI j) (K mi ml) = some (mi 184 j) := aI_K ds_184 (by decide) h
theorem s_184 {mi : IM} {ml : JM} {j : Nat} {v : Int32} (h : j < 8) : sI 100 184 (nI j) v (K mi ml) = some (K (upd2 mi 184 j (nrw 100 v)) ml) := sI_K ds_184 (by decide) h
theorem a_185 {mi : IM} {ml : JM} {j : Nat} (h : j < 8) : aI 100 185 (nI j) (K mi ml) = some (mi 185 j) := aI_K ds_185 (by decide) h
theorem s_185 {mi : IM} {ml : JM} {j : Nat} {v : Int32} (h : j < 8) : sI 100 185 (nI j) v (K mi ml) = some (K (upd2 mi 185 j (nrw 100 v)) ml) := sI_K ds_185 (by decide) h
theorem a_186 {mi : IM} {ml : JM} {j : Nat} (h : j < 8) : aI 100 186 (nI j) (K mi ml) = some (mi 186 j) := aI_K ds_186 (by decide) h
theorem s_186 {mi : IM} {ml : JM} {j : Nat} {v : Int32} (h : j < 8) : sI 100 186 (nI j) v (K mi ml) = some (K (upd2 mi 186 j (nrw 100 v)) ml) := sI_K ds_186 (by decide) h
theorem a_187 {mi : IM} {ml : JM} {j : Nat} (h : j < 8) : aI 100 187 (nI j) (K mi ml) = some (mi 187 j) := aI_K ds_187 (by decide) h
theorem s_187 {mi : IM} {ml : JM} {j : Nat} {v : Int32} (h : j < 8) : sI 100 187 (nI j) v (K mi ml) = some (K (upd2 mi 187 j (nrw 100 v)) ml) := sI_K ds_187 (by decide) h
theorem a_188 {mi : IM} {ml : JM} {j : Nat} (h : j < 8) : aI 100 188 (nI j) (K mi ml) = some (mi 188 j) := aI_K ds_188 (by decide) h
theorem s_188 {mi : IM} {ml : JM} {j : Nat} {v : Int32} (h : j < 8) : sI 100 188 (nI j) v (K mi ml) = some (K (upd2 mi 188 j (nrw 100 v)) ml) := sI_K ds_188 (by decide) h
theorem a_189 {mi : IM} {ml : JM} {j : Nat} (h : j < 8) : aI 100 189 (nI j) (K mi ml) = some (mi 189 j) := aI_K ds_189 (by decide) h
theorem s_189 {mi : IM} {ml : JM} {j : Nat} {v : Int32} (h : j < 8) : sI 100 189 (nI j) v (K mi ml) = some (K (upd2 mi 189 j (nrw 100 v)) ml) := sI_K ds_189 (by decide) h
theorem a_190 {mi : IM} {ml : JM} {j : Nat} (h : j < 8) : aI 100 190 (nI j) (K mi ml) = some (mi 190 j) := aI_K ds_190 (by decide) h
theorem s_190 {mi : IM} {ml : JM} {j : Nat} {v : Int32} (h : j < 8) : sI 100 190 (nI j) v (K mi ml) = some (K (upd2 mi 190 j (nrw 100 v)) ml) := sI_K ds_190 (by decide) h
theorem a_191 {mi : IM} {ml : JM} {j : Nat} (h : j < 8) : aI 100 191 (nI j) (K mi ml) = some (mi 191 j) := aI_K ds_191 (by decide) h
theorem s_191 {mi : IM} {ml : JM} {j : Nat} {v : Int32} (h : j < 8) : sI 100 191 (nI j) v (K mi ml) = some (K (upd2 mi 191 j (nrw 100 v)) ml) := sI_K ds_191 (by decide) h
theorem a_192 {mi : IM} {ml : JM} {j : Nat} (h : j < 8) : aI 100 192 (nI j) (K mi ml) = some (mi 192 j) := aI_K ds_192 (by decide) h
theorem s_192 {mi : IM} {ml : JM} {j : Nat} {v : Int32} (h : j < 8) : sI 100 192 (nI j) v (K mi ml) = some (K (upd2 mi 192 j (nrw 100 v)) ml) := sI_K ds_192 (by decide) h
theorem a_193 {mi : IM} {ml : JM} {j : Nat} (h : j < 8) : aI 100 193 (nI j) (K mi ml) = some (mi 193 j) := aI_K ds_193 (by decide) h
theorem s_193 {mi : IM} {ml : JM} {j : Nat} {v : Int32} (h : j < 8) : sI 100 193 (nI j) v (K mi ml) = some (K (upd2 mi 193 j (nrw 100 v)) ml) := sI_K ds_193 (by decide) h
theorem a_194 {mi : IM} {ml : JM} {j : Nat} (h : j < 8) : aI 100 194 (nI j) (K mi ml) = some (mi 194 j) := aI_K ds_194 (by decide) h
theorem s_194 {mi : IM} {ml : JM} {j : Nat} {v : Int32} (h : j < 8) : sI 100 194 (nI j) v (K mi ml) = some (K (upd2 mi 194 j (nrw 100 v)) ml) := sI_K ds_194 (by decide) h
theorem a_195 {mi : IM} {ml : JM} {j : Nat} (h : j < 8) : aI 100 195 (nI j) (K mi ml) = some (mi 195 j) := aI_K ds_195 (by decide) h
theorem s_195 {mi : IM} {ml : JM} {j : Nat} {v : Int32} (h : j < 8) : sI 100 195 (nI j) v (K mi ml) = some (K (upd2 mi 195 j (nrw 100 v)) ml) := sI_K ds_195 (by decide) h
theorem a_196 {mi : IM} {ml : JM} {j : Nat} (h : j < 8) : aI 100 196 (nI j) (K mi ml) = some (mi 196 j) := aI_K ds_196 (by decide) h
theorem s_196 {mi : IM} {ml : JM} {j : Nat} {v : Int32} (h : j < 8) : sI 100 196 (nI j) v (K mi ml) = some (K (upd2 mi 196 j (nrw 100 v)) ml) := sI_K ds_196 (by decide) h
theorem a_197 {mi : IM} {ml : JM} {j : Nat} (h : j < 8) : aI 100 197 (nI j) (K mi ml) = some (mi 197 j) := aI_K ds_197 (by decide) h
theorem s_197 {mi : IM} {ml : JM} {j : Nat} {v : Int32} (h : j < 8) : sI 100 197 (nI j) v (K mi ml) = some (K (upd2 mi 197 j (nrw 100 v)) ml) := sI_K ds_197 (by decide) h
theorem a_198 {mi : IM} {ml : JM} {j : Nat} (h : j < 8) : aI 100 198 (nI j) (K mi ml) = some (mi 198 j) := aI_K ds_198 (by decide) h
theorem s_198 {mi : IM} {ml : JM} {j : Nat} {v : Int32} (h : j < 8) : sI 100 198 (nI j) v (K mi ml) = some (K (upd2 mi 198 j (nrw 100 v)) ml) := sI_K ds_198 (by decide) h
theorem a_199 {mi : IM} {ml : JM} {j : Nat} (h : j < 8) : aI 100 199 (nI j) (K mi ml) = some (mi 199 j) := aI_K ds_199 (by decide) h
theorem s_199 {mi : IM} {ml : JM} {j : Nat} {v : Int32} (h : j < 8) : sI 100 199 (nI j) v (K mi ml) = some (K (upd2 mi 199 j (nrw 100 v)) ml) := sI_K ds_199 (by decide) h
theorem a_200 {mi : IM} {ml : JM} {j : Nat} (h : j < 8) : aI 100 200 (nI j) (K mi ml) = some (mi 200 j) := aI_K ds_200 (by decide) h
theorem s_200 {mi : IM} {ml : JM} {j : Nat} {v : Int32} (h : j < 8) : sI 100 200 (nI j) v (K mi ml) = some (K (upd2 mi 200 j (nrw 100 v)) ml) := sI_K ds_200 (by decide) h
theorem a_201 {mi : IM} {ml : JM} {j : Nat} (h : j < 8) : aI 100 201 (nI j) (K mi ml) = some (mi 201 j) := aI_K ds_201 (by decide) h
theorem s_201 {mi : IM} {ml : JM} {j : Nat} {v : Int32} (h : j < 8) : sI 100 201 (nI j) v (K mi ml) = some (K (upd2 mi 201 j (nrw 100 v)) ml) := sI_K ds_201 (by decide) h
theorem a_202 {mi : IM} {ml : JM} {j : Nat} (h : j < 8) : aI 100 202 (nI j) (K mi ml) = some (mi 202 j) := aI_K ds_202 (by decide) h
theorem s_202 {mi : IM} {ml : JM} {j : Nat} {v : Int32} (h : j < 8) : sI 100 202 (nI j) v (K mi ml) = some (K (upd2 mi 202 j (nrw 100 v)) ml) := sI_K ds_202 (by decide) h
theorem a_203 {mi : IM} {ml : JM} {j : Nat} (h : j < 8) : aI 100 203 (nI j) (K mi ml) = some (mi 203 j) := aI_K ds_203 (by decide) h
theorem s_203 {mi : IM} {ml : JM} {j : Nat} {v : Int32} (h : j < 8) : sI 100 203 (nI j) v (K mi ml) = some (K (upd2 mi 203 j (nrw 100 v)) ml) := sI_K ds_203 (by decide) h
theorem a_204 {mi : IM} {ml : JM} {j : Nat} (h : j < 8) : aI 100 204 (nI j) (K mi ml) = some (mi 204 j) := aI_K ds_204 (by decide) h
theorem s_204 {mi : IM} {ml : JM} {j : Nat} {v : Int32} (h : j < 8) : sI 100 204 (nI j) v (K mi ml) = some (K (upd2 mi 204 j (nrw 100 v)) ml) := sI_K ds_204 (by decide) h
theorem a_205 {mi : IM} {ml : JM} {j : Nat} (h : j < 8) : aI 100 205 (nI j) (K mi ml) = some (mi 205 j) := aI_K ds_205 (by decide) h
theorem s_205 {mi : IM} {ml : JM} {j : Nat} {v : Int32} (h : j < 8) : sI 100 205 (nI j) v (K mi ml) = some (K (upd2 mi 205 j (nrw 100 v)) ml) := sI_K ds_205 (by decide) h
theorem a_206 {mi : IM} {ml : JM} {j : Nat} (h : j < 8) : aI 100 206 (nI j) (K mi ml) = some (mi 206 j) := aI_K ds_206 (by decide) h
theorem s_206 {mi : IM} {ml : JM} {j : Nat} {v : Int32} (h : j < 8) : sI 100 206 (nI j) v (K mi ml) = some (K (upd2 mi 206 j (nrw 100 v)) ml) := sI_K ds_206 (by decide) h
theorem a_207 {mi : IM} {ml : JM} {j : Nat} (h : j < 8) : aI 100 207 (nI j) (K mi ml) = some (mi 207 j) := aI_K ds_207 (by decide) h
theorem s_207 {mi : IM} {ml : JM} {j : Nat} {v : Int32} (h : j < 8) : sI 100 207 (nI j) v (K mi ml) = some (K (upd2 mi 207 j (nrw 100 v)) ml) := sI_K ds_207 (by decide) h
theorem a_208 {mi : IM} {ml : JM} {j : Nat} (h : j < 8) : aI 100 208 (nI j) (K mi ml) = some (mi 208 j) := aI_K ds_208 (by decide) h
theorem s_208 {mi : IM} {ml : JM} {j : Nat} {v : Int32} (h : j < 8) : sI 100 208 (nI j) v (K mi ml) = some (K (upd2 mi 208 j (nrw 100 v)) ml) := sI_K ds_208 (by decide) h
theorem a_209 {mi : IM} {ml : JM} {j : Nat} (h : j < 8) : aI 100 209 (nI j) (K mi ml) = some (mi 209 j) := aI_K ds_209 (by decide) h
theorem s_209 {mi : IM} {ml : JM} {j : Nat} {v : Int32} (h : j < 8) : sI 100 209 (nI j) v (K mi ml) = some (K (upd2 mi 209 j (nrw 100 v)) ml) := sI_K ds_209 (by decide) h
theorem a_210 {mi : IM} {ml : JM} {j : Nat} (h : j < 8) : aI 100 210 (nI j) (K mi ml) = some (mi 210 j) := aI_K ds_210 (by decide) h
theorem s_210 {mi : IM} {ml : JM} {j : Nat} {v : Int32} (h : j < 8) : sI 100 210 (nI j) v (K mi ml) = some (K (upd2 mi 210 j (nrw 100 v)) ml) := sI_K ds_210 (by decide) h
theorem a_211 {mi : IM} {ml : JM} {j : Nat} (h : j < 8) : aI 100 211 (nI j) (K mi ml) = some (mi 211 j) := aI_K ds_211 (by decide) h
theorem s_211 {mi : IM} {ml : JM} {j : Nat} {v : Int32} (h : j < 8) : sI 100 211 (nI j) v (K mi ml) = some (K (upd2 mi 211 j (nrw 100 v)) ml) := sI_K ds_211 (by decide) h
theorem a_212 {mi : IM} {ml : JM} {j : Nat} (h : j < 8) : aI 100 212 (nI j) (K mi ml) = some (mi 212 j) := aI_K ds_212 (by decide) h
theorem s_212 {mi : IM} {ml : JM} {j : Nat} {v : Int32} (h : j < 8) : sI 100 212 (nI j) v (K mi ml) = some (K (upd2 mi 212 j (nrw 100 v)) ml) := sI_K ds_212 (by decide) h
theorem a_213 {mi : IM} {ml : JM} {j : Nat} (h : j < 8) : aI 100 213 (nI j) (K mi ml) = some (mi 213 j) := aI_K ds_213 (by decide) h
theorem s_213 {mi : IM} {ml : JM} {j : Nat} {v : Int32} (h : j < 8) : sI 100 213 (nI j) v (K mi ml) = some (K (upd2 mi 213 j (nrw 100 v)) ml) := sI_K ds_213 (by decide) h
theorem a_214 {mi : IM} {ml : JM} {j : Nat} (h : j < 8) : aI 100 214 (nI j) (K mi ml) = some (mi 214 j) := aI_K ds_214 (by decide) h
theorem s_214 {mi : IM} {ml : JM} {j : Nat} {v : Int32} (h : j < 8) : sI 100 214 (nI j) v (K mi ml) = some (K (upd2 mi 214 j (nrw 100 v)) ml) := sI_K ds_214 (by decide) h
theorem a_215 {mi : IM} {ml : JM} {j : Nat} (h : j < 8) : aI 100 215 (nI j) (K mi ml) = some (mi 215 j) := aI_K ds_215 (by decide) h
theorem s_215 {mi : IM} {ml : JM} {j : Nat} {v : Int32} (h : j < 8) : sI 100 215 (nI j) v (K mi ml) = some (K (upd2 mi 215 j (nrw 100 v)) ml) := sI_K ds_215 (by decide) h
theorem a_216 {mi : IM} {ml : JM} {j : Nat} (h : j < 8) : aI 100 216 (nI j) (K mi ml) = some (mi 216 j) := aI_K ds_216 (by decide) h
theorem s_216 {mi : IM} {ml : JM} {j : Nat} {v : Int32} (h : j < 8) : sI 100 216 (nI j) v (K mi ml) = some (K (upd2 mi 216 j (nrw 100 v)) ml) := sI_K ds_216 (by decide) h
theorem a_217 {mi : IM} {ml : JM} {j : Nat} (h : j < 8) : aI 100 217 (nI j) (K mi ml) = some (mi 217 j) := aI_K ds_217 (by decide) h
theorem s_217 {mi : IM} {ml : JM} {j : Nat} {v : Int32} (h : j < 8) : sI 100 217 (nI j) v (K mi ml) = some (K (upd2 mi 217 j (nrw 100 v)) ml) := sI_K ds_217 (by decide) h
theorem a_218 {mi : IM} {ml : JM} {j : Nat} (h : j < 8) : aI 100 218 (nI j) (K mi ml) = some (mi 218 j) := aI_K ds_218 (by decide) h
theorem s_218 {mi : IM} {ml : JM} {j : Nat} {v : Int32} (h : j < 8) : sI 100 218 (nI j) v (K mi ml) = some (K (upd2 mi 218 j (nrw 100 v)) ml) := sI_K ds_218 (by decide) h
theorem a_219 {mi : IM} {ml : JM} {j : Nat} (h : j < 8) : aI 100 219 (nI j) (K mi ml) = some (mi 219 j) := aI_K ds_219 (by decide) h
theorem s_219 {mi : IM} {ml : JM} {j : Nat} {v : Int32} (h : j < 8) : sI 100 219 (nI j) v (K mi ml) = some (K (upd2 mi 219 j (nrw 100 v)) ml) := sI_K ds_219 (by decide) h
theorem a_220 {mi : IM} {ml : JM} {j : Nat} (h : j < 60) : aI 100 220 (nI j) (K mi ml) = some (mi 220 j) := aI_K ds_220 (by decide) h
theorem s_220 {mi : IM} {ml : JM} {j : Nat} {v : Int32} (h : j < 60) : sI 100 220 (nI j) v (K mi ml) = some (K (upd2 mi 220 j (nrw 100 v)) ml) := sI_K ds_220 (by decide) h
theorem a_222 {mi : IM} {ml : JM} {j : Nat} (h : j < 8) : aI 100 222 (nI j) (K mi ml) = some (mi 222 j) := aI_K ds_222 (by decide) h
theorem s_222 {mi : IM} {ml : JM} {j : Nat} {v : Int32} (h : j < 8) : sI 100 222 (nI j) v (K mi ml) = some (K (upd2 mi 222 j (nrw 100 v)) ml) := sI_K ds_222 (by decide) h
theorem a_225 {mi : IM} {ml : JM} {j : Nat} (h : j < 8) : aI 100 225 (nI j) (K mi ml) = some (mi 225 j) := aI_K ds_225 (by decide) h
theorem s_225 {mi : IM} {ml : JM} {j : Nat} {v : Int32} (h : j < 8) : sI 100 225 (nI j) v (K mi ml) = some (K (upd2 mi 225 j (nrw 100 v)) ml) := sI_K ds_225 (by decide) h
theorem a_227 {mi : IM} {ml : JM} {j : Nat} (h : j < 8) : aI 100 227 (nI j) (K mi ml) = some (mi 227 j) := aI_K ds_227 (by decide) h
theorem s_227 {mi : IM} {ml : JM} {j : Nat} {v : Int32} (h : j < 8) : sI 100 227 (nI j) v (K mi ml) = some (K (upd2 mi 227 j (nrw 100 v)) ml) := sI_K ds_227 (by decide) h
theorem a_228 {mi : IM} {ml : JM} {j : Nat} (h : j < 8) : aI 100 228 (nI j) (K mi ml) = some (mi 228 j) := aI_K ds_228 (by decide) h
theorem s_228 {mi : IM} {ml : JM} {j : Nat} {v : Int32} (h : j < 8) : sI 100 228 (nI j) v (K mi ml) = some (K (upd2 mi 228 j (nrw 100 v)) ml) := sI_K ds_228 (by decide) h
theorem a_229 {mi : IM} {ml : JM} {j : Nat} (h : j < 8) : aI 100 229 (nI j) (K mi ml) = some (mi 229 j) := aI_K ds_229 (by decide) h
theorem s_229 {mi : IM} {ml : JM} {j : Nat} {v : Int32} (h : j < 8) : sI 100 229 (nI j) v (K mi ml) = some (K (upd2 mi 229 j (nrw 100 v)) ml) := sI_K ds_229 (by decide) h
theorem a_230 {mi : IM} {ml : JM} {j : Nat} (h : j < 8) : aI 100 230 (nI j) (K mi ml) = some (mi 230 j) := aI_K ds_230 (by decide) h
theorem s_230 {mi : IM} {ml : JM} {j : Nat} {v : Int32} (h : j < 8) : sI 100 230 (nI j) v (K mi ml) = some (K (upd2 mi 230 j (nrw 100 v)) ml) := sI_K ds_230 (by decide) h
theorem a_232 {mi : IM} {ml : JM} {j : Nat} (h : j < 8) : aI 100 232 (nI j) (K mi ml) = some (mi 232 j) := aI_K ds_232 (by decide) h
theorem s_232 {mi : IM} {ml : JM} {j : Nat} {v : Int32} (h : j < 8) : sI 100 232 (nI j) v (K mi ml) = some (K (upd2 mi 232 j (nrw 100 v)) ml) := sI_K ds_232 (by decide) h
theorem a_234 {mi : IM} {ml : JM} {j : Nat} (h : j < 8) : aI 100 234 (nI j) (K mi ml) = some (mi 234 j) := aI_K ds_234 (by decide) h
theorem s_234 {mi : IM} {ml : JM} {j : Nat} {v : Int32} (h : j < 8) : sI 100 234 (nI j) v (K mi ml) = some (K (upd2 mi 234 j (nrw 100 v)) ml) := sI_K ds_234 (by decide) h
theorem a_236 {mi : IM} {ml : JM} {j : Nat} (h : j < 8) : aI 100 236 (nI j) (K mi ml) = some (mi 236 j) := aI_K ds_236 (by decide) h
theorem s_236 {mi : IM} {ml : JM} {j : Nat} {v : Int32} (h : j < 8) : sI 100 236 (nI j) v (K mi ml) = some (K (upd2 mi 236 j (nrw 100 v)) ml) := sI_K ds_236 (by decide) h
theorem a_238 {mi : IM} {ml : JM} {j : Nat} (h : j < 8) : aI 100 238 (nI j) (K mi ml) = some (mi 238 j) := aI_K ds_238 (by decide) h
theorem s_238 {mi : IM} {ml : JM} {j : Nat} {v : Int32} (h : j < 8) : sI 100 238 (nI j) v (K mi ml) = some (K (upd2 mi 238 j (nrw 100 v)) ml) := sI_K ds_238 (by decide) h
theorem a_240 {mi : IM} {ml : JM} {j : Nat} (h : j < 8) : aI 100 240 (nI j) (K mi ml) = some (mi 240 j) := aI_K ds_240 (by decide) h
theorem s_240 {mi : IM} {ml : JM} {j : Nat} {v : Int32} (h : j < 8) : sI 100 240 (nI j) v (K mi ml) = some (K (upd2 mi 240 j (nrw 100 v)) ml) := sI_K ds_240 (by decide) h
theorem a_242 {mi : IM} {ml : JM} {j : Nat} (h : j < 8) : aI 100 242 (nI j) (K mi ml) = some (mi 242 j) := aI_K ds_242 (by decide) h
theorem s_242 {mi : IM} {ml : JM} {j : Nat} {v : Int32} (h : j < 8) : sI 100 242 (nI j) v (K mi ml) = some (K (upd2 mi 242 j (nrw 100 v)) ml) := sI_K ds_242 (by decide) h
theorem a_244 {mi : IM} {ml : JM} {j : Nat} (h : j < 8) : aI 100 244 (nI j) (K mi ml) = some (mi 244 j) := aI_K ds_244 (by decide) h
theorem s_244 {mi : IM} {ml : JM} {j : Nat} {v : Int32} (h : j < 8) : sI 100 244 (nI j) v (K mi ml) = some (K (upd2 mi 244 j (nrw 100 v)) ml) := sI_K ds_244 (by decide) h
theorem a_246 {mi : IM} {ml : JM} {j : Nat} (h : j < 8) : aI 100 246 (nI j) (K mi ml) = some (mi 246 j) := aI_K ds_246 (by decide) h
theorem s_246 {mi : IM} {ml : JM} {j : Nat} {v : Int32} (h : j < 8) : sI 100 246 (nI j) v (K mi ml) = some (K (upd2 mi 246 j (nrw 100 v)) ml) := sI_K ds_246 (by decide) h
theorem a_249 {mi : IM} {ml : JM} {j : Nat} (h : j < 8) : aI 100 249 (nI j) (K mi ml) = some (mi 249 j) := aI_K ds_249 (by decide) h
theorem s_249 {mi : IM} {ml : JM} {j : Nat} {v : Int32} (h : j < 8) : sI 100 249 (nI j) v (K mi ml) = some (K (upd2 mi 249 j (nrw 100 v)) ml) := sI_K ds_249 (by decide) h
theorem a_251 {mi : IM} {ml : JM} {j : Nat} (h : j < 8) : aI 100 251 (nI j) (K mi ml) = some (mi 251 j) := aI_K ds_251 (by decide) h
theorem s_251 {mi : IM} {ml : JM} {j : Nat} {v : Int32} (h : j < 8) : sI 100 251 (nI j) v (K mi ml) = some (K (upd2 mi 251 j (nrw 100 v)) ml) := sI_K ds_251 (by decide) h
theorem a_252 {mi : IM} {ml : JM} {j : Nat} (h : j < 8) : aI 100 252 (nI j) (K mi ml) = some (mi 252 j) := aI_K ds_252 (by decide) h
theorem s_252 {mi : IM} {ml : JM} {j : Nat} {v : Int32} (h : j < 8) : sI 100 252 (nI j) v (K mi ml) = some (K (upd2 mi 252 j (nrw 100 v)) ml) := sI_K ds_252 (by decide) h
theorem a_253 {mi : IM} {ml : JM} {j : Nat} (h : j < 8) : aI 100 253 (nI j) (K mi ml) = some (mi 253 j) := aI_K ds_253 (by decide) h
theorem s_253 {mi : IM} {ml : JM} {j : Nat} {v : Int32} (h : j < 8) : sI 100 253 (nI j) v (K mi ml) = some (K (upd2 mi 253 j (nrw 100 v)) ml) := sI_K ds_253 (by decide) h
theorem a_254 {mi : IM} {ml : JM} {j : Nat} (h : j < 8) : aI 100 254 (nI j) (K mi ml) = some (mi 254 j) := aI_K ds_254 (by decide) h
theorem s_254 {mi : IM} {ml : JM} {j : Nat} {v : Int32} (h : j < 8) : sI 100 254 (nI j) v (K mi ml) = some (K (upd2 mi 254 j (nrw 100 v)) ml) := sI_K ds_254 (by decide) h
theorem a_256 {mi : IM} {ml : JM} {j : Nat} (h : j < 8) : aI 100 256 (nI j) (K mi ml) = some (mi 256 j) := aI_K ds_256 (by decide) h
theorem s_256 {mi : IM} {ml : JM} {j : Nat} {v : Int32} (h : j < 8) : sI 100 256 (nI j) v (K mi ml) = some (K (upd2 mi 256 j (nrw 100 v)) ml) := sI_K ds_256 (by decide) h
theorem a_258 {mi : IM} {ml : JM} {j : Nat} (h : j < 8) : aI 100 258 (nI j) (K mi ml) = some (mi 258 j) := aI_K ds_258 (by decide) h
theorem s_258 {mi : IM} {ml : JM} {j : Nat} {v : Int32} (h : j < 8) : sI 100 258 (nI j) v (K mi ml) = some (K (upd2 mi 258 j (nrw 100 v)) ml) := sI_K ds_258 (by decide) h
theorem a_260 {mi : IM} {ml : JM} {j : Nat} (h : j < 8) : aI 100 260 (nI j) (K mi ml) = some (mi 260 j) := aI_K ds_260 (by decide) h
theorem s_260 {mi : IM} {ml : JM} {j : Nat} {v : Int32} (h : j < 8) : sI 100 260 (nI j) v (K mi ml) = some (K (upd2 mi 260 j (nrw 100 v)) ml) := sI_K ds_260 (by decide) h
theorem a_262 {mi : IM} {ml : JM} {j : Nat} (h : j < 8) : aI 100 262 (nI j) (K mi ml) = some (mi 262 j) := aI_K ds_262 (by decide) h
theorem s_262 {mi : IM} {ml : JM} {j : Nat} {v : Int32} (h : j < 8) : sI 100 262 (nI j) v (K mi ml) = some (K (upd2 mi 262 j (nrw 100 v)) ml) := sI_K ds_262 (by decide) h
theorem a_264 {mi : IM} {ml : JM} {j : Nat} (h : j < 8) : aI 100 264 (nI j) (K mi ml) = some (mi 264 j) := aI_K ds_264 (by decide) h
theorem s_264 {mi : IM} {ml : JM} {j : Nat} {v : Int32} (h : j < 8) : sI 100 264 (nI j) v (K mi ml) = some (K (upd2 mi 264 j (nrw 100 v)) ml) := sI_K ds_264 (by decide) h
theorem a_266 {mi : IM} {ml : JM} {j : Nat} (h : j < 8) : aI 100 266 (nI j) (K mi ml) = some (mi 266 j) := aI_K ds_266 (by decide) h
theorem s_266 {mi : IM} {ml : JM} {j : Nat} {v : Int32} (h : j < 8) : sI 100 266 (nI j) v (K mi ml) = some (K (upd2 mi 266 j (nrw 100 v)) ml) := sI_K ds_266 (by decide) h
theorem a_268 {mi : IM} {ml : JM} {j : Nat} (h : j < 8) : aI 100 268 (nI j) (K mi ml) = some (mi 268 j) := aI_K ds_268 (by decide) h
theorem s_268 {mi : IM} {ml : JM} {j : Nat} {v : Int32} (h : j < 8) : sI 100 268 (nI j) v (K mi ml) = some (K (upd2 mi 268 j (nrw 100 v)) ml) := sI_K ds_268 (by decide) h
theorem a_270 {mi : IM} {ml : JM} {j : Nat} (h : j < 8) : aI 100 270 (nI j) (K mi ml) = some (mi 270 j) := aI_K ds_270 (by decide) h
theorem s_270 {mi : IM} {ml : JM} {j : Nat} {v : Int32} (h : j < 8) : sI 100 270 (nI j) v (K mi ml) = some (K (upd2 mi 270 j (nrw 100 v)) ml) := sI_K ds_270 (by decide) h
theorem a_273 {mi : IM} {ml : JM} {j : Nat} (h : j < 8) : aI 100 273 (nI j) (K mi ml) = some (mi 273 j) := aI_K ds_273 (by decide) h
theorem s_273 {mi : IM} {ml : JM} {j : Nat} {v : Int32} (h : j < 8) : sI 100 273 (nI j) v (K mi ml) = some (K (upd2 mi 273 j (nrw 100 v)) ml) := sI_K ds_273 (by decide) h
theorem a_275 {mi : IM} {ml : JM} {j : Nat} (h : j < 8) : aI 100 275 (nI j) (K mi ml) = some (mi 275 j) := aI_K ds_275 (by decide) h
theorem s_275 {mi : IM} {ml : JM} {j : Nat} {v : Int32} (h : j < 8) : sI 100 275 (nI j) v (K mi ml) = some (K (upd2 mi 275 j (nrw 100 v)) ml) := sI_K ds_275 (by decide) h
theorem a_276 {mi : IM} {ml : JM} {j : Nat} (h : j < 8) : aI 100 276 (nI j) (K mi ml) = some (mi 276 j) := aI_K ds_276 (by decide) h
theorem s_276 {mi : IM} {ml : JM} {j : Nat} {v : Int32} (h : j < 8) : sI 100 276 (nI j) v (K mi ml) = some (K (upd2 mi 276 j (nrw 100 v)) ml) := sI_K ds_276 (by decide) h
theorem a_277 {mi : IM} {ml : JM} {j : Nat} (h : j < 8) : aI 100 277 (nI j) (K mi ml) = some (mi 277 j) := aI_K ds_277 (by decide) h
theorem s_277 {mi : IM} {ml : JM} {j : Nat} {v : Int32} (h : j < 8) : sI 100 277 (nI j) v (K mi ml) = some (K (upd2 mi 277 j (nrw 100 v)) ml) := sI_K ds_277 (by decide) h
theorem a_278 {mi : IM} {ml : JM} {j : Nat} (h : j < 8) : aI 100 278 (nI j) (K mi ml) = some (mi 278 j) := aI_K ds_278 (by decide) h
theorem s_278 {mi : IM} {ml : JM} {j : Nat} {v : Int32} (h : j < 8) : sI 100 278 (nI j) v (K mi ml) = some (K (upd2 mi 278 j (nrw 100 v)) ml) := sI_K ds_278 (by decide) h
theorem a_280 {mi : IM} {ml : JM} {j : Nat} (h : j < 8) : aI 100 280 (nI j) (K mi ml) = some (mi 280 j) := aI_K ds_280 (by decide) h
theorem s_280 {mi : IM} {ml : JM} {j : Nat} {v : Int32} (h : j < 8) : sI 100 280 (nI j) v (K mi ml) = some (K (upd2 mi 280 j (nrw 100 v)) ml) := sI_K ds_280 (by decide) h
theorem a_282 {mi : IM} {ml : JM} {j : Nat} (h : j < 8) : aI 100 282 (nI j) (K mi ml) = some (mi 282 j) := aI_K ds_282 (by decide) h
theorem s_282 {mi : IM} {ml : JM} {j : Nat} {v : Int32} (h : j < 8) : sI 100 282 (nI j) v (K mi ml) = some (K (upd2 mi 282 j (nrw 100 v)) ml) := sI_K ds_282 (by decide) h
theorem a_284 {mi : IM} {ml : JM} {j : Nat} (h : j < 8) : aI 100 284 (nI j) (K mi ml) = some (mi 284 j) := aI_K ds_284 (by decide) h
theorem s_284 {mi : IM} {ml : JM} {j : Nat} {v : Int32} (h : j < 8) : sI 100 284 (nI j) v (K mi ml) = some (K (upd2 mi 284 j (nrw 100 v)) ml) := sI_K ds_284 (by decide) h
theorem a_286 {mi : IM} {ml : JM} {j : Nat} (h : j < 8) : aI 100 286 (nI j) (K mi ml) = some (mi 286 j) := aI_K ds_286 (by decide) h
theorem s_286 {mi : IM} {ml : JM} {j : Nat} {v : Int32} (h : j < 8) : sI 100 286 (nI j) v (K mi ml) = some (K (upd2 mi 286 j (nrw 100 v)) ml) := sI_K ds_286 (by decide) h
theorem a_288 {mi : IM} {ml : JM} {j : Nat} (h : j < 8) : aI 100 288 (nI j) (K mi ml) = some (mi 288 j) := aI_K ds_288 (by decide) h
theorem s_288 {mi : IM} {ml : JM} {j : Nat} {v : Int32} (h : j < 8) : sI 100 288 (nI j) v (K mi ml) = some (K (upd2 mi 288 j (nrw 100 v)) ml) := sI_K ds_288 (by decide) h
theorem a_290 {mi : IM} {ml : JM} {j : Nat} (h : j < 8) : aI 100 290 (nI j) (K mi ml) = some (mi 290 j) := aI_K ds_290 (by decide) h
theorem s_290 {mi : IM} {ml : JM} {j : Nat} {v : Int32} (h : j < 8) : sI 100 290 (nI j) v (K mi ml) = some (K (upd2 mi 290 j (nrw 100 v)) ml) := sI_K ds_290 (by decide) h
theorem a_292 {mi : IM} {ml : JM} {j : Nat} (h : j < 8) : aI 100 292 (nI j) (K mi ml) = some (mi 292 j) := aI_K ds_292 (by decide) h
theorem s_292 {mi : IM} {ml : JM} {j : Nat} {v : Int32} (h : j < 8) : sI 100 292 (nI j) v (K mi ml) = some (K (upd2 mi 292 j (nrw 100 v)) ml) := sI_K ds_292 (by decide) h
theorem a_294 {mi : IM} {ml : JM} {j : Nat} (h : j < 8) : aI 100 294 (nI j) (K mi ml) = some (mi 294 j) := aI_K ds_294 (by decide) h
theorem s_294 {mi : IM} {ml : JM} {j : Nat} {v : Int32} (h : j < 8) : sI 100 294 (nI j) v (K mi ml) = some (K (upd2 mi 294 j (nrw 100 v)) ml) := sI_K ds_294 (by decide) h
theorem a_297 {mi : IM} {ml : JM} {j : Nat} (h : j < 8) : aI 100 297 (nI j) (K mi ml) = some (mi 297 j) := aI_K ds_297 (by decide) h
theorem s_297 {mi : IM} {ml : JM} {j : Nat} {v : Int32} (h : j < 8) : sI 100 297 (nI j) v (K mi ml) = some (K (upd2 mi 297 j (nrw 100 v)) ml) := sI_K ds_297 (by decide) h
theorem a_299 {mi : IM} {ml : JM} {j : Nat} (h : j < 8) : aI 100 299 (nI j) (K mi ml) = some (mi 299 j) := aI_K ds_299 (by decide) h
theorem s_299 {mi : IM} {ml : JM} {j : Nat} {v : Int32} (h : j < 8) : sI 100 299 (nI j) v (K mi ml) = some (K (upd2 mi 299 j (nrw 100 v)) ml) := sI_K ds_299 (by decide) h
theorem a_300 {mi : IM} {ml : JM} {j : Nat} (h : j < 8) : aI 100 300 (nI j) (K mi ml) = some (mi 300 j) := aI_K ds_300 (by decide) h
theorem s_300 {mi : IM} {ml : JM} {j : Nat} {v : Int32} (h : j < 8) : sI 100 300 (nI j) v (K mi ml) = some (K (upd2 mi 300 j (nrw 100 v)) ml) := sI_K ds_300 (by decide) h
theorem a_301 {mi : IM} {ml : JM} {j : Nat} (h : j < 8) : aI 100 301 (nI j) (K mi ml) = some (mi 301 j) := aI_K ds_301 (by decide) h
theorem s_301 {mi : IM} {ml : JM} {j : Nat} {v : Int32} (h : j < 8) : sI 100 301 (nI j) v (K mi ml) = some (K (upd2 mi 301 j (nrw 100 v)) ml) := sI_K ds_301 (by decide) h
theorem a_302 {mi : IM} {ml : JM} {j : Nat} (h : j < 8) : aI 100 302 (nI j) (K mi ml) = some (mi 302 j) := aI_K ds_302 (by decide) h
theorem s_302 {mi : IM} {ml : JM} {j : Nat} {v : Int32} (h : j < 8) : sI 100 302 (nI j) v (K mi ml) = some (K (upd2 mi 302 j (nrw 100 v)) ml) := sI_K ds_302 (by decide) h
theorem a_304 {mi : IM} {ml : JM} {j : Nat} (h : j < 8) : aI 100 304 (nI j) (K mi ml) = some (mi 304 j) := aI_K ds_304 (by decide) h
theorem s_304 {mi : IM} {ml : JM} {j : Nat} {v : Int32} (h : j < 8) : sI 100 304 (nI j) v (K mi ml) = some (K (upd2 mi 304 j (nrw 100 v)) ml) := sI_K ds_304 (by decide) h
theorem a_306 {mi : IM} {ml : JM} {j : Nat} (h : j < 8) : aI 100 306 (nI j) (K mi ml) = some (mi 306 j) := aI_K ds_306 (by decide) h
theorem s_306 {mi : IM} {ml : JM} {j : Nat} {v : Int32} (h : j < 8) : sI 100 306 (nI j) v (K mi ml) = some (K (upd2 mi 306 j (nrw 100 v)) ml) := sI_K ds_306 (by decide) h
theorem a_308 {mi : IM} {ml : JM} {j : Nat} (h : j < 8) : aI 100 308 (nI j) (K mi ml) = some (mi 308 j) := aI_K ds_308 (by decide) h
theorem s_308 {mi : IM} {ml : JM} {j : Nat} {v : Int32} (h : j < 8) : sI 100 308 (nI j) v (K mi ml) = some (K (upd2 mi 308 j (nrw 100 v)) ml) := sI_K ds_308 (by decide) h
theorem a_310 {mi : IM} {ml : JM} {j : Nat} (h : j < 8) : aI 100 310 (nI j) (K mi ml) = some (mi 310 j) := aI_K ds_310 (by decide) h
theorem s_310 {mi : IM} {ml : JM} {j : Nat} {v : Int32} (h : j < 8) : sI 100 310 (nI j) v (K mi ml) = some (K (upd2 mi 310 j (nrw 100 v)) ml) := sI_K ds_310 (by decide) h
theorem a_312 {mi : IM} {ml : JM} {j : Nat} (h : j < 8) : aI 100 312 (nI j) (K mi ml) = some (mi 312 j) := aI_K ds_312 (by decide) h
theorem s_312 {mi : IM} {ml : JM} {j : Nat} {v : Int32} (h : j < 8) : sI 100 312 (nI j) v (K mi ml) = some (K (upd2 mi 312 j (nrw 100 v)) ml) := sI_K ds_312 (by decide) h
theorem a_314 {mi : IM} {ml : JM} {j : Nat} (h : j < 8) : aI 100 314 (nI j) (K mi ml) = some (mi 314 j) := aI_K ds_314 (by decide) h
theorem s_314 {mi : IM} {ml : JM} {j : Nat} {v : Int32} (h : j < 8) : sI 100 314 (nI j) v (K mi ml) = some (K (upd2 mi 314 j (nrw 100 v)) ml) := sI_K ds_314 (by decide) h
theorem a_316 {mi : IM} {ml : JM} {j : Nat} (h : j < 8) : aI 100 316 (nI j) (K mi ml) = some (mi 316 j) := aI_K ds_316 (by decide) h
theorem s_316 {mi : IM} {ml : JM} {j : Nat} {v : Int32} (h : j < 8) : sI 100 316 (nI j) v (K mi ml) = some (K (upd2 mi 316 j (nrw 100 v)) ml) := sI_K ds_316 (by decide) h
theorem a_318 {mi : IM} {ml : JM} {j : Nat} (h : j < 8) : aI 100 318 (nI j) (K mi ml) = some (mi 318 j) := aI_K ds_318 (by decide) h
theorem s_318 {mi : IM} {ml : JM} {j : Nat} {v : Int32} (h : j < 8) : sI 100 318 (nI j) v (K mi ml) = some (K (upd2 mi 318 j (nrw 100 v)) ml) := sI_K ds_318 (by decide) h
theorem a_321 {mi : IM} {ml : JM} {j : Nat} (h : j < 8) : aI 100 321 (nI j) (K mi ml) = some (mi 321 j) := aI_K ds_321 (by decide) h
theorem s_321 {mi : IM} {ml : JM} {j : Nat} {v : Int32} (h : j < 8) : sI 100 321 (nI j) v (K mi ml) = some (K (upd2 mi 321 j (nrw 100 v)) ml) := sI_K ds_321 (by decide) h
theorem a_323 {mi : IM} {ml : JM} {j : Nat} (h : j < 8) : aI 100 323 (nI j) (K mi ml) = some (mi 323 j) := aI_K ds_323 (by decide) h
theorem s_323 {mi : IM} {ml : JM} {j : Nat} {v : Int32} (h : j < 8) : sI 100 323 (nI j) v (K mi ml) = some (K (upd2 mi 323 j (nrw 100 v)) ml) := sI_K ds_323 (by decide) h
theorem a_324 {mi : IM} {ml : JM} {j : Nat} (h : j < 8) : aI 100 324 (nI j) (K mi ml) = some (mi 324 j) := aI_K ds_324 (by decide) h
theorem s_324 {mi : IM} {ml : JM} {j : Nat} {v : Int32} (h : j < 8) : sI 100 324 (nI j) v (K mi ml) = some (K (upd2 mi 324 j (nrw 100 v)) ml) := sI_K ds_324 (by decide) h
theorem a_325 {mi : IM} {ml : JM} {j : Nat} (h : j < 8) : aI 100 325 (nI j) (K mi ml) = some (mi 325 j) := aI_K ds_325 (by decide) h
theorem s_325 {mi : IM} {ml : JM} {j : Nat} {v : Int32} (h : j < 8) : sI 100 325 (nI j) v (K mi ml) = some (K (upd2 mi 325 j (nrw 100 v)) ml) := sI_K ds_325 (by decide) h
theorem a_326 {mi : IM} {ml : JM} {j : Nat} (h : j < 8) : aI 100 326 (nI j) (K mi ml) = some (mi 326 j) := aI_K ds_326 (by decide) h
theorem s_326 {mi : IM} {ml : JM} {j : Nat} {v : Int32} (h : j < 8) : sI 100 326 (nI j) v (K mi ml) = some (K (upd2 mi 326 j (nrw 100 v)) ml) := sI_K ds_326 (by decide) h
theorem a_328 {mi : IM} {ml : JM} {j : Nat} (h : j < 8) : aI 100 328 (nI j) (K mi ml) = some (mi 328 j) := aI_K ds_328 (by decide) h
theorem s_328 {mi : IM} {ml : JM} {j : Nat} {v : Int32} (h : j < 8) : sI 100 328 (nI j) v (K mi ml) = some (K (upd2 mi 328 j (nrw 100 v)) ml) := sI_K ds_328 (by decide) h
theorem a_330 {mi : IM} {ml : JM} {j : Nat} (h : j < 8) : aI 100 330 (nI j) (K mi ml) = some (mi 330 j) := aI_K ds_330 (by decide) h
theorem s_330 {mi : IM} {ml : JM} {j : Nat} {v : Int32} (h : j < 8) : sI 100 330 (nI j) v (K mi ml) = some (K (upd2 mi 330 j (nrw 100 v)) ml) := sI_K ds_330 (by decide) h
theorem a_332 {mi : IM} {ml : JM} {j : Nat} (h : j < 8) : aI 100 332 (nI j) (K mi ml) = some (mi 332 j) := aI_K ds_332 (by decide) h
theorem s_332 {mi : IM} {ml : JM} {j : Nat} {v : Int32} (h : j < 8) : sI 100 332 (nI j) v (K mi ml) = some (K (upd2 mi 332 j (nrw 100 v)) ml) := sI_K ds_332 (by decide) h
theorem a_334 {mi : IM} {ml : JM} {j : Nat} (h : j < 8) : aI 100 334 (nI j) (K mi ml) = some (mi 334 j) := aI_K ds_334 (by decide) h
theorem s_334 {mi : IM} {ml : JM} {j : Nat} {v : Int32} (h : j < 8) : sI 100 334 (nI j) v (K mi ml) = some (K (upd2 mi 334 j (nrw 100 v)) ml) := sI_K ds_334 (by decide) h
theorem a_336 {mi : IM} {ml : JM} {j : Nat} (h : j < 8) : aI 100 336 (nI j) (K mi ml) = some (mi 336 j) := aI_K ds_336 (by decide) h
theorem s_336 {mi : IM} {ml : JM} {j : Nat} {v : Int32} (h : j < 8) : sI 100 336 (nI j) v (K mi ml) = some (K (upd2 mi 336 j (nrw 100 v)) ml) := sI_K ds_336 (by decide) h
theorem a_338 {mi : IM} {ml : JM} {j : Nat} (h : j < 8) : aI 100 338 (nI j) (K mi ml) = some (mi 338 j) := aI_K ds_338 (by decide) h
theorem s_338 {mi : IM} {ml : JM} {j : Nat} {v : Int32} (h : j < 8) : sI 100 338 (nI j) v (K mi ml) = some (K (upd2 mi 338 j (nrw 100 v)) ml) := sI_K ds_338 (by decide) h
theorem a_340 {mi : IM} {ml : JM} {j : Nat} (h : j < 8) : aI 100 340 (nI j) (K mi ml) = some (mi 340 j) := aI_K ds_340 (by decide) h
theorem s_340 {mi : IM} {ml : JM} {j : Nat} {v : Int32} (h : j < 8) : sI 100 340 (nI j) v (K mi ml) = some (K (upd2 mi 340 j (nrw 100 v)) ml) := sI_K ds_340 (by decide) h
theorem a_342 {mi : IM} {ml : JM} {j : Nat} (h : j < 8) : aI 100 342 (nI j) (K mi ml) = some (mi 342 j) := aI_K ds_342 (by decide) h
theorem s_342 {mi : IM} {ml : JM} {j : Nat} {v : Int32} (h : j < 8) : sI 100 342 (nI j) v (K mi ml) = some (K (upd2 mi 342 j (nrw 100 v)) ml) := sI_K ds_342 (by decide) h
theorem a_345 {mi : IM} {ml : JM} {j : Nat} (h : j < 8) : aI 100 345 (nI j) (K mi ml) = some (mi 345 j) := aI_K ds_345 (by decide) h
theorem s_345 {mi : IM} {ml : JM} {j : Nat} {v : Int32} (h : j < 8) : sI 100 345 (nI j) v (K mi ml) = some (K (upd2 mi 345 j (nrw 100 v)) ml) := sI_K ds_345 (by decide) h
theorem a_347 {mi : IM} {ml : JM} {j : Nat} (h : j < 8) : aI 100 347 (nI j) (K mi ml) = some (mi 347 j) := aI_K ds_347 (by decide) h
theorem s_347 {mi : IM} {ml : JM} {j : Nat} {v : Int32} (h : j < 8) : sI 100 347 (nI j) v (K mi ml) = some (K (upd2 mi 347 j (nrw 100 v)) ml) := sI_K ds_347 (by decide) h
theorem a_348 {mi : IM} {ml : JM} {j : Nat} (h : j < 8) : aI 100 348 (nI j) (K mi ml) = some (mi 348 j) := aI_K ds_348 (by decide) h
theorem s_348 {mi : IM} {ml : JM} {j : Nat} {v : Int32} (h : j < 8) : sI 100 348 (nI j) v (K mi ml) = some (K (upd2 mi 348 j (nrw 100 v)) ml) := sI_K ds_348 (by decide) h
theorem a_349 {mi : IM} {ml : JM} {j : Nat} (h : j < 8) : aI 100 349 (nI j) (K mi ml) = some (mi 349 j) := aI_K ds_349 (by decide) h
theorem s_349 {mi : IM} {ml : JM} {j : Nat} {v : Int32} (h : j < 8) : sI 100 349 (nI j) v (K mi ml) = some (K (upd2 mi 349 j (nrw 100 v)) ml) := sI_K ds_349 (by decide) h
theorem a_350 {mi : IM} {ml : JM} {j : Nat} (h : j < 8) : aI 100 350 (nI j) (K mi ml) = some (mi 350 j) := aI_K ds_350 (by decide) h
theorem s_350 {mi : IM} {ml : JM} {j : Nat} {v : Int32} (h : j < 8) : sI 100 350 (nI j) v (K mi ml) = some (K (upd2 mi 350 j (nrw 100 v)) ml) := sI_K ds_350 (by decide) h
theorem a_352 {mi : IM} {ml : JM} {j : Nat} (h : j < 8) : aI 100 352 (nI j) (K mi ml) = some (mi 352 j) := aI_K ds_352 (by decide) h
theorem s_352 {mi : IM} {ml : JM} {j : Nat} {v : Int32} (h : j < 8) : sI 100 352 (nI j) v (K mi ml) = some (K (upd2 mi 352 j (nrw 100 v)) ml) := sI_K ds_352 (by decide) h
theorem a_354 {mi : IM} {ml : JM} {j : Nat} (h : j < 8) : aI 100 354 (nI j) (K mi ml) = some (mi 354 j) := aI_K ds_354 (by decide) h
theorem s_354 {mi : IM} {ml : JM} {j : Nat} {v : Int32} (h : j < 8) : sI 100 354 (nI j) v (K mi ml) = some (K (upd2 mi 354 j (nrw 100 v)) ml) := sI_K ds_354 (by decide) h
theorem a_356 {mi : IM} {ml : JM} {j : Nat} (h : j < 8) : aI 100 356 (nI j) (K mi ml) = some (mi 356 j) := aI_K ds_356 (by decide) h
theorem s_356 {mi : IM} {ml : JM} {j : Nat} {v : Int32} (h : j < 8) : sI 100 356 (nI j) v (K mi ml) = some (K (upd2 mi 356 j (nrw 100 v)) ml) := sI_K ds_356 (by decide) h
theorem a_358 {mi : IM} {ml : JM} {j : Nat} (h : j < 8) : aI 100 358 (nI j) (K mi ml) = some (mi 358 j) := aI_K ds_358 (by decide) h
theorem s_358 {mi : IM} {ml : JM} {j : Nat} {v : Int32} (h : j < 8) : sI 100 358 (nI j) v (K mi ml) = some (K (upd2 mi 358 j (nrw 100 v)) ml) := sI_K ds_358 (by decide) h
theorem a_360 {mi : IM} {ml : JM} {j : Nat} (h : j < 8) : aI 100 360 (nI j) (K mi ml) = some (mi 360 j) := aI_K ds_360 (by decide) h
theorem s_360 {mi : IM} {ml : JM} {j : Nat} {v : Int32} (h : j < 8) : sI 100 360 (nI j) v (K mi ml) = some (K (upd2 mi 360 j (nrw 100 v)) ml) := sI_K ds_360 (by decide) h
theorem a_362 {mi : IM} {ml : JM} {j : Nat} (h : j < 8) : aI 100 362 (nI j) (K mi ml) = some (mi 362 j) := aI_K ds_362 (by decide) h
theorem s_362 {mi : IM} {ml : JM} {j : Nat} {v : Int32} (h : j < 8) : sI 100 362 (nI j) v (K mi ml) = some (K (upd2 mi 362 j (nrw 100 v)) ml) := sI_K ds_362 (by decide) h
theorem a_364 {mi : IM} {ml : JM} {j : Nat} (h : j < 8) : aI 100 364 (nI j) (K mi ml) = some (mi 364 j) := aI_K ds_364 (by decide) h
theorem s_364 {mi : IM} {ml : JM} {j : Nat} {v : Int32} (h : j < 8) : sI 100 364 (nI j) v (K mi ml) = some (K (upd2 mi 364 j (nrw 100 v)) ml) := sI_K ds_364 (by decide) h
theorem a_366 {mi : IM} {ml : JM} {j : Nat} (h : j < 8) : aI 100 366 (nI j) (K mi ml) = some (mi 366 j) := aI_K ds_366 (by decide) h
theorem s_366 {mi : IM} {ml : JM} {j : Nat} {v : Int32} (h : j < 8) : sI 100 366 (nI j) v (K mi ml) = some (K (upd2 mi 366 j (nrw 100 v)) ml) := sI_K ds_366 (by decide) h
theorem a_369 {mi : IM} {ml : JM} {j : Nat} (h : j < 8) : aI 100 369 (nI j) (K mi ml) = some (mi 369 j) := aI_K ds_369 (by decide) h
theorem s_369 {mi : IM} {ml : JM} {j : Nat} {v : Int32} (h : j < 8) : sI 100 369 (nI j) v (K mi ml) = some (K (upd2 mi 369 j (nrw 100 v)) ml) := sI_K ds_369 (by decide) h
theorem a_371 {mi : IM} {ml : JM} {j : Nat} (h : j < 8) : aI 100 371 (nI j) (K mi ml) = some (mi 371 j) := aI_K ds_371 (by decide) h
theorem s_371 {mi : IM} {ml : JM} {j : Nat} {v : Int32} (h : j < 8) : sI 100 371 (nI j) v (K mi ml) = some (K (upd2 mi 371 j (nrw 100 v)) ml) := sI_K ds_371 (by decide) h
theorem a_372 {mi : IM} {ml : JM} {j : Nat} (h : j < 8) : aI 100 372 (nI j) (K mi ml) = some (mi 372 j) := aI_K ds_372 (by decide) h
theorem s_372 {mi : IM} {ml : JM} {j : Nat} {v : Int32} (h : j < 8) : sI 100 372 (nI j) v (K mi ml) = some (K (upd2 mi 372 j (nrw 100 v)) ml) := sI_K ds_372 (by decide) h
theorem a_373 {mi : IM} {ml : JM} {j : Nat} (h : j < 8) : aI 100 373 (nI j) (K mi ml) = some (mi 373 j) := aI_K ds_373 (by decide) h
theorem s_373 {mi : IM} {ml : JM} {j : Nat} {v : Int32} (h : j < 8) : sI 100 373 (nI j) v (K mi ml) = some (K (upd2 mi 373 j (nrw 100 v)) ml) := sI_K ds_373 (by decide) h
theorem a_374 {mi : IM} {ml : JM} {j : Nat} (h : j < 8) : aI 100 374 (nI j) (K mi ml) = some (mi 374 j) := aI_K ds_374 (by decide) h
theorem s_374 {mi : IM} {ml : JM} {j : Nat} {v : Int32} (h : j < 8) : sI 100 374 (nI j) v (K mi ml) = some (K (upd2 mi 374 j (nrw 100 v)) ml) := sI_K ds_374 (by decide) h
theorem a_376 {mi : IM} {ml : JM} {j : Nat} (h : j < 8) : aI 100 376 (nI j) (K mi ml) = some (mi 376 j) := aI_K ds_376 (by decide) h
theorem s_376 {mi : IM} {ml : JM} {j : Nat} {v : Int32} (h : j < 8) : sI 100 376 (nI j) v (K mi ml) = some (K (upd2 mi 376 j (nrw 100 v)) ml) := sI_K ds_376 (by decide) h
theorem a_378 {mi : IM} {ml : JM} {j : Nat} (h : j < 8) : aI 100 378 (nI j) (K mi ml) = some (mi 378 j) := aI_K ds_378 (by decide) h
theorem s_378 {mi : IM} {ml : JM} {j : Nat} {v : Int32} (h : j < 8) : sI 100 378 (nI j) v (K mi ml) = some (K (upd2 mi 378 j (nrw 100 v)) ml) := sI_K ds_378 (by decide) h
theorem a_380 {mi : IM} {ml : JM} {j : Nat} (h : j < 8) : aI 100 380 (nI j) (K mi ml) = some (mi 380 j) := aI_K ds_380 (by decide) h
theorem s_380 {mi : IM} {ml : JM} {j : Nat} {v : Int32} (h : j < 8) : sI 100 380 (nI j) v (K mi ml) = some (K (upd2 mi 380 j (nrw 100 v)) ml) := sI_K ds_380 (by decide) h
theorem a_382 {mi : IM} {ml : JM} {j : Nat} (h : j < 8) : aI 100 382 (nI j) (K mi ml) = some (mi 382 j) := aI_K ds_382 (by decide) h
theorem s_382 {mi : IM} {ml : JM} {j : Nat} {v : Int32} (h : j < 8) : sI 100 382 (nI j) v (K mi ml) = some (K (upd2 mi 382 j (nrw 100 v)) ml) := sI_K ds_382 (by decide) h
theorem a_384 {mi : IM} {ml : JM} {j : Nat} (h : j < 8) : aI 100 384 (nI j) (K mi ml) = some (mi 384 j) := aI_K ds_384 (by decide) h
theorem s_384 {mi : IM} {ml : JM} {j : Nat} {v : Int32} (h : j < 8) : sI 100 384 (nI j) v (K mi ml) = some (K (upd2 mi 384 j (nrw 100 v)) ml) := sI_K ds_384 (by decide) h
theorem a_386 {mi : IM} {ml : JM} {j : Nat} (h : j < 8) : aI 100 386 (nI j) (K mi ml) = some (mi 386 j) := aI_K ds_386 (by decide) h
theorem s_386 {mi : IM} {ml : JM} {j : Nat} {v : Int32} (h : j < 8) : sI 100 386 (nI j) v (K mi ml) = some (K (upd2 mi 386 j (nrw 100 v)) ml) := sI_K ds_386 (by decide) h
theorem a_388 {mi : IM} {ml : JM} {j : Nat} (h : j < 8) : aI 100 388 (nI j) (K mi ml) = some (mi 388 j) := aI_K ds_388 (by decide) h
theorem s_388 {mi : IM} {ml : JM} {j : Nat} {v : Int32} (h : j < 8) : sI 100 388 (nI j) v (K mi ml) = some (K (upd2 mi 388 j (nrw 100 v)) ml) := sI_K ds_388 (by decide) h
theorem a_390 {mi : IM} {ml : JM} {j : Nat} (h : j < 8) : aI 100 390 (nI j) (K mi ml) = some (mi 390 j) := aI_K ds_390 (by decide) h
theorem s_390 {mi : IM} {ml : JM} {j : Nat} {v : Int32} (h : j < 8) : sI 100 390 (nI j) v (K mi ml) = some (K (upd2 mi 390 j (nrw 100 v)) ml) := sI_K ds_390 (by decide) h
theorem a_393 {mi : IM} {ml : JM} {j : Nat} (h : j < 8) : aI 100 393 (nI j) (K mi ml) = some (mi 393 j) := aI_K ds_393 (by decide) h
theorem s_393 {mi : IM} {ml : JM} {j : Nat} {v : Int32} (h : j < 8) : sI 100 393 (nI j) v (K mi ml) = some (K (upd2 mi 393 j (nrw 100 v)) ml) := sI_K ds_393 (by decide) h
theorem a_395 {mi : IM} {ml : JM} {j : Nat} (h : j < 8) : aI 100 395 (nI j) (K mi ml) = some (mi 395 j) := aI_K ds_395 (by decide) h
theorem s_395 {mi : IM} {ml : JM} {j : Nat} {v : Int32} (h : j < 8) : sI 100 395 (nI j) v (K mi ml) = some (K (upd2 mi 395 j (nrw 100 v)) ml) := sI_K ds_395 (by decide) h
theorem a_396 {mi : IM} {ml : JM} {j : Nat} (h : j < 8) : aI 100 396 (nI j) (K mi ml) = some (mi 396 j) := aI_K ds_396 (by decide) h
theorem s_396 {mi : IM} {ml : JM} {j : Nat} {v : Int32} (h : j < 8) : sI 100 396 (nI j) v (K mi ml) = some (K (upd2 mi 396 j (nrw 100 v)) ml) := sI_K ds_396 (by decide) h
theorem a_397 {mi : IM} {ml : JM} {j : Nat} (h : j < 8) : aI 100 397 (nI j) (K mi ml) = some (mi 397 j) := aI_K ds_397 (by decide) h
theorem s_397 {mi : IM} {ml : JM} {j : Nat} {v : Int32} (h : j < 8) : sI 100 397 (nI j) v (K mi ml) = some (K (upd2 mi 397 j (nrw 100 v)) ml) := sI_K ds_397 (by decide) h
theorem a_398 {mi : IM} {ml : JM} {j : Nat} (h : j < 8) : aI 100 398 (nI j) (K mi ml) = some (mi 398 j) := aI_K ds_398 (by decide) h
theorem s_398 {mi : IM} {ml : JM} {j : Nat} {v : Int32} (h : j < 8) : sI 100 398 (nI j) v (K mi ml) = some (K (upd2 mi 398 j (nrw 100 v)) ml) := sI_K ds_398 (by decide) h
theorem a_400 {mi : IM} {ml : JM} {j : Nat} (h : j < 8) : aI 100 400 (nI j) (K mi ml) = some (mi 400 j) := aI_K ds_400 (by decide) h
theorem s_400 {mi : IM} {ml : JM} {j : Nat} {v : Int32} (h : j < 8) : sI 100 400 (nI j) v (K mi ml) = some (K (upd2 mi 400 j (nrw 100 v)) ml) := sI_K ds_400 (by decide) h
theorem a_402 {mi : IM} {ml : JM} {j : Nat} (h : j < 8) : aI 100 402 (nI j) (K mi ml) = some (mi 402 j) := aI_K ds_402 (by decide) h
theorem s_402 {mi : IM} {ml : JM} {j : Nat} {v : Int32} (h : j < 8) : sI 100 402 (nI j) v (K mi ml) = some (K (upd2 mi 402 j (nrw 100 v)) ml) := sI_K ds_402 (by decide) h
theorem a_404 {mi : IM} {ml : JM} {j : Nat} (h : j < 8) : aI 100 404 (nI j) (K mi ml) = some (mi 404 j) := aI_K ds_404 (by decide) h
theorem s_404 {mi : IM} {ml : JM} {j : Nat} {v : Int32} (h : j < 8) : sI 100 404 (nI j) v (K mi ml) = some (K (upd2 mi 404 j (nrw 100 v)) ml) := sI_K ds_404 (by decide) h
theorem a_406 {mi : IM} {ml : JM} {j : Nat} (h : j < 8) : aI 100 406 (nI j) (K mi ml) = some (mi 406 j) := aI_K ds_406 (by decide) h
theorem s_406 {mi : IM} {ml : JM} {j : Nat} {v : Int32} (h : j < 8) : sI 100 406 (nI j) v (K mi ml) = some (K (upd2 mi 406 j (nrw 100 v)) ml) := sI_K ds_406 (by decide) h
theorem a_408 {mi : IM} {ml : JM} {j : Nat} (h : j < 8) : aI 100 408 (nI j) (K mi ml) = some (mi 408 j) := aI_K ds_408 (by decide) h
theorem s_408 {mi : IM} {ml : JM} {j : Nat} {v : Int32} (h : j < 8) : sI 100 408 (nI j) v (K mi ml) = some (K (upd2 mi 408 j (nrw 100 v)) ml) := sI_K ds_408 (by decide) h
theorem a_410 {mi : IM} {ml : JM} {j : Nat} (h : j < 8) : aI 100 410 (nI j) (K mi ml) = some (mi 410 j) := aI_K ds_410 (by decide) h
theorem s_410 {mi : IM} {ml : JM} {j : Nat} {v : Int32} (h : j < 8) : sI 100 410 (nI j) v (K mi ml) = some (K (upd2 mi 410 j (nrw 100 v)) ml) := sI_K ds_410 (by decide) h
theorem a_412 {mi : IM} {ml : JM} {j : Nat} (h : j < 8) : aI 100 412 (nI j) (K mi ml) = some (mi 412 j) := aI_K ds_412 (by decide) h
theorem s_412 {mi : IM} {ml : JM} {j : Nat} {v : Int32} (h : j < 8) : sI 100 412 (nI j) v (K mi ml) = some (K (upd2 mi 412 j (nrw 100 v)) ml) := sI_K ds_412 (by decide) h
theorem a_414 {mi : IM} {ml : JM} {j : Nat} (h : j < 8) : aI 100 414 (nI j) (K mi ml) = some (mi 414 j) := aI_K ds_414 (by decide) h
theorem s_414 {mi : IM} {ml : JM} {j : Nat} {v : Int32} (h : j < 8) : sI 100 414 (nI j) v (K mi ml) = some (K (upd2 mi 414 j (nrw 100 v)) ml) := sI_K ds_414 (by decide) h
theorem a_417 {mi : IM} {ml : JM} {j : Nat} (h : j < 8) : aI 100 417 (nI j) (K mi ml) = some (mi 417 j) := aI_K ds_417 (by decide) h
theorem s_417 {mi : IM} {ml : JM} {j : Nat} {v : Int32} (h : j < 8) : sI 100 417 (nI j) v (K mi ml) = some (K (upd2 mi 417 j (nrw 100 v)) ml) := sI_K ds_417 (by decide) h
theorem a_419 {mi : IM} {ml : JM} {j : Nat} (h : j < 8) : aI 100 419 (nI j) (K mi ml) = some (mi 419 j) := aI_K ds_419 (by decide) h
theorem s_419 {mi : IM} {ml : JM} {j : Nat} {v : Int32} (h : j < 8) : sI 100 419 (nI j) v (K mi ml) = some (K (upd2 mi 419 j (nrw 100 v)) ml) := sI_K ds_419 (by decide) h
theorem a_420 {mi : IM} {ml : JM} {j : Nat} (h : j < 8) : aI 100 420 (nI j) (K mi ml) = some (mi 420 j) := aI_K ds_420 (by decide) h
theorem s_420 {mi : IM} {ml : JM} {j : Nat} {v : Int32} (h : j < 8) : sI 100 420 (nI j) v (K mi ml) = some (K (upd2 mi 420 j (nrw 100 v)) ml) := sI_K ds_420 (by decide) h
theorem a_421 {mi : IM} {ml : JM} {j : Nat} (h : j < 8) : aI 100 421 (nI j) (K mi ml) = some (mi 421 j) := aI_K ds_421 (by decide) h
theorem s_421 {mi : IM} {ml : JM} {j : Nat} {v : Int32} (h : j < 8) : sI 100 421 (nI j) v (K mi ml) = some (K (upd2 mi 421 j (nrw 100 v)) ml) := sI_K ds_421 (by decide) h
theorem a_422 {mi : IM} {ml : JM} {j : Nat} (h : j < 8) : aI 100 422 (nI j) (K mi ml) = some (mi 422 j) := aI_K ds_422 (by decide) h
theorem s_422 {mi : IM} {ml : JM} {j : Nat} {v : Int32} (h : j < 8) : sI 100 422 (nI j) v (K mi ml) = some (K (upd2 mi 422 j (nrw 100 v)) ml) := sI_K ds_422 (by decide) h
theorem a_424 {mi : IM} {ml : JM} {j : Nat} (h : j < 8) : aI 100 424 (nI j) (K mi ml) = some (mi 424 j) := aI_K ds_424 (by decide) h
theorem s_424 {mi : IM} {ml : JM} {j : Nat} {v : Int32} (h : j < 8) : sI 100 424 (nI j) v (K mi ml) = some (K (upd2 mi 424 j (nrw 100 v)) ml) := sI_K ds_424 (by decide) h
theorem a_426 {mi : IM} {ml : JM} {j : Nat} (h : j < 8) : aI 100 426 (nI j) (K mi ml) = some (mi 426 j) := aI_K ds_426 (by decide) h
theorem s_426 {mi : IM} {ml : JM} {j : Nat} {v : Int32} (h : j < 8) : sI 100 426 (nI j) v (K mi ml) = some (K (upd2 mi 426 j (nrw 100 v)) ml) := sI_K ds_426 (by decide) h
theorem a_428 {mi : IM} {ml : JM} {j : Nat} (h : j < 8) : aI 100 428 (nI j) (K mi ml) = some (mi 428 j) := aI_K ds_428 (by decide) h
theorem s_428 {mi : IM} {ml : JM} {j : Nat} {v : Int32} (h : j < 8) : sI 100 428 (nI j) v (K mi ml) = some (K (upd2 mi 428 j (nrw 100 v)) ml) := sI_K ds_428 (by decide) h
theorem a_430 {mi : IM} {ml : JM} {j : Nat} (h : j < 8) : aI 100 430 (nI j) (K mi ml) = some (mi 430 j) := aI_K ds_430 (by decide) h
theorem s_430 {mi : IM} {ml : JM} {j : Nat} {v : Int32} (h : j < 8) : sI 100 430 (nI j) v (K mi ml) = some (K (upd2 mi 430 j (nrw 100 v)) ml) := sI_K ds_430 (by decide) h
theorem a_432 {mi : IM} {ml : JM} {j : Nat} (h : j < 8) : aI 100 432 (nI j) (K mi ml) = some (mi 432 j) := aI_K ds_432 (by decide) h
theorem s_432 {mi : IM} {ml : JM} {j : Nat} {v : Int32} (h : j < 8) : sI 100 432 (nI j) v (K mi ml) = some (K (upd2 mi 432 j (nrw 100 v)) ml) := sI_K ds_432 (by decide) h
theorem a_434 {mi : IM} {ml : JM} {j : Nat} (h : j < 8) : aI 100 434 (nI j) (K mi ml) = some (mi 434 j) := aI_K ds_434 (by decide) h
theorem s_434 {mi : IM} {ml : JM} {j : Nat} {v : Int32} (h : j < 8) : sI 100 434 (nI j) v (K mi ml) = some (K (upd2 mi 434 j (nrw 100 v)) ml) := sI_K ds_434 (by decide) h
theorem a_436 {mi : IM} {ml : JM} {j : Nat} (h : j < 8) : aI 100 436 (nI j) (K mi ml) = some (mi 436 j) := aI_K ds_436 (by decide) h
theorem s_436 {mi : IM} {ml : JM} {j : Nat} {v : Int32} (h : j < 8) : sI 100 436 (nI j) v (K mi ml) = some (K (upd2 mi 436 j (nrw 100 v)) ml) := sI_K ds_436 (by decide) h
theorem a_438 {mi : IM} {ml : JM} {j : Nat} (h : j < 8) : aI 100 438 (nI j) (K mi ml) = some (mi 438 j) := aI_K ds_438 (by decide) h
theorem s_438 {mi : IM} {ml : JM} {j : Nat} {v : Int32} (h : j < 8) : sI 100 438 (nI j) v (K mi ml) = some (K (upd2 mi 438 j (nrw 100 v)) ml) := sI_K ds_438 (by decide) h
theorem a_441 {mi : IM} {ml : JM} {j : Nat} (h : j < 8) : aI 100 441 (nI j) (K mi ml) = some (mi 441 j) := aI_K ds_441 (by decide) h
theorem s_441 {mi : IM} {ml : JM} {j : Nat} {v : Int32} (h : j < 8) : sI 100 441 (nI j) v (K mi ml) = some (K (upd2 mi 441 j (nrw 100 v)) ml) := sI_K ds_441 (by decide) h
theorem a_443 {mi : IM} {ml : JM} {j : Nat} (h : j < 8) : aI 100 443 (nI j) (K mi ml) = some (mi 443 j) := aI_K ds_443 (by decide) h
theorem s_443 {mi : IM} {ml : JM} {j : Nat} {v : Int32} (h : j < 8) : sI 100 443 (nI j) v (K mi ml) = some (K (upd2 mi 443 j (nrw 100 v)) ml) := sI_K ds_443 (by decide) h
theorem a_444 {mi : IM} {ml : JM} {j : Nat} (h : j < 8) : aI 100 444 (nI j) (K mi ml) = some (mi 444 j) := aI_K ds_444 (by decide) h
theorem s_444 {mi : IM} {ml : JM} {j : Nat} {v : Int32} (h : j < 8) : sI 100 444 (nI j) v (K mi ml) = some (K (upd2 mi 444 j (nrw 100 v)) ml) := sI_K ds_444 (by decide) h
theorem a_445 {mi : IM} {ml : JM} {j : Nat} (h : j < 8) : aI 100 445 (nI j) (K mi ml) = some (mi 445 j) := aI_K ds_445 (by decide) h
theorem s_445 {mi : IM} {ml : JM} {j : Nat} {v : Int32} (h : j < 8) : sI 100 445 (nI j) v (K mi ml) = some (K (upd2 mi 445 j (nrw 100 v)) ml) := sI_K ds_445 (by decide) h
theorem a_446 {mi : IM} {ml : JM} {j : Nat} (h : j < 8) : aI 100 446 (nI j) (K mi ml) = some (mi 446 j) := aI_K ds_446 (by decide) h
theorem s_446 {mi : IM} {ml : JM} {j : Nat} {v : Int32} (h : j < 8) : sI 100 446 (nI j) v (K mi ml) = some (K (upd2 mi 446 j (nrw 100 v)) ml) := sI_K ds_446 (by decide) h
theorem a_448 {mi : IM} {ml : JM} {j : Nat} (h : j < 8) : aI 100 448 (nI j) (K mi ml) = some (mi 448 j) := aI_K ds_448 (by decide) h
theorem s_448 {mi : IM} {ml : JM} {j : Nat} {v : Int32} (h : j < 8) : sI 100 448 (nI j) v (K mi ml) = some (K (upd2 mi 448 j (nrw 100 v)) ml) := sI_K ds_448 (by decide) h
theorem a_450 {mi : IM} {ml : JM} {j : Nat} (h : j < 8) : aI 100 450 (nI j) (K mi ml) = some (mi 450 j) := aI_K ds_450 (by decide) h
theorem s_450 {mi : IM} {ml : JM} {j : Nat} {v : Int32} (h : j < 8) : sI 100 450 (nI j) v (K mi ml) = some (K (upd2 mi 450 j (nrw 100 v)) ml) := sI_K ds_450 (by decide) h
theorem a_452 {mi : IM} {ml : JM} {j : Nat} (h : j < 8) : aI 100 452 (nI j) (K mi ml) = some (mi 452 j) := aI_K ds_452 (by decide) h
theorem s_452 {mi : IM} {ml : JM} {j : Nat} {v : Int32} (h : j < 8) : sI 100 452 (nI j) v (K mi ml) = some (K (upd2 mi 452 j (nrw 100 v)) ml) := sI_K ds_452 (by decide) h
theorem a_454 {mi : IM} {ml : JM} {j : Nat} (h : j < 8) : aI 100 454 (nI j) (K mi ml) = some (mi 454 j) := aI_K ds_454 (by decide) h
theorem s_454 {mi : IM} {ml : JM} {j : Nat} {v : Int32} (h : j < 8) : sI 100 454 (nI j) v (K mi ml) = some (K (upd2 mi 454 j (nrw 100 v)) ml) := sI_K ds_454 (by decide) h
theorem a_456 {mi : IM} {ml : JM} {j : Nat} (h : j < 8) : aI 100 456 (nI j) (K mi ml) = some (mi 456 j) := aI_K ds_456 (by decide) h
theorem s_456 {mi : IM} {ml : JM} {j : Nat} {v : Int32} (h : j < 8) : sI 100 456 (nI j) v (K mi ml) = some (K (upd2 mi 456 j (nrw 100 v)) ml) := sI_K ds_456 (by decide) h
theorem a_458 {mi : IM} {ml : JM} {j : Nat} (h : j < 8) : aI 100 458 (nI j) (K mi ml) = some (mi 458 j) := aI_K ds_458 (by decide) h
theorem s_458 {mi : IM} {ml : JM} {j : Nat} {v : Int32} (h : j < 8) : sI 100 458 (nI j) v (K mi ml) = some (K (upd2 mi 458 j (nrw 100 v)) ml) := sI_K ds_458 (by decide) h
theorem a_460 {mi : IM} {ml : JM} {j : Nat} (h : j < 8) : aI 100 460 (nI j) (K mi ml) = some (mi 460 j) := aI_K ds_460 (by decide) h
theorem s_460 {mi : IM} {ml : JM} {j : Nat} {v : Int32} (h : j < 8) : sI 100 460 (nI j) v (K mi ml) = some (K (upd2 mi 460 j (nrw 100 v)) ml) := sI_K ds_460 (by decide) h
theorem a_462 {mi : IM} {ml : JM} {j : Nat} (h : j < 8) : aI 100 462 (nI j) (K mi ml) = some (mi 462 j) := aI_K ds_462 (by decide) h
theorem s_462 {mi : IM} {ml : JM} {j : Nat} {v : Int32} (h : j < 8) : sI 100 462 (nI j) v (K mi ml) = some (K (upd2 mi 462 j (nrw 100 v)) ml) := sI_K ds_462 (by decide) h
theorem a_465 {mi : IM} {ml : JM} {j : Nat} (h : j < 8) : aI 100 465 (nI j) (K mi ml) = some (mi 465 j) := aI_K ds_465 (by decide) h
theorem s_465 {mi : IM} {ml : JM} {j : Nat} {v : Int32} (h : j < 8) : sI 100 465 (nI j) v (K mi ml) = some (K (upd2 mi 465 j (nrw 100 v)) ml) := sI_K ds_465 (by decide) h
theorem a_467 {mi : IM} {ml : JM} {j : Nat} (h : j < 8) : aI 100 467 (nI j) (K mi ml) = some (mi 467 j) := aI_K ds_467 (by decide) h
theorem s_467 {mi : IM} {ml : JM} {j : Nat} {v : Int32} (h : j < 8) : sI 100 467 (nI j) v (K mi ml) = some (K (upd2 mi 467 j (nrw 100 v)) ml) := sI_K ds_467 (by decide) h
theorem a_468 {mi : IM} {ml : JM} {j : Nat} (h : j < 8) : aI 100 468 (nI j) (K mi ml) = some (mi 468 j) := aI_K ds_468 (by decide) h
theorem s_468 {mi : IM} {ml : JM} {j : Nat} {v : Int32} (h : j < 8) : sI 100 468 (nI j) v (K mi ml) = some (K (upd2 mi 468 j (nrw 100 v)) ml) := sI_K ds_468 (by decide) h
theorem a_469 {mi : IM} {ml : JM} {j : Nat} (h : j < 8) : aI 100 469 (nI j) (K mi ml) = some (mi 469 j) := aI_K ds_469 (by decide) h
theorem s_469 {mi : IM} {ml : JM} {j : Nat} {v : Int32} (h : j < 8) : sI 100 469 (nI j) v (K mi ml) = some (K (upd2 mi 469 j (nrw 100 v)) ml) := sI_K ds_469 (by decide) h
theorem a_470 {mi : IM} {ml : JM} {j : Nat} (h : j < 8) : aI 100 470 (nI j) (K mi ml) = some (mi 470 j) := aI_K ds_470 (by decide) h
theorem s_470 {mi : IM} {ml : JM} {j : Nat} {v : Int32} (h : j < 8) : sI 100 470 (nI j) v (K mi ml) = some (K (upd2 mi 470 j (nrw 100 v)) ml) := sI_K ds_470 (by decide) h
theorem a_472 {mi : IM} {ml : JM} {j : Nat} (h : j < 8) : aI 100 472 (nI j) (K mi ml) = some (mi 472 j) := aI_K ds_472 (by decide) h
theorem s_472 {mi : IM} {ml : JM} {j : Nat} {v : Int32} (h : j < 8) : sI 100 472 (nI j) v (K mi ml) = some (K (upd2 mi 472 j (nrw 100 v)) ml) := sI_K ds_472 (by decide) h
theorem a_474 {mi : IM} {ml : JM} {j : Nat} (h : j < 8) : aI 100 474 (nI j) (K mi ml) = some (mi 474 j) := aI_K ds_474 (by decide) h
theorem s_474 {mi : IM} {ml : JM} {j : Nat} {v : Int32} (h : j < 8) : sI 100 474 (nI j) v (K mi ml) = some (K (upd2 mi 474 j (nrw 100 v)) ml) := sI_K ds_474 (by decide) h
theorem a_476 {mi : IM} {ml : JM} {j : Nat} (h : j < 8) : aI 100 476 (nI j) (K mi ml) = some (mi 476 j) := aI_K ds_476 (by decide) h
theorem s_476 {mi : IM} {ml : JM} {j : Nat} {v : Int32} (h : j < 8) : sI 100 476 (nI j) v (K mi ml) = some (K (upd2 mi 476 j (nrw 100 v)) ml) := sI_K ds_476 (by decide) h
theorem a_478 {mi : IM} {ml : JM} {j : Nat} (h : j < 8) : aI 100 478 (nI j) (K mi ml) = some (mi 478 j) := aI_K ds_478 (by decide) h
theorem s_478 {mi : IM} {ml : JM} {j : Nat} {v : Int32} (h : j < 8) : sI 100 478 (nI j) v (K mi ml) = some (K (upd2 mi 478 j (nrw 100 v)) ml) := sI_K ds_478 (by decide) h
theorem a_480 {mi : IM} {ml : JM} {j : Nat} (h : j < 8) : aI 100 480 (nI j) (K mi ml) = some (mi 480 j) := aI_K ds_480 (by decide) h
theorem s_480 {mi : IM} {ml : JM} {j : Nat} {v : Int32} (h : j < 8) : sI 100 480 (nI j) v (K mi ml) = some (K (upd2 mi 480 j (nrw 100 v)) ml) := sI_K ds_480 (by decide) h
theorem a_482 {mi : IM} {ml : JM} {j : Nat} (h : j < 8) : aI 100 482 (nI j) (K mi ml) = some (mi 482 j) := aI_K ds_482 (by decide) h
theorem s_482 {mi : IM} {ml : JM} {j : Nat} {v : Int32} (h : j < 8) : sI 100 482 (nI j) v (K mi ml) = some (K (upd2 mi 482 j (nrw 100 v)) ml) := sI_K ds_482 (by decide) h
theorem a_484 {mi : IM} {ml : JM} {j : Nat} (h : j < 8) : aI 100 484 (nI j) (K mi ml) = some (mi 484 j) := aI_K ds_484 (by decide) h
theorem s_484 {mi : IM} {ml : JM} {j : Nat} {v : Int32} (h : j < 8) : sI 100 484 (nI j) v (K mi ml) = some (K (upd2 mi 484 j (nrw 100 v)) ml) := sI_K ds_484 (by decide) h
theorem a_486 {mi : IM} {ml : JM} {j : Nat} (h : j < 8) : aI 100 486 (nI j) (K mi ml) = some (mi 486 j) := aI_K ds_486 (by decide) h
theorem s_486 {mi : IM} {ml : JM} {j : Nat} {v : Int32} (h : j < 8) : sI 100 486 (nI j) v (K mi ml) = some (K (upd2 mi 486 j (nrw 100 v)) ml) := sI_K ds_486 (by decide) h
theorem a_489 {mi : IM} {ml : JM} {j : Nat} (h : j < 8) : aI 100 489 (nI j) (K mi ml) = some (mi 489 j) := aI_K ds_489 (by decide) h
theorem s_489 {mi : IM} {ml : JM} {j : Nat} {v : Int32} (h : j < 8) : sI 100 489 (nI j) v (K mi ml) = some (K (upd2 mi 489 j (nrw 100 v)) ml) := sI_K ds_489 (by decide) h
theorem a_491 {mi : IM} {ml : JM} {j : Nat} (h : j < 8) : aI 100 491 (nI j) (K mi ml) = some (mi 491 j) := aI_K ds_491 (by decide) h
theorem s_491 {mi : IM} {ml : JM} {j : Nat} {v : Int32} (h : j < 8) : sI 100 491 (nI j) v (K mi ml) = some (K (upd2 mi 491 j (nrw 100 v)) ml) := sI_K ds_491 (by decide) h
theorem a_492 {mi : IM} {ml : JM} {j : Nat} (h : j < 8) : aI 100 492 (nI j) (K mi ml) = some (mi 492 j) := aI_K ds_492 (by decide) h
theorem s_492 {mi : IM} {ml : JM} {j : Nat} {v : Int32} (h : j < 8) : sI 100 492 (nI j) v (K mi ml) = some (K (upd2 mi 492 j (nrw 100 v)) ml) := sI_K ds_492 (by decide) h
theorem a_493 {mi : IM} {ml : JM} {j : Nat} (h : j < 8) : aI 100 493 (nI j) (K mi ml) = some (mi 493 j) := aI_K ds_493 (by decide) h
theorem s_493 {mi : IM} {ml : JM} {j : Nat} {v : Int32} (h : j < 8) : sI 100 493 (nI j) v (K mi ml) = some (K (upd2 mi 493 j (nrw 100 v)) ml) := sI_K ds_493 (by decide) h
theorem a_494 {mi : IM} {ml : JM} {j : Nat} (h : j < 8) : aI 100 494 (nI j) (K mi ml) = some (mi 494 j) := aI_K ds_494 (by decide) h
theorem s_494 {mi : IM} {ml : JM} {j : Nat} {v : Int32} (h : j < 8) : sI 100 494 (nI j) v (K mi ml) = some (K (upd2 mi 494 j (nrw 100 v)) ml) := sI_K ds_494 (by decide) h
theorem a_496 {mi : IM} {ml : JM} {j : Nat} (h : j < 8) : aI 100 496 (nI j) (K mi ml) = some (mi 496 j) := aI_K ds_496 (by decide) h
theorem s_496 {mi : IM} {ml : JM} {j : Nat} {v : Int32} (h : j < 8) : sI 100 496 (nI j) v (K mi ml) = some (K (upd2 mi 496 j (nrw 100 v)) ml) := sI_K ds_496 (by decide) h
theorem a_498 {mi : IM} {ml : JM} {j : Nat} (h : j < 8) : aI 100 498 (nI j) (K mi ml) = some (mi 498 j) := aI_K ds_498 (by decide) h
theorem s_498 {mi : IM} {ml : JM} {j : Nat} {v : Int32} (h : j < 8) : sI 100 498 (nI j) v (K mi ml) = some (K (upd2 mi 498 j (nrw 100 v)) ml) := sI_K ds_498 (by decide) h
theorem a_500 {mi : IM} {ml : JM} {j : Nat} (h : j < 8) : aI 100 500 (nI j) (K mi ml) = some (mi 500 j) := aI_K ds_500 (by decide) h
theorem s_500 {mi : IM} {ml : JM} {j : Nat} {v : Int32} (h : j < 8) : sI 100 500 (nI j) v (K mi ml) = some (K (upd2 mi 500 j (nrw 100 v)) ml) := sI_K ds_500 (by decide) h
theorem a_502 {mi : IM} {ml : JM} {j : Nat} (h : j < 8) : aI 100 502 (nI j) (K mi ml) = some (mi 502 j) := aI_K ds_502 (by decide) h
theorem s_502 {mi : IM} {ml : JM} {j : Nat} {v : Int32} (h : j < 8) : sI 100 502 (nI j) v (K mi ml) = some (K (upd2 mi 502 j (nrw 100 v)) ml) := sI_K ds_502 (by decide) h
theorem a_504 {mi : IM} {ml : JM} {j : Nat} (h : j < 8) : aI 100 504 (nI j) (K mi ml) = some (mi 504 j) := aI_K ds_504 (by decide) h
theorem s_504 {mi : IM} {ml : JM} {j : Nat} {v : Int32} (h : j < 8) : sI 100 504 (nI j) v (K mi ml) = some (K (upd2 mi 504 j (nrw 100 v)) ml) := sI_K ds_504 (by decide) h
theorem a_506 {mi : IM} {ml : JM} {j : Nat} (h : j < 8) : aI 100 506 (nI j) (K mi ml) = some (mi 506 j) := aI_K ds_506 (by decide) h
theorem s_506 {mi : IM} {ml : JM} {j : Nat} {v : Int32} (h : j < 8) : sI 100 506 (nI j) v (K mi ml) = some (K (upd2 mi 506 j (nrw 100 v)) ml) := sI_K ds_506 (by decide) h
theorem a_508 {mi : IM} {ml : JM} {j : Nat} (h : j < 8) : aI 100 508 (nI j) (K mi ml) = some (mi 508 j) := aI_K ds_508 (by decide) h
theorem s_508 {mi : IM} {ml : JM} {j : Nat} {v : Int32} (h : j < 8) : sI 100 508 (nI j) v (K mi ml) = some (K (upd2 mi 508 j (nrw 100 v)) ml) := sI_K ds_508 (by decide) h
theorem a_510 {mi : IM} {ml : JM} {j : Nat} (h : j < 8) : aI 100 510 (nI j) (K mi ml) = some (mi 510 j) := aI_K ds_510 (by decide) h
theorem s_510 {mi : IM} {ml : JM} {j : Nat} {v : Int32} (h : j < 8) : sI 100 510 (nI j) v (K mi ml) = some (K (upd2 mi 510 j (nrw 100 v)) ml) := sI_K ds_510 (by decide) h
theorem a_513 {mi : IM} {ml : JM} {j : Nat} (h : j < 8) : aI 100 513 (nI j) (K mi ml) = some (mi 513 j) := aI_K ds_513 (by decide) h
theorem s_513 {mi : IM} {ml : JM} {j : Nat} {v : Int32} (h : j < 8) : sI 100 513 (nI j) v (K mi ml) = some (K (upd2 mi 513 j (nrw 100 v)) ml) := sI_K ds_513 (by decide) h
theorem a_515 {mi : IM} {ml : JM} {j : Nat} (h : j < 8) : aI 100 515 (nI j) (K mi ml) = some (mi 515 j) := aI_K ds_515 (by decide) h
theorem s_515 {mi : IM} {ml : JM} {j : Nat} {v : Int32} (h : j < 8) : sI 100 515 (nI j) v (K mi ml) = some (K (upd2 mi 515 j (nrw 100 v)) ml) := sI_K ds_515 (by decide) h
theorem a_516 {mi : IM} {ml : JM} {j : Nat} (h : j < 8) : aI 100 516 (nI j) (K mi ml) = some (mi 516 j) := aI_K ds_516 (by decide) h
theorem s_516 {mi : IM} {ml : JM} {j : Nat} {v : Int32} (h : j < 8) : sI 100 516 (nI j) v (K mi ml) = some (K (upd2 mi 516 j (nrw 100 v)) ml) := sI_K ds_516 (by decide) h
theorem a_517 {mi : IM} {ml : JM} {j : Nat} (h : j < 8) : aI 100 517 (nI j) (K mi ml) = some (mi 517 j) := aI_K ds_517 (by decide) h
theorem s_517 {mi : IM} {ml : JM} {j : Nat} {v : Int32} (h : j < 8) : sI 100 517 (nI j) v (K mi ml) = some (K (upd2 mi 517 j (nrw 100 v)) ml) := sI_K ds_517 (by decide) h
theorem a_518 {mi : IM} {ml : JM} {j : Nat} (h : j < 8) : aI 100 518 (nI j) (K mi ml) = some (mi 518 j) := aI_K ds_518 (by decide) h
theorem s_518 {mi : IM} {ml : JM} {j : Nat} {v : Int32} (h : j < 8) : sI 100 518 (nI j) v (K mi ml) = some (K (upd2 mi 518 j (nrw 100 v)) ml) := sI_K ds_518 (by decide) h
theorem a_520 {mi : IM} {ml : JM} {j : Nat} (h : j < 8) : aI 100 520 (nI j) (K mi ml) = some (mi 520 j) := aI_K ds_520 (by decide) h
theorem s_520 {mi : IM} {ml : JM} {j : Nat} {v : Int32} (h : j < 8) : sI 100 520 (nI j) v (K mi ml) = some (K (upd2 mi 520 j (nrw 100 v)) ml) := sI_K ds_520 (by decide) h
theorem a_522 {mi : IM} {ml : JM} {j : Nat} (h : j < 8) : aI 100 522 (nI j) (K mi ml) = some (mi 522 j) := aI_K ds_522 (by decide) h
theorem s_522 {mi : IM} {ml : JM} {j : Nat} {v : Int32} (h : j < 8) : sI 100 522 (nI j) v (K mi ml) = some (K (upd2 mi 522 j (nrw 100 v)) ml) := sI_K ds_522 (by decide) h
theorem a_524 {mi : IM} {ml : JM} {j : Nat} (h : j < 8) : aI 100 524 (nI j) (K mi ml) = some (mi 524 j) := aI_K ds_524 (by decide) h
theorem s_524 {mi : IM} {ml : JM} {j : Nat} {v : Int32} (h : j < 8) : sI 100 524 (nI j) v (K mi ml) = some (K (upd2 mi 524 j (nrw 100 v)) ml) := sI_K ds_524 (by decide) h
theorem a_526 {mi : IM} {ml : JM} {j : Nat} (h : j < 8) : aI 100 526 (nI j) (K mi ml) = some (mi 526 j) := aI_K ds_526 (by decide) h
theorem s_526 {mi : IM} {ml : JM} {j : Nat} {v : Int32} (h : j < 8) : sI 100 526 (nI j) v (K mi ml) = some (K (upd2 mi 526 j (nrw 100 v)) ml) := sI_K ds_526 (by decide) h
theorem a_528 {mi : IM} {ml : JM} {j : Nat} (h : j < 8) : aI 100 528 (nI j) (K mi ml) = some (mi 528 j) := aI_K ds_528 (by decide) h
theorem s_528 {mi : IM} {ml : JM} {j : Nat} {v : Int32} (h : j < 8) : sI 100 528 (nI j) v (K mi ml) = some (K (upd2 mi 528 j (nrw 100 v)) ml) := sI_K ds_528 (by decide) h
theorem a_530 {mi : IM} {ml : JM} {j : Nat} (h : j < 8) : aI 100 530 (nI j) (K mi ml) = some (mi 530 j) := aI_K ds_530 (by decide) h
theorem s_530 {mi : IM} {ml : JM} {j : Nat} {v : Int32} (h : j < 8) : sI 100 530 (nI j) v (K mi ml) = some (K (upd2 mi 530 j (nrw 100 v)) ml) := sI_K ds_530 (by decide) h
theorem a_532 {mi : IM} {ml : JM} {j : Nat} (h : j < 8) : aI 100 532 (nI j) (K mi ml) = some (mi 532 j) := aI_K ds_532 (by decide) h
theorem s_532 {mi : IM} {ml : JM} {j : Nat} {v : Int32} (h : j < 8) : sI 100 532 (nI j) v (K mi ml) = some (K (upd2 mi 532 j (nrw 100 v)) ml) := sI_K ds_532 (by decide) h
theorem a_534 {mi : IM} {ml : JM} {j : Nat} (h : j < 8) : aI 100 534 (nI j) (K mi ml) = some (mi 534 j) := aI_K ds_534 (by decide) h
theorem s_534 {mi : IM} {ml : JM} {j : Nat} {v : Int32} (h : j < 8) : sI 100 534 (nI j) v (K mi ml) = some (K (upd2 mi 534 j (nrw 100 v)) ml) := sI_K ds_534 (by decide) h
theorem a_537 {mi : IM} {ml : JM} {j : Nat} (h : j < 8) : aI 100 537 (nI j) (K mi ml) = some (mi 537 j) := aI_K ds_537 (by decide) h
theorem s_537 {mi : IM} {ml : JM} {j : Nat} {v : Int32} (h : j < 8) : sI 100 537 (nI j) v (K mi ml) = some (K (upd2 mi 537 j (nrw 100 v)) ml) := sI_K ds_537 (by decide) h
theorem a_539 {mi : IM} {ml : JM} {j : Nat} (h : j < 8) : aI 100 539 (nI j) (K mi ml) = some (mi 539 j) := aI_K ds_539 (by decide) h
theorem s_539 {mi : IM} {ml : JM} {j : Nat} {v : Int32} (h : j < 8) : sI 100 539 (nI j) v (K mi ml) = some (K (upd2 mi 539 j (nrw 100 v)) ml) := sI_K ds_539 (by decide) h
theorem a_540 {mi : IM} {ml : JM} {j : Nat} (h : j < 8) : aI 100 540 (nI j) (K mi ml) = some (mi 540 j) := aI_K ds_540 (by decide) h
theorem s_540 {mi : IM} {ml : JM} {j : Nat} {v : Int32} (h : j < 8) : sI 100 540 (nI j) v (K mi ml) = some (K (upd2 mi 540 j (nrw 100 v)) ml) := sI_K ds_540 (by decide) h
theorem a_541 {mi : IM} {ml : JM} {j : Nat} (h : j < 8) : aI 100 541 (nI j) (K mi ml) = some (mi 541 j) := aI_K ds_541 (by decide) h
theorem s_541 {mi : IM} {ml : JM} {j : Nat} {v : Int32} (h : j < 8) : sI 100 541 (nI j) v (K mi ml) = some (K (upd2 mi 541 j (nrw 100 v)) ml) := sI_K ds_541 (by decide) h
theorem a_542 {mi : IM} {ml : JM} {j : Nat} (h : j < 8) : aI 100 542 (nI j) (K mi ml) = some (mi 542 j) := aI_K ds_542 (by decide) h
theorem s_542 {mi : IM} {ml : JM} {j : Nat} {v : Int32} (h : j < 8) : sI 100 542 (nI j) v (K mi ml) = some (K (upd2 mi 542 j (nrw 100 v)) ml) := sI_K ds_542 (by decide) h
theorem a_544 {mi : IM} {ml : JM} {j : Nat} (h : j < 8) : aI 100 544 (nI j) (K mi ml) = some (mi 544 j) := aI_K ds_544 (by decide) h
theorem s_544 {mi : IM} {ml : JM} {j : Nat} {v : Int32} (h : j < 8) : sI 100 544 (nI j) v (K mi ml) = some (K (upd2 mi 544 j (nrw 100 v)) ml) := sI_K ds_544 (by decide) h
theorem a_546 {mi : IM} {ml : JM} {j : Nat} (h : j < 8) : aI 100 546 (nI j) (K mi ml) = some (mi 546 j) := aI_K ds_546 (by decide) h
theorem s_546 {mi : IM} {ml : JM} {j : Nat} {v : Int32} (h : j < 8) : sI 100 546 (nI j) v (K mi ml) = some (K (upd2 mi 546 j (nrw 100 v)) ml) := sI_K ds_546 (by decide) h
theorem a_548 {mi : IM} {ml : JM} {j : Nat} (h : j < 8) : aI 100 548 (nI j) (K mi ml) = some (mi 548 j) := aI_K ds_548 (by decide) h
theorem s_548 {mi : IM} {ml : JM} {j : Nat} {v : Int32} (h : j < 8) : sI 100 548 (nI j) v (K mi ml) = some (K (upd2 mi 548 j (nrw 100 v)) ml) := sI_K ds_548 (by decide) h
theorem a_550 {mi : IM} {ml : JM} {j : Nat} (h : j < 8) : aI 100 550 (nI j) (K mi ml) = some (mi 550 j) := aI_K ds_550 (by decide) h
theorem s_550 {mi : IM} {ml : JM} {j : Nat} {v : Int32} (h : j < 8) : sI 100 550 (nI j) v (K mi ml) = some (K (upd2 mi 550 j (nrw 100 v)) ml) := sI_K ds_550 (by decide) h
theorem a_552 {mi : IM} {ml : JM} {j : Nat} (h : j < 8) : aI 100 552 (nI j) (K mi ml) = some (mi 552 j) := aI_K ds_552 (by decide) h
theorem s_552 {mi : IM} {ml : JM} {j : Nat} {v : Int32} (h : j < 8) : sI 100 552 (nI j) v (K mi ml) = some (K (upd2 mi 552 j (nrw 100 v)) ml) := sI_K ds_552 (by decide) h
theorem a_554 {mi : IM} {ml : JM} {j : Nat} (h : j < 8) : aI 100 554 (nI j) (K mi ml) = some (mi 554 j) := aI_K ds_554 (by decide) h
theorem s_554 {mi : IM} {ml : JM} {j : Nat} {v : Int32} (h : j < 8) : sI 100 554 (nI j) v (K mi ml) = some (K (upd2 mi 554 j (nrw 100 v)) ml) := sI_K ds_554 (by decide) h
theorem a_556 {mi : IM} {ml : JM} {j : Nat} (h : j < 8) : aI 100 556 (nI j) (K mi ml) = some (mi 556 j) := aI_K ds_556 (by decide) h
theorem s_556 {mi : IM} {ml : JM} {j : Nat} {v : Int32} (h : j < 8) : sI 100 556 (nI j) v (K mi ml) = some (K (upd2 mi 556 j (nrw 100 v)) ml) := sI_K ds_556 (by decide) h
theorem a_558 {mi : IM} {ml : JM} {j : Nat} (h : j < 8) : aI 100 558 (nI j) (K mi ml) = some (mi 558 j) := aI_K ds_558 (by decide) h
theorem s_558 {mi : IM} {ml : JM} {j : Nat} {v : Int32} (h : j < 8) : sI 100 558 (nI j) v (K mi ml) = some (K (upd2 mi 558 j (nrw 100 v)) ml) := sI_K ds_558 (by decide) h
theorem o_559 {β : Type} {mi : IM} {ml : JM} {b : Option β} : og 12 559 (K mi ml) b = b := og_K oc_559
theorem g_559 {mi : IM} {ml : JM} {k : Nat} : gI 12 k 559 (K mi ml) = some (mi 559 k) := gI_K oc_559
theorem p_559 {mi : IM} {ml : JM} {k : Nat} {v : Int32} : pI 12 k 559 v (K mi ml) = some (K (upd2 mi 559 k v) ml) := pI_K oc_559
theorem z_559 {mi : IM} {ml : JM} {k : Nat} {v : Int32} (hv : v &&& 1 = v) : pZ 12 k 559 v (K mi ml) = some (K (upd2 mi 559 k v) ml) := pZ_K oc_559 hv
theorem gl_559 {mi : IM} {ml : JM} {k : Nat} : gL 12 k 559 (K mi ml) = some (ml 559 k) := gL_K oc_559
theorem pl_559 {mi : IM} {ml : JM} {k : Nat} {v : Int64} : pL 12 k 559 v (K mi ml) = some (K mi (upd2 ml 559 k v)) := pL_K oc_559
theorem a_560 {mi : IM} {ml : JM} {j : Nat} (h : j < 2000) : aI 101 560 (nI j) (K mi ml) = some (mi 560 j) := aI_K ds_560 (by decide) h
theorem s_560 {mi : IM} {ml : JM} {j : Nat} {v : Int32} (h : j < 2000) : sI 101 560 (nI j) v (K mi ml) = some (K (upd2 mi 560 j (nrw 101 v)) ml) := sI_K ds_560 (by decide) h
theorem a_561 {mi : IM} {ml : JM} {j : Nat} (h : j < 2000) : aI 101 561 (nI j) (K mi ml) = some (mi 561 j) := aI_K ds_561 (by decide) h
theorem s_561 {mi : IM} {ml : JM} {j : Nat} {v : Int32} (h : j < 2000) : sI 101 561 (nI j) v (K mi ml) = some (K (upd2 mi 561 j (nrw 101 v)) ml) := sI_K ds_561 (by decide) h
theorem a_562 {mi : IM} {ml : JM} {j : Nat} (h : j < 403) : aI 100 562 (nI j) (K mi ml) = some (mi 562 j) := aI_K ds_562 (by decide) h
theorem s_562 {mi : IM} {ml : JM} {j : Nat} {v : Int32} (h : j < 403) : sI 100 562 (nI j) v (K mi ml) = some (K (upd2 mi 562 j (nrw 100 v)) ml) := sI_K ds_562 (by decide) h
theorem a_563 {mi : IM} {ml : JM} {j : Nat} (h : j < 403) : aI 100 563 (nI j) (K mi ml) = some (mi 563 j) := aI_K ds_563 (by decide) h
theorem s_563 {mi : IM} {ml : JM} {j : Nat} {v : Int32} (h : j < 403) : sI 100 563 (nI j) v (K mi ml) = some (K (upd2 mi 563 j (nrw 100 v)) ml) := sI_K ds_563 (by decide) h
theorem a_564 {mi : IM} {ml : JM} {j : Nat} (h : j < 403) : aI 100 564 (nI j) (K mi ml) = some (mi 564 j) := aI_K ds_564 (by decide) h
theorem s_564 {mi : IM} {ml : JM} {j : Nat} {v : Int32} (h : j < 403) : sI 100 564 (nI j) v (K mi ml) = some (K (upd2 mi 564 j (nrw 100 v)) ml) := sI_K ds_564 (by decide) h
theorem a_565 {mi : IM} {ml : JM} {j : Nat} (h : j < 403) : aL 565 (nI j) (K mi ml) = some (ml 565 j) := aL_K ds_565 (by decide) h
theorem s_565 {mi : IM} {ml : JM} {j : Nat} {v : Int64} (h : j < 403) : sL 565 (nI j) v (K mi ml) = some (K mi (upd2 ml 565 j v)) := sL_K ds_565 (by decide) h
theorem a_566 {mi : IM} {ml : JM} {j : Nat} (h : j < 10) : aL 566 (nI j) (K mi ml) = some (ml 566 j) := aL_K ds_566 (by decide) h
theorem s_566 {mi : IM} {ml : JM} {j : Nat} {v : Int64} (h : j < 10) : sL 566 (nI j) v (K mi ml) = some (K mi (upd2 ml 566 j v)) := sL_K ds_566 (by decide) h
theorem a_567 {mi : IM} {ml : JM} {j : Nat} (h : j < 14336) : aI 102 567 (nI j) (K mi ml) = some (mi 567 j) := aI_K ds_567 (by decide) h
theorem s_567 {mi : IM} {ml : JM} {j : Nat} {v : Int32} (h : j < 14336) : sI 102 567 (nI j) v (K mi ml) = some (K (upd2 mi 567 j (nrw 102 v)) ml) := sI_K ds_567 (by decide) h
theorem a_568 {mi : IM} {ml : JM} {j : Nat} (h : j < 2) : aI 100 568 (nI j) (K mi ml) = some (mi 568 j) := aI_K ds_568 (by decide) h
theorem s_568 {mi : IM} {ml : JM} {j : Nat} {v : Int32} (h : j < 2) : sI 100 568 (nI j) v (K mi ml) = some (K (upd2 mi 568 j (nrw 100 v)) ml) := sI_K ds_568 (by decide) h
theorem a_569 {mi : IM} {ml : JM} {j : Nat} (h : j < 2) : aI 100 569 (nI j) (K mi ml) = some (mi 569 j) := aI_K ds_569 (by decide) h
theorem s_569 {mi : IM} {ml : JM} {j : Nat} {v : Int32} (h : j < 2) : sI 100 569 (nI j) v (K mi ml) = some (K (upd2 mi 569 j (nrw 100 v)) ml) := sI_K ds_569 (by decide) h
theorem a_570 {mi : IM} {ml : JM} {j : Nat} (h : j < 14) : aL 570 (nI j) (K mi ml) = some (ml 570 j) := aL_K ds_570 (by decide) h
theorem s_570 {mi : IM} {ml : JM} {j : Nat} {v : Int64} (h : j < 14) : sL 570 (nI j) v (K mi ml) = some (K mi (upd2 ml 570 j v)) := sL_K ds_570 (by decide) h
theorem a_571 {mi : IM} {ml : JM} {j : Nat} (h : j < 14) : aI 100 571 (nI j) (K mi ml) = some (mi 571 j) := aI_K ds_571 (by decide) h
theorem s_571 {mi : IM} {ml : JM} {j : Nat} {v : Int32} (h : j < 14) : sI 100 571 (nI j) v (K mi ml) = some (K (upd2 mi 571 j (nrw 100 v)) ml) := sI_K ds_571 (by decide) h
theorem a_572 {mi : IM} {ml : JM} {j : Nat} (h : j < 14) : aI 102 572 (nI j) (K mi ml) = some (mi 572 j) := aI_K ds_572 (by decide) h
theorem s_572 {mi : IM} {ml : JM} {j : Nat} {v : Int32} (h : j < 14) : sI 102 572 (nI j) v (K mi ml) = some (K (upd2 mi 572 j (nrw 102 v)) ml) := sI_K ds_572 (by decide) h
theorem a_573 {mi : IM} {ml : JM} {j : Nat} (h : j < 14) : aI 100 573 (nI j) (K mi ml) = some (mi 573 j) := aI_K ds_573 (by decide) h
theorem s_573 {mi : IM} {ml : JM} {j : Nat} {v : Int32} (h : j < 14) : sI 100 573 (nI j) v (K mi ml) = some (K (upd2 mi 573 j (nrw 100 v)) ml) := sI_K ds_573 (by decide) h
theorem a_574 {mi : IM} {ml : JM} {j : Nat} (h : j < 15) : aI 100 574 (nI j) (K mi ml) = some (mi 574 j) := aI_K ds_574 (by decide) h
theorem s_574 {mi : IM} {ml : JM} {j : Nat} {v : Int32} (h : j < 15) : sI 100 574 (nI j) v (K mi ml) = some (K (upd2 mi 574 j (nrw 100 v)) ml) := sI_K ds_574 (by decide) h
theorem a_575 {mi : IM} {ml : JM} {j : Nat} (h : j < 500) : aI 100 575 (nI j) (K mi ml) = some (mi 575 j) := aI_K ds_575 (by decide) h
theorem s_575 {mi : IM} {ml : JM} {j : Nat} {v : Int32} (h : j < 500) : sI 100 575 (nI j) v (K mi ml) = some (K (upd2 mi 575 j (nrw 100 v)) ml) := sI_K ds_575 (by decide) h
theorem a_576 {mi : IM} {ml : JM} {j : Nat} (h : j < 500) : aI 100 576 (nI j) (K mi ml) = some (mi 576 j) := aI_K ds_576 (by decide) h
theorem s_576 {mi : IM} {ml : JM} {j : Nat} {v : Int32} (h : j < 500) : sI 100 576 (nI j) v (K mi ml) = some (K (upd2 mi 576 j (nrw 100 v)) ml) := sI_K ds_576 (by decide) h
theorem a_577 {mi : IM} {ml : JM} {j : Nat} (h : j < 500) : aI 100 577 (nI j) (K mi ml) = some (mi 577 j) := aI_K ds_577 (by decide) h
theorem s_577 {mi : IM} {ml : JM} {j : Nat} {v : Int32} (h : j < 500) : sI 100 577 (nI j) v (K mi ml) = some (K (upd2 mi 577 j (nrw 100 v)) ml) := sI_K ds_577 (by decide) h
theorem a_578 {mi : IM} {ml : JM} {j : Nat} (h : j < 500) : aI 100 578 (nI j) (K mi ml) = some (mi 578 j) := aI_K ds_578 (by decide) h
theorem s_578 {mi : IM} {ml : JM} {j : Nat} {v : Int32} (h : j < 500) : sI 100 578 (nI j) v (K mi ml) = some (K (upd2 mi 578 j (nrw 100 v)) ml) := sI_K ds_578 (by decide) h
theorem a_579 {mi : IM} {ml : JM} {j : Nat} (h : j < 500) : aI 100 579 (nI j) (K mi ml) = some (mi 579 j) := aI_K ds_579 (by decide) h
theorem s_579 {mi : IM} {ml : JM} {j : Nat} {v : Int32} (h : j < 500) : sI 100 579 (nI j) v (K mi ml) = some (K (upd2 mi 579 j (nrw 100 v)) ml) := sI_K ds_579 (by decide) h
theorem a_580 {mi : IM} {ml : JM} {j : Nat} (h : j < 500) : aI 100 580 (nI j) (K mi ml) = some (mi 580 j) := aI_K ds_580 (by decide) h
theorem s_580 {mi : IM} {ml : JM} {j : Nat} {v : Int32} (h : j < 500) : sI 100 580 (nI j) v (K mi ml) = some (K (upd2 mi 580 j (nrw 100 v)) ml) := sI_K ds_580 (by decide) h
theorem a_581 {mi : IM} {ml : JM} {j : Nat} (h : j < 420) : aI 100 581 (nI j) (K mi ml) = some (mi 581 j) := aI_K ds_581 (by decide) h
theorem s_581 {mi : IM} {ml : JM} {j : Nat} {v : Int32} (h : j < 420) : sI 100 581 (nI j) v (K mi ml) = some (K (upd2 mi 581 j (nrw 100 v)) ml) := sI_K ds_581 (by decide) h
theorem a_582 {mi : IM} {ml : JM} {j : Nat} (h : j < 420) : aI 100 582 (nI j) (K mi ml) = some (mi 582 j) := aI_K ds_582 (by decide) h
theorem s_582 {mi : IM} {ml : JM} {j : Nat} {v : Int32} (h : j < 420) : sI 100 582 (nI j) v (K mi ml) = some (K (upd2 mi 582 j (nrw 100 v)) ml) := sI_K ds_582 (by decide) h
theorem a_583 {mi : IM} {ml : JM} {j : Nat} (h : j < 420) : aI 100 583 (nI j) (K mi ml) = some (mi 583 j) := aI_K ds_583 (by decide) h
theorem s_583 {mi : IM} {ml : JM} {j : Nat} {v : Int32} (h : j < 420) : sI 100 583 (nI j) v (K mi ml) = some (K (upd2 mi 583 j (nrw 100 v)) ml) := sI_K ds_583 (by decide) h
theorem a_584 {mi : IM} {ml : JM} {j : Nat} (h : j < 420) : aI 100 584 (nI j) (K mi ml) = some (mi 584 j) := aI_K ds_584 (by decide) h
theorem s_584 {mi : IM} {ml : JM} {j : Nat} {v : Int32} (h : j < 420) : sI 100 584 (nI j) v (K mi ml) = some (K (upd2 mi 584 j (nrw 100 v)) ml) := sI_K ds_584 (by decide) h
theorem a_585 {mi : IM} {ml : JM} {j : Nat} (h : j < 256) : aI 100 585 (nI j) (K mi ml) = some (mi 585 j) := aI_K ds_585 (by decide) h
theorem s_585 {mi : IM} {ml : JM} {j : Nat} {v : Int32} (h : j < 256) : sI 100 585 (nI j) v (K mi ml) = some (K (upd2 mi 585 j (nrw 100 v)) ml) := sI_K ds_585 (by decide) h
theorem a_586 {mi : IM} {ml : JM} {j : Nat} (h : j < 256) : aI 102 586 (nI j) (K mi ml) = some (mi 586 j) := aI_K ds_586 (by decide) h
theorem s_586 {mi : IM} {ml : JM} {j : Nat} {v : Int32} (h : j < 256) : sI 102 586 (nI j) v (K mi ml) = some (K (upd2 mi 586 j (nrw 102 v)) ml) := sI_K ds_586 (by decide) h
theorem a_587 {mi : IM} {ml : JM} {j : Nat} (h : j < 8) : aI 102 587 (nI j) (K mi ml) = some (mi 587 j) := aI_K ds_587 (by decide) h
theorem s_587 {mi : IM} {ml : JM} {j : Nat} {v : Int32} (h : j < 8) : sI 102 587 (nI j) v (K mi ml) = some (K (upd2 mi 587 j (nrw 102 v)) ml) := sI_K ds_587 (by decide) h
theorem a_588 {mi : IM} {ml : JM} {j : Nat} (h : j < 64) : aI 100 588 (nI j) (K mi ml) = some (mi 588 j) := aI_K ds_588 (by decide) h
theorem s_588 {mi : IM} {ml : JM} {j : Nat} {v : Int32} (h : j < 64) : sI 100 588 (nI j) v (K mi ml) = some (K (upd2 mi 588 j (nrw 100 v)) ml) := sI_K ds_588 (by decide) h
theorem a_589 {mi : IM} {ml : JM} {j : Nat} (h : j < 16384) : aI 100 589 (nI j) (K mi ml) = some (mi 589 j) := aI_K ds_589 (by decide) h
theorem s_589 {mi : IM} {ml : JM} {j : Nat} {v : Int32} (h : j < 16384) : sI 100 589 (nI j) v (K mi ml) = some (K (upd2 mi 589 j (nrw 100 v)) ml) := sI_K ds_589 (by decide) h
theorem a_590 {mi : IM} {ml : JM} {j : Nat} (h : j < 64) : aI 102 590 (nI j) (K mi ml) = some (mi 590 j) := aI_K ds_590 (by decide) h
theorem s_590 {mi : IM} {ml : JM} {j : Nat} {v : Int32} (h : j < 64) : sI 102 590 (nI j) v (K mi ml) = some (K (upd2 mi 590 j (nrw 102 v)) ml) := sI_K ds_590 (by decide) h
theorem a_591 {mi : IM} {ml : JM} {j : Nat} (h : j < 256) : aI 102 591 (nI j) (K mi ml) = some (mi 591 j) := aI_K ds_591 (by decide) h
theorem s_591 {mi : IM} {ml : JM} {j : Nat} {v : Int32} (h : j < 256) : sI 102 591 (nI j) v (K mi ml) = some (K (upd2 mi 591 j (nrw 102 v)) ml) := sI_K ds_591 (by decide) h
theorem a_592 {mi : IM} {ml : JM} {j : Nat} (h : j < 9) : aI 100 592 (nI j) (K mi ml) = some (mi 592 j) := aI_K ds_592 (by decide) h
theorem s_592 {mi : IM} {ml : JM} {j : Nat} {v : Int32} (h : j < 9) : sI 100 592 (nI j) v (K mi ml) = some (K (upd2 mi 592 j (nrw 100 v)) ml) := sI_K ds_592 (by decide) h
theorem a_593 {mi : IM} {ml : JM} {j : Nat} (h : j < 9) : aI 100 593 (nI j) (K mi ml) = some (mi 593 j) := aI_K ds_593 (by decide) h
theorem s_593 {mi : IM} {ml : JM} {j : Nat} {v : Int32} (h : j < 9) : sI 100 593 (nI j) v (K mi ml) = some (K (upd2 mi 593 j (nrw 100 v)) ml) := sI_K ds_593 (by decide) h
theorem a_594 {mi : IM} {ml : JM} {j : Nat} (h : j < 9) : aI 100 594 (nI j) (K mi ml) = some (mi 594 j) := aI_K ds_594 (by decide) h
theorem s_594 {mi : IM} {ml : JM} {j : Nat} {v : Int32} (h : j < 9) : sI 100 594 (nI j) v (K mi ml) = some (K (upd2 mi 594 j (nrw 100 v)) ml) := sI_K ds_594 (by decide) h
theorem a_595 {mi : IM} {ml : JM} {j : Nat} (h : j < 9) : aI 100 595 (nI j) (K mi ml) = some (mi 595 j) := aI_K ds_595 (by decide) h
theorem s_595 {mi : IM} {ml : JM} {j : Nat} {v : Int32} (h : j < 9) : sI 100 595 (nI j) v (K mi ml) = some (K (upd2 mi 595 j (nrw 100 v)) ml) := sI_K ds_595 (by decide) h
theorem a_596 {mi : IM} {ml : JM} {j : Nat} (h : j < 8) : aI 100 596 (nI j) (K mi ml) = some (mi 596 j) := aI_K ds_596 (by decide) h
theorem s_596 {mi : IM} {ml : JM} {j : Nat} {v : Int32} (h : j < 8) : sI 100 596 (nI j) v (K mi ml) = some (K (upd2 mi 596 j (nrw 100 v)) ml) := sI_K ds_596 (by decide) h
theorem a_597 {mi : IM} {ml : JM} {j : Nat} (h : j < 8) : aI 100 597 (nI j) (K mi ml) = some (mi 597 j) := aI_K ds_597 (by decide) h
theorem s_597 {mi : IM} {ml : JM} {j : Nat} {v : Int32} (h : j < 8) : sI 100 597 (nI j) v (K mi ml) = some (K (upd2 mi 597 j (nrw 100 v)) ml) := sI_K ds_597 (by decide) h
theorem a_598 {mi : IM} {ml : JM} {j : Nat} (h : j < 8) : aI 100 598 (nI j) (K mi ml) = some (mi 598 j) := aI_K ds_598 (by decide) h
theorem s_598 {mi : IM} {ml : JM} {j : Nat} {v : Int32} (h : j < 8) : sI 100 598 (nI j) v (K mi ml) = some (K (upd2 mi 598 j (nrw 100 v)) ml) := sI_K ds_598 (by decide) h
theorem a_599 {mi : IM} {ml : JM} {j : Nat} (h : j < 8) : aI 100 599 (nI j) (K mi ml) = some (mi 599 j) := aI_K ds_599 (by decide) h
theorem s_599 {mi : IM} {ml : JM} {j : Nat} {v : Int32} (h : j < 8) : sI 100 599 (nI j) v (K mi ml) = some (K (upd2 mi 599 j (nrw 100 v)) ml) := sI_K ds_599 (by decide) h
theorem a_600 {mi : IM} {ml : JM} {j : Nat} (h : j < 8) : aI 100 600 (nI j) (K mi ml) = some (mi 600 j) := aI_K ds_600 (by decide) h
theorem s_600 {mi : IM} {ml : JM} {j : Nat} {v : Int32} (h : j < 8) : sI 100 600 (nI j) v (K mi ml) = some (K (upd2 mi 600 j (nrw 100 v)) ml) := sI_K ds_600 (by decide) h
theorem a_601 {mi : IM} {ml : JM} {j : Nat} (h : j < 8) : aI 100 601 (nI j) (K mi ml) = some (mi 601 j) := aI_K ds_601 (by decide) h
theorem s_601 {mi : IM} {ml : JM} {j : Nat} {v : Int32} (h : j < 8) : sI 100 601 (nI j) v (K mi ml) = some (K (upd2 mi 601 j (nrw 100 v)) ml) := sI_K ds_601 (by decide) h
theorem a_602 {mi : IM} {ml : JM} {j : Nat} (h : j < 8) : aI 100 602 (nI j) (K mi ml) = some (mi 602 j) := aI_K ds_602 (by decide) h
theorem s_602 {mi : IM} {ml : JM} {j : Nat} {v : Int32} (h : j < 8) : sI 100 602 (nI j) v (K mi ml) = some (K (upd2 mi 602 j (nrw 100 v)) ml) := sI_K ds_602 (by decide) h
theorem a_603 {mi : IM} {ml : JM} {j : Nat} (h : j < 2048) : aI 102 603 (nI j) (K mi ml) = some (mi 603 j) := aI_K ds_603 (by decide) h
theorem s_603 {mi : IM} {ml : JM} {j : Nat} {v : Int32} (h : j < 2048) : sI 102 603 (nI j) v (K mi ml) = some (K (upd2 mi 603 j (nrw 102 v)) ml) := sI_K ds_603 (by decide) h
theorem a_604 {mi : IM} {ml : JM} {j : Nat} (h : j < 60) : aI 100 604 (nI j) (K mi ml) = some (mi 604 j) := aI_K ds_604 (by decide) h
theorem s_604 {mi : IM} {ml : JM} {j : Nat} {v : Int32} (h : j < 60) : sI 100 604 (nI j) v (K mi ml) = some (K (upd2 mi 604 j (nrw 100 v)) ml) := sI_K ds_604 (by decide) h
theorem a_605 {mi : IM} {ml : JM} {j : Nat} (h : j < 60) : aI 100 605 (nI j) (K mi ml) = some (mi 605 j) := aI_K ds_605 (by decide) h
theorem s_605 {mi : IM} {ml : JM} {j : Nat} {v : Int32} (h : j < 60) : sI 100 605 (nI j) v (K mi ml) = some (K (upd2 mi 605 j (nrw 100 v)) ml) := sI_K ds_605 (by decide) h
theorem a_606 {mi : IM} {ml : JM} {j : Nat} (h : j < 60) : aI 100 606 (nI j) (K mi ml) = some (mi 606 j) := aI_K ds_606 (by decide) h
theorem s_606 {mi : IM} {ml : JM} {j : Nat} {v : Int32} (h : j < 60) : sI 100 606 (nI j) v (K mi ml) = some (K (upd2 mi 606 j (nrw 100 v)) ml) := sI_K ds_606 (by decide) h
theorem a_607 {mi : IM} {ml : JM} {j : Nat} (h : j < 60) : aI 100 607 (nI j) (K mi ml) = some (mi 607 j) := aI_K ds_607 (by decide) h
theorem s_607 {mi : IM} {ml : JM} {j : Nat} {v : Int32} (h : j < 60) : sI 100 607 (nI j) v (K mi ml) = some (K (upd2 mi 607 j (nrw 100 v)) ml) := sI_K ds_607 (by decide) h
theorem a_608 {mi : IM} {ml : JM} {j : Nat} (h : j < 60) : aI 100 608 (nI j) (K mi ml) = some (mi 608 j) := aI_K ds_608 (by decide) h
theorem s_608 {mi : IM} {ml : JM} {j : Nat} {v : Int32} (h : j < 60) : sI 100 608 (nI j) v (K mi ml) = some (K (upd2 mi 608 j (nrw 100 v)) ml) := sI_K ds_608 (by decide) h
theorem a_609 {mi : IM} {ml : JM} {j : Nat} (h : j < 122880) : aI 102 609 (nI j) (K mi ml) = some (mi 609 j) := aI_K ds_609 (by decide) h
theorem s_609 {mi : IM} {ml : JM} {j : Nat} {v : Int32} (h : j < 122880) : sI 102 609 (nI j) v (K mi ml) = some (K (upd2 mi 609 j (nrw 102 v)) ml) := sI_K ds_609 (by decide) h
/-- a Shape stands at a, its rows behind it -/
def isSh (a : Nat) : Prop := (La.2.1 a).1 = 7 ∧ La.2.2 a 0 = some (a + 1) ∧ La.2.1 (a + 1) = (100, 8)
def shL : List Nat := [18, 21, 23, 25, 27, 29, 31, 33, 35, 37, 39, 41, 43, 45, 47, 49, 51, 53, 55, 57, 59, 61, 63, 65, 67, 69, 71, 73, 75, 78, 82, 95, 97, 99, 101, 103, 106, 113, 115, 117, 119, 121, 123, 125, 127, 132, 134, 136, 138, 140, 142, 144, 146, 148, 150, 152, 221, 224, 231, 233, 235, 237, 239, 241, 243, 245, 248, 255, 257, 259, 261, 263, 265, 267, 269, 272, 279, 281, 283, 285, 287, 289, 291, 293, 296, 303, 305, 307, 309, 311, 313, 315, 317, 320, 327, 329, 331, 333, 335, 337, 339, 341, 344, 351, 353, 355, 357, 359, 361, 363, 365, 368, 375, 377, 379, 381, 383, 385, 387, 389, 392, 399, 401, 403, 405, 407, 409, 411, 413, 416, 423, 425, 427, 429, 431, 433, 435, 437, 440, 447, 449, 451, 453, 455, 457, 459, 461, 464, 471, 473, 475, 477, 479, 481, 483, 485, 488, 495, 497, 499, 501, 503, 505, 507, 509, 512, 519, 521, 523, 525, 527, 529, 531, 533, 536, 543, 545, 547, 549, 551, 553, 555, 557]
theorem sh_all : ∀ a ∈ shL, DSl.getD a (999, 0) = (7, 0) ∧ (RFl.getD a []) = [some (a + 1)] ∧ DSl.getD (a + 1) (999, 0) = (100, 8) ∧ a + 1 < 610 := by decide +kernel
theorem sh_ok {a : Nat} (h : a ∈ shL) : isSh a := by
  obtain ⟨h1, h2, h3, h4⟩ := sh_all a h
  refine ⟨by rw [La_ds a (by omega), h1], ?_, by rw [La_ds (a + 1) h4, h3]⟩
  have := La_rf a (by omega) 0 (by rw [h2]; exact Nat.zero_lt_one)
  rw [this, h2]; rfl
/-- a Form stands at a: told at a+1, the row of images at a+3, lowest a+4, width a+5, height a+6, leastSame a+7, image g at a+8+2g -/
def isFo (a : Nat) : Prop := (La.2.1 a).1 = 4 ∧ La.2.2 a 0 = some (a + 1) ∧ La.2.2 a 1 = some (a + 3) ∧ La.2.2 a 2 = some (a + 4) ∧ La.2.2 a 3 = some (a + 5) ∧ La.2.2 a 4 = some (a + 6) ∧ La.2.2 a 5 = some (a + 7) ∧ La.2.1 (a + 3) = (104, 8) ∧ La.2.1 (a + 4) = (100, 8) ∧ La.2.1 (a + 5) = (100, 8) ∧ La.2.1 (a + 6) = (100, 8) ∧ La.2.1 (a + 7) = (100, 8) ∧ isSh (a + 1) ∧ ∀ g, g < 8 → La.2.2 (a + 3) g = some (a + 8 + 2 * g) ∧ isSh (a + 8 + 2 * g)
def foL : List Nat := [105, 223, 247, 271, 295, 319, 343, 367, 391, 415, 439, 463, 487, 511, 535]
theorem fo_all : ∀ a ∈ foL, DSl.getD a (999, 0) = (4, 0) ∧ (RFl.getD a []) = [some (a + 1), some (a + 3), some (a + 4), some (a + 5), some (a + 6), some (a + 7), none] ∧ (DSl.getD (a + 3) (999, 0) = (104, 8) ∧ DSl.getD (a + 4) (999, 0) = (100, 8) ∧ DSl.getD (a + 5) (999, 0) = (100, 8) ∧ DSl.getD (a + 6) (999, 0) = (100, 8) ∧ DSl.getD (a + 7) (999, 0) = (100, 8)) ∧ a + 24 ≤ 610 ∧ (a + 1) ∈ shL ∧ (RFl.getD (a + 3) []).length = 8 ∧ ∀ g, g < 8 → (RFl.getD (a + 3) []).getD g none = some (a + 8 + 2 * g) ∧ (a + 8 + 2 * g) ∈ shL := by decide +kernel
theorem fo_ok {a : Nat} (h : a ∈ foL) : isFo a := by
  obtain ⟨h1, h2, ⟨h3, h4, h5, h6, h7⟩, h8, h9, h10, h11⟩ := fo_all a h
  have rr : ∀ k, k < 6 → La.2.2 a k = ([some (a + 1), some (a + 3), some (a + 4), some (a + 5), some (a + 6), some (a + 7), none] : List (Option Nat)).getD k none := by
    intro k hk
    have := La_rf a (by omega) k (by rw [h2]; show k < 7; omega)
    rw [this, h2]
  refine ⟨by rw [La_ds a (by omega), h1], rr 0 (by omega), rr 1 (by omega), rr 2 (by omega), rr 3 (by omega), rr 4 (by omega), rr 5 (by omega), by rw [La_ds (a + 3) (by omega), h3], by rw [La_ds (a + 4) (by omega), h4], by rw [La_ds (a + 5) (by omega), h5], by rw [La_ds (a + 6) (by omega), h6], by rw [La_ds (a + 7) (by omega), h7], sh_ok h9, fun g hg => ?_⟩
  have := La_rf (a + 3) (by omega) g (by rw [h10]; exact hg)
  rw [this, (h11 g hg).1]
  exact ⟨rfl, sh_ok (h11 g hg).2⟩
theorem ra_2 : ∀ j, j < 8 → La.2.2 2 j = some (223 + 24 * j) := by
  intro j hj
  have h1 : ∀ j, j < 8 → j < (RFl.getD 2 []).length ∧ (RFl.getD 2 []).getD j none = some (223 + 24 * j) := by decide +kernel
  rw [La_rf 2 (okl rfl) j (h1 j hj).1, (h1 j hj).2]
theorem ra_3 : ∀ j, j < 6 → La.2.2 3 j = some (415 + 24 * j) := by
  intro j hj
  have h1 : ∀ j, j < 6 → j < (RFl.getD 3 []).length ∧ (RFl.getD 3 []).getD j none = some (415 + 24 * j) := by decide +kernel
  rw [La_rf 3 (okl rfl) j (h1 j hj).1, (h1 j hj).2]
theorem ra_13 : ∀ j, j < 14 → La.2.2 13 j = some (21 + 2 * j) := by
  intro j hj
  have h1 : ∀ j, j < 14 → j < (RFl.getD 13 []).length ∧ (RFl.getD 13 []).getD j none = some (21 + 2 * j) := by decide +kernel
  rw [La_rf 13 (okl rfl) j (h1 j hj).1, (h1 j hj).2]
theorem ra_16 : ∀ j, j < 7 → La.2.2 16 j = some (49 + 4 * j) := by
  intro j hj
  have h1 : ∀ j, j < 7 → j < (RFl.getD 16 []).length ∧ (RFl.getD 16 []).getD j none = some (49 + 4 * j) := by decide +kernel
  rw [La_rf 16 (okl rfl) j (h1 j hj).1, (h1 j hj).2]
theorem ra_17 : ∀ j, j < 7 → La.2.2 17 j = some (51 + 4 * j) := by
  intro j hj
  have h1 : ∀ j, j < 7 → j < (RFl.getD 17 []).length ∧ (RFl.getD 17 []).getD j none = some (51 + 4 * j) := by decide +kernel
  rw [La_rf 17 (okl rfl) j (h1 j hj).1, (h1 j hj).2]
theorem ra_87 : ∀ j, j < 6 → La.2.2 87 j = some (88 + 1 * j) := by
  intro j hj
  have h1 : ∀ j, j < 6 → j < (RFl.getD 87 []).length ∧ (RFl.getD 87 []).getD j none = some (88 + 1 * j) := by decide +kernel
  rw [La_rf 87 (okl rfl) j (h1 j hj).1, (h1 j hj).2]
theorem ra_130 : ∀ j, j < 8 → La.2.2 130 j = some (138 + 2 * j) := by
  intro j hj
  have h1 : ∀ j, j < 8 → j < (RFl.getD 130 []).length ∧ (RFl.getD 130 []).getD j none = some (138 + 2 * j) := by decide +kernel
  rw [La_rf 130 (okl rfl) j (h1 j hj).1, (h1 j hj).2]
theorem ra_159 : ∀ j, j < 60 → La.2.2 159 j = some (160 + 1 * j) := by
  intro j hj
  have h1 : ∀ j, j < 60 → j < (RFl.getD 159 []).length ∧ (RFl.getD 159 []).getD j none = some (160 + 1 * j) := by decide +kernel
  rw [La_rf 159 (okl rfl) j (h1 j hj).1, (h1 j hj).2]

/-! what the final fields hold, by number; how long the rows are -/
theorem gl_2_0 : GL GT 2 0 = 3 := rfl
theorem gl_2_1 : GL GT 2 1 = 12 := rfl
theorem gl_2_2 : GL GT 2 2 = 19 := rfl
theorem gl_2_3 : GL GT 2 3 = 27 := rfl
theorem gl_2_4 : GL GT 2 4 = 36 := rfl
theorem gl_2_5 : GL GT 2 5 = 41 := rfl
theorem gl_2_6 : GL GT 2 6 = 37 := rfl
theorem gl_2_7 : GL GT 2 7 = 38 := rfl
theorem gl_2_8 : GL GT 2 8 = 51 := rfl
theorem gl_2_9 : GL GT 2 9 = 52 := rfl
theorem gl_2_10 : GL GT 2 10 = 53 := rfl
theorem gl_2_12 : GL GT 2 12 = 64 := rfl
theorem gl_2_13 : GL GT 2 13 = 73 := rfl
theorem gl_2_14 : GL GT 2 14 = 74 := rfl
theorem gl_3_0 : GL GT 3 0 = 4 := rfl
theorem gl_3_7 : GL GT 3 7 = 5 := rfl
theorem gl_5_0 : GL GT 5 0 = 6 := rfl
theorem gl_5_1 : GL GT 5 1 = 7 := rfl
theorem gl_5_2 : GL GT 5 2 = 8 := rfl
theorem gl_5_3 : GL GT 5 3 = 10 := rfl
theorem gl_8_0 : GL GT 8 0 = 9 := rfl
theorem gl_10_0 : GL GT 10 0 = 11 := rfl
theorem gl_12_0 : GL GT 12 0 = 13 := rfl
theorem gl_12_1 : GL GT 12 1 = 14 := rfl
theorem gl_12_2 : GL GT 12 2 = 15 := rfl
theorem gl_12_3 : GL GT 12 3 = 17 := rfl
theorem gl_15_0 : GL GT 15 0 = 16 := rfl
theorem gl_17_0 : GL GT 17 0 = 18 := rfl
theorem gl_19_3 : GL GT 19 3 = 20 := rfl
theorem gl_19_4 : GL GT 19 4 = 21 := rfl
theorem gl_19_5 : GL GT 19 5 = 22 := rfl
theorem gl_19_6 : GL GT 19 6 = 23 := rfl
theorem gl_19_7 : GL GT 19 7 = 24 := rfl
theorem gl_19_8 : GL GT 19 8 = 25 := rfl
theorem gl_19_9 : GL GT 19 9 = 1 := rfl
theorem gl_19_10 : GL GT 19 10 = 26 := rfl
theorem gl_27_0 : GL GT 27 0 = 19 := rfl
theorem gl_27_1 : GL GT 27 1 = 12 := rfl
theorem gl_27_2 : GL GT 27 2 = 28 := rfl
theorem gl_27_3 : GL GT 27 3 = 29 := rfl
theorem gl_27_5 : GL GT 27 5 = 30 := rfl
theorem gl_27_6 : GL GT 27 6 = 31 := rfl
theorem gl_27_7 : GL GT 27 7 = 32 := rfl
theorem gl_27_8 : GL GT 27 8 = 33 := rfl
theorem gl_36_0 : GL GT 36 0 = 19 := rfl
theorem gl_36_1 : GL GT 36 1 = 27 := rfl
theorem gl_36_2 : GL GT 36 2 = 34 := rfl
theorem gl_37_0 : GL GT 37 0 = 19 := rfl
theorem gl_37_1 : GL GT 37 1 = 27 := rfl
theorem gl_38_0 : GL GT 38 0 = 19 := rfl
theorem gl_38_1 : GL GT 38 1 = 27 := rfl
theorem gl_38_2 : GL GT 38 2 = 34 := rfl
theorem gl_38_3 : GL GT 38 3 = 35 := rfl
theorem gl_38_4 : GL GT 38 4 = 39 := rfl
theorem gl_38_5 : GL GT 38 5 = 40 := rfl
theorem gl_42_0 : GL GT 42 0 = 19 := rfl
theorem gl_42_1 : GL GT 42 1 = 27 := rfl
theorem gl_42_3 : GL GT 42 3 = 43 := rfl
theorem gl_42_4 : GL GT 42 4 = 44 := rfl
theorem gl_42_5 : GL GT 42 5 = 34 := rfl
theorem gl_42_6 : GL GT 42 6 = 35 := rfl
theorem gl_45_0 : GL GT 45 0 = 19 := rfl
theorem gl_45_1 : GL GT 45 1 = 27 := rfl
theorem gl_45_3 : GL GT 45 3 = 46 := rfl
theorem gl_45_4 : GL GT 45 4 = 47 := rfl
theorem gl_45_5 : GL GT 45 5 = 34 := rfl
theorem gl_45_6 : GL GT 45 6 = 35 := rfl
theorem gl_48_0 : GL GT 48 0 = 19 := rfl
theorem gl_48_1 : GL GT 48 1 = 27 := rfl
theorem gl_48_3 : GL GT 48 3 = 49 := rfl
theorem gl_48_4 : GL GT 48 4 = 50 := rfl
theorem gl_48_5 : GL GT 48 5 = 34 := rfl
theorem gl_48_6 : GL GT 48 6 = 35 := rfl
theorem gl_65_0 : GL GT 65 0 = 66 := rfl
theorem gl_67_0 : GL GT 67 0 = 68 := rfl
theorem gl_69_0 : GL GT 69 0 = 70 := rfl
theorem gl_71_0 : GL GT 71 0 = 72 := rfl
theorem gl_75_0 : GL GT 75 0 = 76 := rfl
theorem gl_75_1 : GL GT 75 1 = 77 := rfl
theorem gl_75_2 : GL GT 75 2 = 78 := rfl
theorem gl_75_3 : GL GT 75 3 = 80 := rfl
theorem gl_78_0 : GL GT 78 0 = 79 := rfl
theorem gl_80_0 : GL GT 80 0 = 81 := rfl
theorem gl_83_0 : GL GT 83 0 = 84 := rfl
theorem gl_83_1 : GL GT 83 1 = 85 := rfl
theorem gl_83_2 : GL GT 83 2 = 86 := rfl
theorem gl_83_3 : GL GT 83 3 = 88 := rfl
theorem gl_86_0 : GL GT 86 0 = 87 := rfl
theorem gl_88_0 : GL GT 88 0 = 89 := rfl
theorem gl_91_1 : GL GT 91 1 = 92 := rfl
theorem gl_91_2 : GL GT 91 2 = 93 := rfl
theorem gl_91_3 : GL GT 91 3 = 94 := rfl
theorem gl_91_4 : GL GT 91 4 = 95 := rfl
theorem gl_91_16 : GL GT 91 16 = 96 := rfl
theorem gl_91_17 : GL GT 91 17 = 97 := rfl
theorem gl_91_18 : GL GT 91 18 = 98 := rfl
theorem gl_91_20 : GL GT 91 20 = 99 := rfl
theorem gl_91_21 : GL GT 91 21 = 100 := rfl
theorem gl_91_22 : GL GT 91 22 = 101 := rfl
theorem gl_91_25 : GL GT 91 25 = 102 := rfl
theorem gl_91_26 : GL GT 91 26 = 103 := rfl
theorem gl_91_27 : GL GT 91 27 = 104 := rfl
theorem gl_91_28 : GL GT 91 28 = 105 := rfl
theorem gl_91_29 : GL GT 91 29 = 106 := rfl
theorem gl_91_30 : GL GT 91 30 = 107 := rfl
theorem gl_91_31 : GL GT 91 31 = 108 := rfl
theorem gl_91_32 : GL GT 91 32 = 109 := rfl
theorem gl_91_33 : GL GT 91 33 = 110 := rfl
theorem gl_91_36 : GL GT 91 36 = 111 := rfl
theorem gl_91_37 : GL GT 91 37 = 112 := rfl
theorem gl_91_38 : GL GT 91 38 = 113 := rfl
theorem gl_91_39 : GL GT 91 39 = 114 := rfl
theorem gl_91_40 : GL GT 91 40 = 115 := rfl
theorem sl_1 : SHl 1 = 32 := rfl
theorem sl_4 : SHl 4 = 900 := rfl
theorem sl_6 : SHl 6 = 5 := rfl
theorem sl_7 : SHl 7 = 5 := rfl
theorem sl_9 : SHl 9 = 900 := rfl
theorem sl_11 : SHl 11 = 900 := rfl
theorem sl_13 : SHl 13 = 5 := rfl
theorem sl_14 : SHl 14 = 5 := rfl
theorem sl_16 : SHl 16 = 900 := rfl
theorem sl_18 : SHl 18 = 900 := rfl
theorem sl_20 : SHl 20 = 600 := rfl
theorem sl_21 : SHl 21 = 720 := rfl
theorem sl_22 : SHl 22 = 720 := rfl
theorem sl_23 : SHl 23 = 120 := rfl
theorem sl_24 : SHl 24 = 192 := rfl
theorem sl_25 : SHl 25 = 32 := rfl
theorem sl_26 : SHl 26 = 5 := rfl
theorem sl_28 : SHl 28 = 6 := rfl
theorem sl_29 : SHl 29 = 64 := rfl
theorem sl_30 : SHl 30 = 1296 := rfl
theorem sl_31 : SHl 31 = 1296 := rfl
theorem sl_32 : SHl 32 = 3840 := rfl
theorem sl_33 : SHl 33 = 3840 := rfl
theorem sl_34 : SHl 34 = 3840 := rfl
theorem sl_35 : SHl 35 = 3840 := rfl
theorem sl_39 : SHl 39 = 3840 := rfl
theorem sl_40 : SHl 40 = 7680 := rfl
theorem sl_41 : SHl 41 = 3 := rfl
theorem sl_43 : SHl 43 = 3840 := rfl
theorem sl_44 : SHl 44 = 16 := rfl
theorem sl_46 : SHl 46 = 3840 := rfl
theorem sl_47 : SHl 47 = 16 := rfl
theorem sl_49 : SHl 49 = 3840 := rfl
theorem sl_50 : SHl 50 = 16 := rfl
theorem sl_53 : SHl 53 = 10 := rfl
theorem sl_64 : SHl 64 = 4 := rfl
theorem sl_66 : SHl 66 = 40 := rfl
theorem sl_68 : SHl 68 = 40 := rfl
theorem sl_70 : SHl 70 = 40 := rfl
theorem sl_72 : SHl 72 = 40 := rfl
theorem sl_73 : SHl 73 = 2 := rfl
theorem sl_74 : SHl 74 = 2 := rfl
theorem sl_76 : SHl 76 = 5 := rfl
theorem sl_77 : SHl 77 = 5 := rfl
theorem sl_79 : SHl 79 = 900 := rfl
theorem sl_81 : SHl 81 = 900 := rfl
theorem sl_84 : SHl 84 = 5 := rfl
theorem sl_85 : SHl 85 = 5 := rfl
theorem sl_87 : SHl 87 = 900 := rfl
theorem sl_89 : SHl 89 = 900 := rfl
theorem sl_92 : SHl 92 = 2844 := rfl
theorem sl_93 : SHl 93 = 2 := rfl
theorem sl_94 : SHl 94 = 900 := rfl
theorem sl_95 : SHl 95 = 948 := rfl
theorem sl_96 : SHl 96 = 19200 := rfl
theorem sl_97 : SHl 97 = 5 := rfl
theorem sl_98 : SHl 98 = 5 := rfl
theorem sl_99 : SHl 99 = 900 := rfl
theorem sl_100 : SHl 100 = 6 := rfl
theorem sl_101 : SHl 101 = 3 := rfl
theorem sl_102 : SHl 102 = 23040 := rfl
theorem sl_103 : SHl 103 = 3840 := rfl
theorem sl_104 : SHl 104 = 3840 := rfl
theorem sl_105 : SHl 105 = 3840 := rfl
theorem sl_106 : SHl 106 = 3840 := rfl
theorem sl_107 : SHl 107 = 3840 := rfl
theorem sl_108 : SHl 108 = 3840 := rfl
theorem sl_109 : SHl 109 = 3841 := rfl
theorem sl_110 : SHl 110 = 3840 := rfl
theorem sl_111 : SHl 111 = 34560 := rfl
theorem sl_112 : SHl 112 = 10 := rfl
theorem sl_113 : SHl 113 = 4 := rfl
theorem sl_114 : SHl 114 = 4 := rfl
theorem sl_115 : SHl 115 = 160 := rfl

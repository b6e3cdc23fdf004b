/-! ===== SW: the fields; printed by wip/gen/gen7.py ===== -/
theorem wf_0_0 : sx_lo (sxD 0) 0 = some .null := rfl
theorem wf_0_1 : sx_lo (sxD 0) 1 = some .null := rfl
theorem wf_0_2 : sx_lo (sxD 0) 2 = some .null := rfl
theorem wf_0_3 : sx_lo (sxD 0) 3 = some .null := rfl
theorem wf_0_4 : sx_lo (sxD 0) 4 = some (.int 0) := rfl
theorem wf_0_5 : sx_lo (sxD 0) 5 = some .null := rfl
theorem wf_0_6 : sx_lo (sxD 0) 6 = some .null := rfl
theorem wf_0_7 : sx_lo (sxD 0) 7 = some .null := rfl
theorem wf_0_8 : sx_lo (sxD 0) 8 = some .null := rfl
theorem wf_0_9 : sx_lo (sxD 0) 9 = some .null := rfl
theorem wf_0_10 : sx_lo (sxD 0) 10 = some .null := rfl
theorem wf_0_11 : sx_lo (sxD 0) 11 = some .null := rfl
theorem wf_0_12 : sx_lo (sxD 0) 12 = some .null := rfl
theorem wf_1_0 : sx_lo (sxD 1) 0 = some (.int 0) := rfl
theorem wf_1_1 : sx_lo (sxD 1) 1 = some .null := rfl
theorem wf_1_2 : sx_lo (sxD 1) 2 = some .null := rfl
theorem wf_1_3 : sx_lo (sxD 1) 3 = some (.int 0) := rfl
theorem wf_1_4 : sx_lo (sxD 1) 4 = some (.int 0) := rfl
theorem wf_1_5 : sx_lo (sxD 1) 5 = some (.int 0) := rfl
theorem wf_1_6 : sx_lo (sxD 1) 6 = some .null := rfl
theorem wf_1_7 : sx_lo (sxD 1) 7 = some .null := rfl
theorem wf_1_8 : sx_lo (sxD 1) 8 = some .null := rfl
theorem wf_1_9 : sx_lo (sxD 1) 9 = some .null := rfl
theorem wf_1_10 : sx_lo (sxD 1) 10 = some .null := rfl
theorem wf_1_11 : sx_lo (sxD 1) 11 = some .null := rfl
theorem wf_1_12 : sx_lo (sxD 1) 12 = some .null := rfl
theorem wf_1_13 : sx_lo (sxD 1) 13 = some .null := rfl
theorem wf_1_14 : sx_lo (sxD 1) 14 = some .null := rfl
theorem wf_1_15 : sx_lo (sxD 1) 15 = some .null := rfl
theorem wf_1_16 : sx_lo (sxD 1) 16 = some .null := rfl
theorem wf_1_17 : sx_lo (sxD 1) 17 = some .null := rfl
theorem wf_1_18 : sx_lo (sxD 1) 18 = some (.int 0) := rfl
theorem wf_1_19 : sx_lo (sxD 1) 19 = some (.int 0) := rfl
theorem wf_1_20 : sx_lo (sxD 1) 20 = some .null := rfl
theorem wf_1_21 : sx_lo (sxD 1) 21 = some .null := rfl
theorem wf_1_22 : sx_lo (sxD 1) 22 = some (.int 0) := rfl
theorem wf_1_23 : sx_lo (sxD 1) 23 = some (.int 0) := rfl
theorem wf_1_24 : sx_lo (sxD 1) 24 = some .null := rfl
theorem wf_1_25 : sx_lo (sxD 1) 25 = some .null := rfl
theorem wf_1_26 : sx_lo (sxD 1) 26 = some .null := rfl
theorem wf_1_27 : sx_lo (sxD 1) 27 = some .null := rfl
theorem wf_1_28 : sx_lo (sxD 1) 28 = some .null := rfl
theorem wf_1_29 : sx_lo (sxD 1) 29 = some .null := rfl
theorem wf_1_30 : sx_lo (sxD 1) 30 = some .null := rfl
theorem wf_1_31 : sx_lo (sxD 1) 31 = some .null := rfl
theorem wf_1_32 : sx_lo (sxD 1) 32 = some .null := rfl
theorem wf_1_33 : sx_lo (sxD 1) 33 = some .null := rfl
theorem wf_1_34 : sx_lo (sxD 1) 34 = some .null := rfl
theorem wf_1_35 : sx_lo (sxD 1) 35 = some .null := rfl
theorem wf_1_36 : sx_lo (sxD 1) 36 = some .null := rfl
theorem wf_1_37 : sx_lo (sxD 1) 37 = some .null := rfl
theorem wf_1_38 : sx_lo (sxD 1) 38 = some .null := rfl
theorem wf_1_39 : sx_lo (sxD 1) 39 = some .null := rfl
theorem wf_1_40 : sx_lo (sxD 1) 40 = some .null := rfl
theorem wf_1_41 : sx_lo (sxD 1) 41 = some .null := rfl
theorem wf_1_42 : sx_lo (sxD 1) 42 = some .null := rfl
theorem wf_1_43 : sx_lo (sxD 1) 43 = some .null := rfl
theorem wf_1_44 : sx_lo (sxD 1) 44 = some .null := rfl
theorem wf_1_45 : sx_lo (sxD 1) 45 = some .null := rfl
theorem wf_1_46 : sx_lo (sxD 1) 46 = some .null := rfl
theorem wf_1_47 : sx_lo (sxD 1) 47 = some .null := rfl
theorem wf_1_48 : sx_lo (sxD 1) 48 = some .null := rfl
theorem wf_1_49 : sx_lo (sxD 1) 49 = some .null := rfl
theorem wf_1_50 : sx_lo (sxD 1) 50 = some .null := rfl
theorem wf_1_51 : sx_lo (sxD 1) 51 = some .null := rfl
theorem wf_1_52 : sx_lo (sxD 1) 52 = some .null := rfl
theorem wf_1_53 : sx_lo (sxD 1) 53 = some .null := rfl
theorem wf_1_54 : sx_lo (sxD 1) 54 = some .null := rfl
theorem wf_1_55 : sx_lo (sxD 1) 55 = some .null := rfl
theorem wf_1_56 : sx_lo (sxD 1) 56 = some (.int 0) := rfl
theorem wf_1_57 : sx_lo (sxD 1) 57 = some (.int 0) := rfl
theorem wf_1_58 : sx_lo (sxD 1) 58 = some (.int 0) := rfl
theorem wf_1_59 : sx_lo (sxD 1) 59 = some (.int 0) := rfl
theorem wf_1_60 : sx_lo (sxD 1) 60 = some (.int 0) := rfl
theorem wf_1_61 : sx_lo (sxD 1) 61 = some (.int 0) := rfl
theorem wf_1_62 : sx_lo (sxD 1) 62 = some (.int 0) := rfl
theorem wf_1_63 : sx_lo (sxD 1) 63 = some (.int 0) := rfl
theorem wf_1_64 : sx_lo (sxD 1) 64 = some (.int 0) := rfl
theorem wf_1_65 : sx_lo (sxD 1) 65 = some (.int 0) := rfl
theorem wf_1_66 : sx_lo (sxD 1) 66 = some (.int 0) := rfl
theorem wf_1_67 : sx_lo (sxD 1) 67 = some (.int 0) := rfl
theorem wf_1_68 : sx_lo (sxD 1) 68 = some (.int 0) := rfl
theorem wf_1_69 : sx_lo (sxD 1) 69 = some (.int 0) := rfl
theorem wf_1_70 : sx_lo (sxD 1) 70 = some (.int 0) := rfl
theorem wf_1_71 : sx_lo (sxD 1) 71 = some (.int 0) := rfl
theorem wf_1_72 : sx_lo (sxD 1) 72 = some (.int 0) := rfl
theorem wf_1_73 : sx_lo (sxD 1) 73 = some (.int 0) := rfl
theorem wf_1_74 : sx_lo (sxD 1) 74 = some (.int 0) := rfl
theorem wf_1_75 : sx_lo (sxD 1) 75 = some (.int 0) := rfl
theorem wf_1_76 : sx_lo (sxD 1) 76 = some (.int 0) := rfl
theorem wf_1_77 : sx_lo (sxD 1) 77 = some .null := rfl
theorem wf_1_78 : sx_lo (sxD 1) 78 = some .null := rfl
theorem wf_1_79 : sx_lo (sxD 1) 79 = some .null := rfl
theorem wf_1_80 : sx_lo (sxD 1) 80 = some .null := rfl
theorem wf_1_81 : sx_lo (sxD 1) 81 = some .null := rfl
theorem wf_1_82 : sx_lo (sxD 1) 82 = some .null := rfl
theorem wf_1_83 : sx_lo (sxD 1) 83 = some (.int 0) := rfl
theorem wf_1_84 : sx_lo (sxD 1) 84 = some (.int 0) := rfl
theorem wf_1_85 : sx_lo (sxD 1) 85 = some .null := rfl
theorem wf_1_86 : sx_lo (sxD 1) 86 = some .null := rfl
theorem wf_1_87 : sx_lo (sxD 1) 87 = some .null := rfl
theorem wf_1_88 : sx_lo (sxD 1) 88 = some .null := rfl
theorem wf_1_89 : sx_lo (sxD 1) 89 = some .null := rfl
theorem wf_1_90 : sx_lo (sxD 1) 90 = some .null := rfl
theorem wf_1_91 : sx_lo (sxD 1) 91 = some .null := rfl
theorem wf_1_92 : sx_lo (sxD 1) 92 = some (.int 0) := rfl
theorem wf_1_93 : sx_lo (sxD 1) 93 = some (.int 0) := rfl
theorem wf_1_94 : sx_lo (sxD 1) 94 = some .null := rfl
theorem wf_1_95 : sx_lo (sxD 1) 95 = some (.int 0) := rfl
theorem wf_1_96 : sx_lo (sxD 1) 96 = some .null := rfl
theorem wf_1_97 : sx_lo (sxD 1) 97 = some .null := rfl
theorem wf_1_98 : sx_lo (sxD 1) 98 = some .null := rfl
theorem wf_1_99 : sx_lo (sxD 1) 99 = some .null := rfl
theorem wf_1_100 : sx_lo (sxD 1) 100 = some (.int 0) := rfl
theorem wf_1_101 : sx_lo (sxD 1) 101 = some (.int 0) := rfl
theorem wf_1_102 : sx_lo (sxD 1) 102 = some (.int 0) := rfl
theorem wf_1_103 : sx_lo (sxD 1) 103 = some (.int 0) := rfl
theorem wf_1_104 : sx_lo (sxD 1) 104 = some (.int 0) := rfl
theorem wf_1_106 : sx_lo (sxD 1) 106 = some (.int 0) := rfl
theorem wf_1_107 : sx_lo (sxD 1) 107 = some (.int 0) := rfl
theorem wf_1_108 : sx_lo (sxD 1) 108 = some .null := rfl
theorem wf_1_109 : sx_lo (sxD 1) 109 = some (.int 0) := rfl
theorem wf_1_110 : sx_lo (sxD 1) 110 = some (.int 0) := rfl
theorem wf_1_111 : sx_lo (sxD 1) 111 = some (.int 0) := rfl
theorem wf_1_112 : sx_lo (sxD 1) 112 = some (.int 0) := rfl
theorem wf_1_113 : sx_lo (sxD 1) 113 = some (.int 0) := rfl
theorem wf_1_114 : sx_lo (sxD 1) 114 = some (.int 0) := rfl
theorem wf_1_115 : sx_lo (sxD 1) 115 = some (.int 0) := rfl
theorem wf_1_116 : sx_lo (sxD 1) 116 = some (.int 0) := rfl
theorem wf_1_117 : sx_lo (sxD 1) 117 = some (.int 0) := rfl
theorem wf_1_118 : sx_lo (sxD 1) 118 = some (.int 0) := rfl
theorem wf_1_119 : sx_lo (sxD 1) 119 = some (.int 0) := rfl
theorem wf_1_120 : sx_lo (sxD 1) 120 = some (.int 0) := rfl
theorem wf_2_0 : sx_lo (sxD 2) 0 = some .null := rfl
theorem wf_2_1 : sx_lo (sxD 2) 1 = some (.int 0) := rfl
theorem wf_2_2 : sx_lo (sxD 2) 2 = some (.int 0) := rfl
theorem wf_2_3 : sx_lo (sxD 2) 3 = some .null := rfl
theorem wf_2_4 : sx_lo (sxD 2) 4 = some .null := rfl
theorem wf_2_5 : sx_lo (sxD 2) 5 = some .null := rfl
theorem wf_2_6 : sx_lo (sxD 2) 6 = some .null := rfl
theorem wf_2_7 : sx_lo (sxD 2) 7 = some .null := rfl
theorem wf_2_8 : sx_lo (sxD 2) 8 = some .null := rfl
theorem wf_2_9 : sx_lo (sxD 2) 9 = some .null := rfl
theorem wf_2_10 : sx_lo (sxD 2) 10 = some (.int 0) := rfl
theorem wf_2_11 : sx_lo (sxD 2) 11 = some (.int 0) := rfl
theorem wf_2_12 : sx_lo (sxD 2) 12 = some .null := rfl
theorem wf_3_0 : sx_lo (sxD 3) 0 = some .null := rfl
theorem wf_3_1 : sx_lo (sxD 3) 1 = some .null := rfl
theorem wf_3_2 : sx_lo (sxD 3) 2 = some .null := rfl
theorem wf_3_3 : sx_lo (sxD 3) 3 = some .null := rfl
theorem wf_3_4 : sx_lo (sxD 3) 4 = some .null := rfl
theorem wf_3_5 : sx_lo (sxD 3) 5 = some .null := rfl
theorem wf_4_0 : sx_lo (sxD 4) 0 = some .null := rfl
theorem wf_4_1 : sx_lo (sxD 4) 1 = some .null := rfl
theorem wf_4_2 : sx_lo (sxD 4) 2 = some (.int 0) := rfl
theorem wf_4_3 : sx_lo (sxD 4) 3 = some (.int 0) := rfl
theorem wf_4_4 : sx_lo (sxD 4) 4 = some (.int 0) := rfl
theorem wf_4_5 : sx_lo (sxD 4) 5 = some (.int 0) := rfl
theorem wf_4_6 : sx_lo (sxD 4) 6 = some (.int 0) := rfl
theorem wf_4_7 : sx_lo (sxD 4) 7 = some (.int 0) := rfl
theorem wf_5_0 : sx_lo (sxD 5) 0 = some (.int 0) := rfl
theorem wf_5_1 : sx_lo (sxD 5) 1 = some (.int 0) := rfl
theorem wf_5_2 : sx_lo (sxD 5) 2 = some (.int 0) := rfl
theorem wf_5_3 : sx_lo (sxD 5) 3 = some (.int 0) := rfl
theorem wf_5_4 : sx_lo (sxD 5) 4 = some (.int 0) := rfl
theorem wf_5_5 : sx_lo (sxD 5) 5 = some (.int 0) := rfl
theorem wf_6_0 : sx_lo (sxD 6) 0 = some (.int 0) := rfl
theorem wf_6_1 : sx_lo (sxD 6) 1 = some (.int 0) := rfl
theorem wf_6_2 : sx_lo (sxD 6) 2 = some (.int 0) := rfl
theorem wf_6_3 : sx_lo (sxD 6) 3 = some (.int 0) := rfl
theorem wf_6_4 : sx_lo (sxD 6) 4 = some .null := rfl
theorem wf_6_5 : sx_lo (sxD 6) 5 = some .null := rfl
theorem wf_6_6 : sx_lo (sxD 6) 6 = some (.int 0) := rfl
theorem wf_6_7 : sx_lo (sxD 6) 7 = some .null := rfl
theorem wf_6_8 : sx_lo (sxD 6) 8 = some .null := rfl
theorem wf_6_9 : sx_lo (sxD 6) 9 = some (.int 0) := rfl
theorem wf_6_10 : sx_lo (sxD 6) 10 = some .null := rfl
theorem wf_6_11 : sx_lo (sxD 6) 11 = some (.int 0) := rfl
theorem wf_6_12 : sx_lo (sxD 6) 12 = some .null := rfl
theorem wf_6_13 : sx_lo (sxD 6) 13 = some .null := rfl
theorem wf_6_14 : sx_lo (sxD 6) 14 = some .null := rfl
theorem wf_6_15 : sx_lo (sxD 6) 15 = some .null := rfl
theorem wf_6_16 : sx_lo (sxD 6) 16 = some (.int 0) := rfl
theorem wf_7_0 : sx_lo (sxD 7) 0 = some (.int 0) := rfl
theorem wf_7_1 : sx_lo (sxD 7) 1 = some .null := rfl
theorem wf_7_2 : sx_lo (sxD 7) 2 = some .null := rfl
theorem wf_7_3 : sx_lo (sxD 7) 3 = some .null := rfl
theorem wf_7_4 : sx_lo (sxD 7) 4 = some .null := rfl
theorem wf_7_5 : sx_lo (sxD 7) 5 = some .null := rfl
theorem wf_7_6 : sx_lo (sxD 7) 6 = some (.int 0) := rfl
theorem wf_7_7 : sx_lo (sxD 7) 7 = some .null := rfl
theorem wf_7_8 : sx_lo (sxD 7) 8 = some .null := rfl
theorem wf_7_9 : sx_lo (sxD 7) 9 = some .null := rfl
theorem wf_8_0 : sx_lo (sxD 8) 0 = some .null := rfl
theorem wf_8_1 : sx_lo (sxD 8) 1 = some .null := rfl
theorem wf_8_2 : sx_lo (sxD 8) 2 = some (.int 0) := rfl
theorem wf_8_3 : sx_lo (sxD 8) 3 = some (.int 0) := rfl
theorem wf_8_4 : sx_lo (sxD 8) 4 = some (.int 0) := rfl
theorem wf_8_5 : sx_lo (sxD 8) 5 = some (.int 0) := rfl
theorem wf_8_6 : sx_lo (sxD 8) 6 = some (.int 0) := rfl
theorem wf_8_7 : sx_lo (sxD 8) 7 = some (.int 0) := rfl
theorem wf_8_8 : sx_lo (sxD 8) 8 = some (.int 0) := rfl
theorem wf_8_9 : sx_lo (sxD 8) 9 = some (.int 0) := rfl
theorem wf_8_10 : sx_lo (sxD 8) 10 = some (.int 0) := rfl
theorem wf_8_11 : sx_lo (sxD 8) 11 = some (.int 0) := rfl
theorem wf_8_12 : sx_lo (sxD 8) 12 = some .null := rfl
theorem wf_8_13 : sx_lo (sxD 8) 13 = some .null := rfl
theorem wf_8_14 : sx_lo (sxD 8) 14 = some .null := rfl
theorem wf_8_15 : sx_lo (sxD 8) 15 = some .null := rfl
theorem wf_8_16 : sx_lo (sxD 8) 16 = some .null := rfl
theorem wf_9_0 : sx_lo (sxD 9) 0 = some .null := rfl
theorem wf_9_1 : sx_lo (sxD 9) 1 = some (.int 0) := rfl
theorem wf_10_0 : sx_lo (sxD 10) 0 = some .null := rfl
theorem wf_10_1 : sx_lo (sxD 10) 1 = some .null := rfl
theorem wf_10_2 : sx_lo (sxD 10) 2 = some .null := rfl
theorem wf_10_3 : sx_lo (sxD 10) 3 = some .null := rfl
theorem wf_10_4 : sx_lo (sxD 10) 4 = some .null := rfl
theorem wf_10_5 : sx_lo (sxD 10) 5 = some .null := rfl
theorem wf_10_6 : sx_lo (sxD 10) 6 = some .null := rfl
theorem wf_10_7 : sx_lo (sxD 10) 7 = some (.int 0) := rfl
theorem wf_11_0 : sx_lo (sxD 11) 0 = some .null := rfl
theorem wf_11_1 : sx_lo (sxD 11) 1 = some .null := rfl
theorem wf_11_2 : sx_lo (sxD 11) 2 = some (.int 0) := rfl
theorem wf_11_3 : sx_lo (sxD 11) 3 = some .null := rfl
theorem wf_11_4 : sx_lo (sxD 11) 4 = some (.int 0) := rfl
theorem wf_11_5 : sx_lo (sxD 11) 5 = some .null := rfl
theorem wf_11_6 : sx_lo (sxD 11) 6 = some .null := rfl
theorem wf_11_7 : sx_lo (sxD 11) 7 = some (.int 0) := rfl
theorem wf_11_8 : sx_lo (sxD 11) 8 = some .null := rfl
theorem wf_11_9 : sx_lo (sxD 11) 9 = some (.int 0) := rfl
theorem wf_12_0 : sx_lo (sxD 12) 0 = some (.int 0) := rfl
theorem wf_12_1 : sx_lo (sxD 12) 1 = some .null := rfl
theorem wf_12_2 : sx_lo (sxD 12) 2 = some .null := rfl
theorem wf_12_3 : sx_lo (sxD 12) 3 = some .null := rfl
theorem wf_12_4 : sx_lo (sxD 12) 4 = some .null := rfl

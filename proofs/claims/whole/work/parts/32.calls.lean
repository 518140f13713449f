/-! CALLS -/
theorem hg_0 : m_hg 0 = 1 := by decide +kernel
theorem ml_0 : m_mls.getD 0 0 = 1 := by decide +kernel
theorem ow_0 : m_own 0 = 0 := by decide +kernel
theorem hg_1 : m_hg 1 = 5 := by decide +kernel
theorem ml_1 : m_mls.getD 1 0 = 7 := by decide +kernel
theorem ow_1 : m_own 1 = 0 := by decide +kernel
theorem hg_2 : m_hg 2 = 1 := by decide +kernel
theorem ml_2 : m_mls.getD 2 0 = 4 := by decide +kernel
theorem ow_2 : m_own 2 = 0 := by decide +kernel
theorem hg_3 : m_hg 3 = 6 := by decide +kernel
theorem ml_3 : m_mls.getD 3 0 = 10 := by decide +kernel
theorem ow_3 : m_own 3 = 0 := by decide +kernel
theorem hg_4 : m_hg 4 = 3 := by decide +kernel
theorem ml_4 : m_mls.getD 4 0 = 7 := by decide +kernel
theorem ow_4 : m_own 4 = 0 := by decide +kernel
theorem hg_5 : m_hg 5 = 1 := by decide +kernel
theorem ml_5 : m_mls.getD 5 0 = 4 := by decide +kernel
theorem ow_5 : m_own 5 = 0 := by decide +kernel
theorem hg_6 : m_hg 6 = 3 := by decide +kernel
theorem ml_6 : m_mls.getD 6 0 = 6 := by decide +kernel
theorem ow_6 : m_own 6 = 0 := by decide +kernel
theorem hg_7 : m_hg 7 = 2 := by decide +kernel
theorem ml_7 : m_mls.getD 7 0 = 5 := by decide +kernel
theorem ow_7 : m_own 7 = 0 := by decide +kernel
theorem hg_8 : m_hg 8 = 2 := by decide +kernel
theorem ml_8 : m_mls.getD 8 0 = 6 := by decide +kernel
theorem ow_8 : m_own 8 = 0 := by decide +kernel
theorem hg_9 : m_hg 9 = 1 := by decide +kernel
theorem ml_9 : m_mls.getD 9 0 = 8 := by decide +kernel
theorem ow_9 : m_own 9 = 0 := by decide +kernel
theorem hg_10 : m_hg 10 = 1 := by decide +kernel
theorem ml_10 : m_mls.getD 10 0 = 2 := by decide +kernel
theorem ow_10 : m_own 10 = 1 := by decide +kernel
theorem hg_11 : m_hg 11 = 6 := by decide +kernel
theorem ml_11 : m_mls.getD 11 0 = 2 := by decide +kernel
theorem ow_11 : m_own 11 = 1 := by decide +kernel
theorem hg_12 : m_hg 12 = 4 := by decide +kernel
theorem ml_12 : m_mls.getD 12 0 = 9 := by decide +kernel
theorem ow_12 : m_own 12 = 1 := by decide +kernel
theorem hg_13 : m_hg 13 = 0 := by decide +kernel
theorem ml_13 : m_mls.getD 13 0 = 5 := by decide +kernel
theorem ow_13 : m_own 13 = 1 := by decide +kernel
theorem hg_14 : m_hg 14 = 3 := by decide +kernel
theorem ml_14 : m_mls.getD 14 0 = 6 := by decide +kernel
theorem ow_14 : m_own 14 = 1 := by decide +kernel
theorem hg_15 : m_hg 15 = 2 := by decide +kernel
theorem ml_15 : m_mls.getD 15 0 = 6 := by decide +kernel
theorem ow_15 : m_own 15 = 1 := by decide +kernel
theorem hg_16 : m_hg 16 = 1 := by decide +kernel
theorem ml_16 : m_mls.getD 16 0 = 5 := by decide +kernel
theorem ow_16 : m_own 16 = 1 := by decide +kernel
theorem hg_17 : m_hg 17 = 1 := by decide +kernel
theorem ml_17 : m_mls.getD 17 0 = 10 := by decide +kernel
theorem ow_17 : m_own 17 = 1 := by decide +kernel
theorem hg_18 : m_hg 18 = 1 := by decide +kernel
theorem ml_18 : m_mls.getD 18 0 = 2 := by decide +kernel
theorem ow_18 : m_own 18 = 1 := by decide +kernel
theorem hg_19 : m_hg 19 = 2 := by decide +kernel
theorem ml_19 : m_mls.getD 19 0 = 3 := by decide +kernel
theorem ow_19 : m_own 19 = 1 := by decide +kernel
theorem hg_20 : m_hg 20 = 0 := by decide +kernel
theorem ml_20 : m_mls.getD 20 0 = 1 := by decide +kernel
theorem ow_20 : m_own 20 = 2 := by decide +kernel
theorem hg_21 : m_hg 21 = 0 := by decide +kernel
theorem ml_21 : m_mls.getD 21 0 = 2 := by decide +kernel
theorem ow_21 : m_own 21 = 2 := by decide +kernel
theorem hg_22 : m_hg 22 = 0 := by decide +kernel
theorem ml_22 : m_mls.getD 22 0 = 3 := by decide +kernel
theorem ow_22 : m_own 22 = 2 := by decide +kernel
theorem hg_23 : m_hg 23 = 1 := by decide +kernel
theorem ml_23 : m_mls.getD 23 0 = 6 := by decide +kernel
theorem ow_23 : m_own 23 = 2 := by decide +kernel
theorem hg_24 : m_hg 24 = 1 := by decide +kernel
theorem ml_24 : m_mls.getD 24 0 = 6 := by decide +kernel
theorem ow_24 : m_own 24 = 2 := by decide +kernel
theorem hg_25 : m_hg 25 = 0 := by decide +kernel
theorem ml_25 : m_mls.getD 25 0 = 2 := by decide +kernel
theorem ow_25 : m_own 25 = 2 := by decide +kernel
theorem hg_26 : m_hg 26 = 0 := by decide +kernel
theorem ml_26 : m_mls.getD 26 0 = 4 := by decide +kernel
theorem ow_26 : m_own 26 = 2 := by decide +kernel
theorem hg_27 : m_hg 27 = 0 := by decide +kernel
theorem ml_27 : m_mls.getD 27 0 = 4 := by decide +kernel
theorem ow_27 : m_own 27 = 2 := by decide +kernel
theorem hg_28 : m_hg 28 = 0 := by decide +kernel
theorem ml_28 : m_mls.getD 28 0 = 2 := by decide +kernel
theorem ow_28 : m_own 28 = 2 := by decide +kernel
theorem hg_29 : m_hg 29 = 1 := by decide +kernel
theorem ml_29 : m_mls.getD 29 0 = 5 := by decide +kernel
theorem ow_29 : m_own 29 = 2 := by decide +kernel
theorem hg_30 : m_hg 30 = 0 := by decide +kernel
theorem ml_30 : m_mls.getD 30 0 = 2 := by decide +kernel
theorem ow_30 : m_own 30 = 2 := by decide +kernel
theorem hg_31 : m_hg 31 = 1 := by decide +kernel
theorem ml_31 : m_mls.getD 31 0 = 6 := by decide +kernel
theorem ow_31 : m_own 31 = 2 := by decide +kernel
theorem hg_32 : m_hg 32 = 1 := by decide +kernel
theorem ml_32 : m_mls.getD 32 0 = 6 := by decide +kernel
theorem ow_32 : m_own 32 = 2 := by decide +kernel
theorem hg_33 : m_hg 33 = 2 := by decide +kernel
theorem ml_33 : m_mls.getD 33 0 = 1 := by decide +kernel
theorem ow_33 : m_own 33 = 3 := by decide +kernel
theorem hg_34 : m_hg 34 = 0 := by decide +kernel
theorem ml_34 : m_mls.getD 34 0 = 1 := by decide +kernel
theorem ow_34 : m_own 34 = 3 := by decide +kernel
theorem hg_35 : m_hg 35 = 0 := by decide +kernel
theorem ml_35 : m_mls.getD 35 0 = 2 := by decide +kernel
theorem ow_35 : m_own 35 = 3 := by decide +kernel
theorem hg_36 : m_hg 36 = 0 := by decide +kernel
theorem ml_36 : m_mls.getD 36 0 = 5 := by decide +kernel
theorem ow_36 : m_own 36 = 3 := by decide +kernel
theorem hg_37 : m_hg 37 = 1 := by decide +kernel
theorem ml_37 : m_mls.getD 37 0 = 5 := by decide +kernel
theorem ow_37 : m_own 37 = 3 := by decide +kernel
theorem hg_38 : m_hg 38 = 1 := by decide +kernel
theorem ml_38 : m_mls.getD 38 0 = 3 := by decide +kernel
theorem ow_38 : m_own 38 = 3 := by decide +kernel
theorem hg_39 : m_hg 39 = 1 := by decide +kernel
theorem ml_39 : m_mls.getD 39 0 = 4 := by decide +kernel
theorem ow_39 : m_own 39 = 3 := by decide +kernel
theorem hg_40 : m_hg 40 = 7 := by decide +kernel
theorem ml_40 : m_mls.getD 40 0 = 5 := by decide +kernel
theorem ow_40 : m_own 40 = 3 := by decide +kernel
theorem hg_41 : m_hg 41 = 1 := by decide +kernel
theorem ml_41 : m_mls.getD 41 0 = 4 := by decide +kernel
theorem ow_41 : m_own 41 = 3 := by decide +kernel
theorem hg_42 : m_hg 42 = 1 := by decide +kernel
theorem ml_42 : m_mls.getD 42 0 = 7 := by decide +kernel
theorem ow_42 : m_own 42 = 3 := by decide +kernel
theorem hg_43 : m_hg 43 = 0 := by decide +kernel
theorem ml_43 : m_mls.getD 43 0 = 4 := by decide +kernel
theorem ow_43 : m_own 43 = 3 := by decide +kernel
theorem hg_44 : m_hg 44 = 3 := by decide +kernel
theorem ml_44 : m_mls.getD 44 0 = 4 := by decide +kernel
theorem ow_44 : m_own 44 = 3 := by decide +kernel
theorem hg_45 : m_hg 45 = 2 := by decide +kernel
theorem ml_45 : m_mls.getD 45 0 = 7 := by decide +kernel
theorem ow_45 : m_own 45 = 3 := by decide +kernel
theorem hg_46 : m_hg 46 = 1 := by decide +kernel
theorem ml_46 : m_mls.getD 46 0 = 13 := by decide +kernel
theorem ow_46 : m_own 46 = 3 := by decide +kernel
theorem hg_47 : m_hg 47 = 4 := by decide +kernel
theorem ml_47 : m_mls.getD 47 0 = 7 := by decide +kernel
theorem ow_47 : m_own 47 = 3 := by decide +kernel
theorem hg_48 : m_hg 48 = 1 := by decide +kernel
theorem ml_48 : m_mls.getD 48 0 = 6 := by decide +kernel
theorem ow_48 : m_own 48 = 3 := by decide +kernel
theorem hg_49 : m_hg 49 = 1 := by decide +kernel
theorem ml_49 : m_mls.getD 49 0 = 4 := by decide +kernel
theorem ow_49 : m_own 49 = 3 := by decide +kernel
theorem hg_50 : m_hg 50 = 1 := by decide +kernel
theorem ml_50 : m_mls.getD 50 0 = 10 := by decide +kernel
theorem ow_50 : m_own 50 = 3 := by decide +kernel
theorem hg_51 : m_hg 51 = 3 := by decide +kernel
theorem ml_51 : m_mls.getD 51 0 = 12 := by decide +kernel
theorem ow_51 : m_own 51 = 3 := by decide +kernel
theorem hg_52 : m_hg 52 = 1 := by decide +kernel
theorem ml_52 : m_mls.getD 52 0 = 8 := by decide +kernel
theorem ow_52 : m_own 52 = 3 := by decide +kernel
theorem hg_53 : m_hg 53 = 0 := by decide +kernel
theorem ml_53 : m_mls.getD 53 0 = 2 := by decide +kernel
theorem ow_53 : m_own 53 = 3 := by decide +kernel
theorem hg_54 : m_hg 54 = 2 := by decide +kernel
theorem ml_54 : m_mls.getD 54 0 = 14 := by decide +kernel
theorem ow_54 : m_own 54 = 3 := by decide +kernel
theorem hg_55 : m_hg 55 = 2 := by decide +kernel
theorem ml_55 : m_mls.getD 55 0 = 8 := by decide +kernel
theorem ow_55 : m_own 55 = 3 := by decide +kernel
theorem hg_56 : m_hg 56 = 6 := by decide +kernel
theorem ml_56 : m_mls.getD 56 0 = 6 := by decide +kernel
theorem ow_56 : m_own 56 = 3 := by decide +kernel
theorem hg_57 : m_hg 57 = 0 := by decide +kernel
theorem ml_57 : m_mls.getD 57 0 = 2 := by decide +kernel
theorem ow_57 : m_own 57 = 4 := by decide +kernel
theorem hg_58 : m_hg 58 = 4 := by decide +kernel
theorem ml_58 : m_mls.getD 58 0 = 5 := by decide +kernel
theorem ow_58 : m_own 58 = 4 := by decide +kernel
theorem hg_59 : m_hg 59 = 0 := by decide +kernel
theorem ml_59 : m_mls.getD 59 0 = 2 := by decide +kernel
theorem ow_59 : m_own 59 = 4 := by decide +kernel
theorem hg_60 : m_hg 60 = 1 := by decide +kernel
theorem ml_60 : m_mls.getD 60 0 = 2 := by decide +kernel
theorem ow_60 : m_own 60 = 4 := by decide +kernel
theorem hg_61 : m_hg 61 = 0 := by decide +kernel
theorem ml_61 : m_mls.getD 61 0 = 1 := by decide +kernel
theorem ow_61 : m_own 61 = 4 := by decide +kernel
theorem hg_62 : m_hg 62 = 3 := by decide +kernel
theorem ml_62 : m_mls.getD 62 0 = 4 := by decide +kernel
theorem ow_62 : m_own 62 = 4 := by decide +kernel
theorem hg_63 : m_hg 63 = 2 := by decide +kernel
theorem ml_63 : m_mls.getD 63 0 = 2 := by decide +kernel
theorem ow_63 : m_own 63 = 4 := by decide +kernel
theorem hg_64 : m_hg 64 = 2 := by decide +kernel
theorem ml_64 : m_mls.getD 64 0 = 5 := by decide +kernel
theorem ow_64 : m_own 64 = 4 := by decide +kernel
theorem hg_65 : m_hg 65 = 1 := by decide +kernel
theorem ml_65 : m_mls.getD 65 0 = 3 := by decide +kernel
theorem ow_65 : m_own 65 = 4 := by decide +kernel
theorem hg_66 : m_hg 66 = 2 := by decide +kernel
theorem ml_66 : m_mls.getD 66 0 = 6 := by decide +kernel
theorem ow_66 : m_own 66 = 4 := by decide +kernel
theorem hg_67 : m_hg 67 = 1 := by decide +kernel
theorem ml_67 : m_mls.getD 67 0 = 4 := by decide +kernel
theorem ow_67 : m_own 67 = 4 := by decide +kernel
theorem hg_68 : m_hg 68 = 3 := by decide +kernel
theorem ml_68 : m_mls.getD 68 0 = 7 := by decide +kernel
theorem ow_68 : m_own 68 = 4 := by decide +kernel
theorem hg_69 : m_hg 69 = 2 := by decide +kernel
theorem ml_69 : m_mls.getD 69 0 = 4 := by decide +kernel
theorem ow_69 : m_own 69 = 4 := by decide +kernel
theorem hg_70 : m_hg 70 = 0 := by decide +kernel
theorem ml_70 : m_mls.getD 70 0 = 3 := by decide +kernel
theorem ow_70 : m_own 70 = 4 := by decide +kernel
theorem hg_71 : m_hg 71 = 1 := by decide +kernel
theorem ml_71 : m_mls.getD 71 0 = 3 := by decide +kernel
theorem ow_71 : m_own 71 = 4 := by decide +kernel
theorem hg_72 : m_hg 72 = 1 := by decide +kernel
theorem ml_72 : m_mls.getD 72 0 = 4 := by decide +kernel
theorem ow_72 : m_own 72 = 4 := by decide +kernel
theorem hg_73 : m_hg 73 = 0 := by decide +kernel
theorem ml_73 : m_mls.getD 73 0 = 3 := by decide +kernel
theorem ow_73 : m_own 73 = 4 := by decide +kernel
theorem hg_74 : m_hg 74 = 0 := by decide +kernel
theorem ml_74 : m_mls.getD 74 0 = 1 := by decide +kernel
theorem ow_74 : m_own 74 = 5 := by decide +kernel
theorem hg_75 : m_hg 75 = 3 := by decide +kernel
theorem ml_75 : m_mls.getD 75 0 = 7 := by decide +kernel
theorem ow_75 : m_own 75 = 5 := by decide +kernel
theorem hg_76 : m_hg 76 = 0 := by decide +kernel
theorem ml_76 : m_mls.getD 76 0 = 3 := by decide +kernel
theorem ow_76 : m_own 76 = 5 := by decide +kernel
theorem hg_77 : m_hg 77 = 1 := by decide +kernel
theorem ml_77 : m_mls.getD 77 0 = 8 := by decide +kernel
theorem ow_77 : m_own 77 = 5 := by decide +kernel
theorem hg_78 : m_hg 78 = 2 := by decide +kernel
theorem ml_78 : m_mls.getD 78 0 = 8 := by decide +kernel
theorem ow_78 : m_own 78 = 5 := by decide +kernel
theorem hg_79 : m_hg 79 = 1 := by decide +kernel
theorem ml_79 : m_mls.getD 79 0 = 7 := by decide +kernel
theorem ow_79 : m_own 79 = 5 := by decide +kernel
theorem hg_80 : m_hg 80 = 0 := by decide +kernel
theorem ml_80 : m_mls.getD 80 0 = 1 := by decide +kernel
theorem ow_80 : m_own 80 = 6 := by decide +kernel
theorem hg_81 : m_hg 81 = 7 := by decide +kernel
theorem ml_81 : m_mls.getD 81 0 = 10 := by decide +kernel
theorem ow_81 : m_own 81 = 6 := by decide +kernel
theorem hg_82 : m_hg 82 = 0 := by decide +kernel
theorem ml_82 : m_mls.getD 82 0 = 3 := by decide +kernel
theorem ow_82 : m_own 82 = 6 := by decide +kernel
theorem hg_83 : m_hg 83 = 0 := by decide +kernel
theorem ml_83 : m_mls.getD 83 0 = 1 := by decide +kernel
theorem ow_83 : m_own 83 = 6 := by decide +kernel
theorem hg_84 : m_hg 84 = 4 := by decide +kernel
theorem ml_84 : m_mls.getD 84 0 = 9 := by decide +kernel
theorem ow_84 : m_own 84 = 6 := by decide +kernel
theorem hg_85 : m_hg 85 = 1 := by decide +kernel
theorem ml_85 : m_mls.getD 85 0 = 3 := by decide +kernel
theorem ow_85 : m_own 85 = 6 := by decide +kernel
theorem hg_86 : m_hg 86 = 2 := by decide +kernel
theorem ml_86 : m_mls.getD 86 0 = 4 := by decide +kernel
theorem ow_86 : m_own 86 = 6 := by decide +kernel
theorem hg_87 : m_hg 87 = 6 := by decide +kernel
theorem ml_87 : m_mls.getD 87 0 = 8 := by decide +kernel
theorem ow_87 : m_own 87 = 6 := by decide +kernel
theorem hg_88 : m_hg 88 = 0 := by decide +kernel
theorem ml_88 : m_mls.getD 88 0 = 5 := by decide +kernel
theorem ow_88 : m_own 88 = 6 := by decide +kernel
theorem hg_89 : m_hg 89 = 1 := by decide +kernel
theorem ml_89 : m_mls.getD 89 0 = 8 := by decide +kernel
theorem ow_89 : m_own 89 = 6 := by decide +kernel
theorem hg_90 : m_hg 90 = 0 := by decide +kernel
theorem ml_90 : m_mls.getD 90 0 = 2 := by decide +kernel
theorem ow_90 : m_own 90 = 6 := by decide +kernel
theorem hg_91 : m_hg 91 = 1 := by decide +kernel
theorem ml_91 : m_mls.getD 91 0 = 2 := by decide +kernel
theorem ow_91 : m_own 91 = 6 := by decide +kernel
theorem hg_92 : m_hg 92 = 1 := by decide +kernel
theorem ml_92 : m_mls.getD 92 0 = 4 := by decide +kernel
theorem ow_92 : m_own 92 = 6 := by decide +kernel
theorem hg_93 : m_hg 93 = 5 := by decide +kernel
theorem ml_93 : m_mls.getD 93 0 = 4 := by decide +kernel
theorem ow_93 : m_own 93 = 6 := by decide +kernel
theorem hg_94 : m_hg 94 = 3 := by decide +kernel
theorem ml_94 : m_mls.getD 94 0 = 9 := by decide +kernel
theorem ow_94 : m_own 94 = 6 := by decide +kernel
theorem hg_95 : m_hg 95 = 0 := by decide +kernel
theorem ml_95 : m_mls.getD 95 0 = 1 := by decide +kernel
theorem ow_95 : m_own 95 = 6 := by decide +kernel
theorem hg_96 : m_hg 96 = 2 := by decide +kernel
theorem ml_96 : m_mls.getD 96 0 = 5 := by decide +kernel
theorem ow_96 : m_own 96 = 6 := by decide +kernel
theorem hg_97 : m_hg 97 = 0 := by decide +kernel
theorem ml_97 : m_mls.getD 97 0 = 5 := by decide +kernel
theorem ow_97 : m_own 97 = 6 := by decide +kernel
theorem hg_98 : m_hg 98 = 1 := by decide +kernel
theorem ml_98 : m_mls.getD 98 0 = 9 := by decide +kernel
theorem ow_98 : m_own 98 = 6 := by decide +kernel
theorem hg_99 : m_hg 99 = 0 := by decide +kernel
theorem ml_99 : m_mls.getD 99 0 = 1 := by decide +kernel
theorem ow_99 : m_own 99 = 7 := by decide +kernel
theorem hg_100 : m_hg 100 = 0 := by decide +kernel
theorem ml_100 : m_mls.getD 100 0 = 1 := by decide +kernel
theorem ow_100 : m_own 100 = 7 := by decide +kernel
theorem hg_101 : m_hg 101 = 1 := by decide +kernel
theorem ml_101 : m_mls.getD 101 0 = 3 := by decide +kernel
theorem ow_101 : m_own 101 = 7 := by decide +kernel
theorem hg_102 : m_hg 102 = 2 := by decide +kernel
theorem ml_102 : m_mls.getD 102 0 = 7 := by decide +kernel
theorem ow_102 : m_own 102 = 7 := by decide +kernel
theorem hg_103 : m_hg 103 = 0 := by decide +kernel
theorem ml_103 : m_mls.getD 103 0 = 1 := by decide +kernel
theorem ow_103 : m_own 103 = 8 := by decide +kernel
theorem hg_104 : m_hg 104 = 0 := by decide +kernel
theorem ml_104 : m_mls.getD 104 0 = 2 := by decide +kernel
theorem ow_104 : m_own 104 = 8 := by decide +kernel
theorem hg_105 : m_hg 105 = 0 := by decide +kernel
theorem ml_105 : m_mls.getD 105 0 = 2 := by decide +kernel
theorem ow_105 : m_own 105 = 8 := by decide +kernel
theorem hg_106 : m_hg 106 = 0 := by decide +kernel
theorem ml_106 : m_mls.getD 106 0 = 2 := by decide +kernel
theorem ow_106 : m_own 106 = 8 := by decide +kernel
theorem hg_107 : m_hg 107 = 0 := by decide +kernel
theorem ml_107 : m_mls.getD 107 0 = 4 := by decide +kernel
theorem ow_107 : m_own 107 = 8 := by decide +kernel
theorem hg_108 : m_hg 108 = 0 := by decide +kernel
theorem ml_108 : m_mls.getD 108 0 = 2 := by decide +kernel
theorem ow_108 : m_own 108 = 8 := by decide +kernel
theorem hg_109 : m_hg 109 = 3 := by decide +kernel
theorem ml_109 : m_mls.getD 109 0 = 8 := by decide +kernel
theorem ow_109 : m_own 109 = 8 := by decide +kernel
theorem hg_110 : m_hg 110 = 2 := by decide +kernel
theorem ml_110 : m_mls.getD 110 0 = 6 := by decide +kernel
theorem ow_110 : m_own 110 = 8 := by decide +kernel
theorem hg_111 : m_hg 111 = 1 := by decide +kernel
theorem ml_111 : m_mls.getD 111 0 = 6 := by decide +kernel
theorem ow_111 : m_own 111 = 8 := by decide +kernel
theorem hg_112 : m_hg 112 = 5 := by decide +kernel
theorem ml_112 : m_mls.getD 112 0 = 5 := by decide +kernel
theorem ow_112 : m_own 112 = 8 := by decide +kernel
theorem hg_113 : m_hg 113 = 4 := by decide +kernel
theorem ml_113 : m_mls.getD 113 0 = 12 := by decide +kernel
theorem ow_113 : m_own 113 = 8 := by decide +kernel
theorem hg_114 : m_hg 114 = 0 := by decide +kernel
theorem ml_114 : m_mls.getD 114 0 = 5 := by decide +kernel
theorem ow_114 : m_own 114 = 8 := by decide +kernel
theorem hg_115 : m_hg 115 = 1 := by decide +kernel
theorem ml_115 : m_mls.getD 115 0 = 7 := by decide +kernel
theorem ow_115 : m_own 115 = 8 := by decide +kernel
theorem hg_116 : m_hg 116 = 1 := by decide +kernel
theorem ml_116 : m_mls.getD 116 0 = 5 := by decide +kernel
theorem ow_116 : m_own 116 = 8 := by decide +kernel
theorem hg_117 : m_hg 117 = 0 := by decide +kernel
theorem ml_117 : m_mls.getD 117 0 = 4 := by decide +kernel
theorem ow_117 : m_own 117 = 8 := by decide +kernel
theorem hg_118 : m_hg 118 = 1 := by decide +kernel
theorem ml_118 : m_mls.getD 118 0 = 3 := by decide +kernel
theorem ow_118 : m_own 118 = 8 := by decide +kernel
theorem hg_119 : m_hg 119 = 0 := by decide +kernel
theorem ml_119 : m_mls.getD 119 0 = 1 := by decide +kernel
theorem ow_119 : m_own 119 = 9 := by decide +kernel
theorem hg_120 : m_hg 120 = 0 := by decide +kernel
theorem ml_120 : m_mls.getD 120 0 = 1 := by decide +kernel
theorem ow_120 : m_own 120 = 9 := by decide +kernel
theorem hg_121 : m_hg 121 = 0 := by decide +kernel
theorem ml_121 : m_mls.getD 121 0 = 4 := by decide +kernel
theorem ow_121 : m_own 121 = 9 := by decide +kernel
theorem hg_122 : m_hg 122 = 0 := by decide +kernel
theorem ml_122 : m_mls.getD 122 0 = 3 := by decide +kernel
theorem ow_122 : m_own 122 = 9 := by decide +kernel
theorem hg_123 : m_hg 123 = 0 := by decide +kernel
theorem ml_123 : m_mls.getD 123 0 = 4 := by decide +kernel
theorem ow_123 : m_own 123 = 9 := by decide +kernel
theorem hg_124 : m_hg 124 = 0 := by decide +kernel
theorem ml_124 : m_mls.getD 124 0 = 3 := by decide +kernel
theorem ow_124 : m_own 124 = 9 := by decide +kernel
theorem hg_125 : m_hg 125 = 0 := by decide +kernel
theorem ml_125 : m_mls.getD 125 0 = 3 := by decide +kernel
theorem ow_125 : m_own 125 = 9 := by decide +kernel
theorem hg_126 : m_hg 126 = 0 := by decide +kernel
theorem ml_126 : m_mls.getD 126 0 = 2 := by decide +kernel
theorem ow_126 : m_own 126 = 9 := by decide +kernel
theorem hg_127 : m_hg 127 = 0 := by decide +kernel
theorem ml_127 : m_mls.getD 127 0 = 2 := by decide +kernel
theorem ow_127 : m_own 127 = 9 := by decide +kernel
theorem hg_128 : m_hg 128 = 0 := by decide +kernel
theorem ml_128 : m_mls.getD 128 0 = 3 := by decide +kernel
theorem ow_128 : m_own 128 = 9 := by decide +kernel
theorem hg_129 : m_hg 129 = 0 := by decide +kernel
theorem ml_129 : m_mls.getD 129 0 = 1 := by decide +kernel
theorem ow_129 : m_own 129 = 10 := by decide +kernel
theorem hg_130 : m_hg 130 = 5 := by decide +kernel
theorem ml_130 : m_mls.getD 130 0 = 7 := by decide +kernel
theorem ow_130 : m_own 130 = 10 := by decide +kernel
theorem hg_131 : m_hg 131 = 2 := by decide +kernel
theorem ml_131 : m_mls.getD 131 0 = 7 := by decide +kernel
theorem ow_131 : m_own 131 = 10 := by decide +kernel
theorem hg_132 : m_hg 132 = 4 := by decide +kernel
theorem ml_132 : m_mls.getD 132 0 = 7 := by decide +kernel
theorem ow_132 : m_own 132 = 10 := by decide +kernel
theorem hg_133 : m_hg 133 = 3 := by decide +kernel
theorem ml_133 : m_mls.getD 133 0 = 7 := by decide +kernel
theorem ow_133 : m_own 133 = 10 := by decide +kernel
theorem hg_134 : m_hg 134 = 0 := by decide +kernel
theorem ml_134 : m_mls.getD 134 0 = 3 := by decide +kernel
theorem ow_134 : m_own 134 = 10 := by decide +kernel
theorem hg_135 : m_hg 135 = 0 := by decide +kernel
theorem ml_135 : m_mls.getD 135 0 = 3 := by decide +kernel
theorem ow_135 : m_own 135 = 10 := by decide +kernel
theorem hg_136 : m_hg 136 = 1 := by decide +kernel
theorem ml_136 : m_mls.getD 136 0 = 6 := by decide +kernel
theorem ow_136 : m_own 136 = 10 := by decide +kernel
theorem hg_137 : m_hg 137 = 0 := by decide +kernel
theorem ml_137 : m_mls.getD 137 0 = 2 := by decide +kernel
theorem ow_137 : m_own 137 = 10 := by decide +kernel
theorem hg_138 : m_hg 138 = 0 := by decide +kernel
theorem ml_138 : m_mls.getD 138 0 = 4 := by decide +kernel
theorem ow_138 : m_own 138 = 10 := by decide +kernel
theorem hg_139 : m_hg 139 = 1 := by decide +kernel
theorem ml_139 : m_mls.getD 139 0 = 3 := by decide +kernel
theorem ow_139 : m_own 139 = 10 := by decide +kernel
theorem hg_140 : m_hg 140 = 3 := by decide +kernel
theorem ml_140 : m_mls.getD 140 0 = 1 := by decide +kernel
theorem ow_140 : m_own 140 = 11 := by decide +kernel
theorem hg_141 : m_hg 141 = 5 := by decide +kernel
theorem ml_141 : m_mls.getD 141 0 = 6 := by decide +kernel
theorem ow_141 : m_own 141 = 11 := by decide +kernel
theorem hg_142 : m_hg 142 = 5 := by decide +kernel
theorem ml_142 : m_mls.getD 142 0 = 5 := by decide +kernel
theorem ow_142 : m_own 142 = 11 := by decide +kernel
theorem hg_143 : m_hg 143 = 6 := by decide +kernel
theorem ml_143 : m_mls.getD 143 0 = 7 := by decide +kernel
theorem ow_143 : m_own 143 = 11 := by decide +kernel
theorem hg_144 : m_hg 144 = 5 := by decide +kernel
theorem ml_144 : m_mls.getD 144 0 = 5 := by decide +kernel
theorem ow_144 : m_own 144 = 11 := by decide +kernel
theorem hg_145 : m_hg 145 = 3 := by decide +kernel
theorem ml_145 : m_mls.getD 145 0 = 2 := by decide +kernel
theorem ow_145 : m_own 145 = 11 := by decide +kernel
theorem hg_146 : m_hg 146 = 7 := by decide +kernel
theorem ml_146 : m_mls.getD 146 0 = 3 := by decide +kernel
theorem ow_146 : m_own 146 = 11 := by decide +kernel
theorem hg_147 : m_hg 147 = 4 := by decide +kernel
theorem ml_147 : m_mls.getD 147 0 = 4 := by decide +kernel
theorem ow_147 : m_own 147 = 11 := by decide +kernel
theorem hg_148 : m_hg 148 = 3 := by decide +kernel
theorem ml_148 : m_mls.getD 148 0 = 3 := by decide +kernel
theorem ow_148 : m_own 148 = 11 := by decide +kernel
theorem hg_149 : m_hg 149 = 0 := by decide +kernel
theorem ml_149 : m_mls.getD 149 0 = 1 := by decide +kernel
theorem ow_149 : m_own 149 = 11 := by decide +kernel
theorem hg_150 : m_hg 150 = 8 := by decide +kernel
theorem ml_150 : m_mls.getD 150 0 = 2 := by decide +kernel
theorem ow_150 : m_own 150 = 11 := by decide +kernel
theorem hg_151 : m_hg 151 = 8 := by decide +kernel
theorem ml_151 : m_mls.getD 151 0 = 3 := by decide +kernel
theorem ow_151 : m_own 151 = 11 := by decide +kernel
theorem hg_152 : m_hg 152 = 8 := by decide +kernel
theorem ml_152 : m_mls.getD 152 0 = 3 := by decide +kernel
theorem ow_152 : m_own 152 = 11 := by decide +kernel
theorem hg_153 : m_hg 153 = 8 := by decide +kernel
theorem ml_153 : m_mls.getD 153 0 = 6 := by decide +kernel
theorem ow_153 : m_own 153 = 11 := by decide +kernel
theorem hg_154 : m_hg 154 = 8 := by decide +kernel
theorem ml_154 : m_mls.getD 154 0 = 3 := by decide +kernel
theorem ow_154 : m_own 154 = 11 := by decide +kernel
theorem hg_155 : m_hg 155 = 8 := by decide +kernel
theorem ml_155 : m_mls.getD 155 0 = 3 := by decide +kernel
theorem ow_155 : m_own 155 = 11 := by decide +kernel
theorem hg_156 : m_hg 156 = 8 := by decide +kernel
theorem ml_156 : m_mls.getD 156 0 = 2 := by decide +kernel
theorem ow_156 : m_own 156 = 11 := by decide +kernel
theorem hg_157 : m_hg 157 = 8 := by decide +kernel
theorem ml_157 : m_mls.getD 157 0 = 3 := by decide +kernel
theorem ow_157 : m_own 157 = 11 := by decide +kernel
theorem hg_158 : m_hg 158 = 8 := by decide +kernel
theorem ml_158 : m_mls.getD 158 0 = 4 := by decide +kernel
theorem ow_158 : m_own 158 = 11 := by decide +kernel
theorem hg_159 : m_hg 159 = 8 := by decide +kernel
theorem ml_159 : m_mls.getD 159 0 = 3 := by decide +kernel
theorem ow_159 : m_own 159 = 11 := by decide +kernel
theorem hg_160 : m_hg 160 = 8 := by decide +kernel
theorem ml_160 : m_mls.getD 160 0 = 3 := by decide +kernel
theorem ow_160 : m_own 160 = 11 := by decide +kernel
theorem hg_161 : m_hg 161 = 8 := by decide +kernel
theorem ml_161 : m_mls.getD 161 0 = 2 := by decide +kernel
theorem ow_161 : m_own 161 = 11 := by decide +kernel
theorem hg_162 : m_hg 162 = 8 := by decide +kernel
theorem ml_162 : m_mls.getD 162 0 = 4 := by decide +kernel
theorem ow_162 : m_own 162 = 11 := by decide +kernel
theorem hg_163 : m_hg 163 = 8 := by decide +kernel
theorem ml_163 : m_mls.getD 163 0 = 3 := by decide +kernel
theorem ow_163 : m_own 163 = 11 := by decide +kernel
theorem hg_164 : m_hg 164 = 8 := by decide +kernel
theorem ml_164 : m_mls.getD 164 0 = 3 := by decide +kernel
theorem ow_164 : m_own 164 = 11 := by decide +kernel
theorem hg_165 : m_hg 165 = 8 := by decide +kernel
theorem ml_165 : m_mls.getD 165 0 = 3 := by decide +kernel
theorem ow_165 : m_own 165 = 11 := by decide +kernel
theorem hg_166 : m_hg 166 = 8 := by decide +kernel
theorem ml_166 : m_mls.getD 166 0 = 1 := by decide +kernel
theorem ow_166 : m_own 166 = 11 := by decide +kernel
theorem hg_167 : m_hg 167 = 8 := by decide +kernel
theorem ml_167 : m_mls.getD 167 0 = 2 := by decide +kernel
theorem ow_167 : m_own 167 = 11 := by decide +kernel
theorem hg_168 : m_hg 168 = 2 := by decide +kernel
theorem ml_168 : m_mls.getD 168 0 = 2 := by decide +kernel
theorem ow_168 : m_own 168 = 11 := by decide +kernel
theorem hg_169 : m_hg 169 = 0 := by decide +kernel
theorem ml_169 : m_mls.getD 169 0 = 2 := by decide +kernel
theorem ow_169 : m_own 169 = 11 := by decide +kernel
theorem hg_170 : m_hg 170 = 8 := by decide +kernel
theorem ml_170 : m_mls.getD 170 0 = 3 := by decide +kernel
theorem ow_170 : m_own 170 = 11 := by decide +kernel
theorem hg_171 : m_hg 171 = 8 := by decide +kernel
theorem ml_171 : m_mls.getD 171 0 = 4 := by decide +kernel
theorem ow_171 : m_own 171 = 11 := by decide +kernel
theorem hg_172 : m_hg 172 = 8 := by decide +kernel
theorem ml_172 : m_mls.getD 172 0 = 3 := by decide +kernel
theorem ow_172 : m_own 172 = 11 := by decide +kernel
theorem hg_173 : m_hg 173 = 8 := by decide +kernel
theorem ml_173 : m_mls.getD 173 0 = 3 := by decide +kernel
theorem ow_173 : m_own 173 = 11 := by decide +kernel
theorem hg_174 : m_hg 174 = 8 := by decide +kernel
theorem ml_174 : m_mls.getD 174 0 = 4 := by decide +kernel
theorem ow_174 : m_own 174 = 11 := by decide +kernel
theorem hg_175 : m_hg 175 = 1 := by decide +kernel
theorem ml_175 : m_mls.getD 175 0 = 1 := by decide +kernel
theorem ow_175 : m_own 175 = 11 := by decide +kernel
theorem hg_176 : m_hg 176 = 8 := by decide +kernel
theorem ml_176 : m_mls.getD 176 0 = 1 := by decide +kernel
theorem ow_176 : m_own 176 = 11 := by decide +kernel
theorem hg_177 : m_hg 177 = 8 := by decide +kernel
theorem ml_177 : m_mls.getD 177 0 = 1 := by decide +kernel
theorem ow_177 : m_own 177 = 11 := by decide +kernel
theorem hg_178 : m_hg 178 = 8 := by decide +kernel
theorem ml_178 : m_mls.getD 178 0 = 5 := by decide +kernel
theorem ow_178 : m_own 178 = 11 := by decide +kernel
theorem hg_179 : m_hg 179 = 2 := by decide +kernel
theorem ml_179 : m_mls.getD 179 0 = 1 := by decide +kernel
theorem ow_179 : m_own 179 = 11 := by decide +kernel
theorem hg_180 : m_hg 180 = 2 := by decide +kernel
theorem ml_180 : m_mls.getD 180 0 = 2 := by decide +kernel
theorem ow_180 : m_own 180 = 11 := by decide +kernel
theorem hg_181 : m_hg 181 = 3 := by decide +kernel
theorem ml_181 : m_mls.getD 181 0 = 4 := by decide +kernel
theorem ow_181 : m_own 181 = 11 := by decide +kernel
theorem hg_182 : m_hg 182 = 7 := by decide +kernel
theorem ml_182 : m_mls.getD 182 0 = 3 := by decide +kernel
theorem ow_182 : m_own 182 = 11 := by decide +kernel
theorem hg_183 : m_hg 183 = 7 := by decide +kernel
theorem ml_183 : m_mls.getD 183 0 = 3 := by decide +kernel
theorem ow_183 : m_own 183 = 11 := by decide +kernel
theorem hg_184 : m_hg 184 = 7 := by decide +kernel
theorem ml_184 : m_mls.getD 184 0 = 3 := by decide +kernel
theorem ow_184 : m_own 184 = 11 := by decide +kernel
theorem hg_185 : m_hg 185 = 7 := by decide +kernel
theorem ml_185 : m_mls.getD 185 0 = 3 := by decide +kernel
theorem ow_185 : m_own 185 = 11 := by decide +kernel
theorem hg_186 : m_hg 186 = 2 := by decide +kernel
theorem ml_186 : m_mls.getD 186 0 = 1 := by decide +kernel
theorem ow_186 : m_own 186 = 11 := by decide +kernel
theorem hg_187 : m_hg 187 = 4 := by decide +kernel
theorem ml_187 : m_mls.getD 187 0 = 4 := by decide +kernel
theorem ow_187 : m_own 187 = 11 := by decide +kernel
theorem hg_188 : m_hg 188 = 7 := by decide +kernel
theorem ml_188 : m_mls.getD 188 0 = 1 := by decide +kernel
theorem ow_188 : m_own 188 = 11 := by decide +kernel
theorem hg_189 : m_hg 189 = 7 := by decide +kernel
theorem ml_189 : m_mls.getD 189 0 = 1 := by decide +kernel
theorem ow_189 : m_own 189 = 11 := by decide +kernel
theorem hg_190 : m_hg 190 = 2 := by decide +kernel
theorem ml_190 : m_mls.getD 190 0 = 5 := by decide +kernel
theorem ow_190 : m_own 190 = 11 := by decide +kernel
theorem hg_191 : m_hg 191 = 0 := by decide +kernel
theorem ml_191 : m_mls.getD 191 0 = 1 := by decide +kernel
theorem ow_191 : m_own 191 = 11 := by decide +kernel
theorem hg_192 : m_hg 192 = 2 := by decide +kernel
theorem ml_192 : m_mls.getD 192 0 = 5 := by decide +kernel
theorem ow_192 : m_own 192 = 11 := by decide +kernel
theorem hg_193 : m_hg 193 = 0 := by decide +kernel
theorem ml_193 : m_mls.getD 193 0 = 1 := by decide +kernel
theorem ow_193 : m_own 193 = 11 := by decide +kernel
theorem hg_194 : m_hg 194 = 0 := by decide +kernel
theorem ml_194 : m_mls.getD 194 0 = 2 := by decide +kernel
theorem ow_194 : m_own 194 = 11 := by decide +kernel
theorem hg_195 : m_hg 195 = 0 := by decide +kernel
theorem ml_195 : m_mls.getD 195 0 = 8 := by decide +kernel
theorem ow_195 : m_own 195 = 11 := by decide +kernel
theorem hg_196 : m_hg 196 = 0 := by decide +kernel
theorem ml_196 : m_mls.getD 196 0 = 1 := by decide +kernel
theorem ow_196 : m_own 196 = 11 := by decide +kernel
theorem hg_197 : m_hg 197 = 0 := by decide +kernel
theorem ml_197 : m_mls.getD 197 0 = 1 := by decide +kernel
theorem ow_197 : m_own 197 = 11 := by decide +kernel
theorem hg_198 : m_hg 198 = 0 := by decide +kernel
theorem ml_198 : m_mls.getD 198 0 = 1 := by decide +kernel
theorem ow_198 : m_own 198 = 11 := by decide +kernel
theorem hg_199 : m_hg 199 = 0 := by decide +kernel
theorem ml_199 : m_mls.getD 199 0 = 1 := by decide +kernel
theorem ow_199 : m_own 199 = 11 := by decide +kernel
theorem hg_200 : m_hg 200 = 0 := by decide +kernel
theorem ml_200 : m_mls.getD 200 0 = 1 := by decide +kernel
theorem ow_200 : m_own 200 = 11 := by decide +kernel
theorem hg_201 : m_hg 201 = 0 := by decide +kernel
theorem ml_201 : m_mls.getD 201 0 = 1 := by decide +kernel
theorem ow_201 : m_own 201 = 12 := by decide +kernel
theorem hg_202 : m_hg 202 = 0 := by decide +kernel
theorem ml_202 : m_mls.getD 202 0 = 1 := by decide +kernel
theorem ow_202 : m_own 202 = 12 := by decide +kernel
theorem hg_203 : m_hg 203 = 0 := by decide +kernel
theorem ml_203 : m_mls.getD 203 0 = 3 := by decide +kernel
theorem ow_203 : m_own 203 = 12 := by decide +kernel
theorem hg_204 : m_hg 204 = 1 := by decide +kernel
theorem ml_204 : m_mls.getD 204 0 = 1 := by decide +kernel
theorem ow_204 : m_own 204 = 12 := by decide +kernel
theorem hg_205 : m_hg 205 = 2 := by decide +kernel
theorem ml_205 : m_mls.getD 205 0 = 2 := by decide +kernel
theorem ow_205 : m_own 205 = 12 := by decide +kernel
theorem hg_206 : m_hg 206 = 0 := by decide +kernel
theorem ml_206 : m_mls.getD 206 0 = 3 := by decide +kernel
theorem ow_206 : m_own 206 = 12 := by decide +kernel
theorem hg_207 : m_hg 207 = 1 := by decide +kernel
theorem ml_207 : m_mls.getD 207 0 = 1 := by decide +kernel
theorem ow_207 : m_own 207 = 12 := by decide +kernel
theorem hg_208 : m_hg 208 = 1 := by decide +kernel
theorem ml_208 : m_mls.getD 208 0 = 1 := by decide +kernel
theorem ow_208 : m_own 208 = 12 := by decide +kernel
theorem hg_209 : m_hg 209 = 0 := by decide +kernel
theorem ml_209 : m_mls.getD 209 0 = 4 := by decide +kernel
theorem ow_209 : m_own 209 = 12 := by decide +kernel
theorem hg_210 : m_hg 210 = 1 := by decide +kernel
theorem ml_210 : m_mls.getD 210 0 = 1 := by decide +kernel
theorem ow_210 : m_own 210 = 12 := by decide +kernel
theorem hg_211 : m_hg 211 = 0 := by decide +kernel
theorem ml_211 : m_mls.getD 211 0 = 1 := by decide +kernel
theorem ow_211 : m_own 211 = 12 := by decide +kernel
theorem hg_212 : m_hg 212 = 0 := by decide +kernel
theorem ml_212 : m_mls.getD 212 0 = 7 := by decide +kernel
theorem ow_212 : m_own 212 = 12 := by decide +kernel
theorem hg_213 : m_hg 213 = 1 := by decide +kernel
theorem ml_213 : m_mls.getD 213 0 = 4 := by decide +kernel
theorem ow_213 : m_own 213 = 12 := by decide +kernel
theorem hg_214 : m_hg 214 = 2 := by decide +kernel
theorem ml_214 : m_mls.getD 214 0 = 5 := by decide +kernel
theorem ow_214 : m_own 214 = 12 := by decide +kernel
theorem hg_215 : m_hg 215 = 3 := by decide +kernel
theorem ml_215 : m_mls.getD 215 0 = 10 := by decide +kernel
theorem ow_215 : m_own 215 = 12 := by decide +kernel
theorem hg_216 : m_hg 216 = 4 := by decide +kernel
theorem ml_216 : m_mls.getD 216 0 = 11 := by decide +kernel
theorem ow_216 : m_own 216 = 12 := by decide +kernel
theorem hg_217 : m_hg 217 = 5 := by decide +kernel
theorem ml_217 : m_mls.getD 217 0 = 5 := by decide +kernel
theorem ow_217 : m_own 217 = 12 := by decide +kernel
theorem hg_218 : m_hg 218 = 6 := by decide +kernel
theorem ml_218 : m_mls.getD 218 0 = 2 := by decide +kernel
theorem ow_218 : m_own 218 = 12 := by decide +kernel
theorem hg_219 : m_hg 219 = 1 := by decide +kernel
theorem ml_219 : m_mls.getD 219 0 = 4 := by decide +kernel
theorem ow_219 : m_own 219 = 12 := by decide +kernel
theorem hg_220 : m_hg 220 = 2 := by decide +kernel
theorem ml_220 : m_mls.getD 220 0 = 5 := by decide +kernel
theorem ow_220 : m_own 220 = 12 := by decide +kernel
theorem hg_221 : m_hg 221 = 0 := by decide +kernel
theorem ml_221 : m_mls.getD 221 0 = 4 := by decide +kernel
theorem ow_221 : m_own 221 = 12 := by decide +kernel
theorem hg_222 : m_hg 222 = 0 := by decide +kernel
theorem ml_222 : m_mls.getD 222 0 = 4 := by decide +kernel
theorem ow_222 : m_own 222 = 12 := by decide +kernel
theorem hg_223 : m_hg 223 = 0 := by decide +kernel
theorem ml_223 : m_mls.getD 223 0 = 1 := by decide +kernel
theorem ow_223 : m_own 223 = 12 := by decide +kernel
theorem hg_224 : m_hg 224 = 1 := by decide +kernel
theorem ml_224 : m_mls.getD 224 0 = 2 := by decide +kernel
theorem ow_224 : m_own 224 = 12 := by decide +kernel
theorem hg_225 : m_hg 225 = 2 := by decide +kernel
theorem ml_225 : m_mls.getD 225 0 = 2 := by decide +kernel
theorem ow_225 : m_own 225 = 12 := by decide +kernel
theorem hg_226 : m_hg 226 = 0 := by decide +kernel
theorem ml_226 : m_mls.getD 226 0 = 2 := by decide +kernel
theorem ow_226 : m_own 226 = 12 := by decide +kernel
theorem hg_227 : m_hg 227 = 1 := by decide +kernel
theorem ml_227 : m_mls.getD 227 0 = 4 := by decide +kernel
theorem ow_227 : m_own 227 = 12 := by decide +kernel
theorem hg_228 : m_hg 228 = 0 := by decide +kernel
theorem ml_228 : m_mls.getD 228 0 = 2 := by decide +kernel
theorem ow_228 : m_own 228 = 12 := by decide +kernel
theorem hg_229 : m_hg 229 = 0 := by decide +kernel
theorem ml_229 : m_mls.getD 229 0 = 3 := by decide +kernel
theorem ow_229 : m_own 229 = 12 := by decide +kernel
theorem hg_230 : m_hg 230 = 3 := by decide +kernel
theorem ml_230 : m_mls.getD 230 0 = 6 := by decide +kernel
theorem ow_230 : m_own 230 = 12 := by decide +kernel
theorem hg_231 : m_hg 231 = 4 := by decide +kernel
theorem ml_231 : m_mls.getD 231 0 = 4 := by decide +kernel
theorem ow_231 : m_own 231 = 12 := by decide +kernel
theorem hg_232 : m_hg 232 = 4 := by decide +kernel
theorem ml_232 : m_mls.getD 232 0 = 2 := by decide +kernel
theorem ow_232 : m_own 232 = 12 := by decide +kernel
theorem hg_233 : m_hg 233 = 5 := by decide +kernel
theorem ml_233 : m_mls.getD 233 0 = 4 := by decide +kernel
theorem ow_233 : m_own 233 = 12 := by decide +kernel
theorem hg_234 : m_hg 234 = 0 := by decide +kernel
theorem ml_234 : m_mls.getD 234 0 = 1 := by decide +kernel
theorem ow_234 : m_own 234 = 12 := by decide +kernel
theorem hg_235 : m_hg 235 = 0 := by decide +kernel
theorem ml_235 : m_mls.getD 235 0 = 2 := by decide +kernel
theorem ow_235 : m_own 235 = 12 := by decide +kernel
theorem hg_236 : m_hg 236 = 1 := by decide +kernel
theorem ml_236 : m_mls.getD 236 0 = 2 := by decide +kernel
theorem ow_236 : m_own 236 = 12 := by decide +kernel
theorem hg_237 : m_hg 237 = 1 := by decide +kernel
theorem ml_237 : m_mls.getD 237 0 = 5 := by decide +kernel
theorem ow_237 : m_own 237 = 12 := by decide +kernel
theorem hg_238 : m_hg 238 = 0 := by decide +kernel
theorem ml_238 : m_mls.getD 238 0 = 3 := by decide +kernel
theorem ow_238 : m_own 238 = 12 := by decide +kernel
theorem hg_239 : m_hg 239 = 2 := by decide +kernel
theorem ml_239 : m_mls.getD 239 0 = 7 := by decide +kernel
theorem ow_239 : m_own 239 = 12 := by decide +kernel
theorem hg_240 : m_hg 240 = 3 := by decide +kernel
theorem ml_240 : m_mls.getD 240 0 = 3 := by decide +kernel
theorem ow_240 : m_own 240 = 12 := by decide +kernel
theorem hg_241 : m_hg 241 = 1 := by decide +kernel
theorem ml_241 : m_mls.getD 241 0 = 1 := by decide +kernel
theorem ow_241 : m_own 241 = 12 := by decide +kernel
theorem hg_242 : m_hg 242 = 2 := by decide +kernel
theorem ml_242 : m_mls.getD 242 0 = 3 := by decide +kernel
theorem ow_242 : m_own 242 = 12 := by decide +kernel
theorem hg_243 : m_hg 243 = 2 := by decide +kernel
theorem ml_243 : m_mls.getD 243 0 = 3 := by decide +kernel
theorem ow_243 : m_own 243 = 12 := by decide +kernel
theorem hg_244 : m_hg 244 = 6 := by decide +kernel
theorem ml_244 : m_mls.getD 244 0 = 7 := by decide +kernel
theorem ow_244 : m_own 244 = 12 := by decide +kernel
theorem hg_245 : m_hg 245 = 7 := by decide +kernel
theorem ml_245 : m_mls.getD 245 0 = 4 := by decide +kernel
theorem ow_245 : m_own 245 = 12 := by decide +kernel
theorem hg_246 : m_hg 246 = 8 := by decide +kernel
theorem ml_246 : m_mls.getD 246 0 = 1 := by decide +kernel
theorem ow_246 : m_own 246 = 12 := by decide +kernel
theorem hg_247 : m_hg 247 = 0 := by decide +kernel
theorem ml_247 : m_mls.getD 247 0 = 4 := by decide +kernel
theorem ow_247 : m_own 247 = 12 := by decide +kernel
theorem hg_248 : m_hg 248 = 9 := by decide +kernel
theorem ml_248 : m_mls.getD 248 0 = 3 := by decide +kernel
theorem ow_248 : m_own 248 = 12 := by decide +kernel
theorem hg_249 : m_hg 249 = 0 := by decide +kernel
theorem ml_249 : m_mls.getD 249 0 = 3 := by decide +kernel
theorem ow_249 : m_own 249 = 12 := by decide +kernel
theorem hg_250 : m_hg 250 = 1 := by decide +kernel
theorem ml_250 : m_mls.getD 250 0 = 3 := by decide +kernel
theorem ow_250 : m_own 250 = 12 := by decide +kernel
theorem hg_251 : m_hg 251 = 1 := by decide +kernel
theorem ml_251 : m_mls.getD 251 0 = 2 := by decide +kernel
theorem ow_251 : m_own 251 = 12 := by decide +kernel
theorem hg_252 : m_hg 252 = 2 := by decide +kernel
theorem ml_252 : m_mls.getD 252 0 = 4 := by decide +kernel
theorem ow_252 : m_own 252 = 12 := by decide +kernel
theorem hg_253 : m_hg 253 = 3 := by decide +kernel
theorem ml_253 : m_mls.getD 253 0 = 4 := by decide +kernel
theorem ow_253 : m_own 253 = 12 := by decide +kernel
theorem hg_254 : m_hg 254 = 2 := by decide +kernel
theorem ml_254 : m_mls.getD 254 0 = 5 := by decide +kernel
theorem ow_254 : m_own 254 = 12 := by decide +kernel
theorem hg_255 : m_hg 255 = 4 := by decide +kernel
theorem ml_255 : m_mls.getD 255 0 = 6 := by decide +kernel
theorem ow_255 : m_own 255 = 12 := by decide +kernel
theorem hg_256 : m_hg 256 = 3 := by decide +kernel
theorem ml_256 : m_mls.getD 256 0 = 5 := by decide +kernel
theorem ow_256 : m_own 256 = 12 := by decide +kernel
theorem hg_257 : m_hg 257 = 3 := by decide +kernel
theorem ml_257 : m_mls.getD 257 0 = 7 := by decide +kernel
theorem ow_257 : m_own 257 = 12 := by decide +kernel
theorem hg_258 : m_hg 258 = 4 := by decide +kernel
theorem ml_258 : m_mls.getD 258 0 = 7 := by decide +kernel
theorem ow_258 : m_own 258 = 12 := by decide +kernel
theorem hg_259 : m_hg 259 = 0 := by decide +kernel
theorem ml_259 : m_mls.getD 259 0 = 2 := by decide +kernel
theorem ow_259 : m_own 259 = 12 := by decide +kernel
theorem hg_260 : m_hg 260 = 5 := by decide +kernel
theorem ml_260 : m_mls.getD 260 0 = 7 := by decide +kernel
theorem ow_260 : m_own 260 = 12 := by decide +kernel
theorem hg_261 : m_hg 261 = 6 := by decide +kernel
theorem ml_261 : m_mls.getD 261 0 = 3 := by decide +kernel
theorem ow_261 : m_own 261 = 12 := by decide +kernel
theorem hg_262 : m_hg 262 = 10 := by decide +kernel
theorem ml_262 : m_mls.getD 262 0 = 1 := by decide +kernel
theorem ow_262 : m_own 262 = 12 := by decide +kernel
theorem hg_263 : m_hg 263 = 0 := by decide +kernel
theorem ml_263 : m_mls.getD 263 0 = 3 := by decide +kernel
theorem ow_263 : m_own 263 = 12 := by decide +kernel
theorem hg_264 : m_hg 264 = 0 := by decide +kernel
theorem ml_264 : m_mls.getD 264 0 = 1 := by decide +kernel
theorem ow_264 : m_own 264 = 12 := by decide +kernel
theorem hg_265 : m_hg 265 = 0 := by decide +kernel
theorem ml_265 : m_mls.getD 265 0 = 3 := by decide +kernel
theorem ow_265 : m_own 265 = 12 := by decide +kernel
theorem hg_266 : m_hg 266 = 1 := by decide +kernel
theorem ml_266 : m_mls.getD 266 0 = 5 := by decide +kernel
theorem ow_266 : m_own 266 = 12 := by decide +kernel
theorem hg_267 : m_hg 267 = 1 := by decide +kernel
theorem ml_267 : m_mls.getD 267 0 = 6 := by decide +kernel
theorem ow_267 : m_own 267 = 12 := by decide +kernel
theorem hg_268 : m_hg 268 = 2 := by decide +kernel
theorem ml_268 : m_mls.getD 268 0 = 4 := by decide +kernel
theorem ow_268 : m_own 268 = 12 := by decide +kernel
theorem hg_269 : m_hg 269 = 0 := by decide +kernel
theorem ml_269 : m_mls.getD 269 0 = 4 := by decide +kernel
theorem ow_269 : m_own 269 = 12 := by decide +kernel
theorem hg_270 : m_hg 270 = 0 := by decide +kernel
theorem ml_270 : m_mls.getD 270 0 = 4 := by decide +kernel
theorem ow_270 : m_own 270 = 12 := by decide +kernel
theorem hg_271 : m_hg 271 = 2 := by decide +kernel
theorem ml_271 : m_mls.getD 271 0 = 6 := by decide +kernel
theorem ow_271 : m_own 271 = 12 := by decide +kernel
theorem hg_272 : m_hg 272 = 3 := by decide +kernel
theorem ml_272 : m_mls.getD 272 0 = 6 := by decide +kernel
theorem ow_272 : m_own 272 = 12 := by decide +kernel
theorem hg_273 : m_hg 273 = 4 := by decide +kernel
theorem ml_273 : m_mls.getD 273 0 = 4 := by decide +kernel
theorem ow_273 : m_own 273 = 12 := by decide +kernel
theorem hg_274 : m_hg 274 = 0 := by decide +kernel
theorem ml_274 : m_mls.getD 274 0 = 2 := by decide +kernel
theorem ow_274 : m_own 274 = 12 := by decide +kernel
theorem hg_275 : m_hg 275 = 0 := by decide +kernel
theorem ml_275 : m_mls.getD 275 0 = 2 := by decide +kernel
theorem ow_275 : m_own 275 = 12 := by decide +kernel
theorem hg_276 : m_hg 276 = 1 := by decide +kernel
theorem ml_276 : m_mls.getD 276 0 = 5 := by decide +kernel
theorem ow_276 : m_own 276 = 12 := by decide +kernel
theorem hg_277 : m_hg 277 = 2 := by decide +kernel
theorem ml_277 : m_mls.getD 277 0 = 3 := by decide +kernel
theorem ow_277 : m_own 277 = 12 := by decide +kernel
theorem hg_278 : m_hg 278 = 0 := by decide +kernel
theorem ml_278 : m_mls.getD 278 0 = 3 := by decide +kernel
theorem ow_278 : m_own 278 = 12 := by decide +kernel
theorem hg_279 : m_hg 279 = 0 := by decide +kernel
theorem ml_279 : m_mls.getD 279 0 = 3 := by decide +kernel
theorem ow_279 : m_own 279 = 12 := by decide +kernel
theorem hg_280 : m_hg 280 = 0 := by decide +kernel
theorem ml_280 : m_mls.getD 280 0 = 1 := by decide +kernel
theorem ow_280 : m_own 280 = 12 := by decide +kernel
theorem hg_281 : m_hg 281 = 0 := by decide +kernel
theorem ml_281 : m_mls.getD 281 0 = 2 := by decide +kernel
theorem ow_281 : m_own 281 = 12 := by decide +kernel
theorem hg_282 : m_hg 282 = 0 := by decide +kernel
theorem ml_282 : m_mls.getD 282 0 = 2 := by decide +kernel
theorem ow_282 : m_own 282 = 12 := by decide +kernel
theorem hg_283 : m_hg 283 = 1 := by decide +kernel
theorem ml_283 : m_mls.getD 283 0 = 3 := by decide +kernel
theorem ow_283 : m_own 283 = 12 := by decide +kernel
theorem hg_284 : m_hg 284 = 2 := by decide +kernel
theorem ml_284 : m_mls.getD 284 0 = 7 := by decide +kernel
theorem ow_284 : m_own 284 = 12 := by decide +kernel
theorem hg_285 : m_hg 285 = 3 := by decide +kernel
theorem ml_285 : m_mls.getD 285 0 = 7 := by decide +kernel
theorem ow_285 : m_own 285 = 12 := by decide +kernel
theorem hg_286 : m_hg 286 = 0 := by decide +kernel
theorem ml_286 : m_mls.getD 286 0 = 5 := by decide +kernel
theorem ow_286 : m_own 286 = 12 := by decide +kernel
theorem hg_287 : m_hg 287 = 1 := by decide +kernel
theorem ml_287 : m_mls.getD 287 0 = 6 := by decide +kernel
theorem ow_287 : m_own 287 = 12 := by decide +kernel
theorem hg_288 : m_hg 288 = 2 := by decide +kernel
theorem ml_288 : m_mls.getD 288 0 = 4 := by decide +kernel
theorem ow_288 : m_own 288 = 12 := by decide +kernel
theorem hg_289 : m_hg 289 = 4 := by decide +kernel
theorem ml_289 : m_mls.getD 289 0 = 7 := by decide +kernel
theorem ow_289 : m_own 289 = 12 := by decide +kernel
theorem hg_290 : m_hg 290 = 12 := by decide +kernel
theorem ml_290 : m_mls.getD 290 0 = 6 := by decide +kernel
theorem ow_290 : m_own 290 = 12 := by decide +kernel
theorem hg_291 : m_hg 291 = 11 := by decide +kernel
theorem ml_291 : m_mls.getD 291 0 = 5 := by decide +kernel
theorem ow_291 : m_own 291 = 12 := by decide +kernel
theorem hg_292 : m_hg 292 = 0 := by decide +kernel
theorem ml_292 : m_mls.getD 292 0 = 4 := by decide +kernel
theorem ow_292 : m_own 292 = 12 := by decide +kernel
theorem hg_293 : m_hg 293 = 0 := by decide +kernel
theorem ml_293 : m_mls.getD 293 0 = 6 := by decide +kernel
theorem ow_293 : m_own 293 = 12 := by decide +kernel
theorem hg_294 : m_hg 294 = 0 := by decide +kernel
theorem ml_294 : m_mls.getD 294 0 = 3 := by decide +kernel
theorem ow_294 : m_own 294 = 12 := by decide +kernel
theorem hg_295 : m_hg 295 = 1 := by decide +kernel
theorem ml_295 : m_mls.getD 295 0 = 5 := by decide +kernel
theorem ow_295 : m_own 295 = 12 := by decide +kernel
theorem hg_296 : m_hg 296 = 1 := by decide +kernel
theorem ml_296 : m_mls.getD 296 0 = 7 := by decide +kernel
theorem ow_296 : m_own 296 = 12 := by decide +kernel
theorem hg_297 : m_hg 297 = 1 := by decide +kernel
theorem ml_297 : m_mls.getD 297 0 = 5 := by decide +kernel
theorem ow_297 : m_own 297 = 12 := by decide +kernel
theorem hg_298 : m_hg 298 = 2 := by decide +kernel
theorem ml_298 : m_mls.getD 298 0 = 1 := by decide +kernel
theorem ow_298 : m_own 298 = 12 := by decide +kernel
theorem hg_299 : m_hg 299 = 9 := by decide +kernel
theorem ml_299 : m_mls.getD 299 0 = 7 := by decide +kernel
theorem ow_299 : m_own 299 = 12 := by decide +kernel
theorem hg_300 : m_hg 300 = 2 := by decide +kernel
theorem ml_300 : m_mls.getD 300 0 = 4 := by decide +kernel
theorem ow_300 : m_own 300 = 12 := by decide +kernel
theorem hg_301 : m_hg 301 = 3 := by decide +kernel
theorem ml_301 : m_mls.getD 301 0 = 5 := by decide +kernel
theorem ow_301 : m_own 301 = 12 := by decide +kernel
theorem hg_302 : m_hg 302 = 4 := by decide +kernel
theorem ml_302 : m_mls.getD 302 0 = 5 := by decide +kernel
theorem ow_302 : m_own 302 = 12 := by decide +kernel
theorem hg_303 : m_hg 303 = 4 := by decide +kernel
theorem ml_303 : m_mls.getD 303 0 = 4 := by decide +kernel
theorem ow_303 : m_own 303 = 12 := by decide +kernel
theorem hg_304 : m_hg 304 = 10 := by decide +kernel
theorem ml_304 : m_mls.getD 304 0 = 8 := by decide +kernel
theorem ow_304 : m_own 304 = 12 := by decide +kernel
theorem hg_305 : m_hg 305 = 0 := by decide +kernel
theorem ml_305 : m_mls.getD 305 0 = 7 := by decide +kernel
theorem ow_305 : m_own 305 = 12 := by decide +kernel
theorem hg_306 : m_hg 306 = 0 := by decide +kernel
theorem ml_306 : m_mls.getD 306 0 = 5 := by decide +kernel
theorem ow_306 : m_own 306 = 12 := by decide +kernel
theorem hg_307 : m_hg 307 = 1 := by decide +kernel
theorem ml_307 : m_mls.getD 307 0 = 3 := by decide +kernel
theorem ow_307 : m_own 307 = 12 := by decide +kernel
theorem hg_308 : m_hg 308 = 1 := by decide +kernel
theorem ml_308 : m_mls.getD 308 0 = 6 := by decide +kernel
theorem ow_308 : m_own 308 = 12 := by decide +kernel
theorem hg_309 : m_hg 309 = 0 := by decide +kernel
theorem ml_309 : m_mls.getD 309 0 = 4 := by decide +kernel
theorem ow_309 : m_own 309 = 12 := by decide +kernel
theorem hg_310 : m_hg 310 = 0 := by decide +kernel
theorem ml_310 : m_mls.getD 310 0 = 1 := by decide +kernel
theorem ow_310 : m_own 310 = 12 := by decide +kernel
theorem hg_311 : m_hg 311 = 0 := by decide +kernel
theorem ml_311 : m_mls.getD 311 0 = 3 := by decide +kernel
theorem ow_311 : m_own 311 = 12 := by decide +kernel
theorem hg_312 : m_hg 312 = 0 := by decide +kernel
theorem ml_312 : m_mls.getD 312 0 = 2 := by decide +kernel
theorem ow_312 : m_own 312 = 12 := by decide +kernel
theorem hg_313 : m_hg 313 = 2 := by decide +kernel
theorem ml_313 : m_mls.getD 313 0 = 8 := by decide +kernel
theorem ow_313 : m_own 313 = 12 := by decide +kernel
theorem hg_314 : m_hg 314 = 0 := by decide +kernel
theorem ml_314 : m_mls.getD 314 0 = 2 := by decide +kernel
theorem ow_314 : m_own 314 = 12 := by decide +kernel
theorem hg_315 : m_hg 315 = 1 := by decide +kernel
theorem ml_315 : m_mls.getD 315 0 = 3 := by decide +kernel
theorem ow_315 : m_own 315 = 12 := by decide +kernel
theorem hg_316 : m_hg 316 = 11 := by decide +kernel
theorem ml_316 : m_mls.getD 316 0 = 7 := by decide +kernel
theorem ow_316 : m_own 316 = 12 := by decide +kernel
theorem hg_317 : m_hg 317 = 3 := by decide +kernel
theorem ml_317 : m_mls.getD 317 0 = 5 := by decide +kernel
theorem ow_317 : m_own 317 = 12 := by decide +kernel
theorem hg_318 : m_hg 318 = 0 := by decide +kernel
theorem ml_318 : m_mls.getD 318 0 = 5 := by decide +kernel
theorem ow_318 : m_own 318 = 12 := by decide +kernel
theorem hg_319 : m_hg 319 = 5 := by decide +kernel
theorem ml_319 : m_mls.getD 319 0 = 9 := by decide +kernel
theorem ow_319 : m_own 319 = 12 := by decide +kernel
theorem hg_320 : m_hg 320 = 6 := by decide +kernel
theorem ml_320 : m_mls.getD 320 0 = 7 := by decide +kernel
theorem ow_320 : m_own 320 = 12 := by decide +kernel
theorem hg_321 : m_hg 321 = 7 := by decide +kernel
theorem ml_321 : m_mls.getD 321 0 = 8 := by decide +kernel
theorem ow_321 : m_own 321 = 12 := by decide +kernel
theorem hg_322 : m_hg 322 = 1 := by decide +kernel
theorem ml_322 : m_mls.getD 322 0 = 4 := by decide +kernel
theorem ow_322 : m_own 322 = 12 := by decide +kernel
theorem hg_323 : m_hg 323 = 1 := by decide +kernel
theorem ml_323 : m_mls.getD 323 0 = 1 := by decide +kernel
theorem ow_323 : m_own 323 = 12 := by decide +kernel
theorem hg_324 : m_hg 324 = 0 := by decide +kernel
theorem ml_324 : m_mls.getD 324 0 = 2 := by decide +kernel
theorem ow_324 : m_own 324 = 12 := by decide +kernel
theorem hg_325 : m_hg 325 = 2 := by decide +kernel
theorem ml_325 : m_mls.getD 325 0 = 11 := by decide +kernel
theorem ow_325 : m_own 325 = 12 := by decide +kernel
theorem hg_326 : m_hg 326 = 2 := by decide +kernel
theorem ml_326 : m_mls.getD 326 0 = 4 := by decide +kernel
theorem ow_326 : m_own 326 = 12 := by decide +kernel
theorem hg_327 : m_hg 327 = 1 := by decide +kernel
theorem ml_327 : m_mls.getD 327 0 = 4 := by decide +kernel
theorem ow_327 : m_own 327 = 12 := by decide +kernel
theorem hg_328 : m_hg 328 = 3 := by decide +kernel
theorem ml_328 : m_mls.getD 328 0 = 5 := by decide +kernel
theorem ow_328 : m_own 328 = 12 := by decide +kernel
theorem hg_329 : m_hg 329 = 0 := by decide +kernel
theorem ml_329 : m_mls.getD 329 0 = 6 := by decide +kernel
theorem ow_329 : m_own 329 = 12 := by decide +kernel
theorem hg_330 : m_hg 330 = 1 := by decide +kernel
theorem ml_330 : m_mls.getD 330 0 = 9 := by decide +kernel
theorem ow_330 : m_own 330 = 12 := by decide +kernel
theorem hg_331 : m_hg 331 = 11 := by decide +kernel
theorem ml_331 : m_mls.getD 331 0 = 8 := by decide +kernel
theorem ow_331 : m_own 331 = 12 := by decide +kernel
theorem hg_332 : m_hg 332 = 12 := by decide +kernel
theorem ml_332 : m_mls.getD 332 0 = 3 := by decide +kernel
theorem ow_332 : m_own 332 = 12 := by decide +kernel
theorem hg_333 : m_hg 333 = 13 := by decide +kernel
theorem ml_333 : m_mls.getD 333 0 = 3 := by decide +kernel
theorem ow_333 : m_own 333 = 12 := by decide +kernel
theorem hg_334 : m_hg 334 = 1 := by decide +kernel
theorem ml_334 : m_mls.getD 334 0 = 1 := by decide +kernel
theorem ow_334 : m_own 334 = 12 := by decide +kernel
theorem hg_335 : m_hg 335 = 0 := by decide +kernel
theorem ml_335 : m_mls.getD 335 0 = 1 := by decide +kernel
theorem ow_335 : m_own 335 = 12 := by decide +kernel
theorem hg_336 : m_hg 336 = 6 := by decide +kernel
theorem ml_336 : m_mls.getD 336 0 = 3 := by decide +kernel
theorem ow_336 : m_own 336 = 12 := by decide +kernel
theorem hg_337 : m_hg 337 = 6 := by decide +kernel
theorem ml_337 : m_mls.getD 337 0 = 4 := by decide +kernel
theorem ow_337 : m_own 337 = 12 := by decide +kernel
theorem hg_338 : m_hg 338 = 7 := by decide +kernel
theorem ml_338 : m_mls.getD 338 0 = 7 := by decide +kernel
theorem ow_338 : m_own 338 = 12 := by decide +kernel
theorem hg_339 : m_hg 339 = 7 := by decide +kernel
theorem ml_339 : m_mls.getD 339 0 = 7 := by decide +kernel
theorem ow_339 : m_own 339 = 12 := by decide +kernel
theorem hg_340 : m_hg 340 = 0 := by decide +kernel
theorem ml_340 : m_mls.getD 340 0 = 2 := by decide +kernel
theorem ow_340 : m_own 340 = 12 := by decide +kernel
theorem hg_341 : m_hg 341 = 1 := by decide +kernel
theorem ml_341 : m_mls.getD 341 0 = 5 := by decide +kernel
theorem ow_341 : m_own 341 = 12 := by decide +kernel
theorem hg_342 : m_hg 342 = 3 := by decide +kernel
theorem ml_342 : m_mls.getD 342 0 = 2 := by decide +kernel
theorem ow_342 : m_own 342 = 12 := by decide +kernel
theorem hg_343 : m_hg 343 = 2 := by decide +kernel
theorem ml_343 : m_mls.getD 343 0 = 2 := by decide +kernel
theorem ow_343 : m_own 343 = 12 := by decide +kernel
theorem hg_344 : m_hg 344 = 7 := by decide +kernel
theorem ml_344 : m_mls.getD 344 0 = 6 := by decide +kernel
theorem ow_344 : m_own 344 = 12 := by decide +kernel
theorem hg_345 : m_hg 345 = 7 := by decide +kernel
theorem ml_345 : m_mls.getD 345 0 = 4 := by decide +kernel
theorem ow_345 : m_own 345 = 12 := by decide +kernel
theorem hg_346 : m_hg 346 = 1 := by decide +kernel
theorem ml_346 : m_mls.getD 346 0 = 6 := by decide +kernel
theorem ow_346 : m_own 346 = 12 := by decide +kernel
theorem hg_347 : m_hg 347 = 0 := by decide +kernel
theorem ml_347 : m_mls.getD 347 0 = 5 := by decide +kernel
theorem ow_347 : m_own 347 = 12 := by decide +kernel
theorem hg_348 : m_hg 348 = 2 := by decide +kernel
theorem ml_348 : m_mls.getD 348 0 = 3 := by decide +kernel
theorem ow_348 : m_own 348 = 12 := by decide +kernel
theorem hg_349 : m_hg 349 = 2 := by decide +kernel
theorem ml_349 : m_mls.getD 349 0 = 3 := by decide +kernel
theorem ow_349 : m_own 349 = 12 := by decide +kernel
theorem hg_350 : m_hg 350 = 3 := by decide +kernel
theorem ml_350 : m_mls.getD 350 0 = 4 := by decide +kernel
theorem ow_350 : m_own 350 = 12 := by decide +kernel
theorem hg_351 : m_hg 351 = 4 := by decide +kernel
theorem ml_351 : m_mls.getD 351 0 = 4 := by decide +kernel
theorem ow_351 : m_own 351 = 12 := by decide +kernel
theorem hg_352 : m_hg 352 = 3 := by decide +kernel
theorem ml_352 : m_mls.getD 352 0 = 3 := by decide +kernel
theorem ow_352 : m_own 352 = 12 := by decide +kernel
theorem hg_353 : m_hg 353 = 0 := by decide +kernel
theorem ml_353 : m_mls.getD 353 0 = 1 := by decide +kernel
theorem ow_353 : m_own 353 = 12 := by decide +kernel
theorem hg_354 : m_hg 354 = 11 := by decide +kernel
theorem ml_354 : m_mls.getD 354 0 = 2 := by decide +kernel
theorem ow_354 : m_own 354 = 12 := by decide +kernel
theorem hg_355 : m_hg 355 = 12 := by decide +kernel
theorem ml_355 : m_mls.getD 355 0 = 4 := by decide +kernel
theorem ow_355 : m_own 355 = 12 := by decide +kernel
theorem hg_356 : m_hg 356 = 12 := by decide +kernel
theorem ml_356 : m_mls.getD 356 0 = 2 := by decide +kernel
theorem ow_356 : m_own 356 = 12 := by decide +kernel
theorem hg_357 : m_hg 357 = 13 := by decide +kernel
theorem ml_357 : m_mls.getD 357 0 = 4 := by decide +kernel
theorem ow_357 : m_own 357 = 12 := by decide +kernel
theorem hg_358 : m_hg 358 = 14 := by decide +kernel
theorem ml_358 : m_mls.getD 358 0 = 3 := by decide +kernel
theorem ow_358 : m_own 358 = 12 := by decide +kernel
theorem hg_359 : m_hg 359 = 11 := by decide +kernel
theorem ml_359 : m_mls.getD 359 0 = 5 := by decide +kernel
theorem ow_359 : m_own 359 = 12 := by decide +kernel
theorem hg_360 : m_hg 360 = 13 := by decide +kernel
theorem ml_360 : m_mls.getD 360 0 = 3 := by decide +kernel
theorem ow_360 : m_own 360 = 12 := by decide +kernel
theorem hg_361 : m_hg 361 = 11 := by decide +kernel
theorem ml_361 : m_mls.getD 361 0 = 5 := by decide +kernel
theorem ow_361 : m_own 361 = 12 := by decide +kernel
theorem hg_362 : m_hg 362 = 12 := by decide +kernel
theorem ml_362 : m_mls.getD 362 0 = 2 := by decide +kernel
theorem ow_362 : m_own 362 = 12 := by decide +kernel
theorem hg_363 : m_hg 363 = 12 := by decide +kernel
theorem ml_363 : m_mls.getD 363 0 = 3 := by decide +kernel
theorem ow_363 : m_own 363 = 12 := by decide +kernel
theorem hg_364 : m_hg 364 = 13 := by decide +kernel
theorem ml_364 : m_mls.getD 364 0 = 3 := by decide +kernel
theorem ow_364 : m_own 364 = 12 := by decide +kernel
theorem hg_365 : m_hg 365 = 13 := by decide +kernel
theorem ml_365 : m_mls.getD 365 0 = 6 := by decide +kernel
theorem ow_365 : m_own 365 = 12 := by decide +kernel
theorem hg_366 : m_hg 366 = 12 := by decide +kernel
theorem ml_366 : m_mls.getD 366 0 = 2 := by decide +kernel
theorem ow_366 : m_own 366 = 12 := by decide +kernel
theorem hg_367 : m_hg 367 = 13 := by decide +kernel
theorem ml_367 : m_mls.getD 367 0 = 5 := by decide +kernel
theorem ow_367 : m_own 367 = 12 := by decide +kernel
theorem hg_368 : m_hg 368 = 12 := by decide +kernel
theorem ml_368 : m_mls.getD 368 0 = 4 := by decide +kernel
theorem ow_368 : m_own 368 = 12 := by decide +kernel
theorem hg_369 : m_hg 369 = 12 := by decide +kernel
theorem ml_369 : m_mls.getD 369 0 = 4 := by decide +kernel
theorem ow_369 : m_own 369 = 12 := by decide +kernel
theorem hg_370 : m_hg 370 = 13 := by decide +kernel
theorem ml_370 : m_mls.getD 370 0 = 4 := by decide +kernel
theorem ow_370 : m_own 370 = 12 := by decide +kernel
theorem hg_371 : m_hg 371 = 14 := by decide +kernel
theorem ml_371 : m_mls.getD 371 0 = 3 := by decide +kernel
theorem ow_371 : m_own 371 = 12 := by decide +kernel
theorem hg_372 : m_hg 372 = 13 := by decide +kernel
theorem ml_372 : m_mls.getD 372 0 = 4 := by decide +kernel
theorem ow_372 : m_own 372 = 12 := by decide +kernel
theorem hg_373 : m_hg 373 = 11 := by decide +kernel
theorem ml_373 : m_mls.getD 373 0 = 1 := by decide +kernel
theorem ow_373 : m_own 373 = 12 := by decide +kernel
theorem hg_374 : m_hg 374 = 11 := by decide +kernel
theorem ml_374 : m_mls.getD 374 0 = 2 := by decide +kernel
theorem ow_374 : m_own 374 = 12 := by decide +kernel
theorem hg_375 : m_hg 375 = 2 := by decide +kernel
theorem ml_375 : m_mls.getD 375 0 = 2 := by decide +kernel
theorem ow_375 : m_own 375 = 12 := by decide +kernel
theorem hg_376 : m_hg 376 = 0 := by decide +kernel
theorem ml_376 : m_mls.getD 376 0 = 2 := by decide +kernel
theorem ow_376 : m_own 376 = 12 := by decide +kernel
theorem hg_377 : m_hg 377 = 13 := by decide +kernel
theorem ml_377 : m_mls.getD 377 0 = 3 := by decide +kernel
theorem ow_377 : m_own 377 = 12 := by decide +kernel
theorem hg_378 : m_hg 378 = 13 := by decide +kernel
theorem ml_378 : m_mls.getD 378 0 = 4 := by decide +kernel
theorem ow_378 : m_own 378 = 12 := by decide +kernel
theorem hg_379 : m_hg 379 = 0 := by decide +kernel
theorem ml_379 : m_mls.getD 379 0 = 6 := by decide +kernel
theorem ow_379 : m_own 379 = 12 := by decide +kernel
theorem hg_380 : m_hg 380 = 13 := by decide +kernel
theorem ml_380 : m_mls.getD 380 0 = 3 := by decide +kernel
theorem ow_380 : m_own 380 = 12 := by decide +kernel
theorem hg_381 : m_hg 381 = 13 := by decide +kernel
theorem ml_381 : m_mls.getD 381 0 = 3 := by decide +kernel
theorem ow_381 : m_own 381 = 12 := by decide +kernel
theorem hg_382 : m_hg 382 = 13 := by decide +kernel
theorem ml_382 : m_mls.getD 382 0 = 4 := by decide +kernel
theorem ow_382 : m_own 382 = 12 := by decide +kernel
theorem hg_383 : m_hg 383 = 0 := by decide +kernel
theorem ml_383 : m_mls.getD 383 0 = 2 := by decide +kernel
theorem ow_383 : m_own 383 = 12 := by decide +kernel
theorem hg_384 : m_hg 384 = 14 := by decide +kernel
theorem ml_384 : m_mls.getD 384 0 = 2 := by decide +kernel
theorem ow_384 : m_own 384 = 12 := by decide +kernel
theorem hg_385 : m_hg 385 = 2 := by decide +kernel
theorem ml_385 : m_mls.getD 385 0 = 1 := by decide +kernel
theorem ow_385 : m_own 385 = 12 := by decide +kernel
theorem hg_386 : m_hg 386 = 14 := by decide +kernel
theorem ml_386 : m_mls.getD 386 0 = 2 := by decide +kernel
theorem ow_386 : m_own 386 = 12 := by decide +kernel
theorem hg_387 : m_hg 387 = 6 := by decide +kernel
theorem ml_387 : m_mls.getD 387 0 = 7 := by decide +kernel
theorem ow_387 : m_own 387 = 99 := by decide +kernel
theorem hg_388 : m_hg 388 = 6 := by decide +kernel
theorem ml_388 : m_mls.getD 388 0 = 6 := by decide +kernel
theorem ow_388 : m_own 388 = 99 := by decide +kernel
theorem hg_389 : m_hg 389 = 7 := by decide +kernel
theorem ml_389 : m_mls.getD 389 0 = 6 := by decide +kernel
theorem ow_389 : m_own 389 = 99 := by decide +kernel
theorem hg_390 : m_hg 390 = 6 := by decide +kernel
theorem ml_390 : m_mls.getD 390 0 = 5 := by decide +kernel
theorem ow_390 : m_own 390 = 99 := by decide +kernel
theorem hg_391 : m_hg 391 = 4 := by decide +kernel
theorem ml_391 : m_mls.getD 391 0 = 4 := by decide +kernel
theorem ow_391 : m_own 391 = 99 := by decide +kernel
theorem hg_392 : m_hg 392 = 8 := by decide +kernel
theorem ml_392 : m_mls.getD 392 0 = 4 := by decide +kernel
theorem ow_392 : m_own 392 = 99 := by decide +kernel
theorem hg_393 : m_hg 393 = 5 := by decide +kernel
theorem ml_393 : m_mls.getD 393 0 = 6 := by decide +kernel
theorem ow_393 : m_own 393 = 99 := by decide +kernel
theorem hg_394 : m_hg 394 = 4 := by decide +kernel
theorem ml_394 : m_mls.getD 394 0 = 5 := by decide +kernel
theorem ow_394 : m_own 394 = 99 := by decide +kernel
theorem hg_395 : m_hg 395 = 9 := by decide +kernel
theorem ml_395 : m_mls.getD 395 0 = 4 := by decide +kernel
theorem ow_395 : m_own 395 = 99 := by decide +kernel
theorem hg_396 : m_hg 396 = 9 := by decide +kernel
theorem ml_396 : m_mls.getD 396 0 = 5 := by decide +kernel
theorem ow_396 : m_own 396 = 99 := by decide +kernel
theorem hg_397 : m_hg 397 = 9 := by decide +kernel
theorem ml_397 : m_mls.getD 397 0 = 5 := by decide +kernel
theorem ow_397 : m_own 397 = 99 := by decide +kernel
theorem hg_398 : m_hg 398 = 9 := by decide +kernel
theorem ml_398 : m_mls.getD 398 0 = 6 := by decide +kernel
theorem ow_398 : m_own 398 = 99 := by decide +kernel
theorem hg_399 : m_hg 399 = 9 := by decide +kernel
theorem ml_399 : m_mls.getD 399 0 = 5 := by decide +kernel
theorem ow_399 : m_own 399 = 99 := by decide +kernel
theorem hg_400 : m_hg 400 = 9 := by decide +kernel
theorem ml_400 : m_mls.getD 400 0 = 5 := by decide +kernel
theorem ow_400 : m_own 400 = 99 := by decide +kernel
theorem hg_401 : m_hg 401 = 9 := by decide +kernel
theorem ml_401 : m_mls.getD 401 0 = 4 := by decide +kernel
theorem ow_401 : m_own 401 = 99 := by decide +kernel
theorem hg_402 : m_hg 402 = 9 := by decide +kernel
theorem ml_402 : m_mls.getD 402 0 = 5 := by decide +kernel
theorem ow_402 : m_own 402 = 99 := by decide +kernel
theorem hg_403 : m_hg 403 = 9 := by decide +kernel
theorem ml_403 : m_mls.getD 403 0 = 5 := by decide +kernel
theorem ow_403 : m_own 403 = 99 := by decide +kernel
theorem hg_404 : m_hg 404 = 9 := by decide +kernel
theorem ml_404 : m_mls.getD 404 0 = 4 := by decide +kernel
theorem ow_404 : m_own 404 = 99 := by decide +kernel
theorem hg_405 : m_hg 405 = 9 := by decide +kernel
theorem ml_405 : m_mls.getD 405 0 = 5 := by decide +kernel
theorem ow_405 : m_own 405 = 99 := by decide +kernel
theorem hg_406 : m_hg 406 = 9 := by decide +kernel
theorem ml_406 : m_mls.getD 406 0 = 4 := by decide +kernel
theorem ow_406 : m_own 406 = 99 := by decide +kernel
theorem hg_407 : m_hg 407 = 9 := by decide +kernel
theorem ml_407 : m_mls.getD 407 0 = 5 := by decide +kernel
theorem ow_407 : m_own 407 = 99 := by decide +kernel
theorem hg_408 : m_hg 408 = 9 := by decide +kernel
theorem ml_408 : m_mls.getD 408 0 = 5 := by decide +kernel
theorem ow_408 : m_own 408 = 99 := by decide +kernel
theorem hg_409 : m_hg 409 = 9 := by decide +kernel
theorem ml_409 : m_mls.getD 409 0 = 5 := by decide +kernel
theorem ow_409 : m_own 409 = 99 := by decide +kernel
theorem hg_410 : m_hg 410 = 9 := by decide +kernel
theorem ml_410 : m_mls.getD 410 0 = 5 := by decide +kernel
theorem ow_410 : m_own 410 = 99 := by decide +kernel
theorem hg_411 : m_hg 411 = 9 := by decide +kernel
theorem ml_411 : m_mls.getD 411 0 = 4 := by decide +kernel
theorem ow_411 : m_own 411 = 99 := by decide +kernel
theorem hg_412 : m_hg 412 = 3 := by decide +kernel
theorem ml_412 : m_mls.getD 412 0 = 4 := by decide +kernel
theorem ow_412 : m_own 412 = 99 := by decide +kernel
theorem hg_413 : m_hg 413 = 9 := by decide +kernel
theorem ml_413 : m_mls.getD 413 0 = 5 := by decide +kernel
theorem ow_413 : m_own 413 = 99 := by decide +kernel
theorem hg_414 : m_hg 414 = 9 := by decide +kernel
theorem ml_414 : m_mls.getD 414 0 = 6 := by decide +kernel
theorem ow_414 : m_own 414 = 99 := by decide +kernel
theorem hg_415 : m_hg 415 = 9 := by decide +kernel
theorem ml_415 : m_mls.getD 415 0 = 5 := by decide +kernel
theorem ow_415 : m_own 415 = 99 := by decide +kernel
theorem hg_416 : m_hg 416 = 9 := by decide +kernel
theorem ml_416 : m_mls.getD 416 0 = 5 := by decide +kernel
theorem ow_416 : m_own 416 = 99 := by decide +kernel
theorem hg_417 : m_hg 417 = 9 := by decide +kernel
theorem ml_417 : m_mls.getD 417 0 = 6 := by decide +kernel
theorem ow_417 : m_own 417 = 99 := by decide +kernel
theorem hg_418 : m_hg 418 = 9 := by decide +kernel
theorem ml_418 : m_mls.getD 418 0 = 3 := by decide +kernel
theorem ow_418 : m_own 418 = 99 := by decide +kernel
theorem hg_419 : m_hg 419 = 9 := by decide +kernel
theorem ml_419 : m_mls.getD 419 0 = 7 := by decide +kernel
theorem ow_419 : m_own 419 = 99 := by decide +kernel
theorem hg_420 : m_hg 420 = 15 := by decide +kernel
theorem ml_420 : m_mls.getD 420 0 = 8 := by decide +kernel
theorem ow_420 : m_own 420 = 99 := by decide +kernel
theorem hg_421 : m_hg 421 = 1 := by decide +kernel
theorem ml_421 : m_mls.getD 421 0 = 1 := by decide +kernel
theorem ow_421 : m_own 421 = 200 := by decide +kernel
theorem hg_422 : m_hg 422 = 5 := by decide +kernel
theorem ml_422 : m_mls.getD 422 0 = 2 := by decide +kernel
theorem ow_422 : m_own 422 = 200 := by decide +kernel
theorem hg_423 : m_hg 423 = 0 := by decide +kernel
theorem ml_423 : m_mls.getD 423 0 = 1 := by decide +kernel
theorem ow_423 : m_own 423 = 200 := by decide +kernel
theorem hg_424 : m_hg 424 = 0 := by decide +kernel
theorem ml_424 : m_mls.getD 424 0 = 1 := by decide +kernel
theorem ow_424 : m_own 424 = 200 := by decide +kernel
theorem hg_425 : m_hg 425 = 0 := by decide +kernel
theorem ml_425 : m_mls.getD 425 0 = 1 := by decide +kernel
theorem ow_425 : m_own 425 = 200 := by decide +kernel
theorem hg_426 : m_hg 426 = 0 := by decide +kernel
theorem ml_426 : m_mls.getD 426 0 = 1 := by decide +kernel
theorem ow_426 : m_own 426 = 200 := by decide +kernel
theorem hg_427 : m_hg 427 = 3 := by decide +kernel
theorem ml_427 : m_mls.getD 427 0 = 2 := by decide +kernel
theorem ow_427 : m_own 427 = 200 := by decide +kernel
theorem hg_428 : m_hg 428 = 4 := by decide +kernel
theorem ml_428 : m_mls.getD 428 0 = 2 := by decide +kernel
theorem ow_428 : m_own 428 = 99 := by decide +kernel
theorem hg_429 : m_hg 429 = 0 := by decide +kernel
theorem ml_429 : m_mls.getD 429 0 = 1 := by decide +kernel
theorem ow_429 : m_own 429 = 200 := by decide +kernel
theorem hg_430 : m_hg 430 = 0 := by decide +kernel
theorem ml_430 : m_mls.getD 430 0 = 1 := by decide +kernel
theorem ow_430 : m_own 430 = 200 := by decide +kernel
theorem hg_431 : m_hg 431 = 0 := by decide +kernel
theorem ml_431 : m_mls.getD 431 0 = 1 := by decide +kernel
theorem ow_431 : m_own 431 = 200 := by decide +kernel
theorem hg_432 : m_hg 432 = 2 := by decide +kernel
theorem ml_432 : m_mls.getD 432 0 = 3 := by decide +kernel
theorem ow_432 : m_own 432 = 99 := by decide +kernel
theorem hg_433 : m_hg 433 = 0 := by decide +kernel
theorem ml_433 : m_mls.getD 433 0 = 4 := by decide +kernel
theorem ow_433 : m_own 433 = 99 := by decide +kernel
theorem hg_434 : m_hg 434 = 3 := by decide +kernel
theorem ml_434 : m_mls.getD 434 0 = 5 := by decide +kernel
theorem ow_434 : m_own 434 = 99 := by decide +kernel
theorem hg_435 : m_hg 435 = 3 := by decide +kernel
theorem ml_435 : m_mls.getD 435 0 = 6 := by decide +kernel
theorem ow_435 : m_own 435 = 99 := by decide +kernel
theorem hg_436 : m_hg 436 = 2 := by decide +kernel
theorem ml_436 : m_mls.getD 436 0 = 3 := by decide +kernel
theorem ow_436 : m_own 436 = 99 := by decide +kernel
theorem hg_437 : m_hg 437 = 0 := by decide +kernel
theorem ml_437 : m_mls.getD 437 0 = 2 := by decide +kernel
theorem ow_437 : m_own 437 = 99 := by decide +kernel
theorem hg_438 : m_hg 438 = 0 := by decide +kernel
theorem ml_438 : m_mls.getD 438 0 = 2 := by decide +kernel
theorem ow_438 : m_own 438 = 99 := by decide +kernel
theorem m_cats_rev (xs : List MV) : m_cats xs.reverse = m_cats xs := by unfold m_cats; rw [List.map_reverse, List.sum_reverse]
theorem m_call_go {N n : Nat} {st xs r0 : List MV} (hst : st = xs.reverse ++ r0) (hn : n = xs.length) (h8 : Nat.ble (m_cats r0) 8 = true) {v : Nat} (hv : m_mls.getD N 0 = v) (hml : Nat.ble (m_cats xs) v = true) : m_call N n st = .error (1, N, xs, r0) := by
  have hl : xs.reverse.length = n := by rw [List.length_reverse, hn]
  have h1 : st.take n = xs.reverse := by rw [hst, ← hl, List.take_left]
  have h2 : st.drop n = r0 := by rw [hst, ← hl, List.drop_left]
  unfold m_call
  rw [h1, h2, m_cats_rev, List.reverse_reverse, hv, if_pos ⟨by rw [hst, List.length_append, hl]; omega, Nat.le_of_ble_eq_true h8, Nat.le_of_ble_eq_true hml⟩]
theorem m_recv_go {F : MF} {c s a n ci sz : Nat} {st xs r0 : List MV} (hst : st = (m_r a :: xs).reverse ++ r0) (hn : n = xs.length + 1) (hk : m_KD[a]? = some (ci, sz)) : m_recv (F, m_KD, c, s) ci n st = true := by
  unfold m_recv
  have h1 : st.drop (n - 1) = m_r a :: r0 := by
    rw [hst, List.reverse_cons, List.append_assoc, hn, Nat.add_sub_cancel, ← List.length_reverse, List.drop_left]
    rfl
  rw [h1]
  show ((m_kind (F, m_KD, c, s) ((a : Nat) : Int)).1 == ci) = true
  rw [m_kd hk]
  exact beq_self_eq_true ci
theorem m_recv_go5 {h : MH} {n : Nat} {x : Int} {st xs r0 : List MV} (hst : st = ((5, x) :: xs).reverse ++ r0) (hn : n = xs.length + 1) : m_recv h 200 n st = true := by
  unfold m_recv
  have h1 : st.drop (n - 1) = (5, x) :: r0 := by
    rw [hst, List.reverse_cons, List.append_assoc, hn, Nat.add_sub_cancel, ← List.length_reverse, List.drop_left]
    rfl
  rw [h1]
  rfl
theorem m_noT {N kc : Nat} {Q : Nat × List MV → MF → Prop} : ∀ (e : Nat) (F' : MF), St F' → m_no e F' → N < 387 ∧ (kc = 0 ∨ kc = 2) ∧ Q (e + 1, []) F' := fun _ _ _ h => h.elim
section M32
variable {M pc : Nat} {ls : ML} {st : List MV} {F : MF} {Q : Nat × List MV → MF → Prop} {r : List (Option (Instr × LK))} {z N n j kc a sz gN gM v : Nat}
theorem e_csI (xs r0 : List MV) (hst : st = xs.reverse ++ r0) (hn : n = xs.length) (h8 : Nat.ble (m_cats r0) 8 = true) (hv : m_mls.getD N 0 = v) (hml : Nat.ble (m_cats xs) v = true) (hM : (Nat.blt M 387 || Nat.blt 420 M) = true) (hN : (Nat.blt N 387 || Nat.blt 420 N) = true) (hgN : m_hg N = gN) (hgM : m_hg M = gM) (hg : Nat.blt gN gM = true) (hA : At M pc (some (.invokestatic z, (N, n, j, kc)) :: none :: none :: r)) (hkc : (kc == 0 || kc == 1 || kc == 7) = true) {R : Int → MF → Prop} {T : Nat → MF → Prop} (K0 : CaI N xs F R T) (KT : ∀ (e : Nat) (F1 : MF), St F1 → T e F1 → N < 387 ∧ (kc = 0 ∨ kc = 2) ∧ Q (e + 1, []) F1) (K : ∀ (r1 : Int) (F1 : MF), St F1 → R r1 F1 → Ev M (pc + 3) ls ((0, r1) :: r0) F1 Q) : Ev M pc ls st F Q := by
  have hgo : ∀ c s, mstep (.invokestatic z) (N, n, j, kc) pc ls st (F, m_KD, c, s) = .error (1, N, xs, r0) := fun c s => by
    simp only [Bool.or_eq_true, beq_iff_eq] at hkc
    show (if kc = 6 then _ else if kc = 0 ∨ kc = 1 ∨ kc = 7 then m_call N n st else m_ko) = _
    rw [if_neg (by omega), if_pos (by omega)]
    exact m_call_go hst hn h8 hv hml
  exact ev_call hA.hd hgo (by simp only [Bool.or_eq_true] at hM; rcases hM with h | h; exact Or.inl (Nat.blt_eq.mp h); exact Or.inr (Nat.blt_eq.mp h)) (by simp only [Bool.or_eq_true] at hN; rcases hN with h | h; exact Or.inl (Nat.blt_eq.mp h); exact Or.inr (Nat.blt_eq.mp h)) (by rw [hgN, hgM]; exact Nat.blt_eq.mp hg) (Ev.mono K0 (fun o F1 => by
    rintro ⟨hS, h | ⟨e, rfl, h⟩⟩
    · left
      obtain ⟨r1, rfl, h⟩ := h
      exact ⟨rfl, K r1 F1 hS h⟩
    · right
      obtain ⟨h1, h2, h3⟩ := KT e F1 hS h
      exact ⟨e, rfl, h1, h2, h3⟩))
theorem e_cvI (xs r0 : List MV) (hst : st = xs.reverse ++ r0) (hn : n = xs.length) (h8 : Nat.ble (m_cats r0) 8 = true) (hv : m_mls.getD N 0 = v) (hml : Nat.ble (m_cats xs) v = true) (hM : (Nat.blt M 387 || Nat.blt 420 M) = true) (hN : (Nat.blt N 387 || Nat.blt 420 N) = true) (hgN : m_hg N = gN) (hgM : m_hg M = gM) (hg : Nat.blt gN gM = true) (hA : At M pc (some (.invokevirtual z, (N, n, j, kc)) :: none :: none :: r)) (hkc : (kc == 2 || kc == 3) = true) (hrc : ∀ c s, m_recv (F, m_KD, c, s) (m_own N) n st = true) {R : Int → MF → Prop} {T : Nat → MF → Prop} (K0 : CaI N xs F R T) (KT : ∀ (e : Nat) (F1 : MF), St F1 → T e F1 → N < 387 ∧ (kc = 0 ∨ kc = 2) ∧ Q (e + 1, []) F1) (K : ∀ (r1 : Int) (F1 : MF), St F1 → R r1 F1 → Ev M (pc + 3) ls ((0, r1) :: r0) F1 Q) : Ev M pc ls st F Q := by
  have hgo : ∀ c s, mstep (.invokevirtual z) (N, n, j, kc) pc ls st (F, m_KD, c, s) = .error (1, N, xs, r0) := fun c s => by
    simp only [Bool.or_eq_true, beq_iff_eq] at hkc
    show (if kc = 2 ∨ kc = 3 then (if m_recv (F, m_KD, c, s) (m_own N) n st = true then m_call N n st else m_ko) else m_ko) = _
    rw [if_pos hkc, if_pos (hrc c s)]
    exact m_call_go hst hn h8 hv hml
  exact ev_call hA.hd hgo (by simp only [Bool.or_eq_true] at hM; rcases hM with h | h; exact Or.inl (Nat.blt_eq.mp h); exact Or.inr (Nat.blt_eq.mp h)) (by simp only [Bool.or_eq_true] at hN; rcases hN with h | h; exact Or.inl (Nat.blt_eq.mp h); exact Or.inr (Nat.blt_eq.mp h)) (by rw [hgN, hgM]; exact Nat.blt_eq.mp hg) (Ev.mono K0 (fun o F1 => by
    rintro ⟨hS, h | ⟨e, rfl, h⟩⟩
    · left
      obtain ⟨r1, rfl, h⟩ := h
      exact ⟨rfl, K r1 F1 hS h⟩
    · right
      obtain ⟨h1, h2, h3⟩ := KT e F1 hS h
      exact ⟨e, rfl, h1, h2, h3⟩))
theorem e_csL (xs r0 : List MV) (hst : st = xs.reverse ++ r0) (hn : n = xs.length) (h8 : Nat.ble (m_cats r0) 8 = true) (hv : m_mls.getD N 0 = v) (hml : Nat.ble (m_cats xs) v = true) (hM : (Nat.blt M 387 || Nat.blt 420 M) = true) (hN : (Nat.blt N 387 || Nat.blt 420 N) = true) (hgN : m_hg N = gN) (hgM : m_hg M = gM) (hg : Nat.blt gN gM = true) (hA : At M pc (some (.invokestatic z, (N, n, j, kc)) :: none :: none :: r)) (hkc : (kc == 0 || kc == 1 || kc == 7) = true) {R : Int → MF → Prop} {T : Nat → MF → Prop} (K0 : CaL N xs F R T) (KT : ∀ (e : Nat) (F1 : MF), St F1 → T e F1 → N < 387 ∧ (kc = 0 ∨ kc = 2) ∧ Q (e + 1, []) F1) (K : ∀ (r1 : Int) (F1 : MF), St F1 → R r1 F1 → Ev M (pc + 3) ls ((1, r1) :: r0) F1 Q) : Ev M pc ls st F Q := by
  have hgo : ∀ c s, mstep (.invokestatic z) (N, n, j, kc) pc ls st (F, m_KD, c, s) = .error (1, N, xs, r0) := fun c s => by
    simp only [Bool.or_eq_true, beq_iff_eq] at hkc
    show (if kc = 6 then _ else if kc = 0 ∨ kc = 1 ∨ kc = 7 then m_call N n st else m_ko) = _
    rw [if_neg (by omega), if_pos (by omega)]
    exact m_call_go hst hn h8 hv hml
  exact ev_call hA.hd hgo (by simp only [Bool.or_eq_true] at hM; rcases hM with h | h; exact Or.inl (Nat.blt_eq.mp h); exact Or.inr (Nat.blt_eq.mp h)) (by simp only [Bool.or_eq_true] at hN; rcases hN with h | h; exact Or.inl (Nat.blt_eq.mp h); exact Or.inr (Nat.blt_eq.mp h)) (by rw [hgN, hgM]; exact Nat.blt_eq.mp hg) (Ev.mono K0 (fun o F1 => by
    rintro ⟨hS, h | ⟨e, rfl, h⟩⟩
    · left
      obtain ⟨r1, rfl, h⟩ := h
      exact ⟨rfl, K r1 F1 hS h⟩
    · right
      obtain ⟨h1, h2, h3⟩ := KT e F1 hS h
      exact ⟨e, rfl, h1, h2, h3⟩))
theorem e_cvL (xs r0 : List MV) (hst : st = xs.reverse ++ r0) (hn : n = xs.length) (h8 : Nat.ble (m_cats r0) 8 = true) (hv : m_mls.getD N 0 = v) (hml : Nat.ble (m_cats xs) v = true) (hM : (Nat.blt M 387 || Nat.blt 420 M) = true) (hN : (Nat.blt N 387 || Nat.blt 420 N) = true) (hgN : m_hg N = gN) (hgM : m_hg M = gM) (hg : Nat.blt gN gM = true) (hA : At M pc (some (.invokevirtual z, (N, n, j, kc)) :: none :: none :: r)) (hkc : (kc == 2 || kc == 3) = true) (hrc : ∀ c s, m_recv (F, m_KD, c, s) (m_own N) n st = true) {R : Int → MF → Prop} {T : Nat → MF → Prop} (K0 : CaL N xs F R T) (KT : ∀ (e : Nat) (F1 : MF), St F1 → T e F1 → N < 387 ∧ (kc = 0 ∨ kc = 2) ∧ Q (e + 1, []) F1) (K : ∀ (r1 : Int) (F1 : MF), St F1 → R r1 F1 → Ev M (pc + 3) ls ((1, r1) :: r0) F1 Q) : Ev M pc ls st F Q := by
  have hgo : ∀ c s, mstep (.invokevirtual z) (N, n, j, kc) pc ls st (F, m_KD, c, s) = .error (1, N, xs, r0) := fun c s => by
    simp only [Bool.or_eq_true, beq_iff_eq] at hkc
    show (if kc = 2 ∨ kc = 3 then (if m_recv (F, m_KD, c, s) (m_own N) n st = true then m_call N n st else m_ko) else m_ko) = _
    rw [if_pos hkc, if_pos (hrc c s)]
    exact m_call_go hst hn h8 hv hml
  exact ev_call hA.hd hgo (by simp only [Bool.or_eq_true] at hM; rcases hM with h | h; exact Or.inl (Nat.blt_eq.mp h); exact Or.inr (Nat.blt_eq.mp h)) (by simp only [Bool.or_eq_true] at hN; rcases hN with h | h; exact Or.inl (Nat.blt_eq.mp h); exact Or.inr (Nat.blt_eq.mp h)) (by rw [hgN, hgM]; exact Nat.blt_eq.mp hg) (Ev.mono K0 (fun o F1 => by
    rintro ⟨hS, h | ⟨e, rfl, h⟩⟩
    · left
      obtain ⟨r1, rfl, h⟩ := h
      exact ⟨rfl, K r1 F1 hS h⟩
    · right
      obtain ⟨h1, h2, h3⟩ := KT e F1 hS h
      exact ⟨e, rfl, h1, h2, h3⟩))
theorem e_csS (xs r0 : List MV) (hst : st = xs.reverse ++ r0) (hn : n = xs.length) (h8 : Nat.ble (m_cats r0) 8 = true) (hv : m_mls.getD N 0 = v) (hml : Nat.ble (m_cats xs) v = true) (hM : (Nat.blt M 387 || Nat.blt 420 M) = true) (hN : (Nat.blt N 387 || Nat.blt 420 N) = true) (hgN : m_hg N = gN) (hgM : m_hg M = gM) (hg : Nat.blt gN gM = true) (hA : At M pc (some (.invokestatic z, (N, n, j, kc)) :: none :: none :: r)) (hkc : (kc == 0 || kc == 1 || kc == 7) = true) {R : Int → MF → Prop} {T : Nat → MF → Prop} (K0 : CaS N xs F R T) (KT : ∀ (e : Nat) (F1 : MF), St F1 → T e F1 → N < 387 ∧ (kc = 0 ∨ kc = 2) ∧ Q (e + 1, []) F1) (K : ∀ (r1 : Int) (F1 : MF), St F1 → R r1 F1 → Ev M (pc + 3) ls ((5, r1) :: r0) F1 Q) : Ev M pc ls st F Q := by
  have hgo : ∀ c s, mstep (.invokestatic z) (N, n, j, kc) pc ls st (F, m_KD, c, s) = .error (1, N, xs, r0) := fun c s => by
    simp only [Bool.or_eq_true, beq_iff_eq] at hkc
    show (if kc = 6 then _ else if kc = 0 ∨ kc = 1 ∨ kc = 7 then m_call N n st else m_ko) = _
    rw [if_neg (by omega), if_pos (by omega)]
    exact m_call_go hst hn h8 hv hml
  exact ev_call hA.hd hgo (by simp only [Bool.or_eq_true] at hM; rcases hM with h | h; exact Or.inl (Nat.blt_eq.mp h); exact Or.inr (Nat.blt_eq.mp h)) (by simp only [Bool.or_eq_true] at hN; rcases hN with h | h; exact Or.inl (Nat.blt_eq.mp h); exact Or.inr (Nat.blt_eq.mp h)) (by rw [hgN, hgM]; exact Nat.blt_eq.mp hg) (Ev.mono K0 (fun o F1 => by
    rintro ⟨hS, h | ⟨e, rfl, h⟩⟩
    · left
      obtain ⟨r1, rfl, h⟩ := h
      exact ⟨rfl, K r1 F1 hS h⟩
    · right
      obtain ⟨h1, h2, h3⟩ := KT e F1 hS h
      exact ⟨e, rfl, h1, h2, h3⟩))
theorem e_cvS (xs r0 : List MV) (hst : st = xs.reverse ++ r0) (hn : n = xs.length) (h8 : Nat.ble (m_cats r0) 8 = true) (hv : m_mls.getD N 0 = v) (hml : Nat.ble (m_cats xs) v = true) (hM : (Nat.blt M 387 || Nat.blt 420 M) = true) (hN : (Nat.blt N 387 || Nat.blt 420 N) = true) (hgN : m_hg N = gN) (hgM : m_hg M = gM) (hg : Nat.blt gN gM = true) (hA : At M pc (some (.invokevirtual z, (N, n, j, kc)) :: none :: none :: r)) (hkc : (kc == 2 || kc == 3) = true) (hrc : ∀ c s, m_recv (F, m_KD, c, s) (m_own N) n st = true) {R : Int → MF → Prop} {T : Nat → MF → Prop} (K0 : CaS N xs F R T) (KT : ∀ (e : Nat) (F1 : MF), St F1 → T e F1 → N < 387 ∧ (kc = 0 ∨ kc = 2) ∧ Q (e + 1, []) F1) (K : ∀ (r1 : Int) (F1 : MF), St F1 → R r1 F1 → Ev M (pc + 3) ls ((5, r1) :: r0) F1 Q) : Ev M pc ls st F Q := by
  have hgo : ∀ c s, mstep (.invokevirtual z) (N, n, j, kc) pc ls st (F, m_KD, c, s) = .error (1, N, xs, r0) := fun c s => by
    simp only [Bool.or_eq_true, beq_iff_eq] at hkc
    show (if kc = 2 ∨ kc = 3 then (if m_recv (F, m_KD, c, s) (m_own N) n st = true then m_call N n st else m_ko) else m_ko) = _
    rw [if_pos hkc, if_pos (hrc c s)]
    exact m_call_go hst hn h8 hv hml
  exact ev_call hA.hd hgo (by simp only [Bool.or_eq_true] at hM; rcases hM with h | h; exact Or.inl (Nat.blt_eq.mp h); exact Or.inr (Nat.blt_eq.mp h)) (by simp only [Bool.or_eq_true] at hN; rcases hN with h | h; exact Or.inl (Nat.blt_eq.mp h); exact Or.inr (Nat.blt_eq.mp h)) (by rw [hgN, hgM]; exact Nat.blt_eq.mp hg) (Ev.mono K0 (fun o F1 => by
    rintro ⟨hS, h | ⟨e, rfl, h⟩⟩
    · left
      obtain ⟨r1, rfl, h⟩ := h
      exact ⟨rfl, K r1 F1 hS h⟩
    · right
      obtain ⟨h1, h2, h3⟩ := KT e F1 hS h
      exact ⟨e, rfl, h1, h2, h3⟩))
theorem e_csR (xs r0 : List MV) (hst : st = xs.reverse ++ r0) (hn : n = xs.length) (h8 : Nat.ble (m_cats r0) 8 = true) (hv : m_mls.getD N 0 = v) (hml : Nat.ble (m_cats xs) v = true) (hM : (Nat.blt M 387 || Nat.blt 420 M) = true) (hN : (Nat.blt N 387 || Nat.blt 420 N) = true) (hgN : m_hg N = gN) (hgM : m_hg M = gM) (hg : Nat.blt gN gM = true) (hA : At M pc (some (.invokestatic z, (N, n, j, kc)) :: none :: none :: r)) (hkc : (kc == 0 || kc == 1 || kc == 7) = true) {R : Nat → MF → Prop} {T : Nat → MF → Prop} (K0 : CaR N xs F R T) (KT : ∀ (e : Nat) (F1 : MF), St F1 → T e F1 → N < 387 ∧ (kc = 0 ∨ kc = 2) ∧ Q (e + 1, []) F1) (K : ∀ (r1 : Nat) (F1 : MF), St F1 → R r1 F1 → Ev M (pc + 3) ls (m_r r1 :: r0) F1 Q) : Ev M pc ls st F Q := by
  have hgo : ∀ c s, mstep (.invokestatic z) (N, n, j, kc) pc ls st (F, m_KD, c, s) = .error (1, N, xs, r0) := fun c s => by
    simp only [Bool.or_eq_true, beq_iff_eq] at hkc
    show (if kc = 6 then _ else if kc = 0 ∨ kc = 1 ∨ kc = 7 then m_call N n st else m_ko) = _
    rw [if_neg (by omega), if_pos (by omega)]
    exact m_call_go hst hn h8 hv hml
  exact ev_call hA.hd hgo (by simp only [Bool.or_eq_true] at hM; rcases hM with h | h; exact Or.inl (Nat.blt_eq.mp h); exact Or.inr (Nat.blt_eq.mp h)) (by simp only [Bool.or_eq_true] at hN; rcases hN with h | h; exact Or.inl (Nat.blt_eq.mp h); exact Or.inr (Nat.blt_eq.mp h)) (by rw [hgN, hgM]; exact Nat.blt_eq.mp hg) (Ev.mono K0 (fun o F1 => by
    rintro ⟨hS, h | ⟨e, rfl, h⟩⟩
    · left
      obtain ⟨r1, rfl, h⟩ := h
      exact ⟨rfl, K r1 F1 hS h⟩
    · right
      obtain ⟨h1, h2, h3⟩ := KT e F1 hS h
      exact ⟨e, rfl, h1, h2, h3⟩))
theorem e_cvR (xs r0 : List MV) (hst : st = xs.reverse ++ r0) (hn : n = xs.length) (h8 : Nat.ble (m_cats r0) 8 = true) (hv : m_mls.getD N 0 = v) (hml : Nat.ble (m_cats xs) v = true) (hM : (Nat.blt M 387 || Nat.blt 420 M) = true) (hN : (Nat.blt N 387 || Nat.blt 420 N) = true) (hgN : m_hg N = gN) (hgM : m_hg M = gM) (hg : Nat.blt gN gM = true) (hA : At M pc (some (.invokevirtual z, (N, n, j, kc)) :: none :: none :: r)) (hkc : (kc == 2 || kc == 3) = true) (hrc : ∀ c s, m_recv (F, m_KD, c, s) (m_own N) n st = true) {R : Nat → MF → Prop} {T : Nat → MF → Prop} (K0 : CaR N xs F R T) (KT : ∀ (e : Nat) (F1 : MF), St F1 → T e F1 → N < 387 ∧ (kc = 0 ∨ kc = 2) ∧ Q (e + 1, []) F1) (K : ∀ (r1 : Nat) (F1 : MF), St F1 → R r1 F1 → Ev M (pc + 3) ls (m_r r1 :: r0) F1 Q) : Ev M pc ls st F Q := by
  have hgo : ∀ c s, mstep (.invokevirtual z) (N, n, j, kc) pc ls st (F, m_KD, c, s) = .error (1, N, xs, r0) := fun c s => by
    simp only [Bool.or_eq_true, beq_iff_eq] at hkc
    show (if kc = 2 ∨ kc = 3 then (if m_recv (F, m_KD, c, s) (m_own N) n st = true then m_call N n st else m_ko) else m_ko) = _
    rw [if_pos hkc, if_pos (hrc c s)]
    exact m_call_go hst hn h8 hv hml
  exact ev_call hA.hd hgo (by simp only [Bool.or_eq_true] at hM; rcases hM with h | h; exact Or.inl (Nat.blt_eq.mp h); exact Or.inr (Nat.blt_eq.mp h)) (by simp only [Bool.or_eq_true] at hN; rcases hN with h | h; exact Or.inl (Nat.blt_eq.mp h); exact Or.inr (Nat.blt_eq.mp h)) (by rw [hgN, hgM]; exact Nat.blt_eq.mp hg) (Ev.mono K0 (fun o F1 => by
    rintro ⟨hS, h | ⟨e, rfl, h⟩⟩
    · left
      obtain ⟨r1, rfl, h⟩ := h
      exact ⟨rfl, K r1 F1 hS h⟩
    · right
      obtain ⟨h1, h2, h3⟩ := KT e F1 hS h
      exact ⟨e, rfl, h1, h2, h3⟩))
theorem e_csV (xs r0 : List MV) (hst : st = xs.reverse ++ r0) (hn : n = xs.length) (h8 : Nat.ble (m_cats r0) 8 = true) (hv : m_mls.getD N 0 = v) (hml : Nat.ble (m_cats xs) v = true) (hM : (Nat.blt M 387 || Nat.blt 420 M) = true) (hN : (Nat.blt N 387 || Nat.blt 420 N) = true) (hgN : m_hg N = gN) (hgM : m_hg M = gM) (hg : Nat.blt gN gM = true) (hA : At M pc (some (.invokestatic z, (N, n, j, kc)) :: none :: none :: r)) (hkc : (kc == 0 || kc == 1 || kc == 7) = true) {R : MF → Prop} {T : Nat → MF → Prop} (K0 : CaV N xs F R T) (KT : ∀ (e : Nat) (F1 : MF), St F1 → T e F1 → N < 387 ∧ (kc = 0 ∨ kc = 2) ∧ Q (e + 1, []) F1) (K : ∀ (F1 : MF), St F1 → R F1 → Ev M (pc + 3) ls (r0) F1 Q) : Ev M pc ls st F Q := by
  have hgo : ∀ c s, mstep (.invokestatic z) (N, n, j, kc) pc ls st (F, m_KD, c, s) = .error (1, N, xs, r0) := fun c s => by
    simp only [Bool.or_eq_true, beq_iff_eq] at hkc
    show (if kc = 6 then _ else if kc = 0 ∨ kc = 1 ∨ kc = 7 then m_call N n st else m_ko) = _
    rw [if_neg (by omega), if_pos (by omega)]
    exact m_call_go hst hn h8 hv hml
  exact ev_call hA.hd hgo (by simp only [Bool.or_eq_true] at hM; rcases hM with h | h; exact Or.inl (Nat.blt_eq.mp h); exact Or.inr (Nat.blt_eq.mp h)) (by simp only [Bool.or_eq_true] at hN; rcases hN with h | h; exact Or.inl (Nat.blt_eq.mp h); exact Or.inr (Nat.blt_eq.mp h)) (by rw [hgN, hgM]; exact Nat.blt_eq.mp hg) (Ev.mono K0 (fun o F1 => by
    rintro ⟨hS, h | ⟨e, rfl, h⟩⟩
    · left
      obtain ⟨rfl, h⟩ := h
      exact ⟨rfl, K F1 hS h⟩
    · right
      obtain ⟨h1, h2, h3⟩ := KT e F1 hS h
      exact ⟨e, rfl, h1, h2, h3⟩))
theorem e_cvV (xs r0 : List MV) (hst : st = xs.reverse ++ r0) (hn : n = xs.length) (h8 : Nat.ble (m_cats r0) 8 = true) (hv : m_mls.getD N 0 = v) (hml : Nat.ble (m_cats xs) v = true) (hM : (Nat.blt M 387 || Nat.blt 420 M) = true) (hN : (Nat.blt N 387 || Nat.blt 420 N) = true) (hgN : m_hg N = gN) (hgM : m_hg M = gM) (hg : Nat.blt gN gM = true) (hA : At M pc (some (.invokevirtual z, (N, n, j, kc)) :: none :: none :: r)) (hkc : (kc == 2 || kc == 3) = true) (hrc : ∀ c s, m_recv (F, m_KD, c, s) (m_own N) n st = true) {R : MF → Prop} {T : Nat → MF → Prop} (K0 : CaV N xs F R T) (KT : ∀ (e : Nat) (F1 : MF), St F1 → T e F1 → N < 387 ∧ (kc = 0 ∨ kc = 2) ∧ Q (e + 1, []) F1) (K : ∀ (F1 : MF), St F1 → R F1 → Ev M (pc + 3) ls (r0) F1 Q) : Ev M pc ls st F Q := by
  have hgo : ∀ c s, mstep (.invokevirtual z) (N, n, j, kc) pc ls st (F, m_KD, c, s) = .error (1, N, xs, r0) := fun c s => by
    simp only [Bool.or_eq_true, beq_iff_eq] at hkc
    show (if kc = 2 ∨ kc = 3 then (if m_recv (F, m_KD, c, s) (m_own N) n st = true then m_call N n st else m_ko) else m_ko) = _
    rw [if_pos hkc, if_pos (hrc c s)]
    exact m_call_go hst hn h8 hv hml
  exact ev_call hA.hd hgo (by simp only [Bool.or_eq_true] at hM; rcases hM with h | h; exact Or.inl (Nat.blt_eq.mp h); exact Or.inr (Nat.blt_eq.mp h)) (by simp only [Bool.or_eq_true] at hN; rcases hN with h | h; exact Or.inl (Nat.blt_eq.mp h); exact Or.inr (Nat.blt_eq.mp h)) (by rw [hgN, hgM]; exact Nat.blt_eq.mp hg) (Ev.mono K0 (fun o F1 => by
    rintro ⟨hS, h | ⟨e, rfl, h⟩⟩
    · left
      obtain ⟨rfl, h⟩ := h
      exact ⟨rfl, K F1 hS h⟩
    · right
      obtain ⟨h1, h2, h3⟩ := KT e F1 hS h
      exact ⟨e, rfl, h1, h2, h3⟩))
/-- the rows and trees of a desk -/
theorem e_rows {i : Int} {q : LK} (hA : At M pc (some (.aaload, q) :: r)) (hS : St F) (hn : n ∈ m_I1) (hi : 0 ≤ i ∧ i < 3) (K : ∀ b : Nat, b ∈ m_I8 → b = n + (11 + 19 * i.toNat) → At M (pc + 1) r → Ev M (pc + 1) ls (m_r b :: st) F Q) : Ev M pc ls ((0, i) :: m_r (n + 5) :: st) F Q :=
  e_aaload (n + (11 + 19 * i.toNat)) hA (ka_1_1 hn) (by decide) hi (sr_rows hS hn hi) (K _ (io_rows hn hi) rfl)
theorem e_trees {i : Int} {q : LK} (hA : At M pc (some (.aaload, q) :: r)) (hS : St F) (hn : n ∈ m_I1) (hi : 0 ≤ i ∧ i < 3) (K : ∀ b : Nat, b ∈ m_I9 → b = n + (20 + 19 * i.toNat) → At M (pc + 1) r → Ev M (pc + 1) ls (m_r b :: st) F Q) : Ev M pc ls ((0, i) :: m_r (n + 6) :: st) F Q :=
  e_aaload (n + (20 + 19 * i.toNat)) hA (ka_1_2 hn) (by decide) hi (sr_trees hS hn hi) (K _ (io_trees hn hi) rfl)
theorem e_gets5 (hA : At M pc (some (.getfield z, (100, 0, j, kc)) :: none :: none :: r)) (K : At M (pc + 3) r → Ev M (pc + 3) ls ((4, ((n + 5 : Nat) : Int)) :: st) F Q) : Ev M pc ls ((5, ((n : Nat) : Int)) :: st) F Q := ev_ok hA.hd (fun c s => rfl) (K hA.tl3)
theorem m_bF {P : Prop} [Decidable P] (h : (if P then (1 : Int) else 0) = 0) : ¬ P := fun hp => by rw [if_pos hp] at h; cases h
theorem m_bT {P : Prop} [Decidable P] (h : ¬ (if P then (1 : Int) else 0) = 0) : P := Decidable.of_not_not (fun hp => h (if_neg hp))
end M32

/-! CALLS -/
theorem hg_0 : m_hg 0 = 1 := by decide +kernel
theorem ml_0 : m_mls.getD 0 0 = 1 := by decide +kernel
theorem ow_0 : m_own 0 = 0 := by decide +kernel
theorem hg_10 : m_hg 10 = 1 := by decide +kernel
theorem ml_10 : m_mls.getD 10 0 = 2 := by decide +kernel
theorem ow_10 : m_own 10 = 1 := by decide +kernel
theorem hg_11 : m_hg 11 = 6 := by decide +kernel
theorem ml_11 : m_mls.getD 11 0 = 2 := by decide +kernel
theorem ow_11 : m_own 11 = 1 := by decide +kernel
theorem hg_12 : m_hg 12 = 4 := by decide +kernel
theorem ml_12 : m_mls.getD 12 0 = 9 := by decide +kernel
theorem ow_12 : m_own 12 = 1 := by decide +kernel
theorem hg_13 : m_hg 13 = 0 := by decide +kernel
theorem ml_13 : m_mls.getD 13 0 = 5 := by decide +kernel
theorem ow_13 : m_own 13 = 1 := by decide +kernel
theorem hg_14 : m_hg 14 = 3 := by decide +kernel
theorem ml_14 : m_mls.getD 14 0 = 6 := by decide +kernel
theorem ow_14 : m_own 14 = 1 := by decide +kernel
theorem hg_15 : m_hg 15 = 2 := by decide +kernel
theorem ml_15 : m_mls.getD 15 0 = 6 := by decide +kernel
theorem ow_15 : m_own 15 = 1 := by decide +kernel
theorem hg_16 : m_hg 16 = 1 := by decide +kernel
theorem ml_16 : m_mls.getD 16 0 = 5 := by decide +kernel
theorem ow_16 : m_own 16 = 1 := by decide +kernel
theorem hg_17 : m_hg 17 = 1 := by decide +kernel
theorem ml_17 : m_mls.getD 17 0 = 10 := by decide +kernel
theorem ow_17 : m_own 17 = 1 := by decide +kernel
theorem hg_18 : m_hg 18 = 1 := by decide +kernel
theorem ml_18 : m_mls.getD 18 0 = 2 := by decide +kernel
theorem ow_18 : m_own 18 = 1 := by decide +kernel
theorem hg_19 : m_hg 19 = 2 := by decide +kernel
theorem ml_19 : m_mls.getD 19 0 = 3 := by decide +kernel
theorem ow_19 : m_own 19 = 1 := by decide +kernel
theorem hg_20 : m_hg 20 = 0 := by decide +kernel
theorem ml_20 : m_mls.getD 20 0 = 1 := by decide +kernel
theorem ow_20 : m_own 20 = 2 := by decide +kernel
theorem hg_21 : m_hg 21 = 0 := by decide +kernel
theorem ml_21 : m_mls.getD 21 0 = 2 := by decide +kernel
theorem ow_21 : m_own 21 = 2 := by decide +kernel
theorem hg_22 : m_hg 22 = 0 := by decide +kernel
theorem ml_22 : m_mls.getD 22 0 = 3 := by decide +kernel
theorem ow_22 : m_own 22 = 2 := by decide +kernel
theorem hg_23 : m_hg 23 = 1 := by decide +kernel
theorem ml_23 : m_mls.getD 23 0 = 6 := by decide +kernel
theorem ow_23 : m_own 23 = 2 := by decide +kernel
theorem hg_24 : m_hg 24 = 1 := by decide +kernel
theorem ml_24 : m_mls.getD 24 0 = 6 := by decide +kernel
theorem ow_24 : m_own 24 = 2 := by decide +kernel
theorem hg_25 : m_hg 25 = 0 := by decide +kernel
theorem ml_25 : m_mls.getD 25 0 = 2 := by decide +kernel
theorem ow_25 : m_own 25 = 2 := by decide +kernel
theorem hg_27 : m_hg 27 = 0 := by decide +kernel
theorem ml_27 : m_mls.getD 27 0 = 4 := by decide +kernel
theorem ow_27 : m_own 27 = 2 := by decide +kernel
theorem hg_28 : m_hg 28 = 0 := by decide +kernel
theorem ml_28 : m_mls.getD 28 0 = 2 := by decide +kernel
theorem ow_28 : m_own 28 = 2 := by decide +kernel
theorem hg_29 : m_hg 29 = 1 := by decide +kernel
theorem ml_29 : m_mls.getD 29 0 = 5 := by decide +kernel
theorem ow_29 : m_own 29 = 2 := by decide +kernel
theorem hg_33 : m_hg 33 = 2 := by decide +kernel
theorem ml_33 : m_mls.getD 33 0 = 1 := by decide +kernel
theorem ow_33 : m_own 33 = 3 := by decide +kernel
theorem hg_34 : m_hg 34 = 0 := by decide +kernel
theorem ml_34 : m_mls.getD 34 0 = 1 := by decide +kernel
theorem ow_34 : m_own 34 = 3 := by decide +kernel
theorem hg_57 : m_hg 57 = 0 := by decide +kernel
theorem ml_57 : m_mls.getD 57 0 = 2 := by decide +kernel
theorem ow_57 : m_own 57 = 4 := by decide +kernel
theorem hg_58 : m_hg 58 = 4 := by decide +kernel
theorem ml_58 : m_mls.getD 58 0 = 5 := by decide +kernel
theorem ow_58 : m_own 58 = 4 := by decide +kernel
theorem hg_59 : m_hg 59 = 0 := by decide +kernel
theorem ml_59 : m_mls.getD 59 0 = 2 := by decide +kernel
theorem ow_59 : m_own 59 = 4 := by decide +kernel
theorem hg_60 : m_hg 60 = 1 := by decide +kernel
theorem ml_60 : m_mls.getD 60 0 = 2 := by decide +kernel
theorem ow_60 : m_own 60 = 4 := by decide +kernel
theorem hg_61 : m_hg 61 = 0 := by decide +kernel
theorem ml_61 : m_mls.getD 61 0 = 1 := by decide +kernel
theorem ow_61 : m_own 61 = 4 := by decide +kernel
theorem hg_62 : m_hg 62 = 3 := by decide +kernel
theorem ml_62 : m_mls.getD 62 0 = 4 := by decide +kernel
theorem ow_62 : m_own 62 = 4 := by decide +kernel
theorem hg_63 : m_hg 63 = 2 := by decide +kernel
theorem ml_63 : m_mls.getD 63 0 = 2 := by decide +kernel
theorem ow_63 : m_own 63 = 4 := by decide +kernel
theorem hg_64 : m_hg 64 = 2 := by decide +kernel
theorem ml_64 : m_mls.getD 64 0 = 5 := by decide +kernel
theorem ow_64 : m_own 64 = 4 := by decide +kernel
theorem hg_65 : m_hg 65 = 1 := by decide +kernel
theorem ml_65 : m_mls.getD 65 0 = 3 := by decide +kernel
theorem ow_65 : m_own 65 = 4 := by decide +kernel
theorem hg_66 : m_hg 66 = 2 := by decide +kernel
theorem ml_66 : m_mls.getD 66 0 = 6 := by decide +kernel
theorem ow_66 : m_own 66 = 4 := by decide +kernel
theorem hg_67 : m_hg 67 = 1 := by decide +kernel
theorem ml_67 : m_mls.getD 67 0 = 4 := by decide +kernel
theorem ow_67 : m_own 67 = 4 := by decide +kernel
theorem hg_68 : m_hg 68 = 3 := by decide +kernel
theorem ml_68 : m_mls.getD 68 0 = 7 := by decide +kernel
theorem ow_68 : m_own 68 = 4 := by decide +kernel
theorem hg_69 : m_hg 69 = 2 := by decide +kernel
theorem ml_69 : m_mls.getD 69 0 = 4 := by decide +kernel
theorem ow_69 : m_own 69 = 4 := by decide +kernel
theorem hg_70 : m_hg 70 = 0 := by decide +kernel
theorem ml_70 : m_mls.getD 70 0 = 3 := by decide +kernel
theorem ow_70 : m_own 70 = 4 := by decide +kernel
theorem hg_71 : m_hg 71 = 1 := by decide +kernel
theorem ml_71 : m_mls.getD 71 0 = 3 := by decide +kernel
theorem ow_71 : m_own 71 = 4 := by decide +kernel
theorem hg_72 : m_hg 72 = 1 := by decide +kernel
theorem ml_72 : m_mls.getD 72 0 = 4 := by decide +kernel
theorem ow_72 : m_own 72 = 4 := by decide +kernel
theorem hg_73 : m_hg 73 = 0 := by decide +kernel
theorem ml_73 : m_mls.getD 73 0 = 3 := by decide +kernel
theorem ow_73 : m_own 73 = 4 := by decide +kernel
theorem hg_74 : m_hg 74 = 0 := by decide +kernel
theorem ml_74 : m_mls.getD 74 0 = 1 := by decide +kernel
theorem ow_74 : m_own 74 = 5 := by decide +kernel
theorem hg_80 : m_hg 80 = 0 := by decide +kernel
theorem ml_80 : m_mls.getD 80 0 = 1 := by decide +kernel
theorem ow_80 : m_own 80 = 6 := by decide +kernel
theorem hg_81 : m_hg 81 = 7 := by decide +kernel
theorem ml_81 : m_mls.getD 81 0 = 10 := by decide +kernel
theorem ow_81 : m_own 81 = 6 := by decide +kernel
theorem hg_82 : m_hg 82 = 0 := by decide +kernel
theorem ml_82 : m_mls.getD 82 0 = 3 := by decide +kernel
theorem ow_82 : m_own 82 = 6 := by decide +kernel
theorem hg_83 : m_hg 83 = 0 := by decide +kernel
theorem ml_83 : m_mls.getD 83 0 = 1 := by decide +kernel
theorem ow_83 : m_own 83 = 6 := by decide +kernel
theorem hg_84 : m_hg 84 = 4 := by decide +kernel
theorem ml_84 : m_mls.getD 84 0 = 9 := by decide +kernel
theorem ow_84 : m_own 84 = 6 := by decide +kernel
theorem hg_85 : m_hg 85 = 1 := by decide +kernel
theorem ml_85 : m_mls.getD 85 0 = 3 := by decide +kernel
theorem ow_85 : m_own 85 = 6 := by decide +kernel
theorem hg_86 : m_hg 86 = 2 := by decide +kernel
theorem ml_86 : m_mls.getD 86 0 = 4 := by decide +kernel
theorem ow_86 : m_own 86 = 6 := by decide +kernel
theorem hg_87 : m_hg 87 = 6 := by decide +kernel
theorem ml_87 : m_mls.getD 87 0 = 8 := by decide +kernel
theorem ow_87 : m_own 87 = 6 := by decide +kernel
theorem hg_88 : m_hg 88 = 0 := by decide +kernel
theorem ml_88 : m_mls.getD 88 0 = 5 := by decide +kernel
theorem ow_88 : m_own 88 = 6 := by decide +kernel
theorem hg_89 : m_hg 89 = 1 := by decide +kernel
theorem ml_89 : m_mls.getD 89 0 = 8 := by decide +kernel
theorem ow_89 : m_own 89 = 6 := by decide +kernel
theorem hg_90 : m_hg 90 = 0 := by decide +kernel
theorem ml_90 : m_mls.getD 90 0 = 2 := by decide +kernel
theorem ow_90 : m_own 90 = 6 := by decide +kernel
theorem hg_91 : m_hg 91 = 1 := by decide +kernel
theorem ml_91 : m_mls.getD 91 0 = 2 := by decide +kernel
theorem ow_91 : m_own 91 = 6 := by decide +kernel
theorem hg_92 : m_hg 92 = 1 := by decide +kernel
theorem ml_92 : m_mls.getD 92 0 = 4 := by decide +kernel
theorem ow_92 : m_own 92 = 6 := by decide +kernel
theorem hg_93 : m_hg 93 = 5 := by decide +kernel
theorem ml_93 : m_mls.getD 93 0 = 4 := by decide +kernel
theorem ow_93 : m_own 93 = 6 := by decide +kernel
theorem hg_99 : m_hg 99 = 0 := by decide +kernel
theorem ml_99 : m_mls.getD 99 0 = 1 := by decide +kernel
theorem ow_99 : m_own 99 = 7 := by decide +kernel
theorem hg_100 : m_hg 100 = 0 := by decide +kernel
theorem ml_100 : m_mls.getD 100 0 = 1 := by decide +kernel
theorem ow_100 : m_own 100 = 7 := by decide +kernel
theorem hg_101 : m_hg 101 = 1 := by decide +kernel
theorem ml_101 : m_mls.getD 101 0 = 3 := by decide +kernel
theorem ow_101 : m_own 101 = 7 := by decide +kernel
theorem hg_102 : m_hg 102 = 2 := by decide +kernel
theorem ml_102 : m_mls.getD 102 0 = 7 := by decide +kernel
theorem ow_102 : m_own 102 = 7 := by decide +kernel
theorem hg_103 : m_hg 103 = 0 := by decide +kernel
theorem ml_103 : m_mls.getD 103 0 = 1 := by decide +kernel
theorem ow_103 : m_own 103 = 8 := by decide +kernel
theorem hg_104 : m_hg 104 = 0 := by decide +kernel
theorem ml_104 : m_mls.getD 104 0 = 2 := by decide +kernel
theorem ow_104 : m_own 104 = 8 := by decide +kernel
theorem hg_106 : m_hg 106 = 0 := by decide +kernel
theorem ml_106 : m_mls.getD 106 0 = 2 := by decide +kernel
theorem ow_106 : m_own 106 = 8 := by decide +kernel
theorem hg_107 : m_hg 107 = 0 := by decide +kernel
theorem ml_107 : m_mls.getD 107 0 = 4 := by decide +kernel
theorem ow_107 : m_own 107 = 8 := by decide +kernel
theorem hg_108 : m_hg 108 = 0 := by decide +kernel
theorem ml_108 : m_mls.getD 108 0 = 2 := by decide +kernel
theorem ow_108 : m_own 108 = 8 := by decide +kernel
theorem hg_109 : m_hg 109 = 3 := by decide +kernel
theorem ml_109 : m_mls.getD 109 0 = 8 := by decide +kernel
theorem ow_109 : m_own 109 = 8 := by decide +kernel
theorem hg_110 : m_hg 110 = 2 := by decide +kernel
theorem ml_110 : m_mls.getD 110 0 = 6 := by decide +kernel
theorem ow_110 : m_own 110 = 8 := by decide +kernel
theorem hg_111 : m_hg 111 = 1 := by decide +kernel
theorem ml_111 : m_mls.getD 111 0 = 6 := by decide +kernel
theorem ow_111 : m_own 111 = 8 := by decide +kernel
theorem hg_112 : m_hg 112 = 5 := by decide +kernel
theorem ml_112 : m_mls.getD 112 0 = 5 := by decide +kernel
theorem ow_112 : m_own 112 = 8 := by decide +kernel
theorem hg_113 : m_hg 113 = 4 := by decide +kernel
theorem ml_113 : m_mls.getD 113 0 = 12 := by decide +kernel
theorem ow_113 : m_own 113 = 8 := by decide +kernel
theorem hg_114 : m_hg 114 = 0 := by decide +kernel
theorem ml_114 : m_mls.getD 114 0 = 5 := by decide +kernel
theorem ow_114 : m_own 114 = 8 := by decide +kernel
theorem hg_115 : m_hg 115 = 1 := by decide +kernel
theorem ml_115 : m_mls.getD 115 0 = 7 := by decide +kernel
theorem ow_115 : m_own 115 = 8 := by decide +kernel
theorem hg_116 : m_hg 116 = 1 := by decide +kernel
theorem ml_116 : m_mls.getD 116 0 = 5 := by decide +kernel
theorem ow_116 : m_own 116 = 8 := by decide +kernel
theorem hg_117 : m_hg 117 = 0 := by decide +kernel
theorem ml_117 : m_mls.getD 117 0 = 4 := by decide +kernel
theorem ow_117 : m_own 117 = 8 := by decide +kernel
theorem hg_119 : m_hg 119 = 0 := by decide +kernel
theorem ml_119 : m_mls.getD 119 0 = 1 := by decide +kernel
theorem ow_119 : m_own 119 = 9 := by decide +kernel
theorem hg_120 : m_hg 120 = 0 := by decide +kernel
theorem ml_120 : m_mls.getD 120 0 = 1 := by decide +kernel
theorem ow_120 : m_own 120 = 9 := by decide +kernel
theorem hg_121 : m_hg 121 = 0 := by decide +kernel
theorem ml_121 : m_mls.getD 121 0 = 4 := by decide +kernel
theorem ow_121 : m_own 121 = 9 := by decide +kernel
theorem hg_122 : m_hg 122 = 0 := by decide +kernel
theorem ml_122 : m_mls.getD 122 0 = 3 := by decide +kernel
theorem ow_122 : m_own 122 = 9 := by decide +kernel
theorem hg_123 : m_hg 123 = 0 := by decide +kernel
theorem ml_123 : m_mls.getD 123 0 = 4 := by decide +kernel
theorem ow_123 : m_own 123 = 9 := by decide +kernel
theorem hg_125 : m_hg 125 = 0 := by decide +kernel
theorem ml_125 : m_mls.getD 125 0 = 3 := by decide +kernel
theorem ow_125 : m_own 125 = 9 := by decide +kernel
theorem hg_126 : m_hg 126 = 0 := by decide +kernel
theorem ml_126 : m_mls.getD 126 0 = 2 := by decide +kernel
theorem ow_126 : m_own 126 = 9 := by decide +kernel
theorem hg_127 : m_hg 127 = 0 := by decide +kernel
theorem ml_127 : m_mls.getD 127 0 = 2 := by decide +kernel
theorem ow_127 : m_own 127 = 9 := by decide +kernel
theorem hg_128 : m_hg 128 = 0 := by decide +kernel
theorem ml_128 : m_mls.getD 128 0 = 3 := by decide +kernel
theorem ow_128 : m_own 128 = 9 := by decide +kernel
theorem hg_129 : m_hg 129 = 0 := by decide +kernel
theorem ml_129 : m_mls.getD 129 0 = 1 := by decide +kernel
theorem ow_129 : m_own 129 = 10 := by decide +kernel
theorem hg_130 : m_hg 130 = 5 := by decide +kernel
theorem ml_130 : m_mls.getD 130 0 = 7 := by decide +kernel
theorem ow_130 : m_own 130 = 10 := by decide +kernel
theorem hg_131 : m_hg 131 = 2 := by decide +kernel
theorem ml_131 : m_mls.getD 131 0 = 7 := by decide +kernel
theorem ow_131 : m_own 131 = 10 := by decide +kernel
theorem hg_132 : m_hg 132 = 4 := by decide +kernel
theorem ml_132 : m_mls.getD 132 0 = 7 := by decide +kernel
theorem ow_132 : m_own 132 = 10 := by decide +kernel
theorem hg_133 : m_hg 133 = 3 := by decide +kernel
theorem ml_133 : m_mls.getD 133 0 = 7 := by decide +kernel
theorem ow_133 : m_own 133 = 10 := by decide +kernel
theorem hg_134 : m_hg 134 = 0 := by decide +kernel
theorem ml_134 : m_mls.getD 134 0 = 3 := by decide +kernel
theorem ow_134 : m_own 134 = 10 := by decide +kernel
theorem hg_135 : m_hg 135 = 0 := by decide +kernel
theorem ml_135 : m_mls.getD 135 0 = 3 := by decide +kernel
theorem ow_135 : m_own 135 = 10 := by decide +kernel
theorem hg_136 : m_hg 136 = 1 := by decide +kernel
theorem ml_136 : m_mls.getD 136 0 = 6 := by decide +kernel
theorem ow_136 : m_own 136 = 10 := by decide +kernel
theorem hg_137 : m_hg 137 = 0 := by decide +kernel
theorem ml_137 : m_mls.getD 137 0 = 2 := by decide +kernel
theorem ow_137 : m_own 137 = 10 := by decide +kernel
theorem hg_138 : m_hg 138 = 0 := by decide +kernel
theorem ml_138 : m_mls.getD 138 0 = 4 := by decide +kernel
theorem ow_138 : m_own 138 = 10 := by decide +kernel
theorem hg_139 : m_hg 139 = 1 := by decide +kernel
theorem ml_139 : m_mls.getD 139 0 = 3 := by decide +kernel
theorem ow_139 : m_own 139 = 10 := by decide +kernel
theorem hg_140 : m_hg 140 = 3 := by decide +kernel
theorem ml_140 : m_mls.getD 140 0 = 1 := by decide +kernel
theorem ow_140 : m_own 140 = 11 := by decide +kernel
theorem hg_141 : m_hg 141 = 5 := by decide +kernel
theorem ml_141 : m_mls.getD 141 0 = 6 := by decide +kernel
theorem ow_141 : m_own 141 = 11 := by decide +kernel
theorem hg_142 : m_hg 142 = 5 := by decide +kernel
theorem ml_142 : m_mls.getD 142 0 = 5 := by decide +kernel
theorem ow_142 : m_own 142 = 11 := by decide +kernel
theorem hg_143 : m_hg 143 = 6 := by decide +kernel
theorem ml_143 : m_mls.getD 143 0 = 7 := by decide +kernel
theorem ow_143 : m_own 143 = 11 := by decide +kernel
theorem hg_144 : m_hg 144 = 5 := by decide +kernel
theorem ml_144 : m_mls.getD 144 0 = 5 := by decide +kernel
theorem ow_144 : m_own 144 = 11 := by decide +kernel
theorem hg_145 : m_hg 145 = 3 := by decide +kernel
theorem ml_145 : m_mls.getD 145 0 = 2 := by decide +kernel
theorem ow_145 : m_own 145 = 11 := by decide +kernel
theorem hg_146 : m_hg 146 = 7 := by decide +kernel
theorem ml_146 : m_mls.getD 146 0 = 3 := by decide +kernel
theorem ow_146 : m_own 146 = 11 := by decide +kernel
theorem hg_147 : m_hg 147 = 4 := by decide +kernel
theorem ml_147 : m_mls.getD 147 0 = 4 := by decide +kernel
theorem ow_147 : m_own 147 = 11 := by decide +kernel
theorem hg_148 : m_hg 148 = 3 := by decide +kernel
theorem ml_148 : m_mls.getD 148 0 = 3 := by decide +kernel
theorem ow_148 : m_own 148 = 11 := by decide +kernel
theorem hg_149 : m_hg 149 = 0 := by decide +kernel
theorem ml_149 : m_mls.getD 149 0 = 1 := by decide +kernel
theorem ow_149 : m_own 149 = 11 := by decide +kernel
theorem hg_150 : m_hg 150 = 8 := by decide +kernel
theorem ml_150 : m_mls.getD 150 0 = 2 := by decide +kernel
theorem ow_150 : m_own 150 = 11 := by decide +kernel
theorem hg_151 : m_hg 151 = 8 := by decide +kernel
theorem ml_151 : m_mls.getD 151 0 = 3 := by decide +kernel
theorem ow_151 : m_own 151 = 11 := by decide +kernel
theorem hg_152 : m_hg 152 = 8 := by decide +kernel
theorem ml_152 : m_mls.getD 152 0 = 3 := by decide +kernel
theorem ow_152 : m_own 152 = 11 := by decide +kernel
theorem hg_153 : m_hg 153 = 8 := by decide +kernel
theorem ml_153 : m_mls.getD 153 0 = 6 := by decide +kernel
theorem ow_153 : m_own 153 = 11 := by decide +kernel
theorem hg_156 : m_hg 156 = 8 := by decide +kernel
theorem ml_156 : m_mls.getD 156 0 = 2 := by decide +kernel
theorem ow_156 : m_own 156 = 11 := by decide +kernel
theorem hg_161 : m_hg 161 = 8 := by decide +kernel
theorem ml_161 : m_mls.getD 161 0 = 2 := by decide +kernel
theorem ow_161 : m_own 161 = 11 := by decide +kernel
theorem hg_162 : m_hg 162 = 8 := by decide +kernel
theorem ml_162 : m_mls.getD 162 0 = 4 := by decide +kernel
theorem ow_162 : m_own 162 = 11 := by decide +kernel
theorem hg_163 : m_hg 163 = 8 := by decide +kernel
theorem ml_163 : m_mls.getD 163 0 = 3 := by decide +kernel
theorem ow_163 : m_own 163 = 11 := by decide +kernel
theorem hg_164 : m_hg 164 = 8 := by decide +kernel
theorem ml_164 : m_mls.getD 164 0 = 3 := by decide +kernel
theorem ow_164 : m_own 164 = 11 := by decide +kernel
theorem hg_165 : m_hg 165 = 8 := by decide +kernel
theorem ml_165 : m_mls.getD 165 0 = 3 := by decide +kernel
theorem ow_165 : m_own 165 = 11 := by decide +kernel
theorem hg_166 : m_hg 166 = 8 := by decide +kernel
theorem ml_166 : m_mls.getD 166 0 = 1 := by decide +kernel
theorem ow_166 : m_own 166 = 11 := by decide +kernel
theorem hg_178 : m_hg 178 = 8 := by decide +kernel
theorem ml_178 : m_mls.getD 178 0 = 5 := by decide +kernel
theorem ow_178 : m_own 178 = 11 := by decide +kernel
theorem hg_179 : m_hg 179 = 2 := by decide +kernel
theorem ml_179 : m_mls.getD 179 0 = 1 := by decide +kernel
theorem ow_179 : m_own 179 = 11 := by decide +kernel
theorem hg_180 : m_hg 180 = 2 := by decide +kernel
theorem ml_180 : m_mls.getD 180 0 = 2 := by decide +kernel
theorem ow_180 : m_own 180 = 11 := by decide +kernel
theorem hg_181 : m_hg 181 = 3 := by decide +kernel
theorem ml_181 : m_mls.getD 181 0 = 4 := by decide +kernel
theorem ow_181 : m_own 181 = 11 := by decide +kernel
theorem hg_182 : m_hg 182 = 7 := by decide +kernel
theorem ml_182 : m_mls.getD 182 0 = 3 := by decide +kernel
theorem ow_182 : m_own 182 = 11 := by decide +kernel
theorem hg_185 : m_hg 185 = 7 := by decide +kernel
theorem ml_185 : m_mls.getD 185 0 = 3 := by decide +kernel
theorem ow_185 : m_own 185 = 11 := by decide +kernel
theorem hg_187 : m_hg 187 = 4 := by decide +kernel
theorem ml_187 : m_mls.getD 187 0 = 4 := by decide +kernel
theorem ow_187 : m_own 187 = 11 := by decide +kernel
theorem hg_188 : m_hg 188 = 7 := by decide +kernel
theorem ml_188 : m_mls.getD 188 0 = 1 := by decide +kernel
theorem ow_188 : m_own 188 = 11 := by decide +kernel
theorem hg_189 : m_hg 189 = 7 := by decide +kernel
theorem ml_189 : m_mls.getD 189 0 = 1 := by decide +kernel
theorem ow_189 : m_own 189 = 11 := by decide +kernel
theorem hg_190 : m_hg 190 = 2 := by decide +kernel
theorem ml_190 : m_mls.getD 190 0 = 5 := by decide +kernel
theorem ow_190 : m_own 190 = 11 := by decide +kernel
theorem hg_191 : m_hg 191 = 0 := by decide +kernel
theorem ml_191 : m_mls.getD 191 0 = 1 := by decide +kernel
theorem ow_191 : m_own 191 = 11 := by decide +kernel
theorem hg_192 : m_hg 192 = 2 := by decide +kernel
theorem ml_192 : m_mls.getD 192 0 = 5 := by decide +kernel
theorem ow_192 : m_own 192 = 11 := by decide +kernel
theorem hg_193 : m_hg 193 = 0 := by decide +kernel
theorem ml_193 : m_mls.getD 193 0 = 1 := by decide +kernel
theorem ow_193 : m_own 193 = 11 := by decide +kernel
theorem hg_194 : m_hg 194 = 0 := by decide +kernel
theorem ml_194 : m_mls.getD 194 0 = 2 := by decide +kernel
theorem ow_194 : m_own 194 = 11 := by decide +kernel
theorem hg_195 : m_hg 195 = 0 := by decide +kernel
theorem ml_195 : m_mls.getD 195 0 = 8 := by decide +kernel
theorem ow_195 : m_own 195 = 11 := by decide +kernel
theorem hg_196 : m_hg 196 = 0 := by decide +kernel
theorem ml_196 : m_mls.getD 196 0 = 1 := by decide +kernel
theorem ow_196 : m_own 196 = 11 := by decide +kernel
theorem hg_197 : m_hg 197 = 0 := by decide +kernel
theorem ml_197 : m_mls.getD 197 0 = 1 := by decide +kernel
theorem ow_197 : m_own 197 = 11 := by decide +kernel
theorem hg_198 : m_hg 198 = 0 := by decide +kernel
theorem ml_198 : m_mls.getD 198 0 = 1 := by decide +kernel
theorem ow_198 : m_own 198 = 11 := by decide +kernel
theorem hg_199 : m_hg 199 = 0 := by decide +kernel
theorem ml_199 : m_mls.getD 199 0 = 1 := by decide +kernel
theorem ow_199 : m_own 199 = 11 := by decide +kernel
theorem hg_200 : m_hg 200 = 0 := by decide +kernel
theorem ml_200 : m_mls.getD 200 0 = 1 := by decide +kernel
theorem ow_200 : m_own 200 = 11 := by decide +kernel
theorem hg_201 : m_hg 201 = 0 := by decide +kernel
theorem ml_201 : m_mls.getD 201 0 = 3 := by decide +kernel
theorem ow_201 : m_own 201 = 99 := by decide +kernel
theorem hg_202 : m_hg 202 = 0 := by decide +kernel
theorem ml_202 : m_mls.getD 202 0 = 6 := by decide +kernel
theorem ow_202 : m_own 202 = 99 := by decide +kernel
theorem hg_203 : m_hg 203 = 0 := by decide +kernel
theorem ml_203 : m_mls.getD 203 0 = 3 := by decide +kernel
theorem ow_203 : m_own 203 = 99 := by decide +kernel
theorem hg_204 : m_hg 204 = 1 := by decide +kernel
theorem ml_204 : m_mls.getD 204 0 = 9 := by decide +kernel
theorem ow_204 : m_own 204 = 99 := by decide +kernel
theorem hg_205 : m_hg 205 = 1 := by decide +kernel
theorem ml_205 : m_mls.getD 205 0 = 9 := by decide +kernel
theorem ow_205 : m_own 205 = 99 := by decide +kernel
theorem hg_206 : m_hg 206 = 9 := by decide +kernel
theorem ml_206 : m_mls.getD 206 0 = 19 := by decide +kernel
theorem ow_206 : m_own 206 = 99 := by decide +kernel
theorem hg_207 : m_hg 207 = 1 := by decide +kernel
theorem ml_207 : m_mls.getD 207 0 = 9 := by decide +kernel
theorem ow_207 : m_own 207 = 99 := by decide +kernel
theorem hg_208 : m_hg 208 = 2 := by decide +kernel
theorem ml_208 : m_mls.getD 208 0 = 9 := by decide +kernel
theorem ow_208 : m_own 208 = 99 := by decide +kernel
theorem hg_209 : m_hg 209 = 2 := by decide +kernel
theorem ml_209 : m_mls.getD 209 0 = 6 := by decide +kernel
theorem ow_209 : m_own 209 = 99 := by decide +kernel
theorem hg_210 : m_hg 210 = 0 := by decide +kernel
theorem ml_210 : m_mls.getD 210 0 = 1 := by decide +kernel
theorem ow_210 : m_own 210 = 99 := by decide +kernel
theorem hg_211 : m_hg 211 = 9 := by decide +kernel
theorem ml_211 : m_mls.getD 211 0 = 3 := by decide +kernel
theorem ow_211 : m_own 211 = 99 := by decide +kernel
theorem hg_212 : m_hg 212 = 0 := by decide +kernel
theorem ml_212 : m_mls.getD 212 0 = 4 := by decide +kernel
theorem ow_212 : m_own 212 = 99 := by decide +kernel
theorem hg_213 : m_hg 213 = 1 := by decide +kernel
theorem ml_213 : m_mls.getD 213 0 = 3 := by decide +kernel
theorem ow_213 : m_own 213 = 99 := by decide +kernel
theorem hg_214 : m_hg 214 = 0 := by decide +kernel
theorem ml_214 : m_mls.getD 214 0 = 3 := by decide +kernel
theorem ow_214 : m_own 214 = 99 := by decide +kernel
theorem hg_215 : m_hg 215 = 10 := by decide +kernel
theorem ml_215 : m_mls.getD 215 0 = 10 := by decide +kernel
theorem ow_215 : m_own 215 = 99 := by decide +kernel
theorem hg_387 : m_hg 387 = 9 := by decide +kernel
theorem ml_387 : m_mls.getD 387 0 = 7 := by decide +kernel
theorem ow_387 : m_own 387 = 99 := by decide +kernel
theorem hg_388 : m_hg 388 = 10 := by decide +kernel
theorem ml_388 : m_mls.getD 388 0 = 25 := by decide +kernel
theorem ow_388 : m_own 388 = 99 := by decide +kernel
theorem hg_389 : m_hg 389 = 11 := by decide +kernel
theorem ml_389 : m_mls.getD 389 0 = 14 := by decide +kernel
theorem ow_389 : m_own 389 = 99 := by decide +kernel
theorem hg_390 : m_hg 390 = 0 := by decide +kernel
theorem ml_390 : m_mls.getD 390 0 = 14 := by decide +kernel
theorem ow_390 : m_own 390 = 99 := by decide +kernel
theorem hg_420 : m_hg 420 = 12 := by decide +kernel
theorem ml_420 : m_mls.getD 420 0 = 4 := by decide +kernel
theorem ow_420 : m_own 420 = 99 := by decide +kernel
theorem hg_421 : m_hg 421 = 1 := by decide +kernel
theorem ml_421 : m_mls.getD 421 0 = 1 := by decide +kernel
theorem ow_421 : m_own 421 = 200 := by decide +kernel
theorem hg_422 : m_hg 422 = 5 := by decide +kernel
theorem ml_422 : m_mls.getD 422 0 = 2 := by decide +kernel
theorem ow_422 : m_own 422 = 200 := by decide +kernel
theorem hg_425 : m_hg 425 = 0 := by decide +kernel
theorem ml_425 : m_mls.getD 425 0 = 1 := by decide +kernel
theorem ow_425 : m_own 425 = 200 := by decide +kernel
theorem hg_426 : m_hg 426 = 0 := by decide +kernel
theorem ml_426 : m_mls.getD 426 0 = 1 := by decide +kernel
theorem ow_426 : m_own 426 = 200 := by decide +kernel
theorem hg_427 : m_hg 427 = 3 := by decide +kernel
theorem ml_427 : m_mls.getD 427 0 = 2 := by decide +kernel
theorem ow_427 : m_own 427 = 200 := by decide +kernel
theorem hg_428 : m_hg 428 = 4 := by decide +kernel
theorem ml_428 : m_mls.getD 428 0 = 2 := by decide +kernel
theorem ow_428 : m_own 428 = 99 := by decide +kernel
theorem hg_432 : m_hg 432 = 2 := by decide +kernel
theorem ml_432 : m_mls.getD 432 0 = 3 := by decide +kernel
theorem ow_432 : m_own 432 = 99 := by decide +kernel
theorem hg_433 : m_hg 433 = 0 := by decide +kernel
theorem ml_433 : m_mls.getD 433 0 = 4 := by decide +kernel
theorem ow_433 : m_own 433 = 99 := by decide +kernel
theorem hg_434 : m_hg 434 = 3 := by decide +kernel
theorem ml_434 : m_mls.getD 434 0 = 5 := by decide +kernel
theorem ow_434 : m_own 434 = 99 := by decide +kernel
theorem hg_435 : m_hg 435 = 3 := by decide +kernel
theorem ml_435 : m_mls.getD 435 0 = 6 := by decide +kernel
theorem ow_435 : m_own 435 = 99 := by decide +kernel
theorem hg_436 : m_hg 436 = 2 := by decide +kernel
theorem ml_436 : m_mls.getD 436 0 = 3 := by decide +kernel
theorem ow_436 : m_own 436 = 99 := by decide +kernel
theorem hg_437 : m_hg 437 = 0 := by decide +kernel
theorem ml_437 : m_mls.getD 437 0 = 2 := by decide +kernel
theorem ow_437 : m_own 437 = 99 := by decide +kernel
theorem hg_438 : m_hg 438 = 0 := by decide +kernel
theorem ml_438 : m_mls.getD 438 0 = 2 := by decide +kernel
theorem ow_438 : m_own 438 = 99 := by decide +kernel
theorem m_cats_rev (xs : List MV) : m_cats xs.reverse = m_cats xs := by unfold m_cats; rw [List.map_reverse, List.sum_reverse]
theorem m_call_go {N n : Nat} {st xs r0 : List MV} (hst : st = xs.reverse ++ r0) (hn : n = xs.length) (h8 : Nat.ble (m_cats r0) 8 = true) {v : Nat} (hv : m_mls.getD N 0 = v) (hml : Nat.ble (m_cats xs) v = true) : m_call N n st = .error (1, N, xs, r0) := by
  have hl : xs.reverse.length = n := by rw [List.length_reverse, hn]
  have h1 : st.take n = xs.reverse := by rw [hst, ← hl, List.take_left]
  have h2 : st.drop n = r0 := by rw [hst, ← hl, List.drop_left]
  unfold m_call
  rw [h1, h2, m_cats_rev, List.reverse_reverse, hv, if_pos ⟨by rw [hst, List.length_append, hl]; omega, Nat.le_of_ble_eq_true h8, Nat.le_of_ble_eq_true hml⟩]
theorem m_recv_go {F : MF} {c s a n ci sz : Nat} {st xs r0 : List MV} (hst : st = (m_r a :: xs).reverse ++ r0) (hn : n = xs.length + 1) (hk : m_KD[a]? = some (ci, sz)) : m_recv (F, m_KD, c, s) ci n st = true := by
  unfold m_recv
  have h1 : st.drop (n - 1) = m_r a :: r0 := by
    rw [hst, List.reverse_cons, List.append_assoc, hn, Nat.add_sub_cancel, ← List.length_reverse, List.drop_left]
    rfl
  rw [h1]
  show ((m_kind (F, m_KD, c, s) ((a : Nat) : Int)).1 == ci) = true
  rw [m_kd hk]
  exact beq_self_eq_true ci
theorem m_recv_go5 {h : MH} {n : Nat} {x : Int} {st xs r0 : List MV} (hst : st = ((5, x) :: xs).reverse ++ r0) (hn : n = xs.length + 1) : m_recv h 200 n st = true := by
  unfold m_recv
  have h1 : st.drop (n - 1) = (5, x) :: r0 := by
    rw [hst, List.reverse_cons, List.append_assoc, hn, Nat.add_sub_cancel, ← List.length_reverse, List.drop_left]
    rfl
  rw [h1]
  rfl
theorem m_noT {N kc : Nat} {Q : Nat × List MV → MF → Prop} : ∀ (e : Nat) (F' : MF), St F' → m_no e F' → N < 387 ∧ (kc = 0 ∨ kc = 2) ∧ Q (e + 1, []) F' := fun _ _ _ h => h.elim
section M32
variable {M pc : Nat} {ls : ML} {st : List MV} {F : MF} {Q : Nat × List MV → MF → Prop} {r : List (Option (Instr × LK))} {z N n j kc a sz gN gM v : Nat}
theorem e_csI (xs r0 : List MV) (hst : st = xs.reverse ++ r0) (hn : n = xs.length) (h8 : Nat.ble (m_cats r0) 8 = true) (hv : m_mls.getD N 0 = v) (hml : Nat.ble (m_cats xs) v = true) (hM : (Nat.blt M 387 || Nat.blt 420 M) = true) (hN : (Nat.blt N 387 || Nat.blt 420 N) = true) (hgN : m_hg N = gN) (hgM : m_hg M = gM) (hg : Nat.blt gN gM = true) (hA : At M pc (some (.invokestatic z, (N, n, j, kc)) :: none :: none :: r)) (hkc : (kc == 0 || kc == 1 || kc == 7) = true) {R : Int → MF → Prop} {T : Nat → MF → Prop} (K0 : CaI N xs F R T) (KT : ∀ (e : Nat) (F1 : MF), St F1 → T e F1 → N < 387 ∧ (kc = 0 ∨ kc = 2) ∧ Q (e + 1, []) F1) (K : ∀ (r1 : Int) (F1 : MF), St F1 → R r1 F1 → Ev M (pc + 3) ls ((0, r1) :: r0) F1 Q) : Ev M pc ls st F Q := by
  have hgo : ∀ c s, mstep (.invokestatic z) (N, n, j, kc) pc ls st (F, m_KD, c, s) = .error (1, N, xs, r0) := fun c s => by
    simp only [Bool.or_eq_true, beq_iff_eq] at hkc
    show (if kc = 6 then _ else if kc = 0 ∨ kc = 1 ∨ kc = 7 then m_call N n st else m_ko) = _
    rw [if_neg (by omega), if_pos (by omega)]
    exact m_call_go hst hn h8 hv hml
  exact ev_call hA.hd hgo (by simp only [Bool.or_eq_true] at hM; rcases hM with h | h; exact Or.inl (Nat.blt_eq.mp h); exact Or.inr (Nat.blt_eq.mp h)) (by simp only [Bool.or_eq_true] at hN; rcases hN with h | h; exact Or.inl (Nat.blt_eq.mp h); exact Or.inr (Nat.blt_eq.mp h)) (by rw [hgN, hgM]; exact Nat.blt_eq.mp hg) (Ev.mono K0 (fun o F1 => by
    rintro ⟨hS, h | ⟨e, rfl, h⟩⟩
    · left
      obtain ⟨r1, rfl, h⟩ := h
      exact ⟨rfl, K r1 F1 hS h⟩
    · right
      obtain ⟨h1, h2, h3⟩ := KT e F1 hS h
      exact ⟨e, rfl, h1, h2, h3⟩))
theorem e_cvI (xs r0 : List MV) (hst : st = xs.reverse ++ r0) (hn : n = xs.length) (h8 : Nat.ble (m_cats r0) 8 = true) (hv : m_mls.getD N 0 = v) (hml : Nat.ble (m_cats xs) v = true) (hM : (Nat.blt M 387 || Nat.blt 420 M) = true) (hN : (Nat.blt N 387 || Nat.blt 420 N) = true) (hgN : m_hg N = gN) (hgM : m_hg M = gM) (hg : Nat.blt gN gM = true) (hA : At M pc (some (.invokevirtual z, (N, n, j, kc)) :: none :: none :: r)) (hkc : (kc == 2 || kc == 3) = true) (hrc : ∀ c s, m_recv (F, m_KD, c, s) (m_own N) n st = true) {R : Int → MF → Prop} {T : Nat → MF → Prop} (K0 : CaI N xs F R T) (KT : ∀ (e : Nat) (F1 : MF), St F1 → T e F1 → N < 387 ∧ (kc = 0 ∨ kc = 2) ∧ Q (e + 1, []) F1) (K : ∀ (r1 : Int) (F1 : MF), St F1 → R r1 F1 → Ev M (pc + 3) ls ((0, r1) :: r0) F1 Q) : Ev M pc ls st F Q := by
  have hgo : ∀ c s, mstep (.invokevirtual z) (N, n, j, kc) pc ls st (F, m_KD, c, s) = .error (1, N, xs, r0) := fun c s => by
    simp only [Bool.or_eq_true, beq_iff_eq] at hkc
    show (if kc = 2 ∨ kc = 3 then (if m_recv (F, m_KD, c, s) (m_own N) n st = true then m_call N n st else m_ko) else m_ko) = _
    rw [if_pos hkc, if_pos (hrc c s)]
    exact m_call_go hst hn h8 hv hml
  exact ev_call hA.hd hgo (by simp only [Bool.or_eq_true] at hM; rcases hM with h | h; exact Or.inl (Nat.blt_eq.mp h); exact Or.inr (Nat.blt_eq.mp h)) (by simp only [Bool.or_eq_true] at hN; rcases hN with h | h; exact Or.inl (Nat.blt_eq.mp h); exact Or.inr (Nat.blt_eq.mp h)) (by rw [hgN, hgM]; exact Nat.blt_eq.mp hg) (Ev.mono K0 (fun o F1 => by
    rintro ⟨hS, h | ⟨e, rfl, h⟩⟩
    · left
      obtain ⟨r1, rfl, h⟩ := h
      exact ⟨rfl, K r1 F1 hS h⟩
    · right
      obtain ⟨h1, h2, h3⟩ := KT e F1 hS h
      exact ⟨e, rfl, h1, h2, h3⟩))
theorem e_csL (xs r0 : List MV) (hst : st = xs.reverse ++ r0) (hn : n = xs.length) (h8 : Nat.ble (m_cats r0) 8 = true) (hv : m_mls.getD N 0 = v) (hml : Nat.ble (m_cats xs) v = true) (hM : (Nat.blt M 387 || Nat.blt 420 M) = true) (hN : (Nat.blt N 387 || Nat.blt 420 N) = true) (hgN : m_hg N = gN) (hgM : m_hg M = gM) (hg : Nat.blt gN gM = true) (hA : At M pc (some (.invokestatic z, (N, n, j, kc)) :: none :: none :: r)) (hkc : (kc == 0 || kc == 1 || kc == 7) = true) {R : Int → MF → Prop} {T : Nat → MF → Prop} (K0 : CaL N xs F R T) (KT : ∀ (e : Nat) (F1 : MF), St F1 → T e F1 → N < 387 ∧ (kc = 0 ∨ kc = 2) ∧ Q (e + 1, []) F1) (K : ∀ (r1 : Int) (F1 : MF), St F1 → R r1 F1 → Ev M (pc + 3) ls ((1, r1) :: r0) F1 Q) : Ev M pc ls st F Q := by
  have hgo : ∀ c s, mstep (.invokestatic z) (N, n, j, kc) pc ls st (F, m_KD, c, s) = .error (1, N, xs, r0) := fun c s => by
    simp only [Bool.or_eq_true, beq_iff_eq] at hkc
    show (if kc = 6 then _ else if kc = 0 ∨ kc = 1 ∨ kc = 7 then m_call N n st else m_ko) = _
    rw [if_neg (by omega), if_pos (by omega)]
    exact m_call_go hst hn h8 hv hml
  exact ev_call hA.hd hgo (by simp only [Bool.or_eq_true] at hM; rcases hM with h | h; exact Or.inl (Nat.blt_eq.mp h); exact Or.inr (Nat.blt_eq.mp h)) (by simp only [Bool.or_eq_true] at hN; rcases hN with h | h; exact Or.inl (Nat.blt_eq.mp h); exact Or.inr (Nat.blt_eq.mp h)) (by rw [hgN, hgM]; exact Nat.blt_eq.mp hg) (Ev.mono K0 (fun o F1 => by
    rintro ⟨hS, h | ⟨e, rfl, h⟩⟩
    · left
      obtain ⟨r1, rfl, h⟩ := h
      exact ⟨rfl, K r1 F1 hS h⟩
    · right
      obtain ⟨h1, h2, h3⟩ := KT e F1 hS h
      exact ⟨e, rfl, h1, h2, h3⟩))
theorem e_cvL (xs r0 : List MV) (hst : st = xs.reverse ++ r0) (hn : n = xs.length) (h8 : Nat.ble (m_cats r0) 8 = true) (hv : m_mls.getD N 0 = v) (hml : Nat.ble (m_cats xs) v = true) (hM : (Nat.blt M 387 || Nat.blt 420 M) = true) (hN : (Nat.blt N 387 || Nat.blt 420 N) = true) (hgN : m_hg N = gN) (hgM : m_hg M = gM) (hg : Nat.blt gN gM = true) (hA : At M pc (some (.invokevirtual z, (N, n, j, kc)) :: none :: none :: r)) (hkc : (kc == 2 || kc == 3) = true) (hrc : ∀ c s, m_recv (F, m_KD, c, s) (m_own N) n st = true) {R : Int → MF → Prop} {T : Nat → MF → Prop} (K0 : CaL N xs F R T) (KT : ∀ (e : Nat) (F1 : MF), St F1 → T e F1 → N < 387 ∧ (kc = 0 ∨ kc = 2) ∧ Q (e + 1, []) F1) (K : ∀ (r1 : Int) (F1 : MF), St F1 → R r1 F1 → Ev M (pc + 3) ls ((1, r1) :: r0) F1 Q) : Ev M pc ls st F Q := by
  have hgo : ∀ c s, mstep (.invokevirtual z) (N, n, j, kc) pc ls st (F, m_KD, c, s) = .error (1, N, xs, r0) := fun c s => by
    simp only [Bool.or_eq_true, beq_iff_eq] at hkc
    show (if kc = 2 ∨ kc = 3 then (if m_recv (F, m_KD, c, s) (m_own N) n st = true then m_call N n st else m_ko) else m_ko) = _
    rw [if_pos hkc, if_pos (hrc c s)]
    exact m_call_go hst hn h8 hv hml
  exact ev_call hA.hd hgo (by simp only [Bool.or_eq_true] at hM; rcases hM with h | h; exact Or.inl (Nat.blt_eq.mp h); exact Or.inr (Nat.blt_eq.mp h)) (by simp only [Bool.or_eq_true] at hN; rcases hN with h | h; exact Or.inl (Nat.blt_eq.mp h); exact Or.inr (Nat.blt_eq.mp h)) (by rw [hgN, hgM]; exact Nat.blt_eq.mp hg) (Ev.mono K0 (fun o F1 => by
    rintro ⟨hS, h | ⟨e, rfl, h⟩⟩
    · left
      obtain ⟨r1, rfl, h⟩ := h
      exact ⟨rfl, K r1 F1 hS h⟩
    · right
      obtain ⟨h1, h2, h3⟩ := KT e F1 hS h
      exact ⟨e, rfl, h1, h2, h3⟩))
theorem e_csS (xs r0 : List MV) (hst : st = xs.reverse ++ r0) (hn : n = xs.length) (h8 : Nat.ble (m_cats r0) 8 = true) (hv : m_mls.getD N 0 = v) (hml : Nat.ble (m_cats xs) v = true) (hM : (Nat.blt M 387 || Nat.blt 420 M) = true) (hN : (Nat.blt N 387 || Nat.blt 420 N) = true) (hgN : m_hg N = gN) (hgM : m_hg M = gM) (hg : Nat.blt gN gM = true) (hA : At M pc (some (.invokestatic z, (N, n, j, kc)) :: none :: none :: r)) (hkc : (kc == 0 || kc == 1 || kc == 7) = true) {R : Int → MF → Prop} {T : Nat → MF → Prop} (K0 : CaS N xs F R T) (KT : ∀ (e : Nat) (F1 : MF), St F1 → T e F1 → N < 387 ∧ (kc = 0 ∨ kc = 2) ∧ Q (e + 1, []) F1) (K : ∀ (r1 : Int) (F1 : MF), St F1 → R r1 F1 → Ev M (pc + 3) ls ((5, r1) :: r0) F1 Q) : Ev M pc ls st F Q := by
  have hgo : ∀ c s, mstep (.invokestatic z) (N, n, j, kc) pc ls st (F, m_KD, c, s) = .error (1, N, xs, r0) := fun c s => by
    simp only [Bool.or_eq_true, beq_iff_eq] at hkc
    show (if kc = 6 then _ else if kc = 0 ∨ kc = 1 ∨ kc = 7 then m_call N n st else m_ko) = _
    rw [if_neg (by omega), if_pos (by omega)]
    exact m_call_go hst hn h8 hv hml
  exact ev_call hA.hd hgo (by simp only [Bool.or_eq_true] at hM; rcases hM with h | h; exact Or.inl (Nat.blt_eq.mp h); exact Or.inr (Nat.blt_eq.mp h)) (by simp only [Bool.or_eq_true] at hN; rcases hN with h | h; exact Or.inl (Nat.blt_eq.mp h); exact Or.inr (Nat.blt_eq.mp h)) (by rw [hgN, hgM]; exact Nat.blt_eq.mp hg) (Ev.mono K0 (fun o F1 => by
    rintro ⟨hS, h | ⟨e, rfl, h⟩⟩
    · left
      obtain ⟨r1, rfl, h⟩ := h
      exact ⟨rfl, K r1 F1 hS h⟩
    · right
      obtain ⟨h1, h2, h3⟩ := KT e F1 hS h
      exact ⟨e, rfl, h1, h2, h3⟩))
theorem e_cvS (xs r0 : List MV) (hst : st = xs.reverse ++ r0) (hn : n = xs.length) (h8 : Nat.ble (m_cats r0) 8 = true) (hv : m_mls.getD N 0 = v) (hml : Nat.ble (m_cats xs) v = true) (hM : (Nat.blt M 387 || Nat.blt 420 M) = true) (hN : (Nat.blt N 387 || Nat.blt 420 N) = true) (hgN : m_hg N = gN) (hgM : m_hg M = gM) (hg : Nat.blt gN gM = true) (hA : At M pc (some (.invokevirtual z, (N, n, j, kc)) :: none :: none :: r)) (hkc : (kc == 2 || kc == 3) = true) (hrc : ∀ c s, m_recv (F, m_KD, c, s) (m_own N) n st = true) {R : Int → MF → Prop} {T : Nat → MF → Prop} (K0 : CaS N xs F R T) (KT : ∀ (e : Nat) (F1 : MF), St F1 → T e F1 → N < 387 ∧ (kc = 0 ∨ kc = 2) ∧ Q (e + 1, []) F1) (K : ∀ (r1 : Int) (F1 : MF), St F1 → R r1 F1 → Ev M (pc + 3) ls ((5, r1) :: r0) F1 Q) : Ev M pc ls st F Q := by
  have hgo : ∀ c s, mstep (.invokevirtual z) (N, n, j, kc) pc ls st (F, m_KD, c, s) = .error (1, N, xs, r0) := fun c s => by
    simp only [Bool.or_eq_true, beq_iff_eq] at hkc
    show (if kc = 2 ∨ kc = 3 then (if m_recv (F, m_KD, c, s) (m_own N) n st = true then m_call N n st else m_ko) else m_ko) = _
    rw [if_pos hkc, if_pos (hrc c s)]
    exact m_call_go hst hn h8 hv hml
  exact ev_call hA.hd hgo (by simp only [Bool.or_eq_true] at hM; rcases hM with h | h; exact Or.inl (Nat.blt_eq.mp h); exact Or.inr (Nat.blt_eq.mp h)) (by simp only [Bool.or_eq_true] at hN; rcases hN with h | h; exact Or.inl (Nat.blt_eq.mp h); exact Or.inr (Nat.blt_eq.mp h)) (by rw [hgN, hgM]; exact Nat.blt_eq.mp hg) (Ev.mono K0 (fun o F1 => by
    rintro ⟨hS, h | ⟨e, rfl, h⟩⟩
    · left
      obtain ⟨r1, rfl, h⟩ := h
      exact ⟨rfl, K r1 F1 hS h⟩
    · right
      obtain ⟨h1, h2, h3⟩ := KT e F1 hS h
      exact ⟨e, rfl, h1, h2, h3⟩))
theorem e_csR (xs r0 : List MV) (hst : st = xs.reverse ++ r0) (hn : n = xs.length) (h8 : Nat.ble (m_cats r0) 8 = true) (hv : m_mls.getD N 0 = v) (hml : Nat.ble (m_cats xs) v = true) (hM : (Nat.blt M 387 || Nat.blt 420 M) = true) (hN : (Nat.blt N 387 || Nat.blt 420 N) = true) (hgN : m_hg N = gN) (hgM : m_hg M = gM) (hg : Nat.blt gN gM = true) (hA : At M pc (some (.invokestatic z, (N, n, j, kc)) :: none :: none :: r)) (hkc : (kc == 0 || kc == 1 || kc == 7) = true) {R : Nat → MF → Prop} {T : Nat → MF → Prop} (K0 : CaR N xs F R T) (KT : ∀ (e : Nat) (F1 : MF), St F1 → T e F1 → N < 387 ∧ (kc = 0 ∨ kc = 2) ∧ Q (e + 1, []) F1) (K : ∀ (r1 : Nat) (F1 : MF), St F1 → R r1 F1 → Ev M (pc + 3) ls (m_r r1 :: r0) F1 Q) : Ev M pc ls st F Q := by
  have hgo : ∀ c s, mstep (.invokestatic z) (N, n, j, kc) pc ls st (F, m_KD, c, s) = .error (1, N, xs, r0) := fun c s => by
    simp only [Bool.or_eq_true, beq_iff_eq] at hkc
    show (if kc = 6 then _ else if kc = 0 ∨ kc = 1 ∨ kc = 7 then m_call N n st else m_ko) = _
    rw [if_neg (by omega), if_pos (by omega)]
    exact m_call_go hst hn h8 hv hml
  exact ev_call hA.hd hgo (by simp only [Bool.or_eq_true] at hM; rcases hM with h | h; exact Or.inl (Nat.blt_eq.mp h); exact Or.inr (Nat.blt_eq.mp h)) (by simp only [Bool.or_eq_true] at hN; rcases hN with h | h; exact Or.inl (Nat.blt_eq.mp h); exact Or.inr (Nat.blt_eq.mp h)) (by rw [hgN, hgM]; exact Nat.blt_eq.mp hg) (Ev.mono K0 (fun o F1 => by
    rintro ⟨hS, h | ⟨e, rfl, h⟩⟩
    · left
      obtain ⟨r1, rfl, h⟩ := h
      exact ⟨rfl, K r1 F1 hS h⟩
    · right
      obtain ⟨h1, h2, h3⟩ := KT e F1 hS h
      exact ⟨e, rfl, h1, h2, h3⟩))
theorem e_cvR (xs r0 : List MV) (hst : st = xs.reverse ++ r0) (hn : n = xs.length) (h8 : Nat.ble (m_cats r0) 8 = true) (hv : m_mls.getD N 0 = v) (hml : Nat.ble (m_cats xs) v = true) (hM : (Nat.blt M 387 || Nat.blt 420 M) = true) (hN : (Nat.blt N 387 || Nat.blt 420 N) = true) (hgN : m_hg N = gN) (hgM : m_hg M = gM) (hg : Nat.blt gN gM = true) (hA : At M pc (some (.invokevirtual z, (N, n, j, kc)) :: none :: none :: r)) (hkc : (kc == 2 || kc == 3) = true) (hrc : ∀ c s, m_recv (F, m_KD, c, s) (m_own N) n st = true) {R : Nat → MF → Prop} {T : Nat → MF → Prop} (K0 : CaR N xs F R T) (KT : ∀ (e : Nat) (F1 : MF), St F1 → T e F1 → N < 387 ∧ (kc = 0 ∨ kc = 2) ∧ Q (e + 1, []) F1) (K : ∀ (r1 : Nat) (F1 : MF), St F1 → R r1 F1 → Ev M (pc + 3) ls (m_r r1 :: r0) F1 Q) : Ev M pc ls st F Q := by
  have hgo : ∀ c s, mstep (.invokevirtual z) (N, n, j, kc) pc ls st (F, m_KD, c, s) = .error (1, N, xs, r0) := fun c s => by
    simp only [Bool.or_eq_true, beq_iff_eq] at hkc
    show (if kc = 2 ∨ kc = 3 then (if m_recv (F, m_KD, c, s) (m_own N) n st = true then m_call N n st else m_ko) else m_ko) = _
    rw [if_pos hkc, if_pos (hrc c s)]
    exact m_call_go hst hn h8 hv hml
  exact ev_call hA.hd hgo (by simp only [Bool.or_eq_true] at hM; rcases hM with h | h; exact Or.inl (Nat.blt_eq.mp h); exact Or.inr (Nat.blt_eq.mp h)) (by simp only [Bool.or_eq_true] at hN; rcases hN with h | h; exact Or.inl (Nat.blt_eq.mp h); exact Or.inr (Nat.blt_eq.mp h)) (by rw [hgN, hgM]; exact Nat.blt_eq.mp hg) (Ev.mono K0 (fun o F1 => by
    rintro ⟨hS, h | ⟨e, rfl, h⟩⟩
    · left
      obtain ⟨r1, rfl, h⟩ := h
      exact ⟨rfl, K r1 F1 hS h⟩
    · right
      obtain ⟨h1, h2, h3⟩ := KT e F1 hS h
      exact ⟨e, rfl, h1, h2, h3⟩))
theorem e_csV (xs r0 : List MV) (hst : st = xs.reverse ++ r0) (hn : n = xs.length) (h8 : Nat.ble (m_cats r0) 8 = true) (hv : m_mls.getD N 0 = v) (hml : Nat.ble (m_cats xs) v = true) (hM : (Nat.blt M 387 || Nat.blt 420 M) = true) (hN : (Nat.blt N 387 || Nat.blt 420 N) = true) (hgN : m_hg N = gN) (hgM : m_hg M = gM) (hg : Nat.blt gN gM = true) (hA : At M pc (some (.invokestatic z, (N, n, j, kc)) :: none :: none :: r)) (hkc : (kc == 0 || kc == 1 || kc == 7) = true) {R : MF → Prop} {T : Nat → MF → Prop} (K0 : CaV N xs F R T) (KT : ∀ (e : Nat) (F1 : MF), St F1 → T e F1 → N < 387 ∧ (kc = 0 ∨ kc = 2) ∧ Q (e + 1, []) F1) (K : ∀ (F1 : MF), St F1 → R F1 → Ev M (pc + 3) ls (r0) F1 Q) : Ev M pc ls st F Q := by
  have hgo : ∀ c s, mstep (.invokestatic z) (N, n, j, kc) pc ls st (F, m_KD, c, s) = .error (1, N, xs, r0) := fun c s => by
    simp only [Bool.or_eq_true, beq_iff_eq] at hkc
    show (if kc = 6 then _ else if kc = 0 ∨ kc = 1 ∨ kc = 7 then m_call N n st else m_ko) = _
    rw [if_neg (by omega), if_pos (by omega)]
    exact m_call_go hst hn h8 hv hml
  exact ev_call hA.hd hgo (by simp only [Bool.or_eq_true] at hM; rcases hM with h | h; exact Or.inl (Nat.blt_eq.mp h); exact Or.inr (Nat.blt_eq.mp h)) (by simp only [Bool.or_eq_true] at hN; rcases hN with h | h; exact Or.inl (Nat.blt_eq.mp h); exact Or.inr (Nat.blt_eq.mp h)) (by rw [hgN, hgM]; exact Nat.blt_eq.mp hg) (Ev.mono K0 (fun o F1 => by
    rintro ⟨hS, h | ⟨e, rfl, h⟩⟩
    · left
      obtain ⟨rfl, h⟩ := h
      exact ⟨rfl, K F1 hS h⟩
    · right
      obtain ⟨h1, h2, h3⟩ := KT e F1 hS h
      exact ⟨e, rfl, h1, h2, h3⟩))
theorem e_cvV (xs r0 : List MV) (hst : st = xs.reverse ++ r0) (hn : n = xs.length) (h8 : Nat.ble (m_cats r0) 8 = true) (hv : m_mls.getD N 0 = v) (hml : Nat.ble (m_cats xs) v = true) (hM : (Nat.blt M 387 || Nat.blt 420 M) = true) (hN : (Nat.blt N 387 || Nat.blt 420 N) = true) (hgN : m_hg N = gN) (hgM : m_hg M = gM) (hg : Nat.blt gN gM = true) (hA : At M pc (some (.invokevirtual z, (N, n, j, kc)) :: none :: none :: r)) (hkc : (kc == 2 || kc == 3) = true) (hrc : ∀ c s, m_recv (F, m_KD, c, s) (m_own N) n st = true) {R : MF → Prop} {T : Nat → MF → Prop} (K0 : CaV N xs F R T) (KT : ∀ (e : Nat) (F1 : MF), St F1 → T e F1 → N < 387 ∧ (kc = 0 ∨ kc = 2) ∧ Q (e + 1, []) F1) (K : ∀ (F1 : MF), St F1 → R F1 → Ev M (pc + 3) ls (r0) F1 Q) : Ev M pc ls st F Q := by
  have hgo : ∀ c s, mstep (.invokevirtual z) (N, n, j, kc) pc ls st (F, m_KD, c, s) = .error (1, N, xs, r0) := fun c s => by
    simp only [Bool.or_eq_true, beq_iff_eq] at hkc
    show (if kc = 2 ∨ kc = 3 then (if m_recv (F, m_KD, c, s) (m_own N) n st = true then m_call N n st else m_ko) else m_ko) = _
    rw [if_pos hkc, if_pos (hrc c s)]
    exact m_call_go hst hn h8 hv hml
  exact ev_call hA.hd hgo (by simp only [Bool.or_eq_true] at hM; rcases hM with h | h; exact Or.inl (Nat.blt_eq.mp h); exact Or.inr (Nat.blt_eq.mp h)) (by simp only [Bool.or_eq_true] at hN; rcases hN with h | h; exact Or.inl (Nat.blt_eq.mp h); exact Or.inr (Nat.blt_eq.mp h)) (by rw [hgN, hgM]; exact Nat.blt_eq.mp hg) (Ev.mono K0 (fun o F1 => by
    rintro ⟨hS, h | ⟨e, rfl, h⟩⟩
    · left
      obtain ⟨rfl, h⟩ := h
      exact ⟨rfl, K F1 hS h⟩
    · right
      obtain ⟨h1, h2, h3⟩ := KT e F1 hS h
      exact ⟨e, rfl, h1, h2, h3⟩))
/-- the rows and trees of a desk -/
theorem e_rows {i : Int} {q : LK} (hA : At M pc (some (.aaload, q) :: r)) (hS : St F) (hn : n ∈ m_I1) (hi : 0 ≤ i ∧ i < 3) (K : ∀ b : Nat, b ∈ m_I8 → b = n + (11 + 19 * i.toNat) → At M (pc + 1) r → Ev M (pc + 1) ls (m_r b :: st) F Q) : Ev M pc ls ((0, i) :: m_r (n + 5) :: st) F Q :=
  e_aaload (n + (11 + 19 * i.toNat)) hA (ka_1_1 hn) (by decide) hi (sr_rows hS hn hi) (K _ (io_rows hn hi) rfl)
theorem e_trees {i : Int} {q : LK} (hA : At M pc (some (.aaload, q) :: r)) (hS : St F) (hn : n ∈ m_I1) (hi : 0 ≤ i ∧ i < 3) (K : ∀ b : Nat, b ∈ m_I9 → b = n + (20 + 19 * i.toNat) → At M (pc + 1) r → Ev M (pc + 1) ls (m_r b :: st) F Q) : Ev M pc ls ((0, i) :: m_r (n + 6) :: st) F Q :=
  e_aaload (n + (20 + 19 * i.toNat)) hA (ka_1_2 hn) (by decide) hi (sr_trees hS hn hi) (K _ (io_trees hn hi) rfl)
theorem e_gets5 (hA : At M pc (some (.getfield z, (100, 0, j, kc)) :: none :: none :: r)) (K : At M (pc + 3) r → Ev M (pc + 3) ls ((4, ((n + 5 : Nat) : Int)) :: st) F Q) : Ev M pc ls ((5, ((n : Nat) : Int)) :: st) F Q := ev_ok hA.hd (fun c s => rfl) (K hA.tl3)
theorem m_bF {P : Prop} [Decidable P] (h : (if P then (1 : Int) else 0) = 0) : ¬ P := fun hp => by rw [if_pos hp] at h; cases h
theorem m_bT {P : Prop} [Decidable P] (h : ¬ (if P then (1 : Int) else 0) = 0) : P := Decidable.of_not_not (fun hp => h (if_neg hp))
end M32

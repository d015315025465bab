theorem cv_Law_19 : bw_cv "BentWordsLaw" 19 5 mX11_feed := ⟨bw_mem2 148 (by decide +kernel) rfl, bw_mem2 149 (by decide +kernel) rfl, bw_mem2 150 (by decide +kernel) rfl, bw_mem1 1 (by decide +kernel) rfl, bw_mem2 151 (by decide +kernel) rfl, ⟨by decide, by decide, by decide +kernel⟩, by decide⟩
theorem cv_Law_23 : bw_cv "BentWordsLaw" 23 5 mX12_feed := ⟨bw_mem6 119 (by decide +kernel) rfl, bw_mem6 120 (by decide +kernel) rfl, bw_mem6 121 (by decide +kernel) rfl, bw_mem1 13 (by decide +kernel) rfl, bw_mem6 122 (by decide +kernel) rfl, ⟨by decide, by decide, by decide +kernel⟩, by decide⟩
theorem cv_Law_24 : bw_cv "BentWordsLaw" 24 1 mX11_end := ⟨bw_mem2 159 (by decide +kernel) rfl, bw_mem2 160 (by decide +kernel) rfl, bw_mem2 161 (by decide +kernel) rfl, bw_mem1 1 (by decide +kernel) rfl, bw_mem2 162 (by decide +kernel) rfl, ⟨by decide, by decide, by decide +kernel⟩, by decide⟩
theorem cv_Law_28 : bw_cv "BentWordsLaw" 28 1 mX12_end := ⟨bw_mem6 126 (by decide +kernel) rfl, bw_mem6 127 (by decide +kernel) rfl, bw_mem6 128 (by decide +kernel) rfl, bw_mem1 13 (by decide +kernel) rfl, bw_mem6 129 (by decide +kernel) rfl, ⟨by decide, by decide, by decide +kernel⟩, by decide⟩
theorem cv_Law_29 : bw_cv "BentWordsLaw" 29 1 mX11_fault := ⟨bw_mem2 163 (by decide +kernel) rfl, bw_mem2 164 (by decide +kernel) rfl, bw_mem2 165 (by decide +kernel) rfl, bw_mem1 1 (by decide +kernel) rfl, bw_mem2 166 (by decide +kernel) rfl, ⟨by decide, by decide, by decide +kernel⟩, by decide⟩
theorem cv_Law_33 : bw_cv "BentWordsLaw" 33 1 mX12_fault := ⟨bw_mem6 133 (by decide +kernel) rfl, bw_mem6 134 (by decide +kernel) rfl, bw_mem6 135 (by decide +kernel) rfl, bw_mem1 13 (by decide +kernel) rfl, bw_mem6 136 (by decide +kernel) rfl, ⟨by decide, by decide, by decide +kernel⟩, by decide⟩
theorem cv_Law_34 : bw_cv "BentWordsLaw" 34 1 mX11_text := ⟨bw_mem3 118 (by decide +kernel) rfl, bw_mem3 119 (by decide +kernel) rfl, bw_mem3 120 (by decide +kernel) rfl, bw_mem1 1 (by decide +kernel) rfl, bw_mem3 121 (by decide +kernel) rfl, ⟨by decide, by decide, by decide +kernel⟩, by decide⟩
theorem cv_Law_37 : bw_cv "BentWordsLaw" 37 1 mX12_text := ⟨bw_mem7 34 (by decide +kernel) rfl, bw_mem7 35 (by decide +kernel) rfl, bw_mem7 36 (by decide +kernel) rfl, bw_mem1 13 (by decide +kernel) rfl, bw_mem7 37 (by decide +kernel) rfl, ⟨by decide, by decide, by decide +kernel⟩, by decide⟩
theorem cv_Law_38 : bw_cv "BentWordsLaw" 38 1 mX11_rule := ⟨bw_mem3 146 (by decide +kernel) rfl, bw_mem3 147 (by decide +kernel) rfl, bw_mem3 148 (by decide +kernel) rfl, bw_mem1 1 (by decide +kernel) rfl, bw_mem3 149 (by decide +kernel) rfl, ⟨by decide, by decide, by decide +kernel⟩, by decide⟩
theorem cv_Law_41 : bw_cv "BentWordsLaw" 41 1 mX12_rule := ⟨bw_mem7 238 (by decide +kernel) rfl, bw_mem7 239 (by decide +kernel) rfl, bw_mem8 0 (by decide +kernel) rfl, bw_mem1 13 (by decide +kernel) rfl, bw_mem8 1 (by decide +kernel) rfl, ⟨by decide, by decide, by decide +kernel⟩, by decide⟩
theorem cv_Law_52 : bw_cv "BentWordsLaw" 52 4 mX11_form := ⟨bw_mem3 200 (by decide +kernel) rfl, bw_mem3 201 (by decide +kernel) rfl, bw_mem3 202 (by decide +kernel) rfl, bw_mem1 1 (by decide +kernel) rfl, bw_mem3 203 (by decide +kernel) rfl, ⟨by decide, by decide, by decide +kernel⟩, by decide⟩
theorem cv_Law_56 : bw_cv "BentWordsLaw" 56 4 mX12_form := ⟨bw_mem8 14 (by decide +kernel) rfl, bw_mem8 15 (by decide +kernel) rfl, bw_mem8 16 (by decide +kernel) rfl, bw_mem1 13 (by decide +kernel) rfl, bw_mem8 17 (by decide +kernel) rfl, ⟨by decide, by decide, by decide +kernel⟩, by decide⟩
theorem cv_Law_57 : bw_cv "BentWordsLaw" 57 3 mX11_byDefault := ⟨bw_mem3 225 (by decide +kernel) rfl, bw_mem3 226 (by decide +kernel) rfl, bw_mem3 227 (by decide +kernel) rfl, bw_mem1 1 (by decide +kernel) rfl, bw_mem3 228 (by decide +kernel) rfl, ⟨by decide, by decide, by decide +kernel⟩, by decide⟩
theorem cv_Law_61 : bw_cv "BentWordsLaw" 61 3 mX12_byDefault := ⟨bw_mem8 21 (by decide +kernel) rfl, bw_mem8 22 (by decide +kernel) rfl, bw_mem8 23 (by decide +kernel) rfl, bw_mem1 13 (by decide +kernel) rfl, bw_mem8 24 (by decide +kernel) rfl, ⟨by decide, by decide, by decide +kernel⟩, by decide⟩
theorem cv_Law_62 : bw_cv "BentWordsLaw" 62 5 mX11_word := ⟨bw_mem3 230 (by decide +kernel) rfl, bw_mem3 231 (by decide +kernel) rfl, bw_mem3 232 (by decide +kernel) rfl, bw_mem1 1 (by decide +kernel) rfl, bw_mem3 233 (by decide +kernel) rfl, ⟨by decide, by decide, by decide +kernel⟩, by decide⟩
theorem cv_Law_66 : bw_cv "BentWordsLaw" 66 5 mX12_word := ⟨bw_mem8 25 (by decide +kernel) rfl, bw_mem8 26 (by decide +kernel) rfl, bw_mem8 27 (by decide +kernel) rfl, bw_mem1 13 (by decide +kernel) rfl, bw_mem8 28 (by decide +kernel) rfl, ⟨by decide, by decide, by decide +kernel⟩, by decide⟩
theorem cv_Law_67 : bw_cv "BentWordsLaw" 67 2 mX11_hole := ⟨bw_mem3 238 (by decide +kernel) rfl, bw_mem3 239 (by decide +kernel) rfl, bw_mem4 0 (by decide +kernel) rfl, bw_mem1 1 (by decide +kernel) rfl, bw_mem4 1 (by decide +kernel) rfl, ⟨by decide, by decide, by decide +kernel⟩, by decide⟩
theorem cv_Law_70 : bw_cv "BentWordsLaw" 70 2 mX12_hole := ⟨bw_mem8 29 (by decide +kernel) rfl, bw_mem8 30 (by decide +kernel) rfl, bw_mem8 31 (by decide +kernel) rfl, bw_mem1 13 (by decide +kernel) rfl, bw_mem8 32 (by decide +kernel) rfl, ⟨by decide, by decide, by decide +kernel⟩, by decide⟩
theorem cv_Law_71 : bw_cv "BentWordsLaw" 71 2 mX11_message := ⟨bw_mem4 12 (by decide +kernel) rfl, bw_mem4 13 (by decide +kernel) rfl, bw_mem4 14 (by decide +kernel) rfl, bw_mem1 1 (by decide +kernel) rfl, bw_mem4 15 (by decide +kernel) rfl, ⟨by decide, by decide, by decide +kernel⟩, by decide⟩
theorem cv_Law_74 : bw_cv "BentWordsLaw" 74 2 mX12_message := ⟨bw_mem8 33 (by decide +kernel) rfl, bw_mem8 34 (by decide +kernel) rfl, bw_mem8 35 (by decide +kernel) rfl, bw_mem1 13 (by decide +kernel) rfl, bw_mem8 36 (by decide +kernel) rfl, ⟨by decide, by decide, by decide +kernel⟩, by decide⟩
theorem cv_Law_75 : bw_cv "BentWordsLaw" 75 2 mX11_told := ⟨bw_mem4 62 (by decide +kernel) rfl, bw_mem4 63 (by decide +kernel) rfl, bw_mem4 64 (by decide +kernel) rfl, bw_mem1 1 (by decide +kernel) rfl, bw_mem4 65 (by decide +kernel) rfl, ⟨by decide, by decide, by decide +kernel⟩, by decide⟩
theorem cv_Law_78 : bw_cv "BentWordsLaw" 78 2 mX12_told_ := ⟨bw_mem8 45 (by decide +kernel) rfl, bw_mem8 46 (by decide +kernel) rfl, bw_mem8 47 (by decide +kernel) rfl, bw_mem1 13 (by decide +kernel) rfl, bw_mem8 48 (by decide +kernel) rfl, ⟨by decide, by decide, by decide +kernel⟩, by decide⟩
theorem cv_Law_79 : bw_cv "BentWordsLaw" 79 2 mX11_why := ⟨bw_mem4 66 (by decide +kernel) rfl, bw_mem4 67 (by decide +kernel) rfl, bw_mem4 68 (by decide +kernel) rfl, bw_mem1 1 (by decide +kernel) rfl, bw_mem4 69 (by decide +kernel) rfl, ⟨by decide, by decide, by decide +kernel⟩, by decide⟩
theorem cv_Law_82 : bw_cv "BentWordsLaw" 82 2 mX12_why := ⟨bw_mem8 49 (by decide +kernel) rfl, bw_mem8 50 (by decide +kernel) rfl, bw_mem8 51 (by decide +kernel) rfl, bw_mem1 13 (by decide +kernel) rfl, bw_mem8 52 (by decide +kernel) rfl, ⟨by decide, by decide, by decide +kernel⟩, by decide⟩
theorem cv_Law_83 : bw_cv "BentWordsLaw" 83 3 mX11_missing := ⟨bw_mem4 70 (by decide +kernel) rfl, bw_mem4 71 (by decide +kernel) rfl, bw_mem4 72 (by decide +kernel) rfl, bw_mem1 1 (by decide +kernel) rfl, bw_mem4 73 (by decide +kernel) rfl, ⟨by decide, by decide, by decide +kernel⟩, by decide⟩
theorem cv_Law_86 : bw_cv "BentWordsLaw" 86 3 mX12_missing := ⟨bw_mem8 53 (by decide +kernel) rfl, bw_mem8 54 (by decide +kernel) rfl, bw_mem8 55 (by decide +kernel) rfl, bw_mem1 13 (by decide +kernel) rfl, bw_mem8 56 (by decide +kernel) rfl, ⟨by decide, by decide, by decide +kernel⟩, by decide⟩
theorem cv_Law_87 : bw_cv "BentWordsLaw" 87 1 mX11_bare := ⟨bw_mem4 94 (by decide +kernel) rfl, bw_mem4 95 (by decide +kernel) rfl, bw_mem4 96 (by decide +kernel) rfl, bw_mem1 1 (by decide +kernel) rfl, bw_mem4 97 (by decide +kernel) rfl, ⟨by decide, by decide, by decide +kernel⟩, by decide⟩
theorem cv_Law_90 : bw_cv "BentWordsLaw" 90 1 mX12_bare := ⟨bw_mem8 69 (by decide +kernel) rfl, bw_mem8 70 (by decide +kernel) rfl, bw_mem8 71 (by decide +kernel) rfl, bw_mem1 13 (by decide +kernel) rfl, bw_mem8 72 (by decide +kernel) rfl, ⟨by decide, by decide, by decide +kernel⟩, by decide⟩
theorem cv_Law_91 : bw_cv "BentWordsLaw" 91 2 mX11_fits := ⟨bw_mem4 98 (by decide +kernel) rfl, bw_mem4 99 (by decide +kernel) rfl, bw_mem4 100 (by decide +kernel) rfl, bw_mem1 1 (by decide +kernel) rfl, bw_mem4 101 (by decide +kernel) rfl, ⟨by decide, by decide, by decide +kernel⟩, by decide⟩
theorem cv_Law_94 : bw_cv "BentWordsLaw" 94 2 mX12_fits := ⟨bw_mem8 73 (by decide +kernel) rfl, bw_mem8 74 (by decide +kernel) rfl, bw_mem8 75 (by decide +kernel) rfl, bw_mem1 13 (by decide +kernel) rfl, bw_mem8 76 (by decide +kernel) rfl, ⟨by decide, by decide, by decide +kernel⟩, by decide⟩
theorem cv_Law_95 : bw_cv "BentWordsLaw" 95 1 mX11_needs := ⟨bw_mem4 111 (by decide +kernel) rfl, bw_mem4 112 (by decide +kernel) rfl, bw_mem4 113 (by decide +kernel) rfl, bw_mem1 1 (by decide +kernel) rfl, bw_mem4 114 (by decide +kernel) rfl, ⟨by decide, by decide, by decide +kernel⟩, by decide⟩
theorem cv_Law_98 : bw_cv "BentWordsLaw" 98 1 mX12_needs := ⟨bw_mem8 81 (by decide +kernel) rfl, bw_mem8 82 (by decide +kernel) rfl, bw_mem8 83 (by decide +kernel) rfl, bw_mem1 13 (by decide +kernel) rfl, bw_mem8 84 (by decide +kernel) rfl, ⟨by decide, by decide, by decide +kernel⟩, by decide⟩
theorem cv_Law_99 : bw_cv "BentWordsLaw" 99 1 mX11_alike := ⟨bw_mem4 115 (by decide +kernel) rfl, bw_mem4 116 (by decide +kernel) rfl, bw_mem4 117 (by decide +kernel) rfl, bw_mem1 1 (by decide +kernel) rfl, bw_mem4 118 (by decide +kernel) rfl, ⟨by decide, by decide, by decide +kernel⟩, by decide⟩
theorem cv_Law_102 : bw_cv "BentWordsLaw" 102 1 mX12_alike := ⟨bw_mem8 88 (by decide +kernel) rfl, bw_mem8 89 (by decide +kernel) rfl, bw_mem8 90 (by decide +kernel) rfl, bw_mem1 13 (by decide +kernel) rfl, bw_mem8 91 (by decide +kernel) rfl, ⟨by decide, by decide, by decide +kernel⟩, by decide⟩
theorem cv_Law_103 : bw_cv "BentWordsLaw" 103 1 mX11_canBe := ⟨bw_mem4 127 (by decide +kernel) rfl, bw_mem4 128 (by decide +kernel) rfl, bw_mem4 129 (by decide +kernel) rfl, bw_mem1 1 (by decide +kernel) rfl, bw_mem4 130 (by decide +kernel) rfl, ⟨by decide, by decide, by decide +kernel⟩, by decide⟩
theorem cv_Law_106 : bw_cv "BentWordsLaw" 106 1 mX12_canBe := ⟨bw_mem8 96 (by decide +kernel) rfl, bw_mem8 97 (by decide +kernel) rfl, bw_mem8 98 (by decide +kernel) rfl, bw_mem1 13 (by decide +kernel) rfl, bw_mem8 99 (by decide +kernel) rfl, ⟨by decide, by decide, by decide +kernel⟩, by decide⟩
theorem cv_Law_107 : bw_cv "BentWordsLaw" 107 2 mX11_guess := ⟨bw_mem4 138 (by decide +kernel) rfl, bw_mem4 139 (by decide +kernel) rfl, bw_mem4 140 (by decide +kernel) rfl, bw_mem1 1 (by decide +kernel) rfl, bw_mem4 141 (by decide +kernel) rfl, ⟨by decide, by decide, by decide +kernel⟩, by decide⟩
theorem cv_Law_110 : bw_cv "BentWordsLaw" 110 2 mX12_guess := ⟨bw_mem8 112 (by decide +kernel) rfl, bw_mem8 113 (by decide +kernel) rfl, bw_mem8 114 (by decide +kernel) rfl, bw_mem1 13 (by decide +kernel) rfl, bw_mem8 115 (by decide +kernel) rfl, ⟨by decide, by decide, by decide +kernel⟩, by decide⟩
theorem cv_Law_111 : bw_cv "BentWordsLaw" 111 3 mX11_fill := ⟨bw_mem4 169 (by decide +kernel) rfl, bw_mem4 170 (by decide +kernel) rfl, bw_mem4 171 (by decide +kernel) rfl, bw_mem1 1 (by decide +kernel) rfl, bw_mem4 172 (by decide +kernel) rfl, ⟨by decide, by decide, by decide +kernel⟩, by decide⟩
theorem cv_Law_114 : bw_cv "BentWordsLaw" 114 3 mX12_fill := ⟨bw_mem7 43 (by decide +kernel) rfl, bw_mem7 44 (by decide +kernel) rfl, bw_mem7 45 (by decide +kernel) rfl, bw_mem1 13 (by decide +kernel) rfl, bw_mem7 46 (by decide +kernel) rfl, ⟨by decide, by decide, by decide +kernel⟩, by decide⟩
theorem cv_Law_115 : bw_cv "BentWordsLaw" 115 1 mX11_empty := ⟨bw_mem4 213 (by decide +kernel) rfl, bw_mem4 214 (by decide +kernel) rfl, bw_mem4 215 (by decide +kernel) rfl, bw_mem1 1 (by decide +kernel) rfl, bw_mem4 216 (by decide +kernel) rfl, ⟨by decide, by decide, by decide +kernel⟩, by decide⟩
theorem cv_Law_118 : bw_cv "BentWordsLaw" 118 1 mX12_empty := ⟨bw_mem7 184 (by decide +kernel) rfl, bw_mem7 185 (by decide +kernel) rfl, bw_mem7 186 (by decide +kernel) rfl, bw_mem1 13 (by decide +kernel) rfl, bw_mem7 187 (by decide +kernel) rfl, ⟨by decide, by decide, by decide +kernel⟩, by decide⟩
theorem cv_Law_119 : bw_cv "BentWordsLaw" 119 1 mX11_strict := ⟨bw_mem4 217 (by decide +kernel) rfl, bw_mem4 218 (by decide +kernel) rfl, bw_mem4 219 (by decide +kernel) rfl, bw_mem1 1 (by decide +kernel) rfl, bw_mem4 220 (by decide +kernel) rfl, ⟨by decide, by decide, by decide +kernel⟩, by decide⟩
theorem cv_Law_122 : bw_cv "BentWordsLaw" 122 1 mX12_strict := ⟨bw_mem7 188 (by decide +kernel) rfl, bw_mem7 189 (by decide +kernel) rfl, bw_mem7 190 (by decide +kernel) rfl, bw_mem1 13 (by decide +kernel) rfl, bw_mem7 191 (by decide +kernel) rfl, ⟨by decide, by decide, by decide +kernel⟩, by decide⟩
theorem cv_Law_123 : bw_cv "BentWordsLaw" 123 3 mX11_tell := ⟨bw_mem4 225 (by decide +kernel) rfl, bw_mem4 226 (by decide +kernel) rfl, bw_mem4 227 (by decide +kernel) rfl, bw_mem1 1 (by decide +kernel) rfl, bw_mem4 228 (by decide +kernel) rfl, ⟨by decide, by decide, by decide +kernel⟩, by decide⟩
theorem cv_Law_126 : bw_cv "BentWordsLaw" 126 3 mX12_tell := ⟨bw_mem7 192 (by decide +kernel) rfl, bw_mem7 193 (by decide +kernel) rfl, bw_mem7 194 (by decide +kernel) rfl, bw_mem1 13 (by decide +kernel) rfl, bw_mem7 195 (by decide +kernel) rfl, ⟨by decide, by decide, by decide +kernel⟩, by decide⟩
theorem cv_Law_127 : bw_cv "BentWordsLaw" 127 3 mX11_drop := ⟨bw_mem4 233 (by decide +kernel) rfl, bw_mem4 234 (by decide +kernel) rfl, bw_mem4 235 (by decide +kernel) rfl, bw_mem1 1 (by decide +kernel) rfl, bw_mem4 236 (by decide +kernel) rfl, ⟨by decide, by decide, by decide +kernel⟩, by decide⟩
theorem cv_Law_130 : bw_cv "BentWordsLaw" 130 3 mX12_drop := ⟨bw_mem7 200 (by decide +kernel) rfl, bw_mem7 201 (by decide +kernel) rfl, bw_mem7 202 (by decide +kernel) rfl, bw_mem1 13 (by decide +kernel) rfl, bw_mem7 203 (by decide +kernel) rfl, ⟨by decide, by decide, by decide +kernel⟩, by decide⟩
theorem cv_Law_133 : bw_cv "BentWordsLaw" 133 2 mX11_ways := ⟨bw_mem4 237 (by decide +kernel) rfl, bw_mem4 238 (by decide +kernel) rfl, bw_mem4 239 (by decide +kernel) rfl, bw_mem1 1 (by decide +kernel) rfl, bw_mem5 0 (by decide +kernel) rfl, ⟨by decide, by decide, by decide +kernel⟩, by decide⟩
theorem cv_Law_137 : bw_cv "BentWordsLaw" 137 2 mX12_ways := ⟨bw_mem7 204 (by decide +kernel) rfl, bw_mem7 205 (by decide +kernel) rfl, bw_mem7 206 (by decide +kernel) rfl, bw_mem1 13 (by decide +kernel) rfl, bw_mem7 207 (by decide +kernel) rfl, ⟨by decide, by decide, by decide +kernel⟩, by decide⟩
theorem cv_Law_138 : bw_cv "BentWordsLaw" 138 1 mX11_status := ⟨bw_mem5 15 (by decide +kernel) rfl, bw_mem5 16 (by decide +kernel) rfl, bw_mem5 17 (by decide +kernel) rfl, bw_mem1 1 (by decide +kernel) rfl, bw_mem5 18 (by decide +kernel) rfl, ⟨by decide, by decide, by decide +kernel⟩, by decide⟩
theorem cv_Law_141 : bw_cv "BentWordsLaw" 141 1 mX12_status := ⟨bw_mem7 226 (by decide +kernel) rfl, bw_mem7 227 (by decide +kernel) rfl, bw_mem7 228 (by decide +kernel) rfl, bw_mem1 13 (by decide +kernel) rfl, bw_mem7 229 (by decide +kernel) rfl, ⟨by decide, by decide, by decide +kernel⟩, by decide⟩
theorem cv_Law_142 : bw_cv "BentWordsLaw" 142 0 mX11_undo := ⟨bw_mem5 19 (by decide +kernel) rfl, bw_mem5 20 (by decide +kernel) rfl, bw_mem5 21 (by decide +kernel) rfl, bw_mem1 1 (by decide +kernel) rfl, bw_mem5 22 (by decide +kernel) rfl, ⟨by decide, by decide, by decide +kernel⟩, by decide⟩
theorem cv_Law_145 : bw_cv "BentWordsLaw" 145 0 mX12_undo := ⟨bw_mem7 230 (by decide +kernel) rfl, bw_mem7 231 (by decide +kernel) rfl, bw_mem7 232 (by decide +kernel) rfl, bw_mem1 13 (by decide +kernel) rfl, bw_mem7 233 (by decide +kernel) rfl, ⟨by decide, by decide, by decide +kernel⟩, by decide⟩
theorem cv_Law_146 : bw_cv "BentWordsLaw" 146 2 mX11_log := ⟨bw_mem5 27 (by decide +kernel) rfl, bw_mem5 28 (by decide +kernel) rfl, bw_mem5 29 (by decide +kernel) rfl, bw_mem1 1 (by decide +kernel) rfl, bw_mem5 30 (by decide +kernel) rfl, ⟨by decide, by decide, by decide +kernel⟩, by decide⟩
theorem cv_Law_149 : bw_cv "BentWordsLaw" 149 2 mX12_log := ⟨bw_mem7 234 (by decide +kernel) rfl, bw_mem7 235 (by decide +kernel) rfl, bw_mem7 236 (by decide +kernel) rfl, bw_mem1 13 (by decide +kernel) rfl, bw_mem7 237 (by decide +kernel) rfl, ⟨by decide, by decide, by decide +kernel⟩, by decide⟩
theorem cv_Law_150 : bw_cv "BentWordsLaw" 150 3 mX11_would := ⟨bw_mem5 49 (by decide +kernel) rfl, bw_mem5 50 (by decide +kernel) rfl, bw_mem5 51 (by decide +kernel) rfl, bw_mem1 1 (by decide +kernel) rfl, bw_mem5 52 (by decide +kernel) rfl, ⟨by decide, by decide, by decide +kernel⟩, by decide⟩
theorem cv_Law_153 : bw_cv "BentWordsLaw" 153 3 mX12_would := ⟨bw_mem8 100 (by decide +kernel) rfl, bw_mem8 101 (by decide +kernel) rfl, bw_mem8 102 (by decide +kernel) rfl, bw_mem1 13 (by decide +kernel) rfl, bw_mem8 103 (by decide +kernel) rfl, ⟨by decide, by decide, by decide +kernel⟩, by decide⟩
theorem cv_Law_154 : bw_cv "BentWordsLaw" 154 3 mX11_step := ⟨bw_mem5 53 (by decide +kernel) rfl, bw_mem5 54 (by decide +kernel) rfl, bw_mem5 55 (by decide +kernel) rfl, bw_mem1 1 (by decide +kernel) rfl, bw_mem5 56 (by decide +kernel) rfl, ⟨by decide, by decide, by decide +kernel⟩, by decide⟩
theorem cv_Law_157 : bw_cv "BentWordsLaw" 157 3 mX12_step := ⟨bw_mem8 124 (by decide +kernel) rfl, bw_mem8 125 (by decide +kernel) rfl, bw_mem8 126 (by decide +kernel) rfl, bw_mem1 13 (by decide +kernel) rfl, bw_mem8 127 (by decide +kernel) rfl, ⟨by decide, by decide, by decide +kernel⟩, by decide⟩
theorem cv_Law_158 : bw_cv "BentWordsLaw" 158 2 mX11_run := ⟨bw_mem5 65 (by decide +kernel) rfl, bw_mem5 66 (by decide +kernel) rfl, bw_mem5 67 (by decide +kernel) rfl, bw_mem1 1 (by decide +kernel) rfl, bw_mem5 68 (by decide +kernel) rfl, ⟨by decide, by decide, by decide +kernel⟩, by decide⟩
theorem cv_Law_161 : bw_cv "BentWordsLaw" 161 2 mX12_run := ⟨bw_mem8 132 (by decide +kernel) rfl, bw_mem8 133 (by decide +kernel) rfl, bw_mem8 134 (by decide +kernel) rfl, bw_mem1 13 (by decide +kernel) rfl, bw_mem8 135 (by decide +kernel) rfl, ⟨by decide, by decide, by decide +kernel⟩, by decide⟩
theorem cv_Law_162 : bw_cv "BentWordsLaw" 162 1 mX11_perform := ⟨bw_mem5 69 (by decide +kernel) rfl, bw_mem5 70 (by decide +kernel) rfl, bw_mem5 71 (by decide +kernel) rfl, bw_mem1 1 (by decide +kernel) rfl, bw_mem5 72 (by decide +kernel) rfl, ⟨by decide, by decide, by decide +kernel⟩, by decide⟩
theorem cv_Law_165 : bw_cv "BentWordsLaw" 165 1 mX12_perform := ⟨bw_mem8 140 (by decide +kernel) rfl, bw_mem8 141 (by decide +kernel) rfl, bw_mem8 142 (by decide +kernel) rfl, bw_mem1 13 (by decide +kernel) rfl, bw_mem8 143 (by decide +kernel) rfl, ⟨by decide, by decide, by decide +kernel⟩, by decide⟩
theorem cv_Law_166 : bw_cv "BentWordsLaw" 166 1 mX11_most := ⟨bw_mem5 73 (by decide +kernel) rfl, bw_mem5 74 (by decide +kernel) rfl, bw_mem5 75 (by decide +kernel) rfl, bw_mem1 1 (by decide +kernel) rfl, bw_mem5 76 (by decide +kernel) rfl, ⟨by decide, by decide, by decide +kernel⟩, by decide⟩
theorem cv_Law_169 : bw_cv "BentWordsLaw" 169 1 mX12_most := ⟨bw_mem8 144 (by decide +kernel) rfl, bw_mem8 145 (by decide +kernel) rfl, bw_mem8 146 (by decide +kernel) rfl, bw_mem1 13 (by decide +kernel) rfl, bw_mem8 147 (by decide +kernel) rfl, ⟨by decide, by decide, by decide +kernel⟩, by decide⟩
theorem cv_Law_170 : bw_cv "BentWordsLaw" 170 0 mX11_image := ⟨bw_mem5 106 (by decide +kernel) rfl, bw_mem5 107 (by decide +kernel) rfl, bw_mem5 108 (by decide +kernel) rfl, bw_mem1 1 (by decide +kernel) rfl, bw_mem5 109 (by decide +kernel) rfl, ⟨by decide, by decide, by decide +kernel⟩, by decide⟩
theorem cv_Law_173 : bw_cv "BentWordsLaw" 173 0 mX12_image := ⟨bw_mem8 176 (by decide +kernel) rfl, bw_mem8 177 (by decide +kernel) rfl, bw_mem8 178 (by decide +kernel) rfl, bw_mem1 13 (by decide +kernel) rfl, bw_mem8 179 (by decide +kernel) rfl, ⟨by decide, by decide, by decide +kernel⟩, by decide⟩
theorem cv_Law_174 : bw_cv "BentWordsLaw" 174 0 mX11_back := ⟨bw_mem5 115 (by decide +kernel) rfl, bw_mem5 116 (by decide +kernel) rfl, bw_mem5 117 (by decide +kernel) rfl, bw_mem1 1 (by decide +kernel) rfl, bw_mem5 118 (by decide +kernel) rfl, ⟨by decide, by decide, by decide +kernel⟩, by decide⟩
theorem cv_Law_177 : bw_cv "BentWordsLaw" 177 0 mX12_back := ⟨bw_mem8 180 (by decide +kernel) rfl, bw_mem8 181 (by decide +kernel) rfl, bw_mem8 182 (by decide +kernel) rfl, bw_mem1 13 (by decide +kernel) rfl, bw_mem8 183 (by decide +kernel) rfl, ⟨by decide, by decide, by decide +kernel⟩, by decide⟩
theorem cv_Law_178 : bw_cv "BentWordsLaw" 178 1 mX11_count := ⟨bw_mem5 119 (by decide +kernel) rfl, bw_mem5 120 (by decide +kernel) rfl, bw_mem5 121 (by decide +kernel) rfl, bw_mem1 1 (by decide +kernel) rfl, bw_mem5 122 (by decide +kernel) rfl, ⟨by decide, by decide, by decide +kernel⟩, by decide⟩
theorem cv_Law_181 : bw_cv "BentWordsLaw" 181 1 mX12_count := ⟨bw_mem8 184 (by decide +kernel) rfl, bw_mem8 185 (by decide +kernel) rfl, bw_mem8 186 (by decide +kernel) rfl, bw_mem1 13 (by decide +kernel) rfl, bw_mem8 187 (by decide +kernel) rfl, ⟨by decide, by decide, by decide +kernel⟩, by decide⟩
theorem cv_Law_47 : bw_cv "BentWordsLaw" 47 2 mX12_noun := ⟨bw_mem8 10 (by decide +kernel) rfl, bw_mem8 11 (by decide +kernel) rfl, bw_mem8 12 (by decide +kernel) rfl, bw_mem1 13 (by decide +kernel) rfl, bw_mem8 13 (by decide +kernel) rfl, ⟨by decide, by decide, by decide +kernel⟩, by decide⟩
theorem cv_Law_48 : bw_cv "BentWordsLaw" 48 0 mX12_thrown := ⟨bw_mem6 115 (by decide +kernel) rfl, bw_mem6 116 (by decide +kernel) rfl, bw_mem6 117 (by decide +kernel) rfl, bw_mem1 13 (by decide +kernel) rfl, bw_mem6 118 (by decide +kernel) rfl, ⟨by decide, by decide, by decide +kernel⟩, by decide⟩
theorem kl_Law_131 : Cond.constantLong "BentWordsLaw" 131 4294967295 ∈ bw_tbl := bw_mem8 188 (by decide +kernel) rfl
section BLC
variable {E : bw_E} {b L : Nat} {xs : Nat → Int32} {w : bw_W} {n0 k0 j K : Nat}
theorem zl_c0 (hL : L ≤ 3072) (hj : j + 6 ≤ L) (hK : K < 2 ^ 29) (hJ : bv_J K w) (hn : n0 + 1 ≤ 601024) (hk : k0 + 6 ≤ 7293034) (next : ∀ w2, bv_J (K + 40) w2 → zl_G E b L xs 1592 (zl_L (nI j)) [] w2 (n0 + 1) (k0 + 6)) : zl_G E b L xs 204 (zl_L (nI j)) [] w n0 k0 := by
  obtain ⟨r, Q1, hx, hm⟩ := bz_feed (E := E) (d := 0) (a0 := xs (j + 1)) (a1 := xs (j + 2)) (a2 := xs (j + 3)) (a3 := xs (j + 4)) (a4 := xs (j + 5)) K w hK hJ
  refine gj_aload_n (i := 1) dL_law_204 rfl rfl ?_
  refine zl_arg (k := 1) (by decide) dL_law_205 dL_law_206 dL_law_208 dL_law_209 dL_law_210 rfl rfl (by omega) hL ?_
  refine zl_arg (k := 2) (by decide) dL_law_211 dL_law_212 dL_law_214 dL_law_215 dL_law_216 rfl rfl (by omega) hL ?_
  refine zl_arg (k := 3) (by decide) dL_law_217 dL_law_218 dL_law_220 dL_law_221 dL_law_222 rfl rfl (by omega) hL ?_
  refine zl_arg (k := 4) (by decide) dL_law_223 dL_law_224 dL_law_226 dL_law_227 dL_law_228 rfl rfl (by omega) hL ?_
  refine zl_arg (k := 5) (by decide) dL_law_229 dL_law_230 dL_law_232 dL_law_233 dL_law_234 rfl rfl (by omega) hL ?_
  refine gj_callV (d := 14) (b := 0) (As := [.int (xs (j + 1)), .int (xs (j + 2)), .int (xs (j + 3)), .int (xs (j + 4)), .int (xs (j + 5))]) (st := []) cv_Law_19 rfl rfl hx rfl rfl (Nat.le_of_ble_eq_true rfl) (zl_rm hn hk) dL_law_235 (fun o w1 hv => ?_)
  obtain ⟨rfl, q1⟩ := hv
  refine gj_aload_n (i := 2) dL_law_238 rfl rfl ?_
  refine zl_arg (k := 1) (by decide) dL_law_239 dL_law_240 dL_law_242 dL_law_243 dL_law_244 rfl rfl (by omega) hL ?_
  refine zl_arg (k := 2) (by decide) dL_law_245 dL_law_246 dL_law_248 dL_law_249 dL_law_250 rfl rfl (by omega) hL ?_
  refine zl_arg (k := 3) (by decide) dL_law_251 dL_law_252 dL_law_254 dL_law_255 dL_law_256 rfl rfl (by omega) hL ?_
  refine zl_arg (k := 4) (by decide) dL_law_257 dL_law_258 dL_law_260 dL_law_261 dL_law_262 rfl rfl (by omega) hL ?_
  refine zl_arg (k := 5) (by decide) dL_law_263 dL_law_264 dL_law_266 dL_law_267 dL_law_268 rfl rfl (by omega) hL ?_
  refine gj_callV (d := 14) (b := 50) (As := [.int (xs (j + 1)), .int (xs (j + 2)), .int (xs (j + 3)), .int (xs (j + 4)), .int (xs (j + 5))]) (st := [.int r]) cv_Law_23 rfl rfl (hm w1 q1) rfl rfl (Nat.le_of_ble_eq_true rfl) (zl_rm hn hk) dL_law_269 (fun o w2 hv => ?_)
  obtain ⟨rfl, hJ2⟩ := hv
  exact gj_icmp_eq (tgt := 1592) dL_law_272 (by decide) (fun _ => gj_widen (Nat.le_add_right _ _) (Nat.le_add_right _ _) (next _ hJ2)) (fun c => absurd rfl c)
theorem zl_c1 (hL : L ≤ 3072) (hj : j + 6 ≤ L) (hK : K < 2 ^ 29) (hJ : bv_J K w) (hn : n0 + 1 ≤ 601024) (hk : k0 + 6 ≤ 7293034) (next : ∀ w2, bv_J (K + 40) w2 → zl_G E b L xs 1592 (zl_L (nI j)) [] w2 (n0 + 1) (k0 + 6)) : zl_G E b L xs 277 (zl_L (nI j)) [] w n0 k0 := by
  obtain ⟨r, Q1, hx, hm⟩ := bz_end (E := E) (d := 0) (a0 := xs (j + 1)) K w hK hJ
  refine gj_aload_n (i := 1) dL_law_277 rfl rfl ?_
  refine zl_arg (k := 1) (by decide) dL_law_278 dL_law_279 dL_law_281 dL_law_282 dL_law_283 rfl rfl (by omega) hL ?_
  refine gj_callV (d := 14) (b := 0) (As := [.int (xs (j + 1))]) (st := []) cv_Law_24 rfl rfl hx rfl rfl (Nat.le_of_ble_eq_true rfl) (zl_rm hn hk) dL_law_284 (fun o w1 hv => ?_)
  obtain ⟨rfl, q1⟩ := hv
  refine gj_aload_n (i := 2) dL_law_287 rfl rfl ?_
  refine zl_arg (k := 1) (by decide) dL_law_288 dL_law_289 dL_law_291 dL_law_292 dL_law_293 rfl rfl (by omega) hL ?_
  refine gj_callV (d := 14) (b := 50) (As := [.int (xs (j + 1))]) (st := [.int r]) cv_Law_28 rfl rfl (hm w1 q1) rfl rfl (Nat.le_of_ble_eq_true rfl) (zl_rm hn hk) dL_law_294 (fun o w2 hv => ?_)
  obtain ⟨rfl, hJ2⟩ := hv
  exact gj_icmp_eq (tgt := 1592) dL_law_297 (by decide) (fun _ => gj_widen (Nat.le_add_right _ _) (Nat.le_add_right _ _) (next _ hJ2)) (fun c => absurd rfl c)
theorem zl_c2 (hL : L ≤ 3072) (hj : j + 6 ≤ L) (hK : K < 2 ^ 29) (hJ : bv_J K w) (hn : n0 + 1 ≤ 601024) (hk : k0 + 6 ≤ 7293034) (next : ∀ w2, bv_J (K + 40) w2 → zl_G E b L xs 1592 (zl_L (nI j)) [] w2 (n0 + 1) (k0 + 6)) : zl_G E b L xs 302 (zl_L (nI j)) [] w n0 k0 := by
  obtain ⟨r, Q1, hx, hm⟩ := bz_fault (E := E) (d := 0) (a0 := xs (j + 1)) K w hK hJ
  refine gj_aload_n (i := 1) dL_law_302 rfl rfl ?_
  refine zl_arg (k := 1) (by decide) dL_law_303 dL_law_304 dL_law_306 dL_law_307 dL_law_308 rfl rfl (by omega) hL ?_
  refine gj_callV (d := 14) (b := 0) (As := [.int (xs (j + 1))]) (st := []) cv_Law_29 rfl rfl hx rfl rfl (Nat.le_of_ble_eq_true rfl) (zl_rm hn hk) dL_law_309 (fun o w1 hv => ?_)
  obtain ⟨rfl, q1⟩ := hv
  refine gj_aload_n (i := 2) dL_law_312 rfl rfl ?_
  refine zl_arg (k := 1) (by decide) dL_law_313 dL_law_314 dL_law_316 dL_law_317 dL_law_318 rfl rfl (by omega) hL ?_
  refine gj_callV (d := 14) (b := 50) (As := [.int (xs (j + 1))]) (st := [.int r]) cv_Law_33 rfl rfl (hm w1 q1) rfl rfl (Nat.le_of_ble_eq_true rfl) (zl_rm hn hk) dL_law_319 (fun o w2 hv => ?_)
  obtain ⟨rfl, hJ2⟩ := hv
  exact gj_icmp_eq (tgt := 1592) dL_law_322 (by decide) (fun _ => gj_widen (Nat.le_add_right _ _) (Nat.le_add_right _ _) (next _ hJ2)) (fun c => absurd rfl c)
theorem zl_c3 (hL : L ≤ 3072) (hj : j + 6 ≤ L) (hK : K < 2 ^ 29) (hJ : bv_J K w) (hn : n0 + 1 ≤ 601024) (hk : k0 + 6 ≤ 7293034) (next : ∀ w2, bv_J (K + 40) w2 → zl_G E b L xs 1592 (zl_L (nI j)) [] w2 (n0 + 1) (k0 + 6)) : zl_G E b L xs 327 (zl_L (nI j)) [] w n0 k0 := by
  obtain ⟨r, Q1, hx, hm⟩ := bz_text (E := E) (d := 0) (a0 := xs (j + 1)) K w hK hJ
  refine gj_aload_n (i := 1) dL_law_327 rfl rfl ?_
  refine zl_arg (k := 1) (by decide) dL_law_328 dL_law_329 dL_law_331 dL_law_332 dL_law_333 rfl rfl (by omega) hL ?_
  refine gj_callV (d := 14) (b := 0) (As := [.int (xs (j + 1))]) (st := []) cv_Law_34 rfl rfl hx rfl rfl (Nat.le_of_ble_eq_true rfl) (zl_rm hn hk) dL_law_334 (fun o w1 hv => ?_)
  obtain ⟨rfl, q1⟩ := hv
  refine gj_aload_n (i := 2) dL_law_337 rfl rfl ?_
  refine zl_arg (k := 1) (by decide) dL_law_338 dL_law_339 dL_law_341 dL_law_342 dL_law_343 rfl rfl (by omega) hL ?_
  refine gj_callV (d := 14) (b := 50) (As := [.int (xs (j + 1))]) (st := [.int r]) cv_Law_37 rfl rfl (hm w1 q1) rfl rfl (Nat.le_of_ble_eq_true rfl) (zl_rm hn hk) dL_law_344 (fun o w2 hv => ?_)
  obtain ⟨rfl, hJ2⟩ := hv
  exact gj_icmp_eq (tgt := 1592) dL_law_347 (by decide) (fun _ => gj_widen (Nat.le_add_right _ _) (Nat.le_add_right _ _) (next _ hJ2)) (fun c => absurd rfl c)
theorem zl_c4 (hL : L ≤ 3072) (hj : j + 6 ≤ L) (hK : K < 2 ^ 29) (hJ : bv_J K w) (hn : n0 + 1 ≤ 601024) (hk : k0 + 6 ≤ 7293034) (next : ∀ w2, bv_J (K + 40) w2 → zl_G E b L xs 1592 (zl_L (nI j)) [] w2 (n0 + 1) (k0 + 6)) : zl_G E b L xs 352 (zl_L (nI j)) [] w n0 k0 := by
  obtain ⟨r, Q1, hx, hm⟩ := bz_rule (E := E) (d := 0) (a0 := xs (j + 1)) K w hK hJ
  refine gj_aload_n (i := 1) dL_law_352 rfl rfl ?_
  refine zl_arg (k := 1) (by decide) dL_law_353 dL_law_354 dL_law_356 dL_law_357 dL_law_358 rfl rfl (by omega) hL ?_
  refine gj_callV (d := 14) (b := 0) (As := [.int (xs (j + 1))]) (st := []) cv_Law_38 rfl rfl hx rfl rfl (Nat.le_of_ble_eq_true rfl) (zl_rm hn hk) dL_law_359 (fun o w1 hv => ?_)
  obtain ⟨rfl, q1⟩ := hv
  refine gj_aload_n (i := 2) dL_law_362 rfl rfl ?_
  refine zl_arg (k := 1) (by decide) dL_law_363 dL_law_364 dL_law_366 dL_law_367 dL_law_368 rfl rfl (by omega) hL ?_
  refine gj_callV (d := 14) (b := 50) (As := [.int (xs (j + 1))]) (st := [.int r]) cv_Law_41 rfl rfl (hm w1 q1) rfl rfl (Nat.le_of_ble_eq_true rfl) (zl_rm hn hk) dL_law_369 (fun o w2 hv => ?_)
  obtain ⟨rfl, hJ2⟩ := hv
  exact gj_icmp_eq (tgt := 1592) dL_law_372 (by decide) (fun _ => gj_widen (Nat.le_add_right _ _) (Nat.le_add_right _ _) (next _ hJ2)) (fun c => absurd rfl c)
theorem zl_c6 (hL : L ≤ 3072) (hj : j + 6 ≤ L) (hK : K < 2 ^ 29) (hJ : bv_J K w) (hn : n0 + 1 ≤ 601024) (hk : k0 + 6 ≤ 7293034) (next : ∀ w2, bv_J (K + 40) w2 → zl_G E b L xs 1592 (zl_L (nI j)) [] w2 (n0 + 1) (k0 + 6)) : zl_G E b L xs 445 (zl_L (nI j)) [] w n0 k0 := by
  obtain ⟨r, Q1, hx, hm⟩ := bz_form (E := E) (d := 0) (a0 := xs (j + 1)) (a1 := xs (j + 2)) (a2 := xs (j + 3)) (a3 := xs (j + 4)) K w hK hJ
  refine gj_aload_n (i := 1) dL_law_445 rfl rfl ?_
  refine zl_arg (k := 1) (by decide) dL_law_446 dL_law_447 dL_law_449 dL_law_450 dL_law_451 rfl rfl (by omega) hL ?_
  refine zl_arg (k := 2) (by decide) dL_law_452 dL_law_453 dL_law_455 dL_law_456 dL_law_457 rfl rfl (by omega) hL ?_
  refine zl_arg (k := 3) (by decide) dL_law_458 dL_law_459 dL_law_461 dL_law_462 dL_law_463 rfl rfl (by omega) hL ?_
  refine zl_arg (k := 4) (by decide) dL_law_464 dL_law_465 dL_law_467 dL_law_468 dL_law_469 rfl rfl (by omega) hL ?_
  refine gj_callV (d := 14) (b := 0) (As := [.int (xs (j + 1)), .int (xs (j + 2)), .int (xs (j + 3)), .int (xs (j + 4))]) (st := []) cv_Law_52 rfl rfl hx rfl rfl (Nat.le_of_ble_eq_true rfl) (zl_rm hn hk) dL_law_470 (fun o w1 hv => ?_)
  obtain ⟨rfl, q1⟩ := hv
  refine gj_aload_n (i := 2) dL_law_473 rfl rfl ?_
  refine zl_arg (k := 1) (by decide) dL_law_474 dL_law_475 dL_law_477 dL_law_478 dL_law_479 rfl rfl (by omega) hL ?_
  refine zl_arg (k := 2) (by decide) dL_law_480 dL_law_481 dL_law_483 dL_law_484 dL_law_485 rfl rfl (by omega) hL ?_
  refine zl_arg (k := 3) (by decide) dL_law_486 dL_law_487 dL_law_489 dL_law_490 dL_law_491 rfl rfl (by omega) hL ?_
  refine zl_arg (k := 4) (by decide) dL_law_492 dL_law_493 dL_law_495 dL_law_496 dL_law_497 rfl rfl (by omega) hL ?_
  refine gj_callV (d := 14) (b := 50) (As := [.int (xs (j + 1)), .int (xs (j + 2)), .int (xs (j + 3)), .int (xs (j + 4))]) (st := [.int r]) cv_Law_56 rfl rfl (hm w1 q1) rfl rfl (Nat.le_of_ble_eq_true rfl) (zl_rm hn hk) dL_law_498 (fun o w2 hv => ?_)
  obtain ⟨rfl, hJ2⟩ := hv
  exact gj_icmp_eq (tgt := 1592) dL_law_501 (by decide) (fun _ => gj_widen (Nat.le_add_right _ _) (Nat.le_add_right _ _) (next _ hJ2)) (fun c => absurd rfl c)
theorem zl_c7 (hL : L ≤ 3072) (hj : j + 6 ≤ L) (hK : K < 2 ^ 29) (hJ : bv_J K w) (hn : n0 + 1 ≤ 601024) (hk : k0 + 6 ≤ 7293034) (next : ∀ w2, bv_J (K + 40) w2 → zl_G E b L xs 1592 (zl_L (nI j)) [] w2 (n0 + 1) (k0 + 6)) : zl_G E b L xs 506 (zl_L (nI j)) [] w n0 k0 := by
  obtain ⟨r, Q1, hx, hm⟩ := bz_def (E := E) (d := 0) (a0 := xs (j + 1)) (a1 := xs (j + 2)) (a2 := xs (j + 3)) K w hK hJ
  refine gj_aload_n (i := 1) dL_law_506 rfl rfl ?_
  refine zl_arg (k := 1) (by decide) dL_law_507 dL_law_508 dL_law_510 dL_law_511 dL_law_512 rfl rfl (by omega) hL ?_
  refine zl_arg (k := 2) (by decide) dL_law_513 dL_law_514 dL_law_516 dL_law_517 dL_law_518 rfl rfl (by omega) hL ?_
  refine zl_arg (k := 3) (by decide) dL_law_519 dL_law_520 dL_law_522 dL_law_523 dL_law_524 rfl rfl (by omega) hL ?_
  refine gj_callV (d := 14) (b := 0) (As := [.int (xs (j + 1)), .int (xs (j + 2)), .int (xs (j + 3))]) (st := []) cv_Law_57 rfl rfl hx rfl rfl (Nat.le_of_ble_eq_true rfl) (zl_rm hn hk) dL_law_525 (fun o w1 hv => ?_)
  obtain ⟨rfl, q1⟩ := hv
  refine gj_aload_n (i := 2) dL_law_528 rfl rfl ?_
  refine zl_arg (k := 1) (by decide) dL_law_529 dL_law_530 dL_law_532 dL_law_533 dL_law_534 rfl rfl (by omega) hL ?_
  refine zl_arg (k := 2) (by decide) dL_law_535 dL_law_536 dL_law_538 dL_law_539 dL_law_540 rfl rfl (by omega) hL ?_
  refine zl_arg (k := 3) (by decide) dL_law_541 dL_law_542 dL_law_544 dL_law_545 dL_law_546 rfl rfl (by omega) hL ?_
  refine gj_callV (d := 14) (b := 50) (As := [.int (xs (j + 1)), .int (xs (j + 2)), .int (xs (j + 3))]) (st := [.int r]) cv_Law_61 rfl rfl (hm w1 q1) rfl rfl (Nat.le_of_ble_eq_true rfl) (zl_rm hn hk) dL_law_547 (fun o w2 hv => ?_)
  obtain ⟨rfl, hJ2⟩ := hv
  exact gj_icmp_eq (tgt := 1592) dL_law_550 (by decide) (fun _ => gj_widen (Nat.le_add_right _ _) (Nat.le_add_right _ _) (next _ hJ2)) (fun c => absurd rfl c)
theorem zl_c8 (hL : L ≤ 3072) (hj : j + 6 ≤ L) (hK : K < 2 ^ 29) (hJ : bv_J K w) (hn : n0 + 1 ≤ 601024) (hk : k0 + 6 ≤ 7293034) (next : ∀ w2, bv_J (K + 40) w2 → zl_G E b L xs 1592 (zl_L (nI j)) [] w2 (n0 + 1) (k0 + 6)) : zl_G E b L xs 555 (zl_L (nI j)) [] w n0 k0 := by
  obtain ⟨r, Q1, hx, hm⟩ := bz_word (E := E) (d := 0) (p := (decide (¬ xs (j + 1) = 0))) (a1 := xs (j + 2)) (a2 := xs (j + 3)) (a3 := xs (j + 4)) (a4 := xs (j + 5)) K w hK hJ
  refine gj_aload_n (i := 1) dL_law_555 rfl rfl ?_
  refine zl_arg (k := 1) (by decide) dL_law_556 dL_law_557 dL_law_559 dL_law_560 dL_law_561 rfl rfl (by omega) hL ?_
  refine zl_bool dL_law_562 dL_law_565 dL_law_566 dL_law_569 ?_
  refine zl_arg (k := 2) (by decide) dL_law_570 dL_law_571 dL_law_573 dL_law_574 dL_law_575 rfl rfl (by omega) hL ?_
  refine zl_arg (k := 3) (by decide) dL_law_576 dL_law_577 dL_law_579 dL_law_580 dL_law_581 rfl rfl (by omega) hL ?_
  refine zl_arg (k := 4) (by decide) dL_law_582 dL_law_583 dL_law_585 dL_law_586 dL_law_587 rfl rfl (by omega) hL ?_
  refine zl_arg (k := 5) (by decide) dL_law_588 dL_law_589 dL_law_591 dL_law_592 dL_law_593 rfl rfl (by omega) hL ?_
  refine gj_callV (d := 14) (b := 0) (As := [.int (bw_b (decide (¬ xs (j + 1) = 0))), .int (xs (j + 2)), .int (xs (j + 3)), .int (xs (j + 4)), .int (xs (j + 5))]) (st := []) cv_Law_62 rfl rfl hx rfl rfl (Nat.le_of_ble_eq_true rfl) (zl_rm hn hk) dL_law_594 (fun o w1 hv => ?_)
  obtain ⟨rfl, q1⟩ := hv
  refine gj_aload_n (i := 2) dL_law_597 rfl rfl ?_
  refine zl_arg (k := 1) (by decide) dL_law_598 dL_law_599 dL_law_601 dL_law_602 dL_law_603 rfl rfl (by omega) hL ?_
  refine zl_bool dL_law_604 dL_law_607 dL_law_608 dL_law_611 ?_
  refine zl_arg (k := 2) (by decide) dL_law_612 dL_law_613 dL_law_615 dL_law_616 dL_law_617 rfl rfl (by omega) hL ?_
  refine zl_arg (k := 3) (by decide) dL_law_618 dL_law_619 dL_law_621 dL_law_622 dL_law_623 rfl rfl (by omega) hL ?_
  refine zl_arg (k := 4) (by decide) dL_law_624 dL_law_625 dL_law_627 dL_law_628 dL_law_629 rfl rfl (by omega) hL ?_
  refine zl_arg (k := 5) (by decide) dL_law_630 dL_law_631 dL_law_633 dL_law_634 dL_law_635 rfl rfl (by omega) hL ?_
  refine gj_callV (d := 14) (b := 50) (As := [.int (bw_b (decide (¬ xs (j + 1) = 0))), .int (xs (j + 2)), .int (xs (j + 3)), .int (xs (j + 4)), .int (xs (j + 5))]) (st := [.int r]) cv_Law_66 rfl rfl (hm w1 q1) rfl rfl (Nat.le_of_ble_eq_true rfl) (zl_rm hn hk) dL_law_636 (fun o w2 hv => ?_)
  obtain ⟨rfl, hJ2⟩ := hv
  exact gj_icmp_eq (tgt := 1592) dL_law_639 (by decide) (fun _ => gj_widen (Nat.le_add_right _ _) (Nat.le_add_right _ _) (next _ hJ2)) (fun c => absurd rfl c)
theorem zl_c9 (hL : L ≤ 3072) (hj : j + 6 ≤ L) (hK : K < 2 ^ 29) (hJ : bv_J K w) (hn : n0 + 1 ≤ 601024) (hk : k0 + 6 ≤ 7293034) (next : ∀ w2, bv_J (K + 40) w2 → zl_G E b L xs 1592 (zl_L (nI j)) [] w2 (n0 + 1) (k0 + 6)) : zl_G E b L xs 644 (zl_L (nI j)) [] w n0 k0 := by
  obtain ⟨r, Q1, hx, hm⟩ := bz_hole (E := E) (d := 0) (a0 := xs (j + 1)) (a1 := xs (j + 2)) K w hK hJ
  refine gj_aload_n (i := 1) dL_law_644 rfl rfl ?_
  refine zl_arg (k := 1) (by decide) dL_law_645 dL_law_646 dL_law_648 dL_law_649 dL_law_650 rfl rfl (by omega) hL ?_
  refine zl_arg (k := 2) (by decide) dL_law_651 dL_law_652 dL_law_654 dL_law_655 dL_law_656 rfl rfl (by omega) hL ?_
  refine gj_callV (d := 14) (b := 0) (As := [.int (xs (j + 1)), .int (xs (j + 2))]) (st := []) cv_Law_67 rfl rfl hx rfl rfl (Nat.le_of_ble_eq_true rfl) (zl_rm hn hk) dL_law_657 (fun o w1 hv => ?_)
  obtain ⟨rfl, q1⟩ := hv
  refine gj_aload_n (i := 2) dL_law_660 rfl rfl ?_
  refine zl_arg (k := 1) (by decide) dL_law_661 dL_law_662 dL_law_664 dL_law_665 dL_law_666 rfl rfl (by omega) hL ?_
  refine zl_arg (k := 2) (by decide) dL_law_667 dL_law_668 dL_law_670 dL_law_671 dL_law_672 rfl rfl (by omega) hL ?_
  refine gj_callV (d := 14) (b := 50) (As := [.int (xs (j + 1)), .int (xs (j + 2))]) (st := [.int r]) cv_Law_70 rfl rfl (hm w1 q1) rfl rfl (Nat.le_of_ble_eq_true rfl) (zl_rm hn hk) dL_law_673 (fun o w2 hv => ?_)
  obtain ⟨rfl, hJ2⟩ := hv
  exact gj_icmp_eq (tgt := 1592) dL_law_676 (by decide) (fun _ => gj_widen (Nat.le_add_right _ _) (Nat.le_add_right _ _) (next _ hJ2)) (fun c => absurd rfl c)
theorem zl_c10 (hL : L ≤ 3072) (hj : j + 6 ≤ L) (hK : K < 2 ^ 29) (hJ : bv_J K w) (hn : n0 + 1 ≤ 601024) (hk : k0 + 6 ≤ 7293034) (next : ∀ w2, bv_J (K + 40) w2 → zl_G E b L xs 1592 (zl_L (nI j)) [] w2 (n0 + 1) (k0 + 6)) : zl_G E b L xs 681 (zl_L (nI j)) [] w n0 k0 := by
  obtain ⟨r, Q1, hx, hm⟩ := bz_msg (E := E) (d := 0) (a0 := xs (j + 1)) (a1 := xs (j + 2)) K w hK hJ
  refine gj_aload_n (i := 1) dL_law_681 rfl rfl ?_
  refine zl_arg (k := 1) (by decide) dL_law_682 dL_law_683 dL_law_685 dL_law_686 dL_law_687 rfl rfl (by omega) hL ?_
  refine zl_arg (k := 2) (by decide) dL_law_688 dL_law_689 dL_law_691 dL_law_692 dL_law_693 rfl rfl (by omega) hL ?_
  refine gj_callV (d := 14) (b := 0) (As := [.int (xs (j + 1)), .int (xs (j + 2))]) (st := []) cv_Law_71 rfl rfl hx rfl rfl (Nat.le_of_ble_eq_true rfl) (zl_rm hn hk) dL_law_694 (fun o w1 hv => ?_)
  obtain ⟨rfl, q1⟩ := hv
  refine gj_aload_n (i := 2) dL_law_697 rfl rfl ?_
  refine zl_arg (k := 1) (by decide) dL_law_698 dL_law_699 dL_law_701 dL_law_702 dL_law_703 rfl rfl (by omega) hL ?_
  refine zl_arg (k := 2) (by decide) dL_law_704 dL_law_705 dL_law_707 dL_law_708 dL_law_709 rfl rfl (by omega) hL ?_
  refine gj_callV (d := 14) (b := 50) (As := [.int (xs (j + 1)), .int (xs (j + 2))]) (st := [.int r]) cv_Law_74 rfl rfl (hm w1 q1) rfl rfl (Nat.le_of_ble_eq_true rfl) (zl_rm hn hk) dL_law_710 (fun o w2 hv => ?_)
  obtain ⟨rfl, hJ2⟩ := hv
  exact gj_icmp_eq (tgt := 1592) dL_law_713 (by decide) (fun _ => gj_widen (Nat.le_add_right _ _) (Nat.le_add_right _ _) (next _ hJ2)) (fun c => absurd rfl c)
theorem zl_c11 (hL : L ≤ 3072) (hj : j + 6 ≤ L) (hK : K < 2 ^ 29) (hJ : bv_J K w) (hn : n0 + 1 ≤ 601024) (hk : k0 + 6 ≤ 7293034) (next : ∀ w2, bv_J (K + 40) w2 → zl_G E b L xs 1592 (zl_L (nI j)) [] w2 (n0 + 1) (k0 + 6)) : zl_G E b L xs 718 (zl_L (nI j)) [] w n0 k0 := by
  obtain ⟨r, Q1, hx, hm⟩ := bz_told (E := E) (d := 0) (a0 := xs (j + 1)) (a1 := xs (j + 2)) K w hK hJ
  refine gj_aload_n (i := 1) dL_law_718 rfl rfl ?_
  refine zl_arg (k := 1) (by decide) dL_law_719 dL_law_720 dL_law_722 dL_law_723 dL_law_724 rfl rfl (by omega) hL ?_
  refine zl_arg (k := 2) (by decide) dL_law_725 dL_law_726 dL_law_728 dL_law_729 dL_law_730 rfl rfl (by omega) hL ?_
  refine gj_callV (d := 14) (b := 0) (As := [.int (xs (j + 1)), .int (xs (j + 2))]) (st := []) cv_Law_75 rfl rfl hx rfl rfl (Nat.le_of_ble_eq_true rfl) (zl_rm hn hk) dL_law_731 (fun o w1 hv => ?_)
  obtain ⟨rfl, q1⟩ := hv
  refine gj_aload_n (i := 2) dL_law_734 rfl rfl ?_
  refine zl_arg (k := 1) (by decide) dL_law_735 dL_law_736 dL_law_738 dL_law_739 dL_law_740 rfl rfl (by omega) hL ?_
  refine zl_arg (k := 2) (by decide) dL_law_741 dL_law_742 dL_law_744 dL_law_745 dL_law_746 rfl rfl (by omega) hL ?_
  refine gj_callV (d := 14) (b := 50) (As := [.int (xs (j + 1)), .int (xs (j + 2))]) (st := [.int r]) cv_Law_78 rfl rfl (hm w1 q1) rfl rfl (Nat.le_of_ble_eq_true rfl) (zl_rm hn hk) dL_law_747 (fun o w2 hv => ?_)
  obtain ⟨rfl, hJ2⟩ := hv
  exact gj_icmp_eq (tgt := 1592) dL_law_750 (by decide) (fun _ => gj_widen (Nat.le_add_right _ _) (Nat.le_add_right _ _) (next _ hJ2)) (fun c => absurd rfl c)
theorem zl_c12 (hL : L ≤ 3072) (hj : j + 6 ≤ L) (hK : K < 2 ^ 29) (hJ : bv_J K w) (hn : n0 + 1 ≤ 601024) (hk : k0 + 6 ≤ 7293034) (next : ∀ w2, bv_J (K + 40) w2 → zl_G E b L xs 1592 (zl_L (nI j)) [] w2 (n0 + 1) (k0 + 6)) : zl_G E b L xs 755 (zl_L (nI j)) [] w n0 k0 := by
  obtain ⟨r, Q1, hx, hm⟩ := bz_why (E := E) (d := 0) (a0 := xs (j + 1)) (a1 := xs (j + 2)) K w hK hJ
  refine gj_aload_n (i := 1) dL_law_755 rfl rfl ?_
  refine zl_arg (k := 1) (by decide) dL_law_756 dL_law_757 dL_law_759 dL_law_760 dL_law_761 rfl rfl (by omega) hL ?_
  refine zl_arg (k := 2) (by decide) dL_law_762 dL_law_763 dL_law_765 dL_law_766 dL_law_767 rfl rfl (by omega) hL ?_
  refine gj_callV (d := 14) (b := 0) (As := [.int (xs (j + 1)), .int (xs (j + 2))]) (st := []) cv_Law_79 rfl rfl hx rfl rfl (Nat.le_of_ble_eq_true rfl) (zl_rm hn hk) dL_law_768 (fun o w1 hv => ?_)
  obtain ⟨rfl, q1⟩ := hv
  refine gj_aload_n (i := 2) dL_law_771 rfl rfl ?_
  refine zl_arg (k := 1) (by decide) dL_law_772 dL_law_773 dL_law_775 dL_law_776 dL_law_777 rfl rfl (by omega) hL ?_
  refine zl_arg (k := 2) (by decide) dL_law_778 dL_law_779 dL_law_781 dL_law_782 dL_law_783 rfl rfl (by omega) hL ?_
  refine gj_callV (d := 14) (b := 50) (As := [.int (xs (j + 1)), .int (xs (j + 2))]) (st := [.int r]) cv_Law_82 rfl rfl (hm w1 q1) rfl rfl (Nat.le_of_ble_eq_true rfl) (zl_rm hn hk) dL_law_784 (fun o w2 hv => ?_)
  obtain ⟨rfl, hJ2⟩ := hv
  exact gj_icmp_eq (tgt := 1592) dL_law_787 (by decide) (fun _ => gj_widen (Nat.le_add_right _ _) (Nat.le_add_right _ _) (next _ hJ2)) (fun c => absurd rfl c)
theorem zl_c13 (hL : L ≤ 3072) (hj : j + 6 ≤ L) (hK : K < 2 ^ 29) (hJ : bv_J K w) (hn : n0 + 1 ≤ 601024) (hk : k0 + 6 ≤ 7293034) (next : ∀ w2, bv_J (K + 40) w2 → zl_G E b L xs 1592 (zl_L (nI j)) [] w2 (n0 + 1) (k0 + 6)) : zl_G E b L xs 792 (zl_L (nI j)) [] w n0 k0 := by
  obtain ⟨r, Q1, hx, hm⟩ := bz_miss (E := E) (d := 0) (a0 := xs (j + 1)) (a1 := xs (j + 2)) (a2 := xs (j + 3)) K w hK hJ
  refine gj_aload_n (i := 1) dL_law_792 rfl rfl ?_
  refine zl_arg (k := 1) (by decide) dL_law_793 dL_law_794 dL_law_796 dL_law_797 dL_law_798 rfl rfl (by omega) hL ?_
  refine zl_arg (k := 2) (by decide) dL_law_799 dL_law_800 dL_law_802 dL_law_803 dL_law_804 rfl rfl (by omega) hL ?_
  refine zl_arg (k := 3) (by decide) dL_law_805 dL_law_806 dL_law_808 dL_law_809 dL_law_810 rfl rfl (by omega) hL ?_
  refine gj_callV (d := 14) (b := 0) (As := [.int (xs (j + 1)), .int (xs (j + 2)), .int (xs (j + 3))]) (st := []) cv_Law_83 rfl rfl hx rfl rfl (Nat.le_of_ble_eq_true rfl) (zl_rm hn hk) dL_law_811 (fun o w1 hv => ?_)
  obtain ⟨rfl, q1⟩ := hv
  refine gj_aload_n (i := 2) dL_law_814 rfl rfl ?_
  refine zl_arg (k := 1) (by decide) dL_law_815 dL_law_816 dL_law_818 dL_law_819 dL_law_820 rfl rfl (by omega) hL ?_
  refine zl_arg (k := 2) (by decide) dL_law_821 dL_law_822 dL_law_824 dL_law_825 dL_law_826 rfl rfl (by omega) hL ?_
  refine zl_arg (k := 3) (by decide) dL_law_827 dL_law_828 dL_law_830 dL_law_831 dL_law_832 rfl rfl (by omega) hL ?_
  refine gj_callV (d := 14) (b := 50) (As := [.int (xs (j + 1)), .int (xs (j + 2)), .int (xs (j + 3))]) (st := [.int r]) cv_Law_86 rfl rfl (hm w1 q1) rfl rfl (Nat.le_of_ble_eq_true rfl) (zl_rm hn hk) dL_law_833 (fun o w2 hv => ?_)
  obtain ⟨rfl, hJ2⟩ := hv
  exact gj_icmp_eq (tgt := 1592) dL_law_836 (by decide) (fun _ => gj_widen (Nat.le_add_right _ _) (Nat.le_add_right _ _) (next _ hJ2)) (fun c => absurd rfl c)
theorem zl_c14 (hL : L ≤ 3072) (hj : j + 6 ≤ L) (hK : K < 2 ^ 29) (hJ : bv_J K w) (hn : n0 + 1 ≤ 601024) (hk : k0 + 6 ≤ 7293034) (next : ∀ w2, bv_J (K + 40) w2 → zl_G E b L xs 1592 (zl_L (nI j)) [] w2 (n0 + 1) (k0 + 6)) : zl_G E b L xs 841 (zl_L (nI j)) [] w n0 k0 := by
  obtain ⟨r, Q1, hx, hm⟩ := bz_bare (E := E) (d := 0) (a0 := xs (j + 1)) K w hK hJ
  refine gj_aload_n (i := 1) dL_law_841 rfl rfl ?_
  refine zl_arg (k := 1) (by decide) dL_law_842 dL_law_843 dL_law_845 dL_law_846 dL_law_847 rfl rfl (by omega) hL ?_
  refine gj_callV (d := 14) (b := 0) (As := [.int (xs (j + 1))]) (st := []) cv_Law_87 rfl rfl hx rfl rfl (Nat.le_of_ble_eq_true rfl) (zl_rm hn hk) dL_law_848 (fun o w1 hv => ?_)
  obtain ⟨rfl, q1⟩ := hv
  refine gj_aload_n (i := 2) dL_law_851 rfl rfl ?_
  refine zl_arg (k := 1) (by decide) dL_law_852 dL_law_853 dL_law_855 dL_law_856 dL_law_857 rfl rfl (by omega) hL ?_
  refine gj_callV (d := 14) (b := 50) (As := [.int (xs (j + 1))]) (st := [.int r]) cv_Law_90 rfl rfl (hm w1 q1) rfl rfl (Nat.le_of_ble_eq_true rfl) (zl_rm hn hk) dL_law_858 (fun o w2 hv => ?_)
  obtain ⟨rfl, hJ2⟩ := hv
  exact gj_icmp_eq (tgt := 1592) dL_law_861 (by decide) (fun _ => gj_widen (Nat.le_add_right _ _) (Nat.le_add_right _ _) (next _ hJ2)) (fun c => absurd rfl c)
theorem zl_c15 (hL : L ≤ 3072) (hj : j + 6 ≤ L) (hK : K < 2 ^ 29) (hJ : bv_J K w) (hn : n0 + 1 ≤ 601024) (hk : k0 + 6 ≤ 7293034) (next : ∀ w2, bv_J (K + 40) w2 → zl_G E b L xs 1592 (zl_L (nI j)) [] w2 (n0 + 1) (k0 + 6)) : zl_G E b L xs 866 (zl_L (nI j)) [] w n0 k0 := by
  obtain ⟨r, Q1, hx, hm⟩ := bz_fits (E := E) (d := 0) (a0 := xs (j + 1)) (a1 := xs (j + 2)) K w hK hJ
  refine gj_aload_n (i := 1) dL_law_866 rfl rfl ?_
  refine zl_arg (k := 1) (by decide) dL_law_867 dL_law_868 dL_law_870 dL_law_871 dL_law_872 rfl rfl (by omega) hL ?_
  refine zl_arg (k := 2) (by decide) dL_law_873 dL_law_874 dL_law_876 dL_law_877 dL_law_878 rfl rfl (by omega) hL ?_
  refine gj_callV (d := 14) (b := 0) (As := [.int (xs (j + 1)), .int (xs (j + 2))]) (st := []) cv_Law_91 rfl rfl hx rfl rfl (Nat.le_of_ble_eq_true rfl) (zl_rm hn hk) dL_law_879 (fun o w1 hv => ?_)
  obtain ⟨rfl, q1⟩ := hv
  refine gj_aload_n (i := 2) dL_law_882 rfl rfl ?_
  refine zl_arg (k := 1) (by decide) dL_law_883 dL_law_884 dL_law_886 dL_law_887 dL_law_888 rfl rfl (by omega) hL ?_
  refine zl_arg (k := 2) (by decide) dL_law_889 dL_law_890 dL_law_892 dL_law_893 dL_law_894 rfl rfl (by omega) hL ?_
  refine gj_callV (d := 14) (b := 50) (As := [.int (xs (j + 1)), .int (xs (j + 2))]) (st := [.int r]) cv_Law_94 rfl rfl (hm w1 q1) rfl rfl (Nat.le_of_ble_eq_true rfl) (zl_rm hn hk) dL_law_895 (fun o w2 hv => ?_)
  obtain ⟨rfl, hJ2⟩ := hv
  exact gj_icmp_eq (tgt := 1592) dL_law_898 (by decide) (fun _ => gj_widen (Nat.le_add_right _ _) (Nat.le_add_right _ _) (next _ hJ2)) (fun c => absurd rfl c)
theorem zl_c16 (hL : L ≤ 3072) (hj : j + 6 ≤ L) (hK : K < 2 ^ 29) (hJ : bv_J K w) (hn : n0 + 1 ≤ 601024) (hk : k0 + 6 ≤ 7293034) (next : ∀ w2, bv_J (K + 40) w2 → zl_G E b L xs 1592 (zl_L (nI j)) [] w2 (n0 + 1) (k0 + 6)) : zl_G E b L xs 903 (zl_L (nI j)) [] w n0 k0 := by
  obtain ⟨r, Q1, hx, hm⟩ := bz_needs (E := E) (d := 0) (a0 := xs (j + 1)) K w hK hJ
  refine gj_aload_n (i := 1) dL_law_903 rfl rfl ?_
  refine zl_arg (k := 1) (by decide) dL_law_904 dL_law_905 dL_law_907 dL_law_908 dL_law_909 rfl rfl (by omega) hL ?_
  refine gj_callV (d := 14) (b := 0) (As := [.int (xs (j + 1))]) (st := []) cv_Law_95 rfl rfl hx rfl rfl (Nat.le_of_ble_eq_true rfl) (zl_rm hn hk) dL_law_910 (fun o w1 hv => ?_)
  obtain ⟨rfl, q1⟩ := hv
  refine gj_aload_n (i := 2) dL_law_913 rfl rfl ?_
  refine zl_arg (k := 1) (by decide) dL_law_914 dL_law_915 dL_law_917 dL_law_918 dL_law_919 rfl rfl (by omega) hL ?_
  refine gj_callV (d := 14) (b := 50) (As := [.int (xs (j + 1))]) (st := [.int r]) cv_Law_98 rfl rfl (hm w1 q1) rfl rfl (Nat.le_of_ble_eq_true rfl) (zl_rm hn hk) dL_law_920 (fun o w2 hv => ?_)
  obtain ⟨rfl, hJ2⟩ := hv
  exact gj_icmp_eq (tgt := 1592) dL_law_923 (by decide) (fun _ => gj_widen (Nat.le_add_right _ _) (Nat.le_add_right _ _) (next _ hJ2)) (fun c => absurd rfl c)
theorem zl_c17 (hL : L ≤ 3072) (hj : j + 6 ≤ L) (hK : K < 2 ^ 29) (hJ : bv_J K w) (hn : n0 + 1 ≤ 601024) (hk : k0 + 6 ≤ 7293034) (next : ∀ w2, bv_J (K + 40) w2 → zl_G E b L xs 1592 (zl_L (nI j)) [] w2 (n0 + 1) (k0 + 6)) : zl_G E b L xs 928 (zl_L (nI j)) [] w n0 k0 := by
  obtain ⟨r, Q1, hx, hm⟩ := bz_alike (E := E) (d := 0) (a0 := xs (j + 1)) K w hK hJ
  refine gj_aload_n (i := 1) dL_law_928 rfl rfl ?_
  refine zl_arg (k := 1) (by decide) dL_law_929 dL_law_930 dL_law_932 dL_law_933 dL_law_934 rfl rfl (by omega) hL ?_
  refine gj_callV (d := 14) (b := 0) (As := [.int (xs (j + 1))]) (st := []) cv_Law_99 rfl rfl hx rfl rfl (Nat.le_of_ble_eq_true rfl) (zl_rm hn hk) dL_law_935 (fun o w1 hv => ?_)
  obtain ⟨rfl, q1⟩ := hv
  refine gj_aload_n (i := 2) dL_law_938 rfl rfl ?_
  refine zl_arg (k := 1) (by decide) dL_law_939 dL_law_940 dL_law_942 dL_law_943 dL_law_944 rfl rfl (by omega) hL ?_
  refine gj_callV (d := 14) (b := 50) (As := [.int (xs (j + 1))]) (st := [.int r]) cv_Law_102 rfl rfl (hm w1 q1) rfl rfl (Nat.le_of_ble_eq_true rfl) (zl_rm hn hk) dL_law_945 (fun o w2 hv => ?_)
  obtain ⟨rfl, hJ2⟩ := hv
  exact gj_icmp_eq (tgt := 1592) dL_law_948 (by decide) (fun _ => gj_widen (Nat.le_add_right _ _) (Nat.le_add_right _ _) (next _ hJ2)) (fun c => absurd rfl c)
theorem zl_c18 (hL : L ≤ 3072) (hj : j + 6 ≤ L) (hK : K < 2 ^ 29) (hJ : bv_J K w) (hn : n0 + 1 ≤ 601024) (hk : k0 + 6 ≤ 7293034) (next : ∀ w2, bv_J (K + 40) w2 → zl_G E b L xs 1592 (zl_L (nI j)) [] w2 (n0 + 1) (k0 + 6)) : zl_G E b L xs 953 (zl_L (nI j)) [] w n0 k0 := by
  obtain ⟨r, Q1, hx, hm⟩ := bz_can (E := E) (d := 0) (a0 := xs (j + 1)) K w hK hJ
  refine gj_aload_n (i := 1) dL_law_953 rfl rfl ?_
  refine zl_arg (k := 1) (by decide) dL_law_954 dL_law_955 dL_law_957 dL_law_958 dL_law_959 rfl rfl (by omega) hL ?_
  refine gj_callV (d := 14) (b := 0) (As := [.int (xs (j + 1))]) (st := []) cv_Law_103 rfl rfl hx rfl rfl (Nat.le_of_ble_eq_true rfl) (zl_rm hn hk) dL_law_960 (fun o w1 hv => ?_)
  obtain ⟨rfl, q1⟩ := hv
  refine gj_aload_n (i := 2) dL_law_963 rfl rfl ?_
  refine zl_arg (k := 1) (by decide) dL_law_964 dL_law_965 dL_law_967 dL_law_968 dL_law_969 rfl rfl (by omega) hL ?_
  refine gj_callV (d := 14) (b := 50) (As := [.int (xs (j + 1))]) (st := [.int r]) cv_Law_106 rfl rfl (hm w1 q1) rfl rfl (Nat.le_of_ble_eq_true rfl) (zl_rm hn hk) dL_law_970 (fun o w2 hv => ?_)
  obtain ⟨rfl, hJ2⟩ := hv
  exact gj_icmp_eq (tgt := 1592) dL_law_973 (by decide) (fun _ => gj_widen (Nat.le_add_right _ _) (Nat.le_add_right _ _) (next _ hJ2)) (fun c => absurd rfl c)
theorem zl_c19 (hL : L ≤ 3072) (hj : j + 6 ≤ L) (hK : K < 2 ^ 29) (hJ : bv_J K w) (hn : n0 + 1 ≤ 601024) (hk : k0 + 6 ≤ 7293034) (next : ∀ w2, bv_J (K + 40) w2 → zl_G E b L xs 1592 (zl_L (nI j)) [] w2 (n0 + 1) (k0 + 6)) : zl_G E b L xs 978 (zl_L (nI j)) [] w n0 k0 := by
  obtain ⟨r, Q1, hx, hm⟩ := bz_guess (E := E) (d := 0) (a0 := xs (j + 1)) (a1 := xs (j + 2)) K w hK hJ
  refine gj_aload_n (i := 1) dL_law_978 rfl rfl ?_
  refine zl_arg (k := 1) (by decide) dL_law_979 dL_law_980 dL_law_982 dL_law_983 dL_law_984 rfl rfl (by omega) hL ?_
  refine zl_arg (k := 2) (by decide) dL_law_985 dL_law_986 dL_law_988 dL_law_989 dL_law_990 rfl rfl (by omega) hL ?_
  refine gj_callV (d := 14) (b := 0) (As := [.int (xs (j + 1)), .int (xs (j + 2))]) (st := []) cv_Law_107 rfl rfl hx rfl rfl (Nat.le_of_ble_eq_true rfl) (zl_rm hn hk) dL_law_991 (fun o w1 hv => ?_)
  obtain ⟨rfl, q1⟩ := hv
  refine gj_aload_n (i := 2) dL_law_994 rfl rfl ?_
  refine zl_arg (k := 1) (by decide) dL_law_995 dL_law_996 dL_law_998 dL_law_999 dL_law_1000 rfl rfl (by omega) hL ?_
  refine zl_arg (k := 2) (by decide) dL_law_1001 dL_law_1002 dL_law_1004 dL_law_1005 dL_law_1006 rfl rfl (by omega) hL ?_
  refine gj_callV (d := 14) (b := 50) (As := [.int (xs (j + 1)), .int (xs (j + 2))]) (st := [.int r]) cv_Law_110 rfl rfl (hm w1 q1) rfl rfl (Nat.le_of_ble_eq_true rfl) (zl_rm hn hk) dL_law_1007 (fun o w2 hv => ?_)
  obtain ⟨rfl, hJ2⟩ := hv
  exact gj_icmp_eq (tgt := 1592) dL_law_1010 (by decide) (fun _ => gj_widen (Nat.le_add_right _ _) (Nat.le_add_right _ _) (next _ hJ2)) (fun c => absurd rfl c)
theorem zl_c20 (hL : L ≤ 3072) (hj : j + 6 ≤ L) (hK : K < 2 ^ 29) (hJ : bv_J K w) (hn : n0 + 1 ≤ 601024) (hk : k0 + 6 ≤ 7293034) (next : ∀ w2, bv_J (K + 40) w2 → zl_G E b L xs 1592 (zl_L (nI j)) [] w2 (n0 + 1) (k0 + 6)) : zl_G E b L xs 1015 (zl_L (nI j)) [] w n0 k0 := by
  obtain ⟨r, Q1, hx, hm⟩ := bz_fill (E := E) (d := 0) (a0 := xs (j + 1)) (a1 := xs (j + 2)) (a2 := xs (j + 3)) K w hK hJ
  refine gj_aload_n (i := 1) dL_law_1015 rfl rfl ?_
  refine zl_arg (k := 1) (by decide) dL_law_1016 dL_law_1017 dL_law_1019 dL_law_1020 dL_law_1021 rfl rfl (by omega) hL ?_
  refine zl_arg (k := 2) (by decide) dL_law_1022 dL_law_1023 dL_law_1025 dL_law_1026 dL_law_1027 rfl rfl (by omega) hL ?_
  refine zl_arg (k := 3) (by decide) dL_law_1028 dL_law_1029 dL_law_1031 dL_law_1032 dL_law_1033 rfl rfl (by omega) hL ?_
  refine gj_callV (d := 14) (b := 0) (As := [.int (xs (j + 1)), .int (xs (j + 2)), .int (xs (j + 3))]) (st := []) cv_Law_111 rfl rfl hx rfl rfl (Nat.le_of_ble_eq_true rfl) (zl_rm hn hk) dL_law_1034 (fun o w1 hv => ?_)
  obtain ⟨rfl, q1⟩ := hv
  refine gj_aload_n (i := 2) dL_law_1037 rfl rfl ?_
  refine zl_arg (k := 1) (by decide) dL_law_1038 dL_law_1039 dL_law_1041 dL_law_1042 dL_law_1043 rfl rfl (by omega) hL ?_
  refine zl_arg (k := 2) (by decide) dL_law_1044 dL_law_1045 dL_law_1047 dL_law_1048 dL_law_1049 rfl rfl (by omega) hL ?_
  refine zl_arg (k := 3) (by decide) dL_law_1050 dL_law_1051 dL_law_1053 dL_law_1054 dL_law_1055 rfl rfl (by omega) hL ?_
  refine gj_callV (d := 14) (b := 50) (As := [.int (xs (j + 1)), .int (xs (j + 2)), .int (xs (j + 3))]) (st := [.int r]) cv_Law_114 rfl rfl (hm w1 q1) rfl rfl (Nat.le_of_ble_eq_true rfl) (zl_rm hn hk) dL_law_1056 (fun o w2 hv => ?_)
  obtain ⟨rfl, hJ2⟩ := hv
  exact gj_icmp_eq (tgt := 1592) dL_law_1059 (by decide) (fun _ => gj_widen (Nat.le_add_right _ _) (Nat.le_add_right _ _) (next _ hJ2)) (fun c => absurd rfl c)
theorem zl_c21 (hL : L ≤ 3072) (hj : j + 6 ≤ L) (hK : K < 2 ^ 29) (hJ : bv_J K w) (hn : n0 + 1 ≤ 601024) (hk : k0 + 6 ≤ 7293034) (next : ∀ w2, bv_J (K + 40) w2 → zl_G E b L xs 1592 (zl_L (nI j)) [] w2 (n0 + 1) (k0 + 6)) : zl_G E b L xs 1064 (zl_L (nI j)) [] w n0 k0 := by
  obtain ⟨r, Q1, hx, hm⟩ := bz_empty (E := E) (d := 0) (a0 := xs (j + 1)) K w hK hJ
  refine gj_aload_n (i := 1) dL_law_1064 rfl rfl ?_
  refine zl_arg (k := 1) (by decide) dL_law_1065 dL_law_1066 dL_law_1068 dL_law_1069 dL_law_1070 rfl rfl (by omega) hL ?_
  refine gj_callV (d := 14) (b := 0) (As := [.int (xs (j + 1))]) (st := []) cv_Law_115 rfl rfl hx rfl rfl (Nat.le_of_ble_eq_true rfl) (zl_rm hn hk) dL_law_1071 (fun o w1 hv => ?_)
  obtain ⟨rfl, q1⟩ := hv
  refine gj_aload_n (i := 2) dL_law_1074 rfl rfl ?_
  refine zl_arg (k := 1) (by decide) dL_law_1075 dL_law_1076 dL_law_1078 dL_law_1079 dL_law_1080 rfl rfl (by omega) hL ?_
  refine gj_callV (d := 14) (b := 50) (As := [.int (xs (j + 1))]) (st := [.int r]) cv_Law_118 rfl rfl (hm w1 q1) rfl rfl (Nat.le_of_ble_eq_true rfl) (zl_rm hn hk) dL_law_1081 (fun o w2 hv => ?_)
  obtain ⟨rfl, hJ2⟩ := hv
  exact gj_icmp_eq (tgt := 1592) dL_law_1084 (by decide) (fun _ => gj_widen (Nat.le_add_right _ _) (Nat.le_add_right _ _) (next _ hJ2)) (fun c => absurd rfl c)
theorem zl_c22 (hL : L ≤ 3072) (hj : j + 6 ≤ L) (hK : K < 2 ^ 29) (hJ : bv_J K w) (hn : n0 + 1 ≤ 601024) (hk : k0 + 6 ≤ 7293034) (next : ∀ w2, bv_J (K + 40) w2 → zl_G E b L xs 1592 (zl_L (nI j)) [] w2 (n0 + 1) (k0 + 6)) : zl_G E b L xs 1089 (zl_L (nI j)) [] w n0 k0 := by
  obtain ⟨r, Q1, hx, hm⟩ := bz_strict (E := E) (d := 0) (a0 := xs (j + 1)) K w hK hJ
  refine gj_aload_n (i := 1) dL_law_1089 rfl rfl ?_
  refine zl_arg (k := 1) (by decide) dL_law_1090 dL_law_1091 dL_law_1093 dL_law_1094 dL_law_1095 rfl rfl (by omega) hL ?_
  refine gj_callV (d := 14) (b := 0) (As := [.int (xs (j + 1))]) (st := []) cv_Law_119 rfl rfl hx rfl rfl (Nat.le_of_ble_eq_true rfl) (zl_rm hn hk) dL_law_1096 (fun o w1 hv => ?_)
  obtain ⟨rfl, q1⟩ := hv
  refine gj_aload_n (i := 2) dL_law_1099 rfl rfl ?_
  refine zl_arg (k := 1) (by decide) dL_law_1100 dL_law_1101 dL_law_1103 dL_law_1104 dL_law_1105 rfl rfl (by omega) hL ?_
  refine gj_callV (d := 14) (b := 50) (As := [.int (xs (j + 1))]) (st := [.int r]) cv_Law_122 rfl rfl (hm w1 q1) rfl rfl (Nat.le_of_ble_eq_true rfl) (zl_rm hn hk) dL_law_1106 (fun o w2 hv => ?_)
  obtain ⟨rfl, hJ2⟩ := hv
  exact gj_icmp_eq (tgt := 1592) dL_law_1109 (by decide) (fun _ => gj_widen (Nat.le_add_right _ _) (Nat.le_add_right _ _) (next _ hJ2)) (fun c => absurd rfl c)
theorem zl_c23 (hL : L ≤ 3072) (hj : j + 6 ≤ L) (hK : K < 2 ^ 29) (hJ : bv_J K w) (hn : n0 + 1 ≤ 601024) (hk : k0 + 6 ≤ 7293034) (next : ∀ w2, bv_J (K + 40) w2 → zl_G E b L xs 1592 (zl_L (nI j)) [] w2 (n0 + 1) (k0 + 6)) : zl_G E b L xs 1114 (zl_L (nI j)) [] w n0 k0 := by
  obtain ⟨r, Q1, hx, hm⟩ := bz_tell (E := E) (d := 0) (a0 := xs (j + 1)) (a1 := xs (j + 2)) (a2 := xs (j + 3)) K w hK hJ
  refine gj_aload_n (i := 1) dL_law_1114 rfl rfl ?_
  refine zl_arg (k := 1) (by decide) dL_law_1115 dL_law_1116 dL_law_1118 dL_law_1119 dL_law_1120 rfl rfl (by omega) hL ?_
  refine zl_arg (k := 2) (by decide) dL_law_1121 dL_law_1122 dL_law_1124 dL_law_1125 dL_law_1126 rfl rfl (by omega) hL ?_
  refine zl_arg (k := 3) (by decide) dL_law_1127 dL_law_1128 dL_law_1130 dL_law_1131 dL_law_1132 rfl rfl (by omega) hL ?_
  refine gj_callV (d := 14) (b := 0) (As := [.int (xs (j + 1)), .int (xs (j + 2)), .int (xs (j + 3))]) (st := []) cv_Law_123 rfl rfl hx rfl rfl (Nat.le_of_ble_eq_true rfl) (zl_rm hn hk) dL_law_1133 (fun o w1 hv => ?_)
  obtain ⟨rfl, q1⟩ := hv
  refine gj_aload_n (i := 2) dL_law_1136 rfl rfl ?_
  refine zl_arg (k := 1) (by decide) dL_law_1137 dL_law_1138 dL_law_1140 dL_law_1141 dL_law_1142 rfl rfl (by omega) hL ?_
  refine zl_arg (k := 2) (by decide) dL_law_1143 dL_law_1144 dL_law_1146 dL_law_1147 dL_law_1148 rfl rfl (by omega) hL ?_
  refine zl_arg (k := 3) (by decide) dL_law_1149 dL_law_1150 dL_law_1152 dL_law_1153 dL_law_1154 rfl rfl (by omega) hL ?_
  refine gj_callV (d := 14) (b := 50) (As := [.int (xs (j + 1)), .int (xs (j + 2)), .int (xs (j + 3))]) (st := [.int r]) cv_Law_126 rfl rfl (hm w1 q1) rfl rfl (Nat.le_of_ble_eq_true rfl) (zl_rm hn hk) dL_law_1155 (fun o w2 hv => ?_)
  obtain ⟨rfl, hJ2⟩ := hv
  exact gj_icmp_eq (tgt := 1592) dL_law_1158 (by decide) (fun _ => gj_widen (Nat.le_add_right _ _) (Nat.le_add_right _ _) (next _ hJ2)) (fun c => absurd rfl c)
theorem zl_c24 (hL : L ≤ 3072) (hj : j + 6 ≤ L) (hK : K < 2 ^ 29) (hJ : bv_J K w) (hn : n0 + 1 ≤ 601024) (hk : k0 + 6 ≤ 7293034) (next : ∀ w2, bv_J (K + 40) w2 → zl_G E b L xs 1592 (zl_L (nI j)) [] w2 (n0 + 1) (k0 + 6)) : zl_G E b L xs 1163 (zl_L (nI j)) [] w n0 k0 := by
  obtain ⟨r, Q1, hx, hm⟩ := bz_drop (E := E) (d := 0) (a0 := xs (j + 1)) (a1 := xs (j + 2)) (a2 := xs (j + 3)) K w hK hJ
  refine gj_aload_n (i := 1) dL_law_1163 rfl rfl ?_
  refine zl_arg (k := 1) (by decide) dL_law_1164 dL_law_1165 dL_law_1167 dL_law_1168 dL_law_1169 rfl rfl (by omega) hL ?_
  refine zl_arg (k := 2) (by decide) dL_law_1170 dL_law_1171 dL_law_1173 dL_law_1174 dL_law_1175 rfl rfl (by omega) hL ?_
  refine zl_arg (k := 3) (by decide) dL_law_1176 dL_law_1177 dL_law_1179 dL_law_1180 dL_law_1181 rfl rfl (by omega) hL ?_
  refine gj_callV (d := 14) (b := 0) (As := [.int (xs (j + 1)), .int (xs (j + 2)), .int (xs (j + 3))]) (st := []) cv_Law_127 rfl rfl hx rfl rfl (Nat.le_of_ble_eq_true rfl) (zl_rm hn hk) dL_law_1182 (fun o w1 hv => ?_)
  obtain ⟨rfl, q1⟩ := hv
  refine gj_aload_n (i := 2) dL_law_1185 rfl rfl ?_
  refine zl_arg (k := 1) (by decide) dL_law_1186 dL_law_1187 dL_law_1189 dL_law_1190 dL_law_1191 rfl rfl (by omega) hL ?_
  refine zl_arg (k := 2) (by decide) dL_law_1192 dL_law_1193 dL_law_1195 dL_law_1196 dL_law_1197 rfl rfl (by omega) hL ?_
  refine zl_arg (k := 3) (by decide) dL_law_1198 dL_law_1199 dL_law_1201 dL_law_1202 dL_law_1203 rfl rfl (by omega) hL ?_
  refine gj_callV (d := 14) (b := 50) (As := [.int (xs (j + 1)), .int (xs (j + 2)), .int (xs (j + 3))]) (st := [.int r]) cv_Law_130 rfl rfl (hm w1 q1) rfl rfl (Nat.le_of_ble_eq_true rfl) (zl_rm hn hk) dL_law_1204 (fun o w2 hv => ?_)
  obtain ⟨rfl, hJ2⟩ := hv
  exact gj_icmp_eq (tgt := 1592) dL_law_1207 (by decide) (fun _ => gj_widen (Nat.le_add_right _ _) (Nat.le_add_right _ _) (next _ hJ2)) (fun c => absurd rfl c)
theorem zl_c25 (hL : L ≤ 3072) (hj : j + 6 ≤ L) (hK : K < 2 ^ 29) (hJ : bv_J K w) (hn : n0 + 1 ≤ 601024) (hk : k0 + 6 ≤ 7293034) (next : ∀ w2, bv_J (K + 40) w2 → zl_G E b L xs 1592 (zl_L (nI j)) [] w2 (n0 + 1) (k0 + 6)) : zl_G E b L xs 1212 (zl_L (nI j)) [] w n0 k0 := by
  obtain ⟨r, Q1, hx, hm⟩ := bz_ways (E := E) (d := 0) (a0 := xs (j + 1)) (x := (((xs (j + 2)).toInt64 <<< ((32 : Int32).toInt64 &&& 63)) ||| ((xs (j + 3)).toInt64 &&& (4294967295 : Int64)))) K w hK hJ
  refine gj_aload_n (i := 1) dL_law_1212 rfl rfl ?_
  refine zl_arg (k := 1) (by decide) dL_law_1213 dL_law_1214 dL_law_1216 dL_law_1217 dL_law_1218 rfl rfl (by omega) hL ?_
  refine zl_arg (k := 2) (by decide) dL_law_1219 dL_law_1220 dL_law_1222 dL_law_1223 dL_law_1224 rfl rfl (by omega) hL ?_
  refine gj_i2l dL_law_1225 ?_
  refine gj_bipush (v := 32) dL_law_1226 (by decide) ?_
  refine gj_lshl dL_law_1228 ?_
  refine zl_arg (k := 3) (by decide) dL_law_1229 dL_law_1230 dL_law_1232 dL_law_1233 dL_law_1234 rfl rfl (by omega) hL ?_
  refine gj_i2l dL_law_1235 ?_
  refine gj_ldc2 kl_Law_131 dL_law_1236 ?_
  refine gj_land dL_law_1239 ?_
  refine gj_lor dL_law_1240 ?_
  refine gj_callV (d := 14) (b := 0) (As := [.int (xs (j + 1)), .long ((((xs (j + 2)).toInt64 <<< ((32 : Int32).toInt64 &&& 63)) ||| ((xs (j + 3)).toInt64 &&& (4294967295 : Int64))))]) (st := []) cv_Law_133 rfl rfl hx rfl rfl (Nat.le_of_ble_eq_true rfl) (zl_rm hn hk) dL_law_1241 (fun o w1 hv => ?_)
  obtain ⟨rfl, q1⟩ := hv
  refine gj_aload_n (i := 2) dL_law_1244 rfl rfl ?_
  refine zl_arg (k := 1) (by decide) dL_law_1245 dL_law_1246 dL_law_1248 dL_law_1249 dL_law_1250 rfl rfl (by omega) hL ?_
  refine zl_arg (k := 2) (by decide) dL_law_1251 dL_law_1252 dL_law_1254 dL_law_1255 dL_law_1256 rfl rfl (by omega) hL ?_
  refine gj_i2l dL_law_1257 ?_
  refine gj_bipush (v := 32) dL_law_1258 (by decide) ?_
  refine gj_lshl dL_law_1260 ?_
  refine zl_arg (k := 3) (by decide) dL_law_1261 dL_law_1262 dL_law_1264 dL_law_1265 dL_law_1266 rfl rfl (by omega) hL ?_
  refine gj_i2l dL_law_1267 ?_
  refine gj_ldc2 kl_Law_131 dL_law_1268 ?_
  refine gj_land dL_law_1271 ?_
  refine gj_lor dL_law_1272 ?_
  refine gj_callV (d := 14) (b := 50) (As := [.int (xs (j + 1)), .long ((((xs (j + 2)).toInt64 <<< ((32 : Int32).toInt64 &&& 63)) ||| ((xs (j + 3)).toInt64 &&& (4294967295 : Int64))))]) (st := [.int r]) cv_Law_137 rfl rfl (hm w1 q1) rfl rfl (Nat.le_of_ble_eq_true rfl) (zl_rm hn hk) dL_law_1273 (fun o w2 hv => ?_)
  obtain ⟨rfl, hJ2⟩ := hv
  exact gj_icmp_eq (tgt := 1592) dL_law_1276 (by decide) (fun _ => gj_widen (Nat.le_add_right _ _) (Nat.le_add_right _ _) (next _ hJ2)) (fun c => absurd rfl c)
theorem zl_c26 (hL : L ≤ 3072) (hj : j + 6 ≤ L) (hK : K < 2 ^ 29) (hJ : bv_J K w) (hn : n0 + 1 ≤ 601024) (hk : k0 + 6 ≤ 7293034) (next : ∀ w2, bv_J (K + 40) w2 → zl_G E b L xs 1592 (zl_L (nI j)) [] w2 (n0 + 1) (k0 + 6)) : zl_G E b L xs 1281 (zl_L (nI j)) [] w n0 k0 := by
  obtain ⟨r, Q1, hx, hm⟩ := bz_stat (E := E) (d := 0) (a0 := xs (j + 1)) K w hK hJ
  refine gj_aload_n (i := 1) dL_law_1281 rfl rfl ?_
  refine zl_arg (k := 1) (by decide) dL_law_1282 dL_law_1283 dL_law_1285 dL_law_1286 dL_law_1287 rfl rfl (by omega) hL ?_
  refine gj_callV (d := 14) (b := 0) (As := [.int (xs (j + 1))]) (st := []) cv_Law_138 rfl rfl hx rfl rfl (Nat.le_of_ble_eq_true rfl) (zl_rm hn hk) dL_law_1288 (fun o w1 hv => ?_)
  obtain ⟨rfl, q1⟩ := hv
  refine gj_aload_n (i := 2) dL_law_1291 rfl rfl ?_
  refine zl_arg (k := 1) (by decide) dL_law_1292 dL_law_1293 dL_law_1295 dL_law_1296 dL_law_1297 rfl rfl (by omega) hL ?_
  refine gj_callV (d := 14) (b := 50) (As := [.int (xs (j + 1))]) (st := [.int r]) cv_Law_141 rfl rfl (hm w1 q1) rfl rfl (Nat.le_of_ble_eq_true rfl) (zl_rm hn hk) dL_law_1298 (fun o w2 hv => ?_)
  obtain ⟨rfl, hJ2⟩ := hv
  exact gj_icmp_eq (tgt := 1592) dL_law_1301 (by decide) (fun _ => gj_widen (Nat.le_add_right _ _) (Nat.le_add_right _ _) (next _ hJ2)) (fun c => absurd rfl c)
theorem zl_c27 (hL : L ≤ 3072) (hj : j + 6 ≤ L) (hK : K < 2 ^ 29) (hJ : bv_J K w) (hn : n0 + 1 ≤ 601024) (hk : k0 + 6 ≤ 7293034) (next : ∀ w2, bv_J (K + 40) w2 → zl_G E b L xs 1592 (zl_L (nI j)) [] w2 (n0 + 1) (k0 + 6)) : zl_G E b L xs 1306 (zl_L (nI j)) [] w n0 k0 := by
  obtain ⟨r, Q1, hx, hm⟩ := bz_undo (E := E) (d := 0)  K w hK hJ
  refine gj_aload_n (i := 1) dL_law_1306 rfl rfl ?_
  refine gj_callV (d := 14) (b := 0) (As := []) (st := []) cv_Law_142 rfl rfl hx rfl rfl (Nat.le_of_ble_eq_true rfl) (zl_rm hn hk) dL_law_1307 (fun o w1 hv => ?_)
  obtain ⟨rfl, q1⟩ := hv
  refine gj_aload_n (i := 2) dL_law_1310 rfl rfl ?_
  refine gj_callV (d := 14) (b := 50) (As := []) (st := [.int r]) cv_Law_145 rfl rfl (hm w1 q1) rfl rfl (Nat.le_of_ble_eq_true rfl) (zl_rm hn hk) dL_law_1311 (fun o w2 hv => ?_)
  obtain ⟨rfl, hJ2⟩ := hv
  exact gj_icmp_eq (tgt := 1592) dL_law_1314 (by decide) (fun _ => gj_widen (Nat.le_add_right _ _) (Nat.le_add_right _ _) (next _ hJ2)) (fun c => absurd rfl c)
theorem zl_c28 (hL : L ≤ 3072) (hj : j + 6 ≤ L) (hK : K < 2 ^ 29) (hJ : bv_J K w) (hn : n0 + 1 ≤ 601024) (hk : k0 + 6 ≤ 7293034) (next : ∀ w2, bv_J (K + 40) w2 → zl_G E b L xs 1592 (zl_L (nI j)) [] w2 (n0 + 1) (k0 + 6)) : zl_G E b L xs 1319 (zl_L (nI j)) [] w n0 k0 := by
  obtain ⟨r, Q1, hx, hm⟩ := bz_log (E := E) (d := 0) (a0 := xs (j + 1)) (a1 := xs (j + 2)) K w hK hJ
  refine gj_aload_n (i := 1) dL_law_1319 rfl rfl ?_
  refine zl_arg (k := 1) (by decide) dL_law_1320 dL_law_1321 dL_law_1323 dL_law_1324 dL_law_1325 rfl rfl (by omega) hL ?_
  refine zl_arg (k := 2) (by decide) dL_law_1326 dL_law_1327 dL_law_1329 dL_law_1330 dL_law_1331 rfl rfl (by omega) hL ?_
  refine gj_callV (d := 14) (b := 0) (As := [.int (xs (j + 1)), .int (xs (j + 2))]) (st := []) cv_Law_146 rfl rfl hx rfl rfl (Nat.le_of_ble_eq_true rfl) (zl_rm hn hk) dL_law_1332 (fun o w1 hv => ?_)
  obtain ⟨rfl, q1⟩ := hv
  refine gj_aload_n (i := 2) dL_law_1335 rfl rfl ?_
  refine zl_arg (k := 1) (by decide) dL_law_1336 dL_law_1337 dL_law_1339 dL_law_1340 dL_law_1341 rfl rfl (by omega) hL ?_
  refine zl_arg (k := 2) (by decide) dL_law_1342 dL_law_1343 dL_law_1345 dL_law_1346 dL_law_1347 rfl rfl (by omega) hL ?_
  refine gj_callV (d := 14) (b := 50) (As := [.int (xs (j + 1)), .int (xs (j + 2))]) (st := [.int r]) cv_Law_149 rfl rfl (hm w1 q1) rfl rfl (Nat.le_of_ble_eq_true rfl) (zl_rm hn hk) dL_law_1348 (fun o w2 hv => ?_)
  obtain ⟨rfl, hJ2⟩ := hv
  exact gj_icmp_eq (tgt := 1592) dL_law_1351 (by decide) (fun _ => gj_widen (Nat.le_add_right _ _) (Nat.le_add_right _ _) (next _ hJ2)) (fun c => absurd rfl c)
theorem zl_c29 (hL : L ≤ 3072) (hj : j + 6 ≤ L) (hK : K < 2 ^ 29) (hJ : bv_J K w) (hn : n0 + 1 ≤ 601024) (hk : k0 + 6 ≤ 7293034) (next : ∀ w2, bv_J (K + 40) w2 → zl_G E b L xs 1592 (zl_L (nI j)) [] w2 (n0 + 1) (k0 + 6)) : zl_G E b L xs 1356 (zl_L (nI j)) [] w n0 k0 := by
  obtain ⟨r, Q1, hx, hm⟩ := bz_would (E := E) (d := 0) (a0 := xs (j + 1)) (a1 := xs (j + 2)) (a2 := xs (j + 3)) K w hK hJ
  refine gj_aload_n (i := 1) dL_law_1356 rfl rfl ?_
  refine zl_arg (k := 1) (by decide) dL_law_1357 dL_law_1358 dL_law_1360 dL_law_1361 dL_law_1362 rfl rfl (by omega) hL ?_
  refine zl_arg (k := 2) (by decide) dL_law_1363 dL_law_1364 dL_law_1366 dL_law_1367 dL_law_1368 rfl rfl (by omega) hL ?_
  refine zl_arg (k := 3) (by decide) dL_law_1369 dL_law_1370 dL_law_1372 dL_law_1373 dL_law_1374 rfl rfl (by omega) hL ?_
  refine gj_callV (d := 14) (b := 0) (As := [.int (xs (j + 1)), .int (xs (j + 2)), .int (xs (j + 3))]) (st := []) cv_Law_150 rfl rfl hx rfl rfl (Nat.le_of_ble_eq_true rfl) (zl_rm hn hk) dL_law_1375 (fun o w1 hv => ?_)
  obtain ⟨rfl, q1⟩ := hv
  refine gj_aload_n (i := 2) dL_law_1378 rfl rfl ?_
  refine zl_arg (k := 1) (by decide) dL_law_1379 dL_law_1380 dL_law_1382 dL_law_1383 dL_law_1384 rfl rfl (by omega) hL ?_
  refine zl_arg (k := 2) (by decide) dL_law_1385 dL_law_1386 dL_law_1388 dL_law_1389 dL_law_1390 rfl rfl (by omega) hL ?_
  refine zl_arg (k := 3) (by decide) dL_law_1391 dL_law_1392 dL_law_1394 dL_law_1395 dL_law_1396 rfl rfl (by omega) hL ?_
  refine gj_callV (d := 14) (b := 50) (As := [.int (xs (j + 1)), .int (xs (j + 2)), .int (xs (j + 3))]) (st := [.int r]) cv_Law_153 rfl rfl (hm w1 q1) rfl rfl (Nat.le_of_ble_eq_true rfl) (zl_rm hn hk) dL_law_1397 (fun o w2 hv => ?_)
  obtain ⟨rfl, hJ2⟩ := hv
  exact gj_icmp_eq (tgt := 1592) dL_law_1400 (by decide) (fun _ => gj_widen (Nat.le_add_right _ _) (Nat.le_add_right _ _) (next _ hJ2)) (fun c => absurd rfl c)
theorem zl_c30 (hL : L ≤ 3072) (hj : j + 6 ≤ L) (hK : K < 2 ^ 29) (hJ : bv_J K w) (hn : n0 + 1 ≤ 601024) (hk : k0 + 6 ≤ 7293034) (next : ∀ w2, bv_J (K + 40) w2 → zl_G E b L xs 1592 (zl_L (nI j)) [] w2 (n0 + 1) (k0 + 6)) : zl_G E b L xs 1405 (zl_L (nI j)) [] w n0 k0 := by
  obtain ⟨r, Q1, hx, hm⟩ := bz_step (E := E) (d := 0) (a0 := xs (j + 1)) (a1 := xs (j + 2)) (a2 := xs (j + 3)) K w hK hJ
  refine gj_aload_n (i := 1) dL_law_1405 rfl rfl ?_
  refine zl_arg (k := 1) (by decide) dL_law_1406 dL_law_1407 dL_law_1409 dL_law_1410 dL_law_1411 rfl rfl (by omega) hL ?_
  refine zl_arg (k := 2) (by decide) dL_law_1412 dL_law_1413 dL_law_1415 dL_law_1416 dL_law_1417 rfl rfl (by omega) hL ?_
  refine zl_arg (k := 3) (by decide) dL_law_1418 dL_law_1419 dL_law_1421 dL_law_1422 dL_law_1423 rfl rfl (by omega) hL ?_
  refine gj_callV (d := 14) (b := 0) (As := [.int (xs (j + 1)), .int (xs (j + 2)), .int (xs (j + 3))]) (st := []) cv_Law_154 rfl rfl hx rfl rfl (Nat.le_of_ble_eq_true rfl) (zl_rm hn hk) dL_law_1424 (fun o w1 hv => ?_)
  obtain ⟨rfl, q1⟩ := hv
  refine gj_aload_n (i := 2) dL_law_1427 rfl rfl ?_
  refine zl_arg (k := 1) (by decide) dL_law_1428 dL_law_1429 dL_law_1431 dL_law_1432 dL_law_1433 rfl rfl (by omega) hL ?_
  refine zl_arg (k := 2) (by decide) dL_law_1434 dL_law_1435 dL_law_1437 dL_law_1438 dL_law_1439 rfl rfl (by omega) hL ?_
  refine zl_arg (k := 3) (by decide) dL_law_1440 dL_law_1441 dL_law_1443 dL_law_1444 dL_law_1445 rfl rfl (by omega) hL ?_
  refine gj_callV (d := 14) (b := 50) (As := [.int (xs (j + 1)), .int (xs (j + 2)), .int (xs (j + 3))]) (st := [.int r]) cv_Law_157 rfl rfl (hm w1 q1) rfl rfl (Nat.le_of_ble_eq_true rfl) (zl_rm hn hk) dL_law_1446 (fun o w2 hv => ?_)
  obtain ⟨rfl, hJ2⟩ := hv
  exact gj_icmp_eq (tgt := 1592) dL_law_1449 (by decide) (fun _ => gj_widen (Nat.le_add_right _ _) (Nat.le_add_right _ _) (next _ hJ2)) (fun c => absurd rfl c)
theorem zl_c31 (hL : L ≤ 3072) (hj : j + 6 ≤ L) (hK : K < 2 ^ 29) (hJ : bv_J K w) (hn : n0 + 1 ≤ 601024) (hk : k0 + 6 ≤ 7293034) (next : ∀ w2, bv_J (K + 40) w2 → zl_G E b L xs 1592 (zl_L (nI j)) [] w2 (n0 + 1) (k0 + 6)) : zl_G E b L xs 1454 (zl_L (nI j)) [] w n0 k0 := by
  obtain ⟨r, Q1, hx, hm⟩ := bz_run (E := E) (d := 0) (a0 := xs (j + 1)) (a1 := xs (j + 2)) K w hK hJ
  refine gj_aload_n (i := 1) dL_law_1454 rfl rfl ?_
  refine zl_arg (k := 1) (by decide) dL_law_1455 dL_law_1456 dL_law_1458 dL_law_1459 dL_law_1460 rfl rfl (by omega) hL ?_
  refine zl_arg (k := 2) (by decide) dL_law_1461 dL_law_1462 dL_law_1464 dL_law_1465 dL_law_1466 rfl rfl (by omega) hL ?_
  refine gj_callV (d := 14) (b := 0) (As := [.int (xs (j + 1)), .int (xs (j + 2))]) (st := []) cv_Law_158 rfl rfl hx rfl rfl (Nat.le_of_ble_eq_true rfl) (zl_rm hn hk) dL_law_1467 (fun o w1 hv => ?_)
  obtain ⟨rfl, q1⟩ := hv
  refine gj_aload_n (i := 2) dL_law_1470 rfl rfl ?_
  refine zl_arg (k := 1) (by decide) dL_law_1471 dL_law_1472 dL_law_1474 dL_law_1475 dL_law_1476 rfl rfl (by omega) hL ?_
  refine zl_arg (k := 2) (by decide) dL_law_1477 dL_law_1478 dL_law_1480 dL_law_1481 dL_law_1482 rfl rfl (by omega) hL ?_
  refine gj_callV (d := 14) (b := 50) (As := [.int (xs (j + 1)), .int (xs (j + 2))]) (st := [.int r]) cv_Law_161 rfl rfl (hm w1 q1) rfl rfl (Nat.le_of_ble_eq_true rfl) (zl_rm hn hk) dL_law_1483 (fun o w2 hv => ?_)
  obtain ⟨rfl, hJ2⟩ := hv
  exact gj_icmp_eq (tgt := 1592) dL_law_1486 (by decide) (fun _ => gj_widen (Nat.le_add_right _ _) (Nat.le_add_right _ _) (next _ hJ2)) (fun c => absurd rfl c)
theorem zl_c32 (hL : L ≤ 3072) (hj : j + 6 ≤ L) (hK : K < 2 ^ 29) (hJ : bv_J K w) (hn : n0 + 1 ≤ 601024) (hk : k0 + 6 ≤ 7293034) (next : ∀ w2, bv_J (K + 40) w2 → zl_G E b L xs 1592 (zl_L (nI j)) [] w2 (n0 + 1) (k0 + 6)) : zl_G E b L xs 1491 (zl_L (nI j)) [] w n0 k0 := by
  obtain ⟨r, Q1, hx, hm⟩ := bz_perf (E := E) (d := 0) (a0 := xs (j + 1)) K w hK hJ
  refine gj_aload_n (i := 1) dL_law_1491 rfl rfl ?_
  refine zl_arg (k := 1) (by decide) dL_law_1492 dL_law_1493 dL_law_1495 dL_law_1496 dL_law_1497 rfl rfl (by omega) hL ?_
  refine gj_callV (d := 14) (b := 0) (As := [.int (xs (j + 1))]) (st := []) cv_Law_162 rfl rfl hx rfl rfl (Nat.le_of_ble_eq_true rfl) (zl_rm hn hk) dL_law_1498 (fun o w1 hv => ?_)
  obtain ⟨rfl, q1⟩ := hv
  refine gj_aload_n (i := 2) dL_law_1501 rfl rfl ?_
  refine zl_arg (k := 1) (by decide) dL_law_1502 dL_law_1503 dL_law_1505 dL_law_1506 dL_law_1507 rfl rfl (by omega) hL ?_
  refine gj_callV (d := 14) (b := 50) (As := [.int (xs (j + 1))]) (st := [.int r]) cv_Law_165 rfl rfl (hm w1 q1) rfl rfl (Nat.le_of_ble_eq_true rfl) (zl_rm hn hk) dL_law_1508 (fun o w2 hv => ?_)
  obtain ⟨rfl, hJ2⟩ := hv
  exact gj_icmp_eq (tgt := 1592) dL_law_1511 (by decide) (fun _ => gj_widen (Nat.le_add_right _ _) (Nat.le_add_right _ _) (next _ hJ2)) (fun c => absurd rfl c)
theorem zl_c33 (hL : L ≤ 3072) (hj : j + 6 ≤ L) (hK : K < 2 ^ 29) (hJ : bv_J K w) (hn : n0 + 1 ≤ 601024) (hk : k0 + 6 ≤ 7293034) (next : ∀ w2, bv_J (K + 40) w2 → zl_G E b L xs 1592 (zl_L (nI j)) [] w2 (n0 + 1) (k0 + 6)) : zl_G E b L xs 1516 (zl_L (nI j)) [] w n0 k0 := by
  obtain ⟨r, Q1, hx, hm⟩ := bz_most (E := E) (d := 0) (a0 := xs (j + 1)) K w hK hJ
  refine gj_aload_n (i := 1) dL_law_1516 rfl rfl ?_
  refine zl_arg (k := 1) (by decide) dL_law_1517 dL_law_1518 dL_law_1520 dL_law_1521 dL_law_1522 rfl rfl (by omega) hL ?_
  refine gj_callV (d := 14) (b := 0) (As := [.int (xs (j + 1))]) (st := []) cv_Law_166 rfl rfl hx rfl rfl (Nat.le_of_ble_eq_true rfl) (zl_rm hn hk) dL_law_1523 (fun o w1 hv => ?_)
  obtain ⟨rfl, q1⟩ := hv
  refine gj_aload_n (i := 2) dL_law_1526 rfl rfl ?_
  refine zl_arg (k := 1) (by decide) dL_law_1527 dL_law_1528 dL_law_1530 dL_law_1531 dL_law_1532 rfl rfl (by omega) hL ?_
  refine gj_callV (d := 14) (b := 50) (As := [.int (xs (j + 1))]) (st := [.int r]) cv_Law_169 rfl rfl (hm w1 q1) rfl rfl (Nat.le_of_ble_eq_true rfl) (zl_rm hn hk) dL_law_1533 (fun o w2 hv => ?_)
  obtain ⟨rfl, hJ2⟩ := hv
  exact gj_icmp_eq (tgt := 1592) dL_law_1536 (by decide) (fun _ => gj_widen (Nat.le_add_right _ _) (Nat.le_add_right _ _) (next _ hJ2)) (fun c => absurd rfl c)
theorem zl_c34 (hL : L ≤ 3072) (hj : j + 6 ≤ L) (hK : K < 2 ^ 29) (hJ : bv_J K w) (hn : n0 + 1 ≤ 601024) (hk : k0 + 6 ≤ 7293034) (next : ∀ w2, bv_J (K + 40) w2 → zl_G E b L xs 1592 (zl_L (nI j)) [] w2 (n0 + 1) (k0 + 6)) : zl_G E b L xs 1541 (zl_L (nI j)) [] w n0 k0 := by
  obtain ⟨r, Q1, hx, hm⟩ := bz_image (E := E) (d := 0)  K w hK hJ
  refine gj_aload_n (i := 1) dL_law_1541 rfl rfl ?_
  refine gj_callV (d := 14) (b := 0) (As := []) (st := []) cv_Law_170 rfl rfl hx rfl rfl (Nat.le_of_ble_eq_true rfl) (zl_rm hn hk) dL_law_1542 (fun o w1 hv => ?_)
  obtain ⟨rfl, q1⟩ := hv
  refine gj_aload_n (i := 2) dL_law_1545 rfl rfl ?_
  refine gj_callV (d := 14) (b := 50) (As := []) (st := [.int r]) cv_Law_173 rfl rfl (hm w1 q1) rfl rfl (Nat.le_of_ble_eq_true rfl) (zl_rm hn hk) dL_law_1546 (fun o w2 hv => ?_)
  obtain ⟨rfl, hJ2⟩ := hv
  exact gj_icmp_eq (tgt := 1592) dL_law_1549 (by decide) (fun _ => gj_widen (Nat.le_add_right _ _) (Nat.le_add_right _ _) (next _ hJ2)) (fun c => absurd rfl c)
theorem zl_c35 (hL : L ≤ 3072) (hj : j + 6 ≤ L) (hK : K < 2 ^ 29) (hJ : bv_J K w) (hn : n0 + 1 ≤ 601024) (hk : k0 + 6 ≤ 7293034) (next : ∀ w2, bv_J (K + 40) w2 → zl_G E b L xs 1592 (zl_L (nI j)) [] w2 (n0 + 1) (k0 + 6)) : zl_G E b L xs 1554 (zl_L (nI j)) [] w n0 k0 := by
  obtain ⟨r, Q1, hx, hm⟩ := bz_back (E := E) (d := 0)  K w hK hJ
  refine gj_aload_n (i := 1) dL_law_1554 rfl rfl ?_
  refine gj_callV (d := 14) (b := 0) (As := []) (st := []) cv_Law_174 rfl rfl hx rfl rfl (Nat.le_of_ble_eq_true rfl) (zl_rm hn hk) dL_law_1555 (fun o w1 hv => ?_)
  obtain ⟨rfl, q1⟩ := hv
  refine gj_aload_n (i := 2) dL_law_1558 rfl rfl ?_
  refine gj_callV (d := 14) (b := 50) (As := []) (st := [.int r]) cv_Law_177 rfl rfl (hm w1 q1) rfl rfl (Nat.le_of_ble_eq_true rfl) (zl_rm hn hk) dL_law_1559 (fun o w2 hv => ?_)
  obtain ⟨rfl, hJ2⟩ := hv
  exact gj_icmp_eq (tgt := 1592) dL_law_1562 (by decide) (fun _ => gj_widen (Nat.le_add_right _ _) (Nat.le_add_right _ _) (next _ hJ2)) (fun c => absurd rfl c)
theorem zl_c36 (hL : L ≤ 3072) (hj : j + 6 ≤ L) (hK : K < 2 ^ 29) (hJ : bv_J K w) (hn : n0 + 1 ≤ 601024) (hk : k0 + 6 ≤ 7293034) (next : ∀ w2, bv_J (K + 40) w2 → zl_G E b L xs 1592 (zl_L (nI j)) [] w2 (n0 + 1) (k0 + 6)) : zl_G E b L xs 1567 (zl_L (nI j)) [] w n0 k0 := by
  obtain ⟨r, Q1, hx, hm⟩ := bz_count (E := E) (d := 0) (a0 := xs (j + 1)) K w hK hJ
  refine gj_aload_n (i := 1) dL_law_1567 rfl rfl ?_
  refine zl_arg (k := 1) (by decide) dL_law_1568 dL_law_1569 dL_law_1571 dL_law_1572 dL_law_1573 rfl rfl (by omega) hL ?_
  refine gj_callV (d := 14) (b := 0) (As := [.int (xs (j + 1))]) (st := []) cv_Law_178 rfl rfl hx rfl rfl (Nat.le_of_ble_eq_true rfl) (zl_rm hn hk) dL_law_1574 (fun o w1 hv => ?_)
  obtain ⟨rfl, q1⟩ := hv
  refine gj_aload_n (i := 2) dL_law_1577 rfl rfl ?_
  refine zl_arg (k := 1) (by decide) dL_law_1578 dL_law_1579 dL_law_1581 dL_law_1582 dL_law_1583 rfl rfl (by omega) hL ?_
  refine gj_callV (d := 14) (b := 50) (As := [.int (xs (j + 1))]) (st := [.int r]) cv_Law_181 rfl rfl (hm w1 q1) rfl rfl (Nat.le_of_ble_eq_true rfl) (zl_rm hn hk) dL_law_1584 (fun o w2 hv => ?_)
  obtain ⟨rfl, hJ2⟩ := hv
  exact gj_icmp_eq (tgt := 1592) dL_law_1587 (by decide) (fun _ => gj_widen (Nat.le_add_right _ _) (Nat.le_add_right _ _) (next _ hJ2)) (fun c => absurd rfl c)
theorem zl_c5 (hL : L ≤ 3072) (hj : j + 6 ≤ L) (hK : K < 2 ^ 29) (hJ : bv_J K w) (hn : n0 + 1 ≤ 601024) (hk : k0 + 6 ≤ 7293034) (next : ∀ w2, bv_J (K + 40) w2 → zl_G E b L xs 1592 (zl_L (nI j)) [] w2 (n0 + 1) (k0 + 6)) : zl_G E b L xs 377 (zl_L (nI j)) [] w n0 k0 := by
  obtain ⟨S, hS⟩ := bv_JS.of hJ
  have hx := hS.1.2.1
  have hX := hS.2.1.2.1
  have rm : (14 + 1 ≤ room_1.frames ∧ 40 * (14 + 1) ≤ room_1.locals) ∧ n0 + 1 ≤ room_1.cells ∧ k0 + 6 ≤ room_1.slots := ⟨⟨Nat.le_of_ble_eq_true rfl, Nat.le_of_ble_eq_true rfl⟩, hn, hk⟩
  have up : ∀ {w2 : bw_W}, bv_JS S K w2 → bv_J (K + 40) w2 := fun h => by
    obtain ⟨a, b, c, e⟩ := h
    exact bv_JS.J ⟨a.up (by omega), b, c, e⟩
  refine gj_aload_n (i := 1) dL_law_377 rfl rfl ?_
  refine zl_arg (k := 1) (by decide) dL_law_378 dL_law_379 dL_law_381 dL_law_382 dL_law_383 rfl rfl (by omega) hL ?_
  refine zl_arg (k := 2) (by decide) dL_law_384 dL_law_385 dL_law_387 dL_law_388 dL_law_389 rfl rfl (by omega) hL ?_
  refine gj_aload_n (i := 3) dL_law_390 rfl rfl ?_
  cases hv : br_noun (st_X S) (st_N S) (xs (j + 1)) (xs (j + 2)) with
  | none =>
    have nk : ¬ bx_nok w (xs (j + 1)) (xs (j + 2)) := fun q => (bx_nok_iff (N := st_N S) hX hx).mp q hv
    refine zl_callN (As := [.ref 0, .int (xs (j + 1)), .int (xs (j + 2)), .ref 77]) (st := []) (Q' := fun o w1 => o = some (.int 1) ∧ w1 = w) (zl_noun2 nk ⟨rfl, rfl⟩) rfl rfl (Nat.le_of_ble_eq_true rfl) hn hk dL_law_391 (fun o w1 hq => ?_)
    obtain ⟨rfl, rfl⟩ := hq
    refine gj_istore (L' := [some (.ref 4000), some (.ref 0), some (.ref 50), some (.ref 77), some (.int (nI j)), some (.int 1), none]) dL_law_394 (by decide) rfl ?_
    refine gj_aload_n (i := 2) dL_law_396 rfl rfl ?_
    refine zl_arg (k := 1) (by decide) dL_law_397 dL_law_398 dL_law_400 dL_law_401 dL_law_402 rfl rfl (by omega) hL ?_
    refine zl_arg (k := 2) (by decide) dL_law_403 dL_law_404 dL_law_406 dL_law_407 dL_law_408 rfl rfl (by omega) hL ?_
    refine gj_callV (d := 14) (b := 50) (As := [.int (xs (j + 1)), .int (xs (j + 2))]) (st := []) cv_Law_47 rfl rfl (bm_noun (d := 12) hS) rfl rfl (Nat.le_of_ble_eq_true rfl) rm dL_law_409 (fun o w2 hq => ?_)
    obtain ⟨r, rfl, h1, h2, h3⟩ := hq
    refine gj_istore (L' := [some (.ref 4000), some (.ref 0), some (.ref 50), some (.ref 77), some (.int (nI j)), some (.int 1), some (.int r)]) dL_law_412 (by decide) rfl ?_
    refine gj_aload_n (i := 2) dL_law_414 rfl rfl ?_
    refine gj_callV (d := 14) (b := 50) (As := []) (st := []) (Q' := bw_qi (fun v w3 => v = 1 ∧ w3 = w2)) cv_Law_48 rfl rfl (bm_thrown (d := 14) ⟨h1 hv, rfl⟩) rfl rfl (Nat.le_of_ble_eq_true rfl) rm dL_law_415 (fun o w3 hq => ?_)
    obtain ⟨t, rfl, rfl, rfl⟩ := hq
    refine gj_iload (i := 5) dL_law_418 rfl ?_
    refine gj_icmp_eq (tgt := 425) dL_law_420 (by decide) (fun _ => ?_) (fun c => absurd rfl c)
    refine gj_iload (i := 5) dL_law_425 rfl ?_
    refine gj_if_ne (tgt := 442) dL_law_427 (by decide) (fun _ => ?_) (fun c => absurd c (by decide))
    refine gj_goto (tgt := 1592) dL_law_442 (by decide) ?_
    exact gj_weak (L' := zl_L (nI j)) (zl_wk5 _ _ _) (next _ (up h3))
  | some v =>
    refine zl_callN (As := [.ref 0, .int (xs (j + 1)), .int (xs (j + 2)), .ref 77]) (st := []) (Q' := fun o w1 => o = some (.int 0) ∧ w1 = sw_l w 77 0 (nI v).toInt64) (zl_noun1 (qx_noun (d := 12) hX hS.2.1.2.2.2.1 hS.1.2.2.1.1 hx hv ⟨rfl, rfl⟩)) rfl rfl (Nat.le_of_ble_eq_true rfl) hn hk dL_law_391 (fun o w1 hq => ?_)
    obtain ⟨rfl, rfl⟩ := hq
    have hS1 : bv_JS S K (sw_l w 77 0 (nI v).toInt64) := hS.c77 (zl_fr77 _ _)
    have g77 : gw_l (sw_l w 77 0 (nI v).toInt64) 77 0 = (nI v).toInt64 := zl_gl77 _ _
    refine gj_istore (L' := [some (.ref 4000), some (.ref 0), some (.ref 50), some (.ref 77), some (.int (nI j)), some (.int 0), none]) dL_law_394 (by decide) rfl ?_
    refine gj_aload_n (i := 2) dL_law_396 rfl rfl ?_
    refine zl_arg (k := 1) (by decide) dL_law_397 dL_law_398 dL_law_400 dL_law_401 dL_law_402 rfl rfl (by omega) hL ?_
    refine zl_arg (k := 2) (by decide) dL_law_403 dL_law_404 dL_law_406 dL_law_407 dL_law_408 rfl rfl (by omega) hL ?_
    refine gj_callV (d := 14) (b := 50) (As := [.int (xs (j + 1)), .int (xs (j + 2))]) (st := []) (Q' := bw_qi (fun b w' => b = nI v ∧ gw_i w' 50 0 = 0 ∧ bv_JS S K w' ∧ gw_l w' 77 0 = (nI v).toInt64)) cv_Law_47 rfl rfl (zl_noun77 (d := 12) hS1 hv g77) rfl rfl (Nat.le_of_ble_eq_true rfl) rm dL_law_409 (fun o w2 hq => ?_)
    obtain ⟨r, rfl, rfl, h2, h3, h4⟩ := hq
    refine gj_istore (L' := [some (.ref 4000), some (.ref 0), some (.ref 50), some (.ref 77), some (.int (nI j)), some (.int 0), some (.int (nI v))]) dL_law_412 (by decide) rfl ?_
    refine gj_aload_n (i := 2) dL_law_414 rfl rfl ?_
    refine gj_callV (d := 14) (b := 50) (As := []) (st := []) (Q' := bw_qi (fun v w3 => v = 0 ∧ w3 = w2)) cv_Law_48 rfl rfl (bm_thrown (d := 14) ⟨h2, rfl⟩) rfl rfl (Nat.le_of_ble_eq_true rfl) rm dL_law_415 (fun o w3 hq => ?_)
    obtain ⟨t, rfl, rfl, rfl⟩ := hq
    refine gj_iload (i := 5) dL_law_418 rfl ?_
    refine gj_icmp_eq (tgt := 425) dL_law_420 (by decide) (fun _ => ?_) (fun c => absurd rfl c)
    refine gj_iload (i := 5) dL_law_425 rfl ?_
    refine gj_if_ne (tgt := 442) dL_law_427 (by decide) (fun c => absurd rfl c) (fun _ => ?_)
    refine gj_aload_n (i := 3) dL_law_430 rfl rfl ?_
    refine gj_iconst (v := 0) dL_law_431 (by decide) ?_
    refine gj_laload (n := 1) (x := 0) rfl (bm_in (k := 0) (by decide) (by decide)) dL_law_432 ?_
    rw [show (0 : Int32).toNatClampNeg = 0 from rfl, h4]
    refine gj_iload (i := 6) dL_law_433 rfl ?_
    refine gj_i2l dL_law_435 ?_
    refine gj_lcmp dL_law_436 ?_
    refine gj_if_eq (tgt := 442) dL_law_437 (by decide) (fun _ => ?_) (fun c => absurd (lg_cmp_eq0.mpr rfl) c)
    refine gj_goto (tgt := 1592) dL_law_442 (by decide) ?_
    exact gj_weak (L' := zl_L (nI j)) (zl_wk5 _ _ _) (next _ (up h3))
end BLC

/-! THE ASSEMBLY: checks, method by method (written by a program of the verifier's) -/
section ZASP
theorem zok_115_0 : ((zc_115.drop 0).take 40).all (zchR 115 zlk_4) = true := by decide +kernel
theorem zok_115 : zPk 115 zc_115 := ⟨"FlagLayers$Plan", zlk_4, by decide +kernel, zlkA_4, (zal2 0 zok_115_0 (by decide +kernel))⟩
theorem zok_116_0 : ((zc_116.drop 0).take 40).all (zchR 116 zlk_22) = true := by decide +kernel
theorem zok_116 : zPk 116 zc_116 := ⟨"FlagLayers$Flag", zlk_22, by decide +kernel, zlkA_22, (zal2 0 zok_116_0 (by decide +kernel))⟩
theorem zok_117_0 : ((zc_117.drop 0).take 40).all (zchR 117 zlk_18) = true := by decide +kernel
theorem zok_117_1 : ((zc_117.drop 40).take 40).all (zchR 117 zlk_18) = true := by decide +kernel
theorem zok_117 : zPk 117 zc_117 := ⟨"FlagLayers$Reader", zlk_18, by decide +kernel, zlkA_18, (zal2 0 zok_117_0 (zal2 40 zok_117_1 (by decide +kernel)))⟩
theorem zok_118_0 : ((zc_118.drop 0).take 40).all (zchR 118 zlk_4) = true := by decide +kernel
theorem zok_118 : zPk 118 zc_118 := ⟨"FlagLayers$Plan", zlk_4, by decide +kernel, zlkA_4, (zal2 0 zok_118_0 (by decide +kernel))⟩
theorem zok_119_0 : ((zc_119.drop 0).take 40).all (zchR 119 zlk_4) = true := by decide +kernel
theorem zok_119 : zPk 119 zc_119 := ⟨"FlagLayers$Plan", zlk_4, by decide +kernel, zlkA_4, (zal2 0 zok_119_0 (by decide +kernel))⟩
theorem zok_120_0 : ((zc_120.drop 0).take 40).all (zchR 120 zlk_3) = true := by decide +kernel
theorem zok_120 : zPk 120 zc_120 := ⟨"FlagLayers$Judge", zlk_3, by decide +kernel, zlkA_3, (zal2 0 zok_120_0 (by decide +kernel))⟩
theorem zok_121_0 : ((zc_121.drop 0).take 40).all (zchR 121 zlk_1) = true := by decide +kernel
theorem zok_121 : zPk 121 zc_121 := ⟨"FlagLayers", zlk_1, by decide +kernel, zlkA_1, (zal2 0 zok_121_0 (by decide +kernel))⟩
theorem zok_122_0 : ((zc_122.drop 0).take 40).all (zchR 122 zlk_1) = true := by decide +kernel
theorem zok_122 : zPk 122 zc_122 := ⟨"FlagLayers", zlk_1, by decide +kernel, zlkA_1, (zal2 0 zok_122_0 (by decide +kernel))⟩
theorem zok_123_0 : ((zc_123.drop 0).take 40).all (zchR 123 zlk_3) = true := by decide +kernel
theorem zok_123 : zPk 123 zc_123 := ⟨"FlagLayers$Judge", zlk_3, by decide +kernel, zlkA_3, (zal2 0 zok_123_0 (by decide +kernel))⟩
theorem zok_124_0 : ((zc_124.drop 0).take 40).all (zchR 124 zlk_0) = true := by decide +kernel
theorem zok_124 : zPk 124 zc_124 := ⟨"FlagLayersLaw", zlk_0, by decide +kernel, zlkA_0, (zal2 0 zok_124_0 (by decide +kernel))⟩
theorem zok_125_0 : ((zc_125.drop 0).take 40).all (zchR 125 zlk_1) = true := by decide +kernel
theorem zok_125 : zPk 125 zc_125 := ⟨"FlagLayers", zlk_1, by decide +kernel, zlkA_1, (zal2 0 zok_125_0 (by decide +kernel))⟩
theorem zok_126_0 : ((zc_126.drop 0).take 40).all (zchR 126 zlk_2) = true := by decide +kernel
theorem zok_126 : zPk 126 zc_126 := ⟨"FlagLayers$Tape", zlk_2, by decide +kernel, zlkA_2, (zal2 0 zok_126_0 (by decide +kernel))⟩
theorem zok_127_0 : ((zc_127.drop 0).take 40).all (zchR 127 zlk_0) = true := by decide +kernel
theorem zok_127 : zPk 127 zc_127 := ⟨"FlagLayersLaw", zlk_0, by decide +kernel, zlkA_0, (zal2 0 zok_127_0 (by decide +kernel))⟩
theorem zok_128_0 : ((zc_128.drop 0).take 40).all (zchR 128 zlk_1) = true := by decide +kernel
theorem zok_128 : zPk 128 zc_128 := ⟨"FlagLayers", zlk_1, by decide +kernel, zlkA_1, (zal2 0 zok_128_0 (by decide +kernel))⟩
theorem zok_129_0 : ((zc_129.drop 0).take 40).all (zchR 129 zlk_0) = true := by decide +kernel
theorem zok_129 : zPk 129 zc_129 := ⟨"FlagLayersLaw", zlk_0, by decide +kernel, zlkA_0, (zal2 0 zok_129_0 (by decide +kernel))⟩
theorem zok_130_0 : ((zc_130.drop 0).take 40).all (zchR 130 zlk_1) = true := by decide +kernel
theorem zok_130 : zPk 130 zc_130 := ⟨"FlagLayers", zlk_1, by decide +kernel, zlkA_1, (zal2 0 zok_130_0 (by decide +kernel))⟩
theorem zok_131_0 : ((zc_131.drop 0).take 40).all (zchR 131 zlk_0) = true := by decide +kernel
theorem zok_131 : zPk 131 zc_131 := ⟨"FlagLayersLaw", zlk_0, by decide +kernel, zlkA_0, (zal2 0 zok_131_0 (by decide +kernel))⟩
theorem zok_132_0 : ((zc_132.drop 0).take 40).all (zchR 132 zlk_1) = true := by decide +kernel
theorem zok_132 : zPk 132 zc_132 := ⟨"FlagLayers", zlk_1, by decide +kernel, zlkA_1, (zal2 0 zok_132_0 (by decide +kernel))⟩
theorem zok_133_0 : ((zc_133.drop 0).take 40).all (zchR 133 zlk_3) = true := by decide +kernel
theorem zok_133 : zPk 133 zc_133 := ⟨"FlagLayers$Judge", zlk_3, by decide +kernel, zlkA_3, (zal2 0 zok_133_0 (by decide +kernel))⟩
theorem zok_134_0 : ((zc_134.drop 0).take 40).all (zchR 134 zlk_3) = true := by decide +kernel
theorem zok_134 : zPk 134 zc_134 := ⟨"FlagLayers$Judge", zlk_3, by decide +kernel, zlkA_3, (zal2 0 zok_134_0 (by decide +kernel))⟩
theorem zok_135_0 : ((zc_135.drop 0).take 40).all (zchR 135 zlk_3) = true := by decide +kernel
theorem zok_135 : zPk 135 zc_135 := ⟨"FlagLayers$Judge", zlk_3, by decide +kernel, zlkA_3, (zal2 0 zok_135_0 (by decide +kernel))⟩
theorem zok_136_0 : ((zc_136.drop 0).take 40).all (zchR 136 zlk_0) = true := by decide +kernel
theorem zok_136 : zPk 136 zc_136 := ⟨"FlagLayersLaw", zlk_0, by decide +kernel, zlkA_0, (zal2 0 zok_136_0 (by decide +kernel))⟩
theorem zok_137_0 : ((zc_137.drop 0).take 40).all (zchR 137 zlk_1) = true := by decide +kernel
theorem zok_137 : zPk 137 zc_137 := ⟨"FlagLayers", zlk_1, by decide +kernel, zlkA_1, (zal2 0 zok_137_0 (by decide +kernel))⟩
theorem zok_138_0 : ((zc_138.drop 0).take 40).all (zchR 138 zlk_1) = true := by decide +kernel
theorem zok_138 : zPk 138 zc_138 := ⟨"FlagLayers", zlk_1, by decide +kernel, zlkA_1, (zal2 0 zok_138_0 (by decide +kernel))⟩
theorem zok_139_0 : ((zc_139.drop 0).take 40).all (zchR 139 zlk_4) = true := by decide +kernel
theorem zok_139 : zPk 139 zc_139 := ⟨"FlagLayers$Plan", zlk_4, by decide +kernel, zlkA_4, (zal2 0 zok_139_0 (by decide +kernel))⟩
theorem zok_140_0 : ((zc_140.drop 0).take 40).all (zchR 140 zlk_2) = true := by decide +kernel
theorem zok_140 : zPk 140 zc_140 := ⟨"FlagLayers$Tape", zlk_2, by decide +kernel, zlkA_2, (zal2 0 zok_140_0 (by decide +kernel))⟩
theorem zok_141_0 : ((zc_141.drop 0).take 40).all (zchR 141 zlk_0) = true := by decide +kernel
theorem zok_141 : zPk 141 zc_141 := ⟨"FlagLayersLaw", zlk_0, by decide +kernel, zlkA_0, (zal2 0 zok_141_0 (by decide +kernel))⟩
theorem zok_142_0 : ((zc_142.drop 0).take 40).all (zchR 142 zlk_1) = true := by decide +kernel
theorem zok_142 : zPk 142 zc_142 := ⟨"FlagLayers", zlk_1, by decide +kernel, zlkA_1, (zal2 0 zok_142_0 (by decide +kernel))⟩
theorem zok_143_0 : ((zc_143.drop 0).take 40).all (zchR 143 zlk_0) = true := by decide +kernel
theorem zok_143 : zPk 143 zc_143 := ⟨"FlagLayersLaw", zlk_0, by decide +kernel, zlkA_0, (zal2 0 zok_143_0 (by decide +kernel))⟩
theorem zok_144_0 : ((zc_144.drop 0).take 40).all (zchR 144 zlk_1) = true := by decide +kernel
theorem zok_144 : zPk 144 zc_144 := ⟨"FlagLayers", zlk_1, by decide +kernel, zlkA_1, (zal2 0 zok_144_0 (by decide +kernel))⟩
theorem zok_145_0 : ((zc_145.drop 0).take 40).all (zchR 145 zlk_22) = true := by decide +kernel
theorem zok_145 : zPk 145 zc_145 := ⟨"FlagLayers$Flag", zlk_22, by decide +kernel, zlkA_22, (zal2 0 zok_145_0 (by decide +kernel))⟩
theorem zok_146_0 : ((zc_146.drop 0).take 40).all (zchR 146 zlk_0) = true := by decide +kernel
theorem zok_146 : zPk 146 zc_146 := ⟨"FlagLayersLaw", zlk_0, by decide +kernel, zlkA_0, (zal2 0 zok_146_0 (by decide +kernel))⟩
theorem zok_147_0 : ((zc_147.drop 0).take 40).all (zchR 147 zlk_1) = true := by decide +kernel
theorem zok_147 : zPk 147 zc_147 := ⟨"FlagLayers", zlk_1, by decide +kernel, zlkA_1, (zal2 0 zok_147_0 (by decide +kernel))⟩
theorem zok_148_0 : ((zc_148.drop 0).take 40).all (zchR 148 zlk_3) = true := by decide +kernel
theorem zok_148_1 : ((zc_148.drop 40).take 40).all (zchR 148 zlk_3) = true := by decide +kernel
theorem zok_148 : zPk 148 zc_148 := ⟨"FlagLayers$Judge", zlk_3, by decide +kernel, zlkA_3, (zal2 0 zok_148_0 (zal2 40 zok_148_1 (by decide +kernel)))⟩
theorem zok_149_0 : ((zc_149.drop 0).take 40).all (zchR 149 zlk_3) = true := by decide +kernel
theorem zok_149 : zPk 149 zc_149 := ⟨"FlagLayers$Judge", zlk_3, by decide +kernel, zlkA_3, (zal2 0 zok_149_0 (by decide +kernel))⟩
theorem zok_150_0 : ((zc_150.drop 0).take 40).all (zchR 150 zlk_3) = true := by decide +kernel
theorem zok_150_1 : ((zc_150.drop 40).take 40).all (zchR 150 zlk_3) = true := by decide +kernel
theorem zok_150 : zPk 150 zc_150 := ⟨"FlagLayers$Judge", zlk_3, by decide +kernel, zlkA_3, (zal2 0 zok_150_0 (zal2 40 zok_150_1 (by decide +kernel)))⟩
theorem zok_151_0 : ((zc_151.drop 0).take 40).all (zchR 151 zlk_3) = true := by decide +kernel
theorem zok_151 : zPk 151 zc_151 := ⟨"FlagLayers$Judge", zlk_3, by decide +kernel, zlkA_3, (zal2 0 zok_151_0 (by decide +kernel))⟩
theorem zok_152_0 : ((zc_152.drop 0).take 40).all (zchR 152 zlk_3) = true := by decide +kernel
theorem zok_152_1 : ((zc_152.drop 40).take 40).all (zchR 152 zlk_3) = true := by decide +kernel
theorem zok_152_2 : ((zc_152.drop 80).take 40).all (zchR 152 zlk_3) = true := by decide +kernel
theorem zok_152 : zPk 152 zc_152 := ⟨"FlagLayers$Judge", zlk_3, by decide +kernel, zlkA_3, (zal2 0 zok_152_0 (zal2 40 zok_152_1 (zal2 80 zok_152_2 (by decide +kernel))))⟩
theorem zok_153_0 : ((zc_153.drop 0).take 40).all (zchR 153 zlk_3) = true := by decide +kernel
theorem zok_153 : zPk 153 zc_153 := ⟨"FlagLayers$Judge", zlk_3, by decide +kernel, zlkA_3, (zal2 0 zok_153_0 (by decide +kernel))⟩
theorem zok_154_0 : ((zc_154.drop 0).take 40).all (zchR 154 zlk_8) = true := by decide +kernel
theorem zok_154 : zPk 154 zc_154 := ⟨"FlagLayers$Token", zlk_8, by decide +kernel, zlkA_8, (zal2 0 zok_154_0 (by decide +kernel))⟩
theorem zok_155_0 : ((zc_155.drop 0).take 40).all (zchR 155 zlk_3) = true := by decide +kernel
theorem zok_155 : zPk 155 zc_155 := ⟨"FlagLayers$Judge", zlk_3, by decide +kernel, zlkA_3, (zal2 0 zok_155_0 (by decide +kernel))⟩
theorem zok_156_0 : ((zc_156.drop 0).take 40).all (zchR 156 zlk_3) = true := by decide +kernel
theorem zok_156 : zPk 156 zc_156 := ⟨"FlagLayers$Judge", zlk_3, by decide +kernel, zlkA_3, (zal2 0 zok_156_0 (by decide +kernel))⟩
theorem zok_157_0 : ((zc_157.drop 0).take 40).all (zchR 157 zlk_3) = true := by decide +kernel
theorem zok_157 : zPk 157 zc_157 := ⟨"FlagLayers$Judge", zlk_3, by decide +kernel, zlkA_3, (zal2 0 zok_157_0 (by decide +kernel))⟩
theorem zok_158_0 : ((zc_158.drop 0).take 40).all (zchR 158 zlk_3) = true := by decide +kernel
theorem zok_158_1 : ((zc_158.drop 40).take 40).all (zchR 158 zlk_3) = true := by decide +kernel
theorem zok_158_2 : ((zc_158.drop 80).take 40).all (zchR 158 zlk_3) = true := by decide +kernel
theorem zok_158 : zPk 158 zc_158 := ⟨"FlagLayers$Judge", zlk_3, by decide +kernel, zlkA_3, (zal2 0 zok_158_0 (zal2 40 zok_158_1 (zal2 80 zok_158_2 (by decide +kernel))))⟩
theorem zok_159_0 : ((zc_159.drop 0).take 40).all (zchR 159 zlk_25) = true := by decide +kernel
theorem zok_159 : zPk 159 zc_159 := ⟨"FlagLayers$Layer", zlk_25, by decide +kernel, zlkA_25, (zal2 0 zok_159_0 (by decide +kernel))⟩
theorem zok_160_0 : ((zc_160.drop 0).take 40).all (zchR 160 zlk_3) = true := by decide +kernel
theorem zok_160 : zPk 160 zc_160 := ⟨"FlagLayers$Judge", zlk_3, by decide +kernel, zlkA_3, (zal2 0 zok_160_0 (by decide +kernel))⟩
theorem zok_161_0 : ((zc_161.drop 0).take 40).all (zchR 161 zlk_3) = true := by decide +kernel
theorem zok_161 : zPk 161 zc_161 := ⟨"FlagLayers$Judge", zlk_3, by decide +kernel, zlkA_3, (zal2 0 zok_161_0 (by decide +kernel))⟩
theorem zok_162_0 : ((zc_162.drop 0).take 40).all (zchR 162 zlk_3) = true := by decide +kernel
theorem zok_162 : zPk 162 zc_162 := ⟨"FlagLayers$Judge", zlk_3, by decide +kernel, zlkA_3, (zal2 0 zok_162_0 (by decide +kernel))⟩
theorem zok_163_0 : ((zc_163.drop 0).take 40).all (zchR 163 zlk_3) = true := by decide +kernel
theorem zok_163_1 : ((zc_163.drop 40).take 40).all (zchR 163 zlk_3) = true := by decide +kernel
theorem zok_163 : zPk 163 zc_163 := ⟨"FlagLayers$Judge", zlk_3, by decide +kernel, zlkA_3, (zal2 0 zok_163_0 (zal2 40 zok_163_1 (by decide +kernel)))⟩
theorem zok_164_0 : ((zc_164.drop 0).take 40).all (zchR 164 zlk_23) = true := by decide +kernel
theorem zok_164 : zPk 164 zc_164 := ⟨"FlagLayers$Serve", zlk_23, by decide +kernel, zlkA_23, (zal2 0 zok_164_0 (by decide +kernel))⟩
theorem zok_165_0 : ((zc_165.drop 0).take 40).all (zchR 165 zlk_3) = true := by decide +kernel
theorem zok_165 : zPk 165 zc_165 := ⟨"FlagLayers$Judge", zlk_3, by decide +kernel, zlkA_3, (zal2 0 zok_165_0 (by decide +kernel))⟩
theorem zok_166_0 : ((zc_166.drop 0).take 40).all (zchR 166 zlk_3) = true := by decide +kernel
theorem zok_166 : zPk 166 zc_166 := ⟨"FlagLayers$Judge", zlk_3, by decide +kernel, zlkA_3, (zal2 0 zok_166_0 (by decide +kernel))⟩
theorem zok_167_0 : ((zc_167.drop 0).take 40).all (zchR 167 zlk_3) = true := by decide +kernel
theorem zok_167 : zPk 167 zc_167 := ⟨"FlagLayers$Judge", zlk_3, by decide +kernel, zlkA_3, (zal2 0 zok_167_0 (by decide +kernel))⟩
theorem zok_168_0 : ((zc_168.drop 0).take 40).all (zchR 168 zlk_23) = true := by decide +kernel
theorem zok_168 : zPk 168 zc_168 := ⟨"FlagLayers$Serve", zlk_23, by decide +kernel, zlkA_23, (zal2 0 zok_168_0 (by decide +kernel))⟩
theorem zok_169_0 : ((zc_169.drop 0).take 40).all (zchR 169 zlk_25) = true := by decide +kernel
theorem zok_169 : zPk 169 zc_169 := ⟨"FlagLayers$Layer", zlk_25, by decide +kernel, zlkA_25, (zal2 0 zok_169_0 (by decide +kernel))⟩
theorem zok_170_0 : ((zc_170.drop 0).take 40).all (zchR 170 zlk_3) = true := by decide +kernel
theorem zok_170_1 : ((zc_170.drop 40).take 40).all (zchR 170 zlk_3) = true := by decide +kernel
theorem zok_170 : zPk 170 zc_170 := ⟨"FlagLayers$Judge", zlk_3, by decide +kernel, zlkA_3, (zal2 0 zok_170_0 (zal2 40 zok_170_1 (by decide +kernel)))⟩
theorem zok_171_0 : ((zc_171.drop 0).take 40).all (zchR 171 zlk_0) = true := by decide +kernel
theorem zok_171 : zPk 171 zc_171 := ⟨"FlagLayersLaw", zlk_0, by decide +kernel, zlkA_0, (zal2 0 zok_171_0 (by decide +kernel))⟩
theorem zok_172_0 : ((zc_172.drop 0).take 40).all (zchR 172 zlk_1) = true := by decide +kernel
theorem zok_172 : zPk 172 zc_172 := ⟨"FlagLayers", zlk_1, by decide +kernel, zlkA_1, (zal2 0 zok_172_0 (by decide +kernel))⟩
theorem zok_173_0 : ((zc_173.drop 0).take 40).all (zchR 173 zlk_0) = true := by decide +kernel
theorem zok_173 : zPk 173 zc_173 := ⟨"FlagLayersLaw", zlk_0, by decide +kernel, zlkA_0, (zal2 0 zok_173_0 (by decide +kernel))⟩
theorem zok_174_0 : ((zc_174.drop 0).take 40).all (zchR 174 zlk_1) = true := by decide +kernel
theorem zok_174 : zPk 174 zc_174 := ⟨"FlagLayers", zlk_1, by decide +kernel, zlkA_1, (zal2 0 zok_174_0 (by decide +kernel))⟩
theorem zok_175_0 : ((zc_175.drop 0).take 40).all (zchR 175 zlk_0) = true := by decide +kernel
theorem zok_175 : zPk 175 zc_175 := ⟨"FlagLayersLaw", zlk_0, by decide +kernel, zlkA_0, (zal2 0 zok_175_0 (by decide +kernel))⟩
theorem zok_176_0 : ((zc_176.drop 0).take 40).all (zchR 176 zlk_1) = true := by decide +kernel
theorem zok_176 : zPk 176 zc_176 := ⟨"FlagLayers", zlk_1, by decide +kernel, zlkA_1, (zal2 0 zok_176_0 (by decide +kernel))⟩
theorem zok_177_0 : ((zc_177.drop 0).take 40).all (zchR 177 zlk_0) = true := by decide +kernel
theorem zok_177 : zPk 177 zc_177 := ⟨"FlagLayersLaw", zlk_0, by decide +kernel, zlkA_0, (zal2 0 zok_177_0 (by decide +kernel))⟩
theorem zok_178_0 : ((zc_178.drop 0).take 40).all (zchR 178 zlk_1) = true := by decide +kernel
theorem zok_178 : zPk 178 zc_178 := ⟨"FlagLayers", zlk_1, by decide +kernel, zlkA_1, (zal2 0 zok_178_0 (by decide +kernel))⟩
theorem zok_179_0 : ((zc_179.drop 0).take 40).all (zchR 179 zlk_0) = true := by decide +kernel
theorem zok_179 : zPk 179 zc_179 := ⟨"FlagLayersLaw", zlk_0, by decide +kernel, zlkA_0, (zal2 0 zok_179_0 (by decide +kernel))⟩
theorem zok_180_0 : ((zc_180.drop 0).take 40).all (zchR 180 zlk_1) = true := by decide +kernel
theorem zok_180 : zPk 180 zc_180 := ⟨"FlagLayers", zlk_1, by decide +kernel, zlkA_1, (zal2 0 zok_180_0 (by decide +kernel))⟩
theorem zok_181_0 : ((zc_181.drop 0).take 40).all (zchR 181 zlk_23) = true := by decide +kernel
theorem zok_181 : zPk 181 zc_181 := ⟨"FlagLayers$Serve", zlk_23, by decide +kernel, zlkA_23, (zal2 0 zok_181_0 (by decide +kernel))⟩
theorem zok_182_0 : ((zc_182.drop 0).take 40).all (zchR 182 zlk_26) = true := by decide +kernel
theorem zok_182_1 : ((zc_182.drop 40).take 40).all (zchR 182 zlk_26) = true := by decide +kernel
theorem zok_182_2 : ((zc_182.drop 80).take 40).all (zchR 182 zlk_26) = true := by decide +kernel
theorem zok_182_3 : ((zc_182.drop 120).take 40).all (zchR 182 zlk_26) = true := by decide +kernel
theorem zok_182_4 : ((zc_182.drop 160).take 40).all (zchR 182 zlk_26) = true := by decide +kernel
theorem zok_182_5 : ((zc_182.drop 200).take 40).all (zchR 182 zlk_26) = true := by decide +kernel
theorem zok_182_6 : ((zc_182.drop 240).take 40).all (zchR 182 zlk_26) = true := by decide +kernel
theorem zok_182_7 : ((zc_182.drop 280).take 40).all (zchR 182 zlk_26) = true := by decide +kernel
theorem zok_182 : zPk 182 zc_182 := ⟨"FlagLayersModel", zlk_26, by decide +kernel, zlkA_26, (zal2 0 zok_182_0 (zal2 40 zok_182_1 (zal2 80 zok_182_2 (zal2 120 zok_182_3 (zal2 160 zok_182_4 (zal2 200 zok_182_5 (zal2 240 zok_182_6 (zal2 280 zok_182_7 (by decide +kernel)))))))))⟩
end ZASP

/-! THE ASSEMBLY: checks, method by method (written by a program of the verifier's) -/
section ZASP
theorem zok_183_0 : ((zc_183.drop 0).take 40).all (zchR 183 zlk_26) = true := by decide +kernel
theorem zok_183 : zPk 183 zc_183 := ⟨"FlagLayersModel", zlk_26, by decide +kernel, zlkA_26, (zal2 0 zok_183_0 (by decide +kernel))⟩
theorem zok_184_0 : ((zc_184.drop 0).take 40).all (zchR 184 zlk_26) = true := by decide +kernel
theorem zok_184_1 : ((zc_184.drop 40).take 40).all (zchR 184 zlk_26) = true := by decide +kernel
theorem zok_184 : zPk 184 zc_184 := ⟨"FlagLayersModel", zlk_26, by decide +kernel, zlkA_26, (zal2 0 zok_184_0 (zal2 40 zok_184_1 (by decide +kernel)))⟩
theorem zok_185_0 : ((zc_185.drop 0).take 40).all (zchR 185 zlk_26) = true := by decide +kernel
theorem zok_185 : zPk 185 zc_185 := ⟨"FlagLayersModel", zlk_26, by decide +kernel, zlkA_26, (zal2 0 zok_185_0 (by decide +kernel))⟩
theorem zok_186_0 : ((zc_186.drop 0).take 40).all (zchR 186 zlk_26) = true := by decide +kernel
theorem zok_186 : zPk 186 zc_186 := ⟨"FlagLayersModel", zlk_26, by decide +kernel, zlkA_26, (zal2 0 zok_186_0 (by decide +kernel))⟩
theorem zok_187_0 : ((zc_187.drop 0).take 40).all (zchR 187 zlk_26) = true := by decide +kernel
theorem zok_187 : zPk 187 zc_187 := ⟨"FlagLayersModel", zlk_26, by decide +kernel, zlkA_26, (zal2 0 zok_187_0 (by decide +kernel))⟩
theorem zok_188_0 : ((zc_188.drop 0).take 40).all (zchR 188 zlk_26) = true := by decide +kernel
theorem zok_188 : zPk 188 zc_188 := ⟨"FlagLayersModel", zlk_26, by decide +kernel, zlkA_26, (zal2 0 zok_188_0 (by decide +kernel))⟩
theorem zok_189_0 : ((zc_189.drop 0).take 40).all (zchR 189 zlk_26) = true := by decide +kernel
theorem zok_189_1 : ((zc_189.drop 40).take 40).all (zchR 189 zlk_26) = true := by decide +kernel
theorem zok_189_2 : ((zc_189.drop 80).take 40).all (zchR 189 zlk_26) = true := by decide +kernel
theorem zok_189_3 : ((zc_189.drop 120).take 40).all (zchR 189 zlk_26) = true := by decide +kernel
theorem zok_189 : zPk 189 zc_189 := ⟨"FlagLayersModel", zlk_26, by decide +kernel, zlkA_26, (zal2 0 zok_189_0 (zal2 40 zok_189_1 (zal2 80 zok_189_2 (zal2 120 zok_189_3 (by decide +kernel)))))⟩
theorem zok_190_0 : ((zc_190.drop 0).take 40).all (zchR 190 zlk_26) = true := by decide +kernel
theorem zok_190_1 : ((zc_190.drop 40).take 40).all (zchR 190 zlk_26) = true := by decide +kernel
theorem zok_190_2 : ((zc_190.drop 80).take 40).all (zchR 190 zlk_26) = true := by decide +kernel
theorem zok_190_3 : ((zc_190.drop 120).take 40).all (zchR 190 zlk_26) = true := by decide +kernel
theorem zok_190_4 : ((zc_190.drop 160).take 40).all (zchR 190 zlk_26) = true := by decide +kernel
theorem zok_190 : zPk 190 zc_190 := ⟨"FlagLayersModel", zlk_26, by decide +kernel, zlkA_26, (zal2 0 zok_190_0 (zal2 40 zok_190_1 (zal2 80 zok_190_2 (zal2 120 zok_190_3 (zal2 160 zok_190_4 (by decide +kernel))))))⟩
theorem zok_191_0 : ((zc_191.drop 0).take 40).all (zchR 191 zlk_26) = true := by decide +kernel
theorem zok_191 : zPk 191 zc_191 := ⟨"FlagLayersModel", zlk_26, by decide +kernel, zlkA_26, (zal2 0 zok_191_0 (by decide +kernel))⟩
theorem zok_192_0 : ((zc_192.drop 0).take 40).all (zchR 192 zlk_26) = true := by decide +kernel
theorem zok_192 : zPk 192 zc_192 := ⟨"FlagLayersModel", zlk_26, by decide +kernel, zlkA_26, (zal2 0 zok_192_0 (by decide +kernel))⟩
theorem zok_193_0 : ((zc_193.drop 0).take 40).all (zchR 193 zlk_26) = true := by decide +kernel
theorem zok_193 : zPk 193 zc_193 := ⟨"FlagLayersModel", zlk_26, by decide +kernel, zlkA_26, (zal2 0 zok_193_0 (by decide +kernel))⟩
theorem zok_194_0 : ((zc_194.drop 0).take 40).all (zchR 194 zlk_26) = true := by decide +kernel
theorem zok_194 : zPk 194 zc_194 := ⟨"FlagLayersModel", zlk_26, by decide +kernel, zlkA_26, (zal2 0 zok_194_0 (by decide +kernel))⟩
theorem zok_195_0 : ((zc_195.drop 0).take 40).all (zchR 195 zlk_26) = true := by decide +kernel
theorem zok_195 : zPk 195 zc_195 := ⟨"FlagLayersModel", zlk_26, by decide +kernel, zlkA_26, (zal2 0 zok_195_0 (by decide +kernel))⟩
theorem zok_196_0 : ((zc_196.drop 0).take 40).all (zchR 196 zlk_26) = true := by decide +kernel
theorem zok_196 : zPk 196 zc_196 := ⟨"FlagLayersModel", zlk_26, by decide +kernel, zlkA_26, (zal2 0 zok_196_0 (by decide +kernel))⟩
theorem zok_197_0 : ((zc_197.drop 0).take 40).all (zchR 197 zlk_26) = true := by decide +kernel
theorem zok_197_1 : ((zc_197.drop 40).take 40).all (zchR 197 zlk_26) = true := by decide +kernel
theorem zok_197 : zPk 197 zc_197 := ⟨"FlagLayersModel", zlk_26, by decide +kernel, zlkA_26, (zal2 0 zok_197_0 (zal2 40 zok_197_1 (by decide +kernel)))⟩
theorem zok_198_0 : ((zc_198.drop 0).take 40).all (zchR 198 zlk_26) = true := by decide +kernel
theorem zok_198_1 : ((zc_198.drop 40).take 40).all (zchR 198 zlk_26) = true := by decide +kernel
theorem zok_198 : zPk 198 zc_198 := ⟨"FlagLayersModel", zlk_26, by decide +kernel, zlkA_26, (zal2 0 zok_198_0 (zal2 40 zok_198_1 (by decide +kernel)))⟩
theorem zok_199_0 : ((zc_199.drop 0).take 40).all (zchR 199 zlk_26) = true := by decide +kernel
theorem zok_199_1 : ((zc_199.drop 40).take 40).all (zchR 199 zlk_26) = true := by decide +kernel
theorem zok_199 : zPk 199 zc_199 := ⟨"FlagLayersModel", zlk_26, by decide +kernel, zlkA_26, (zal2 0 zok_199_0 (zal2 40 zok_199_1 (by decide +kernel)))⟩
theorem zok_200_0 : ((zc_200.drop 0).take 40).all (zchR 200 zlk_26) = true := by decide +kernel
theorem zok_200 : zPk 200 zc_200 := ⟨"FlagLayersModel", zlk_26, by decide +kernel, zlkA_26, (zal2 0 zok_200_0 (by decide +kernel))⟩
theorem zok_201_0 : ((zc_201.drop 0).take 40).all (zchR 201 zlk_26) = true := by decide +kernel
theorem zok_201_1 : ((zc_201.drop 40).take 40).all (zchR 201 zlk_26) = true := by decide +kernel
theorem zok_201_2 : ((zc_201.drop 80).take 40).all (zchR 201 zlk_26) = true := by decide +kernel
theorem zok_201 : zPk 201 zc_201 := ⟨"FlagLayersModel", zlk_26, by decide +kernel, zlkA_26, (zal2 0 zok_201_0 (zal2 40 zok_201_1 (zal2 80 zok_201_2 (by decide +kernel))))⟩
theorem zok_202_0 : ((zc_202.drop 0).take 40).all (zchR 202 zlk_26) = true := by decide +kernel
theorem zok_202 : zPk 202 zc_202 := ⟨"FlagLayersModel", zlk_26, by decide +kernel, zlkA_26, (zal2 0 zok_202_0 (by decide +kernel))⟩
theorem zok_203_0 : ((zc_203.drop 0).take 40).all (zchR 203 zlk_26) = true := by decide +kernel
theorem zok_203 : zPk 203 zc_203 := ⟨"FlagLayersModel", zlk_26, by decide +kernel, zlkA_26, (zal2 0 zok_203_0 (by decide +kernel))⟩
theorem zok_204_0 : ((zc_204.drop 0).take 40).all (zchR 204 zlk_26) = true := by decide +kernel
theorem zok_204 : zPk 204 zc_204 := ⟨"FlagLayersModel", zlk_26, by decide +kernel, zlkA_26, (zal2 0 zok_204_0 (by decide +kernel))⟩
theorem zok_205_0 : ((zc_205.drop 0).take 40).all (zchR 205 zlk_26) = true := by decide +kernel
theorem zok_205 : zPk 205 zc_205 := ⟨"FlagLayersModel", zlk_26, by decide +kernel, zlkA_26, (zal2 0 zok_205_0 (by decide +kernel))⟩
theorem zok_206_0 : ((zc_206.drop 0).take 40).all (zchR 206 zlk_26) = true := by decide +kernel
theorem zok_206 : zPk 206 zc_206 := ⟨"FlagLayersModel", zlk_26, by decide +kernel, zlkA_26, (zal2 0 zok_206_0 (by decide +kernel))⟩
theorem zok_207_0 : ((zc_207.drop 0).take 40).all (zchR 207 zlk_26) = true := by decide +kernel
theorem zok_207 : zPk 207 zc_207 := ⟨"FlagLayersModel", zlk_26, by decide +kernel, zlkA_26, (zal2 0 zok_207_0 (by decide +kernel))⟩
theorem zok_208_0 : ((zc_208.drop 0).take 40).all (zchR 208 zlk_26) = true := by decide +kernel
theorem zok_208 : zPk 208 zc_208 := ⟨"FlagLayersModel", zlk_26, by decide +kernel, zlkA_26, (zal2 0 zok_208_0 (by decide +kernel))⟩
theorem zok_209_0 : ((zc_209.drop 0).take 40).all (zchR 209 zlk_26) = true := by decide +kernel
theorem zok_209 : zPk 209 zc_209 := ⟨"FlagLayersModel", zlk_26, by decide +kernel, zlkA_26, (zal2 0 zok_209_0 (by decide +kernel))⟩
theorem zok_210_0 : ((zc_210.drop 0).take 40).all (zchR 210 zlk_26) = true := by decide +kernel
theorem zok_210_1 : ((zc_210.drop 40).take 40).all (zchR 210 zlk_26) = true := by decide +kernel
theorem zok_210_2 : ((zc_210.drop 80).take 40).all (zchR 210 zlk_26) = true := by decide +kernel
theorem zok_210_3 : ((zc_210.drop 120).take 40).all (zchR 210 zlk_26) = true := by decide +kernel
theorem zok_210 : zPk 210 zc_210 := ⟨"FlagLayersModel", zlk_26, by decide +kernel, zlkA_26, (zal2 0 zok_210_0 (zal2 40 zok_210_1 (zal2 80 zok_210_2 (zal2 120 zok_210_3 (by decide +kernel)))))⟩
theorem zok_211_0 : ((zc_211.drop 0).take 40).all (zchR 211 zlk_26) = true := by decide +kernel
theorem zok_211 : zPk 211 zc_211 := ⟨"FlagLayersModel", zlk_26, by decide +kernel, zlkA_26, (zal2 0 zok_211_0 (by decide +kernel))⟩
theorem zok_212_0 : ((zc_212.drop 0).take 40).all (zchR 212 zlk_26) = true := by decide +kernel
theorem zok_212_1 : ((zc_212.drop 40).take 40).all (zchR 212 zlk_26) = true := by decide +kernel
theorem zok_212_2 : ((zc_212.drop 80).take 40).all (zchR 212 zlk_26) = true := by decide +kernel
theorem zok_212_3 : ((zc_212.drop 120).take 40).all (zchR 212 zlk_26) = true := by decide +kernel
theorem zok_212 : zPk 212 zc_212 := ⟨"FlagLayersModel", zlk_26, by decide +kernel, zlkA_26, (zal2 0 zok_212_0 (zal2 40 zok_212_1 (zal2 80 zok_212_2 (zal2 120 zok_212_3 (by decide +kernel)))))⟩
theorem zok_213_0 : ((zc_213.drop 0).take 40).all (zchR 213 zlk_26) = true := by decide +kernel
theorem zok_213 : zPk 213 zc_213 := ⟨"FlagLayersModel", zlk_26, by decide +kernel, zlkA_26, (zal2 0 zok_213_0 (by decide +kernel))⟩
theorem zok_214_0 : ((zc_214.drop 0).take 40).all (zchR 214 zlk_26) = true := by decide +kernel
theorem zok_214 : zPk 214 zc_214 := ⟨"FlagLayersModel", zlk_26, by decide +kernel, zlkA_26, (zal2 0 zok_214_0 (by decide +kernel))⟩
theorem zok_215_0 : ((zc_215.drop 0).take 40).all (zchR 215 zlk_26) = true := by decide +kernel
theorem zok_215_1 : ((zc_215.drop 40).take 40).all (zchR 215 zlk_26) = true := by decide +kernel
theorem zok_215_2 : ((zc_215.drop 80).take 40).all (zchR 215 zlk_26) = true := by decide +kernel
theorem zok_215 : zPk 215 zc_215 := ⟨"FlagLayersModel", zlk_26, by decide +kernel, zlkA_26, (zal2 0 zok_215_0 (zal2 40 zok_215_1 (zal2 80 zok_215_2 (by decide +kernel))))⟩
theorem zok_216_0 : ((zc_216.drop 0).take 40).all (zchR 216 zlk_26) = true := by decide +kernel
theorem zok_216 : zPk 216 zc_216 := ⟨"FlagLayersModel", zlk_26, by decide +kernel, zlkA_26, (zal2 0 zok_216_0 (by decide +kernel))⟩
theorem zok_217_0 : ((zc_217.drop 0).take 40).all (zchR 217 zlk_26) = true := by decide +kernel
theorem zok_217_1 : ((zc_217.drop 40).take 40).all (zchR 217 zlk_26) = true := by decide +kernel
theorem zok_217_2 : ((zc_217.drop 80).take 40).all (zchR 217 zlk_26) = true := by decide +kernel
theorem zok_217_3 : ((zc_217.drop 120).take 40).all (zchR 217 zlk_26) = true := by decide +kernel
theorem zok_217 : zPk 217 zc_217 := ⟨"FlagLayersModel", zlk_26, by decide +kernel, zlkA_26, (zal2 0 zok_217_0 (zal2 40 zok_217_1 (zal2 80 zok_217_2 (zal2 120 zok_217_3 (by decide +kernel)))))⟩
theorem zok_218_0 : ((zc_218.drop 0).take 40).all (zchR 218 zlk_26) = true := by decide +kernel
theorem zok_218_1 : ((zc_218.drop 40).take 40).all (zchR 218 zlk_26) = true := by decide +kernel
theorem zok_218 : zPk 218 zc_218 := ⟨"FlagLayersModel", zlk_26, by decide +kernel, zlkA_26, (zal2 0 zok_218_0 (zal2 40 zok_218_1 (by decide +kernel)))⟩
theorem zok_219_0 : ((zc_219.drop 0).take 40).all (zchR 219 zlk_26) = true := by decide +kernel
theorem zok_219_1 : ((zc_219.drop 40).take 40).all (zchR 219 zlk_26) = true := by decide +kernel
theorem zok_219 : zPk 219 zc_219 := ⟨"FlagLayersModel", zlk_26, by decide +kernel, zlkA_26, (zal2 0 zok_219_0 (zal2 40 zok_219_1 (by decide +kernel)))⟩
theorem zok_220_0 : ((zc_220.drop 0).take 40).all (zchR 220 zlk_26) = true := by decide +kernel
theorem zok_220 : zPk 220 zc_220 := ⟨"FlagLayersModel", zlk_26, by decide +kernel, zlkA_26, (zal2 0 zok_220_0 (by decide +kernel))⟩
theorem zok_221_0 : ((zc_221.drop 0).take 40).all (zchR 221 zlk_26) = true := by decide +kernel
theorem zok_221 : zPk 221 zc_221 := ⟨"FlagLayersModel", zlk_26, by decide +kernel, zlkA_26, (zal2 0 zok_221_0 (by decide +kernel))⟩
theorem zok_222_0 : ((zc_222.drop 0).take 40).all (zchR 222 zlk_26) = true := by decide +kernel
theorem zok_222_1 : ((zc_222.drop 40).take 40).all (zchR 222 zlk_26) = true := by decide +kernel
theorem zok_222 : zPk 222 zc_222 := ⟨"FlagLayersModel", zlk_26, by decide +kernel, zlkA_26, (zal2 0 zok_222_0 (zal2 40 zok_222_1 (by decide +kernel)))⟩
theorem zok_223_0 : ((zc_223.drop 0).take 40).all (zchR 223 zlk_26) = true := by decide +kernel
theorem zok_223_1 : ((zc_223.drop 40).take 40).all (zchR 223 zlk_26) = true := by decide +kernel
theorem zok_223 : zPk 223 zc_223 := ⟨"FlagLayersModel", zlk_26, by decide +kernel, zlkA_26, (zal2 0 zok_223_0 (zal2 40 zok_223_1 (by decide +kernel)))⟩
end ZASP

/-! THE ASSEMBLY: checks, method by method (written by a program of the verifier's) -/
section ZASP
theorem zok_224_0 : ((zc_224.drop 0).take 40).all (zchR 224 zlk_26) = true := by decide +kernel
theorem zok_224 : zPk 224 zc_224 := ⟨"FlagLayersModel", zlk_26, by decide +kernel, zlkA_26, (zal2 0 zok_224_0 (by decide +kernel))⟩
theorem zok_225_0 : ((zc_225.drop 0).take 40).all (zchR 225 zlk_26) = true := by decide +kernel
theorem zok_225 : zPk 225 zc_225 := ⟨"FlagLayersModel", zlk_26, by decide +kernel, zlkA_26, (zal2 0 zok_225_0 (by decide +kernel))⟩
theorem zok_226_0 : ((zc_226.drop 0).take 40).all (zchR 226 zlk_26) = true := by decide +kernel
theorem zok_226_1 : ((zc_226.drop 40).take 40).all (zchR 226 zlk_26) = true := by decide +kernel
theorem zok_226_2 : ((zc_226.drop 80).take 40).all (zchR 226 zlk_26) = true := by decide +kernel
theorem zok_226_3 : ((zc_226.drop 120).take 40).all (zchR 226 zlk_26) = true := by decide +kernel
theorem zok_226_4 : ((zc_226.drop 160).take 40).all (zchR 226 zlk_26) = true := by decide +kernel
theorem zok_226 : zPk 226 zc_226 := ⟨"FlagLayersModel", zlk_26, by decide +kernel, zlkA_26, (zal2 0 zok_226_0 (zal2 40 zok_226_1 (zal2 80 zok_226_2 (zal2 120 zok_226_3 (zal2 160 zok_226_4 (by decide +kernel))))))⟩
theorem zok_227_0 : ((zc_227.drop 0).take 40).all (zchR 227 zlk_26) = true := by decide +kernel
theorem zok_227_1 : ((zc_227.drop 40).take 40).all (zchR 227 zlk_26) = true := by decide +kernel
theorem zok_227_2 : ((zc_227.drop 80).take 40).all (zchR 227 zlk_26) = true := by decide +kernel
theorem zok_227 : zPk 227 zc_227 := ⟨"FlagLayersModel", zlk_26, by decide +kernel, zlkA_26, (zal2 0 zok_227_0 (zal2 40 zok_227_1 (zal2 80 zok_227_2 (by decide +kernel))))⟩
theorem zok_228_0 : ((zc_228.drop 0).take 40).all (zchR 228 zlk_26) = true := by decide +kernel
theorem zok_228 : zPk 228 zc_228 := ⟨"FlagLayersModel", zlk_26, by decide +kernel, zlkA_26, (zal2 0 zok_228_0 (by decide +kernel))⟩
theorem zok_229_0 : ((zc_229.drop 0).take 40).all (zchR 229 zlk_26) = true := by decide +kernel
theorem zok_229_1 : ((zc_229.drop 40).take 40).all (zchR 229 zlk_26) = true := by decide +kernel
theorem zok_229 : zPk 229 zc_229 := ⟨"FlagLayersModel", zlk_26, by decide +kernel, zlkA_26, (zal2 0 zok_229_0 (zal2 40 zok_229_1 (by decide +kernel)))⟩
theorem zok_230_0 : ((zc_230.drop 0).take 40).all (zchR 230 zlk_26) = true := by decide +kernel
theorem zok_230_1 : ((zc_230.drop 40).take 40).all (zchR 230 zlk_26) = true := by decide +kernel
theorem zok_230_2 : ((zc_230.drop 80).take 40).all (zchR 230 zlk_26) = true := by decide +kernel
theorem zok_230_3 : ((zc_230.drop 120).take 40).all (zchR 230 zlk_26) = true := by decide +kernel
theorem zok_230_4 : ((zc_230.drop 160).take 40).all (zchR 230 zlk_26) = true := by decide +kernel
theorem zok_230_5 : ((zc_230.drop 200).take 40).all (zchR 230 zlk_26) = true := by decide +kernel
theorem zok_230_6 : ((zc_230.drop 240).take 40).all (zchR 230 zlk_26) = true := by decide +kernel
theorem zok_230_7 : ((zc_230.drop 280).take 40).all (zchR 230 zlk_26) = true := by decide +kernel
theorem zok_230 : zPk 230 zc_230 := ⟨"FlagLayersModel", zlk_26, by decide +kernel, zlkA_26, (zal2 0 zok_230_0 (zal2 40 zok_230_1 (zal2 80 zok_230_2 (zal2 120 zok_230_3 (zal2 160 zok_230_4 (zal2 200 zok_230_5 (zal2 240 zok_230_6 (zal2 280 zok_230_7 (by decide +kernel)))))))))⟩
theorem zok_231_0 : ((zc_231.drop 0).take 40).all (zchR 231 zlk_26) = true := by decide +kernel
theorem zok_231 : zPk 231 zc_231 := ⟨"FlagLayersModel", zlk_26, by decide +kernel, zlkA_26, (zal2 0 zok_231_0 (by decide +kernel))⟩
theorem zok_232_0 : ((zc_232.drop 0).take 40).all (zchR 232 zlk_26) = true := by decide +kernel
theorem zok_232_1 : ((zc_232.drop 40).take 40).all (zchR 232 zlk_26) = true := by decide +kernel
theorem zok_232_2 : ((zc_232.drop 80).take 40).all (zchR 232 zlk_26) = true := by decide +kernel
theorem zok_232 : zPk 232 zc_232 := ⟨"FlagLayersModel", zlk_26, by decide +kernel, zlkA_26, (zal2 0 zok_232_0 (zal2 40 zok_232_1 (zal2 80 zok_232_2 (by decide +kernel))))⟩
theorem zok_233_0 : ((zc_233.drop 0).take 40).all (zchR 233 zlk_26) = true := by decide +kernel
theorem zok_233_1 : ((zc_233.drop 40).take 40).all (zchR 233 zlk_26) = true := by decide +kernel
theorem zok_233_2 : ((zc_233.drop 80).take 40).all (zchR 233 zlk_26) = true := by decide +kernel
theorem zok_233_3 : ((zc_233.drop 120).take 40).all (zchR 233 zlk_26) = true := by decide +kernel
theorem zok_233 : zPk 233 zc_233 := ⟨"FlagLayersModel", zlk_26, by decide +kernel, zlkA_26, (zal2 0 zok_233_0 (zal2 40 zok_233_1 (zal2 80 zok_233_2 (zal2 120 zok_233_3 (by decide +kernel)))))⟩
theorem zok_234_0 : ((zc_234.drop 0).take 40).all (zchR 234 zlk_26) = true := by decide +kernel
theorem zok_234_1 : ((zc_234.drop 40).take 40).all (zchR 234 zlk_26) = true := by decide +kernel
theorem zok_234_2 : ((zc_234.drop 80).take 40).all (zchR 234 zlk_26) = true := by decide +kernel
theorem zok_234_3 : ((zc_234.drop 120).take 40).all (zchR 234 zlk_26) = true := by decide +kernel
theorem zok_234 : zPk 234 zc_234 := ⟨"FlagLayersModel", zlk_26, by decide +kernel, zlkA_26, (zal2 0 zok_234_0 (zal2 40 zok_234_1 (zal2 80 zok_234_2 (zal2 120 zok_234_3 (by decide +kernel)))))⟩
theorem zok_235_0 : ((zc_235.drop 0).take 40).all (zchR 235 zlk_26) = true := by decide +kernel
theorem zok_235_1 : ((zc_235.drop 40).take 40).all (zchR 235 zlk_26) = true := by decide +kernel
theorem zok_235_2 : ((zc_235.drop 80).take 40).all (zchR 235 zlk_26) = true := by decide +kernel
theorem zok_235_3 : ((zc_235.drop 120).take 40).all (zchR 235 zlk_26) = true := by decide +kernel
theorem zok_235 : zPk 235 zc_235 := ⟨"FlagLayersModel", zlk_26, by decide +kernel, zlkA_26, (zal2 0 zok_235_0 (zal2 40 zok_235_1 (zal2 80 zok_235_2 (zal2 120 zok_235_3 (by decide +kernel)))))⟩
theorem zok_236_0 : ((zc_236.drop 0).take 40).all (zchR 236 zlk_26) = true := by decide +kernel
theorem zok_236_1 : ((zc_236.drop 40).take 40).all (zchR 236 zlk_26) = true := by decide +kernel
theorem zok_236_2 : ((zc_236.drop 80).take 40).all (zchR 236 zlk_26) = true := by decide +kernel
theorem zok_236 : zPk 236 zc_236 := ⟨"FlagLayersModel", zlk_26, by decide +kernel, zlkA_26, (zal2 0 zok_236_0 (zal2 40 zok_236_1 (zal2 80 zok_236_2 (by decide +kernel))))⟩
theorem zok_237_0 : ((zc_237.drop 0).take 40).all (zchR 237 zlk_26) = true := by decide +kernel
theorem zok_237_1 : ((zc_237.drop 40).take 40).all (zchR 237 zlk_26) = true := by decide +kernel
theorem zok_237_2 : ((zc_237.drop 80).take 40).all (zchR 237 zlk_26) = true := by decide +kernel
theorem zok_237_3 : ((zc_237.drop 120).take 40).all (zchR 237 zlk_26) = true := by decide +kernel
theorem zok_237_4 : ((zc_237.drop 160).take 40).all (zchR 237 zlk_26) = true := by decide +kernel
theorem zok_237 : zPk 237 zc_237 := ⟨"FlagLayersModel", zlk_26, by decide +kernel, zlkA_26, (zal2 0 zok_237_0 (zal2 40 zok_237_1 (zal2 80 zok_237_2 (zal2 120 zok_237_3 (zal2 160 zok_237_4 (by decide +kernel))))))⟩
theorem zok_238_0 : ((zc_238.drop 0).take 40).all (zchR 238 zlk_26) = true := by decide +kernel
theorem zok_238_1 : ((zc_238.drop 40).take 40).all (zchR 238 zlk_26) = true := by decide +kernel
theorem zok_238 : zPk 238 zc_238 := ⟨"FlagLayersModel", zlk_26, by decide +kernel, zlkA_26, (zal2 0 zok_238_0 (zal2 40 zok_238_1 (by decide +kernel)))⟩
theorem zok_239_0 : ((zc_239.drop 0).take 40).all (zchR 239 zlk_26) = true := by decide +kernel
theorem zok_239_1 : ((zc_239.drop 40).take 40).all (zchR 239 zlk_26) = true := by decide +kernel
theorem zok_239_2 : ((zc_239.drop 80).take 40).all (zchR 239 zlk_26) = true := by decide +kernel
theorem zok_239_3 : ((zc_239.drop 120).take 40).all (zchR 239 zlk_26) = true := by decide +kernel
theorem zok_239 : zPk 239 zc_239 := ⟨"FlagLayersModel", zlk_26, by decide +kernel, zlkA_26, (zal2 0 zok_239_0 (zal2 40 zok_239_1 (zal2 80 zok_239_2 (zal2 120 zok_239_3 (by decide +kernel)))))⟩
theorem zok_240_0 : ((zc_240.drop 0).take 40).all (zchR 240 zlk_26) = true := by decide +kernel
theorem zok_240_1 : ((zc_240.drop 40).take 40).all (zchR 240 zlk_26) = true := by decide +kernel
theorem zok_240_2 : ((zc_240.drop 80).take 40).all (zchR 240 zlk_26) = true := by decide +kernel
theorem zok_240 : zPk 240 zc_240 := ⟨"FlagLayersModel", zlk_26, by decide +kernel, zlkA_26, (zal2 0 zok_240_0 (zal2 40 zok_240_1 (zal2 80 zok_240_2 (by decide +kernel))))⟩
theorem zok_241_0 : ((zc_241.drop 0).take 40).all (zchR 241 zlk_26) = true := by decide +kernel
theorem zok_241 : zPk 241 zc_241 := ⟨"FlagLayersModel", zlk_26, by decide +kernel, zlkA_26, (zal2 0 zok_241_0 (by decide +kernel))⟩
theorem zok_242_0 : ((zc_242.drop 0).take 40).all (zchR 242 zlk_26) = true := by decide +kernel
theorem zok_242_1 : ((zc_242.drop 40).take 40).all (zchR 242 zlk_26) = true := by decide +kernel
theorem zok_242 : zPk 242 zc_242 := ⟨"FlagLayersModel", zlk_26, by decide +kernel, zlkA_26, (zal2 0 zok_242_0 (zal2 40 zok_242_1 (by decide +kernel)))⟩
end ZASP

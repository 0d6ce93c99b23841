/-! THE ASSEMBLY: checks, method by method (written by a program of the verifier's) -/
section ZASP
theorem zok_243_0 : ((zc_243.drop 0).take 40).all (zchR 243 zlk_26) = true := by decide +kernel
theorem zok_243_1 : ((zc_243.drop 40).take 40).all (zchR 243 zlk_26) = true := by decide +kernel
theorem zok_243_2 : ((zc_243.drop 80).take 40).all (zchR 243 zlk_26) = true := by decide +kernel
theorem zok_243_3 : ((zc_243.drop 120).take 40).all (zchR 243 zlk_26) = true := by decide +kernel
theorem zok_243 : zPk 243 zc_243 := ⟨"FlagLayersModel", zlk_26, by decide +kernel, zlkA_26, (zal2 0 zok_243_0 (zal2 40 zok_243_1 (zal2 80 zok_243_2 (zal2 120 zok_243_3 (by decide +kernel)))))⟩
theorem zok_244_0 : ((zc_244.drop 0).take 40).all (zchR 244 zlk_26) = true := by decide +kernel
theorem zok_244 : zPk 244 zc_244 := ⟨"FlagLayersModel", zlk_26, by decide +kernel, zlkA_26, (zal2 0 zok_244_0 (by decide +kernel))⟩
theorem zok_245_0 : ((zc_245.drop 0).take 40).all (zchR 245 zlk_26) = true := by decide +kernel
theorem zok_245_1 : ((zc_245.drop 40).take 40).all (zchR 245 zlk_26) = true := by decide +kernel
theorem zok_245 : zPk 245 zc_245 := ⟨"FlagLayersModel", zlk_26, by decide +kernel, zlkA_26, (zal2 0 zok_245_0 (zal2 40 zok_245_1 (by decide +kernel)))⟩
theorem zok_246_0 : ((zc_246.drop 0).take 40).all (zchR 246 zlk_26) = true := by decide +kernel
theorem zok_246_1 : ((zc_246.drop 40).take 40).all (zchR 246 zlk_26) = true := by decide +kernel
theorem zok_246_2 : ((zc_246.drop 80).take 40).all (zchR 246 zlk_26) = true := by decide +kernel
theorem zok_246 : zPk 246 zc_246 := ⟨"FlagLayersModel", zlk_26, by decide +kernel, zlkA_26, (zal2 0 zok_246_0 (zal2 40 zok_246_1 (zal2 80 zok_246_2 (by decide +kernel))))⟩
theorem zok_247_0 : ((zc_247.drop 0).take 40).all (zchR 247 zlk_26) = true := by decide +kernel
theorem zok_247_1 : ((zc_247.drop 40).take 40).all (zchR 247 zlk_26) = true := by decide +kernel
theorem zok_247 : zPk 247 zc_247 := ⟨"FlagLayersModel", zlk_26, by decide +kernel, zlkA_26, (zal2 0 zok_247_0 (zal2 40 zok_247_1 (by decide +kernel)))⟩
theorem zok_248_0 : ((zc_248.drop 0).take 40).all (zchR 248 zlk_26) = true := by decide +kernel
theorem zok_248 : zPk 248 zc_248 := ⟨"FlagLayersModel", zlk_26, by decide +kernel, zlkA_26, (zal2 0 zok_248_0 (by decide +kernel))⟩
theorem zok_249_0 : ((zc_249.drop 0).take 40).all (zchR 249 zlk_26) = true := by decide +kernel
theorem zok_249_1 : ((zc_249.drop 40).take 40).all (zchR 249 zlk_26) = true := by decide +kernel
theorem zok_249 : zPk 249 zc_249 := ⟨"FlagLayersModel", zlk_26, by decide +kernel, zlkA_26, (zal2 0 zok_249_0 (zal2 40 zok_249_1 (by decide +kernel)))⟩
theorem zok_250_0 : ((zc_250.drop 0).take 40).all (zchR 250 zlk_26) = true := by decide +kernel
theorem zok_250_1 : ((zc_250.drop 40).take 40).all (zchR 250 zlk_26) = true := by decide +kernel
theorem zok_250 : zPk 250 zc_250 := ⟨"FlagLayersModel", zlk_26, by decide +kernel, zlkA_26, (zal2 0 zok_250_0 (zal2 40 zok_250_1 (by decide +kernel)))⟩
theorem zok_251_0 : ((zc_251.drop 0).take 40).all (zchR 251 zlk_26) = true := by decide +kernel
theorem zok_251 : zPk 251 zc_251 := ⟨"FlagLayersModel", zlk_26, by decide +kernel, zlkA_26, (zal2 0 zok_251_0 (by decide +kernel))⟩
theorem zok_252_0 : ((zc_252.drop 0).take 40).all (zchR 252 zlk_26) = true := by decide +kernel
theorem zok_252_1 : ((zc_252.drop 40).take 40).all (zchR 252 zlk_26) = true := by decide +kernel
theorem zok_252_2 : ((zc_252.drop 80).take 40).all (zchR 252 zlk_26) = true := by decide +kernel
theorem zok_252_3 : ((zc_252.drop 120).take 40).all (zchR 252 zlk_26) = true := by decide +kernel
theorem zok_252 : zPk 252 zc_252 := ⟨"FlagLayersModel", zlk_26, by decide +kernel, zlkA_26, (zal2 0 zok_252_0 (zal2 40 zok_252_1 (zal2 80 zok_252_2 (zal2 120 zok_252_3 (by decide +kernel)))))⟩
theorem zok_253_0 : ((zc_253.drop 0).take 40).all (zchR 253 zlk_26) = true := by decide +kernel
theorem zok_253_1 : ((zc_253.drop 40).take 40).all (zchR 253 zlk_26) = true := by decide +kernel
theorem zok_253_2 : ((zc_253.drop 80).take 40).all (zchR 253 zlk_26) = true := by decide +kernel
theorem zok_253_3 : ((zc_253.drop 120).take 40).all (zchR 253 zlk_26) = true := by decide +kernel
theorem zok_253_4 : ((zc_253.drop 160).take 40).all (zchR 253 zlk_26) = true := by decide +kernel
theorem zok_253 : zPk 253 zc_253 := ⟨"FlagLayersModel", zlk_26, by decide +kernel, zlkA_26, (zal2 0 zok_253_0 (zal2 40 zok_253_1 (zal2 80 zok_253_2 (zal2 120 zok_253_3 (zal2 160 zok_253_4 (by decide +kernel))))))⟩
theorem zok_254_0 : ((zc_254.drop 0).take 40).all (zchR 254 zlk_26) = true := by decide +kernel
theorem zok_254 : zPk 254 zc_254 := ⟨"FlagLayersModel", zlk_26, by decide +kernel, zlkA_26, (zal2 0 zok_254_0 (by decide +kernel))⟩
theorem zok_255_0 : ((zc_255.drop 0).take 40).all (zchR 255 zlk_26) = true := by decide +kernel
theorem zok_255 : zPk 255 zc_255 := ⟨"FlagLayersModel", zlk_26, by decide +kernel, zlkA_26, (zal2 0 zok_255_0 (by decide +kernel))⟩
theorem zok_256_0 : ((zc_256.drop 0).take 40).all (zchR 256 zlk_26) = true := by decide +kernel
theorem zok_256_1 : ((zc_256.drop 40).take 40).all (zchR 256 zlk_26) = true := by decide +kernel
theorem zok_256 : zPk 256 zc_256 := ⟨"FlagLayersModel", zlk_26, by decide +kernel, zlkA_26, (zal2 0 zok_256_0 (zal2 40 zok_256_1 (by decide +kernel)))⟩
theorem zok_257_0 : ((zc_257.drop 0).take 40).all (zchR 257 zlk_26) = true := by decide +kernel
theorem zok_257 : zPk 257 zc_257 := ⟨"FlagLayersModel", zlk_26, by decide +kernel, zlkA_26, (zal2 0 zok_257_0 (by decide +kernel))⟩
theorem zok_258_0 : ((zc_258.drop 0).take 40).all (zchR 258 zlk_26) = true := by decide +kernel
theorem zok_258_1 : ((zc_258.drop 40).take 40).all (zchR 258 zlk_26) = true := by decide +kernel
theorem zok_258_2 : ((zc_258.drop 80).take 40).all (zchR 258 zlk_26) = true := by decide +kernel
theorem zok_258_3 : ((zc_258.drop 120).take 40).all (zchR 258 zlk_26) = true := by decide +kernel
theorem zok_258_4 : ((zc_258.drop 160).take 40).all (zchR 258 zlk_26) = true := by decide +kernel
theorem zok_258 : zPk 258 zc_258 := ⟨"FlagLayersModel", zlk_26, by decide +kernel, zlkA_26, (zal2 0 zok_258_0 (zal2 40 zok_258_1 (zal2 80 zok_258_2 (zal2 120 zok_258_3 (zal2 160 zok_258_4 (by decide +kernel))))))⟩
theorem zok_259_0 : ((zc_259.drop 0).take 40).all (zchR 259 zlk_26) = true := by decide +kernel
theorem zok_259_1 : ((zc_259.drop 40).take 40).all (zchR 259 zlk_26) = true := by decide +kernel
theorem zok_259 : zPk 259 zc_259 := ⟨"FlagLayersModel", zlk_26, by decide +kernel, zlkA_26, (zal2 0 zok_259_0 (zal2 40 zok_259_1 (by decide +kernel)))⟩
theorem zok_260_0 : ((zc_260.drop 0).take 40).all (zchR 260 zlk_26) = true := by decide +kernel
theorem zok_260 : zPk 260 zc_260 := ⟨"FlagLayersModel", zlk_26, by decide +kernel, zlkA_26, (zal2 0 zok_260_0 (by decide +kernel))⟩
theorem zok_261_0 : ((zc_261.drop 0).take 40).all (zchR 261 zlk_26) = true := by decide +kernel
theorem zok_261_1 : ((zc_261.drop 40).take 40).all (zchR 261 zlk_26) = true := by decide +kernel
theorem zok_261 : zPk 261 zc_261 := ⟨"FlagLayersModel", zlk_26, by decide +kernel, zlkA_26, (zal2 0 zok_261_0 (zal2 40 zok_261_1 (by decide +kernel)))⟩
theorem zok_262_0 : ((zc_262.drop 0).take 40).all (zchR 262 zlk_26) = true := by decide +kernel
theorem zok_262_1 : ((zc_262.drop 40).take 40).all (zchR 262 zlk_26) = true := by decide +kernel
theorem zok_262_2 : ((zc_262.drop 80).take 40).all (zchR 262 zlk_26) = true := by decide +kernel
theorem zok_262 : zPk 262 zc_262 := ⟨"FlagLayersModel", zlk_26, by decide +kernel, zlkA_26, (zal2 0 zok_262_0 (zal2 40 zok_262_1 (zal2 80 zok_262_2 (by decide +kernel))))⟩
theorem zok_263_0 : ((zc_263.drop 0).take 40).all (zchR 263 zlk_26) = true := by decide +kernel
theorem zok_263_1 : ((zc_263.drop 40).take 40).all (zchR 263 zlk_26) = true := by decide +kernel
theorem zok_263_2 : ((zc_263.drop 80).take 40).all (zchR 263 zlk_26) = true := by decide +kernel
theorem zok_263 : zPk 263 zc_263 := ⟨"FlagLayersModel", zlk_26, by decide +kernel, zlkA_26, (zal2 0 zok_263_0 (zal2 40 zok_263_1 (zal2 80 zok_263_2 (by decide +kernel))))⟩
theorem zok_264_0 : ((zc_264.drop 0).take 40).all (zchR 264 zlk_26) = true := by decide +kernel
theorem zok_264 : zPk 264 zc_264 := ⟨"FlagLayersModel", zlk_26, by decide +kernel, zlkA_26, (zal2 0 zok_264_0 (by decide +kernel))⟩
theorem zok_265_0 : ((zc_265.drop 0).take 40).all (zchR 265 zlk_26) = true := by decide +kernel
theorem zok_265_1 : ((zc_265.drop 40).take 40).all (zchR 265 zlk_26) = true := by decide +kernel
theorem zok_265 : zPk 265 zc_265 := ⟨"FlagLayersModel", zlk_26, by decide +kernel, zlkA_26, (zal2 0 zok_265_0 (zal2 40 zok_265_1 (by decide +kernel)))⟩
theorem zok_266_0 : ((zc_266.drop 0).take 40).all (zchR 266 zlk_26) = true := by decide +kernel
theorem zok_266 : zPk 266 zc_266 := ⟨"FlagLayersModel", zlk_26, by decide +kernel, zlkA_26, (zal2 0 zok_266_0 (by decide +kernel))⟩
theorem zok_267_0 : ((zc_267.drop 0).take 40).all (zchR 267 zlk_26) = true := by decide +kernel
theorem zok_267 : zPk 267 zc_267 := ⟨"FlagLayersModel", zlk_26, by decide +kernel, zlkA_26, (zal2 0 zok_267_0 (by decide +kernel))⟩
theorem zok_268_0 : ((zc_268.drop 0).take 40).all (zchR 268 zlk_26) = true := by decide +kernel
theorem zok_268 : zPk 268 zc_268 := ⟨"FlagLayersModel", zlk_26, by decide +kernel, zlkA_26, (zal2 0 zok_268_0 (by decide +kernel))⟩
theorem zok_269_0 : ((zc_269.drop 0).take 40).all (zchR 269 zlk_26) = true := by decide +kernel
theorem zok_269 : zPk 269 zc_269 := ⟨"FlagLayersModel", zlk_26, by decide +kernel, zlkA_26, (zal2 0 zok_269_0 (by decide +kernel))⟩
theorem zok_270_0 : ((zc_270.drop 0).take 40).all (zchR 270 zlk_26) = true := by decide +kernel
theorem zok_270_1 : ((zc_270.drop 40).take 40).all (zchR 270 zlk_26) = true := by decide +kernel
theorem zok_270 : zPk 270 zc_270 := ⟨"FlagLayersModel", zlk_26, by decide +kernel, zlkA_26, (zal2 0 zok_270_0 (zal2 40 zok_270_1 (by decide +kernel)))⟩
end ZASP

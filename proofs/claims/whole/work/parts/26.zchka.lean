/-! THE ASSEMBLY: checks, method by method (written by a program of the verifier's) -/
section ZASP
theorem zok_0_0 : ((zc_0.drop 0).take 40).all (zchR 0 zlk_0) = true := by decide +kernel
theorem zok_0_1 : ((zc_0.drop 40).take 40).all (zchR 0 zlk_0) = true := by decide +kernel
theorem zok_0_2 : ((zc_0.drop 80).take 40).all (zchR 0 zlk_0) = true := by decide +kernel
theorem zok_0_3 : ((zc_0.drop 120).take 40).all (zchR 0 zlk_0) = true := by decide +kernel
theorem zok_0_4 : ((zc_0.drop 160).take 40).all (zchR 0 zlk_0) = true := by decide +kernel
theorem zok_0_5 : ((zc_0.drop 200).take 40).all (zchR 0 zlk_0) = true := by decide +kernel
theorem zok_0_6 : ((zc_0.drop 240).take 40).all (zchR 0 zlk_0) = true := by decide +kernel
theorem zok_0_7 : ((zc_0.drop 280).take 40).all (zchR 0 zlk_0) = true := by decide +kernel
theorem zok_0_8 : ((zc_0.drop 320).take 40).all (zchR 0 zlk_0) = true := by decide +kernel
theorem zok_0_9 : ((zc_0.drop 360).take 40).all (zchR 0 zlk_0) = true := by decide +kernel
theorem zok_0_10 : ((zc_0.drop 400).take 40).all (zchR 0 zlk_0) = true := by decide +kernel
theorem zok_0_11 : ((zc_0.drop 440).take 40).all (zchR 0 zlk_0) = true := by decide +kernel
theorem zok_0_12 : ((zc_0.drop 480).take 40).all (zchR 0 zlk_0) = true := by decide +kernel
theorem zok_0_13 : ((zc_0.drop 520).take 40).all (zchR 0 zlk_0) = true := by decide +kernel
theorem zok_0_14 : ((zc_0.drop 560).take 40).all (zchR 0 zlk_0) = true := by decide +kernel
theorem zok_0 : zPk 0 zc_0 := ⟨"FlagLayersLaw", zlk_0, by decide +kernel, zlkA_0, (zal2 0 zok_0_0 (zal2 40 zok_0_1 (zal2 80 zok_0_2 (zal2 120 zok_0_3 (zal2 160 zok_0_4 (zal2 200 zok_0_5 (zal2 240 zok_0_6 (zal2 280 zok_0_7 (zal2 320 zok_0_8 (zal2 360 zok_0_9 (zal2 400 zok_0_10 (zal2 440 zok_0_11 (zal2 480 zok_0_12 (zal2 520 zok_0_13 (zal2 560 zok_0_14 (by decide +kernel))))))))))))))))⟩
theorem zok_1_0 : ((zc_1.drop 0).take 40).all (zchR 1 zlk_1) = true := by decide +kernel
theorem zok_1 : zPk 1 zc_1 := ⟨"FlagLayers", zlk_1, by decide +kernel, zlkA_1, (zal2 0 zok_1_0 (by decide +kernel))⟩
theorem zok_2_0 : ((zc_2.drop 0).take 40).all (zchR 2 zlk_2) = true := by decide +kernel
theorem zok_2 : zPk 2 zc_2 := ⟨"FlagLayers$Tape", zlk_2, by decide +kernel, zlkA_2, (zal2 0 zok_2_0 (by decide +kernel))⟩
theorem zok_3_0 : ((zc_3.drop 0).take 40).all (zchR 3 zlk_3) = true := by decide +kernel
theorem zok_3 : zPk 3 zc_3 := ⟨"FlagLayers$Judge", zlk_3, by decide +kernel, zlkA_3, (zal2 0 zok_3_0 (by decide +kernel))⟩
theorem zok_4_0 : ((zc_4.drop 0).take 40).all (zchR 4 zlk_15) = true := by decide +kernel
theorem zok_4 : zPk 4 zc_4 := ⟨"java/util/Arrays", zlk_15, by decide +kernel, zlkA_15, (zal2 0 zok_4_0 (by decide +kernel))⟩
theorem zok_5_0 : ((zc_5.drop 0).take 40).all (zchR 5 zlk_4) = true := by decide +kernel
theorem zok_5_1 : ((zc_5.drop 40).take 40).all (zchR 5 zlk_4) = true := by decide +kernel
theorem zok_5 : zPk 5 zc_5 := ⟨"FlagLayers$Plan", zlk_4, by decide +kernel, zlkA_4, (zal2 0 zok_5_0 (zal2 40 zok_5_1 (by decide +kernel)))⟩
theorem zok_6_0 : ((zc_6.drop 0).take 40).all (zchR 6 zlk_5) = true := by decide +kernel
theorem zok_6 : zPk 6 zc_6 := ⟨"java/util/ArrayList", zlk_5, by decide +kernel, zlkA_5, (zal2 0 zok_6_0 (by decide +kernel))⟩
theorem zok_7_0 : ((zc_7.drop 0).take 40).all (zchR 7 zlk_6) = true := by decide +kernel
theorem zok_7 : zPk 7 zc_7 := ⟨"java/util/AbstractList", zlk_6, by decide +kernel, zlkA_6, (zal2 0 zok_7_0 (by decide +kernel))⟩
theorem zok_8_0 : ((zc_8.drop 0).take 40).all (zchR 8 zlk_7) = true := by decide +kernel
theorem zok_8 : zPk 8 zc_8 := ⟨"java/util/AbstractCollection", zlk_7, by decide +kernel, zlkA_7, (zal2 0 zok_8_0 (by decide +kernel))⟩
theorem zok_9_0 : ((zc_9.drop 0).take 40).all (zchR 9 zlk_1) = true := by decide +kernel
theorem zok_9 : zPk 9 zc_9 := ⟨"FlagLayers", zlk_1, by decide +kernel, zlkA_1, (zal2 0 zok_9_0 (by decide +kernel))⟩
theorem zok_10_0 : ((zc_10.drop 0).take 40).all (zchR 10 zlk_2) = true := by decide +kernel
theorem zok_10 : zPk 10 zc_10 := ⟨"FlagLayers$Tape", zlk_2, by decide +kernel, zlkA_2, (zal2 0 zok_10_0 (by decide +kernel))⟩
theorem zok_11_0 : ((zc_11.drop 0).take 40).all (zchR 11 zlk_2) = true := by decide +kernel
theorem zok_11_1 : ((zc_11.drop 40).take 40).all (zchR 11 zlk_2) = true := by decide +kernel
theorem zok_11 : zPk 11 zc_11 := ⟨"FlagLayers$Tape", zlk_2, by decide +kernel, zlkA_2, (zal2 0 zok_11_0 (zal2 40 zok_11_1 (by decide +kernel)))⟩
theorem zok_12_0 : ((zc_12.drop 0).take 40).all (zchR 12 zlk_2) = true := by decide +kernel
theorem zok_12 : zPk 12 zc_12 := ⟨"FlagLayers$Tape", zlk_2, by decide +kernel, zlkA_2, (zal2 0 zok_12_0 (by decide +kernel))⟩
theorem zok_13_0 : ((zc_13.drop 0).take 40).all (zchR 13 zlk_1) = true := by decide +kernel
theorem zok_13 : zPk 13 zc_13 := ⟨"FlagLayers", zlk_1, by decide +kernel, zlkA_1, (zal2 0 zok_13_0 (by decide +kernel))⟩
theorem zok_14_0 : ((zc_14.drop 0).take 40).all (zchR 14 zlk_2) = true := by decide +kernel
theorem zok_14 : zPk 14 zc_14 := ⟨"FlagLayers$Tape", zlk_2, by decide +kernel, zlkA_2, (zal2 0 zok_14_0 (by decide +kernel))⟩
theorem zok_15_0 : ((zc_15.drop 0).take 40).all (zchR 15 zlk_8) = true := by decide +kernel
theorem zok_15 : zPk 15 zc_15 := ⟨"FlagLayers$Token", zlk_8, by decide +kernel, zlkA_8, (zal2 0 zok_15_0 (by decide +kernel))⟩
theorem zok_16_0 : ((zc_16.drop 0).take 40).all (zchR 16 zlk_2) = true := by decide +kernel
theorem zok_16 : zPk 16 zc_16 := ⟨"FlagLayers$Tape", zlk_2, by decide +kernel, zlkA_2, (zal2 0 zok_16_0 (by decide +kernel))⟩
theorem zok_17_0 : ((zc_17.drop 0).take 40).all (zchR 17 zlk_2) = true := by decide +kernel
theorem zok_17 : zPk 17 zc_17 := ⟨"FlagLayers$Tape", zlk_2, by decide +kernel, zlkA_2, (zal2 0 zok_17_0 (by decide +kernel))⟩
theorem zok_18_0 : ((zc_18.drop 0).take 40).all (zchR 18 zlk_2) = true := by decide +kernel
theorem zok_18 : zPk 18 zc_18 := ⟨"FlagLayers$Tape", zlk_2, by decide +kernel, zlkA_2, (zal2 0 zok_18_0 (by decide +kernel))⟩
theorem zok_19_0 : ((zc_19.drop 0).take 40).all (zchR 19 zlk_2) = true := by decide +kernel
theorem zok_19 : zPk 19 zc_19 := ⟨"FlagLayers$Tape", zlk_2, by decide +kernel, zlkA_2, (zal2 0 zok_19_0 (by decide +kernel))⟩
theorem zok_20_0 : ((zc_20.drop 0).take 40).all (zchR 20 zlk_2) = true := by decide +kernel
theorem zok_20 : zPk 20 zc_20 := ⟨"FlagLayers$Tape", zlk_2, by decide +kernel, zlkA_2, (zal2 0 zok_20_0 (by decide +kernel))⟩
theorem zok_21_0 : ((zc_21.drop 0).take 40).all (zchR 21 zlk_2) = true := by decide +kernel
theorem zok_21 : zPk 21 zc_21 := ⟨"FlagLayers$Tape", zlk_2, by decide +kernel, zlkA_2, (zal2 0 zok_21_0 (by decide +kernel))⟩
theorem zok_22_0 : ((zc_22.drop 0).take 40).all (zchR 22 []) = true := by decide +kernel
theorem zok_22 : zPk 22 zc_22 := ⟨"java/lang/Math", [], by decide +kernel, (fun _ _ => zlkn), (zal2 0 zok_22_0 (by decide +kernel))⟩
theorem zok_23_0 : ((zc_23.drop 0).take 40).all (zchR 23 zlk_9) = true := by decide +kernel
theorem zok_23 : zPk 23 zc_23 := ⟨"java/lang/String", zlk_9, by decide +kernel, zlkA_9, (zal2 0 zok_23_0 (by decide +kernel))⟩
theorem zok_24_0 : ((zc_24.drop 0).take 40).all (zchR 24 zlk_9) = true := by decide +kernel
theorem zok_24 : zPk 24 zc_24 := ⟨"java/lang/String", zlk_9, by decide +kernel, zlkA_9, (zal2 0 zok_24_0 (by decide +kernel))⟩
theorem zok_25_0 : ((zc_25.drop 0).take 40).all (zchR 25 zlk_10) = true := by decide +kernel
theorem zok_25 : zPk 25 zc_25 := ⟨"java/lang/StringUTF16", zlk_10, by decide +kernel, zlkA_10, (zal2 0 zok_25_0 (by decide +kernel))⟩
theorem zok_26_0 : ((zc_26.drop 0).take 40).all (zchR 26 zlk_10) = true := by decide +kernel
theorem zok_26 : zPk 26 zc_26 := ⟨"java/lang/StringUTF16", zlk_10, by decide +kernel, zlkA_10, (zal2 0 zok_26_0 (by decide +kernel))⟩
theorem zok_27_0 : ((zc_27.drop 0).take 40).all (zchR 27 zlk_10) = true := by decide +kernel
theorem zok_27 : zPk 27 zc_27 := ⟨"java/lang/StringUTF16", zlk_10, by decide +kernel, zlkA_10, (zal2 0 zok_27_0 (by decide +kernel))⟩
theorem zok_28_0 : ((zc_28.drop 0).take 40).all (zchR 28 zlk_11) = true := by decide +kernel
theorem zok_28 : zPk 28 zc_28 := ⟨"FlagLayers$Sort", zlk_11, by decide +kernel, zlkA_11, (zal2 0 zok_28_0 (by decide +kernel))⟩
theorem zok_29_0 : ((zc_29.drop 0).take 40).all (zchR 29 zlk_9) = true := by decide +kernel
theorem zok_29 : zPk 29 zc_29 := ⟨"java/lang/String", zlk_9, by decide +kernel, zlkA_9, (zal2 0 zok_29_0 (by decide +kernel))⟩
theorem zok_30_0 : ((zc_30.drop 0).take 40).all (zchR 30 zlk_17) = true := by decide +kernel
theorem zok_30 : zPk 30 zc_30 := ⟨"java/lang/StringLatin1", zlk_17, by decide +kernel, zlkA_17, (zal2 0 zok_30_0 (by decide +kernel))⟩
theorem zok_31_0 : ((zc_31.drop 0).take 40).all (zchR 31 zlk_2) = true := by decide +kernel
theorem zok_31_1 : ((zc_31.drop 40).take 40).all (zchR 31 zlk_2) = true := by decide +kernel
theorem zok_31 : zPk 31 zc_31 := ⟨"FlagLayers$Tape", zlk_2, by decide +kernel, zlkA_2, (zal2 0 zok_31_0 (zal2 40 zok_31_1 (by decide +kernel)))⟩
theorem zok_32_0 : ((zc_32.drop 0).take 40).all (zchR 32 zlk_2) = true := by decide +kernel
theorem zok_32 : zPk 32 zc_32 := ⟨"FlagLayers$Tape", zlk_2, by decide +kernel, zlkA_2, (zal2 0 zok_32_0 (by decide +kernel))⟩
theorem zok_33_0 : ((zc_33.drop 0).take 40).all (zchR 33 zlk_2) = true := by decide +kernel
theorem zok_33_1 : ((zc_33.drop 40).take 40).all (zchR 33 zlk_2) = true := by decide +kernel
theorem zok_33_2 : ((zc_33.drop 80).take 40).all (zchR 33 zlk_2) = true := by decide +kernel
theorem zok_33 : zPk 33 zc_33 := ⟨"FlagLayers$Tape", zlk_2, by decide +kernel, zlkA_2, (zal2 0 zok_33_0 (zal2 40 zok_33_1 (zal2 80 zok_33_2 (by decide +kernel))))⟩
theorem zok_34_0 : ((zc_34.drop 0).take 40).all (zchR 34 zlk_12) = true := by decide +kernel
theorem zok_34 : zPk 34 zc_34 := ⟨"java/lang/StringBuilder", zlk_12, by decide +kernel, zlkA_12, (zal2 0 zok_34_0 (by decide +kernel))⟩
theorem zok_35_0 : ((zc_35.drop 0).take 40).all (zchR 35 zlk_13) = true := by decide +kernel
theorem zok_35 : zPk 35 zc_35 := ⟨"java/lang/AbstractStringBuilder", zlk_13, by decide +kernel, zlkA_13, (zal2 0 zok_35_0 (by decide +kernel))⟩
theorem zok_36_0 : ((zc_36.drop 0).take 40).all (zchR 36 zlk_12) = true := by decide +kernel
theorem zok_36 : zPk 36 zc_36 := ⟨"java/lang/StringBuilder", zlk_12, by decide +kernel, zlkA_12, (zal2 0 zok_36_0 (by decide +kernel))⟩
theorem zok_37_0 : ((zc_37.drop 0).take 40).all (zchR 37 zlk_13) = true := by decide +kernel
theorem zok_37 : zPk 37 zc_37 := ⟨"java/lang/AbstractStringBuilder", zlk_13, by decide +kernel, zlkA_13, (zal2 0 zok_37_0 (by decide +kernel))⟩
theorem zok_38_0 : ((zc_38.drop 0).take 40).all (zchR 38 zlk_16) = true := by decide +kernel
theorem zok_38 : zPk 38 zc_38 := ⟨"java/lang/Integer", zlk_16, by decide +kernel, zlkA_16, (zal2 0 zok_38_0 (by decide +kernel))⟩
theorem zok_39_0 : ((zc_39.drop 0).take 40).all (zchR 39 zlk_13) = true := by decide +kernel
theorem zok_39 : zPk 39 zc_39 := ⟨"java/lang/AbstractStringBuilder", zlk_13, by decide +kernel, zlkA_13, (zal2 0 zok_39_0 (by decide +kernel))⟩
theorem zok_40_0 : ((zc_40.drop 0).take 40).all (zchR 40 zlk_13) = true := by decide +kernel
theorem zok_40 : zPk 40 zc_40 := ⟨"java/lang/AbstractStringBuilder", zlk_13, by decide +kernel, zlkA_13, (zal2 0 zok_40_0 (by decide +kernel))⟩
theorem zok_41_0 : ((zc_41.drop 0).take 40).all (zchR 41 zlk_14) = true := by decide +kernel
theorem zok_41 : zPk 41 zc_41 := ⟨"jdk/internal/util/ArraysSupport", zlk_14, by decide +kernel, zlkA_14, (zal2 0 zok_41_0 (by decide +kernel))⟩
theorem zok_42_0 : ((zc_42.drop 0).take 40).all (zchR 42 zlk_15) = true := by decide +kernel
theorem zok_42 : zPk 42 zc_42 := ⟨"java/util/Arrays", zlk_15, by decide +kernel, zlkA_15, (zal2 0 zok_42_0 (by decide +kernel))⟩
theorem zok_43_0 : ((zc_43.drop 0).take 40).all (zchR 43 []) = true := by decide +kernel
theorem zok_43 : zPk 43 zc_43 := ⟨"java/lang/Math", [], by decide +kernel, (fun _ _ => zlkn), (zal2 0 zok_43_0 (by decide +kernel))⟩
theorem zok_44_0 : ((zc_44.drop 0).take 40).all (zchR 44 zlk_13) = true := by decide +kernel
theorem zok_44 : zPk 44 zc_44 := ⟨"java/lang/AbstractStringBuilder", zlk_13, by decide +kernel, zlkA_13, (zal2 0 zok_44_0 (by decide +kernel))⟩
theorem zok_45_0 : ((zc_45.drop 0).take 40).all (zchR 45 zlk_16) = true := by decide +kernel
theorem zok_45_1 : ((zc_45.drop 40).take 40).all (zchR 45 zlk_16) = true := by decide +kernel
theorem zok_45 : zPk 45 zc_45 := ⟨"java/lang/Integer", zlk_16, by decide +kernel, zlkA_16, (zal2 0 zok_45_0 (zal2 40 zok_45_1 (by decide +kernel)))⟩
theorem zok_46_0 : ((zc_46.drop 0).take 40).all (zchR 46 zlk_12) = true := by decide +kernel
theorem zok_46 : zPk 46 zc_46 := ⟨"java/lang/StringBuilder", zlk_12, by decide +kernel, zlkA_12, (zal2 0 zok_46_0 (by decide +kernel))⟩
theorem zok_47_0 : ((zc_47.drop 0).take 40).all (zchR 47 zlk_9) = true := by decide +kernel
theorem zok_47 : zPk 47 zc_47 := ⟨"java/lang/String", zlk_9, by decide +kernel, zlkA_9, (zal2 0 zok_47_0 (by decide +kernel))⟩
theorem zok_48_0 : ((zc_48.drop 0).take 40).all (zchR 48 zlk_9) = true := by decide +kernel
theorem zok_48_1 : ((zc_48.drop 40).take 40).all (zchR 48 zlk_9) = true := by decide +kernel
theorem zok_48 : zPk 48 zc_48 := ⟨"java/lang/String", zlk_9, by decide +kernel, zlkA_9, (zal2 0 zok_48_0 (zal2 40 zok_48_1 (by decide +kernel)))⟩
theorem zok_49_0 : ((zc_49.drop 0).take 40).all (zchR 49 zlk_13) = true := by decide +kernel
theorem zok_49 : zPk 49 zc_49 := ⟨"java/lang/AbstractStringBuilder", zlk_13, by decide +kernel, zlkA_13, (zal2 0 zok_49_0 (by decide +kernel))⟩
theorem zok_50_0 : ((zc_50.drop 0).take 40).all (zchR 50 zlk_12) = true := by decide +kernel
theorem zok_50 : zPk 50 zc_50 := ⟨"java/lang/StringBuilder", zlk_12, by decide +kernel, zlkA_12, (zal2 0 zok_50_0 (by decide +kernel))⟩
theorem zok_51_0 : ((zc_51.drop 0).take 40).all (zchR 51 zlk_13) = true := by decide +kernel
theorem zok_51 : zPk 51 zc_51 := ⟨"java/lang/AbstractStringBuilder", zlk_13, by decide +kernel, zlkA_13, (zal2 0 zok_51_0 (by decide +kernel))⟩
theorem zok_52_0 : ((zc_52.drop 0).take 40).all (zchR 52 zlk_15) = true := by decide +kernel
theorem zok_52 : zPk 52 zc_52 := ⟨"java/util/Arrays", zlk_15, by decide +kernel, zlkA_15, (zal2 0 zok_52_0 (by decide +kernel))⟩
theorem zok_53_0 : ((zc_53.drop 0).take 40).all (zchR 53 zlk_15) = true := by decide +kernel
theorem zok_53 : zPk 53 zc_53 := ⟨"java/util/Arrays", zlk_15, by decide +kernel, zlkA_15, (zal2 0 zok_53_0 (by decide +kernel))⟩
theorem zok_54_0 : ((zc_54.drop 0).take 40).all (zchR 54 zlk_15) = true := by decide +kernel
theorem zok_54 : zPk 54 zc_54 := ⟨"java/util/Arrays", zlk_15, by decide +kernel, zlkA_15, (zal2 0 zok_54_0 (by decide +kernel))⟩
theorem zok_55_0 : ((zc_55.drop 0).take 40).all (zchR 55 zlk_9) = true := by decide +kernel
theorem zok_55 : zPk 55 zc_55 := ⟨"java/lang/String", zlk_9, by decide +kernel, zlkA_9, (zal2 0 zok_55_0 (by decide +kernel))⟩
theorem zok_56_0 : ((zc_56.drop 0).take 40).all (zchR 56 zlk_9) = true := by decide +kernel
theorem zok_56 : zPk 56 zc_56 := ⟨"java/lang/String", zlk_9, by decide +kernel, zlkA_9, (zal2 0 zok_56_0 (by decide +kernel))⟩
theorem zok_57_0 : ((zc_57.drop 0).take 40).all (zchR 57 zlk_2) = true := by decide +kernel
theorem zok_57 : zPk 57 zc_57 := ⟨"FlagLayers$Tape", zlk_2, by decide +kernel, zlkA_2, (zal2 0 zok_57_0 (by decide +kernel))⟩
end ZASP

/-! THE ASSEMBLY: checks, method by method (written by a program of the verifier's) -/
section ZASP
theorem zok_58_0 : ((zc_58.drop 0).take 40).all (zchR 58 zlk_11) = true := by decide +kernel
theorem zok_58 : zPk 58 zc_58 := ⟨"FlagLayers$Sort", zlk_11, by decide +kernel, zlkA_11, (zal2 0 zok_58_0 (by decide +kernel))⟩
theorem zok_59_0 : ((zc_59.drop 0).take 40).all (zchR 59 zlk_9) = true := by decide +kernel
theorem zok_59 : zPk 59 zc_59 := ⟨"java/lang/String", zlk_9, by decide +kernel, zlkA_9, (zal2 0 zok_59_0 (by decide +kernel))⟩
theorem zok_60_0 : ((zc_60.drop 0).take 40).all (zchR 60 zlk_9) = true := by decide +kernel
theorem zok_60 : zPk 60 zc_60 := ⟨"java/lang/String", zlk_9, by decide +kernel, zlkA_9, (zal2 0 zok_60_0 (by decide +kernel))⟩
theorem zok_61_0 : ((zc_61.drop 0).take 40).all (zchR 61 zlk_17) = true := by decide +kernel
theorem zok_61 : zPk 61 zc_61 := ⟨"java/lang/StringLatin1", zlk_17, by decide +kernel, zlkA_17, (zal2 0 zok_61_0 (by decide +kernel))⟩
theorem zok_62_0 : ((zc_62.drop 0).take 40).all (zchR 62 zlk_9) = true := by decide +kernel
theorem zok_62 : zPk 62 zc_62 := ⟨"java/lang/String", zlk_9, by decide +kernel, zlkA_9, (zal2 0 zok_62_0 (by decide +kernel))⟩
theorem zok_63_0 : ((zc_63.drop 0).take 40).all (zchR 63 []) = true := by decide +kernel
theorem zok_63 : zPk 63 zc_63 := ⟨"jdk/internal/util/Preconditions", [], by decide +kernel, (fun _ _ => zlkn), (zal2 0 zok_63_0 (by decide +kernel))⟩
theorem zok_64_0 : ((zc_64.drop 0).take 40).all (zchR 64 zlk_18) = true := by decide +kernel
theorem zok_64 : zPk 64 zc_64 := ⟨"FlagLayers$Reader", zlk_18, by decide +kernel, zlkA_18, (zal2 0 zok_64_0 (by decide +kernel))⟩
theorem zok_65_0 : ((zc_65.drop 0).take 40).all (zchR 65 zlk_18) = true := by decide +kernel
theorem zok_65_1 : ((zc_65.drop 40).take 40).all (zchR 65 zlk_18) = true := by decide +kernel
theorem zok_65 : zPk 65 zc_65 := ⟨"FlagLayers$Reader", zlk_18, by decide +kernel, zlkA_18, (zal2 0 zok_65_0 (zal2 40 zok_65_1 (by decide +kernel)))⟩
theorem zok_66_0 : ((zc_66.drop 0).take 40).all (zchR 66 zlk_19) = true := by decide +kernel
theorem zok_66 : zPk 66 zc_66 := ⟨"java/lang/Enum", zlk_19, by decide +kernel, zlkA_19, (zal2 0 zok_66_0 (by decide +kernel))⟩
theorem zok_67_0 : ((zc_67.drop 0).take 40).all (zchR 67 zlk_18) = true := by decide +kernel
theorem zok_67 : zPk 67 zc_67 := ⟨"FlagLayers$Reader", zlk_18, by decide +kernel, zlkA_18, (zal2 0 zok_67_0 (by decide +kernel))⟩
theorem zok_68_0 : ((zc_68.drop 0).take 40).all (zchR 68 zlk_5) = true := by decide +kernel
theorem zok_68 : zPk 68 zc_68 := ⟨"java/util/ArrayList", zlk_5, by decide +kernel, zlkA_5, (zal2 0 zok_68_0 (by decide +kernel))⟩
theorem zok_69_0 : ((zc_69.drop 0).take 40).all (zchR 69 zlk_18) = true := by decide +kernel
theorem zok_69 : zPk 69 zc_69 := ⟨"FlagLayers$Reader", zlk_18, by decide +kernel, zlkA_18, (zal2 0 zok_69_0 (by decide +kernel))⟩
theorem zok_70_0 : ((zc_70.drop 0).take 40).all (zchR 70 zlk_18) = true := by decide +kernel
theorem zok_70 : zPk 70 zc_70 := ⟨"FlagLayers$Reader", zlk_18, by decide +kernel, zlkA_18, (zal2 0 zok_70_0 (by decide +kernel))⟩
theorem zok_71_0 : ((zc_71.drop 0).take 40).all (zchR 71 zlk_18) = true := by decide +kernel
theorem zok_71 : zPk 71 zc_71 := ⟨"FlagLayers$Reader", zlk_18, by decide +kernel, zlkA_18, (zal2 0 zok_71_0 (by decide +kernel))⟩
theorem zok_72_0 : ((zc_72.drop 0).take 40).all (zchR 72 zlk_18) = true := by decide +kernel
theorem zok_72 : zPk 72 zc_72 := ⟨"FlagLayers$Reader", zlk_18, by decide +kernel, zlkA_18, (zal2 0 zok_72_0 (by decide +kernel))⟩
theorem zok_73_0 : ((zc_73.drop 0).take 40).all (zchR 73 zlk_1) = true := by decide +kernel
theorem zok_73 : zPk 73 zc_73 := ⟨"FlagLayers", zlk_1, by decide +kernel, zlkA_1, (zal2 0 zok_73_0 (by decide +kernel))⟩
theorem zok_74_0 : ((zc_74.drop 0).take 40).all (zchR 74 zlk_5) = true := by decide +kernel
theorem zok_74 : zPk 74 zc_74 := ⟨"java/util/ArrayList", zlk_5, by decide +kernel, zlkA_5, (zal2 0 zok_74_0 (by decide +kernel))⟩
theorem zok_75_0 : ((zc_75.drop 0).take 40).all (zchR 75 zlk_20) = true := by decide +kernel
theorem zok_75 : zPk 75 zc_75 := ⟨"java/util/Objects", zlk_20, by decide +kernel, zlkA_20, (zal2 0 zok_75_0 (by decide +kernel))⟩
theorem zok_76_0 : ((zc_76.drop 0).take 40).all (zchR 76 zlk_5) = true := by decide +kernel
theorem zok_76 : zPk 76 zc_76 := ⟨"java/util/ArrayList", zlk_5, by decide +kernel, zlkA_5, (zal2 0 zok_76_0 (by decide +kernel))⟩
theorem zok_77_0 : ((zc_77.drop 0).take 40).all (zchR 77 zlk_18) = true := by decide +kernel
theorem zok_77_1 : ((zc_77.drop 40).take 40).all (zchR 77 zlk_18) = true := by decide +kernel
theorem zok_77 : zPk 77 zc_77 := ⟨"FlagLayers$Reader", zlk_18, by decide +kernel, zlkA_18, (zal2 0 zok_77_0 (zal2 40 zok_77_1 (by decide +kernel)))⟩
theorem zok_78_0 : ((zc_78.drop 0).take 40).all (zchR 78 zlk_18) = true := by decide +kernel
theorem zok_78_1 : ((zc_78.drop 40).take 40).all (zchR 78 zlk_18) = true := by decide +kernel
theorem zok_78_2 : ((zc_78.drop 80).take 40).all (zchR 78 zlk_18) = true := by decide +kernel
theorem zok_78 : zPk 78 zc_78 := ⟨"FlagLayers$Reader", zlk_18, by decide +kernel, zlkA_18, (zal2 0 zok_78_0 (zal2 40 zok_78_1 (zal2 80 zok_78_2 (by decide +kernel))))⟩
theorem zok_79_0 : ((zc_79.drop 0).take 40).all (zchR 79 zlk_18) = true := by decide +kernel
theorem zok_79 : zPk 79 zc_79 := ⟨"FlagLayers$Reader", zlk_18, by decide +kernel, zlkA_18, (zal2 0 zok_79_0 (by decide +kernel))⟩
theorem zok_80_0 : ((zc_80.drop 0).take 40).all (zchR 80 zlk_21) = true := by decide +kernel
theorem zok_80 : zPk 80 zc_80 := ⟨"FlagLayers$Part", zlk_21, by decide +kernel, zlkA_21, (zal2 0 zok_80_0 (by decide +kernel))⟩
theorem zok_81_0 : ((zc_81.drop 0).take 40).all (zchR 81 zlk_18) = true := by decide +kernel
theorem zok_81 : zPk 81 zc_81 := ⟨"FlagLayers$Reader", zlk_18, by decide +kernel, zlkA_18, (zal2 0 zok_81_0 (by decide +kernel))⟩
theorem zok_82_0 : ((zc_82.drop 0).take 40).all (zchR 82 zlk_18) = true := by decide +kernel
theorem zok_82 : zPk 82 zc_82 := ⟨"FlagLayers$Reader", zlk_18, by decide +kernel, zlkA_18, (zal2 0 zok_82_0 (by decide +kernel))⟩
theorem zok_83_0 : ((zc_83.drop 0).take 40).all (zchR 83 zlk_18) = true := by decide +kernel
theorem zok_83_1 : ((zc_83.drop 40).take 40).all (zchR 83 zlk_18) = true := by decide +kernel
theorem zok_83 : zPk 83 zc_83 := ⟨"FlagLayers$Reader", zlk_18, by decide +kernel, zlkA_18, (zal2 0 zok_83_0 (zal2 40 zok_83_1 (by decide +kernel)))⟩
theorem zok_84_0 : ((zc_84.drop 0).take 40).all (zchR 84 zlk_18) = true := by decide +kernel
theorem zok_84 : zPk 84 zc_84 := ⟨"FlagLayers$Reader", zlk_18, by decide +kernel, zlkA_18, (zal2 0 zok_84_0 (by decide +kernel))⟩
theorem zok_85_0 : ((zc_85.drop 0).take 40).all (zchR 85 zlk_18) = true := by decide +kernel
theorem zok_85_1 : ((zc_85.drop 40).take 40).all (zchR 85 zlk_18) = true := by decide +kernel
theorem zok_85 : zPk 85 zc_85 := ⟨"FlagLayers$Reader", zlk_18, by decide +kernel, zlkA_18, (zal2 0 zok_85_0 (zal2 40 zok_85_1 (by decide +kernel)))⟩
theorem zok_86_0 : ((zc_86.drop 0).take 40).all (zchR 86 zlk_5) = true := by decide +kernel
theorem zok_86 : zPk 86 zc_86 := ⟨"java/util/ArrayList", zlk_5, by decide +kernel, zlkA_5, (zal2 0 zok_86_0 (by decide +kernel))⟩
theorem zok_87_0 : ((zc_87.drop 0).take 40).all (zchR 87 zlk_5) = true := by decide +kernel
theorem zok_87 : zPk 87 zc_87 := ⟨"java/util/ArrayList", zlk_5, by decide +kernel, zlkA_5, (zal2 0 zok_87_0 (by decide +kernel))⟩
theorem zok_88_0 : ((zc_88.drop 0).take 40).all (zchR 88 zlk_5) = true := by decide +kernel
theorem zok_88 : zPk 88 zc_88 := ⟨"java/util/ArrayList", zlk_5, by decide +kernel, zlkA_5, (zal2 0 zok_88_0 (by decide +kernel))⟩
theorem zok_89_0 : ((zc_89.drop 0).take 40).all (zchR 89 zlk_5) = true := by decide +kernel
theorem zok_89 : zPk 89 zc_89 := ⟨"java/util/ArrayList", zlk_5, by decide +kernel, zlkA_5, (zal2 0 zok_89_0 (by decide +kernel))⟩
theorem zok_90_0 : ((zc_90.drop 0).take 40).all (zchR 90 zlk_18) = true := by decide +kernel
theorem zok_90_1 : ((zc_90.drop 40).take 40).all (zchR 90 zlk_18) = true := by decide +kernel
theorem zok_90_2 : ((zc_90.drop 80).take 40).all (zchR 90 zlk_18) = true := by decide +kernel
theorem zok_90_3 : ((zc_90.drop 120).take 40).all (zchR 90 zlk_18) = true := by decide +kernel
theorem zok_90 : zPk 90 zc_90 := ⟨"FlagLayers$Reader", zlk_18, by decide +kernel, zlkA_18, (zal2 0 zok_90_0 (zal2 40 zok_90_1 (zal2 80 zok_90_2 (zal2 120 zok_90_3 (by decide +kernel)))))⟩
theorem zok_91_0 : ((zc_91.drop 0).take 40).all (zchR 91 zlk_22) = true := by decide +kernel
theorem zok_91_1 : ((zc_91.drop 40).take 40).all (zchR 91 zlk_22) = true := by decide +kernel
theorem zok_91 : zPk 91 zc_91 := ⟨"FlagLayers$Flag", zlk_22, by decide +kernel, zlkA_22, (zal2 0 zok_91_0 (zal2 40 zok_91_1 (by decide +kernel)))⟩
theorem zok_92_0 : ((zc_92.drop 0).take 40).all (zchR 92 zlk_23) = true := by decide +kernel
theorem zok_92 : zPk 92 zc_92 := ⟨"FlagLayers$Serve", zlk_23, by decide +kernel, zlkA_23, (zal2 0 zok_92_0 (by decide +kernel))⟩
theorem zok_93_0 : ((zc_93.drop 0).take 40).all (zchR 93 zlk_18) = true := by decide +kernel
theorem zok_93_1 : ((zc_93.drop 40).take 40).all (zchR 93 zlk_18) = true := by decide +kernel
theorem zok_93 : zPk 93 zc_93 := ⟨"FlagLayers$Reader", zlk_18, by decide +kernel, zlkA_18, (zal2 0 zok_93_0 (zal2 40 zok_93_1 (by decide +kernel)))⟩
theorem zok_94_0 : ((zc_94.drop 0).take 40).all (zchR 94 zlk_18) = true := by decide +kernel
theorem zok_94 : zPk 94 zc_94 := ⟨"FlagLayers$Reader", zlk_18, by decide +kernel, zlkA_18, (zal2 0 zok_94_0 (by decide +kernel))⟩
theorem zok_95_0 : ((zc_95.drop 0).take 40).all (zchR 95 zlk_18) = true := by decide +kernel
theorem zok_95 : zPk 95 zc_95 := ⟨"FlagLayers$Reader", zlk_18, by decide +kernel, zlkA_18, (zal2 0 zok_95_0 (by decide +kernel))⟩
theorem zok_96_0 : ((zc_96.drop 0).take 40).all (zchR 96 zlk_18) = true := by decide +kernel
theorem zok_96_1 : ((zc_96.drop 40).take 40).all (zchR 96 zlk_18) = true := by decide +kernel
theorem zok_96_2 : ((zc_96.drop 80).take 40).all (zchR 96 zlk_18) = true := by decide +kernel
theorem zok_96 : zPk 96 zc_96 := ⟨"FlagLayers$Reader", zlk_18, by decide +kernel, zlkA_18, (zal2 0 zok_96_0 (zal2 40 zok_96_1 (zal2 80 zok_96_2 (by decide +kernel))))⟩
theorem zok_97_0 : ((zc_97.drop 0).take 40).all (zchR 97 zlk_23) = true := by decide +kernel
theorem zok_97 : zPk 97 zc_97 := ⟨"FlagLayers$Serve", zlk_23, by decide +kernel, zlkA_23, (zal2 0 zok_97_0 (by decide +kernel))⟩
theorem zok_98_0 : ((zc_98.drop 0).take 40).all (zchR 98 zlk_18) = true := by decide +kernel
theorem zok_98 : zPk 98 zc_98 := ⟨"FlagLayers$Reader", zlk_18, by decide +kernel, zlkA_18, (zal2 0 zok_98_0 (by decide +kernel))⟩
theorem zok_99_0 : ((zc_99.drop 0).take 40).all (zchR 99 zlk_18) = true := by decide +kernel
theorem zok_99 : zPk 99 zc_99 := ⟨"FlagLayers$Reader", zlk_18, by decide +kernel, zlkA_18, (zal2 0 zok_99_0 (by decide +kernel))⟩
theorem zok_100_0 : ((zc_100.drop 0).take 40).all (zchR 100 zlk_22) = true := by decide +kernel
theorem zok_100_1 : ((zc_100.drop 40).take 40).all (zchR 100 zlk_22) = true := by decide +kernel
theorem zok_100 : zPk 100 zc_100 := ⟨"FlagLayers$Flag", zlk_22, by decide +kernel, zlkA_22, (zal2 0 zok_100_0 (zal2 40 zok_100_1 (by decide +kernel)))⟩
theorem zok_101_0 : ((zc_101.drop 0).take 40).all (zchR 101 zlk_22) = true := by decide +kernel
theorem zok_101 : zPk 101 zc_101 := ⟨"FlagLayers$Flag", zlk_22, by decide +kernel, zlkA_22, (zal2 0 zok_101_0 (by decide +kernel))⟩
theorem zok_102_0 : ((zc_102.drop 0).take 40).all (zchR 102 zlk_23) = true := by decide +kernel
theorem zok_102 : zPk 102 zc_102 := ⟨"FlagLayers$Serve", zlk_23, by decide +kernel, zlkA_23, (zal2 0 zok_102_0 (by decide +kernel))⟩
theorem zok_103_0 : ((zc_103.drop 0).take 40).all (zchR 103 zlk_23) = true := by decide +kernel
theorem zok_103 : zPk 103 zc_103 := ⟨"FlagLayers$Serve", zlk_23, by decide +kernel, zlkA_23, (zal2 0 zok_103_0 (by decide +kernel))⟩
theorem zok_104_0 : ((zc_104.drop 0).take 40).all (zchR 104 zlk_18) = true := by decide +kernel
theorem zok_104_1 : ((zc_104.drop 40).take 40).all (zchR 104 zlk_18) = true := by decide +kernel
theorem zok_104 : zPk 104 zc_104 := ⟨"FlagLayers$Reader", zlk_18, by decide +kernel, zlkA_18, (zal2 0 zok_104_0 (zal2 40 zok_104_1 (by decide +kernel)))⟩
theorem zok_105_0 : ((zc_105.drop 0).take 40).all (zchR 105 zlk_18) = true := by decide +kernel
theorem zok_105_1 : ((zc_105.drop 40).take 40).all (zchR 105 zlk_18) = true := by decide +kernel
theorem zok_105 : zPk 105 zc_105 := ⟨"FlagLayers$Reader", zlk_18, by decide +kernel, zlkA_18, (zal2 0 zok_105_0 (zal2 40 zok_105_1 (by decide +kernel)))⟩
theorem zok_106_0 : ((zc_106.drop 0).take 40).all (zchR 106 zlk_24) = true := by decide +kernel
theorem zok_106 : zPk 106 zc_106 := ⟨"FlagLayers$Rule", zlk_24, by decide +kernel, zlkA_24, (zal2 0 zok_106_0 (by decide +kernel))⟩
theorem zok_107_0 : ((zc_107.drop 0).take 40).all (zchR 107 zlk_18) = true := by decide +kernel
theorem zok_107_1 : ((zc_107.drop 40).take 40).all (zchR 107 zlk_18) = true := by decide +kernel
theorem zok_107_2 : ((zc_107.drop 80).take 40).all (zchR 107 zlk_18) = true := by decide +kernel
theorem zok_107_3 : ((zc_107.drop 120).take 40).all (zchR 107 zlk_18) = true := by decide +kernel
theorem zok_107 : zPk 107 zc_107 := ⟨"FlagLayers$Reader", zlk_18, by decide +kernel, zlkA_18, (zal2 0 zok_107_0 (zal2 40 zok_107_1 (zal2 80 zok_107_2 (zal2 120 zok_107_3 (by decide +kernel)))))⟩
theorem zok_108_0 : ((zc_108.drop 0).take 40).all (zchR 108 zlk_25) = true := by decide +kernel
theorem zok_108 : zPk 108 zc_108 := ⟨"FlagLayers$Layer", zlk_25, by decide +kernel, zlkA_25, (zal2 0 zok_108_0 (by decide +kernel))⟩
theorem zok_109_0 : ((zc_109.drop 0).take 40).all (zchR 109 zlk_18) = true := by decide +kernel
theorem zok_109_1 : ((zc_109.drop 40).take 40).all (zchR 109 zlk_18) = true := by decide +kernel
theorem zok_109 : zPk 109 zc_109 := ⟨"FlagLayers$Reader", zlk_18, by decide +kernel, zlkA_18, (zal2 0 zok_109_0 (zal2 40 zok_109_1 (by decide +kernel)))⟩
theorem zok_110_0 : ((zc_110.drop 0).take 40).all (zchR 110 zlk_25) = true := by decide +kernel
theorem zok_110 : zPk 110 zc_110 := ⟨"FlagLayers$Layer", zlk_25, by decide +kernel, zlkA_25, (zal2 0 zok_110_0 (by decide +kernel))⟩
theorem zok_111_0 : ((zc_111.drop 0).take 40).all (zchR 111 zlk_18) = true := by decide +kernel
theorem zok_111 : zPk 111 zc_111 := ⟨"FlagLayers$Reader", zlk_18, by decide +kernel, zlkA_18, (zal2 0 zok_111_0 (by decide +kernel))⟩
theorem zok_112_0 : ((zc_112.drop 0).take 40).all (zchR 112 zlk_22) = true := by decide +kernel
theorem zok_112 : zPk 112 zc_112 := ⟨"FlagLayers$Flag", zlk_22, by decide +kernel, zlkA_22, (zal2 0 zok_112_0 (by decide +kernel))⟩
theorem zok_113_0 : ((zc_113.drop 0).take 40).all (zchR 113 zlk_18) = true := by decide +kernel
theorem zok_113_1 : ((zc_113.drop 40).take 40).all (zchR 113 zlk_18) = true := by decide +kernel
theorem zok_113 : zPk 113 zc_113 := ⟨"FlagLayers$Reader", zlk_18, by decide +kernel, zlkA_18, (zal2 0 zok_113_0 (zal2 40 zok_113_1 (by decide +kernel)))⟩
theorem zok_114_0 : ((zc_114.drop 0).take 40).all (zchR 114 zlk_4) = true := by decide +kernel
theorem zok_114_1 : ((zc_114.drop 40).take 40).all (zchR 114 zlk_4) = true := by decide +kernel
theorem zok_114 : zPk 114 zc_114 := ⟨"FlagLayers$Plan", zlk_4, by decide +kernel, zlkA_4, (zal2 0 zok_114_0 (zal2 40 zok_114_1 (by decide +kernel)))⟩
end ZASP

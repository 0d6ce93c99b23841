/-! WHAT THE LINKS OWE, class by class (written by a program of the verifier's) -/
set_option maxRecDepth 20000 in
theorem lk_3_0 (D : va_G) (l : Launch) : zLk D l "FlagLayers$Judge" (.invokespecial 3, 0, 1, 0) := fun p e R s m args below meth c mi d pc ad0 hown hcx hbx hini hts hK hdec => by
  show zOkObj s args (zown mi) (.invokespecial 3)
  rw [hown]
  exact ⟨hts _ zw_322, hts _ zw_137, hts _ (zT_mem (zt_1 44 rfl) rfl)⟩
set_option maxRecDepth 20000 in
theorem lk_3_1 (D : va_G) (l : Launch) : zLk D l "FlagLayers$Judge" (.anewarray 9, 9, 0, 0) := fun p e R s m args below meth c mi d pc ad0 hown hcx hbx hini hts hK hdec => by
  show (Cond.classLink (zown mi) 9 (zcnm 9)).before args s = true ∧ (Cond.arrayOver (.object (zcnm 9))).before args s = true
  rw [hown]
  exact ⟨hts _ zw_323, va_AO.use (hK.2.2.2.2.2.2.2.2 _ (by decide +kernel))⟩
set_option maxRecDepth 20000 in
theorem lk_3_2 (D : va_G) (l : Launch) : zLk D l "FlagLayers$Judge" (.putfield 11, 1, 0, 0) := fun p e R s m args below meth c mi d pc ad0 hown hcx hbx hini hts hK hdec => by
  show zOkPut D s args m.cls meth.name (zown mi) 11 1 0 (zty 1 0)
  have hc := hcx.2.2.2.2.2.1
  rw [hown] at hc ⊢
  exact zk_putF hts (zuk_1 hK) zin_1 (by decide) zw_324 rfl hc (hbx.2.trans (hini rfl)) rfl (by decide +kernel)
set_option maxRecDepth 20000 in
theorem lk_3_3 (D : va_G) (l : Launch) : zLk D l "FlagLayers$Judge" (.putfield 17, 1, 1, 0) := fun p e R s m args below meth c mi d pc ad0 hown hcx hbx hini hts hK hdec => by
  show zOkPut D s args m.cls meth.name (zown mi) 17 1 1 (zty 1 1)
  have hc := hcx.2.2.2.2.2.1
  rw [hown] at hc ⊢
  exact zk_putF hts (zuk_1 hK) zin_1 (by decide) zw_325 rfl hc (hbx.2.trans (hini rfl)) rfl (by decide +kernel)
set_option maxRecDepth 20000 in
theorem lk_3_4 (D : va_G) (l : Launch) : zLk D l "FlagLayers$Judge" (.putfield 20, 1, 2, 0) := fun p e R s m args below meth c mi d pc ad0 hown hcx hbx hini hts hK hdec => by
  show zOkPut D s args m.cls meth.name (zown mi) 20 1 2 (zty 1 2)
  rw [hown]
  exact zk_put hts (zuk_1 hK) zin_1 (by decide) (zFl_p hts zw_326) (Or.inl rfl) rfl (by decide +kernel)
set_option maxRecDepth 20000 in
theorem lk_3_5 (D : va_G) (l : Launch) : zLk D l "FlagLayers$Judge" (.putfield 24, 1, 3, 0) := fun p e R s m args below meth c mi d pc ad0 hown hcx hbx hini hts hK hdec => by
  show zOkPut D s args m.cls meth.name (zown mi) 24 1 3 (zty 1 3)
  have hc := hcx.2.2.2.2.2.1
  rw [hown] at hc ⊢
  exact zk_putF hts (zuk_1 hK) zin_1 (by decide) zw_327 rfl hc (hbx.2.trans (hini rfl)) rfl (by decide +kernel)
set_option maxRecDepth 20000 in
theorem lk_3_6 (D : va_G) (l : Launch) : zLk D l "FlagLayers$Judge" (.putfield 28, 1, 4, 0) := fun p e R s m args below meth c mi d pc ad0 hown hcx hbx hini hts hK hdec => by
  show zOkPut D s args m.cls meth.name (zown mi) 28 1 4 (zty 1 4)
  have hc := hcx.2.2.2.2.2.1
  rw [hown] at hc ⊢
  exact zk_putF hts (zuk_1 hK) zin_1 (by decide) zw_328 rfl hc (hbx.2.trans (hini rfl)) rfl (by decide +kernel)
set_option maxRecDepth 20000 in
theorem lk_3_7 (D : va_G) (l : Launch) : zLk D l "FlagLayers$Judge" (.putfield 32, 1, 5, 0) := fun p e R s m args below meth c mi d pc ad0 hown hcx hbx hini hts hK hdec => by
  show zOkPut D s args m.cls meth.name (zown mi) 32 1 5 (zty 1 5)
  have hc := hcx.2.2.2.2.2.1
  rw [hown] at hc ⊢
  exact zk_putF hts (zuk_1 hK) zin_1 (by decide) zw_329 rfl hc (hbx.2.trans (hini rfl)) rfl (by decide +kernel)
set_option maxRecDepth 20000 in
theorem lk_3_8 (D : va_G) (l : Launch) : zLk D l "FlagLayers$Judge" (.putfield 35, 1, 6, 0) := fun p e R s m args below meth c mi d pc ad0 hown hcx hbx hini hts hK hdec => by
  show zOkPut D s args m.cls meth.name (zown mi) 35 1 6 (zty 1 6)
  rw [hown]
  exact zk_put hts (zuk_1 hK) zin_1 (by decide) (zFl_p hts zw_330) (Or.inl rfl) rfl (by decide +kernel)
set_option maxRecDepth 20000 in
theorem lk_3_9 (D : va_G) (l : Launch) : zLk D l "FlagLayers$Judge" (.getfield 32, 1, 5, 0) := fun p e R s m args below meth c mi d pc ad0 hown hcx hbx hini hts hK hdec => by
  show zOkGet D s args (zown mi) 32 1 5
  rw [hown]
  exact zk_get hts (zuk_1 hK) zin_1 (by decide) (zFl_p hts zw_329) (Or.inl rfl)
set_option maxRecDepth 20000 in
theorem lk_3_10 (D : va_G) (l : Launch) : zLk D l "FlagLayers$Judge" (.invokestatic 38, 4, 0, 0) := fun p e R s m args below meth c mi d pc ad0 hown hcx hbx hini hts hK hdec => zk_S hcx hts zcm_4 zct_4 hdec (by rw [hown]; exact zw_331) zw_332 zw_333 zpd_4 rfl
set_option maxRecDepth 20000 in
theorem lk_3_11 (D : va_G) (l : Launch) : zLk D l "FlagLayers$Judge" (.getfield 20, 1, 2, 0) := fun p e R s m args below meth c mi d pc ad0 hown hcx hbx hini hts hK hdec => by
  show zOkGet D s args (zown mi) 20 1 2
  rw [hown]
  exact zk_get hts (zuk_1 hK) zin_1 (by decide) (zFl_p hts zw_326) (Or.inl rfl)
set_option maxRecDepth 20000 in
theorem lk_3_12 (D : va_G) (l : Launch) : zLk D l "FlagLayers$Judge" (.invokevirtual 44, 134, 0, 4) := fun p e R s m args below meth c mi d pc ad0 hown hcx hbx hini hts hK hdec => zk_V (n := 1) hcx hts (zuk_1 hK).2.1 zcm_134 zct_134 hdec (by rw [hown]; exact zw_334) zw_335 zs_8 zw_145 rfl zpd_134 rfl
set_option maxRecDepth 20000 in
theorem lk_3_13 (D : va_G) (l : Launch) : zLk D l "FlagLayers$Judge" (.getfield 11, 1, 0, 0) := fun p e R s m args below meth c mi d pc ad0 hown hcx hbx hini hts hK hdec => by
  show zOkGet D s args (zown mi) 11 1 0
  rw [hown]
  exact zk_get hts (zuk_1 hK) zin_1 (by decide) (zFl_p hts zw_324) (Or.inl rfl)
set_option maxRecDepth 20000 in
theorem lk_3_14 (D : va_G) (l : Launch) : zLk D l "FlagLayers$Judge" (.getfield 48, 9, 3, 0) := fun p e R s m args below meth c mi d pc ad0 hown hcx hbx hini hts hK hdec => by
  show zOkGet D s args (zown mi) 48 9 3
  rw [hown]
  exact zk_get hts (zuk_9 hK) zin_9 (by decide) (zFl_p hts zw_336) (Or.inl rfl)
set_option maxRecDepth 20000 in
theorem lk_3_15 (D : va_G) (l : Launch) : zLk D l "FlagLayers$Judge" (.invokevirtual 280, 29, 0, 15) := fun p e R s m args below meth c mi d pc ad0 hown hcx hbx hini hts hK hdec => zk_V (n := 12) hcx hts (zuk_12 hK).2.1 zcm_29 zct_29 hdec (by rw [hown]; exact zw_337) zw_184 zw_183 zw_185 rfl zpd_29 rfl
set_option maxRecDepth 20000 in
theorem lk_3_16 (D : va_G) (l : Launch) : zLk D l "FlagLayers$Judge" (.invokestatic 52, 13, 2, 0) := fun p e R s m args below meth c mi d pc ad0 hown hcx hbx hini hts hK hdec => zk_SN (host := "FlagLayers") hcx hts zcm_13 zct_13 hdec (by rw [hown]; exact hK.2.2.2.2.1 _ (znw_mem (by decide +kernel) rfl)) zw_224 zw_2 zpd_13 rfl
set_option maxRecDepth 20000 in
theorem lk_3_17 (D : va_G) (l : Launch) : zLk D l "FlagLayers$Judge" (.getfield 17, 1, 1, 0) := fun p e R s m args below meth c mi d pc ad0 hown hcx hbx hini hts hK hdec => by
  show zOkGet D s args (zown mi) 17 1 1
  rw [hown]
  exact zk_get hts (zuk_1 hK) zin_1 (by decide) (zFl_p hts zw_325) (Or.inl rfl)
set_option maxRecDepth 20000 in
theorem lk_3_18 (D : va_G) (l : Launch) : zLk D l "FlagLayers$Judge" (.invokevirtual 78, 149, 0, 4) := fun p e R s m args below meth c mi d pc ad0 hown hcx hbx hini hts hK hdec => zk_V (n := 1) hcx hts (zuk_1 hK).2.1 zcm_149 zct_149 hdec (by rw [hown]; exact zw_338) zw_246 zw_245 zw_145 rfl zpd_149 rfl
set_option maxRecDepth 20000 in
theorem lk_3_19 (D : va_G) (l : Launch) : zLk D l "FlagLayers$Judge" (.getfield 82, 4, 10, 0) := fun p e R s m args below meth c mi d pc ad0 hown hcx hbx hini hts hK hdec => by
  show zOkGet D s args (zown mi) 82 4 10
  rw [hown]
  exact zk_get hts (zuk_4 hK) zin_4 (by decide) (zFl_p hts zw_339) (Or.inl rfl)
set_option maxRecDepth 20000 in
theorem lk_3_20 (D : va_G) (l : Launch) : zLk D l "FlagLayers$Judge" (.invokevirtual 85, 115, 0, 7) := fun p e R s m args below meth c mi d pc ad0 hown hcx hbx hini hts hK hdec => zk_V (n := 4) hcx hts (zuk_4 hK).2.1 zcm_115 zct_115 hdec (by rw [hown]; exact zw_340) zw_342 zw_341 zw_151 rfl zpd_115 rfl
set_option maxRecDepth 20000 in
theorem lk_3_21 (D : va_G) (l : Launch) : zLk D l "FlagLayers$Judge" (.getfield 88, 4, 11, 0) := fun p e R s m args below meth c mi d pc ad0 hown hcx hbx hini hts hK hdec => by
  show zOkGet D s args (zown mi) 88 4 11
  rw [hown]
  exact zk_get hts (zuk_4 hK) zin_4 (by decide) (zFl_p hts zw_343) (Or.inl rfl)
set_option maxRecDepth 20000 in
theorem lk_3_22 (D : va_G) (l : Launch) : zLk D l "FlagLayers$Judge" (.invokevirtual 91, 158, 0, 4) := fun p e R s m args below meth c mi d pc ad0 hown hcx hbx hini hts hK hdec => zk_V (n := 1) hcx hts (zuk_1 hK).2.1 zcm_158 zct_158 hdec (by rw [hown]; exact zw_344) zw_345 zs_9 zw_145 rfl zpd_158 rfl
set_option maxRecDepth 20000 in
theorem lk_3_23 (D : va_G) (l : Launch) : zLk D l "FlagLayers$Judge" (.invokevirtual 95, 170, 0, 4) := fun p e R s m args below meth c mi d pc ad0 hown hcx hbx hini hts hK hdec => zk_V (n := 1) hcx hts (zuk_1 hK).2.1 zcm_170 zct_170 hdec (by rw [hown]; exact zw_346) zw_347 zs_10 zw_145 rfl zpd_170 rfl
set_option maxRecDepth 20000 in
theorem lk_3_24 (D : va_G) (l : Launch) : zLk D l "FlagLayers$Judge" (.getfield 28, 1, 4, 0) := fun p e R s m args below meth c mi d pc ad0 hown hcx hbx hini hts hK hdec => by
  show zOkGet D s args (zown mi) 28 1 4
  rw [hown]
  exact zk_get hts (zuk_1 hK) zin_1 (by decide) (zFl_p hts zw_328) (Or.inl rfl)
set_option maxRecDepth 20000 in
theorem lk_3_25 (D : va_G) (l : Launch) : zLk D l "FlagLayers$Judge" (.getfield 35, 1, 6, 0) := fun p e R s m args below meth c mi d pc ad0 hown hcx hbx hini hts hK hdec => by
  show zOkGet D s args (zown mi) 35 1 6
  rw [hown]
  exact zk_get hts (zuk_1 hK) zin_1 (by decide) (zFl_p hts zw_330) (Or.inl rfl)
set_option maxRecDepth 20000 in
theorem lk_3_26 (D : va_G) (l : Launch) : zLk D l "FlagLayers$Judge" (.getfield 56, 4, 3, 0) := fun p e R s m args below meth c mi d pc ad0 hown hcx hbx hini hts hK hdec => by
  show zOkGet D s args (zown mi) 56 4 3
  rw [hown]
  exact zk_get hts (zuk_4 hK) zin_4 (by decide) (zFl_p hts zw_348) (Or.inl rfl)
set_option maxRecDepth 20000 in
theorem lk_3_27 (D : va_G) (l : Launch) : zLk D l "FlagLayers$Judge" (.invokevirtual 62, 68, 0, 17) := fun p e R s m args below meth c mi d pc ad0 hown hcx hbx hini hts hK hdec => zk_V (n := 14) hcx hts (zuk_14 hK).2.1 zcm_68 zct_68 hdec (by rw [hown]; exact zw_349) zw_175 zw_174 zw_176 rfl zpd_68 rfl
set_option maxRecDepth 20000 in
theorem lk_3_28 (D : va_G) (l : Launch) : zLk D l "FlagLayers$Judge" (.getfield 24, 1, 3, 0) := fun p e R s m args below meth c mi d pc ad0 hown hcx hbx hini hts hK hdec => by
  show zOkGet D s args (zown mi) 24 1 3
  rw [hown]
  exact zk_get hts (zuk_1 hK) zin_1 (by decide) (zFl_p hts zw_327) (Or.inl rfl)
set_option maxRecDepth 20000 in
theorem lk_3_29 (D : va_G) (l : Launch) : zLk D l "FlagLayers$Judge" (.invokevirtual 68, 74, 0, 17) := fun p e R s m args below meth c mi d pc ad0 hown hcx hbx hini hts hK hdec => zk_V (n := 14) hcx hts (zuk_14 hK).2.1 zcm_74 zct_74 hdec (by rw [hown]; exact zw_350) zw_179 zw_178 zw_176 rfl zpd_74 rfl
set_option maxRecDepth 20000 in
theorem lk_3_30 (D : va_G) (l : Launch) : zLk D l "FlagLayers$Judge" (.checkcast 72, 3, 0, 0) := fun p e R s m args below meth c mi d pc ad0 hown hcx hbx hini hts hK hdec => by
  show (Cond.classLink (zown mi) 72 (zcnm 3)).before args s = true ∧ (0 = 0 ∨ zcnm 3 = "[" ++ (FieldType.object (zcnm 0)).toString)
  rw [hown]
  exact ⟨hts _ zw_351, Or.inl rfl⟩
set_option maxRecDepth 20000 in
theorem lk_3_31 (D : va_G) (l : Launch) : zLk D l "FlagLayers$Judge" (.invokevirtual 74, 150, 0, 4) := fun p e R s m args below meth c mi d pc ad0 hown hcx hbx hini hts hK hdec => zk_V (n := 1) hcx hts (zuk_1 hK).2.1 zcm_150 zct_150 hdec (by rw [hown]; exact zw_352) zw_353 zs_11 zw_145 rfl zpd_150 rfl
set_option maxRecDepth 20000 in
theorem lk_3_32 (D : va_G) (l : Launch) : zLk D l "FlagLayers$Judge" (.getstatic 205, 17, 0, 0) := fun p e R s m args below meth c mi d pc ad0 hown hcx hbx hini hts hK hdec => by
  intro v hv
  obtain rfl : (.ref 45 : Value) = v := Option.some.inj hv
  exact zk_st hcx hts (hK.2.1 12 _ rfl) (by rw [hown]; exact zw_354) rfl hdec
set_option maxRecDepth 20000 in
theorem lk_3_33 (D : va_G) (l : Launch) : zLk D l "FlagLayers$Judge" (.getfield 210, 3, 0, 0) := fun p e R s m args below meth c mi d pc ad0 hown hcx hbx hini hts hK hdec => by
  show zOkGet D s args (zown mi) 210 3 0
  rw [hown]
  exact zk_get hts (zuk_3 hK) zin_3 (by decide) (zFl_p hts zw_355) (Or.inl rfl)
set_option maxRecDepth 20000 in
theorem lk_3_34 (D : va_G) (l : Launch) : zLk D l "FlagLayers$Judge" (.invokevirtual 214, 66, 2, 18) := fun p e R s m args below meth c mi d pc ad0 hown hcx hbx hini hts hK hdec => zk_U (n := 15) (x := ⟨"FlagLayers$Sort", "ordinal", "()I"⟩) hcx hts (zuk_15 hK).2.1 zcm_66 zct_66 hdec (by rw [hown]; exact zw_356) zw_358 zw_357 zw_359 zw_360 rfl zpd_66 rfl
set_option maxRecDepth 20000 in
theorem lk_3_35 (D : va_G) (l : Launch) : zLk D l "FlagLayers$Judge" (.getfield 219, 3, 3, 0) := fun p e R s m args below meth c mi d pc ad0 hown hcx hbx hini hts hK hdec => by
  show zOkGet D s args (zown mi) 219 3 3
  rw [hown]
  exact zk_get hts (zuk_3 hK) zin_3 (by decide) (zFl_p hts zw_361) (Or.inl rfl)
set_option maxRecDepth 20000 in
theorem lk_3_36 (D : va_G) (l : Launch) : zLk D l "FlagLayers$Judge" (.invokevirtual 222, 151, 0, 4) := fun p e R s m args below meth c mi d pc ad0 hown hcx hbx hini hts hK hdec => zk_V (n := 1) hcx hts (zuk_1 hK).2.1 zcm_151 zct_151 hdec (by rw [hown]; exact zw_362) zw_249 zw_248 zw_145 rfl zpd_151 rfl
set_option maxRecDepth 20000 in
theorem lk_3_37 (D : va_G) (l : Launch) : zLk D l "FlagLayers$Judge" (.getfield 225, 3, 4, 0) := fun p e R s m args below meth c mi d pc ad0 hown hcx hbx hini hts hK hdec => by
  show zOkGet D s args (zown mi) 225 3 4
  rw [hown]
  exact zk_get hts (zuk_3 hK) zin_3 (by decide) (zFl_p hts zw_363) (Or.inl rfl)
set_option maxRecDepth 20000 in
theorem lk_3_38 (D : va_G) (l : Launch) : zLk D l "FlagLayers$Judge" (.getstatic 228, 19, 0, 0) := fun p e R s m args below meth c mi d pc ad0 hown hcx hbx hini hts hK hdec => by
  intro v hv
  obtain rfl : (.ref 32 : Value) = v := Option.some.inj hv
  exact zk_st hcx hts (hK.2.1 14 _ rfl) (by rw [hown]; exact zw_364) rfl hdec
set_option maxRecDepth 20000 in
theorem lk_3_39 (D : va_G) (l : Launch) : zLk D l "FlagLayers$Judge" (.getfield 231, 3, 5, 0) := fun p e R s m args below meth c mi d pc ad0 hown hcx hbx hini hts hK hdec => by
  show zOkGet D s args (zown mi) 231 3 5
  rw [hown]
  exact zk_get hts (zuk_3 hK) zin_3 (by decide) (zFl_p hts zw_365) (Or.inl rfl)
set_option maxRecDepth 20000 in
theorem lk_3_40 (D : va_G) (l : Launch) : zLk D l "FlagLayers$Judge" (.invokevirtual 234, 152, 0, 4) := fun p e R s m args below meth c mi d pc ad0 hown hcx hbx hini hts hK hdec => zk_V (n := 1) hcx hts (zuk_1 hK).2.1 zcm_152 zct_152 hdec (by rw [hown]; exact zw_366) zw_367 zs_12 zw_145 rfl zpd_152 rfl
set_option maxRecDepth 20000 in
theorem lk_3_41 (D : va_G) (l : Launch) : zLk D l "FlagLayers$Judge" (.getfield 238, 3, 1, 0) := fun p e R s m args below meth c mi d pc ad0 hown hcx hbx hini hts hK hdec => by
  show zOkGet D s args (zown mi) 238 3 1
  rw [hown]
  exact zk_get hts (zuk_3 hK) zin_3 (by decide) (zFl_p hts zw_368) (Or.inl rfl)
set_option maxRecDepth 20000 in
theorem lk_3_42 (D : va_G) (l : Launch) : zLk D l "FlagLayers$Judge" (.invokevirtual 174, 153, 0, 4) := fun p e R s m args below meth c mi d pc ad0 hown hcx hbx hini hts hK hdec => zk_V (n := 1) hcx hts (zuk_1 hK).2.1 zcm_153 zct_153 hdec (by rw [hown]; exact zw_369) zw_370 zs_13 zw_145 rfl zpd_153 rfl
set_option maxRecDepth 20000 in
theorem lk_3_43 (D : va_G) (l : Launch) : zLk D l "FlagLayers$Judge" (.getstatic 239, 30, 0, 0) := fun p e R s m args below meth c mi d pc ad0 hown hcx hbx hini hts hK hdec => by
  intro v hv
  obtain rfl : (.ref 43 : Value) = v := Option.some.inj hv
  exact zk_st hcx hts (hK.2.1 25 _ rfl) (by rw [hown]; exact zw_371) rfl hdec
set_option maxRecDepth 20000 in
theorem lk_3_44 (D : va_G) (l : Launch) : zLk D l "FlagLayers$Judge" (.getfield 242, 3, 2, 0) := fun p e R s m args below meth c mi d pc ad0 hown hcx hbx hini hts hK hdec => by
  show zOkGet D s args (zown mi) 242 3 2
  rw [hown]
  exact zk_get hts (zuk_3 hK) zin_3 (by decide) (zFl_p hts zw_372) (Or.inl rfl)
set_option maxRecDepth 20000 in
theorem lk_3_45 (D : va_G) (l : Launch) : zLk D l "FlagLayers$Judge" (.getstatic 245, 31, 0, 0) := fun p e R s m args below meth c mi d pc ad0 hown hcx hbx hini hts hK hdec => by
  intro v hv
  obtain rfl : (.ref 36 : Value) = v := Option.some.inj hv
  exact zk_st hcx hts (hK.2.1 26 _ rfl) (by rw [hown]; exact zw_373) rfl hdec
set_option maxRecDepth 20000 in
theorem lk_3_46 (D : va_G) (l : Launch) : zLk D l "FlagLayers$Judge" (.invokevirtual 248, 154, 0, 12) := fun p e R s m args below meth c mi d pc ad0 hown hcx hbx hini hts hK hdec => zk_V (n := 9) hcx hts (zuk_9 hK).2.1 zcm_154 zct_154 hdec (by rw [hown]; exact zw_374) zw_376 zw_375 zw_273 rfl zpd_154 rfl
set_option maxRecDepth 20000 in
theorem lk_3_47 (D : va_G) (l : Launch) : zLk D l "FlagLayers$Judge" (.getstatic 252, 28, 0, 0) := fun p e R s m args below meth c mi d pc ad0 hown hcx hbx hini hts hK hdec => by
  intro v hv
  obtain rfl : (.ref 42 : Value) = v := Option.some.inj hv
  exact zk_st hcx hts (hK.2.1 23 _ rfl) (by rw [hown]; exact zw_377) rfl hdec
set_option maxRecDepth 20000 in
theorem lk_3_48 (D : va_G) (l : Launch) : zLk D l "FlagLayers$Judge" (.invokestatic 255, 155, 0, 0) := fun p e R s m args below meth c mi d pc ad0 hown hcx hbx hini hts hK hdec => zk_S hcx hts zcm_155 zct_155 hdec (by rw [hown]; exact zw_378) zw_379 zw_145 zpd_155 rfl
set_option maxRecDepth 20000 in
theorem lk_3_49 (D : va_G) (l : Launch) : zLk D l "FlagLayers$Judge" (.getfield 259, 9, 0, 0) := fun p e R s m args below meth c mi d pc ad0 hown hcx hbx hini hts hK hdec => by
  show zOkGet D s args (zown mi) 259 9 0
  rw [hown]
  exact zk_get hts (zuk_9 hK) zin_9 (by decide) (zFl_p hts zw_380) (Or.inl rfl)
set_option maxRecDepth 20000 in
theorem lk_3_50 (D : va_G) (l : Launch) : zLk D l "FlagLayers$Judge" (.getfield 260, 9, 4, 0) := fun p e R s m args below meth c mi d pc ad0 hown hcx hbx hini hts hK hdec => by
  show zOkGet D s args (zown mi) 260 9 4
  rw [hown]
  exact zk_get hts (zuk_9 hK) zin_9 (by decide) (zFl_p hts zw_381) (Or.inl rfl)
set_option maxRecDepth 20000 in
theorem lk_3_51 (D : va_G) (l : Launch) : zLk D l "FlagLayers$Judge" (.invokestatic 263, 156, 0, 0) := fun p e R s m args below meth c mi d pc ad0 hown hcx hbx hini hts hK hdec => zk_S hcx hts zcm_156 zct_156 hdec (by rw [hown]; exact zw_382) zw_383 zw_145 zpd_156 rfl
set_option maxRecDepth 20000 in
theorem lk_3_52 (D : va_G) (l : Launch) : zLk D l "FlagLayers$Judge" (.invokevirtual 267, 55, 0, 15) := fun p e R s m args below meth c mi d pc ad0 hown hcx hbx hini hts hK hdec => zk_V (n := 12) hcx hts (zuk_12 hK).2.1 zcm_55 zct_55 hdec (by rw [hown]; exact zw_384) zw_227 zw_226 zw_185 rfl zpd_55 rfl
set_option maxRecDepth 20000 in
theorem lk_3_53 (D : va_G) (l : Launch) : zLk D l "FlagLayers$Judge" (.invokestatic 272, 157, 0, 0) := fun p e R s m args below meth c mi d pc ad0 hown hcx hbx hini hts hK hdec => zk_S hcx hts zcm_157 zct_157 hdec (by rw [hown]; exact zw_385) zw_386 zw_145 zpd_157 rfl
set_option maxRecDepth 20000 in
theorem lk_3_54 (D : va_G) (l : Launch) : zLk D l "FlagLayers$Judge" (.invokevirtual 276, 59, 0, 15) := fun p e R s m args below meth c mi d pc ad0 hown hcx hbx hini hts hK hdec => zk_V (n := 12) hcx hts (zuk_12 hK).2.1 zcm_59 zct_59 hdec (by rw [hown]; exact zw_387) zw_230 zw_229 zw_185 rfl zpd_59 rfl
set_option maxRecDepth 20000 in
theorem lk_3_55 (D : va_G) (l : Launch) : zLk D l "FlagLayers$Judge" (.getfield 99, 4, 5, 0) := fun p e R s m args below meth c mi d pc ad0 hown hcx hbx hini hts hK hdec => by
  show zOkGet D s args (zown mi) 99 4 5
  rw [hown]
  exact zk_get hts (zuk_4 hK) zin_4 (by decide) (zFl_p hts zw_388) (Or.inl rfl)
set_option maxRecDepth 20000 in
theorem lk_3_56 (D : va_G) (l : Launch) : zLk D l "FlagLayers$Judge" (.checkcast 102, 2, 0, 0) := fun p e R s m args below meth c mi d pc ad0 hown hcx hbx hini hts hK hdec => by
  show (Cond.classLink (zown mi) 102 (zcnm 2)).before args s = true ∧ (0 = 0 ∨ zcnm 2 = "[" ++ (FieldType.object (zcnm 0)).toString)
  rw [hown]
  exact ⟨hts _ zw_389, Or.inl rfl⟩
set_option maxRecDepth 20000 in
theorem lk_3_57 (D : va_G) (l : Launch) : zLk D l "FlagLayers$Judge" (.invokevirtual 104, 159, 0, 5) := fun p e R s m args below meth c mi d pc ad0 hown hcx hbx hini hts hK hdec => zk_V (n := 2) hcx hts (zuk_2 hK).2.1 zcm_159 zct_159 hdec (by rw [hown]; exact zw_390) zw_392 zw_391 zw_393 rfl zpd_159 rfl
set_option maxRecDepth 20000 in
theorem lk_3_58 (D : va_G) (l : Launch) : zLk D l "FlagLayers$Judge" (.getfield 108, 4, 4, 0) := fun p e R s m args below meth c mi d pc ad0 hown hcx hbx hini hts hK hdec => by
  show zOkGet D s args (zown mi) 108 4 4
  rw [hown]
  exact zk_get hts (zuk_4 hK) zin_4 (by decide) (zFl_p hts zw_394) (Or.inl rfl)
set_option maxRecDepth 20000 in
theorem lk_3_59 (D : va_G) (l : Launch) : zLk D l "FlagLayers$Judge" (.checkcast 111, 0, 0, 0) := fun p e R s m args below meth c mi d pc ad0 hown hcx hbx hini hts hK hdec => by
  show (Cond.classLink (zown mi) 111 (zcnm 0)).before args s = true ∧ (0 = 0 ∨ zcnm 0 = "[" ++ (FieldType.object (zcnm 0)).toString)
  rw [hown]
  exact ⟨hts _ zw_395, Or.inl rfl⟩
set_option maxRecDepth 20000 in
theorem lk_3_60 (D : va_G) (l : Launch) : zLk D l "FlagLayers$Judge" (.getfield 113, 0, 7, 0) := fun p e R s m args below meth c mi d pc ad0 hown hcx hbx hini hts hK hdec => by
  show zOkGet D s args (zown mi) 113 0 7
  rw [hown]
  exact zk_get hts (zuk_0 hK) zin_0 (by decide) (zFl_p hts zw_396) (Or.inl rfl)
set_option maxRecDepth 20000 in
theorem lk_3_61 (D : va_G) (l : Launch) : zLk D l "FlagLayers$Judge" (.invokevirtual 116, 160, 0, 4) := fun p e R s m args below meth c mi d pc ad0 hown hcx hbx hini hts hK hdec => zk_V (n := 1) hcx hts (zuk_1 hK).2.1 zcm_160 zct_160 hdec (by rw [hown]; exact zw_397) zw_398 zs_14 zw_145 rfl zpd_160 rfl
set_option maxRecDepth 20000 in
theorem lk_3_62 (D : va_G) (l : Launch) : zLk D l "FlagLayers$Judge" (.getfield 120, 2, 1, 0) := fun p e R s m args below meth c mi d pc ad0 hown hcx hbx hini hts hK hdec => by
  show zOkGet D s args (zown mi) 120 2 1
  rw [hown]
  exact zk_get hts (zuk_2 hK) zin_2 (by decide) (zFl_p hts zw_399) (Or.inl rfl)
set_option maxRecDepth 20000 in
theorem lk_3_63 (D : va_G) (l : Launch) : zLk D l "FlagLayers$Judge" (.getfield 123, 2, 2, 0) := fun p e R s m args below meth c mi d pc ad0 hown hcx hbx hini hts hK hdec => by
  show zOkGet D s args (zown mi) 123 2 2
  rw [hown]
  exact zk_get hts (zuk_2 hK) zin_2 (by decide) (zFl_p hts zw_400) (Or.inl rfl)
set_option maxRecDepth 20000 in
theorem lk_3_64 (D : va_G) (l : Launch) : zLk D l "FlagLayers$Judge" (.invokevirtual 126, 162, 0, 4) := fun p e R s m args below meth c mi d pc ad0 hown hcx hbx hini hts hK hdec => zk_V (n := 1) hcx hts (zuk_1 hK).2.1 zcm_162 zct_162 hdec (by rw [hown]; exact zw_401) zw_402 zs_15 zw_145 rfl zpd_162 rfl
set_option maxRecDepth 20000 in
theorem lk_3_65 (D : va_G) (l : Launch) : zLk D l "FlagLayers$Judge" (.getfield 130, 4, 6, 0) := fun p e R s m args below meth c mi d pc ad0 hown hcx hbx hini hts hK hdec => by
  show zOkGet D s args (zown mi) 130 4 6
  rw [hown]
  exact zk_get hts (zuk_4 hK) zin_4 (by decide) (zFl_p hts zw_403) (Or.inl rfl)
set_option maxRecDepth 20000 in
theorem lk_3_66 (D : va_G) (l : Launch) : zLk D l "FlagLayers$Judge" (.checkcast 133, 6, 0, 0) := fun p e R s m args below meth c mi d pc ad0 hown hcx hbx hini hts hK hdec => by
  show (Cond.classLink (zown mi) 133 (zcnm 6)).before args s = true ∧ (0 = 0 ∨ zcnm 6 = "[" ++ (FieldType.object (zcnm 0)).toString)
  rw [hown]
  exact ⟨hts _ zw_404, Or.inl rfl⟩
set_option maxRecDepth 20000 in
theorem lk_3_67 (D : va_G) (l : Launch) : zLk D l "FlagLayers$Judge" (.getfield 135, 6, 2, 0) := fun p e R s m args below meth c mi d pc ad0 hown hcx hbx hini hts hK hdec => by
  show zOkGet D s args (zown mi) 135 6 2
  rw [hown]
  exact zk_get hts (zuk_6 hK) zin_6 (by decide) (zFl_p hts zw_405) (Or.inl rfl)
set_option maxRecDepth 20000 in
theorem lk_3_68 (D : va_G) (l : Launch) : zLk D l "FlagLayers$Judge" (.invokevirtual 139, 163, 0, 4) := fun p e R s m args below meth c mi d pc ad0 hown hcx hbx hini hts hK hdec => zk_V (n := 1) hcx hts (zuk_1 hK).2.1 zcm_163 zct_163 hdec (by rw [hown]; exact zw_406) zw_407 zs_16 zw_145 rfl zpd_163 rfl
set_option maxRecDepth 20000 in
theorem lk_3_69 (D : va_G) (l : Launch) : zLk D l "FlagLayers$Judge" (.invokevirtual 143, 169, 0, 5) := fun p e R s m args below meth c mi d pc ad0 hown hcx hbx hini hts hK hdec => zk_V (n := 2) hcx hts (zuk_2 hK).2.1 zcm_169 zct_169 hdec (by rw [hown]; exact zw_408) zw_410 zw_409 zw_393 rfl zpd_169 rfl
set_option maxRecDepth 20000 in
theorem lk_3_70 (D : va_G) (l : Launch) : zLk D l "FlagLayers$Judge" (.getfield 147, 2, 0, 0) := fun p e R s m args below meth c mi d pc ad0 hown hcx hbx hini hts hK hdec => by
  show zOkGet D s args (zown mi) 147 2 0
  rw [hown]
  exact zk_get hts (zuk_2 hK) zin_2 (by decide) (zFl_p hts zw_411) (Or.inl rfl)
set_option maxRecDepth 20000 in
theorem lk_3_71 (D : va_G) (l : Launch) : zLk D l "FlagLayers$Judge" (.invokevirtual 164, 161, 0, 4) := fun p e R s m args below meth c mi d pc ad0 hown hcx hbx hini hts hK hdec => zk_V (n := 1) hcx hts (zuk_1 hK).2.1 zcm_161 zct_161 hdec (by rw [hown]; exact zw_412) zw_413 zs_17 zw_145 rfl zpd_161 rfl
set_option maxRecDepth 20000 in
theorem lk_3_72 (D : va_G) (l : Launch) : zLk D l "FlagLayers$Judge" (.invokestatic 192, 22, 0, 0) := fun p e R s m args below meth c mi d pc ad0 hown hcx hbx hini hts hK hdec => zk_S hcx hts zcm_22 zct_22 hdec (by rw [hown]; exact zw_414) zw_298 zw_299 zpd_22 rfl
set_option maxRecDepth 20000 in
theorem lk_3_73 (D : va_G) (l : Launch) : zLk D l "FlagLayers$Judge" (.getfield 198, 6, 0, 0) := fun p e R s m args below meth c mi d pc ad0 hown hcx hbx hini hts hK hdec => by
  show zOkGet D s args (zown mi) 198 6 0
  rw [hown]
  exact zk_get hts (zuk_6 hK) zin_6 (by decide) (zFl_p hts zw_415) (Or.inl rfl)
set_option maxRecDepth 20000 in
theorem lk_3_74 (D : va_G) (l : Launch) : zLk D l "FlagLayers$Judge" (.getfield 201, 6, 1, 0) := fun p e R s m args below meth c mi d pc ad0 hown hcx hbx hini hts hK hdec => by
  show zOkGet D s args (zown mi) 201 6 1
  rw [hown]
  exact zk_get hts (zuk_6 hK) zin_6 (by decide) (zFl_p hts zw_416) (Or.inl rfl)
set_option maxRecDepth 20000 in
theorem lk_3_75 (D : va_G) (l : Launch) : zLk D l "FlagLayers$Judge" (.getfield 168, 7, 0, 0) := fun p e R s m args below meth c mi d pc ad0 hown hcx hbx hini hts hK hdec => by
  show zOkGet D s args (zown mi) 168 7 0
  rw [hown]
  exact zk_get hts (zuk_7 hK) zin_7 (by decide) (zFl_p hts zw_417) (Or.inl rfl)
set_option maxRecDepth 20000 in
theorem lk_3_76 (D : va_G) (l : Launch) : zLk D l "FlagLayers$Judge" (.getfield 178, 7, 1, 0) := fun p e R s m args below meth c mi d pc ad0 hown hcx hbx hini hts hK hdec => by
  show zOkGet D s args (zown mi) 178 7 1
  rw [hown]
  exact zk_get hts (zuk_7 hK) zin_7 (by decide) (zFl_p hts zw_418) (Or.inl rfl)
set_option maxRecDepth 20000 in
theorem lk_3_77 (D : va_G) (l : Launch) : zLk D l "FlagLayers$Judge" (.invokevirtual 181, 164, 0, 10) := fun p e R s m args below meth c mi d pc ad0 hown hcx hbx hini hts hK hdec => zk_V (n := 7) hcx hts (zuk_7 hK).2.1 zcm_164 zct_164 hdec (by rw [hown]; exact zw_419) zw_421 zw_420 zw_256 rfl zpd_164 rfl
set_option maxRecDepth 20000 in
theorem lk_3_78 (D : va_G) (l : Launch) : zLk D l "FlagLayers$Judge" (.invokestatic 184, 165, 0, 0) := fun p e R s m args below meth c mi d pc ad0 hown hcx hbx hini hts hK hdec => zk_S hcx hts zcm_165 zct_165 hdec (by rw [hown]; exact zw_422) zw_423 zw_145 zpd_165 rfl
set_option maxRecDepth 20000 in
theorem lk_3_79 (D : va_G) (l : Launch) : zLk D l "FlagLayers$Judge" (.invokevirtual 188, 168, 0, 10) := fun p e R s m args below meth c mi d pc ad0 hown hcx hbx hini hts hK hdec => zk_V (n := 7) hcx hts (zuk_7 hK).2.1 zcm_168 zct_168 hdec (by rw [hown]; exact zw_424) zw_426 zw_425 zw_256 rfl zpd_168 rfl
set_option maxRecDepth 20000 in
theorem lk_3_80 (D : va_G) (l : Launch) : zLk D l "FlagLayers$Judge" (.ldc2_w 284, 47, 0, 0) := fun p e R s m args below meth c mi d pc ad0 hown hcx hbx hini hts hK hdec => by
  intro v hv
  obtain rfl : (.long (-3750763034362895579) : Value) = v := Option.some.inj hv
  exact zk_long hcx hts (by rw [hown]; exact zw_427) hdec
set_option maxRecDepth 20000 in
theorem lk_3_81 (D : va_G) (l : Launch) : zLk D l "FlagLayers$Judge" (.invokestatic 286, 166, 0, 0) := fun p e R s m args below meth c mi d pc ad0 hown hcx hbx hini hts hK hdec => zk_S hcx hts zcm_166 zct_166 hdec (by rw [hown]; exact zw_428) zw_429 zw_145 zpd_166 rfl
set_option maxRecDepth 20000 in
theorem lk_3_82 (D : va_G) (l : Launch) : zLk D l "FlagLayers$Judge" (.invokestatic 290, 167, 0, 0) := fun p e R s m args below meth c mi d pc ad0 hown hcx hbx hini hts hK hdec => zk_S hcx hts zcm_167 zct_167 hdec (by rw [hown]; exact zw_430) zw_431 zw_145 zpd_167 rfl
set_option maxRecDepth 20000 in
theorem lk_3_83 (D : va_G) (l : Launch) : zLk D l "FlagLayers$Judge" (.ldc2_w 294, 48, 0, 0) := fun p e R s m args below meth c mi d pc ad0 hown hcx hbx hini hts hK hdec => by
  intro v hv
  obtain rfl : (.long (5000) : Value) = v := Option.some.inj hv
  exact zk_long hcx hts (by rw [hown]; exact zw_432) hdec
set_option maxRecDepth 20000 in
theorem lk_3_84 (D : va_G) (l : Launch) : zLk D l "FlagLayers$Judge" (.ldc2_w 296, 49, 0, 0) := fun p e R s m args below meth c mi d pc ad0 hown hcx hbx hini hts hK hdec => by
  intro v hv
  obtain rfl : (.long (2) : Value) = v := Option.some.inj hv
  exact zk_long hcx hts (by rw [hown]; exact zw_433) hdec
set_option maxRecDepth 20000 in
theorem lk_3_85 (D : va_G) (l : Launch) : zLk D l "FlagLayers$Judge" (.ldc2_w 298, 50, 0, 0) := fun p e R s m args below meth c mi d pc ad0 hown hcx hbx hini hts hK hdec => by
  intro v hv
  obtain rfl : (.long (1099511628211) : Value) = v := Option.some.inj hv
  exact zk_long hcx hts (by rw [hown]; exact zw_434) hdec
set_option maxRecDepth 20000 in
theorem lk_3_86 (D : va_G) (l : Launch) : zLk D l "FlagLayers$Judge" (.invokevirtual 150, 112, 0, 3) := fun p e R s m args below meth c mi d pc ad0 hown hcx hbx hini hts hK hdec => zk_V (n := 0) hcx hts (zuk_0 hK).2.1 zcm_112 zct_112 hdec (by rw [hown]; exact zw_435) zw_437 zw_436 zw_235 rfl zpd_112 rfl
set_option maxRecDepth 20000 in
theorem lk_3_87 (D : va_G) (l : Launch) : zLk D l "FlagLayers$Judge" (.getfield 153, 0, 4, 0) := fun p e R s m args below meth c mi d pc ad0 hown hcx hbx hini hts hK hdec => by
  show zOkGet D s args (zown mi) 153 0 4
  rw [hown]
  exact zk_get hts (zuk_0 hK) zin_0 (by decide) (zFl_p hts zw_438) (Or.inl rfl)
set_option maxRecDepth 20000 in
theorem lk_3_88 (D : va_G) (l : Launch) : zLk D l "FlagLayers$Judge" (.getfield 156, 0, 5, 0) := fun p e R s m args below meth c mi d pc ad0 hown hcx hbx hini hts hK hdec => by
  show zOkGet D s args (zown mi) 156 0 5
  rw [hown]
  exact zk_get hts (zuk_0 hK) zin_0 (by decide) (zFl_p hts zw_439) (Or.inl rfl)
set_option maxRecDepth 20000 in
theorem lk_3_89 (D : va_G) (l : Launch) : zLk D l "FlagLayers$Judge" (.getfield 159, 0, 8, 0) := fun p e R s m args below meth c mi d pc ad0 hown hcx hbx hini hts hK hdec => by
  show zOkGet D s args (zown mi) 159 0 8
  rw [hown]
  exact zk_get hts (zuk_0 hK) zin_0 (by decide) (zFl_p hts zw_440) (Or.inl rfl)
set_option maxRecDepth 20000 in
theorem lk_3_90 (D : va_G) (l : Launch) : zLk D l "FlagLayers$Judge" (.getfield 160, 0, 9, 0) := fun p e R s m args below meth c mi d pc ad0 hown hcx hbx hini hts hK hdec => by
  show zOkGet D s args (zown mi) 160 0 9
  rw [hown]
  exact zk_get hts (zuk_0 hK) zin_0 (by decide) (zFl_p hts zw_441) (Or.inl rfl)
set_option maxRecDepth 20000 in
theorem lk_3_91 (D : va_G) (l : Launch) : zLk D l "FlagLayers$Judge" (.getfield 161, 0, 6, 0) := fun p e R s m args below meth c mi d pc ad0 hown hcx hbx hini hts hK hdec => by
  show zOkGet D s args (zown mi) 161 0 6
  rw [hown]
  exact zk_get hts (zuk_0 hK) zin_0 (by decide) (zFl_p hts zw_442) (Or.inl rfl)
def zlk_3 : List zRow := [(.invokespecial 3, 0, 1, 0), (.anewarray 9, 9, 0, 0), (.putfield 11, 1, 0, 0), (.putfield 17, 1, 1, 0), (.putfield 20, 1, 2, 0), (.putfield 24, 1, 3, 0), (.putfield 28, 1, 4, 0), (.putfield 32, 1, 5, 0), (.putfield 35, 1, 6, 0), (.getfield 32, 1, 5, 0), (.invokestatic 38, 4, 0, 0), (.getfield 20, 1, 2, 0), (.invokevirtual 44, 134, 0, 4), (.getfield 11, 1, 0, 0), (.getfield 48, 9, 3, 0), (.invokevirtual 280, 29, 0, 15), (.invokestatic 52, 13, 2, 0), (.getfield 17, 1, 1, 0), (.invokevirtual 78, 149, 0, 4), (.getfield 82, 4, 10, 0), (.invokevirtual 85, 115, 0, 7), (.getfield 88, 4, 11, 0), (.invokevirtual 91, 158, 0, 4), (.invokevirtual 95, 170, 0, 4), (.getfield 28, 1, 4, 0), (.getfield 35, 1, 6, 0), (.getfield 56, 4, 3, 0), (.invokevirtual 62, 68, 0, 17), (.getfield 24, 1, 3, 0), (.invokevirtual 68, 74, 0, 17), (.checkcast 72, 3, 0, 0), (.invokevirtual 74, 150, 0, 4), (.getstatic 205, 17, 0, 0), (.getfield 210, 3, 0, 0), (.invokevirtual 214, 66, 2, 18), (.getfield 219, 3, 3, 0), (.invokevirtual 222, 151, 0, 4), (.getfield 225, 3, 4, 0), (.getstatic 228, 19, 0, 0), (.getfield 231, 3, 5, 0), (.invokevirtual 234, 152, 0, 4), (.getfield 238, 3, 1, 0), (.invokevirtual 174, 153, 0, 4), (.getstatic 239, 30, 0, 0), (.getfield 242, 3, 2, 0), (.getstatic 245, 31, 0, 0), (.invokevirtual 248, 154, 0, 12), (.getstatic 252, 28, 0, 0), (.invokestatic 255, 155, 0, 0), (.getfield 259, 9, 0, 0), (.getfield 260, 9, 4, 0), (.invokestatic 263, 156, 0, 0), (.invokevirtual 267, 55, 0, 15), (.invokestatic 272, 157, 0, 0), (.invokevirtual 276, 59, 0, 15), (.getfield 99, 4, 5, 0), (.checkcast 102, 2, 0, 0), (.invokevirtual 104, 159, 0, 5), (.getfield 108, 4, 4, 0), (.checkcast 111, 0, 0, 0), (.getfield 113, 0, 7, 0), (.invokevirtual 116, 160, 0, 4), (.getfield 120, 2, 1, 0), (.getfield 123, 2, 2, 0), (.invokevirtual 126, 162, 0, 4), (.getfield 130, 4, 6, 0), (.checkcast 133, 6, 0, 0), (.getfield 135, 6, 2, 0), (.invokevirtual 139, 163, 0, 4), (.invokevirtual 143, 169, 0, 5), (.getfield 147, 2, 0, 0), (.invokevirtual 164, 161, 0, 4), (.invokestatic 192, 22, 0, 0), (.getfield 198, 6, 0, 0), (.getfield 201, 6, 1, 0), (.getfield 168, 7, 0, 0), (.getfield 178, 7, 1, 0), (.invokevirtual 181, 164, 0, 10), (.invokestatic 184, 165, 0, 0), (.invokevirtual 188, 168, 0, 10), (.ldc2_w 284, 47, 0, 0), (.invokestatic 286, 166, 0, 0), (.invokestatic 290, 167, 0, 0), (.ldc2_w 294, 48, 0, 0), (.ldc2_w 296, 49, 0, 0), (.ldc2_w 298, 50, 0, 0), (.invokevirtual 150, 112, 0, 3), (.getfield 153, 0, 4, 0), (.getfield 156, 0, 5, 0), (.getfield 159, 0, 8, 0), (.getfield 160, 0, 9, 0), (.getfield 161, 0, 6, 0)]
set_option maxRecDepth 20000 in
theorem zlkA_3 (D : va_G) (l : Launch) : ∀ t ∈ zlk_3, zLk D l "FlagLayers$Judge" t := zlkc (lk_3_0 D l) (zlkc (lk_3_1 D l) (zlkc (lk_3_2 D l) (zlkc (lk_3_3 D l) (zlkc (lk_3_4 D l) (zlkc (lk_3_5 D l) (zlkc (lk_3_6 D l) (zlkc (lk_3_7 D l) (zlkc (lk_3_8 D l) (zlkc (lk_3_9 D l) (zlkc (lk_3_10 D l) (zlkc (lk_3_11 D l) (zlkc (lk_3_12 D l) (zlkc (lk_3_13 D l) (zlkc (lk_3_14 D l) (zlkc (lk_3_15 D l) (zlkc (lk_3_16 D l) (zlkc (lk_3_17 D l) (zlkc (lk_3_18 D l) (zlkc (lk_3_19 D l) (zlkc (lk_3_20 D l) (zlkc (lk_3_21 D l) (zlkc (lk_3_22 D l) (zlkc (lk_3_23 D l) (zlkc (lk_3_24 D l) (zlkc (lk_3_25 D l) (zlkc (lk_3_26 D l) (zlkc (lk_3_27 D l) (zlkc (lk_3_28 D l) (zlkc (lk_3_29 D l) (zlkc (lk_3_30 D l) (zlkc (lk_3_31 D l) (zlkc (lk_3_32 D l) (zlkc (lk_3_33 D l) (zlkc (lk_3_34 D l) (zlkc (lk_3_35 D l) (zlkc (lk_3_36 D l) (zlkc (lk_3_37 D l) (zlkc (lk_3_38 D l) (zlkc (lk_3_39 D l) (zlkc (lk_3_40 D l) (zlkc (lk_3_41 D l) (zlkc (lk_3_42 D l) (zlkc (lk_3_43 D l) (zlkc (lk_3_44 D l) (zlkc (lk_3_45 D l) (zlkc (lk_3_46 D l) (zlkc (lk_3_47 D l) (zlkc (lk_3_48 D l) (zlkc (lk_3_49 D l) (zlkc (lk_3_50 D l) (zlkc (lk_3_51 D l) (zlkc (lk_3_52 D l) (zlkc (lk_3_53 D l) (zlkc (lk_3_54 D l) (zlkc (lk_3_55 D l) (zlkc (lk_3_56 D l) (zlkc (lk_3_57 D l) (zlkc (lk_3_58 D l) (zlkc (lk_3_59 D l) (zlkc (lk_3_60 D l) (zlkc (lk_3_61 D l) (zlkc (lk_3_62 D l) (zlkc (lk_3_63 D l) (zlkc (lk_3_64 D l) (zlkc (lk_3_65 D l) (zlkc (lk_3_66 D l) (zlkc (lk_3_67 D l) (zlkc (lk_3_68 D l) (zlkc (lk_3_69 D l) (zlkc (lk_3_70 D l) (zlkc (lk_3_71 D l) (zlkc (lk_3_72 D l) (zlkc (lk_3_73 D l) (zlkc (lk_3_74 D l) (zlkc (lk_3_75 D l) (zlkc (lk_3_76 D l) (zlkc (lk_3_77 D l) (zlkc (lk_3_78 D l) (zlkc (lk_3_79 D l) (zlkc (lk_3_80 D l) (zlkc (lk_3_81 D l) (zlkc (lk_3_82 D l) (zlkc (lk_3_83 D l) (zlkc (lk_3_84 D l) (zlkc (lk_3_85 D l) (zlkc (lk_3_86 D l) (zlkc (lk_3_87 D l) (zlkc (lk_3_88 D l) (zlkc (lk_3_89 D l) (zlkc (lk_3_90 D l) (zlkc (lk_3_91 D l) (zlkn))))))))))))))))))))))))))))))))))))))))))))))))))))))))))))))))))))))))))))))))))))))))))))
set_option maxRecDepth 20000 in
theorem lk_4_0 (D : va_G) (l : Launch) : zLk D l "FlagLayers$Plan" (.invokespecial 3, 0, 1, 0) := fun p e R s m args below meth c mi d pc ad0 hown hcx hbx hini hts hK hdec => by
  show zOkObj s args (zown mi) (.invokespecial 3)
  rw [hown]
  exact ⟨hts _ zw_443, hts _ zw_137, hts _ (zT_mem (zt_1 44 rfl) rfl)⟩
set_option maxRecDepth 20000 in
theorem lk_4_1 (D : va_G) (l : Launch) : zLk D l "FlagLayers$Plan" (.new 9, 14, 3, 0) := fun p e R s m args below meth c mi d pc ad0 hown hcx hbx hini hts hK hdec => by
  show zOkNew D zclL s args (zown mi) 9 14 3 (zdf 14)
  rw [hown]
  exact zk_new hts rfl (zuk_14 hK) zin_14 (fun k => zty 14 k) ztk_14 zw_444 zw_445 zw_176 rfl zdk_14
set_option maxRecDepth 20000 in
theorem lk_4_2 (D : va_G) (l : Launch) : zLk D l "FlagLayers$Plan" (.invokespecial 11, 6, 2, 2) := fun p e R s m args below meth c mi d pc ad0 hown hcx hbx hini hts hK hdec => zk_I hcx hts zcm_6 zct_6 hdec (by rw [hown]; exact zw_446) zw_447 zw_176 rfl zpd_6 rfl
set_option maxRecDepth 20000 in
theorem lk_4_3 (D : va_G) (l : Launch) : zLk D l "FlagLayers$Plan" (.putfield 12, 4, 0, 0) := fun p e R s m args below meth c mi d pc ad0 hown hcx hbx hini hts hK hdec => by
  show zOkPut D s args m.cls meth.name (zown mi) 12 4 0 (zty 4 0)
  have hc := hcx.2.2.2.2.2.1
  rw [hown] at hc ⊢
  exact zk_putF hts (zuk_4 hK) zin_4 (by decide) zw_448 rfl hc (hbx.2.trans (hini rfl)) rfl (by decide +kernel)
set_option maxRecDepth 20000 in
theorem lk_4_4 (D : va_G) (l : Launch) : zLk D l "FlagLayers$Plan" (.putfield 18, 4, 1, 0) := fun p e R s m args below meth c mi d pc ad0 hown hcx hbx hini hts hK hdec => by
  show zOkPut D s args m.cls meth.name (zown mi) 18 4 1 (zty 4 1)
  have hc := hcx.2.2.2.2.2.1
  rw [hown] at hc ⊢
  exact zk_putF hts (zuk_4 hK) zin_4 (by decide) zw_449 rfl hc (hbx.2.trans (hini rfl)) rfl (by decide +kernel)
set_option maxRecDepth 20000 in
theorem lk_4_5 (D : va_G) (l : Launch) : zLk D l "FlagLayers$Plan" (.putfield 21, 4, 2, 0) := fun p e R s m args below meth c mi d pc ad0 hown hcx hbx hini hts hK hdec => by
  show zOkPut D s args m.cls meth.name (zown mi) 21 4 2 (zty 4 2)
  have hc := hcx.2.2.2.2.2.1
  rw [hown] at hc ⊢
  exact zk_putF hts (zuk_4 hK) zin_4 (by decide) zw_450 rfl hc (hbx.2.trans (hini rfl)) rfl (by decide +kernel)
set_option maxRecDepth 20000 in
theorem lk_4_6 (D : va_G) (l : Launch) : zLk D l "FlagLayers$Plan" (.putfield 24, 4, 3, 0) := fun p e R s m args below meth c mi d pc ad0 hown hcx hbx hini hts hK hdec => by
  show zOkPut D s args m.cls meth.name (zown mi) 24 4 3 (zty 4 3)
  have hc := hcx.2.2.2.2.2.1
  rw [hown] at hc ⊢
  exact zk_putF hts (zuk_4 hK) zin_4 (by decide) zw_451 rfl hc (hbx.2.trans (hini rfl)) rfl (by decide +kernel)
set_option maxRecDepth 20000 in
theorem lk_4_7 (D : va_G) (l : Launch) : zLk D l "FlagLayers$Plan" (.putfield 27, 4, 4, 0) := fun p e R s m args below meth c mi d pc ad0 hown hcx hbx hini hts hK hdec => by
  show zOkPut D s args m.cls meth.name (zown mi) 27 4 4 (zty 4 4)
  have hc := hcx.2.2.2.2.2.1
  rw [hown] at hc ⊢
  exact zk_putF hts (zuk_4 hK) zin_4 (by decide) zw_452 rfl hc (hbx.2.trans (hini rfl)) rfl (by decide +kernel)
set_option maxRecDepth 20000 in
theorem lk_4_8 (D : va_G) (l : Launch) : zLk D l "FlagLayers$Plan" (.putfield 30, 4, 5, 0) := fun p e R s m args below meth c mi d pc ad0 hown hcx hbx hini hts hK hdec => by
  show zOkPut D s args m.cls meth.name (zown mi) 30 4 5 (zty 4 5)
  have hc := hcx.2.2.2.2.2.1
  rw [hown] at hc ⊢
  exact zk_putF hts (zuk_4 hK) zin_4 (by decide) zw_453 rfl hc (hbx.2.trans (hini rfl)) rfl (by decide +kernel)
set_option maxRecDepth 20000 in
theorem lk_4_9 (D : va_G) (l : Launch) : zLk D l "FlagLayers$Plan" (.putfield 33, 4, 6, 0) := fun p e R s m args below meth c mi d pc ad0 hown hcx hbx hini hts hK hdec => by
  show zOkPut D s args m.cls meth.name (zown mi) 33 4 6 (zty 4 6)
  have hc := hcx.2.2.2.2.2.1
  rw [hown] at hc ⊢
  exact zk_putF hts (zuk_4 hK) zin_4 (by decide) zw_454 rfl hc (hbx.2.trans (hini rfl)) rfl (by decide +kernel)
set_option maxRecDepth 20000 in
theorem lk_4_10 (D : va_G) (l : Launch) : zLk D l "FlagLayers$Plan" (.putfield 36, 4, 7, 0) := fun p e R s m args below meth c mi d pc ad0 hown hcx hbx hini hts hK hdec => by
  show zOkPut D s args m.cls meth.name (zown mi) 36 4 7 (zty 4 7)
  have hc := hcx.2.2.2.2.2.1
  rw [hown] at hc ⊢
  exact zk_putF hts (zuk_4 hK) zin_4 (by decide) zw_455 rfl hc (hbx.2.trans (hini rfl)) rfl (by decide +kernel)
set_option maxRecDepth 20000 in
theorem lk_4_11 (D : va_G) (l : Launch) : zLk D l "FlagLayers$Plan" (.putfield 39, 4, 8, 0) := fun p e R s m args below meth c mi d pc ad0 hown hcx hbx hini hts hK hdec => by
  show zOkPut D s args m.cls meth.name (zown mi) 39 4 8 (zty 4 8)
  rw [hown]
  exact zk_put hts (zuk_4 hK) zin_4 (by decide) (zFl_p hts zw_456) (Or.inl rfl) rfl (by decide +kernel)
set_option maxRecDepth 20000 in
theorem lk_4_12 (D : va_G) (l : Launch) : zLk D l "FlagLayers$Plan" (.putfield 43, 4, 9, 0) := fun p e R s m args below meth c mi d pc ad0 hown hcx hbx hini hts hK hdec => by
  show zOkPut D s args m.cls meth.name (zown mi) 43 4 9 (zty 4 9)
  rw [hown]
  exact zk_put hts (zuk_4 hK) zin_4 (by decide) (zFl_p hts zw_457) (Or.inl rfl) rfl (by decide +kernel)
set_option maxRecDepth 20000 in
theorem lk_4_13 (D : va_G) (l : Launch) : zLk D l "FlagLayers$Plan" (.putfield 46, 4, 10, 0) := fun p e R s m args below meth c mi d pc ad0 hown hcx hbx hini hts hK hdec => by
  show zOkPut D s args m.cls meth.name (zown mi) 46 4 10 (zty 4 10)
  have hc := hcx.2.2.2.2.2.1
  rw [hown] at hc ⊢
  exact zk_putF hts (zuk_4 hK) zin_4 (by decide) zw_458 rfl hc (hbx.2.trans (hini rfl)) rfl (by decide +kernel)
set_option maxRecDepth 20000 in
theorem lk_4_14 (D : va_G) (l : Launch) : zLk D l "FlagLayers$Plan" (.putfield 50, 4, 11, 0) := fun p e R s m args below meth c mi d pc ad0 hown hcx hbx hini hts hK hdec => by
  show zOkPut D s args m.cls meth.name (zown mi) 50 4 11 (zty 4 11)
  have hc := hcx.2.2.2.2.2.1
  rw [hown] at hc ⊢
  exact zk_putF hts (zuk_4 hK) zin_4 (by decide) zw_459 rfl hc (hbx.2.trans (hini rfl)) rfl (by decide +kernel)
set_option maxRecDepth 20000 in
theorem lk_4_15 (D : va_G) (l : Launch) : zLk D l "FlagLayers$Plan" (.invokevirtual 63, 115, 0, 7) := fun p e R s m args below meth c mi d pc ad0 hown hcx hbx hini hts hK hdec => zk_V (n := 4) hcx hts (zuk_4 hK).2.1 zcm_115 zct_115 hdec (by rw [hown]; exact zw_460) zw_342 zw_341 zw_151 rfl zpd_115 rfl
set_option maxRecDepth 20000 in
theorem lk_4_16 (D : va_G) (l : Launch) : zLk D l "FlagLayers$Plan" (.getfield 46, 4, 10, 0) := fun p e R s m args below meth c mi d pc ad0 hown hcx hbx hini hts hK hdec => by
  show zOkGet D s args (zown mi) 46 4 10
  rw [hown]
  exact zk_get hts (zuk_4 hK) zin_4 (by decide) (zFl_p hts zw_458) (Or.inl rfl)
set_option maxRecDepth 20000 in
theorem lk_4_17 (D : va_G) (l : Launch) : zLk D l "FlagLayers$Plan" (.getfield 27, 4, 4, 0) := fun p e R s m args below meth c mi d pc ad0 hown hcx hbx hini hts hK hdec => by
  show zOkGet D s args (zown mi) 27 4 4
  rw [hown]
  exact zk_get hts (zuk_4 hK) zin_4 (by decide) (zFl_p hts zw_452) (Or.inl rfl)
set_option maxRecDepth 20000 in
theorem lk_4_18 (D : va_G) (l : Launch) : zLk D l "FlagLayers$Plan" (.invokevirtual 66, 74, 0, 17) := fun p e R s m args below meth c mi d pc ad0 hown hcx hbx hini hts hK hdec => zk_V (n := 14) hcx hts (zuk_14 hK).2.1 zcm_74 zct_74 hdec (by rw [hown]; exact zw_461) zw_179 zw_178 zw_176 rfl zpd_74 rfl
set_option maxRecDepth 20000 in
theorem lk_4_19 (D : va_G) (l : Launch) : zLk D l "FlagLayers$Plan" (.checkcast 70, 0, 0, 0) := fun p e R s m args below meth c mi d pc ad0 hown hcx hbx hini hts hK hdec => by
  show (Cond.classLink (zown mi) 70 (zcnm 0)).before args s = true ∧ (0 = 0 ∨ zcnm 0 = "[" ++ (FieldType.object (zcnm 0)).toString)
  rw [hown]
  exact ⟨hts _ zw_462, Or.inl rfl⟩
set_option maxRecDepth 20000 in
theorem lk_4_20 (D : va_G) (l : Launch) : zLk D l "FlagLayers$Plan" (.invokevirtual 72, 116, 0, 3) := fun p e R s m args below meth c mi d pc ad0 hown hcx hbx hini hts hK hdec => zk_V (n := 0) hcx hts (zuk_0 hK).2.1 zcm_116 zct_116 hdec (by rw [hown]; exact zw_463) zw_465 zw_464 zw_235 rfl zpd_116 rfl
set_option maxRecDepth 20000 in
theorem lk_4_21 (D : va_G) (l : Launch) : zLk D l "FlagLayers$Plan" (.invokevirtual 53, 68, 0, 17) := fun p e R s m args below meth c mi d pc ad0 hown hcx hbx hini hts hK hdec => zk_V (n := 14) hcx hts (zuk_14 hK).2.1 zcm_68 zct_68 hdec (by rw [hown]; exact zw_466) zw_175 zw_174 zw_176 rfl zpd_68 rfl
set_option maxRecDepth 20000 in
theorem lk_4_22 (D : va_G) (l : Launch) : zLk D l "FlagLayers$Plan" (.invokestatic 57, 43, 0, 0) := fun p e R s m args below meth c mi d pc ad0 hown hcx hbx hini hts hK hdec => zk_S hcx hts zcm_43 zct_43 hdec (by rw [hown]; exact zw_467) zw_468 zw_299 zpd_43 rfl
set_option maxRecDepth 20000 in
theorem lk_4_23 (D : va_G) (l : Launch) : zLk D l "FlagLayers$Plan" (.invokevirtual 75, 119, 0, 7) := fun p e R s m args below meth c mi d pc ad0 hown hcx hbx hini hts hK hdec => zk_V (n := 4) hcx hts (zuk_4 hK).2.1 zcm_119 zct_119 hdec (by rw [hown]; exact zw_469) zw_470 zs_18 zw_151 rfl zpd_119 rfl
set_option maxRecDepth 20000 in
theorem lk_4_24 (D : va_G) (l : Launch) : zLk D l "FlagLayers$Plan" (.getfield 50, 4, 11, 0) := fun p e R s m args below meth c mi d pc ad0 hown hcx hbx hini hts hK hdec => by
  show zOkGet D s args (zown mi) 50 4 11
  rw [hown]
  exact zk_get hts (zuk_4 hK) zin_4 (by decide) (zFl_p hts zw_459) (Or.inl rfl)
set_option maxRecDepth 20000 in
theorem lk_4_25 (D : va_G) (l : Launch) : zLk D l "FlagLayers$Plan" (.getfield 12, 4, 0, 0) := fun p e R s m args below meth c mi d pc ad0 hown hcx hbx hini hts hK hdec => by
  show zOkGet D s args (zown mi) 12 4 0
  rw [hown]
  exact zk_get hts (zuk_4 hK) zin_4 (by decide) (zFl_p hts zw_448) (Or.inl rfl)
set_option maxRecDepth 20000 in
theorem lk_4_26 (D : va_G) (l : Launch) : zLk D l "FlagLayers$Plan" (.getfield 18, 4, 1, 0) := fun p e R s m args below meth c mi d pc ad0 hown hcx hbx hini hts hK hdec => by
  show zOkGet D s args (zown mi) 18 4 1
  rw [hown]
  exact zk_get hts (zuk_4 hK) zin_4 (by decide) (zFl_p hts zw_449) (Or.inl rfl)
set_option maxRecDepth 20000 in
theorem lk_4_27 (D : va_G) (l : Launch) : zLk D l "FlagLayers$Plan" (.getfield 21, 4, 2, 0) := fun p e R s m args below meth c mi d pc ad0 hown hcx hbx hini hts hK hdec => by
  show zOkGet D s args (zown mi) 21 4 2
  rw [hown]
  exact zk_get hts (zuk_4 hK) zin_4 (by decide) (zFl_p hts zw_450) (Or.inl rfl)
def zlk_4 : List zRow := [(.invokespecial 3, 0, 1, 0), (.new 9, 14, 3, 0), (.invokespecial 11, 6, 2, 2), (.putfield 12, 4, 0, 0), (.putfield 18, 4, 1, 0), (.putfield 21, 4, 2, 0), (.putfield 24, 4, 3, 0), (.putfield 27, 4, 4, 0), (.putfield 30, 4, 5, 0), (.putfield 33, 4, 6, 0), (.putfield 36, 4, 7, 0), (.putfield 39, 4, 8, 0), (.putfield 43, 4, 9, 0), (.putfield 46, 4, 10, 0), (.putfield 50, 4, 11, 0), (.invokevirtual 63, 115, 0, 7), (.getfield 46, 4, 10, 0), (.getfield 27, 4, 4, 0), (.invokevirtual 66, 74, 0, 17), (.checkcast 70, 0, 0, 0), (.invokevirtual 72, 116, 0, 3), (.invokevirtual 53, 68, 0, 17), (.invokestatic 57, 43, 0, 0), (.invokevirtual 75, 119, 0, 7), (.getfield 50, 4, 11, 0), (.getfield 12, 4, 0, 0), (.getfield 18, 4, 1, 0), (.getfield 21, 4, 2, 0)]
set_option maxRecDepth 20000 in
theorem zlkA_4 (D : va_G) (l : Launch) : ∀ t ∈ zlk_4, zLk D l "FlagLayers$Plan" t := zlkc (lk_4_0 D l) (zlkc (lk_4_1 D l) (zlkc (lk_4_2 D l) (zlkc (lk_4_3 D l) (zlkc (lk_4_4 D l) (zlkc (lk_4_5 D l) (zlkc (lk_4_6 D l) (zlkc (lk_4_7 D l) (zlkc (lk_4_8 D l) (zlkc (lk_4_9 D l) (zlkc (lk_4_10 D l) (zlkc (lk_4_11 D l) (zlkc (lk_4_12 D l) (zlkc (lk_4_13 D l) (zlkc (lk_4_14 D l) (zlkc (lk_4_15 D l) (zlkc (lk_4_16 D l) (zlkc (lk_4_17 D l) (zlkc (lk_4_18 D l) (zlkc (lk_4_19 D l) (zlkc (lk_4_20 D l) (zlkc (lk_4_21 D l) (zlkc (lk_4_22 D l) (zlkc (lk_4_23 D l) (zlkc (lk_4_24 D l) (zlkc (lk_4_25 D l) (zlkc (lk_4_26 D l) (zlkc (lk_4_27 D l) (zlkn))))))))))))))))))))))))))))
set_option maxRecDepth 20000 in
theorem lk_5_0 (D : va_G) (l : Launch) : zLk D l "java/util/ArrayList" (.invokespecial 1, 7, 2, 2) := fun p e R s m args below meth c mi d pc ad0 hown hcx hbx hini hts hK hdec => zk_I hcx hts zcm_7 zct_7 hdec (by rw [hown]; exact zw_471) zw_472 zw_473 rfl zpd_7 rfl
set_option maxRecDepth 20000 in
theorem lk_5_1 (D : va_G) (l : Launch) : zLk D l "java/util/ArrayList" (.getstatic 39, 0, 0, 0) := fun p e R s m args below meth c mi d pc ad0 hown hcx hbx hini hts hK hdec => by
  intro v hv
  obtain rfl : (.ref 48 : Value) = v := Option.some.inj hv
  exact zk_st hcx hts (hK.2.1 0 _ rfl) (by rw [hown]; exact zw_474) rfl hdec
set_option maxRecDepth 20000 in
theorem lk_5_2 (D : va_G) (l : Launch) : zLk D l "java/util/ArrayList" (.putfield 9, 14, 1, 0) := fun p e R s m args below meth c mi d pc ad0 hown hcx hbx hini hts hK hdec => by
  show zOkPut D s args m.cls meth.name (zown mi) 9 14 1 (zty 14 1)
  rw [hown]
  exact zk_put hts (zuk_14 hK) zin_14 (by decide) (zFl_p hts zw_475) (Or.inl rfl) rfl (by decide +kernel)
set_option maxRecDepth 20000 in
theorem lk_5_3 (D : va_G) (l : Launch) : zLk D l "java/util/ArrayList" (.getfield 48, 14, 2, 0) := fun p e R s m args below meth c mi d pc ad0 hown hcx hbx hini hts hK hdec => by
  show zOkGet D s args (zown mi) 48 14 2
  rw [hown]
  exact zk_get hts (zuk_14 hK) zin_14 (by decide) (zFl_p hts zw_476) (Or.inl rfl)
set_option maxRecDepth 20000 in
theorem lk_5_4 (D : va_G) (l : Launch) : zLk D l "java/util/ArrayList" (.invokestatic 118, 75, 0, 0) := fun p e R s m args below meth c mi d pc ad0 hown hcx hbx hini hts hK hdec => zk_S hcx hts zcm_75 zct_75 hdec (by rw [hown]; exact zw_477) zw_478 zw_479 zpd_75 rfl
set_option maxRecDepth 20000 in
theorem lk_5_5 (D : va_G) (l : Launch) : zLk D l "java/util/ArrayList" (.invokevirtual 123, 76, 0, 17) := fun p e R s m args below meth c mi d pc ad0 hown hcx hbx hini hts hK hdec => zk_V (n := 14) hcx hts (zuk_14 hK).2.1 zcm_76 zct_76 hdec (by rw [hown]; exact zw_480) zw_482 zw_481 zw_176 rfl zpd_76 rfl
set_option maxRecDepth 20000 in
theorem lk_5_6 (D : va_G) (l : Launch) : zLk D l "java/util/ArrayList" (.getfield 9, 14, 1, 0) := fun p e R s m args below meth c mi d pc ad0 hown hcx hbx hini hts hK hdec => by
  show zOkGet D s args (zown mi) 9 14 1
  rw [hown]
  exact zk_get hts (zuk_14 hK) zin_14 (by decide) (zFl_p hts zw_475) (Or.inl rfl)
set_option maxRecDepth 20000 in
theorem lk_5_7 (D : va_G) (l : Launch) : zLk D l "java/util/ArrayList" (.getfield 63, 14, 0, 0) := fun p e R s m args below meth c mi d pc ad0 hown hcx hbx hini hts hK hdec => by
  show zOkGet D s args (zown mi) 63 14 0
  rw [hown]
  exact zk_get hts (zuk_14 hK) zin_14 (by decide) (zFl_p hts zw_483) (Or.inr zw_484)
set_option maxRecDepth 20000 in
theorem lk_5_8 (D : va_G) (l : Launch) : zLk D l "java/util/ArrayList" (.putfield 63, 14, 0, 0) := fun p e R s m args below meth c mi d pc ad0 hown hcx hbx hini hts hK hdec => by
  show zOkPut D s args m.cls meth.name (zown mi) 63 14 0 (zty 14 0)
  rw [hown]
  exact zk_put hts (zuk_14 hK) zin_14 (by decide) (zFl_p hts zw_483) (Or.inr zw_484) rfl (by decide +kernel)
set_option maxRecDepth 20000 in
theorem lk_5_9 (D : va_G) (l : Launch) : zLk D l "java/util/ArrayList" (.invokevirtual 131, 87, 0, 17) := fun p e R s m args below meth c mi d pc ad0 hown hcx hbx hini hts hK hdec => zk_V (n := 14) hcx hts (zuk_14 hK).2.1 zcm_87 zct_87 hdec (by rw [hown]; exact zw_485) zw_486 zs_19 zw_176 rfl zpd_87 rfl
set_option maxRecDepth 20000 in
theorem lk_5_10 (D : va_G) (l : Launch) : zLk D l "java/util/ArrayList" (.invokevirtual 129, 88, 0, 17) := fun p e R s m args below meth c mi d pc ad0 hown hcx hbx hini hts hK hdec => zk_V (n := 14) hcx hts (zuk_14 hK).2.1 zcm_88 zct_88 hdec (by rw [hown]; exact zw_487) zw_488 zs_20 zw_176 rfl zpd_88 rfl
set_option maxRecDepth 20000 in
theorem lk_5_11 (D : va_G) (l : Launch) : zLk D l "java/util/ArrayList" (.putfield 48, 14, 2, 0) := fun p e R s m args below meth c mi d pc ad0 hown hcx hbx hini hts hK hdec => by
  show zOkPut D s args m.cls meth.name (zown mi) 48 14 2 (zty 14 2)
  rw [hown]
  exact zk_put hts (zuk_14 hK) zin_14 (by decide) (zFl_p hts zw_476) (Or.inl rfl) rfl (by decide +kernel)
set_option maxRecDepth 20000 in
theorem lk_5_12 (D : va_G) (l : Launch) : zLk D l "java/util/ArrayList" (.invokevirtual 69, 89, 0, 17) := fun p e R s m args below meth c mi d pc ad0 hown hcx hbx hini hts hK hdec => zk_V (n := 14) hcx hts (zuk_14 hK).2.1 zcm_89 zct_89 hdec (by rw [hown]; exact zw_489) zw_490 zs_21 zw_176 rfl zpd_89 rfl
set_option maxRecDepth 20000 in
theorem lk_5_13 (D : va_G) (l : Launch) : zLk D l "java/util/ArrayList" (.invokestatic 73, 41, 0, 0) := fun p e R s m args below meth c mi d pc ad0 hown hcx hbx hini hts hK hdec => zk_S hcx hts zcm_41 zct_41 hdec (by rw [hown]; exact zw_491) zw_492 zw_493 zpd_41 rfl
set_option maxRecDepth 20000 in
theorem lk_5_14 (D : va_G) (l : Launch) : zLk D l "java/util/ArrayList" (.invokestatic 79, 22, 0, 0) := fun p e R s m args below meth c mi d pc ad0 hown hcx hbx hini hts hK hdec => zk_S hcx hts zcm_22 zct_22 hdec (by rw [hown]; exact zw_494) zw_298 zw_299 zpd_22 rfl
set_option maxRecDepth 20000 in
theorem lk_5_15 (D : va_G) (l : Launch) : zLk D l "java/util/ArrayList" (.anewarray 7, 16, 0, 0) := fun p e R s m args below meth c mi d pc ad0 hown hcx hbx hini hts hK hdec => by
  show (Cond.classLink (zown mi) 7 (zcnm 16)).before args s = true ∧ (Cond.arrayOver (.object (zcnm 16))).before args s = true
  rw [hown]
  exact ⟨hts _ zw_495, va_AO.use (hK.2.2.2.2.2.2.2.2 _ (by decide +kernel))⟩
def zlk_5 : List zRow := [(.invokespecial 1, 7, 2, 2), (.getstatic 39, 0, 0, 0), (.putfield 9, 14, 1, 0), (.getfield 48, 14, 2, 0), (.invokestatic 118, 75, 0, 0), (.invokevirtual 123, 76, 0, 17), (.getfield 9, 14, 1, 0), (.getfield 63, 14, 0, 0), (.putfield 63, 14, 0, 0), (.invokevirtual 131, 87, 0, 17), (.invokevirtual 129, 88, 0, 17), (.putfield 48, 14, 2, 0), (.invokevirtual 69, 89, 0, 17), (.invokestatic 73, 41, 0, 0), (.invokestatic 79, 22, 0, 0), (.anewarray 7, 16, 0, 0)]
set_option maxRecDepth 20000 in
theorem zlkA_5 (D : va_G) (l : Launch) : ∀ t ∈ zlk_5, zLk D l "java/util/ArrayList" t := zlkc (lk_5_0 D l) (zlkc (lk_5_1 D l) (zlkc (lk_5_2 D l) (zlkc (lk_5_3 D l) (zlkc (lk_5_4 D l) (zlkc (lk_5_5 D l) (zlkc (lk_5_6 D l) (zlkc (lk_5_7 D l) (zlkc (lk_5_8 D l) (zlkc (lk_5_9 D l) (zlkc (lk_5_10 D l) (zlkc (lk_5_11 D l) (zlkc (lk_5_12 D l) (zlkc (lk_5_13 D l) (zlkc (lk_5_14 D l) (zlkc (lk_5_15 D l) (zlkn))))))))))))))))
set_option maxRecDepth 20000 in
theorem lk_6_0 (D : va_G) (l : Launch) : zLk D l "java/util/AbstractList" (.invokespecial 1, 8, 2, 2) := fun p e R s m args below meth c mi d pc ad0 hown hcx hbx hini hts hK hdec => zk_I hcx hts zcm_8 zct_8 hdec (by rw [hown]; exact zw_496) zw_497 zw_498 rfl zpd_8 rfl
set_option maxRecDepth 20000 in
theorem lk_6_1 (D : va_G) (l : Launch) : zLk D l "java/util/AbstractList" (.putfield 7, 14, 0, 0) := fun p e R s m args below meth c mi d pc ad0 hown hcx hbx hini hts hK hdec => by
  show zOkPut D s args m.cls meth.name (zown mi) 7 14 0 (zty 14 0)
  rw [hown]
  exact zk_put hts (zuk_14 hK) zin_14 (by decide) (zFl_p hts zw_499) (Or.inl rfl) rfl (by decide +kernel)
def zlk_6 : List zRow := [(.invokespecial 1, 8, 2, 2), (.putfield 7, 14, 0, 0)]
set_option maxRecDepth 20000 in
theorem zlkA_6 (D : va_G) (l : Launch) : ∀ t ∈ zlk_6, zLk D l "java/util/AbstractList" t := zlkc (lk_6_0 D l) (zlkc (lk_6_1 D l) (zlkn))
set_option maxRecDepth 20000 in
theorem lk_7_0 (D : va_G) (l : Launch) : zLk D l "java/util/AbstractCollection" (.invokespecial 1, 0, 1, 0) := fun p e R s m args below meth c mi d pc ad0 hown hcx hbx hini hts hK hdec => by
  show zOkObj s args (zown mi) (.invokespecial 1)
  rw [hown]
  exact ⟨hts _ zw_500, hts _ zw_137, hts _ (zT_mem (zt_1 44 rfl) rfl)⟩
def zlk_7 : List zRow := [(.invokespecial 1, 0, 1, 0)]
set_option maxRecDepth 20000 in
theorem zlkA_7 (D : va_G) (l : Launch) : ∀ t ∈ zlk_7, zLk D l "java/util/AbstractCollection" t := zlkc (lk_7_0 D l) (zlkn)
set_option maxRecDepth 20000 in
theorem lk_8_0 (D : va_G) (l : Launch) : zLk D l "FlagLayers$Token" (.invokespecial 1, 0, 1, 0) := fun p e R s m args below meth c mi d pc ad0 hown hcx hbx hini hts hK hdec => by
  show zOkObj s args (zown mi) (.invokespecial 1)
  rw [hown]
  exact ⟨hts _ zw_501, hts _ zw_137, hts _ (zT_mem (zt_1 44 rfl) rfl)⟩
set_option maxRecDepth 20000 in
theorem lk_8_1 (D : va_G) (l : Launch) : zLk D l "FlagLayers$Token" (.putfield 7, 9, 5, 0) := fun p e R s m args below meth c mi d pc ad0 hown hcx hbx hini hts hK hdec => by
  show zOkPut D s args m.cls meth.name (zown mi) 7 9 5 (zty 9 5)
  rw [hown]
  exact zk_put hts (zuk_9 hK) zin_9 (by decide) (zFl_p hts zw_502) (Or.inl rfl) rfl (by decide +kernel)
set_option maxRecDepth 20000 in
theorem lk_8_2 (D : va_G) (l : Launch) : zLk D l "FlagLayers$Token" (.putfield 13, 9, 0, 0) := fun p e R s m args below meth c mi d pc ad0 hown hcx hbx hini hts hK hdec => by
  show zOkPut D s args m.cls meth.name (zown mi) 13 9 0 (zty 9 0)
  have hc := hcx.2.2.2.2.2.1
  rw [hown] at hc ⊢
  exact zk_putF hts (zuk_9 hK) zin_9 (by decide) zw_503 rfl hc (hbx.2.trans (hini rfl)) rfl (by decide +kernel)
set_option maxRecDepth 20000 in
theorem lk_8_3 (D : va_G) (l : Launch) : zLk D l "FlagLayers$Token" (.putfield 17, 9, 1, 0) := fun p e R s m args below meth c mi d pc ad0 hown hcx hbx hini hts hK hdec => by
  show zOkPut D s args m.cls meth.name (zown mi) 17 9 1 (zty 9 1)
  have hc := hcx.2.2.2.2.2.1
  rw [hown] at hc ⊢
  exact zk_putF hts (zuk_9 hK) zin_9 (by decide) zw_504 rfl hc (hbx.2.trans (hini rfl)) rfl (by decide +kernel)
set_option maxRecDepth 20000 in
theorem lk_8_4 (D : va_G) (l : Launch) : zLk D l "FlagLayers$Token" (.putfield 21, 9, 2, 0) := fun p e R s m args below meth c mi d pc ad0 hown hcx hbx hini hts hK hdec => by
  show zOkPut D s args m.cls meth.name (zown mi) 21 9 2 (zty 9 2)
  have hc := hcx.2.2.2.2.2.1
  rw [hown] at hc ⊢
  exact zk_putF hts (zuk_9 hK) zin_9 (by decide) zw_505 rfl hc (hbx.2.trans (hini rfl)) rfl (by decide +kernel)
set_option maxRecDepth 20000 in
theorem lk_8_5 (D : va_G) (l : Launch) : zLk D l "FlagLayers$Token" (.putfield 24, 9, 3, 0) := fun p e R s m args below meth c mi d pc ad0 hown hcx hbx hini hts hK hdec => by
  show zOkPut D s args m.cls meth.name (zown mi) 24 9 3 (zty 9 3)
  have hc := hcx.2.2.2.2.2.1
  rw [hown] at hc ⊢
  exact zk_putF hts (zuk_9 hK) zin_9 (by decide) zw_506 rfl hc (hbx.2.trans (hini rfl)) rfl (by decide +kernel)
set_option maxRecDepth 20000 in
theorem lk_8_6 (D : va_G) (l : Launch) : zLk D l "FlagLayers$Token" (.putfield 28, 9, 4, 0) := fun p e R s m args below meth c mi d pc ad0 hown hcx hbx hini hts hK hdec => by
  show zOkPut D s args m.cls meth.name (zown mi) 28 9 4 (zty 9 4)
  have hc := hcx.2.2.2.2.2.1
  rw [hown] at hc ⊢
  exact zk_putF hts (zuk_9 hK) zin_9 (by decide) zw_507 rfl hc (hbx.2.trans (hini rfl)) rfl (by decide +kernel)
set_option maxRecDepth 20000 in
theorem lk_8_7 (D : va_G) (l : Launch) : zLk D l "FlagLayers$Token" (.getfield 13, 9, 0, 0) := fun p e R s m args below meth c mi d pc ad0 hown hcx hbx hini hts hK hdec => by
  show zOkGet D s args (zown mi) 13 9 0
  rw [hown]
  exact zk_get hts (zuk_9 hK) zin_9 (by decide) (zFl_p hts zw_503) (Or.inl rfl)
set_option maxRecDepth 20000 in
theorem lk_8_8 (D : va_G) (l : Launch) : zLk D l "FlagLayers$Token" (.getfield 24, 9, 3, 0) := fun p e R s m args below meth c mi d pc ad0 hown hcx hbx hini hts hK hdec => by
  show zOkGet D s args (zown mi) 24 9 3
  rw [hown]
  exact zk_get hts (zuk_9 hK) zin_9 (by decide) (zFl_p hts zw_506) (Or.inl rfl)
set_option maxRecDepth 20000 in
theorem lk_8_9 (D : va_G) (l : Launch) : zLk D l "FlagLayers$Token" (.invokevirtual 31, 29, 0, 15) := fun p e R s m args below meth c mi d pc ad0 hown hcx hbx hini hts hK hdec => zk_V (n := 12) hcx hts (zuk_12 hK).2.1 zcm_29 zct_29 hdec (by rw [hown]; exact zw_508) zw_184 zw_183 zw_185 rfl zpd_29 rfl
def zlk_8 : List zRow := [(.invokespecial 1, 0, 1, 0), (.putfield 7, 9, 5, 0), (.putfield 13, 9, 0, 0), (.putfield 17, 9, 1, 0), (.putfield 21, 9, 2, 0), (.putfield 24, 9, 3, 0), (.putfield 28, 9, 4, 0), (.getfield 13, 9, 0, 0), (.getfield 24, 9, 3, 0), (.invokevirtual 31, 29, 0, 15)]
set_option maxRecDepth 20000 in
theorem zlkA_8 (D : va_G) (l : Launch) : ∀ t ∈ zlk_8, zLk D l "FlagLayers$Token" t := zlkc (lk_8_0 D l) (zlkc (lk_8_1 D l) (zlkc (lk_8_2 D l) (zlkc (lk_8_3 D l) (zlkc (lk_8_4 D l) (zlkc (lk_8_5 D l) (zlkc (lk_8_6 D l) (zlkc (lk_8_7 D l) (zlkc (lk_8_8 D l) (zlkc (lk_8_9 D l) (zlkn))))))))))
set_option maxRecDepth 20000 in
theorem lk_9_0 (D : va_G) (l : Launch) : zLk D l "java/lang/String" (.invokespecial 27, 24, 2, 2) := fun p e R s m args below meth c mi d pc ad0 hown hcx hbx hini hts hK hdec => zk_I hcx hts zcm_24 zct_24 hdec (by rw [hown]; exact zw_509) zw_510 zw_185 rfl zpd_24 rfl
set_option maxRecDepth 20000 in
theorem lk_9_1 (D : va_G) (l : Launch) : zLk D l "java/lang/String" (.invokespecial 1, 0, 1, 0) := fun p e R s m args below meth c mi d pc ad0 hown hcx hbx hini hts hK hdec => by
  show zOkObj s args (zown mi) (.invokespecial 1)
  rw [hown]
  exact ⟨hts _ zw_511, hts _ zw_137, hts _ (zT_mem (zt_1 44 rfl) rfl)⟩
set_option maxRecDepth 20000 in
theorem lk_9_2 (D : va_G) (l : Launch) : zLk D l "java/lang/String" (.ldc 7, 4, 0, 0) := fun p e R s m args below meth c mi d pc ad0 hown hcx hbx hini hts hK hdec => by
  intro v hv
  obtain rfl : (.ref 49 : Value) = v := Option.some.inj hv
  exact zk_str (tx := "") hcx (by rw [hown]; exact hK.2.2.1 1 _ rfl) hdec
set_option maxRecDepth 20000 in
theorem lk_9_3 (D : va_G) (l : Launch) : zLk D l "java/lang/String" (.getfield 9, 12, 0, 0) := fun p e R s m args below meth c mi d pc ad0 hown hcx hbx hini hts hK hdec => by
  show zOkGet D s args (zown mi) 9 12 0
  rw [hown]
  exact zk_get hts (zuk_12 hK) zin_12 (by decide) (zFl_p hts zw_512) (Or.inl rfl)
set_option maxRecDepth 20000 in
theorem lk_9_4 (D : va_G) (l : Launch) : zLk D l "java/lang/String" (.putfield 9, 12, 0, 0) := fun p e R s m args below meth c mi d pc ad0 hown hcx hbx hini hts hK hdec => by
  show zOkPut D s args m.cls meth.name (zown mi) 9 12 0 (zty 12 0)
  have hc := hcx.2.2.2.2.2.1
  rw [hown] at hc ⊢
  exact zk_putF hts (zuk_12 hK) zin_12 (by decide) zw_512 rfl hc (hbx.2.trans (hini rfl)) rfl (by decide +kernel)
set_option maxRecDepth 20000 in
theorem lk_9_5 (D : va_G) (l : Launch) : zLk D l "java/lang/String" (.getfield 15, 12, 1, 0) := fun p e R s m args below meth c mi d pc ad0 hown hcx hbx hini hts hK hdec => by
  show zOkGet D s args (zown mi) 15 12 1
  rw [hown]
  exact zk_get hts (zuk_12 hK) zin_12 (by decide) (zFl_p hts zw_513) (Or.inl rfl)
set_option maxRecDepth 20000 in
theorem lk_9_6 (D : va_G) (l : Launch) : zLk D l "java/lang/String" (.putfield 15, 12, 1, 0) := fun p e R s m args below meth c mi d pc ad0 hown hcx hbx hini hts hK hdec => by
  show zOkPut D s args m.cls meth.name (zown mi) 15 12 1 (zty 12 1)
  have hc := hcx.2.2.2.2.2.1
  rw [hown] at hc ⊢
  exact zk_putF hts (zuk_12 hK) zin_12 (by decide) zw_513 rfl hc (hbx.2.trans (hini rfl)) rfl (by decide +kernel)
set_option maxRecDepth 20000 in
theorem lk_9_7 (D : va_G) (l : Launch) : zLk D l "java/lang/String" (.getstatic 38, 5, 0, 0) := fun p e R s m args below meth c mi d pc ad0 hown hcx hbx hini hts hK hdec => by
  intro v hv
  obtain rfl : (.int 1 : Value) = v := Option.some.inj hv
  exact zk_st hcx hts (hK.2.1 3 _ rfl) (by rw [hown]; exact zw_514) rfl hdec
set_option maxRecDepth 20000 in
theorem lk_9_8 (D : va_G) (l : Launch) : zLk D l "java/lang/String" (.invokestatic 177, 25, 0, 0) := fun p e R s m args below meth c mi d pc ad0 hown hcx hbx hini hts hK hdec => zk_S hcx hts zcm_25 zct_25 hdec (by rw [hown]; exact zw_515) zw_516 zw_517 zpd_25 rfl
set_option maxRecDepth 20000 in
theorem lk_9_9 (D : va_G) (l : Launch) : zLk D l "java/lang/String" (.invokestatic 47, 27, 0, 0) := fun p e R s m args below meth c mi d pc ad0 hown hcx hbx hini hts hK hdec => zk_S hcx hts zcm_27 zct_27 hdec (by rw [hown]; exact zw_518) zw_519 zw_517 zpd_27 rfl
set_option maxRecDepth 20000 in
theorem lk_9_10 (D : va_G) (l : Launch) : zLk D l "java/lang/String" (.instanceof 10, 12, 0, 0) := fun p e R s m args below meth c mi d pc ad0 hown hcx hbx hini hts hK hdec => by
  show (Cond.classLink (zown mi) 10 (zcnm 12)).before args s = true
  rw [hown]
  exact hts _ zw_520
set_option maxRecDepth 20000 in
theorem lk_9_11 (D : va_G) (l : Launch) : zLk D l "java/lang/String" (.checkcast 10, 12, 0, 0) := fun p e R s m args below meth c mi d pc ad0 hown hcx hbx hini hts hK hdec => by
  show (Cond.classLink (zown mi) 10 (zcnm 12)).before args s = true ∧ (0 = 0 ∨ zcnm 12 = "[" ++ (FieldType.object (zcnm 0)).toString)
  rw [hown]
  exact ⟨hts _ zw_520, Or.inl rfl⟩
set_option maxRecDepth 20000 in
theorem lk_9_12 (D : va_G) (l : Launch) : zLk D l "java/lang/String" (.invokestatic 541, 30, 0, 0) := fun p e R s m args below meth c mi d pc ad0 hown hcx hbx hini hts hK hdec => zk_S hcx hts zcm_30 zct_30 hdec (by rw [hown]; exact zw_521) zw_522 zw_523 zpd_30 rfl
set_option maxRecDepth 20000 in
theorem lk_9_13 (D : va_G) (l : Launch) : zLk D l "java/lang/String" (.invokespecial 489, 48, 2, 2) := fun p e R s m args below meth c mi d pc ad0 hown hcx hbx hini hts hK hdec => zk_I hcx hts zcm_48 zct_48 hdec (by rw [hown]; exact zw_524) zw_525 zw_185 rfl zpd_48 rfl
set_option maxRecDepth 20000 in
theorem lk_9_14 (D : va_G) (l : Launch) : zLk D l "java/lang/String" (.invokevirtual 552, 49, 2, 16) := fun p e R s m args below meth c mi d pc ad0 hown hcx hbx hini hts hK hdec => zk_U (n := 13) (x := ⟨"java/lang/AbstractStringBuilder", "getValue", "()[B"⟩) hcx hts (zuk_13 hK).2.1 zcm_49 zct_49 hdec (by rw [hown]; exact zw_526) zw_528 zw_527 zw_529 zw_530 rfl zpd_49 rfl
set_option maxRecDepth 20000 in
theorem lk_9_15 (D : va_G) (l : Launch) : zLk D l "java/lang/String" (.invokevirtual 549, 50, 2, 16) := fun p e R s m args below meth c mi d pc ad0 hown hcx hbx hini hts hK hdec => zk_O (n := 13) (x := ⟨"java/lang/AbstractStringBuilder", "length", "()I"⟩) (owner := "java/lang/AbstractStringBuilder") hcx hts (zuk_13 hK).2.1 zcm_50 zct_50 hdec (by rw [hown]; exact zw_531) zw_533 zw_534 zw_532 zw_535 zw_309 (zT_mem (zt_3 39 rfl) rfl) (k := 0) (by decide +kernel) rfl
set_option maxRecDepth 20000 in
theorem lk_9_16 (D : va_G) (l : Launch) : zLk D l "java/lang/String" (.invokevirtual 1047, 44, 2, 16) := fun p e R s m args below meth c mi d pc ad0 hown hcx hbx hini hts hK hdec => zk_U (n := 13) (x := ⟨"java/lang/AbstractStringBuilder", "isLatin1", "()Z"⟩) hcx hts (zuk_13 hK).2.1 zcm_44 zct_44 hdec (by rw [hown]; exact zw_536) zw_538 zw_537 zw_539 zw_530 rfl zpd_44 rfl
set_option maxRecDepth 20000 in
theorem lk_9_17 (D : va_G) (l : Launch) : zLk D l "java/lang/String" (.invokestatic 54, 52, 0, 0) := fun p e R s m args below meth c mi d pc ad0 hown hcx hbx hini hts hK hdec => zk_S hcx hts zcm_52 zct_52 hdec (by rw [hown]; exact zw_540) zw_541 zw_333 zpd_52 rfl
set_option maxRecDepth 20000 in
theorem lk_9_18 (D : va_G) (l : Launch) : zLk D l "java/lang/String" (.getfield 1048, 13, 2, 0) := fun p e R s m args below meth c mi d pc ad0 hown hcx hbx hini hts hK hdec => by
  show zOkGet D s args (zown mi) 1048 13 2
  rw [hown]
  exact zk_get hts (zuk_13 hK) zin_13 (by decide) (zFl_p hts zw_542) (Or.inl rfl)
set_option maxRecDepth 20000 in
theorem lk_9_19 (D : va_G) (l : Launch) : zLk D l "java/lang/String" (.invokevirtual 335, 56, 0, 15) := fun p e R s m args below meth c mi d pc ad0 hown hcx hbx hini hts hK hdec => zk_V (n := 12) hcx hts (zuk_12 hK).2.1 zcm_56 zct_56 hdec (by rw [hown]; exact zw_543) zw_545 zw_544 zw_185 rfl zpd_56 rfl
set_option maxRecDepth 20000 in
theorem lk_9_20 (D : va_G) (l : Launch) : zLk D l "java/lang/String" (.invokevirtual 492, 60, 0, 15) := fun p e R s m args below meth c mi d pc ad0 hown hcx hbx hini hts hK hdec => zk_V (n := 12) hcx hts (zuk_12 hK).2.1 zcm_60 zct_60 hdec (by rw [hown]; exact zw_546) zw_548 zw_547 zw_185 rfl zpd_60 rfl
set_option maxRecDepth 20000 in
theorem lk_9_21 (D : va_G) (l : Launch) : zLk D l "java/lang/String" (.invokestatic 495, 61, 0, 0) := fun p e R s m args below meth c mi d pc ad0 hown hcx hbx hini hts hK hdec => zk_S hcx hts zcm_61 zct_61 hdec (by rw [hown]; exact zw_549) zw_550 zw_523 zpd_61 rfl
set_option maxRecDepth 20000 in
theorem lk_9_22 (D : va_G) (l : Launch) : zLk D l "java/lang/String" (.getstatic 1053, 16, 0, 0) := fun p e R s m args below meth c mi d pc ad0 hown hcx hbx hini hts hK hdec => by
  intro v hv
  obtain rfl : (.retAddr 0 : Value) = v := Option.some.inj hv
  exact zk_st hcx hts (hK.2.1 11 _ rfl) (by rw [hown]; exact zw_551) rfl hdec
set_option maxRecDepth 20000 in
theorem lk_9_23 (D : va_G) (l : Launch) : zLk D l "java/lang/String" (.invokestatic 1059, 63, 0, 0) := fun p e R s m args below meth c mi d pc ad0 hown hcx hbx hini hts hK hdec => zk_S hcx hts zcm_63 zct_63 hdec (by rw [hown]; exact zw_552) zw_553 zw_554 zpd_63 rfl
def zlk_9 : List zRow := [(.invokespecial 27, 24, 2, 2), (.invokespecial 1, 0, 1, 0), (.ldc 7, 4, 0, 0), (.getfield 9, 12, 0, 0), (.putfield 9, 12, 0, 0), (.getfield 15, 12, 1, 0), (.putfield 15, 12, 1, 0), (.getstatic 38, 5, 0, 0), (.invokestatic 177, 25, 0, 0), (.invokestatic 47, 27, 0, 0), (.instanceof 10, 12, 0, 0), (.checkcast 10, 12, 0, 0), (.invokestatic 541, 30, 0, 0), (.invokespecial 489, 48, 2, 2), (.invokevirtual 552, 49, 2, 16), (.invokevirtual 549, 50, 2, 16), (.invokevirtual 1047, 44, 2, 16), (.invokestatic 54, 52, 0, 0), (.getfield 1048, 13, 2, 0), (.invokevirtual 335, 56, 0, 15), (.invokevirtual 492, 60, 0, 15), (.invokestatic 495, 61, 0, 0), (.getstatic 1053, 16, 0, 0), (.invokestatic 1059, 63, 0, 0)]
set_option maxRecDepth 20000 in
theorem zlkA_9 (D : va_G) (l : Launch) : ∀ t ∈ zlk_9, zLk D l "java/lang/String" t := zlkc (lk_9_0 D l) (zlkc (lk_9_1 D l) (zlkc (lk_9_2 D l) (zlkc (lk_9_3 D l) (zlkc (lk_9_4 D l) (zlkc (lk_9_5 D l) (zlkc (lk_9_6 D l) (zlkc (lk_9_7 D l) (zlkc (lk_9_8 D l) (zlkc (lk_9_9 D l) (zlkc (lk_9_10 D l) (zlkc (lk_9_11 D l) (zlkc (lk_9_12 D l) (zlkc (lk_9_13 D l) (zlkc (lk_9_14 D l) (zlkc (lk_9_15 D l) (zlkc (lk_9_16 D l) (zlkc (lk_9_17 D l) (zlkc (lk_9_18 D l) (zlkc (lk_9_19 D l) (zlkc (lk_9_20 D l) (zlkc (lk_9_21 D l) (zlkc (lk_9_22 D l) (zlkc (lk_9_23 D l) (zlkn))))))))))))))))))))))))

/-! WHAT THE LINKS OWE, class by class (written by a program of the verifier's) -/
set_option maxRecDepth 20000 in
theorem lk_10_0 (D : va_G) (l : Launch) : zLk D l "java/lang/StringUTF16" (.invokestatic 115, 26, 0, 0) := fun p e R s m args below meth c mi d pc ad0 hown hcx hbx hini hts hK hdec => zk_S hcx hts zcm_26 zct_26 hdec (by rw [hown]; exact zw_555) zw_556 zw_517 zpd_26 rfl
def zlk_10 : List zRow := [(.invokestatic 115, 26, 0, 0)]
set_option maxRecDepth 20000 in
theorem zlkA_10 (D : va_G) (l : Launch) : ∀ t ∈ zlk_10, zLk D l "java/lang/StringUTF16" t := zlkc (lk_10_0 D l) (zlkn)
set_option maxRecDepth 20000 in
theorem lk_11_0 (D : va_G) (l : Launch) : zLk D l "FlagLayers$Sort" (.getstatic 156, 6, 0, 0) := fun p e R s m args below meth c mi d pc ad0 hown hcx hbx hini hts hK hdec => by
  intro v hv
  obtain rfl : (.ref 44 : Value) = v := Option.some.inj hv
  exact zk_st hcx hts (hK.2.1 4 _ rfl) (by rw [hown]; exact zw_557) rfl hdec
set_option maxRecDepth 20000 in
theorem lk_11_1 (D : va_G) (l : Launch) : zLk D l "FlagLayers$Sort" (.getfield 152, 15, 1, 0) := fun p e R s m args below meth c mi d pc ad0 hown hcx hbx hini hts hK hdec => by
  show zOkGet D s args (zown mi) 152 15 1
  rw [hown]
  exact zk_getS hts (hK.2.2.2.2.2.1 _ (zg_mem (l := zLsf) (i := 1) rfl)) zw_558
set_option maxRecDepth 20000 in
theorem lk_11_2 (D : va_G) (l : Launch) : zLk D l "FlagLayers$Sort" (.invokevirtual 159, 29, 0, 15) := fun p e R s m args below meth c mi d pc ad0 hown hcx hbx hini hts hK hdec => zk_V (n := 12) hcx hts (zuk_12 hK).2.1 zcm_29 zct_29 hdec (by rw [hown]; exact zw_559) zw_184 zw_183 zw_185 rfl zpd_29 rfl
set_option maxRecDepth 20000 in
theorem lk_11_3 (D : va_G) (l : Launch) : zLk D l "FlagLayers$Sort" (.getstatic 10, 7, 0, 0) := fun p e R s m args below meth c mi d pc ad0 hown hcx hbx hini hts hK hdec => by
  intro v hv
  obtain rfl : (.ref 3 : Value) = v := Option.some.inj hv
  exact zk_st hcx hts (hK.2.1 5 _ rfl) (by rw [hown]; exact zw_560) rfl hdec
set_option maxRecDepth 20000 in
theorem lk_11_4 (D : va_G) (l : Launch) : zLk D l "FlagLayers$Sort" (.invokevirtual 165, 55, 0, 15) := fun p e R s m args below meth c mi d pc ad0 hown hcx hbx hini hts hK hdec => zk_V (n := 12) hcx hts (zuk_12 hK).2.1 zcm_55 zct_55 hdec (by rw [hown]; exact zw_561) zw_227 zw_226 zw_185 rfl zpd_55 rfl
set_option maxRecDepth 20000 in
theorem lk_11_5 (D : va_G) (l : Launch) : zLk D l "FlagLayers$Sort" (.invokevirtual 169, 59, 0, 15) := fun p e R s m args below meth c mi d pc ad0 hown hcx hbx hini hts hK hdec => zk_V (n := 12) hcx hts (zuk_12 hK).2.1 zcm_59 zct_59 hdec (by rw [hown]; exact zw_562) zw_230 zw_229 zw_185 rfl zpd_59 rfl
set_option maxRecDepth 20000 in
theorem lk_11_6 (D : va_G) (l : Launch) : zLk D l "FlagLayers$Sort" (.getstatic 7, 2, 0, 0) := fun p e R s m args below meth c mi d pc ad0 hown hcx hbx hini hts hK hdec => by
  intro v hv
  obtain rfl : (.ref 2 : Value) = v := Option.some.inj hv
  exact zk_st hcx hts (hK.2.1 2 _ rfl) (by rw [hown]; exact zw_563) rfl hdec
def zlk_11 : List zRow := [(.getstatic 156, 6, 0, 0), (.getfield 152, 15, 1, 0), (.invokevirtual 159, 29, 0, 15), (.getstatic 10, 7, 0, 0), (.invokevirtual 165, 55, 0, 15), (.invokevirtual 169, 59, 0, 15), (.getstatic 7, 2, 0, 0)]
set_option maxRecDepth 20000 in
theorem zlkA_11 (D : va_G) (l : Launch) : ∀ t ∈ zlk_11, zLk D l "FlagLayers$Sort" t := zlkc (lk_11_0 D l) (zlkc (lk_11_1 D l) (zlkc (lk_11_2 D l) (zlkc (lk_11_3 D l) (zlkc (lk_11_4 D l) (zlkc (lk_11_5 D l) (zlkc (lk_11_6 D l) (zlkn)))))))
set_option maxRecDepth 20000 in
theorem lk_12_0 (D : va_G) (l : Launch) : zLk D l "java/lang/StringBuilder" (.invokespecial 1, 35, 2, 2) := fun p e R s m args below meth c mi d pc ad0 hown hcx hbx hini hts hK hdec => zk_I hcx hts zcm_35 zct_35 hdec (by rw [hown]; exact zw_564) zw_565 zw_530 rfl zpd_35 rfl
set_option maxRecDepth 20000 in
theorem lk_12_1 (D : va_G) (l : Launch) : zLk D l "java/lang/StringBuilder" (.invokespecial 53, 37, 2, 16) := fun p e R s m args below meth c mi d pc ad0 hown hcx hbx hini hts hK hdec => zk_SU (n := 13) (C := "java/lang/StringBuilder") hcx hts (zuk_13 hK).2 zcm_37 zct_37 hdec (by rw [hown]; exact zw_566) zw_567 (by rw [hown]; exact zw_568) zw_569 zw_530 (by decide +kernel) rfl
set_option maxRecDepth 20000 in
theorem lk_12_2 (D : va_G) (l : Launch) : zLk D l "java/lang/StringBuilder" (.new 18, 12, 4, 0) := fun p e R s m args below meth c mi d pc ad0 hown hcx hbx hini hts hK hdec => by
  show zOkNew D zclL s args (zown mi) 18 12 4 (zdf 12)
  rw [hown]
  exact zk_new hts rfl (zuk_12 hK) zin_12 (fun k => zty 12 k) ztk_12 zw_570 zw_301 zw_185 rfl zdk_12
set_option maxRecDepth 20000 in
theorem lk_12_3 (D : va_G) (l : Launch) : zLk D l "java/lang/StringBuilder" (.invokespecial 137, 47, 2, 2) := fun p e R s m args below meth c mi d pc ad0 hown hcx hbx hini hts hK hdec => zk_I hcx hts zcm_47 zct_47 hdec (by rw [hown]; exact zw_571) zw_572 zw_185 rfl zpd_47 rfl
set_option maxRecDepth 20000 in
theorem lk_12_4 (D : va_G) (l : Launch) : zLk D l "java/lang/StringBuilder" (.invokespecial 343, 51, 2, 16) := fun p e R s m args below meth c mi d pc ad0 hown hcx hbx hini hts hK hdec => zk_SU (n := 13) (C := "java/lang/StringBuilder") hcx hts (zuk_13 hK).2 zcm_51 zct_51 hdec (by rw [hown]; exact zw_573) zw_533 (by rw [hown]; exact zw_568) zw_534 zw_530 (by decide +kernel) rfl
def zlk_12 : List zRow := [(.invokespecial 1, 35, 2, 2), (.invokespecial 53, 37, 2, 16), (.new 18, 12, 4, 0), (.invokespecial 137, 47, 2, 2), (.invokespecial 343, 51, 2, 16)]
set_option maxRecDepth 20000 in
theorem zlkA_12 (D : va_G) (l : Launch) : ∀ t ∈ zlk_12, zLk D l "java/lang/StringBuilder" t := zlkc (lk_12_0 D l) (zlkc (lk_12_1 D l) (zlkc (lk_12_2 D l) (zlkc (lk_12_3 D l) (zlkc (lk_12_4 D l) (zlkn)))))
set_option maxRecDepth 20000 in
theorem lk_13_0 (D : va_G) (l : Launch) : zLk D l "java/lang/AbstractStringBuilder" (.invokespecial 3, 0, 1, 0) := fun p e R s m args below meth c mi d pc ad0 hown hcx hbx hini hts hK hdec => by
  show zOkObj s args (zown mi) (.invokespecial 3)
  rw [hown]
  exact ⟨hts _ zw_574, hts _ zw_137, hts _ (zT_mem (zt_1 44 rfl) rfl)⟩
set_option maxRecDepth 20000 in
theorem lk_13_1 (D : va_G) (l : Launch) : zLk D l "java/lang/AbstractStringBuilder" (.getstatic 18, 5, 0, 0) := fun p e R s m args below meth c mi d pc ad0 hown hcx hbx hini hts hK hdec => by
  intro v hv
  obtain rfl : (.int 1 : Value) = v := Option.some.inj hv
  exact zk_st hcx hts (hK.2.1 3 _ rfl) (by rw [hown]; exact zw_575) rfl hdec
set_option maxRecDepth 20000 in
theorem lk_13_2 (D : va_G) (l : Launch) : zLk D l "java/lang/AbstractStringBuilder" (.putfield 15, 13, 0, 0) := fun p e R s m args below meth c mi d pc ad0 hown hcx hbx hini hts hK hdec => by
  show zOkPut D s args m.cls meth.name (zown mi) 15 13 0 (zty 13 0)
  rw [hown]
  exact zk_put hts (zuk_13 hK) zin_13 (by decide) (zFl_p hts zw_576) (Or.inl rfl) rfl (by decide +kernel)
set_option maxRecDepth 20000 in
theorem lk_13_3 (D : va_G) (l : Launch) : zLk D l "java/lang/AbstractStringBuilder" (.putfield 22, 13, 1, 0) := fun p e R s m args below meth c mi d pc ad0 hown hcx hbx hini hts hK hdec => by
  show zOkPut D s args m.cls meth.name (zown mi) 22 13 1 (zty 13 1)
  rw [hown]
  exact zk_put hts (zuk_13 hK) zin_13 (by decide) (zFl_p hts zw_577) (Or.inl rfl) rfl (by decide +kernel)
set_option maxRecDepth 20000 in
theorem lk_13_4 (D : va_G) (l : Launch) : zLk D l "java/lang/AbstractStringBuilder" (.getfield 79, 13, 3, 0) := fun p e R s m args below meth c mi d pc ad0 hown hcx hbx hini hts hK hdec => by
  show zOkGet D s args (zown mi) 79 13 3
  rw [hown]
  exact zk_get hts (zuk_13 hK) zin_13 (by decide) (zFl_p hts zw_578) (Or.inl rfl)
set_option maxRecDepth 20000 in
theorem lk_13_5 (D : va_G) (l : Launch) : zLk D l "java/lang/AbstractStringBuilder" (.invokestatic 245, 38, 0, 0) := fun p e R s m args below meth c mi d pc ad0 hown hcx hbx hini hts hK hdec => zk_S hcx hts zcm_38 zct_38 hdec (by rw [hown]; exact zw_579) zw_580 zw_581 zpd_38 rfl
set_option maxRecDepth 20000 in
theorem lk_13_6 (D : va_G) (l : Launch) : zLk D l "java/lang/AbstractStringBuilder" (.invokevirtual 100, 39, 2, 16) := fun p e R s m args below meth c mi d pc ad0 hown hcx hbx hini hts hK hdec => zk_U (n := 13) (x := ⟨"java/lang/AbstractStringBuilder", "ensureCapacityInternal", "(I)V"⟩) hcx hts (zuk_13 hK).2.1 zcm_39 zct_39 hdec (by rw [hown]; exact zw_582) zw_583 zspr_ensureCapacityInternal zw_584 zw_530 rfl zpd_39 rfl
set_option maxRecDepth 20000 in
theorem lk_13_7 (D : va_G) (l : Launch) : zLk D l "java/lang/AbstractStringBuilder" (.invokevirtual 83, 44, 2, 16) := fun p e R s m args below meth c mi d pc ad0 hown hcx hbx hini hts hK hdec => zk_U (n := 13) (x := ⟨"java/lang/AbstractStringBuilder", "isLatin1", "()Z"⟩) hcx hts (zuk_13 hK).2.1 zcm_44 zct_44 hdec (by rw [hown]; exact zw_585) zw_538 zw_537 zw_539 zw_530 rfl zpd_44 rfl
set_option maxRecDepth 20000 in
theorem lk_13_8 (D : va_G) (l : Launch) : zLk D l "java/lang/AbstractStringBuilder" (.getfield 15, 13, 0, 0) := fun p e R s m args below meth c mi d pc ad0 hown hcx hbx hini hts hK hdec => by
  show zOkGet D s args (zown mi) 15 13 0
  rw [hown]
  exact zk_get hts (zuk_13 hK) zin_13 (by decide) (zFl_p hts zw_576) (Or.inl rfl)
set_option maxRecDepth 20000 in
theorem lk_13_9 (D : va_G) (l : Launch) : zLk D l "java/lang/AbstractStringBuilder" (.invokestatic 248, 45, 0, 0) := fun p e R s m args below meth c mi d pc ad0 hown hcx hbx hini hts hK hdec => zk_S hcx hts zcm_45 zct_45 hdec (by rw [hown]; exact zw_586) zw_587 zw_581 zpd_45 rfl
set_option maxRecDepth 20000 in
theorem lk_13_10 (D : va_G) (l : Launch) : zLk D l "java/lang/AbstractStringBuilder" (.putfield 79, 13, 3, 0) := fun p e R s m args below meth c mi d pc ad0 hown hcx hbx hini hts hK hdec => by
  show zOkPut D s args m.cls meth.name (zown mi) 79 13 3 (zty 13 3)
  rw [hown]
  exact zk_put hts (zuk_13 hK) zin_13 (by decide) (zFl_p hts zw_578) (Or.inl rfl) rfl (by decide +kernel)
set_option maxRecDepth 20000 in
theorem lk_13_11 (D : va_G) (l : Launch) : zLk D l "java/lang/AbstractStringBuilder" (.getfield 22, 13, 1, 0) := fun p e R s m args below meth c mi d pc ad0 hown hcx hbx hini hts hK hdec => by
  show zOkGet D s args (zown mi) 22 13 1
  rw [hown]
  exact zk_get hts (zuk_13 hK) zin_13 (by decide) (zFl_p hts zw_577) (Or.inl rfl)
set_option maxRecDepth 20000 in
theorem lk_13_12 (D : va_G) (l : Launch) : zLk D l "java/lang/AbstractStringBuilder" (.invokevirtual 104, 40, 2, 16) := fun p e R s m args below meth c mi d pc ad0 hown hcx hbx hini hts hK hdec => zk_U (n := 13) (x := ⟨"java/lang/AbstractStringBuilder", "newCapacity", "(I)I"⟩) hcx hts (zuk_13 hK).2.1 zcm_40 zct_40 hdec (by rw [hown]; exact zw_588) zw_589 zspr_newCapacity zw_590 zw_530 rfl zpd_40 rfl
set_option maxRecDepth 20000 in
theorem lk_13_13 (D : va_G) (l : Launch) : zLk D l "java/lang/AbstractStringBuilder" (.invokestatic 108, 42, 0, 0) := fun p e R s m args below meth c mi d pc ad0 hown hcx hbx hini hts hK hdec => zk_S hcx hts zcm_42 zct_42 hdec (by rw [hown]; exact zw_591) zw_592 zw_333 zpd_42 rfl
set_option maxRecDepth 20000 in
theorem lk_13_14 (D : va_G) (l : Launch) : zLk D l "java/lang/AbstractStringBuilder" (.invokestatic 114, 41, 0, 0) := fun p e R s m args below meth c mi d pc ad0 hown hcx hbx hini hts hK hdec => zk_S hcx hts zcm_41 zct_41 hdec (by rw [hown]; exact zw_593) zw_492 zw_493 zpd_41 rfl
set_option maxRecDepth 20000 in
theorem lk_13_15 (D : va_G) (l : Launch) : zLk D l "java/lang/AbstractStringBuilder" (.ldc 39, 10, 0, 0) := fun p e R s m args below meth c mi d pc ad0 hown hcx hbx hini hts hK hdec => by
  intro v hv
  obtain rfl : (.int (2147483647) : Value) = v := Option.some.inj hv
  exact zk_int hcx hts (by rw [hown]; exact zw_594) hdec
def zlk_13 : List zRow := [(.invokespecial 3, 0, 1, 0), (.getstatic 18, 5, 0, 0), (.putfield 15, 13, 0, 0), (.putfield 22, 13, 1, 0), (.getfield 79, 13, 3, 0), (.invokestatic 245, 38, 0, 0), (.invokevirtual 100, 39, 2, 16), (.invokevirtual 83, 44, 2, 16), (.getfield 15, 13, 0, 0), (.invokestatic 248, 45, 0, 0), (.putfield 79, 13, 3, 0), (.getfield 22, 13, 1, 0), (.invokevirtual 104, 40, 2, 16), (.invokestatic 108, 42, 0, 0), (.invokestatic 114, 41, 0, 0), (.ldc 39, 10, 0, 0)]
set_option maxRecDepth 20000 in
theorem zlkA_13 (D : va_G) (l : Launch) : ∀ t ∈ zlk_13, zLk D l "java/lang/AbstractStringBuilder" t := zlkc (lk_13_0 D l) (zlkc (lk_13_1 D l) (zlkc (lk_13_2 D l) (zlkc (lk_13_3 D l) (zlkc (lk_13_4 D l) (zlkc (lk_13_5 D l) (zlkc (lk_13_6 D l) (zlkc (lk_13_7 D l) (zlkc (lk_13_8 D l) (zlkc (lk_13_9 D l) (zlkc (lk_13_10 D l) (zlkc (lk_13_11 D l) (zlkc (lk_13_12 D l) (zlkc (lk_13_13 D l) (zlkc (lk_13_14 D l) (zlkc (lk_13_15 D l) (zlkn))))))))))))))))
set_option maxRecDepth 20000 in
theorem lk_14_0 (D : va_G) (l : Launch) : zLk D l "jdk/internal/util/ArraysSupport" (.invokestatic 194, 22, 0, 0) := fun p e R s m args below meth c mi d pc ad0 hown hcx hbx hini hts hK hdec => zk_S hcx hts zcm_22 zct_22 hdec (by rw [hown]; exact zw_595) zw_298 zw_299 zpd_22 rfl
set_option maxRecDepth 20000 in
theorem lk_14_1 (D : va_G) (l : Launch) : zLk D l "jdk/internal/util/ArraysSupport" (.ldc 200, 11, 0, 0) := fun p e R s m args below meth c mi d pc ad0 hown hcx hbx hini hts hK hdec => by
  intro v hv
  obtain rfl : (.int (2147483639) : Value) = v := Option.some.inj hv
  exact zk_int hcx hts (by rw [hown]; exact zw_596) hdec
def zlk_14 : List zRow := [(.invokestatic 194, 22, 0, 0), (.ldc 200, 11, 0, 0)]
set_option maxRecDepth 20000 in
theorem zlkA_14 (D : va_G) (l : Launch) : ∀ t ∈ zlk_14, zLk D l "jdk/internal/util/ArraysSupport" t := zlkc (lk_14_0 D l) (zlkc (lk_14_1 D l) (zlkn))
set_option maxRecDepth 20000 in
theorem lk_15_0 (D : va_G) (l : Launch) : zLk D l "java/util/Arrays" (.invokestatic 304, 43, 0, 0) := fun p e R s m args below meth c mi d pc ad0 hown hcx hbx hini hts hK hdec => zk_S hcx hts zcm_43 zct_43 hdec (by rw [hown]; exact zw_597) zw_468 zw_299 zpd_43 rfl
set_option maxRecDepth 20000 in
theorem lk_15_1 (D : va_G) (l : Launch) : zLk D l "java/util/Arrays" (.invokestatic 339, 53, 0, 0) := fun p e R s m args below meth c mi d pc ad0 hown hcx hbx hini hts hK hdec => zk_S hcx hts zcm_53 zct_53 hdec (by rw [hown]; exact zw_598) zw_599 zw_333 zpd_53 rfl
set_option maxRecDepth 20000 in
theorem lk_15_2 (D : va_G) (l : Launch) : zLk D l "java/util/Arrays" (.invokestatic 343, 54, 0, 0) := fun p e R s m args below meth c mi d pc ad0 hown hcx hbx hini hts hK hdec => zk_S hcx hts zcm_54 zct_54 hdec (by rw [hown]; exact zw_600) zw_601 zw_333 zpd_54 rfl
set_option maxRecDepth 20000 in
theorem lk_15_3 (D : va_G) (l : Launch) : zLk D l "java/util/Arrays" (.new 45, 13, 4, 0) := fun p e R s m args below meth c mi d pc ad0 hown hcx hbx hini hts hK hdec => by
  show zOkNew D zclL s args (zown mi) 45 13 4 (zdf 13)
  rw [hown]
  exact zk_new hts rfl (zuk_13 hK) zin_13 (fun k => zty 13 k) ztk_13 zw_602 zw_308 zw_309 rfl zdk_13
set_option maxRecDepth 20000 in
theorem lk_15_4 (D : va_G) (l : Launch) : zLk D l "java/util/Arrays" (.invokespecial 47, 34, 2, 2) := fun p e R s m args below meth c mi d pc ad0 hown hcx hbx hini hts hK hdec => zk_I hcx hts zcm_34 zct_34 hdec (by rw [hown]; exact zw_603) zw_311 zw_309 rfl zpd_34 rfl
set_option maxRecDepth 20000 in
theorem lk_15_5 (D : va_G) (l : Launch) : zLk D l "java/util/Arrays" (.invokevirtual 54, 36, 0, 16) := fun p e R s m args below meth c mi d pc ad0 hown hcx hbx hini hts hK hdec => zk_V (n := 13) hcx hts (zuk_13 hK).2.1 zcm_36 zct_36 hdec (by rw [hown]; exact zw_604) zw_314 zw_313 zw_309 rfl zpd_36 rfl
set_option maxRecDepth 20000 in
theorem lk_15_6 (D : va_G) (l : Launch) : zLk D l "java/util/Arrays" (.ldc_w 337, 14, 0, 0) := fun p e R s m args below meth c mi d pc ad0 hown hcx hbx hini hts hK hdec => by
  intro v hv
  obtain rfl : (.ref 51 : Value) = v := Option.some.inj hv
  exact zk_strw (tx := " > ") hcx (by rw [hown]; exact hK.2.2.1 2 _ rfl) hdec
set_option maxRecDepth 20000 in
theorem lk_15_7 (D : va_G) (l : Launch) : zLk D l "java/util/Arrays" (.invokevirtual 61, 46, 0, 16) := fun p e R s m args below meth c mi d pc ad0 hown hcx hbx hini hts hK hdec => zk_V (n := 13) hcx hts (zuk_13 hK).2.1 zcm_46 zct_46 hdec (by rw [hown]; exact zw_605) zw_317 zw_316 zw_309 rfl zpd_46 rfl
def zlk_15 : List zRow := [(.invokestatic 304, 43, 0, 0), (.invokestatic 339, 53, 0, 0), (.invokestatic 343, 54, 0, 0), (.new 45, 13, 4, 0), (.invokespecial 47, 34, 2, 2), (.invokevirtual 54, 36, 0, 16), (.ldc_w 337, 14, 0, 0), (.invokevirtual 61, 46, 0, 16)]
set_option maxRecDepth 20000 in
theorem zlkA_15 (D : va_G) (l : Launch) : ∀ t ∈ zlk_15, zLk D l "java/util/Arrays" t := zlkc (lk_15_0 D l) (zlkc (lk_15_1 D l) (zlkc (lk_15_2 D l) (zlkc (lk_15_3 D l) (zlkc (lk_15_4 D l) (zlkc (lk_15_5 D l) (zlkc (lk_15_6 D l) (zlkc (lk_15_7 D l) (zlkn))))))))
set_option maxRecDepth 20000 in
theorem lk_16_0 (D : va_G) (l : Launch) : zLk D l "java/lang/Integer" (.getstatic 83, 12, 0, 0) := fun p e R s m args below meth c mi d pc ad0 hown hcx hbx hini hts hK hdec => by
  intro v hv
  obtain rfl : (.ref 46 : Value) = v := Option.some.inj hv
  exact zk_st hcx hts (hK.2.1 8 _ rfl) (by rw [hown]; exact zw_606) rfl hdec
set_option maxRecDepth 20000 in
theorem lk_16_1 (D : va_G) (l : Launch) : zLk D l "java/lang/Integer" (.getstatic 87, 13, 0, 0) := fun p e R s m args below meth c mi d pc ad0 hown hcx hbx hini hts hK hdec => by
  intro v hv
  obtain rfl : (.ref 47 : Value) = v := Option.some.inj hv
  exact zk_st hcx hts (hK.2.1 9 _ rfl) (by rw [hown]; exact zw_607) rfl hdec
def zlk_16 : List zRow := [(.getstatic 83, 12, 0, 0), (.getstatic 87, 13, 0, 0)]
set_option maxRecDepth 20000 in
theorem zlkA_16 (D : va_G) (l : Launch) : ∀ t ∈ zlk_16, zLk D l "java/lang/Integer" t := zlkc (lk_16_0 D l) (zlkc (lk_16_1 D l) (zlkn))
set_option maxRecDepth 20000 in
theorem lk_17_0 (D : va_G) (l : Launch) : zLk D l "java/lang/StringLatin1" (.invokestatic 9, 62, 0, 0) := fun p e R s m args below meth c mi d pc ad0 hown hcx hbx hini hts hK hdec => zk_S hcx hts zcm_62 zct_62 hdec (by rw [hown]; exact zw_608) zw_609 zw_185 zpd_62 rfl
def zlk_17 : List zRow := [(.invokestatic 9, 62, 0, 0)]
set_option maxRecDepth 20000 in
theorem zlkA_17 (D : va_G) (l : Launch) : ∀ t ∈ zlk_17, zLk D l "java/lang/StringLatin1" t := zlkc (lk_17_0 D l) (zlkn)
set_option maxRecDepth 20000 in
theorem lk_18_0 (D : va_G) (l : Launch) : zLk D l "FlagLayers$Reader" (.invokespecial 3, 0, 1, 0) := fun p e R s m args below meth c mi d pc ad0 hown hcx hbx hini hts hK hdec => by
  show zOkObj s args (zown mi) (.invokespecial 3)
  rw [hown]
  exact ⟨hts _ zw_610, hts _ zw_137, hts _ (zT_mem (zt_1 44 rfl) rfl)⟩
set_option maxRecDepth 20000 in
theorem lk_18_1 (D : va_G) (l : Launch) : zLk D l "FlagLayers$Reader" (.new 9, 4, 12, 0) := fun p e R s m args below meth c mi d pc ad0 hown hcx hbx hini hts hK hdec => by
  show zOkNew D zclL s args (zown mi) 9 4 12 (zdf 4)
  rw [hown]
  exact zk_new hts rfl (zuk_4 hK) zin_4 (fun k => zty 4 k) ztk_4 zw_611 zw_150 zw_151 rfl zdk_4
set_option maxRecDepth 20000 in
theorem lk_18_2 (D : va_G) (l : Launch) : zLk D l "FlagLayers$Reader" (.invokespecial 11, 5, 2, 2) := fun p e R s m args below meth c mi d pc ad0 hown hcx hbx hini hts hK hdec => zk_IN (host := "FlagLayers") hcx hts zcm_5 zct_5 hdec (by rw [hown]; exact hK.2.2.2.2.1 _ (znw_mem (by decide +kernel) rfl)) zw_152 zw_151 rfl zpd_5 rfl
set_option maxRecDepth 20000 in
theorem lk_18_3 (D : va_G) (l : Launch) : zLk D l "FlagLayers$Reader" (.putfield 12, 5, 0, 0) := fun p e R s m args below meth c mi d pc ad0 hown hcx hbx hini hts hK hdec => by
  show zOkPut D s args m.cls meth.name (zown mi) 12 5 0 (zty 5 0)
  have hc := hcx.2.2.2.2.2.1
  rw [hown] at hc ⊢
  exact zk_putF hts (zuk_5 hK) zin_5 (by decide) zw_612 rfl hc (hbx.2.trans (hini rfl)) rfl (by decide +kernel)
set_option maxRecDepth 20000 in
theorem lk_18_4 (D : va_G) (l : Launch) : zLk D l "FlagLayers$Reader" (.putfield 18, 5, 1, 0) := fun p e R s m args below meth c mi d pc ad0 hown hcx hbx hini hts hK hdec => by
  show zOkPut D s args m.cls meth.name (zown mi) 18 5 1 (zty 5 1)
  rw [hown]
  exact zk_put hts (zuk_5 hK) zin_5 (by decide) (zFl_p hts zw_613) (Or.inl rfl) rfl (by decide +kernel)
set_option maxRecDepth 20000 in
theorem lk_18_5 (D : va_G) (l : Launch) : zLk D l "FlagLayers$Reader" (.putfield 22, 5, 2, 0) := fun p e R s m args below meth c mi d pc ad0 hown hcx hbx hini hts hK hdec => by
  show zOkPut D s args m.cls meth.name (zown mi) 22 5 2 (zty 5 2)
  rw [hown]
  exact zk_put hts (zuk_5 hK) zin_5 (by decide) (zFl_p hts zw_614) (Or.inl rfl) rfl (by decide +kernel)
set_option maxRecDepth 20000 in
theorem lk_18_6 (D : va_G) (l : Launch) : zLk D l "FlagLayers$Reader" (.putfield 25, 5, 3, 0) := fun p e R s m args below meth c mi d pc ad0 hown hcx hbx hini hts hK hdec => by
  show zOkPut D s args m.cls meth.name (zown mi) 25 5 3 (zty 5 3)
  rw [hown]
  exact zk_put hts (zuk_5 hK) zin_5 (by decide) (zFl_p hts zw_615) (Or.inl rfl) rfl (by decide +kernel)
set_option maxRecDepth 20000 in
theorem lk_18_7 (D : va_G) (l : Launch) : zLk D l "FlagLayers$Reader" (.getfield 25, 5, 3, 0) := fun p e R s m args below meth c mi d pc ad0 hown hcx hbx hini hts hK hdec => by
  show zOkGet D s args (zown mi) 25 5 3
  rw [hown]
  exact zk_get hts (zuk_5 hK) zin_5 (by decide) (zFl_p hts zw_615) (Or.inl rfl)
set_option maxRecDepth 20000 in
theorem lk_18_8 (D : va_G) (l : Launch) : zLk D l "FlagLayers$Reader" (.getfield 29, 9, 0, 0) := fun p e R s m args below meth c mi d pc ad0 hown hcx hbx hini hts hK hdec => by
  show zOkGet D s args (zown mi) 29 9 0
  rw [hown]
  exact zk_get hts (zuk_9 hK) zin_9 (by decide) (zFl_p hts zw_616) (Or.inl rfl)
set_option maxRecDepth 20000 in
theorem lk_18_9 (D : va_G) (l : Launch) : zLk D l "FlagLayers$Reader" (.getstatic 35, 1, 0, 0) := fun p e R s m args below meth c mi d pc ad0 hown hcx hbx hini hts hK hdec => by
  intro v hv
  obtain rfl : (.ref 1 : Value) = v := Option.some.inj hv
  exact zk_st hcx hts (hK.2.1 1 _ rfl) (by rw [hown]; exact zw_617) rfl hdec
set_option maxRecDepth 20000 in
theorem lk_18_10 (D : va_G) (l : Launch) : zLk D l "FlagLayers$Reader" (.getstatic 40, 17, 0, 0) := fun p e R s m args below meth c mi d pc ad0 hown hcx hbx hini hts hK hdec => by
  intro v hv
  obtain rfl : (.ref 45 : Value) = v := Option.some.inj hv
  exact zk_st hcx hts (hK.2.1 12 _ rfl) (by rw [hown]; exact zw_618) rfl hdec
set_option maxRecDepth 20000 in
theorem lk_18_11 (D : va_G) (l : Launch) : zLk D l "FlagLayers$Reader" (.invokevirtual 46, 66, 2, 18) := fun p e R s m args below meth c mi d pc ad0 hown hcx hbx hini hts hK hdec => zk_U (n := 15) (x := ⟨"FlagLayers$Sort", "ordinal", "()I"⟩) hcx hts (zuk_15 hK).2.1 zcm_66 zct_66 hdec (by rw [hown]; exact zw_619) zw_358 zw_357 zw_359 zw_360 rfl zpd_66 rfl
set_option maxRecDepth 20000 in
theorem lk_18_12 (D : va_G) (l : Launch) : zLk D l "FlagLayers$Reader" (.invokevirtual 50, 67, 0, 8) := fun p e R s m args below meth c mi d pc ad0 hown hcx hbx hini hts hK hdec => zk_V (n := 5) hcx hts (zuk_5 hK).2.1 zcm_67 zct_67 hdec (by rw [hown]; exact zw_620) zw_621 zs_22 zw_157 rfl zpd_67 rfl
set_option maxRecDepth 20000 in
theorem lk_18_13 (D : va_G) (l : Launch) : zLk D l "FlagLayers$Reader" (.invokevirtual 53, 90, 0, 8) := fun p e R s m args below meth c mi d pc ad0 hown hcx hbx hini hts hK hdec => zk_V (n := 5) hcx hts (zuk_5 hK).2.1 zcm_90 zct_90 hdec (by rw [hown]; exact zw_622) zw_623 zs_23 zw_157 rfl zpd_90 rfl
set_option maxRecDepth 20000 in
theorem lk_18_14 (D : va_G) (l : Launch) : zLk D l "FlagLayers$Reader" (.invokevirtual 56, 107, 0, 8) := fun p e R s m args below meth c mi d pc ad0 hown hcx hbx hini hts hK hdec => zk_V (n := 5) hcx hts (zuk_5 hK).2.1 zcm_107 zct_107 hdec (by rw [hown]; exact zw_624) zw_625 zs_24 zw_157 rfl zpd_107 rfl
set_option maxRecDepth 20000 in
theorem lk_18_15 (D : va_G) (l : Launch) : zLk D l "FlagLayers$Reader" (.invokevirtual 59, 70, 0, 8) := fun p e R s m args below meth c mi d pc ad0 hown hcx hbx hini hts hK hdec => zk_V (n := 5) hcx hts (zuk_5 hK).2.1 zcm_70 zct_70 hdec (by rw [hown]; exact zw_626) zw_627 zs_25 zw_157 rfl zpd_70 rfl
set_option maxRecDepth 20000 in
theorem lk_18_16 (D : va_G) (l : Launch) : zLk D l "FlagLayers$Reader" (.invokevirtual 63, 111, 0, 8) := fun p e R s m args below meth c mi d pc ad0 hown hcx hbx hini hts hK hdec => zk_V (n := 5) hcx hts (zuk_5 hK).2.1 zcm_111 zct_111 hdec (by rw [hown]; exact zw_628) zw_629 zs_26 zw_157 rfl zpd_111 rfl
set_option maxRecDepth 20000 in
theorem lk_18_17 (D : va_G) (l : Launch) : zLk D l "FlagLayers$Reader" (.getfield 12, 5, 0, 0) := fun p e R s m args below meth c mi d pc ad0 hown hcx hbx hini hts hK hdec => by
  show zOkGet D s args (zown mi) 12 5 0
  rw [hown]
  exact zk_get hts (zuk_5 hK) zin_5 (by decide) (zFl_p hts zw_612) (Or.inl rfl)
set_option maxRecDepth 20000 in
theorem lk_18_18 (D : va_G) (l : Launch) : zLk D l "FlagLayers$Reader" (.invokevirtual 66, 114, 0, 7) := fun p e R s m args below meth c mi d pc ad0 hown hcx hbx hini hts hK hdec => zk_V (n := 4) hcx hts (zuk_4 hK).2.1 zcm_114 zct_114 hdec (by rw [hown]; exact zw_630) zw_632 zw_631 zw_151 rfl zpd_114 rfl
set_option maxRecDepth 20000 in
theorem lk_18_19 (D : va_G) (l : Launch) : zLk D l "FlagLayers$Reader" (.invokevirtual 69, 117, 0, 8) := fun p e R s m args below meth c mi d pc ad0 hown hcx hbx hini hts hK hdec => zk_V (n := 5) hcx hts (zuk_5 hK).2.1 zcm_117 zct_117 hdec (by rw [hown]; exact zw_633) zw_634 zs_27 zw_157 rfl zpd_117 rfl
set_option maxRecDepth 20000 in
theorem lk_18_20 (D : va_G) (l : Launch) : zLk D l "FlagLayers$Reader" (.invokevirtual 72, 118, 0, 7) := fun p e R s m args below meth c mi d pc ad0 hown hcx hbx hini hts hK hdec => zk_V (n := 4) hcx hts (zuk_4 hK).2.1 zcm_118 zct_118 hdec (by rw [hown]; exact zw_635) zw_637 zw_636 zw_151 rfl zpd_118 rfl
set_option maxRecDepth 20000 in
theorem lk_18_21 (D : va_G) (l : Launch) : zLk D l "FlagLayers$Reader" (.getfield 84, 4, 3, 0) := fun p e R s m args below meth c mi d pc ad0 hown hcx hbx hini hts hK hdec => by
  show zOkGet D s args (zown mi) 84 4 3
  rw [hown]
  exact zk_get hts (zuk_4 hK) zin_4 (by decide) (zFl_p hts zw_638) (Or.inl rfl)
set_option maxRecDepth 20000 in
theorem lk_18_22 (D : va_G) (l : Launch) : zLk D l "FlagLayers$Reader" (.invokevirtual 88, 68, 0, 17) := fun p e R s m args below meth c mi d pc ad0 hown hcx hbx hini hts hK hdec => zk_V (n := 14) hcx hts (zuk_14 hK).2.1 zcm_68 zct_68 hdec (by rw [hown]; exact zw_639) zw_175 zw_174 zw_176 rfl zpd_68 rfl
set_option maxRecDepth 20000 in
theorem lk_18_23 (D : va_G) (l : Launch) : zLk D l "FlagLayers$Reader" (.invokevirtual 93, 69, 0, 8) := fun p e R s m args below meth c mi d pc ad0 hown hcx hbx hini hts hK hdec => zk_V (n := 5) hcx hts (zuk_5 hK).2.1 zcm_69 zct_69 hdec (by rw [hown]; exact zw_640) zw_641 zs_28 zw_157 rfl zpd_69 rfl
set_option maxRecDepth 20000 in
theorem lk_18_24 (D : va_G) (l : Launch) : zLk D l "FlagLayers$Reader" (.getfield 97, 4, 0, 0) := fun p e R s m args below meth c mi d pc ad0 hown hcx hbx hini hts hK hdec => by
  show zOkGet D s args (zown mi) 97 4 0
  rw [hown]
  exact zk_get hts (zuk_4 hK) zin_4 (by decide) (zFl_p hts zw_642) (Or.inl rfl)
set_option maxRecDepth 20000 in
theorem lk_18_25 (D : va_G) (l : Launch) : zLk D l "FlagLayers$Reader" (.invokevirtual 100, 72, 0, 8) := fun p e R s m args below meth c mi d pc ad0 hown hcx hbx hini hts hK hdec => zk_V (n := 5) hcx hts (zuk_5 hK).2.1 zcm_72 zct_72 hdec (by rw [hown]; exact zw_643) zw_644 zs_29 zw_157 rfl zpd_72 rfl
set_option maxRecDepth 20000 in
theorem lk_18_26 (D : va_G) (l : Launch) : zLk D l "FlagLayers$Reader" (.getstatic 104, 18, 0, 0) := fun p e R s m args below meth c mi d pc ad0 hown hcx hbx hini hts hK hdec => by
  intro v hv
  obtain rfl : (.ref 13 : Value) = v := Option.some.inj hv
  exact zk_st hcx hts (hK.2.1 13 _ rfl) (by rw [hown]; exact zw_645) rfl hdec
set_option maxRecDepth 20000 in
theorem lk_18_27 (D : va_G) (l : Launch) : zLk D l "FlagLayers$Reader" (.invokevirtual 107, 71, 0, 8) := fun p e R s m args below meth c mi d pc ad0 hown hcx hbx hini hts hK hdec => zk_V (n := 5) hcx hts (zuk_5 hK).2.1 zcm_71 zct_71 hdec (by rw [hown]; exact zw_646) zw_201 zw_200 zw_157 rfl zpd_71 rfl
set_option maxRecDepth 20000 in
theorem lk_18_28 (D : va_G) (l : Launch) : zLk D l "FlagLayers$Reader" (.getstatic 111, 19, 0, 0) := fun p e R s m args below meth c mi d pc ad0 hown hcx hbx hini hts hK hdec => by
  intro v hv
  obtain rfl : (.ref 32 : Value) = v := Option.some.inj hv
  exact zk_st hcx hts (hK.2.1 14 _ rfl) (by rw [hown]; exact zw_647) rfl hdec
set_option maxRecDepth 20000 in
theorem lk_18_29 (D : va_G) (l : Launch) : zLk D l "FlagLayers$Reader" (.invokevirtual 114, 77, 0, 8) := fun p e R s m args below meth c mi d pc ad0 hown hcx hbx hini hts hK hdec => zk_V (n := 5) hcx hts (zuk_5 hK).2.1 zcm_77 zct_77 hdec (by rw [hown]; exact zw_648) zw_649 zs_30 zw_157 rfl zpd_77 rfl
set_option maxRecDepth 20000 in
theorem lk_18_30 (D : va_G) (l : Launch) : zLk D l "FlagLayers$Reader" (.getstatic 118, 20, 0, 0) := fun p e R s m args below meth c mi d pc ad0 hown hcx hbx hini hts hK hdec => by
  intro v hv
  obtain rfl : (.ref 10 : Value) = v := Option.some.inj hv
  exact zk_st hcx hts (hK.2.1 15 _ rfl) (by rw [hown]; exact zw_650) rfl hdec
set_option maxRecDepth 20000 in
theorem lk_18_31 (D : va_G) (l : Launch) : zLk D l "FlagLayers$Reader" (.invokevirtual 121, 86, 0, 17) := fun p e R s m args below meth c mi d pc ad0 hown hcx hbx hini hts hK hdec => zk_V (n := 14) hcx hts (zuk_14 hK).2.1 zcm_86 zct_86 hdec (by rw [hown]; exact zw_651) zw_653 zw_652 zw_176 rfl zpd_86 rfl
set_option maxRecDepth 20000 in
theorem lk_18_32 (D : va_G) (l : Launch) : zLk D l "FlagLayers$Reader" (.getstatic 412, 2, 0, 0) := fun p e R s m args below meth c mi d pc ad0 hown hcx hbx hini hts hK hdec => by
  intro v hv
  obtain rfl : (.ref 2 : Value) = v := Option.some.inj hv
  exact zk_st hcx hts (hK.2.1 2 _ rfl) (by rw [hown]; exact zw_654) rfl hdec
set_option maxRecDepth 20000 in
theorem lk_18_33 (D : va_G) (l : Launch) : zLk D l "FlagLayers$Reader" (.getfield 415, 9, 1, 0) := fun p e R s m args below meth c mi d pc ad0 hown hcx hbx hini hts hK hdec => by
  show zOkGet D s args (zown mi) 415 9 1
  rw [hown]
  exact zk_get hts (zuk_9 hK) zin_9 (by decide) (zFl_p hts zw_655) (Or.inl rfl)
set_option maxRecDepth 20000 in
theorem lk_18_34 (D : va_G) (l : Launch) : zLk D l "FlagLayers$Reader" (.getfield 75, 9, 5, 0) := fun p e R s m args below meth c mi d pc ad0 hown hcx hbx hini hts hK hdec => by
  show zOkGet D s args (zown mi) 75 9 5
  rw [hown]
  exact zk_get hts (zuk_9 hK) zin_9 (by decide) (zFl_p hts zw_656) (Or.inl rfl)
set_option maxRecDepth 20000 in
theorem lk_18_35 (D : va_G) (l : Launch) : zLk D l "FlagLayers$Reader" (.getstatic 223, 7, 0, 0) := fun p e R s m args below meth c mi d pc ad0 hown hcx hbx hini hts hK hdec => by
  intro v hv
  obtain rfl : (.ref 3 : Value) = v := Option.some.inj hv
  exact zk_st hcx hts (hK.2.1 5 _ rfl) (by rw [hown]; exact zw_657) rfl hdec
set_option maxRecDepth 20000 in
theorem lk_18_36 (D : va_G) (l : Launch) : zLk D l "FlagLayers$Reader" (.getfield 385, 9, 3, 0) := fun p e R s m args below meth c mi d pc ad0 hown hcx hbx hini hts hK hdec => by
  show zOkGet D s args (zown mi) 385 9 3
  rw [hown]
  exact zk_get hts (zuk_9 hK) zin_9 (by decide) (zFl_p hts zw_658) (Or.inl rfl)
set_option maxRecDepth 20000 in
theorem lk_18_37 (D : va_G) (l : Launch) : zLk D l "FlagLayers$Reader" (.invokestatic 389, 73, 2, 0) := fun p e R s m args below meth c mi d pc ad0 hown hcx hbx hini hts hK hdec => zk_SN (host := "FlagLayers") hcx hts zcm_73 zct_73 hdec (by rw [hown]; exact hK.2.2.2.2.1 _ (znw_mem (by decide +kernel) rfl)) zw_222 zw_2 zpd_73 rfl
set_option maxRecDepth 20000 in
theorem lk_18_38 (D : va_G) (l : Launch) : zLk D l "FlagLayers$Reader" (.getstatic 321, 21, 0, 0) := fun p e R s m args below meth c mi d pc ad0 hown hcx hbx hini hts hK hdec => by
  intro v hv
  obtain rfl : (.ref 33 : Value) = v := Option.some.inj hv
  exact zk_st hcx hts (hK.2.1 16 _ rfl) (by rw [hown]; exact zw_659) rfl hdec
set_option maxRecDepth 20000 in
theorem lk_18_39 (D : va_G) (l : Launch) : zLk D l "FlagLayers$Reader" (.invokevirtual 324, 78, 0, 8) := fun p e R s m args below meth c mi d pc ad0 hown hcx hbx hini hts hK hdec => zk_V (n := 5) hcx hts (zuk_5 hK).2.1 zcm_78 zct_78 hdec (by rw [hown]; exact zw_660) zw_661 zs_31 zw_157 rfl zpd_78 rfl
set_option maxRecDepth 20000 in
theorem lk_18_40 (D : va_G) (l : Launch) : zLk D l "FlagLayers$Reader" (.invokevirtual 328, 79, 0, 8) := fun p e R s m args below meth c mi d pc ad0 hown hcx hbx hini hts hK hdec => zk_V (n := 5) hcx hts (zuk_5 hK).2.1 zcm_79 zct_79 hdec (by rw [hown]; exact zw_662) zw_663 zs_32 zw_157 rfl zpd_79 rfl
set_option maxRecDepth 20000 in
theorem lk_18_41 (D : va_G) (l : Launch) : zLk D l "FlagLayers$Reader" (.putfield 332, 3, 4, 0) := fun p e R s m args below meth c mi d pc ad0 hown hcx hbx hini hts hK hdec => by
  show zOkPut D s args m.cls meth.name (zown mi) 332 3 4 (zty 3 4)
  rw [hown]
  exact zk_put hts (zuk_3 hK) zin_3 (by decide) (zFl_p hts zw_664) (Or.inl rfl) rfl (by decide +kernel)
set_option maxRecDepth 20000 in
theorem lk_18_42 (D : va_G) (l : Launch) : zLk D l "FlagLayers$Reader" (.putfield 338, 3, 5, 0) := fun p e R s m args below meth c mi d pc ad0 hown hcx hbx hini hts hK hdec => by
  show zOkPut D s args m.cls meth.name (zown mi) 338 3 5 (zty 3 5)
  rw [hown]
  exact zk_put hts (zuk_3 hK) zin_3 (by decide) (zFl_p hts zw_665) (Or.inl rfl) rfl (by decide +kernel)
set_option maxRecDepth 20000 in
theorem lk_18_43 (D : va_G) (l : Launch) : zLk D l "FlagLayers$Reader" (.getstatic 205, 22, 0, 0) := fun p e R s m args below meth c mi d pc ad0 hown hcx hbx hini hts hK hdec => by
  intro v hv
  obtain rfl : (.ref 8 : Value) = v := Option.some.inj hv
  exact zk_st hcx hts (hK.2.1 17 _ rfl) (by rw [hown]; exact zw_666) rfl hdec
set_option maxRecDepth 20000 in
theorem lk_18_44 (D : va_G) (l : Launch) : zLk D l "FlagLayers$Reader" (.getstatic 340, 23, 0, 0) := fun p e R s m args below meth c mi d pc ad0 hown hcx hbx hini hts hK hdec => by
  intro v hv
  obtain rfl : (.ref 31 : Value) = v := Option.some.inj hv
  exact zk_st hcx hts (hK.2.1 18 _ rfl) (by rw [hown]; exact zw_667) rfl hdec
set_option maxRecDepth 20000 in
theorem lk_18_45 (D : va_G) (l : Launch) : zLk D l "FlagLayers$Reader" (.getstatic 214, 24, 0, 0) := fun p e R s m args below meth c mi d pc ad0 hown hcx hbx hini hts hK hdec => by
  intro v hv
  obtain rfl : (.ref 9 : Value) = v := Option.some.inj hv
  exact zk_st hcx hts (hK.2.1 19 _ rfl) (by rw [hown]; exact zw_668) rfl hdec
set_option maxRecDepth 20000 in
theorem lk_18_46 (D : va_G) (l : Launch) : zLk D l "FlagLayers$Reader" (.getstatic 226, 25, 0, 0) := fun p e R s m args below meth c mi d pc ad0 hown hcx hbx hini hts hK hdec => by
  intro v hv
  obtain rfl : (.ref 34 : Value) = v := Option.some.inj hv
  exact zk_st hcx hts (hK.2.1 20 _ rfl) (by rw [hown]; exact zw_669) rfl hdec
set_option maxRecDepth 20000 in
theorem lk_18_47 (D : va_G) (l : Launch) : zLk D l "FlagLayers$Reader" (.getstatic 229, 26, 0, 0) := fun p e R s m args below meth c mi d pc ad0 hown hcx hbx hini hts hK hdec => by
  intro v hv
  obtain rfl : (.ref 35 : Value) = v := Option.some.inj hv
  exact zk_st hcx hts (hK.2.1 21 _ rfl) (by rw [hown]; exact zw_670) rfl hdec
set_option maxRecDepth 20000 in
theorem lk_18_48 (D : va_G) (l : Launch) : zLk D l "FlagLayers$Reader" (.getstatic 343, 27, 0, 0) := fun p e R s m args below meth c mi d pc ad0 hown hcx hbx hini hts hK hdec => by
  intro v hv
  obtain rfl : (.ref 30 : Value) = v := Option.some.inj hv
  exact zk_st hcx hts (hK.2.1 22 _ rfl) (by rw [hown]; exact zw_671) rfl hdec
set_option maxRecDepth 20000 in
theorem lk_18_49 (D : va_G) (l : Launch) : zLk D l "FlagLayers$Reader" (.invokevirtual 244, 81, 0, 8) := fun p e R s m args below meth c mi d pc ad0 hown hcx hbx hini hts hK hdec => zk_V (n := 5) hcx hts (zuk_5 hK).2.1 zcm_81 zct_81 hdec (by rw [hown]; exact zw_672) zw_673 zs_33 zw_157 rfl zpd_81 rfl
set_option maxRecDepth 20000 in
theorem lk_18_50 (D : va_G) (l : Launch) : zLk D l "FlagLayers$Reader" (.putfield 346, 3, 3, 0) := fun p e R s m args below meth c mi d pc ad0 hown hcx hbx hini hts hK hdec => by
  show zOkPut D s args m.cls meth.name (zown mi) 346 3 3 (zty 3 3)
  rw [hown]
  exact zk_put hts (zuk_3 hK) zin_3 (by decide) (zFl_p hts zw_674) (Or.inl rfl) rfl (by decide +kernel)
set_option maxRecDepth 20000 in
theorem lk_18_51 (D : va_G) (l : Launch) : zLk D l "FlagLayers$Reader" (.invokevirtual 349, 82, 0, 8) := fun p e R s m args below meth c mi d pc ad0 hown hcx hbx hini hts hK hdec => zk_V (n := 5) hcx hts (zuk_5 hK).2.1 zcm_82 zct_82 hdec (by rw [hown]; exact zw_675) zw_676 zs_34 zw_157 rfl zpd_82 rfl
set_option maxRecDepth 20000 in
theorem lk_18_52 (D : va_G) (l : Launch) : zLk D l "FlagLayers$Reader" (.getfield 353, 3, 0, 0) := fun p e R s m args below meth c mi d pc ad0 hown hcx hbx hini hts hK hdec => by
  show zOkGet D s args (zown mi) 353 3 0
  rw [hown]
  exact zk_get hts (zuk_3 hK) zin_3 (by decide) (zFl_p hts zw_677) (Or.inl rfl)
set_option maxRecDepth 20000 in
theorem lk_18_53 (D : va_G) (l : Launch) : zLk D l "FlagLayers$Reader" (.getstatic 354, 28, 0, 0) := fun p e R s m args below meth c mi d pc ad0 hown hcx hbx hini hts hK hdec => by
  intro v hv
  obtain rfl : (.ref 42 : Value) = v := Option.some.inj hv
  exact zk_st hcx hts (hK.2.1 23 _ rfl) (by rw [hown]; exact zw_678) rfl hdec
set_option maxRecDepth 20000 in
theorem lk_18_54 (D : va_G) (l : Launch) : zLk D l "FlagLayers$Reader" (.invokevirtual 357, 83, 0, 8) := fun p e R s m args below meth c mi d pc ad0 hown hcx hbx hini hts hK hdec => zk_V (n := 5) hcx hts (zuk_5 hK).2.1 zcm_83 zct_83 hdec (by rw [hown]; exact zw_679) zw_680 zs_35 zw_157 rfl zpd_83 rfl
set_option maxRecDepth 20000 in
theorem lk_18_55 (D : va_G) (l : Launch) : zLk D l "FlagLayers$Reader" (.invokevirtual 361, 85, 0, 8) := fun p e R s m args below meth c mi d pc ad0 hown hcx hbx hini hts hK hdec => zk_V (n := 5) hcx hts (zuk_5 hK).2.1 zcm_85 zct_85 hdec (by rw [hown]; exact zw_681) zw_682 zs_36 zw_157 rfl zpd_85 rfl
set_option maxRecDepth 20000 in
theorem lk_18_56 (D : va_G) (l : Launch) : zLk D l "FlagLayers$Reader" (.getfield 379, 4, 9, 0) := fun p e R s m args below meth c mi d pc ad0 hown hcx hbx hini hts hK hdec => by
  show zOkGet D s args (zown mi) 379 4 9
  rw [hown]
  exact zk_get hts (zuk_4 hK) zin_4 (by decide) (zFl_p hts zw_683) (Or.inl rfl)
set_option maxRecDepth 20000 in
theorem lk_18_57 (D : va_G) (l : Launch) : zLk D l "FlagLayers$Reader" (.putfield 379, 4, 9, 0) := fun p e R s m args below meth c mi d pc ad0 hown hcx hbx hini hts hK hdec => by
  show zOkPut D s args m.cls meth.name (zown mi) 379 4 9 (zty 4 9)
  rw [hown]
  exact zk_put hts (zuk_4 hK) zin_4 (by decide) (zFl_p hts zw_683) (Or.inl rfl) rfl (by decide +kernel)
set_option maxRecDepth 20000 in
theorem lk_18_58 (D : va_G) (l : Launch) : zLk D l "FlagLayers$Reader" (.new 333, 3, 6, 0) := fun p e R s m args below meth c mi d pc ad0 hown hcx hbx hini hts hK hdec => by
  show zOkNew D zclL s args (zown mi) 333 3 6 (zdf 3)
  rw [hown]
  exact zk_new hts rfl (zuk_3 hK) zin_3 (fun k => zty 3 k) ztk_3 zw_684 zw_685 zw_686 rfl zdk_3
set_option maxRecDepth 20000 in
theorem lk_18_59 (D : va_G) (l : Launch) : zLk D l "FlagLayers$Reader" (.invokespecial 382, 80, 2, 2) := fun p e R s m args below meth c mi d pc ad0 hown hcx hbx hini hts hK hdec => zk_I hcx hts zcm_80 zct_80 hdec (by rw [hown]; exact zw_687) zw_688 zw_686 rfl zpd_80 rfl
set_option maxRecDepth 20000 in
theorem lk_18_60 (D : va_G) (l : Launch) : zLk D l "FlagLayers$Reader" (.putfield 364, 3, 1, 0) := fun p e R s m args below meth c mi d pc ad0 hown hcx hbx hini hts hK hdec => by
  show zOkPut D s args m.cls meth.name (zown mi) 364 3 1 (zty 3 1)
  rw [hown]
  exact zk_put hts (zuk_3 hK) zin_3 (by decide) (zFl_p hts zw_689) (Or.inl rfl) rfl (by decide +kernel)
set_option maxRecDepth 20000 in
theorem lk_18_61 (D : va_G) (l : Launch) : zLk D l "FlagLayers$Reader" (.invokevirtual 373, 84, 0, 8) := fun p e R s m args below meth c mi d pc ad0 hown hcx hbx hini hts hK hdec => zk_V (n := 5) hcx hts (zuk_5 hK).2.1 zcm_84 zct_84 hdec (by rw [hown]; exact zw_690) zw_205 zw_204 zw_157 rfl zpd_84 rfl
set_option maxRecDepth 20000 in
theorem lk_18_62 (D : va_G) (l : Launch) : zLk D l "FlagLayers$Reader" (.putfield 376, 3, 2, 0) := fun p e R s m args below meth c mi d pc ad0 hown hcx hbx hini hts hK hdec => by
  show zOkPut D s args m.cls meth.name (zown mi) 376 3 2 (zty 3 2)
  rw [hown]
  exact zk_put hts (zuk_3 hK) zin_3 (by decide) (zFl_p hts zw_691) (Or.inl rfl) rfl (by decide +kernel)
set_option maxRecDepth 20000 in
theorem lk_18_63 (D : va_G) (l : Launch) : zLk D l "FlagLayers$Reader" (.getstatic 211, 29, 0, 0) := fun p e R s m args below meth c mi d pc ad0 hown hcx hbx hini hts hK hdec => by
  intro v hv
  obtain rfl : (.ref 11 : Value) = v := Option.some.inj hv
  exact zk_st hcx hts (hK.2.1 24 _ rfl) (by rw [hown]; exact zw_692) rfl hdec
set_option maxRecDepth 20000 in
theorem lk_18_64 (D : va_G) (l : Launch) : zLk D l "FlagLayers$Reader" (.getstatic 78, 9, 0, 0) := fun p e R s m args below meth c mi d pc ad0 hown hcx hbx hini hts hK hdec => by
  intro v hv
  obtain rfl : (.ref 4 : Value) = v := Option.some.inj hv
  exact zk_st hcx hts (hK.2.1 7 _ rfl) (by rw [hown]; exact zw_693) rfl hdec
set_option maxRecDepth 20000 in
theorem lk_18_65 (D : va_G) (l : Launch) : zLk D l "FlagLayers$Reader" (.getstatic 81, 8, 0, 0) := fun p e R s m args below meth c mi d pc ad0 hown hcx hbx hini hts hK hdec => by
  intro v hv
  obtain rfl : (.ref 5 : Value) = v := Option.some.inj hv
  exact zk_st hcx hts (hK.2.1 6 _ rfl) (by rw [hown]; exact zw_694) rfl hdec
set_option maxRecDepth 20000 in
theorem lk_18_66 (D : va_G) (l : Launch) : zLk D l "FlagLayers$Reader" (.getstatic 367, 30, 0, 0) := fun p e R s m args below meth c mi d pc ad0 hown hcx hbx hini hts hK hdec => by
  intro v hv
  obtain rfl : (.ref 43 : Value) = v := Option.some.inj hv
  exact zk_st hcx hts (hK.2.1 25 _ rfl) (by rw [hown]; exact zw_695) rfl hdec
set_option maxRecDepth 20000 in
theorem lk_18_67 (D : va_G) (l : Launch) : zLk D l "FlagLayers$Reader" (.getstatic 370, 31, 0, 0) := fun p e R s m args below meth c mi d pc ad0 hown hcx hbx hini hts hK hdec => by
  intro v hv
  obtain rfl : (.ref 36 : Value) = v := Option.some.inj hv
  exact zk_st hcx hts (hK.2.1 26 _ rfl) (by rw [hown]; exact zw_696) rfl hdec
set_option maxRecDepth 20000 in
theorem lk_18_68 (D : va_G) (l : Launch) : zLk D l "FlagLayers$Reader" (.getfield 125, 4, 4, 0) := fun p e R s m args below meth c mi d pc ad0 hown hcx hbx hini hts hK hdec => by
  show zOkGet D s args (zown mi) 125 4 4
  rw [hown]
  exact zk_get hts (zuk_4 hK) zin_4 (by decide) (zFl_p hts zw_697) (Or.inl rfl)
set_option maxRecDepth 20000 in
theorem lk_18_69 (D : va_G) (l : Launch) : zLk D l "FlagLayers$Reader" (.new 128, 0, 10, 0) := fun p e R s m args below meth c mi d pc ad0 hown hcx hbx hini hts hK hdec => by
  show zOkNew D zclL s args (zown mi) 128 0 10 (zdf 0)
  rw [hown]
  exact zk_new hts rfl (zuk_0 hK) zin_0 (fun k => zty 0 k) ztk_0 zw_698 zw_699 zw_235 rfl zdk_0
set_option maxRecDepth 20000 in
theorem lk_18_70 (D : va_G) (l : Launch) : zLk D l "FlagLayers$Reader" (.getfield 130, 4, 6, 0) := fun p e R s m args below meth c mi d pc ad0 hown hcx hbx hini hts hK hdec => by
  show zOkGet D s args (zown mi) 130 4 6
  rw [hown]
  exact zk_get hts (zuk_4 hK) zin_4 (by decide) (zFl_p hts zw_700) (Or.inl rfl)
set_option maxRecDepth 20000 in
theorem lk_18_71 (D : va_G) (l : Launch) : zLk D l "FlagLayers$Reader" (.invokespecial 133, 91, 2, 2) := fun p e R s m args below meth c mi d pc ad0 hown hcx hbx hini hts hK hdec => zk_I hcx hts zcm_91 zct_91 hdec (by rw [hown]; exact zw_701) zw_702 zw_235 rfl zpd_91 rfl
set_option maxRecDepth 20000 in
theorem lk_18_72 (D : va_G) (l : Launch) : zLk D l "FlagLayers$Reader" (.getfield 136, 4, 1, 0) := fun p e R s m args below meth c mi d pc ad0 hown hcx hbx hini hts hK hdec => by
  show zOkGet D s args (zown mi) 136 4 1
  rw [hown]
  exact zk_get hts (zuk_4 hK) zin_4 (by decide) (zFl_p hts zw_703) (Or.inl rfl)
set_option maxRecDepth 20000 in
theorem lk_18_73 (D : va_G) (l : Launch) : zLk D l "FlagLayers$Reader" (.getstatic 139, 32, 0, 0) := fun p e R s m args below meth c mi d pc ad0 hown hcx hbx hini hts hK hdec => by
  intro v hv
  obtain rfl : (.ref 12 : Value) = v := Option.some.inj hv
  exact zk_st hcx hts (hK.2.1 27 _ rfl) (by rw [hown]; exact zw_704) rfl hdec
set_option maxRecDepth 20000 in
theorem lk_18_74 (D : va_G) (l : Launch) : zLk D l "FlagLayers$Reader" (.invokevirtual 142, 93, 0, 8) := fun p e R s m args below meth c mi d pc ad0 hown hcx hbx hini hts hK hdec => zk_V (n := 5) hcx hts (zuk_5 hK).2.1 zcm_93 zct_93 hdec (by rw [hown]; exact zw_705) zw_706 zs_37 zw_157 rfl zpd_93 rfl
set_option maxRecDepth 20000 in
theorem lk_18_75 (D : va_G) (l : Launch) : zLk D l "FlagLayers$Reader" (.getstatic 146, 33, 0, 0) := fun p e R s m args below meth c mi d pc ad0 hown hcx hbx hini hts hK hdec => by
  intro v hv
  obtain rfl : (.ref 6 : Value) = v := Option.some.inj hv
  exact zk_st hcx hts (hK.2.1 28 _ rfl) (by rw [hown]; exact zw_707) rfl hdec
set_option maxRecDepth 20000 in
theorem lk_18_76 (D : va_G) (l : Launch) : zLk D l "FlagLayers$Reader" (.getstatic 149, 34, 0, 0) := fun p e R s m args below meth c mi d pc ad0 hown hcx hbx hini hts hK hdec => by
  intro v hv
  obtain rfl : (.ref 19 : Value) = v := Option.some.inj hv
  exact zk_st hcx hts (hK.2.1 29 _ rfl) (by rw [hown]; exact zw_708) rfl hdec
set_option maxRecDepth 20000 in
theorem lk_18_77 (D : va_G) (l : Launch) : zLk D l "FlagLayers$Reader" (.invokevirtual 152, 95, 0, 8) := fun p e R s m args below meth c mi d pc ad0 hown hcx hbx hini hts hK hdec => zk_V (n := 5) hcx hts (zuk_5 hK).2.1 zcm_95 zct_95 hdec (by rw [hown]; exact zw_709) zw_710 zs_38 zw_157 rfl zpd_95 rfl
set_option maxRecDepth 20000 in
theorem lk_18_78 (D : va_G) (l : Launch) : zLk D l "FlagLayers$Reader" (.putfield 156, 0, 6, 0) := fun p e R s m args below meth c mi d pc ad0 hown hcx hbx hini hts hK hdec => by
  show zOkPut D s args m.cls meth.name (zown mi) 156 0 6 (zty 0 6)
  rw [hown]
  exact zk_put hts (zuk_0 hK) zin_0 (by decide) (zFl_p hts zw_711) (Or.inl rfl) rfl (by decide +kernel)
set_option maxRecDepth 20000 in
theorem lk_18_79 (D : va_G) (l : Launch) : zLk D l "FlagLayers$Reader" (.getstatic 160, 35, 0, 0) := fun p e R s m args below meth c mi d pc ad0 hown hcx hbx hini hts hK hdec => by
  intro v hv
  obtain rfl : (.ref 20 : Value) = v := Option.some.inj hv
  exact zk_st hcx hts (hK.2.1 30 _ rfl) (by rw [hown]; exact zw_712) rfl hdec
set_option maxRecDepth 20000 in
theorem lk_18_80 (D : va_G) (l : Launch) : zLk D l "FlagLayers$Reader" (.invokevirtual 163, 99, 0, 8) := fun p e R s m args below meth c mi d pc ad0 hown hcx hbx hini hts hK hdec => zk_V (n := 5) hcx hts (zuk_5 hK).2.1 zcm_99 zct_99 hdec (by rw [hown]; exact zw_713) zw_714 zs_39 zw_157 rfl zpd_99 rfl
set_option maxRecDepth 20000 in
theorem lk_18_81 (D : va_G) (l : Launch) : zLk D l "FlagLayers$Reader" (.putfield 167, 0, 7, 0) := fun p e R s m args below meth c mi d pc ad0 hown hcx hbx hini hts hK hdec => by
  show zOkPut D s args m.cls meth.name (zown mi) 167 0 7 (zty 0 7)
  rw [hown]
  exact zk_put hts (zuk_0 hK) zin_0 (by decide) (zFl_p hts zw_715) (Or.inl rfl) rfl (by decide +kernel)
set_option maxRecDepth 20000 in
theorem lk_18_82 (D : va_G) (l : Launch) : zLk D l "FlagLayers$Reader" (.getstatic 170, 36, 0, 0) := fun p e R s m args below meth c mi d pc ad0 hown hcx hbx hini hts hK hdec => by
  intro v hv
  obtain rfl : (.ref 21 : Value) = v := Option.some.inj hv
  exact zk_st hcx hts (hK.2.1 31 _ rfl) (by rw [hown]; exact zw_716) rfl hdec
set_option maxRecDepth 20000 in
theorem lk_18_83 (D : va_G) (l : Launch) : zLk D l "FlagLayers$Reader" (.invokevirtual 173, 105, 0, 8) := fun p e R s m args below meth c mi d pc ad0 hown hcx hbx hini hts hK hdec => zk_V (n := 5) hcx hts (zuk_5 hK).2.1 zcm_105 zct_105 hdec (by rw [hown]; exact zw_717) zw_718 zs_40 zw_157 rfl zpd_105 rfl
set_option maxRecDepth 20000 in
theorem lk_18_84 (D : va_G) (l : Launch) : zLk D l "FlagLayers$Reader" (.getstatic 176, 37, 0, 0) := fun p e R s m args below meth c mi d pc ad0 hown hcx hbx hini hts hK hdec => by
  intro v hv
  obtain rfl : (.ref 22 : Value) = v := Option.some.inj hv
  exact zk_st hcx hts (hK.2.1 32 _ rfl) (by rw [hown]; exact zw_719) rfl hdec
set_option maxRecDepth 20000 in
theorem lk_18_85 (D : va_G) (l : Launch) : zLk D l "FlagLayers$Reader" (.getstatic 179, 15, 0, 0) := fun p e R s m args below meth c mi d pc ad0 hown hcx hbx hini hts hK hdec => by
  intro v hv
  obtain rfl : (.ref 14 : Value) = v := Option.some.inj hv
  exact zk_st hcx hts (hK.2.1 10 _ rfl) (by rw [hown]; exact zw_720) rfl hdec
set_option maxRecDepth 20000 in
theorem lk_18_86 (D : va_G) (l : Launch) : zLk D l "FlagLayers$Reader" (.new 182, 6, 3, 0) := fun p e R s m args below meth c mi d pc ad0 hown hcx hbx hini hts hK hdec => by
  show zOkNew D zclL s args (zown mi) 182 6 3 (zdf 6)
  rw [hown]
  exact zk_new hts rfl (zuk_6 hK) zin_6 (fun k => zty 6 k) ztk_6 zw_721 zw_722 zw_723 rfl zdk_6
set_option maxRecDepth 20000 in
theorem lk_18_87 (D : va_G) (l : Launch) : zLk D l "FlagLayers$Reader" (.invokespecial 184, 106, 2, 2) := fun p e R s m args below meth c mi d pc ad0 hown hcx hbx hini hts hK hdec => zk_I hcx hts zcm_106 zct_106 hdec (by rw [hown]; exact zw_724) zw_725 zw_723 rfl zpd_106 rfl
set_option maxRecDepth 20000 in
theorem lk_18_88 (D : va_G) (l : Launch) : zLk D l "FlagLayers$Reader" (.putfield 187, 0, 9, 0) := fun p e R s m args below meth c mi d pc ad0 hown hcx hbx hini hts hK hdec => by
  show zOkPut D s args m.cls meth.name (zown mi) 187 0 9 (zty 0 9)
  rw [hown]
  exact zk_put hts (zuk_0 hK) zin_0 (by decide) (zFl_p hts zw_726) (Or.inl rfl) rfl (by decide +kernel)
set_option maxRecDepth 20000 in
theorem lk_18_89 (D : va_G) (l : Launch) : zLk D l "FlagLayers$Reader" (.getstatic 190, 38, 0, 0) := fun p e R s m args below meth c mi d pc ad0 hown hcx hbx hini hts hK hdec => by
  intro v hv
  obtain rfl : (.ref 7 : Value) = v := Option.some.inj hv
  exact zk_st hcx hts (hK.2.1 33 _ rfl) (by rw [hown]; exact zw_727) rfl hdec
set_option maxRecDepth 20000 in
theorem lk_18_90 (D : va_G) (l : Launch) : zLk D l "FlagLayers$Reader" (.putfield 193, 0, 0, 0) := fun p e R s m args below meth c mi d pc ad0 hown hcx hbx hini hts hK hdec => by
  show zOkPut D s args m.cls meth.name (zown mi) 193 0 0 (zty 0 0)
  rw [hown]
  exact zk_put hts (zuk_0 hK) zin_0 (by decide) (zFl_p hts zw_728) (Or.inl rfl) rfl (by decide +kernel)
set_option maxRecDepth 20000 in
theorem lk_18_91 (D : va_G) (l : Launch) : zLk D l "FlagLayers$Reader" (.getstatic 196, 39, 0, 0) := fun p e R s m args below meth c mi d pc ad0 hown hcx hbx hini hts hK hdec => by
  intro v hv
  obtain rfl : (.ref 16 : Value) = v := Option.some.inj hv
  exact zk_st hcx hts (hK.2.1 34 _ rfl) (by rw [hown]; exact zw_729) rfl hdec
set_option maxRecDepth 20000 in
theorem lk_18_92 (D : va_G) (l : Launch) : zLk D l "FlagLayers$Reader" (.getstatic 199, 40, 0, 0) := fun p e R s m args below meth c mi d pc ad0 hown hcx hbx hini hts hK hdec => by
  intro v hv
  obtain rfl : (.ref 17 : Value) = v := Option.some.inj hv
  exact zk_st hcx hts (hK.2.1 35 _ rfl) (by rw [hown]; exact zw_730) rfl hdec
set_option maxRecDepth 20000 in
theorem lk_18_93 (D : va_G) (l : Launch) : zLk D l "FlagLayers$Reader" (.getstatic 202, 41, 0, 0) := fun p e R s m args below meth c mi d pc ad0 hown hcx hbx hini hts hK hdec => by
  intro v hv
  obtain rfl : (.ref 18 : Value) = v := Option.some.inj hv
  exact zk_st hcx hts (hK.2.1 36 _ rfl) (by rw [hown]; exact zw_731) rfl hdec
set_option maxRecDepth 20000 in
theorem lk_18_94 (D : va_G) (l : Launch) : zLk D l "FlagLayers$Reader" (.invokevirtual 208, 94, 0, 8) := fun p e R s m args below meth c mi d pc ad0 hown hcx hbx hini hts hK hdec => zk_V (n := 5) hcx hts (zuk_5 hK).2.1 zcm_94 zct_94 hdec (by rw [hown]; exact zw_732) zw_733 zs_41 zw_157 rfl zpd_94 rfl
set_option maxRecDepth 20000 in
theorem lk_18_95 (D : va_G) (l : Launch) : zLk D l "FlagLayers$Reader" (.getfield 217, 0, 1, 0) := fun p e R s m args below meth c mi d pc ad0 hown hcx hbx hini hts hK hdec => by
  show zOkGet D s args (zown mi) 217 0 1
  rw [hown]
  exact zk_get hts (zuk_0 hK) zin_0 (by decide) (zFl_p hts zw_734) (Or.inl rfl)
set_option maxRecDepth 20000 in
theorem lk_18_96 (D : va_G) (l : Launch) : zLk D l "FlagLayers$Reader" (.getstatic 274, 42, 0, 0) := fun p e R s m args below meth c mi d pc ad0 hown hcx hbx hini hts hK hdec => by
  intro v hv
  obtain rfl : (.ref 27 : Value) = v := Option.some.inj hv
  exact zk_st hcx hts (hK.2.1 37 _ rfl) (by rw [hown]; exact zw_735) rfl hdec
set_option maxRecDepth 20000 in
theorem lk_18_97 (D : va_G) (l : Launch) : zLk D l "FlagLayers$Reader" (.invokevirtual 277, 96, 0, 8) := fun p e R s m args below meth c mi d pc ad0 hown hcx hbx hini hts hK hdec => zk_V (n := 5) hcx hts (zuk_5 hK).2.1 zcm_96 zct_96 hdec (by rw [hown]; exact zw_736) zw_737 zs_42 zw_157 rfl zpd_96 rfl
set_option maxRecDepth 20000 in
theorem lk_18_98 (D : va_G) (l : Launch) : zLk D l "FlagLayers$Reader" (.getstatic 280, 43, 0, 0) := fun p e R s m args below meth c mi d pc ad0 hown hcx hbx hini hts hK hdec => by
  intro v hv
  obtain rfl : (.ref 28 : Value) = v := Option.some.inj hv
  exact zk_st hcx hts (hK.2.1 38 _ rfl) (by rw [hown]; exact zw_738) rfl hdec
set_option maxRecDepth 20000 in
theorem lk_18_99 (D : va_G) (l : Launch) : zLk D l "FlagLayers$Reader" (.invokevirtual 283, 104, 0, 8) := fun p e R s m args below meth c mi d pc ad0 hown hcx hbx hini hts hK hdec => zk_V (n := 5) hcx hts (zuk_5 hK).2.1 zcm_104 zct_104 hdec (by rw [hown]; exact zw_739) zw_740 zs_43 zw_157 rfl zpd_104 rfl
set_option maxRecDepth 20000 in
theorem lk_18_100 (D : va_G) (l : Launch) : zLk D l "FlagLayers$Reader" (.new 286, 7, 5, 0) := fun p e R s m args below meth c mi d pc ad0 hown hcx hbx hini hts hK hdec => by
  show zOkNew D zclL s args (zown mi) 286 7 5 (zdf 7)
  rw [hown]
  exact zk_new hts rfl (zuk_7 hK) zin_7 (fun k => zty 7 k) ztk_7 zw_741 zw_742 zw_256 rfl zdk_7
set_option maxRecDepth 20000 in
theorem lk_18_101 (D : va_G) (l : Launch) : zLk D l "FlagLayers$Reader" (.invokespecial 288, 92, 2, 2) := fun p e R s m args below meth c mi d pc ad0 hown hcx hbx hini hts hK hdec => zk_I hcx hts zcm_92 zct_92 hdec (by rw [hown]; exact zw_743) zw_744 zw_256 rfl zpd_92 rfl
set_option maxRecDepth 20000 in
theorem lk_18_102 (D : va_G) (l : Launch) : zLk D l "FlagLayers$Reader" (.invokevirtual 291, 102, 0, 10) := fun p e R s m args below meth c mi d pc ad0 hown hcx hbx hini hts hK hdec => zk_V (n := 7) hcx hts (zuk_7 hK).2.1 zcm_102 zct_102 hdec (by rw [hown]; exact zw_745) zw_747 zw_746 zw_256 rfl zpd_102 rfl
set_option maxRecDepth 20000 in
theorem lk_18_103 (D : va_G) (l : Launch) : zLk D l "FlagLayers$Reader" (.getfield 293, 4, 7, 0) := fun p e R s m args below meth c mi d pc ad0 hown hcx hbx hini hts hK hdec => by
  show zOkGet D s args (zown mi) 293 4 7
  rw [hown]
  exact zk_get hts (zuk_4 hK) zin_4 (by decide) (zFl_p hts zw_748) (Or.inl rfl)
set_option maxRecDepth 20000 in
theorem lk_18_104 (D : va_G) (l : Launch) : zLk D l "FlagLayers$Reader" (.invokevirtual 296, 97, 0, 10) := fun p e R s m args below meth c mi d pc ad0 hown hcx hbx hini hts hK hdec => zk_V (n := 7) hcx hts (zuk_7 hK).2.1 zcm_97 zct_97 hdec (by rw [hown]; exact zw_749) zw_751 zw_750 zw_256 rfl zpd_97 rfl
set_option maxRecDepth 20000 in
theorem lk_18_105 (D : va_G) (l : Launch) : zLk D l "FlagLayers$Reader" (.invokevirtual 300, 98, 0, 8) := fun p e R s m args below meth c mi d pc ad0 hown hcx hbx hini hts hK hdec => zk_V (n := 5) hcx hts (zuk_5 hK).2.1 zcm_98 zct_98 hdec (by rw [hown]; exact zw_752) zw_753 zs_44 zw_157 rfl zpd_98 rfl
set_option maxRecDepth 20000 in
theorem lk_18_106 (D : va_G) (l : Launch) : zLk D l "FlagLayers$Reader" (.invokevirtual 304, 103, 0, 10) := fun p e R s m args below meth c mi d pc ad0 hown hcx hbx hini hts hK hdec => zk_V (n := 7) hcx hts (zuk_7 hK).2.1 zcm_103 zct_103 hdec (by rw [hown]; exact zw_754) zw_756 zw_755 zw_256 rfl zpd_103 rfl
set_option maxRecDepth 20000 in
theorem lk_18_107 (D : va_G) (l : Launch) : zLk D l "FlagLayers$Reader" (.getfield 310, 9, 4, 0) := fun p e R s m args below meth c mi d pc ad0 hown hcx hbx hini hts hK hdec => by
  show zOkGet D s args (zown mi) 310 9 4
  rw [hown]
  exact zk_get hts (zuk_9 hK) zin_9 (by decide) (zFl_p hts zw_757) (Or.inl rfl)
set_option maxRecDepth 20000 in
theorem lk_18_108 (D : va_G) (l : Launch) : zLk D l "FlagLayers$Reader" (.invokevirtual 313, 100, 0, 3) := fun p e R s m args below meth c mi d pc ad0 hown hcx hbx hini hts hK hdec => zk_V (n := 0) hcx hts (zuk_0 hK).2.1 zcm_100 zct_100 hdec (by rw [hown]; exact zw_758) zw_760 zw_759 zw_235 rfl zpd_100 rfl
set_option maxRecDepth 20000 in
theorem lk_18_109 (D : va_G) (l : Launch) : zLk D l "FlagLayers$Reader" (.invokevirtual 317, 101, 0, 3) := fun p e R s m args below meth c mi d pc ad0 hown hcx hbx hini hts hK hdec => zk_V (n := 0) hcx hts (zuk_0 hK).2.1 zcm_101 zct_101 hdec (by rw [hown]; exact zw_761) zw_763 zw_762 zw_235 rfl zpd_101 rfl
set_option maxRecDepth 20000 in
theorem lk_18_110 (D : va_G) (l : Launch) : zLk D l "FlagLayers$Reader" (.getstatic 307, 44, 0, 0) := fun p e R s m args below meth c mi d pc ad0 hown hcx hbx hini hts hK hdec => by
  intro v hv
  obtain rfl : (.ref 29 : Value) = v := Option.some.inj hv
  exact zk_st hcx hts (hK.2.1 39 _ rfl) (by rw [hown]; exact zw_764) rfl hdec
set_option maxRecDepth 20000 in
theorem lk_18_111 (D : va_G) (l : Launch) : zLk D l "FlagLayers$Reader" (.getfield 220, 0, 2, 0) := fun p e R s m args below meth c mi d pc ad0 hown hcx hbx hini hts hK hdec => by
  show zOkGet D s args (zown mi) 220 0 2
  rw [hown]
  exact zk_get hts (zuk_0 hK) zin_0 (by decide) (zFl_p hts zw_765) (Or.inl rfl)
set_option maxRecDepth 20000 in
theorem lk_18_112 (D : va_G) (l : Launch) : zLk D l "FlagLayers$Reader" (.getfield 232, 0, 3, 0) := fun p e R s m args below meth c mi d pc ad0 hown hcx hbx hini hts hK hdec => by
  show zOkGet D s args (zown mi) 232 0 3
  rw [hown]
  exact zk_get hts (zuk_0 hK) zin_0 (by decide) (zFl_p hts zw_766) (Or.inl rfl)
set_option maxRecDepth 20000 in
theorem lk_18_113 (D : va_G) (l : Launch) : zLk D l "FlagLayers$Reader" (.getfield 235, 4, 5, 0) := fun p e R s m args below meth c mi d pc ad0 hown hcx hbx hini hts hK hdec => by
  show zOkGet D s args (zown mi) 235 4 5
  rw [hown]
  exact zk_get hts (zuk_4 hK) zin_4 (by decide) (zFl_p hts zw_767) (Or.inl rfl)
set_option maxRecDepth 20000 in
theorem lk_18_114 (D : va_G) (l : Launch) : zLk D l "FlagLayers$Reader" (.getfield 238, 4, 2, 0) := fun p e R s m args below meth c mi d pc ad0 hown hcx hbx hini hts hK hdec => by
  show zOkGet D s args (zown mi) 238 4 2
  rw [hown]
  exact zk_get hts (zuk_4 hK) zin_4 (by decide) (zFl_p hts zw_768) (Or.inl rfl)
set_option maxRecDepth 20000 in
theorem lk_18_115 (D : va_G) (l : Launch) : zLk D l "FlagLayers$Reader" (.getstatic 241, 45, 0, 0) := fun p e R s m args below meth c mi d pc ad0 hown hcx hbx hini hts hK hdec => by
  intro v hv
  obtain rfl : (.ref 24 : Value) = v := Option.some.inj hv
  exact zk_st hcx hts (hK.2.1 40 _ rfl) (by rw [hown]; exact zw_769) rfl hdec
set_option maxRecDepth 20000 in
theorem lk_18_116 (D : va_G) (l : Launch) : zLk D l "FlagLayers$Reader" (.new 248, 2, 5, 0) := fun p e R s m args below meth c mi d pc ad0 hown hcx hbx hini hts hK hdec => by
  show zOkNew D zclL s args (zown mi) 248 2 5 (zdf 2)
  rw [hown]
  exact zk_new hts rfl (zuk_2 hK) zin_2 (fun k => zty 2 k) ztk_2 zw_770 zw_771 zw_393 rfl zdk_2
set_option maxRecDepth 20000 in
theorem lk_18_117 (D : va_G) (l : Launch) : zLk D l "FlagLayers$Reader" (.invokespecial 250, 108, 2, 2) := fun p e R s m args below meth c mi d pc ad0 hown hcx hbx hini hts hK hdec => zk_I hcx hts zcm_108 zct_108 hdec (by rw [hown]; exact zw_772) zw_773 zw_393 rfl zpd_108 rfl
set_option maxRecDepth 20000 in
theorem lk_18_118 (D : va_G) (l : Launch) : zLk D l "FlagLayers$Reader" (.invokevirtual 252, 109, 0, 8) := fun p e R s m args below meth c mi d pc ad0 hown hcx hbx hini hts hK hdec => zk_V (n := 5) hcx hts (zuk_5 hK).2.1 zcm_109 zct_109 hdec (by rw [hown]; exact zw_774) zw_775 zs_45 zw_157 rfl zpd_109 rfl
set_option maxRecDepth 20000 in
theorem lk_18_119 (D : va_G) (l : Launch) : zLk D l "FlagLayers$Reader" (.invokevirtual 256, 74, 0, 17) := fun p e R s m args below meth c mi d pc ad0 hown hcx hbx hini hts hK hdec => zk_V (n := 14) hcx hts (zuk_14 hK).2.1 zcm_74 zct_74 hdec (by rw [hown]; exact zw_776) zw_179 zw_178 zw_176 rfl zpd_74 rfl
set_option maxRecDepth 20000 in
theorem lk_18_120 (D : va_G) (l : Launch) : zLk D l "FlagLayers$Reader" (.checkcast 128, 0, 0, 0) := fun p e R s m args below meth c mi d pc ad0 hown hcx hbx hini hts hK hdec => by
  show (Cond.classLink (zown mi) 128 (zcnm 0)).before args s = true ∧ (0 = 0 ∨ zcnm 0 = "[" ++ (FieldType.object (zcnm 0)).toString)
  rw [hown]
  exact ⟨hts _ zw_698, Or.inl rfl⟩
set_option maxRecDepth 20000 in
theorem lk_18_121 (D : va_G) (l : Launch) : zLk D l "FlagLayers$Reader" (.getfield 260, 2, 3, 0) := fun p e R s m args below meth c mi d pc ad0 hown hcx hbx hini hts hK hdec => by
  show zOkGet D s args (zown mi) 260 2 3
  rw [hown]
  exact zk_get hts (zuk_2 hK) zin_2 (by decide) (zFl_p hts zw_777) (Or.inl rfl)
set_option maxRecDepth 20000 in
theorem lk_18_122 (D : va_G) (l : Launch) : zLk D l "FlagLayers$Reader" (.putfield 260, 2, 3, 0) := fun p e R s m args below meth c mi d pc ad0 hown hcx hbx hini hts hK hdec => by
  show zOkPut D s args m.cls meth.name (zown mi) 260 2 3 (zty 2 3)
  rw [hown]
  exact zk_put hts (zuk_2 hK) zin_2 (by decide) (zFl_p hts zw_777) (Or.inl rfl) rfl (by decide +kernel)
set_option maxRecDepth 20000 in
theorem lk_18_123 (D : va_G) (l : Launch) : zLk D l "FlagLayers$Reader" (.getstatic 263, 46, 0, 0) := fun p e R s m args below meth c mi d pc ad0 hown hcx hbx hini hts hK hdec => by
  intro v hv
  obtain rfl : (.ref 25 : Value) = v := Option.some.inj hv
  exact zk_st hcx hts (hK.2.1 41 _ rfl) (by rw [hown]; exact zw_778) rfl hdec
set_option maxRecDepth 20000 in
theorem lk_18_124 (D : va_G) (l : Launch) : zLk D l "FlagLayers$Reader" (.invokevirtual 266, 110, 0, 5) := fun p e R s m args below meth c mi d pc ad0 hown hcx hbx hini hts hK hdec => zk_V (n := 2) hcx hts (zuk_2 hK).2.1 zcm_110 zct_110 hdec (by rw [hown]; exact zw_779) zw_781 zw_780 zw_393 rfl zpd_110 rfl
set_option maxRecDepth 20000 in
theorem lk_18_125 (D : va_G) (l : Launch) : zLk D l "FlagLayers$Reader" (.putfield 270, 2, 2, 0) := fun p e R s m args below meth c mi d pc ad0 hown hcx hbx hini hts hK hdec => by
  show zOkPut D s args m.cls meth.name (zown mi) 270 2 2 (zty 2 2)
  rw [hown]
  exact zk_put hts (zuk_2 hK) zin_2 (by decide) (zFl_p hts zw_782) (Or.inl rfl) rfl (by decide +kernel)
set_option maxRecDepth 20000 in
theorem lk_18_126 (D : va_G) (l : Launch) : zLk D l "FlagLayers$Reader" (.getfield 271, 4, 8, 0) := fun p e R s m args below meth c mi d pc ad0 hown hcx hbx hini hts hK hdec => by
  show zOkGet D s args (zown mi) 271 4 8
  rw [hown]
  exact zk_get hts (zuk_4 hK) zin_4 (by decide) (zFl_p hts zw_783) (Or.inl rfl)
set_option maxRecDepth 20000 in
theorem lk_18_127 (D : va_G) (l : Launch) : zLk D l "FlagLayers$Reader" (.putfield 271, 4, 8, 0) := fun p e R s m args below meth c mi d pc ad0 hown hcx hbx hini hts hK hdec => by
  show zOkPut D s args m.cls meth.name (zown mi) 271 4 8 (zty 4 8)
  rw [hown]
  exact zk_put hts (zuk_4 hK) zin_4 (by decide) (zFl_p hts zw_783) (Or.inl rfl) rfl (by decide +kernel)
set_option maxRecDepth 20000 in
theorem lk_18_128 (D : va_G) (l : Launch) : zLk D l "FlagLayers$Reader" (.invokevirtual 393, 112, 0, 3) := fun p e R s m args below meth c mi d pc ad0 hown hcx hbx hini hts hK hdec => zk_V (n := 0) hcx hts (zuk_0 hK).2.1 zcm_112 zct_112 hdec (by rw [hown]; exact zw_784) zw_437 zw_436 zw_235 rfl zpd_112 rfl
set_option maxRecDepth 20000 in
theorem lk_18_129 (D : va_G) (l : Launch) : zLk D l "FlagLayers$Reader" (.invokevirtual 396, 113, 0, 8) := fun p e R s m args below meth c mi d pc ad0 hown hcx hbx hini hts hK hdec => zk_V (n := 5) hcx hts (zuk_5 hK).2.1 zcm_113 zct_113 hdec (by rw [hown]; exact zw_785) zw_786 zs_46 zw_157 rfl zpd_113 rfl
set_option maxRecDepth 20000 in
theorem lk_18_130 (D : va_G) (l : Launch) : zLk D l "FlagLayers$Reader" (.checkcast 30, 9, 0, 0) := fun p e R s m args below meth c mi d pc ad0 hown hcx hbx hini hts hK hdec => by
  show (Cond.classLink (zown mi) 30 (zcnm 9)).before args s = true ∧ (0 = 0 ∨ zcnm 9 = "[" ++ (FieldType.object (zcnm 0)).toString)
  rw [hown]
  exact ⟨hts _ zw_787, Or.inl rfl⟩
set_option maxRecDepth 20000 in
theorem lk_18_131 (D : va_G) (l : Launch) : zLk D l "FlagLayers$Reader" (.getfield 400, 0, 4, 0) := fun p e R s m args below meth c mi d pc ad0 hown hcx hbx hini hts hK hdec => by
  show zOkGet D s args (zown mi) 400 0 4
  rw [hown]
  exact zk_get hts (zuk_0 hK) zin_0 (by decide) (zFl_p hts zw_788) (Or.inl rfl)
set_option maxRecDepth 20000 in
theorem lk_18_132 (D : va_G) (l : Launch) : zLk D l "FlagLayers$Reader" (.getfield 403, 0, 5, 0) := fun p e R s m args below meth c mi d pc ad0 hown hcx hbx hini hts hK hdec => by
  show zOkGet D s args (zown mi) 403 0 5
  rw [hown]
  exact zk_get hts (zuk_0 hK) zin_0 (by decide) (zFl_p hts zw_789) (Or.inl rfl)
set_option maxRecDepth 20000 in
theorem lk_18_133 (D : va_G) (l : Launch) : zLk D l "FlagLayers$Reader" (.invokevirtual 406, 115, 0, 7) := fun p e R s m args below meth c mi d pc ad0 hown hcx hbx hini hts hK hdec => zk_V (n := 4) hcx hts (zuk_4 hK).2.1 zcm_115 zct_115 hdec (by rw [hown]; exact zw_790) zw_342 zw_341 zw_151 rfl zpd_115 rfl
set_option maxRecDepth 20000 in
theorem lk_18_134 (D : va_G) (l : Launch) : zLk D l "FlagLayers$Reader" (.getfield 409, 4, 10, 0) := fun p e R s m args below meth c mi d pc ad0 hown hcx hbx hini hts hK hdec => by
  show zOkGet D s args (zown mi) 409 4 10
  rw [hown]
  exact zk_get hts (zuk_4 hK) zin_4 (by decide) (zFl_p hts zw_791) (Or.inl rfl)
def zlk_18 : List zRow := [(.invokespecial 3, 0, 1, 0), (.new 9, 4, 12, 0), (.invokespecial 11, 5, 2, 2), (.putfield 12, 5, 0, 0), (.putfield 18, 5, 1, 0), (.putfield 22, 5, 2, 0), (.putfield 25, 5, 3, 0), (.getfield 25, 5, 3, 0), (.getfield 29, 9, 0, 0), (.getstatic 35, 1, 0, 0), (.getstatic 40, 17, 0, 0), (.invokevirtual 46, 66, 2, 18), (.invokevirtual 50, 67, 0, 8), (.invokevirtual 53, 90, 0, 8), (.invokevirtual 56, 107, 0, 8), (.invokevirtual 59, 70, 0, 8), (.invokevirtual 63, 111, 0, 8), (.getfield 12, 5, 0, 0), (.invokevirtual 66, 114, 0, 7), (.invokevirtual 69, 117, 0, 8), (.invokevirtual 72, 118, 0, 7), (.getfield 84, 4, 3, 0), (.invokevirtual 88, 68, 0, 17), (.invokevirtual 93, 69, 0, 8), (.getfield 97, 4, 0, 0), (.invokevirtual 100, 72, 0, 8), (.getstatic 104, 18, 0, 0), (.invokevirtual 107, 71, 0, 8), (.getstatic 111, 19, 0, 0), (.invokevirtual 114, 77, 0, 8), (.getstatic 118, 20, 0, 0), (.invokevirtual 121, 86, 0, 17), (.getstatic 412, 2, 0, 0), (.getfield 415, 9, 1, 0), (.getfield 75, 9, 5, 0), (.getstatic 223, 7, 0, 0), (.getfield 385, 9, 3, 0), (.invokestatic 389, 73, 2, 0), (.getstatic 321, 21, 0, 0), (.invokevirtual 324, 78, 0, 8), (.invokevirtual 328, 79, 0, 8), (.putfield 332, 3, 4, 0), (.putfield 338, 3, 5, 0), (.getstatic 205, 22, 0, 0), (.getstatic 340, 23, 0, 0), (.getstatic 214, 24, 0, 0), (.getstatic 226, 25, 0, 0), (.getstatic 229, 26, 0, 0), (.getstatic 343, 27, 0, 0), (.invokevirtual 244, 81, 0, 8), (.putfield 346, 3, 3, 0), (.invokevirtual 349, 82, 0, 8), (.getfield 353, 3, 0, 0), (.getstatic 354, 28, 0, 0), (.invokevirtual 357, 83, 0, 8), (.invokevirtual 361, 85, 0, 8), (.getfield 379, 4, 9, 0), (.putfield 379, 4, 9, 0), (.new 333, 3, 6, 0), (.invokespecial 382, 80, 2, 2), (.putfield 364, 3, 1, 0), (.invokevirtual 373, 84, 0, 8), (.putfield 376, 3, 2, 0), (.getstatic 211, 29, 0, 0), (.getstatic 78, 9, 0, 0), (.getstatic 81, 8, 0, 0), (.getstatic 367, 30, 0, 0), (.getstatic 370, 31, 0, 0), (.getfield 125, 4, 4, 0), (.new 128, 0, 10, 0), (.getfield 130, 4, 6, 0), (.invokespecial 133, 91, 2, 2), (.getfield 136, 4, 1, 0), (.getstatic 139, 32, 0, 0), (.invokevirtual 142, 93, 0, 8), (.getstatic 146, 33, 0, 0), (.getstatic 149, 34, 0, 0), (.invokevirtual 152, 95, 0, 8), (.putfield 156, 0, 6, 0), (.getstatic 160, 35, 0, 0), (.invokevirtual 163, 99, 0, 8), (.putfield 167, 0, 7, 0), (.getstatic 170, 36, 0, 0), (.invokevirtual 173, 105, 0, 8), (.getstatic 176, 37, 0, 0), (.getstatic 179, 15, 0, 0), (.new 182, 6, 3, 0), (.invokespecial 184, 106, 2, 2), (.putfield 187, 0, 9, 0), (.getstatic 190, 38, 0, 0), (.putfield 193, 0, 0, 0), (.getstatic 196, 39, 0, 0), (.getstatic 199, 40, 0, 0), (.getstatic 202, 41, 0, 0), (.invokevirtual 208, 94, 0, 8), (.getfield 217, 0, 1, 0), (.getstatic 274, 42, 0, 0), (.invokevirtual 277, 96, 0, 8), (.getstatic 280, 43, 0, 0), (.invokevirtual 283, 104, 0, 8), (.new 286, 7, 5, 0), (.invokespecial 288, 92, 2, 2), (.invokevirtual 291, 102, 0, 10), (.getfield 293, 4, 7, 0), (.invokevirtual 296, 97, 0, 10), (.invokevirtual 300, 98, 0, 8), (.invokevirtual 304, 103, 0, 10), (.getfield 310, 9, 4, 0), (.invokevirtual 313, 100, 0, 3), (.invokevirtual 317, 101, 0, 3), (.getstatic 307, 44, 0, 0), (.getfield 220, 0, 2, 0), (.getfield 232, 0, 3, 0), (.getfield 235, 4, 5, 0), (.getfield 238, 4, 2, 0), (.getstatic 241, 45, 0, 0), (.new 248, 2, 5, 0), (.invokespecial 250, 108, 2, 2), (.invokevirtual 252, 109, 0, 8), (.invokevirtual 256, 74, 0, 17), (.checkcast 128, 0, 0, 0), (.getfield 260, 2, 3, 0), (.putfield 260, 2, 3, 0), (.getstatic 263, 46, 0, 0), (.invokevirtual 266, 110, 0, 5), (.putfield 270, 2, 2, 0), (.getfield 271, 4, 8, 0), (.putfield 271, 4, 8, 0), (.invokevirtual 393, 112, 0, 3), (.invokevirtual 396, 113, 0, 8), (.checkcast 30, 9, 0, 0), (.getfield 400, 0, 4, 0), (.getfield 403, 0, 5, 0), (.invokevirtual 406, 115, 0, 7), (.getfield 409, 4, 10, 0)]
set_option maxRecDepth 20000 in
theorem zlkA_18 (D : va_G) (l : Launch) : ∀ t ∈ zlk_18, zLk D l "FlagLayers$Reader" t := zlkc (lk_18_0 D l) (zlkc (lk_18_1 D l) (zlkc (lk_18_2 D l) (zlkc (lk_18_3 D l) (zlkc (lk_18_4 D l) (zlkc (lk_18_5 D l) (zlkc (lk_18_6 D l) (zlkc (lk_18_7 D l) (zlkc (lk_18_8 D l) (zlkc (lk_18_9 D l) (zlkc (lk_18_10 D l) (zlkc (lk_18_11 D l) (zlkc (lk_18_12 D l) (zlkc (lk_18_13 D l) (zlkc (lk_18_14 D l) (zlkc (lk_18_15 D l) (zlkc (lk_18_16 D l) (zlkc (lk_18_17 D l) (zlkc (lk_18_18 D l) (zlkc (lk_18_19 D l) (zlkc (lk_18_20 D l) (zlkc (lk_18_21 D l) (zlkc (lk_18_22 D l) (zlkc (lk_18_23 D l) (zlkc (lk_18_24 D l) (zlkc (lk_18_25 D l) (zlkc (lk_18_26 D l) (zlkc (lk_18_27 D l) (zlkc (lk_18_28 D l) (zlkc (lk_18_29 D l) (zlkc (lk_18_30 D l) (zlkc (lk_18_31 D l) (zlkc (lk_18_32 D l) (zlkc (lk_18_33 D l) (zlkc (lk_18_34 D l) (zlkc (lk_18_35 D l) (zlkc (lk_18_36 D l) (zlkc (lk_18_37 D l) (zlkc (lk_18_38 D l) (zlkc (lk_18_39 D l) (zlkc (lk_18_40 D l) (zlkc (lk_18_41 D l) (zlkc (lk_18_42 D l) (zlkc (lk_18_43 D l) (zlkc (lk_18_44 D l) (zlkc (lk_18_45 D l) (zlkc (lk_18_46 D l) (zlkc (lk_18_47 D l) (zlkc (lk_18_48 D l) (zlkc (lk_18_49 D l) (zlkc (lk_18_50 D l) (zlkc (lk_18_51 D l) (zlkc (lk_18_52 D l) (zlkc (lk_18_53 D l) (zlkc (lk_18_54 D l) (zlkc (lk_18_55 D l) (zlkc (lk_18_56 D l) (zlkc (lk_18_57 D l) (zlkc (lk_18_58 D l) (zlkc (lk_18_59 D l) (zlkc (lk_18_60 D l) (zlkc (lk_18_61 D l) (zlkc (lk_18_62 D l) (zlkc (lk_18_63 D l) (zlkc (lk_18_64 D l) (zlkc (lk_18_65 D l) (zlkc (lk_18_66 D l) (zlkc (lk_18_67 D l) (zlkc (lk_18_68 D l) (zlkc (lk_18_69 D l) (zlkc (lk_18_70 D l) (zlkc (lk_18_71 D l) (zlkc (lk_18_72 D l) (zlkc (lk_18_73 D l) (zlkc (lk_18_74 D l) (zlkc (lk_18_75 D l) (zlkc (lk_18_76 D l) (zlkc (lk_18_77 D l) (zlkc (lk_18_78 D l) (zlkc (lk_18_79 D l) (zlkc (lk_18_80 D l) (zlkc (lk_18_81 D l) (zlkc (lk_18_82 D l) (zlkc (lk_18_83 D l) (zlkc (lk_18_84 D l) (zlkc (lk_18_85 D l) (zlkc (lk_18_86 D l) (zlkc (lk_18_87 D l) (zlkc (lk_18_88 D l) (zlkc (lk_18_89 D l) (zlkc (lk_18_90 D l) (zlkc (lk_18_91 D l) (zlkc (lk_18_92 D l) (zlkc (lk_18_93 D l) (zlkc (lk_18_94 D l) (zlkc (lk_18_95 D l) (zlkc (lk_18_96 D l) (zlkc (lk_18_97 D l) (zlkc (lk_18_98 D l) (zlkc (lk_18_99 D l) (zlkc (lk_18_100 D l) (zlkc (lk_18_101 D l) (zlkc (lk_18_102 D l) (zlkc (lk_18_103 D l) (zlkc (lk_18_104 D l) (zlkc (lk_18_105 D l) (zlkc (lk_18_106 D l) (zlkc (lk_18_107 D l) (zlkc (lk_18_108 D l) (zlkc (lk_18_109 D l) (zlkc (lk_18_110 D l) (zlkc (lk_18_111 D l) (zlkc (lk_18_112 D l) (zlkc (lk_18_113 D l) (zlkc (lk_18_114 D l) (zlkc (lk_18_115 D l) (zlkc (lk_18_116 D l) (zlkc (lk_18_117 D l) (zlkc (lk_18_118 D l) (zlkc (lk_18_119 D l) (zlkc (lk_18_120 D l) (zlkc (lk_18_121 D l) (zlkc (lk_18_122 D l) (zlkc (lk_18_123 D l) (zlkc (lk_18_124 D l) (zlkc (lk_18_125 D l) (zlkc (lk_18_126 D l) (zlkc (lk_18_127 D l) (zlkc (lk_18_128 D l) (zlkc (lk_18_129 D l) (zlkc (lk_18_130 D l) (zlkc (lk_18_131 D l) (zlkc (lk_18_132 D l) (zlkc (lk_18_133 D l) (zlkc (lk_18_134 D l) (zlkn)))))))))))))))))))))))))))))))))))))))))))))))))))))))))))))))))))))))))))))))))))))))))))))))))))))))))))))))))))))))))))))))))))))))

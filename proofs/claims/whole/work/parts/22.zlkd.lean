/-! WHAT THE LINKS OWE, class by class (written by a program of the verifier's) -/
set_option maxRecDepth 20000 in
theorem lk_19_0 (D : va_G) (l : Launch) : zLk D l "java/lang/Enum" (.getfield 7, 15, 0, 0) := fun p e R s m args below meth c mi d pc ad0 hown hcx hbx hini hts hK hdec => by
  show zOkGet D s args (zown mi) 7 15 0
  rw [hown]
  exact zk_getS hts (hK.2.2.2.2.2.1 _ (zg_mem (l := zLsf) (i := 0) rfl)) zw_792
def zlk_19 : List zRow := [(.getfield 7, 15, 0, 0)]
set_option maxRecDepth 20000 in
theorem zlkA_19 (D : va_G) (l : Launch) : ∀ t ∈ zlk_19, zLk D l "java/lang/Enum" t := zlkc (lk_19_0 D l) (zlkn)
set_option maxRecDepth 20000 in
theorem lk_20_0 (D : va_G) (l : Launch) : zLk D l "java/util/Objects" (.invokestatic 105, 63, 0, 0) := fun p e R s m args below meth c mi d pc ad0 hown hcx hbx hini hts hK hdec => zk_S hcx hts zcm_63 zct_63 hdec (by rw [hown]; exact zw_793) zw_553 zw_554 zpd_63 rfl
def zlk_20 : List zRow := [(.invokestatic 105, 63, 0, 0)]
set_option maxRecDepth 20000 in
theorem zlkA_20 (D : va_G) (l : Launch) : ∀ t ∈ zlk_20, zLk D l "java/util/Objects" t := zlkc (lk_20_0 D l) (zlkn)
set_option maxRecDepth 20000 in
theorem lk_21_0 (D : va_G) (l : Launch) : zLk D l "FlagLayers$Part" (.invokespecial 3, 0, 1, 0) := fun p e R s m args below meth c mi d pc ad0 hown hcx hbx hini hts hK hdec => by
  show zOkObj s args (zown mi) (.invokespecial 3)
  rw [hown]
  exact ⟨hts _ zw_794, hts _ zw_137, hts _ (zT_mem (zt_1 44 rfl) rfl)⟩
set_option maxRecDepth 20000 in
theorem lk_21_1 (D : va_G) (l : Launch) : zLk D l "FlagLayers$Part" (.putfield 9, 3, 1, 0) := fun p e R s m args below meth c mi d pc ad0 hown hcx hbx hini hts hK hdec => by
  show zOkPut D s args m.cls meth.name (zown mi) 9 3 1 (zty 3 1)
  rw [hown]
  exact zk_put hts (zuk_3 hK) zin_3 (by decide) (zFl_p hts zw_795) (Or.inl rfl) rfl (by decide +kernel)
set_option maxRecDepth 20000 in
theorem lk_21_2 (D : va_G) (l : Launch) : zLk D l "FlagLayers$Part" (.putfield 15, 3, 2, 0) := fun p e R s m args below meth c mi d pc ad0 hown hcx hbx hini hts hK hdec => by
  show zOkPut D s args m.cls meth.name (zown mi) 15 3 2 (zty 3 2)
  rw [hown]
  exact zk_put hts (zuk_3 hK) zin_3 (by decide) (zFl_p hts zw_796) (Or.inl rfl) rfl (by decide +kernel)
set_option maxRecDepth 20000 in
theorem lk_21_3 (D : va_G) (l : Launch) : zLk D l "FlagLayers$Part" (.putfield 18, 3, 3, 0) := fun p e R s m args below meth c mi d pc ad0 hown hcx hbx hini hts hK hdec => by
  show zOkPut D s args m.cls meth.name (zown mi) 18 3 3 (zty 3 3)
  rw [hown]
  exact zk_put hts (zuk_3 hK) zin_3 (by decide) (zFl_p hts zw_797) (Or.inl rfl) rfl (by decide +kernel)
set_option maxRecDepth 20000 in
theorem lk_21_4 (D : va_G) (l : Launch) : zLk D l "FlagLayers$Part" (.putfield 22, 3, 4, 0) := fun p e R s m args below meth c mi d pc ad0 hown hcx hbx hini hts hK hdec => by
  show zOkPut D s args m.cls meth.name (zown mi) 22 3 4 (zty 3 4)
  rw [hown]
  exact zk_put hts (zuk_3 hK) zin_3 (by decide) (zFl_p hts zw_798) (Or.inl rfl) rfl (by decide +kernel)
set_option maxRecDepth 20000 in
theorem lk_21_5 (D : va_G) (l : Launch) : zLk D l "FlagLayers$Part" (.putfield 26, 3, 5, 0) := fun p e R s m args below meth c mi d pc ad0 hown hcx hbx hini hts hK hdec => by
  show zOkPut D s args m.cls meth.name (zown mi) 26 3 5 (zty 3 5)
  rw [hown]
  exact zk_put hts (zuk_3 hK) zin_3 (by decide) (zFl_p hts zw_799) (Or.inl rfl) rfl (by decide +kernel)
set_option maxRecDepth 20000 in
theorem lk_21_6 (D : va_G) (l : Launch) : zLk D l "FlagLayers$Part" (.putfield 29, 3, 0, 0) := fun p e R s m args below meth c mi d pc ad0 hown hcx hbx hini hts hK hdec => by
  show zOkPut D s args m.cls meth.name (zown mi) 29 3 0 (zty 3 0)
  have hc := hcx.2.2.2.2.2.1
  rw [hown] at hc ⊢
  exact zk_putF hts (zuk_3 hK) zin_3 (by decide) zw_800 rfl hc (hbx.2.trans (hini rfl)) rfl (by decide +kernel)
def zlk_21 : List zRow := [(.invokespecial 3, 0, 1, 0), (.putfield 9, 3, 1, 0), (.putfield 15, 3, 2, 0), (.putfield 18, 3, 3, 0), (.putfield 22, 3, 4, 0), (.putfield 26, 3, 5, 0), (.putfield 29, 3, 0, 0)]
set_option maxRecDepth 20000 in
theorem zlkA_21 (D : va_G) (l : Launch) : ∀ t ∈ zlk_21, zLk D l "FlagLayers$Part" t := zlkc (lk_21_0 D l) (zlkc (lk_21_1 D l) (zlkc (lk_21_2 D l) (zlkc (lk_21_3 D l) (zlkc (lk_21_4 D l) (zlkc (lk_21_5 D l) (zlkc (lk_21_6 D l) (zlkn)))))))
set_option maxRecDepth 20000 in
theorem lk_22_0 (D : va_G) (l : Launch) : zLk D l "FlagLayers$Flag" (.invokespecial 3, 0, 1, 0) := fun p e R s m args below meth c mi d pc ad0 hown hcx hbx hini hts hK hdec => by
  show zOkObj s args (zown mi) (.invokespecial 3)
  rw [hown]
  exact ⟨hts _ zw_801, hts _ zw_137, hts _ (zT_mem (zt_1 44 rfl) rfl)⟩
set_option maxRecDepth 20000 in
theorem lk_22_1 (D : va_G) (l : Launch) : zLk D l "FlagLayers$Flag" (.getstatic 9, 39, 0, 0) := fun p e R s m args below meth c mi d pc ad0 hown hcx hbx hini hts hK hdec => by
  intro v hv
  obtain rfl : (.ref 16 : Value) = v := Option.some.inj hv
  exact zk_st hcx hts (hK.2.1 34 _ rfl) (by rw [hown]; exact zw_802) rfl hdec
set_option maxRecDepth 20000 in
theorem lk_22_2 (D : va_G) (l : Launch) : zLk D l "FlagLayers$Flag" (.putfield 15, 0, 0, 0) := fun p e R s m args below meth c mi d pc ad0 hown hcx hbx hini hts hK hdec => by
  show zOkPut D s args m.cls meth.name (zown mi) 15 0 0 (zty 0 0)
  rw [hown]
  exact zk_put hts (zuk_0 hK) zin_0 (by decide) (zFl_p hts zw_803) (Or.inl rfl) rfl (by decide +kernel)
set_option maxRecDepth 20000 in
theorem lk_22_3 (D : va_G) (l : Launch) : zLk D l "FlagLayers$Flag" (.new 20, 14, 3, 0) := fun p e R s m args below meth c mi d pc ad0 hown hcx hbx hini hts hK hdec => by
  show zOkNew D zclL s args (zown mi) 20 14 3 (zdf 14)
  rw [hown]
  exact zk_new hts rfl (zuk_14 hK) zin_14 (fun k => zty 14 k) ztk_14 zw_804 zw_445 zw_176 rfl zdk_14
set_option maxRecDepth 20000 in
theorem lk_22_4 (D : va_G) (l : Launch) : zLk D l "FlagLayers$Flag" (.invokespecial 22, 6, 2, 2) := fun p e R s m args below meth c mi d pc ad0 hown hcx hbx hini hts hK hdec => zk_I hcx hts zcm_6 zct_6 hdec (by rw [hown]; exact zw_805) zw_447 zw_176 rfl zpd_6 rfl
set_option maxRecDepth 20000 in
theorem lk_22_5 (D : va_G) (l : Launch) : zLk D l "FlagLayers$Flag" (.putfield 23, 0, 1, 0) := fun p e R s m args below meth c mi d pc ad0 hown hcx hbx hini hts hK hdec => by
  show zOkPut D s args m.cls meth.name (zown mi) 23 0 1 (zty 0 1)
  have hc := hcx.2.2.2.2.2.1
  rw [hown] at hc ⊢
  exact zk_putF hts (zuk_0 hK) zin_0 (by decide) zw_806 rfl hc (hbx.2.trans (hini rfl)) rfl (by decide +kernel)
set_option maxRecDepth 20000 in
theorem lk_22_6 (D : va_G) (l : Launch) : zLk D l "FlagLayers$Flag" (.putfield 27, 0, 2, 0) := fun p e R s m args below meth c mi d pc ad0 hown hcx hbx hini hts hK hdec => by
  show zOkPut D s args m.cls meth.name (zown mi) 27 0 2 (zty 0 2)
  have hc := hcx.2.2.2.2.2.1
  rw [hown] at hc ⊢
  exact zk_putF hts (zuk_0 hK) zin_0 (by decide) zw_807 rfl hc (hbx.2.trans (hini rfl)) rfl (by decide +kernel)
set_option maxRecDepth 20000 in
theorem lk_22_7 (D : va_G) (l : Launch) : zLk D l "FlagLayers$Flag" (.putfield 30, 0, 3, 0) := fun p e R s m args below meth c mi d pc ad0 hown hcx hbx hini hts hK hdec => by
  show zOkPut D s args m.cls meth.name (zown mi) 30 0 3 (zty 0 3)
  have hc := hcx.2.2.2.2.2.1
  rw [hown] at hc ⊢
  exact zk_putF hts (zuk_0 hK) zin_0 (by decide) zw_808 rfl hc (hbx.2.trans (hini rfl)) rfl (by decide +kernel)
set_option maxRecDepth 20000 in
theorem lk_22_8 (D : va_G) (l : Launch) : zLk D l "FlagLayers$Flag" (.putfield 33, 0, 4, 0) := fun p e R s m args below meth c mi d pc ad0 hown hcx hbx hini hts hK hdec => by
  show zOkPut D s args m.cls meth.name (zown mi) 33 0 4 (zty 0 4)
  have hc := hcx.2.2.2.2.2.1
  rw [hown] at hc ⊢
  exact zk_putF hts (zuk_0 hK) zin_0 (by decide) zw_809 rfl hc (hbx.2.trans (hini rfl)) rfl (by decide +kernel)
set_option maxRecDepth 20000 in
theorem lk_22_9 (D : va_G) (l : Launch) : zLk D l "FlagLayers$Flag" (.putfield 37, 0, 5, 0) := fun p e R s m args below meth c mi d pc ad0 hown hcx hbx hini hts hK hdec => by
  show zOkPut D s args m.cls meth.name (zown mi) 37 0 5 (zty 0 5)
  have hc := hcx.2.2.2.2.2.1
  rw [hown] at hc ⊢
  exact zk_putF hts (zuk_0 hK) zin_0 (by decide) zw_810 rfl hc (hbx.2.trans (hini rfl)) rfl (by decide +kernel)
set_option maxRecDepth 20000 in
theorem lk_22_10 (D : va_G) (l : Launch) : zLk D l "FlagLayers$Flag" (.new 40, 7, 5, 0) := fun p e R s m args below meth c mi d pc ad0 hown hcx hbx hini hts hK hdec => by
  show zOkNew D zclL s args (zown mi) 40 7 5 (zdf 7)
  rw [hown]
  exact zk_new hts rfl (zuk_7 hK) zin_7 (fun k => zty 7 k) ztk_7 zw_811 zw_742 zw_256 rfl zdk_7
set_option maxRecDepth 20000 in
theorem lk_22_11 (D : va_G) (l : Launch) : zLk D l "FlagLayers$Flag" (.invokespecial 42, 92, 2, 2) := fun p e R s m args below meth c mi d pc ad0 hown hcx hbx hini hts hK hdec => zk_I hcx hts zcm_92 zct_92 hdec (by rw [hown]; exact zw_812) zw_744 zw_256 rfl zpd_92 rfl
set_option maxRecDepth 20000 in
theorem lk_22_12 (D : va_G) (l : Launch) : zLk D l "FlagLayers$Flag" (.putfield 45, 0, 6, 0) := fun p e R s m args below meth c mi d pc ad0 hown hcx hbx hini hts hK hdec => by
  show zOkPut D s args m.cls meth.name (zown mi) 45 0 6 (zty 0 6)
  rw [hown]
  exact zk_put hts (zuk_0 hK) zin_0 (by decide) (zFl_p hts zw_813) (Or.inl rfl) rfl (by decide +kernel)
set_option maxRecDepth 20000 in
theorem lk_22_13 (D : va_G) (l : Launch) : zLk D l "FlagLayers$Flag" (.putfield 49, 0, 7, 0) := fun p e R s m args below meth c mi d pc ad0 hown hcx hbx hini hts hK hdec => by
  show zOkPut D s args m.cls meth.name (zown mi) 49 0 7 (zty 0 7)
  rw [hown]
  exact zk_put hts (zuk_0 hK) zin_0 (by decide) (zFl_p hts zw_814) (Or.inl rfl) rfl (by decide +kernel)
set_option maxRecDepth 20000 in
theorem lk_22_14 (D : va_G) (l : Launch) : zLk D l "FlagLayers$Flag" (.putfield 53, 0, 8, 0) := fun p e R s m args below meth c mi d pc ad0 hown hcx hbx hini hts hK hdec => by
  show zOkPut D s args m.cls meth.name (zown mi) 53 0 8 (zty 0 8)
  have hc := hcx.2.2.2.2.2.1
  rw [hown] at hc ⊢
  exact zk_putF hts (zuk_0 hK) zin_0 (by decide) zw_815 rfl hc (hbx.2.trans (hini rfl)) rfl (by decide +kernel)
set_option maxRecDepth 20000 in
theorem lk_22_15 (D : va_G) (l : Launch) : zLk D l "FlagLayers$Flag" (.putfield 56, 0, 9, 0) := fun p e R s m args below meth c mi d pc ad0 hown hcx hbx hini hts hK hdec => by
  show zOkPut D s args m.cls meth.name (zown mi) 56 0 9 (zty 0 9)
  rw [hown]
  exact zk_put hts (zuk_0 hK) zin_0 (by decide) (zFl_p hts zw_816) (Or.inl rfl) rfl (by decide +kernel)
set_option maxRecDepth 20000 in
theorem lk_22_16 (D : va_G) (l : Launch) : zLk D l "FlagLayers$Flag" (.getfield 15, 0, 0, 0) := fun p e R s m args below meth c mi d pc ad0 hown hcx hbx hini hts hK hdec => by
  show zOkGet D s args (zown mi) 15 0 0
  rw [hown]
  exact zk_get hts (zuk_0 hK) zin_0 (by decide) (zFl_p hts zw_803) (Or.inl rfl)
set_option maxRecDepth 20000 in
theorem lk_22_17 (D : va_G) (l : Launch) : zLk D l "FlagLayers$Flag" (.getfield 75, 9, 0, 0) := fun p e R s m args below meth c mi d pc ad0 hown hcx hbx hini hts hK hdec => by
  show zOkGet D s args (zown mi) 75 9 0
  rw [hown]
  exact zk_get hts (zuk_9 hK) zin_9 (by decide) (zFl_p hts zw_817) (Or.inl rfl)
set_option maxRecDepth 20000 in
theorem lk_22_18 (D : va_G) (l : Launch) : zLk D l "FlagLayers$Flag" (.getstatic 80, 25, 0, 0) := fun p e R s m args below meth c mi d pc ad0 hown hcx hbx hini hts hK hdec => by
  intro v hv
  obtain rfl : (.ref 34 : Value) = v := Option.some.inj hv
  exact zk_st hcx hts (hK.2.1 20 _ rfl) (by rw [hown]; exact zw_818) rfl hdec
set_option maxRecDepth 20000 in
theorem lk_22_19 (D : va_G) (l : Launch) : zLk D l "FlagLayers$Flag" (.getstatic 83, 26, 0, 0) := fun p e R s m args below meth c mi d pc ad0 hown hcx hbx hini hts hK hdec => by
  intro v hv
  obtain rfl : (.ref 35 : Value) = v := Option.some.inj hv
  exact zk_st hcx hts (hK.2.1 21 _ rfl) (by rw [hown]; exact zw_819) rfl hdec
set_option maxRecDepth 20000 in
theorem lk_22_20 (D : va_G) (l : Launch) : zLk D l "FlagLayers$Flag" (.getstatic 59, 40, 0, 0) := fun p e R s m args below meth c mi d pc ad0 hown hcx hbx hini hts hK hdec => by
  intro v hv
  obtain rfl : (.ref 17 : Value) = v := Option.some.inj hv
  exact zk_st hcx hts (hK.2.1 35 _ rfl) (by rw [hown]; exact zw_820) rfl hdec
set_option maxRecDepth 20000 in
theorem lk_22_21 (D : va_G) (l : Launch) : zLk D l "FlagLayers$Flag" (.getstatic 86, 9, 0, 0) := fun p e R s m args below meth c mi d pc ad0 hown hcx hbx hini hts hK hdec => by
  intro v hv
  obtain rfl : (.ref 4 : Value) = v := Option.some.inj hv
  exact zk_st hcx hts (hK.2.1 7 _ rfl) (by rw [hown]; exact zw_821) rfl hdec
set_option maxRecDepth 20000 in
theorem lk_22_22 (D : va_G) (l : Launch) : zLk D l "FlagLayers$Flag" (.getstatic 89, 7, 0, 0) := fun p e R s m args below meth c mi d pc ad0 hown hcx hbx hini hts hK hdec => by
  intro v hv
  obtain rfl : (.ref 3 : Value) = v := Option.some.inj hv
  exact zk_st hcx hts (hK.2.1 5 _ rfl) (by rw [hown]; exact zw_822) rfl hdec
set_option maxRecDepth 20000 in
theorem lk_22_23 (D : va_G) (l : Launch) : zLk D l "FlagLayers$Flag" (.getfield 23, 0, 1, 0) := fun p e R s m args below meth c mi d pc ad0 hown hcx hbx hini hts hK hdec => by
  show zOkGet D s args (zown mi) 23 0 1
  rw [hown]
  exact zk_get hts (zuk_0 hK) zin_0 (by decide) (zFl_p hts zw_806) (Or.inl rfl)
set_option maxRecDepth 20000 in
theorem lk_22_24 (D : va_G) (l : Launch) : zLk D l "FlagLayers$Flag" (.getfield 92, 9, 3, 0) := fun p e R s m args below meth c mi d pc ad0 hown hcx hbx hini hts hK hdec => by
  show zOkGet D s args (zown mi) 92 9 3
  rw [hown]
  exact zk_get hts (zuk_9 hK) zin_9 (by decide) (zFl_p hts zw_823) (Or.inl rfl)
set_option maxRecDepth 20000 in
theorem lk_22_25 (D : va_G) (l : Launch) : zLk D l "FlagLayers$Flag" (.invokestatic 96, 73, 2, 0) := fun p e R s m args below meth c mi d pc ad0 hown hcx hbx hini hts hK hdec => zk_SN (host := "FlagLayers") hcx hts zcm_73 zct_73 hdec (by rw [hown]; exact hK.2.2.2.2.1 _ (znw_mem (by decide +kernel) rfl)) zw_222 zw_2 zpd_73 rfl
set_option maxRecDepth 20000 in
theorem lk_22_26 (D : va_G) (l : Launch) : zLk D l "FlagLayers$Flag" (.getfield 100, 9, 4, 0) := fun p e R s m args below meth c mi d pc ad0 hown hcx hbx hini hts hK hdec => by
  show zOkGet D s args (zown mi) 100 9 4
  rw [hown]
  exact zk_get hts (zuk_9 hK) zin_9 (by decide) (zFl_p hts zw_824) (Or.inl rfl)
set_option maxRecDepth 20000 in
theorem lk_22_27 (D : va_G) (l : Launch) : zLk D l "FlagLayers$Flag" (.getfield 27, 0, 2, 0) := fun p e R s m args below meth c mi d pc ad0 hown hcx hbx hini hts hK hdec => by
  show zOkGet D s args (zown mi) 27 0 2
  rw [hown]
  exact zk_get hts (zuk_0 hK) zin_0 (by decide) (zFl_p hts zw_807) (Or.inl rfl)
set_option maxRecDepth 20000 in
theorem lk_22_28 (D : va_G) (l : Launch) : zLk D l "FlagLayers$Flag" (.invokevirtual 62, 68, 0, 17) := fun p e R s m args below meth c mi d pc ad0 hown hcx hbx hini hts hK hdec => zk_V (n := 14) hcx hts (zuk_14 hK).2.1 zcm_68 zct_68 hdec (by rw [hown]; exact zw_825) zw_175 zw_174 zw_176 rfl zpd_68 rfl
set_option maxRecDepth 20000 in
theorem lk_22_29 (D : va_G) (l : Launch) : zLk D l "FlagLayers$Flag" (.invokestatic 66, 43, 0, 0) := fun p e R s m args below meth c mi d pc ad0 hown hcx hbx hini hts hK hdec => zk_S hcx hts zcm_43 zct_43 hdec (by rw [hown]; exact zw_826) zw_468 zw_299 zpd_43 rfl
set_option maxRecDepth 20000 in
theorem lk_22_30 (D : va_G) (l : Launch) : zLk D l "FlagLayers$Flag" (.invokevirtual 72, 112, 0, 3) := fun p e R s m args below meth c mi d pc ad0 hown hcx hbx hini hts hK hdec => zk_V (n := 0) hcx hts (zuk_0 hK).2.1 zcm_112 zct_112 hdec (by rw [hown]; exact zw_827) zw_437 zw_436 zw_235 rfl zpd_112 rfl
set_option maxRecDepth 20000 in
theorem lk_22_31 (D : va_G) (l : Launch) : zLk D l "FlagLayers$Flag" (.getfield 33, 0, 4, 0) := fun p e R s m args below meth c mi d pc ad0 hown hcx hbx hini hts hK hdec => by
  show zOkGet D s args (zown mi) 33 0 4
  rw [hown]
  exact zk_get hts (zuk_0 hK) zin_0 (by decide) (zFl_p hts zw_809) (Or.inl rfl)
def zlk_22 : List zRow := [(.invokespecial 3, 0, 1, 0), (.getstatic 9, 39, 0, 0), (.putfield 15, 0, 0, 0), (.new 20, 14, 3, 0), (.invokespecial 22, 6, 2, 2), (.putfield 23, 0, 1, 0), (.putfield 27, 0, 2, 0), (.putfield 30, 0, 3, 0), (.putfield 33, 0, 4, 0), (.putfield 37, 0, 5, 0), (.new 40, 7, 5, 0), (.invokespecial 42, 92, 2, 2), (.putfield 45, 0, 6, 0), (.putfield 49, 0, 7, 0), (.putfield 53, 0, 8, 0), (.putfield 56, 0, 9, 0), (.getfield 15, 0, 0, 0), (.getfield 75, 9, 0, 0), (.getstatic 80, 25, 0, 0), (.getstatic 83, 26, 0, 0), (.getstatic 59, 40, 0, 0), (.getstatic 86, 9, 0, 0), (.getstatic 89, 7, 0, 0), (.getfield 23, 0, 1, 0), (.getfield 92, 9, 3, 0), (.invokestatic 96, 73, 2, 0), (.getfield 100, 9, 4, 0), (.getfield 27, 0, 2, 0), (.invokevirtual 62, 68, 0, 17), (.invokestatic 66, 43, 0, 0), (.invokevirtual 72, 112, 0, 3), (.getfield 33, 0, 4, 0)]
set_option maxRecDepth 20000 in
theorem zlkA_22 (D : va_G) (l : Launch) : ∀ t ∈ zlk_22, zLk D l "FlagLayers$Flag" t := zlkc (lk_22_0 D l) (zlkc (lk_22_1 D l) (zlkc (lk_22_2 D l) (zlkc (lk_22_3 D l) (zlkc (lk_22_4 D l) (zlkc (lk_22_5 D l) (zlkc (lk_22_6 D l) (zlkc (lk_22_7 D l) (zlkc (lk_22_8 D l) (zlkc (lk_22_9 D l) (zlkc (lk_22_10 D l) (zlkc (lk_22_11 D l) (zlkc (lk_22_12 D l) (zlkc (lk_22_13 D l) (zlkc (lk_22_14 D l) (zlkc (lk_22_15 D l) (zlkc (lk_22_16 D l) (zlkc (lk_22_17 D l) (zlkc (lk_22_18 D l) (zlkc (lk_22_19 D l) (zlkc (lk_22_20 D l) (zlkc (lk_22_21 D l) (zlkc (lk_22_22 D l) (zlkc (lk_22_23 D l) (zlkc (lk_22_24 D l) (zlkc (lk_22_25 D l) (zlkc (lk_22_26 D l) (zlkc (lk_22_27 D l) (zlkc (lk_22_28 D l) (zlkc (lk_22_29 D l) (zlkc (lk_22_30 D l) (zlkc (lk_22_31 D l) (zlkn))))))))))))))))))))))))))))))))
set_option maxRecDepth 20000 in
theorem lk_23_0 (D : va_G) (l : Launch) : zLk D l "FlagLayers$Serve" (.invokespecial 1, 0, 1, 0) := fun p e R s m args below meth c mi d pc ad0 hown hcx hbx hini hts hK hdec => by
  show zOkObj s args (zown mi) (.invokespecial 1)
  rw [hown]
  exact ⟨hts _ zw_828, hts _ zw_137, hts _ (zT_mem (zt_1 44 rfl) rfl)⟩
set_option maxRecDepth 20000 in
theorem lk_23_1 (D : va_G) (l : Launch) : zLk D l "FlagLayers$Serve" (.putfield 7, 7, 4, 0) := fun p e R s m args below meth c mi d pc ad0 hown hcx hbx hini hts hK hdec => by
  show zOkPut D s args m.cls meth.name (zown mi) 7 7 4 (zty 7 4)
  rw [hown]
  exact zk_put hts (zuk_7 hK) zin_7 (by decide) (zFl_p hts zw_829) (Or.inl rfl) rfl (by decide +kernel)
set_option maxRecDepth 20000 in
theorem lk_23_2 (D : va_G) (l : Launch) : zLk D l "FlagLayers$Serve" (.putfield 13, 7, 0, 0) := fun p e R s m args below meth c mi d pc ad0 hown hcx hbx hini hts hK hdec => by
  show zOkPut D s args m.cls meth.name (zown mi) 13 7 0 (zty 7 0)
  have hc := hcx.2.2.2.2.2.1
  rw [hown] at hc ⊢
  exact zk_putF hts (zuk_7 hK) zin_7 (by decide) zw_830 rfl hc (hbx.2.trans (hini rfl)) rfl (by decide +kernel)
set_option maxRecDepth 20000 in
theorem lk_23_3 (D : va_G) (l : Launch) : zLk D l "FlagLayers$Serve" (.putfield 17, 7, 1, 0) := fun p e R s m args below meth c mi d pc ad0 hown hcx hbx hini hts hK hdec => by
  show zOkPut D s args m.cls meth.name (zown mi) 17 7 1 (zty 7 1)
  have hc := hcx.2.2.2.2.2.1
  rw [hown] at hc ⊢
  exact zk_putF hts (zuk_7 hK) zin_7 (by decide) zw_831 rfl hc (hbx.2.trans (hini rfl)) rfl (by decide +kernel)
set_option maxRecDepth 20000 in
theorem lk_23_4 (D : va_G) (l : Launch) : zLk D l "FlagLayers$Serve" (.invokestatic 20, 22, 0, 0) := fun p e R s m args below meth c mi d pc ad0 hown hcx hbx hini hts hK hdec => zk_S hcx hts zcm_22 zct_22 hdec (by rw [hown]; exact zw_832) zw_298 zw_299 zpd_22 rfl
set_option maxRecDepth 20000 in
theorem lk_23_5 (D : va_G) (l : Launch) : zLk D l "FlagLayers$Serve" (.putfield 26, 7, 2, 0) := fun p e R s m args below meth c mi d pc ad0 hown hcx hbx hini hts hK hdec => by
  show zOkPut D s args m.cls meth.name (zown mi) 26 7 2 (zty 7 2)
  have hc := hcx.2.2.2.2.2.1
  rw [hown] at hc ⊢
  exact zk_putF hts (zuk_7 hK) zin_7 (by decide) zw_833 rfl hc (hbx.2.trans (hini rfl)) rfl (by decide +kernel)
set_option maxRecDepth 20000 in
theorem lk_23_6 (D : va_G) (l : Launch) : zLk D l "FlagLayers$Serve" (.putfield 30, 7, 3, 0) := fun p e R s m args below meth c mi d pc ad0 hown hcx hbx hini hts hK hdec => by
  show zOkPut D s args m.cls meth.name (zown mi) 30 7 3 (zty 7 3)
  have hc := hcx.2.2.2.2.2.1
  rw [hown] at hc ⊢
  exact zk_putF hts (zuk_7 hK) zin_7 (by decide) zw_834 rfl hc (hbx.2.trans (hini rfl)) rfl (by decide +kernel)
set_option maxRecDepth 20000 in
theorem lk_23_7 (D : va_G) (l : Launch) : zLk D l "FlagLayers$Serve" (.getfield 7, 7, 4, 0) := fun p e R s m args below meth c mi d pc ad0 hown hcx hbx hini hts hK hdec => by
  show zOkGet D s args (zown mi) 7 7 4
  rw [hown]
  exact zk_get hts (zuk_7 hK) zin_7 (by decide) (zFl_p hts zw_829) (Or.inl rfl)
set_option maxRecDepth 20000 in
theorem lk_23_8 (D : va_G) (l : Launch) : zLk D l "FlagLayers$Serve" (.getfield 26, 7, 2, 0) := fun p e R s m args below meth c mi d pc ad0 hown hcx hbx hini hts hK hdec => by
  show zOkGet D s args (zown mi) 26 7 2
  rw [hown]
  exact zk_get hts (zuk_7 hK) zin_7 (by decide) (zFl_p hts zw_833) (Or.inl rfl)
set_option maxRecDepth 20000 in
theorem lk_23_9 (D : va_G) (l : Launch) : zLk D l "FlagLayers$Serve" (.invokestatic 33, 13, 2, 0) := fun p e R s m args below meth c mi d pc ad0 hown hcx hbx hini hts hK hdec => zk_SN (host := "FlagLayers") hcx hts zcm_13 zct_13 hdec (by rw [hown]; exact hK.2.2.2.2.1 _ (znw_mem (by decide +kernel) rfl)) zw_224 zw_2 zpd_13 rfl
set_option maxRecDepth 20000 in
theorem lk_23_10 (D : va_G) (l : Launch) : zLk D l "FlagLayers$Serve" (.getfield 30, 7, 3, 0) := fun p e R s m args below meth c mi d pc ad0 hown hcx hbx hini hts hK hdec => by
  show zOkGet D s args (zown mi) 30 7 3
  rw [hown]
  exact zk_get hts (zuk_7 hK) zin_7 (by decide) (zFl_p hts zw_834) (Or.inl rfl)
set_option maxRecDepth 20000 in
theorem lk_23_11 (D : va_G) (l : Launch) : zLk D l "FlagLayers$Serve" (.invokevirtual 39, 164, 0, 10) := fun p e R s m args below meth c mi d pc ad0 hown hcx hbx hini hts hK hdec => zk_V (n := 7) hcx hts (zuk_7 hK).2.1 zcm_164 zct_164 hdec (by rw [hown]; exact zw_835) zw_421 zw_420 zw_256 rfl zpd_164 rfl
def zlk_23 : List zRow := [(.invokespecial 1, 0, 1, 0), (.putfield 7, 7, 4, 0), (.putfield 13, 7, 0, 0), (.putfield 17, 7, 1, 0), (.invokestatic 20, 22, 0, 0), (.putfield 26, 7, 2, 0), (.putfield 30, 7, 3, 0), (.getfield 7, 7, 4, 0), (.getfield 26, 7, 2, 0), (.invokestatic 33, 13, 2, 0), (.getfield 30, 7, 3, 0), (.invokevirtual 39, 164, 0, 10)]
set_option maxRecDepth 20000 in
theorem zlkA_23 (D : va_G) (l : Launch) : ∀ t ∈ zlk_23, zLk D l "FlagLayers$Serve" t := zlkc (lk_23_0 D l) (zlkc (lk_23_1 D l) (zlkc (lk_23_2 D l) (zlkc (lk_23_3 D l) (zlkc (lk_23_4 D l) (zlkc (lk_23_5 D l) (zlkc (lk_23_6 D l) (zlkc (lk_23_7 D l) (zlkc (lk_23_8 D l) (zlkc (lk_23_9 D l) (zlkc (lk_23_10 D l) (zlkc (lk_23_11 D l) (zlkn))))))))))))
set_option maxRecDepth 20000 in
theorem lk_24_0 (D : va_G) (l : Launch) : zLk D l "FlagLayers$Rule" (.invokespecial 1, 0, 1, 0) := fun p e R s m args below meth c mi d pc ad0 hown hcx hbx hini hts hK hdec => by
  show zOkObj s args (zown mi) (.invokespecial 1)
  rw [hown]
  exact ⟨hts _ zw_836, hts _ zw_137, hts _ (zT_mem (zt_1 44 rfl) rfl)⟩
set_option maxRecDepth 20000 in
theorem lk_24_1 (D : va_G) (l : Launch) : zLk D l "FlagLayers$Rule" (.putfield 7, 6, 0, 0) := fun p e R s m args below meth c mi d pc ad0 hown hcx hbx hini hts hK hdec => by
  show zOkPut D s args m.cls meth.name (zown mi) 7 6 0 (zty 6 0)
  have hc := hcx.2.2.2.2.2.1
  rw [hown] at hc ⊢
  exact zk_putF hts (zuk_6 hK) zin_6 (by decide) zw_837 rfl hc (hbx.2.trans (hini rfl)) rfl (by decide +kernel)
set_option maxRecDepth 20000 in
theorem lk_24_2 (D : va_G) (l : Launch) : zLk D l "FlagLayers$Rule" (.putfield 13, 6, 1, 0) := fun p e R s m args below meth c mi d pc ad0 hown hcx hbx hini hts hK hdec => by
  show zOkPut D s args m.cls meth.name (zown mi) 13 6 1 (zty 6 1)
  have hc := hcx.2.2.2.2.2.1
  rw [hown] at hc ⊢
  exact zk_putF hts (zuk_6 hK) zin_6 (by decide) zw_838 rfl hc (hbx.2.trans (hini rfl)) rfl (by decide +kernel)
set_option maxRecDepth 20000 in
theorem lk_24_3 (D : va_G) (l : Launch) : zLk D l "FlagLayers$Rule" (.putfield 17, 6, 2, 0) := fun p e R s m args below meth c mi d pc ad0 hown hcx hbx hini hts hK hdec => by
  show zOkPut D s args m.cls meth.name (zown mi) 17 6 2 (zty 6 2)
  have hc := hcx.2.2.2.2.2.1
  rw [hown] at hc ⊢
  exact zk_putF hts (zuk_6 hK) zin_6 (by decide) zw_839 rfl hc (hbx.2.trans (hini rfl)) rfl (by decide +kernel)
def zlk_24 : List zRow := [(.invokespecial 1, 0, 1, 0), (.putfield 7, 6, 0, 0), (.putfield 13, 6, 1, 0), (.putfield 17, 6, 2, 0)]
set_option maxRecDepth 20000 in
theorem zlkA_24 (D : va_G) (l : Launch) : ∀ t ∈ zlk_24, zLk D l "FlagLayers$Rule" t := zlkc (lk_24_0 D l) (zlkc (lk_24_1 D l) (zlkc (lk_24_2 D l) (zlkc (lk_24_3 D l) (zlkn))))
set_option maxRecDepth 20000 in
theorem lk_25_0 (D : va_G) (l : Launch) : zLk D l "FlagLayers$Layer" (.invokespecial 3, 0, 1, 0) := fun p e R s m args below meth c mi d pc ad0 hown hcx hbx hini hts hK hdec => by
  show zOkObj s args (zown mi) (.invokespecial 3)
  rw [hown]
  exact ⟨hts _ zw_840, hts _ zw_137, hts _ (zT_mem (zt_1 44 rfl) rfl)⟩
set_option maxRecDepth 20000 in
theorem lk_25_1 (D : va_G) (l : Launch) : zLk D l "FlagLayers$Layer" (.putfield 9, 2, 3, 0) := fun p e R s m args below meth c mi d pc ad0 hown hcx hbx hini hts hK hdec => by
  show zOkPut D s args m.cls meth.name (zown mi) 9 2 3 (zty 2 3)
  rw [hown]
  exact zk_put hts (zuk_2 hK) zin_2 (by decide) (zFl_p hts zw_841) (Or.inl rfl) rfl (by decide +kernel)
set_option maxRecDepth 20000 in
theorem lk_25_2 (D : va_G) (l : Launch) : zLk D l "FlagLayers$Layer" (.anewarray 15, 7, 0, 0) := fun p e R s m args below meth c mi d pc ad0 hown hcx hbx hini hts hK hdec => by
  show (Cond.classLink (zown mi) 15 (zcnm 7)).before args s = true ∧ (Cond.arrayOver (.object (zcnm 7))).before args s = true
  rw [hown]
  exact ⟨hts _ zw_842, va_AO.use (hK.2.2.2.2.2.2.2.2 _ (by decide +kernel))⟩
set_option maxRecDepth 20000 in
theorem lk_25_3 (D : va_G) (l : Launch) : zLk D l "FlagLayers$Layer" (.putfield 17, 2, 4, 0) := fun p e R s m args below meth c mi d pc ad0 hown hcx hbx hini hts hK hdec => by
  show zOkPut D s args m.cls meth.name (zown mi) 17 2 4 (zty 2 4)
  have hc := hcx.2.2.2.2.2.1
  rw [hown] at hc ⊢
  exact zk_putF hts (zuk_2 hK) zin_2 (by decide) zw_843 rfl hc (hbx.2.trans (hini rfl)) rfl (by decide +kernel)
set_option maxRecDepth 20000 in
theorem lk_25_4 (D : va_G) (l : Launch) : zLk D l "FlagLayers$Layer" (.putfield 21, 2, 0, 0) := fun p e R s m args below meth c mi d pc ad0 hown hcx hbx hini hts hK hdec => by
  show zOkPut D s args m.cls meth.name (zown mi) 21 2 0 (zty 2 0)
  have hc := hcx.2.2.2.2.2.1
  rw [hown] at hc ⊢
  exact zk_putF hts (zuk_2 hK) zin_2 (by decide) zw_844 rfl hc (hbx.2.trans (hini rfl)) rfl (by decide +kernel)
set_option maxRecDepth 20000 in
theorem lk_25_5 (D : va_G) (l : Launch) : zLk D l "FlagLayers$Layer" (.putfield 24, 2, 1, 0) := fun p e R s m args below meth c mi d pc ad0 hown hcx hbx hini hts hK hdec => by
  show zOkPut D s args m.cls meth.name (zown mi) 24 2 1 (zty 2 1)
  have hc := hcx.2.2.2.2.2.1
  rw [hown] at hc ⊢
  exact zk_putF hts (zuk_2 hK) zin_2 (by decide) zw_845 rfl hc (hbx.2.trans (hini rfl)) rfl (by decide +kernel)
set_option maxRecDepth 20000 in
theorem lk_25_6 (D : va_G) (l : Launch) : zLk D l "FlagLayers$Layer" (.putfield 27, 2, 2, 0) := fun p e R s m args below meth c mi d pc ad0 hown hcx hbx hini hts hK hdec => by
  show zOkPut D s args m.cls meth.name (zown mi) 27 2 2 (zty 2 2)
  rw [hown]
  exact zk_put hts (zuk_2 hK) zin_2 (by decide) (zFl_p hts zw_846) (Or.inl rfl) rfl (by decide +kernel)
set_option maxRecDepth 20000 in
theorem lk_25_7 (D : va_G) (l : Launch) : zLk D l "FlagLayers$Layer" (.getfield 17, 2, 4, 0) := fun p e R s m args below meth c mi d pc ad0 hown hcx hbx hini hts hK hdec => by
  show zOkGet D s args (zown mi) 17 2 4
  rw [hown]
  exact zk_get hts (zuk_2 hK) zin_2 (by decide) (zFl_p hts zw_843) (Or.inl rfl)
set_option maxRecDepth 20000 in
theorem lk_25_8 (D : va_G) (l : Launch) : zLk D l "FlagLayers$Layer" (.invokestatic 30, 13, 2, 0) := fun p e R s m args below meth c mi d pc ad0 hown hcx hbx hini hts hK hdec => zk_SN (host := "FlagLayers") hcx hts zcm_13 zct_13 hdec (by rw [hown]; exact hK.2.2.2.2.1 _ (znw_mem (by decide +kernel) rfl)) zw_224 zw_2 zpd_13 rfl
set_option maxRecDepth 20000 in
theorem lk_25_9 (D : va_G) (l : Launch) : zLk D l "FlagLayers$Layer" (.getfield 9, 2, 3, 0) := fun p e R s m args below meth c mi d pc ad0 hown hcx hbx hini hts hK hdec => by
  show zOkGet D s args (zown mi) 9 2 3
  rw [hown]
  exact zk_get hts (zuk_2 hK) zin_2 (by decide) (zFl_p hts zw_841) (Or.inl rfl)
def zlk_25 : List zRow := [(.invokespecial 3, 0, 1, 0), (.putfield 9, 2, 3, 0), (.anewarray 15, 7, 0, 0), (.putfield 17, 2, 4, 0), (.putfield 21, 2, 0, 0), (.putfield 24, 2, 1, 0), (.putfield 27, 2, 2, 0), (.getfield 17, 2, 4, 0), (.invokestatic 30, 13, 2, 0), (.getfield 9, 2, 3, 0)]
set_option maxRecDepth 20000 in
theorem zlkA_25 (D : va_G) (l : Launch) : ∀ t ∈ zlk_25, zLk D l "FlagLayers$Layer" t := zlkc (lk_25_0 D l) (zlkc (lk_25_1 D l) (zlkc (lk_25_2 D l) (zlkc (lk_25_3 D l) (zlkc (lk_25_4 D l) (zlkc (lk_25_5 D l) (zlkc (lk_25_6 D l) (zlkc (lk_25_7 D l) (zlkc (lk_25_8 D l) (zlkc (lk_25_9 D l) (zlkn))))))))))
set_option maxRecDepth 20000 in
theorem lk_26_0 (D : va_G) (l : Launch) : zLk D l "FlagLayersModel" (.invokespecial 1, 0, 1, 0) := fun p e R s m args below meth c mi d pc ad0 hown hcx hbx hini hts hK hdec => by
  show zOkObj s args (zown mi) (.invokespecial 1)
  rw [hown]
  exact ⟨hts _ zw_847, hts _ zw_137, hts _ (zT_mem (zt_1 44 rfl) rfl)⟩
set_option maxRecDepth 20000 in
theorem lk_26_1 (D : va_G) (l : Launch) : zLk D l "FlagLayersModel" (.putfield 7, 11, 1, 0) := fun p e R s m args below meth c mi d pc ad0 hown hcx hbx hini hts hK hdec => by
  show zOkPut D s args m.cls meth.name (zown mi) 7 11 1 (zty 11 1)
  have hc := hcx.2.2.2.2.2.1
  rw [hown] at hc ⊢
  exact zk_putF hts (zuk_11 hK) zin_11 (by decide) zw_848 rfl hc (hbx.2.trans (hini rfl)) rfl (by decide +kernel)
set_option maxRecDepth 20000 in
theorem lk_26_2 (D : va_G) (l : Launch) : zLk D l "FlagLayersModel" (.putfield 13, 11, 4, 0) := fun p e R s m args below meth c mi d pc ad0 hown hcx hbx hini hts hK hdec => by
  show zOkPut D s args m.cls meth.name (zown mi) 13 11 4 (zty 11 4)
  rw [hown]
  exact zk_put hts (zuk_11 hK) zin_11 (by decide) (zFl_p hts zw_849) (Or.inl rfl) rfl (by decide +kernel)
set_option maxRecDepth 20000 in
theorem lk_26_3 (D : va_G) (l : Launch) : zLk D l "FlagLayersModel" (.putfield 17, 11, 5, 0) := fun p e R s m args below meth c mi d pc ad0 hown hcx hbx hini hts hK hdec => by
  show zOkPut D s args m.cls meth.name (zown mi) 17 11 5 (zty 11 5)
  have hc := hcx.2.2.2.2.2.1
  rw [hown] at hc ⊢
  exact zk_putF hts (zuk_11 hK) zin_11 (by decide) zw_850 rfl hc (hbx.2.trans (hini rfl)) rfl (by decide +kernel)
set_option maxRecDepth 20000 in
theorem lk_26_4 (D : va_G) (l : Launch) : zLk D l "FlagLayersModel" (.putfield 21, 11, 6, 0) := fun p e R s m args below meth c mi d pc ad0 hown hcx hbx hini hts hK hdec => by
  show zOkPut D s args m.cls meth.name (zown mi) 21 11 6 (zty 11 6)
  have hc := hcx.2.2.2.2.2.1
  rw [hown] at hc ⊢
  exact zk_putF hts (zuk_11 hK) zin_11 (by decide) zw_851 rfl hc (hbx.2.trans (hini rfl)) rfl (by decide +kernel)
set_option maxRecDepth 20000 in
theorem lk_26_5 (D : va_G) (l : Launch) : zLk D l "FlagLayersModel" (.ldc 24, 51, 0, 0) := fun p e R s m args below meth c mi d pc ad0 hown hcx hbx hini hts hK hdec => by
  intro v hv
  obtain rfl : (.int (48256) : Value) = v := Option.some.inj hv
  exact zk_int hcx hts (by rw [hown]; exact zw_852) hdec
set_option maxRecDepth 20000 in
theorem lk_26_6 (D : va_G) (l : Launch) : zLk D l "FlagLayersModel" (.putfield 25, 11, 7, 0) := fun p e R s m args below meth c mi d pc ad0 hown hcx hbx hini hts hK hdec => by
  show zOkPut D s args m.cls meth.name (zown mi) 25 11 7 (zty 11 7)
  have hc := hcx.2.2.2.2.2.1
  rw [hown] at hc ⊢
  exact zk_putF hts (zuk_11 hK) zin_11 (by decide) zw_853 rfl hc (hbx.2.trans (hini rfl)) rfl (by decide +kernel)
set_option maxRecDepth 20000 in
theorem lk_26_7 (D : va_G) (l : Launch) : zLk D l "FlagLayersModel" (.putfield 28, 11, 8, 0) := fun p e R s m args below meth c mi d pc ad0 hown hcx hbx hini hts hK hdec => by
  show zOkPut D s args m.cls meth.name (zown mi) 28 11 8 (zty 11 8)
  have hc := hcx.2.2.2.2.2.1
  rw [hown] at hc ⊢
  exact zk_putF hts (zuk_11 hK) zin_11 (by decide) zw_854 rfl hc (hbx.2.trans (hini rfl)) rfl (by decide +kernel)
set_option maxRecDepth 20000 in
theorem lk_26_8 (D : va_G) (l : Launch) : zLk D l "FlagLayersModel" (.putfield 31, 11, 9, 0) := fun p e R s m args below meth c mi d pc ad0 hown hcx hbx hini hts hK hdec => by
  show zOkPut D s args m.cls meth.name (zown mi) 31 11 9 (zty 11 9)
  have hc := hcx.2.2.2.2.2.1
  rw [hown] at hc ⊢
  exact zk_putF hts (zuk_11 hK) zin_11 (by decide) zw_855 rfl hc (hbx.2.trans (hini rfl)) rfl (by decide +kernel)
set_option maxRecDepth 20000 in
theorem lk_26_9 (D : va_G) (l : Launch) : zLk D l "FlagLayersModel" (.putfield 34, 11, 10, 0) := fun p e R s m args below meth c mi d pc ad0 hown hcx hbx hini hts hK hdec => by
  show zOkPut D s args m.cls meth.name (zown mi) 34 11 10 (zty 11 10)
  have hc := hcx.2.2.2.2.2.1
  rw [hown] at hc ⊢
  exact zk_putF hts (zuk_11 hK) zin_11 (by decide) zw_856 rfl hc (hbx.2.trans (hini rfl)) rfl (by decide +kernel)
set_option maxRecDepth 20000 in
theorem lk_26_10 (D : va_G) (l : Launch) : zLk D l "FlagLayersModel" (.putfield 37, 11, 11, 0) := fun p e R s m args below meth c mi d pc ad0 hown hcx hbx hini hts hK hdec => by
  show zOkPut D s args m.cls meth.name (zown mi) 37 11 11 (zty 11 11)
  have hc := hcx.2.2.2.2.2.1
  rw [hown] at hc ⊢
  exact zk_putF hts (zuk_11 hK) zin_11 (by decide) zw_857 rfl hc (hbx.2.trans (hini rfl)) rfl (by decide +kernel)
set_option maxRecDepth 20000 in
theorem lk_26_11 (D : va_G) (l : Launch) : zLk D l "FlagLayersModel" (.putfield 40, 11, 12, 0) := fun p e R s m args below meth c mi d pc ad0 hown hcx hbx hini hts hK hdec => by
  show zOkPut D s args m.cls meth.name (zown mi) 40 11 12 (zty 11 12)
  have hc := hcx.2.2.2.2.2.1
  rw [hown] at hc ⊢
  exact zk_putF hts (zuk_11 hK) zin_11 (by decide) zw_858 rfl hc (hbx.2.trans (hini rfl)) rfl (by decide +kernel)
set_option maxRecDepth 20000 in
theorem lk_26_12 (D : va_G) (l : Launch) : zLk D l "FlagLayersModel" (.putfield 43, 11, 13, 0) := fun p e R s m args below meth c mi d pc ad0 hown hcx hbx hini hts hK hdec => by
  show zOkPut D s args m.cls meth.name (zown mi) 43 11 13 (zty 11 13)
  have hc := hcx.2.2.2.2.2.1
  rw [hown] at hc ⊢
  exact zk_putF hts (zuk_11 hK) zin_11 (by decide) zw_859 rfl hc (hbx.2.trans (hini rfl)) rfl (by decide +kernel)
set_option maxRecDepth 20000 in
theorem lk_26_13 (D : va_G) (l : Launch) : zLk D l "FlagLayersModel" (.putfield 46, 11, 14, 0) := fun p e R s m args below meth c mi d pc ad0 hown hcx hbx hini hts hK hdec => by
  show zOkPut D s args m.cls meth.name (zown mi) 46 11 14 (zty 11 14)
  have hc := hcx.2.2.2.2.2.1
  rw [hown] at hc ⊢
  exact zk_putF hts (zuk_11 hK) zin_11 (by decide) zw_860 rfl hc (hbx.2.trans (hini rfl)) rfl (by decide +kernel)
set_option maxRecDepth 20000 in
theorem lk_26_14 (D : va_G) (l : Launch) : zLk D l "FlagLayersModel" (.putfield 49, 11, 15, 0) := fun p e R s m args below meth c mi d pc ad0 hown hcx hbx hini hts hK hdec => by
  show zOkPut D s args m.cls meth.name (zown mi) 49 11 15 (zty 11 15)
  have hc := hcx.2.2.2.2.2.1
  rw [hown] at hc ⊢
  exact zk_putF hts (zuk_11 hK) zin_11 (by decide) zw_861 rfl hc (hbx.2.trans (hini rfl)) rfl (by decide +kernel)
set_option maxRecDepth 20000 in
theorem lk_26_15 (D : va_G) (l : Launch) : zLk D l "FlagLayersModel" (.putfield 52, 11, 16, 0) := fun p e R s m args below meth c mi d pc ad0 hown hcx hbx hini hts hK hdec => by
  show zOkPut D s args m.cls meth.name (zown mi) 52 11 16 (zty 11 16)
  have hc := hcx.2.2.2.2.2.1
  rw [hown] at hc ⊢
  exact zk_putF hts (zuk_11 hK) zin_11 (by decide) zw_862 rfl hc (hbx.2.trans (hini rfl)) rfl (by decide +kernel)
set_option maxRecDepth 20000 in
theorem lk_26_16 (D : va_G) (l : Launch) : zLk D l "FlagLayersModel" (.putfield 55, 11, 17, 0) := fun p e R s m args below meth c mi d pc ad0 hown hcx hbx hini hts hK hdec => by
  show zOkPut D s args m.cls meth.name (zown mi) 55 11 17 (zty 11 17)
  have hc := hcx.2.2.2.2.2.1
  rw [hown] at hc ⊢
  exact zk_putF hts (zuk_11 hK) zin_11 (by decide) zw_863 rfl hc (hbx.2.trans (hini rfl)) rfl (by decide +kernel)
set_option maxRecDepth 20000 in
theorem lk_26_17 (D : va_G) (l : Launch) : zLk D l "FlagLayersModel" (.putfield 58, 11, 18, 0) := fun p e R s m args below meth c mi d pc ad0 hown hcx hbx hini hts hK hdec => by
  show zOkPut D s args m.cls meth.name (zown mi) 58 11 18 (zty 11 18)
  have hc := hcx.2.2.2.2.2.1
  rw [hown] at hc ⊢
  exact zk_putF hts (zuk_11 hK) zin_11 (by decide) zw_864 rfl hc (hbx.2.trans (hini rfl)) rfl (by decide +kernel)
set_option maxRecDepth 20000 in
theorem lk_26_18 (D : va_G) (l : Launch) : zLk D l "FlagLayersModel" (.putfield 61, 11, 19, 0) := fun p e R s m args below meth c mi d pc ad0 hown hcx hbx hini hts hK hdec => by
  show zOkPut D s args m.cls meth.name (zown mi) 61 11 19 (zty 11 19)
  have hc := hcx.2.2.2.2.2.1
  rw [hown] at hc ⊢
  exact zk_putF hts (zuk_11 hK) zin_11 (by decide) zw_865 rfl hc (hbx.2.trans (hini rfl)) rfl (by decide +kernel)
set_option maxRecDepth 20000 in
theorem lk_26_19 (D : va_G) (l : Launch) : zLk D l "FlagLayersModel" (.putfield 64, 11, 20, 0) := fun p e R s m args below meth c mi d pc ad0 hown hcx hbx hini hts hK hdec => by
  show zOkPut D s args m.cls meth.name (zown mi) 64 11 20 (zty 11 20)
  have hc := hcx.2.2.2.2.2.1
  rw [hown] at hc ⊢
  exact zk_putF hts (zuk_11 hK) zin_11 (by decide) zw_866 rfl hc (hbx.2.trans (hini rfl)) rfl (by decide +kernel)
set_option maxRecDepth 20000 in
theorem lk_26_20 (D : va_G) (l : Launch) : zLk D l "FlagLayersModel" (.putfield 67, 11, 21, 0) := fun p e R s m args below meth c mi d pc ad0 hown hcx hbx hini hts hK hdec => by
  show zOkPut D s args m.cls meth.name (zown mi) 67 11 21 (zty 11 21)
  have hc := hcx.2.2.2.2.2.1
  rw [hown] at hc ⊢
  exact zk_putF hts (zuk_11 hK) zin_11 (by decide) zw_867 rfl hc (hbx.2.trans (hini rfl)) rfl (by decide +kernel)
set_option maxRecDepth 20000 in
theorem lk_26_21 (D : va_G) (l : Launch) : zLk D l "FlagLayersModel" (.putfield 70, 11, 22, 0) := fun p e R s m args below meth c mi d pc ad0 hown hcx hbx hini hts hK hdec => by
  show zOkPut D s args m.cls meth.name (zown mi) 70 11 22 (zty 11 22)
  have hc := hcx.2.2.2.2.2.1
  rw [hown] at hc ⊢
  exact zk_putF hts (zuk_11 hK) zin_11 (by decide) zw_868 rfl hc (hbx.2.trans (hini rfl)) rfl (by decide +kernel)
set_option maxRecDepth 20000 in
theorem lk_26_22 (D : va_G) (l : Launch) : zLk D l "FlagLayersModel" (.putfield 73, 11, 23, 0) := fun p e R s m args below meth c mi d pc ad0 hown hcx hbx hini hts hK hdec => by
  show zOkPut D s args m.cls meth.name (zown mi) 73 11 23 (zty 11 23)
  have hc := hcx.2.2.2.2.2.1
  rw [hown] at hc ⊢
  exact zk_putF hts (zuk_11 hK) zin_11 (by decide) zw_869 rfl hc (hbx.2.trans (hini rfl)) rfl (by decide +kernel)
set_option maxRecDepth 20000 in
theorem lk_26_23 (D : va_G) (l : Launch) : zLk D l "FlagLayersModel" (.putfield 76, 11, 24, 0) := fun p e R s m args below meth c mi d pc ad0 hown hcx hbx hini hts hK hdec => by
  show zOkPut D s args m.cls meth.name (zown mi) 76 11 24 (zty 11 24)
  have hc := hcx.2.2.2.2.2.1
  rw [hown] at hc ⊢
  exact zk_putF hts (zuk_11 hK) zin_11 (by decide) zw_870 rfl hc (hbx.2.trans (hini rfl)) rfl (by decide +kernel)
set_option maxRecDepth 20000 in
theorem lk_26_24 (D : va_G) (l : Launch) : zLk D l "FlagLayersModel" (.putfield 79, 11, 25, 0) := fun p e R s m args below meth c mi d pc ad0 hown hcx hbx hini hts hK hdec => by
  show zOkPut D s args m.cls meth.name (zown mi) 79 11 25 (zty 11 25)
  have hc := hcx.2.2.2.2.2.1
  rw [hown] at hc ⊢
  exact zk_putF hts (zuk_11 hK) zin_11 (by decide) zw_871 rfl hc (hbx.2.trans (hini rfl)) rfl (by decide +kernel)
set_option maxRecDepth 20000 in
theorem lk_26_25 (D : va_G) (l : Launch) : zLk D l "FlagLayersModel" (.putfield 82, 11, 26, 0) := fun p e R s m args below meth c mi d pc ad0 hown hcx hbx hini hts hK hdec => by
  show zOkPut D s args m.cls meth.name (zown mi) 82 11 26 (zty 11 26)
  have hc := hcx.2.2.2.2.2.1
  rw [hown] at hc ⊢
  exact zk_putF hts (zuk_11 hK) zin_11 (by decide) zw_872 rfl hc (hbx.2.trans (hini rfl)) rfl (by decide +kernel)
set_option maxRecDepth 20000 in
theorem lk_26_26 (D : va_G) (l : Launch) : zLk D l "FlagLayersModel" (.putfield 85, 11, 27, 0) := fun p e R s m args below meth c mi d pc ad0 hown hcx hbx hini hts hK hdec => by
  show zOkPut D s args m.cls meth.name (zown mi) 85 11 27 (zty 11 27)
  have hc := hcx.2.2.2.2.2.1
  rw [hown] at hc ⊢
  exact zk_putF hts (zuk_11 hK) zin_11 (by decide) zw_873 rfl hc (hbx.2.trans (hini rfl)) rfl (by decide +kernel)
set_option maxRecDepth 20000 in
theorem lk_26_27 (D : va_G) (l : Launch) : zLk D l "FlagLayersModel" (.putfield 88, 11, 28, 0) := fun p e R s m args below meth c mi d pc ad0 hown hcx hbx hini hts hK hdec => by
  show zOkPut D s args m.cls meth.name (zown mi) 88 11 28 (zty 11 28)
  have hc := hcx.2.2.2.2.2.1
  rw [hown] at hc ⊢
  exact zk_putF hts (zuk_11 hK) zin_11 (by decide) zw_874 rfl hc (hbx.2.trans (hini rfl)) rfl (by decide +kernel)
set_option maxRecDepth 20000 in
theorem lk_26_28 (D : va_G) (l : Launch) : zLk D l "FlagLayersModel" (.putfield 91, 11, 29, 0) := fun p e R s m args below meth c mi d pc ad0 hown hcx hbx hini hts hK hdec => by
  show zOkPut D s args m.cls meth.name (zown mi) 91 11 29 (zty 11 29)
  have hc := hcx.2.2.2.2.2.1
  rw [hown] at hc ⊢
  exact zk_putF hts (zuk_11 hK) zin_11 (by decide) zw_875 rfl hc (hbx.2.trans (hini rfl)) rfl (by decide +kernel)
set_option maxRecDepth 20000 in
theorem lk_26_29 (D : va_G) (l : Launch) : zLk D l "FlagLayersModel" (.putfield 94, 11, 30, 0) := fun p e R s m args below meth c mi d pc ad0 hown hcx hbx hini hts hK hdec => by
  show zOkPut D s args m.cls meth.name (zown mi) 94 11 30 (zty 11 30)
  have hc := hcx.2.2.2.2.2.1
  rw [hown] at hc ⊢
  exact zk_putF hts (zuk_11 hK) zin_11 (by decide) zw_876 rfl hc (hbx.2.trans (hini rfl)) rfl (by decide +kernel)
set_option maxRecDepth 20000 in
theorem lk_26_30 (D : va_G) (l : Launch) : zLk D l "FlagLayersModel" (.putfield 97, 11, 31, 0) := fun p e R s m args below meth c mi d pc ad0 hown hcx hbx hini hts hK hdec => by
  show zOkPut D s args m.cls meth.name (zown mi) 97 11 31 (zty 11 31)
  have hc := hcx.2.2.2.2.2.1
  rw [hown] at hc ⊢
  exact zk_putF hts (zuk_11 hK) zin_11 (by decide) zw_877 rfl hc (hbx.2.trans (hini rfl)) rfl (by decide +kernel)
set_option maxRecDepth 20000 in
theorem lk_26_31 (D : va_G) (l : Launch) : zLk D l "FlagLayersModel" (.putfield 100, 11, 32, 0) := fun p e R s m args below meth c mi d pc ad0 hown hcx hbx hini hts hK hdec => by
  show zOkPut D s args m.cls meth.name (zown mi) 100 11 32 (zty 11 32)
  have hc := hcx.2.2.2.2.2.1
  rw [hown] at hc ⊢
  exact zk_putF hts (zuk_11 hK) zin_11 (by decide) zw_878 rfl hc (hbx.2.trans (hini rfl)) rfl (by decide +kernel)
set_option maxRecDepth 20000 in
theorem lk_26_32 (D : va_G) (l : Launch) : zLk D l "FlagLayersModel" (.putfield 103, 11, 33, 0) := fun p e R s m args below meth c mi d pc ad0 hown hcx hbx hini hts hK hdec => by
  show zOkPut D s args m.cls meth.name (zown mi) 103 11 33 (zty 11 33)
  have hc := hcx.2.2.2.2.2.1
  rw [hown] at hc ⊢
  exact zk_putF hts (zuk_11 hK) zin_11 (by decide) zw_879 rfl hc (hbx.2.trans (hini rfl)) rfl (by decide +kernel)
set_option maxRecDepth 20000 in
theorem lk_26_33 (D : va_G) (l : Launch) : zLk D l "FlagLayersModel" (.putfield 106, 11, 34, 0) := fun p e R s m args below meth c mi d pc ad0 hown hcx hbx hini hts hK hdec => by
  show zOkPut D s args m.cls meth.name (zown mi) 106 11 34 (zty 11 34)
  have hc := hcx.2.2.2.2.2.1
  rw [hown] at hc ⊢
  exact zk_putF hts (zuk_11 hK) zin_11 (by decide) zw_880 rfl hc (hbx.2.trans (hini rfl)) rfl (by decide +kernel)
set_option maxRecDepth 20000 in
theorem lk_26_34 (D : va_G) (l : Launch) : zLk D l "FlagLayersModel" (.putfield 109, 11, 35, 0) := fun p e R s m args below meth c mi d pc ad0 hown hcx hbx hini hts hK hdec => by
  show zOkPut D s args m.cls meth.name (zown mi) 109 11 35 (zty 11 35)
  have hc := hcx.2.2.2.2.2.1
  rw [hown] at hc ⊢
  exact zk_putF hts (zuk_11 hK) zin_11 (by decide) zw_881 rfl hc (hbx.2.trans (hini rfl)) rfl (by decide +kernel)
set_option maxRecDepth 20000 in
theorem lk_26_35 (D : va_G) (l : Launch) : zLk D l "FlagLayersModel" (.putfield 112, 11, 36, 0) := fun p e R s m args below meth c mi d pc ad0 hown hcx hbx hini hts hK hdec => by
  show zOkPut D s args m.cls meth.name (zown mi) 112 11 36 (zty 11 36)
  have hc := hcx.2.2.2.2.2.1
  rw [hown] at hc ⊢
  exact zk_putF hts (zuk_11 hK) zin_11 (by decide) zw_882 rfl hc (hbx.2.trans (hini rfl)) rfl (by decide +kernel)
set_option maxRecDepth 20000 in
theorem lk_26_36 (D : va_G) (l : Launch) : zLk D l "FlagLayersModel" (.putfield 115, 11, 37, 0) := fun p e R s m args below meth c mi d pc ad0 hown hcx hbx hini hts hK hdec => by
  show zOkPut D s args m.cls meth.name (zown mi) 115 11 37 (zty 11 37)
  have hc := hcx.2.2.2.2.2.1
  rw [hown] at hc ⊢
  exact zk_putF hts (zuk_11 hK) zin_11 (by decide) zw_883 rfl hc (hbx.2.trans (hini rfl)) rfl (by decide +kernel)
set_option maxRecDepth 20000 in
theorem lk_26_37 (D : va_G) (l : Launch) : zLk D l "FlagLayersModel" (.putfield 118, 11, 38, 0) := fun p e R s m args below meth c mi d pc ad0 hown hcx hbx hini hts hK hdec => by
  show zOkPut D s args m.cls meth.name (zown mi) 118 11 38 (zty 11 38)
  have hc := hcx.2.2.2.2.2.1
  rw [hown] at hc ⊢
  exact zk_putF hts (zuk_11 hK) zin_11 (by decide) zw_884 rfl hc (hbx.2.trans (hini rfl)) rfl (by decide +kernel)
set_option maxRecDepth 20000 in
theorem lk_26_38 (D : va_G) (l : Launch) : zLk D l "FlagLayersModel" (.putfield 121, 11, 39, 0) := fun p e R s m args below meth c mi d pc ad0 hown hcx hbx hini hts hK hdec => by
  show zOkPut D s args m.cls meth.name (zown mi) 121 11 39 (zty 11 39)
  have hc := hcx.2.2.2.2.2.1
  rw [hown] at hc ⊢
  exact zk_putF hts (zuk_11 hK) zin_11 (by decide) zw_885 rfl hc (hbx.2.trans (hini rfl)) rfl (by decide +kernel)
set_option maxRecDepth 20000 in
theorem lk_26_39 (D : va_G) (l : Launch) : zLk D l "FlagLayersModel" (.putfield 124, 11, 40, 0) := fun p e R s m args below meth c mi d pc ad0 hown hcx hbx hini hts hK hdec => by
  show zOkPut D s args m.cls meth.name (zown mi) 124 11 40 (zty 11 40)
  have hc := hcx.2.2.2.2.2.1
  rw [hown] at hc ⊢
  exact zk_putF hts (zuk_11 hK) zin_11 (by decide) zw_886 rfl hc (hbx.2.trans (hini rfl)) rfl (by decide +kernel)
set_option maxRecDepth 20000 in
theorem lk_26_40 (D : va_G) (l : Launch) : zLk D l "FlagLayersModel" (.putfield 127, 11, 41, 0) := fun p e R s m args below meth c mi d pc ad0 hown hcx hbx hini hts hK hdec => by
  show zOkPut D s args m.cls meth.name (zown mi) 127 11 41 (zty 11 41)
  have hc := hcx.2.2.2.2.2.1
  rw [hown] at hc ⊢
  exact zk_putF hts (zuk_11 hK) zin_11 (by decide) zw_887 rfl hc (hbx.2.trans (hini rfl)) rfl (by decide +kernel)
set_option maxRecDepth 20000 in
theorem lk_26_41 (D : va_G) (l : Launch) : zLk D l "FlagLayersModel" (.putfield 130, 11, 42, 0) := fun p e R s m args below meth c mi d pc ad0 hown hcx hbx hini hts hK hdec => by
  show zOkPut D s args m.cls meth.name (zown mi) 130 11 42 (zty 11 42)
  have hc := hcx.2.2.2.2.2.1
  rw [hown] at hc ⊢
  exact zk_putF hts (zuk_11 hK) zin_11 (by decide) zw_888 rfl hc (hbx.2.trans (hini rfl)) rfl (by decide +kernel)
set_option maxRecDepth 20000 in
theorem lk_26_42 (D : va_G) (l : Launch) : zLk D l "FlagLayersModel" (.putfield 133, 11, 43, 0) := fun p e R s m args below meth c mi d pc ad0 hown hcx hbx hini hts hK hdec => by
  show zOkPut D s args m.cls meth.name (zown mi) 133 11 43 (zty 11 43)
  have hc := hcx.2.2.2.2.2.1
  rw [hown] at hc ⊢
  exact zk_putF hts (zuk_11 hK) zin_11 (by decide) zw_889 rfl hc (hbx.2.trans (hini rfl)) rfl (by decide +kernel)
set_option maxRecDepth 20000 in
theorem lk_26_43 (D : va_G) (l : Launch) : zLk D l "FlagLayersModel" (.putfield 136, 11, 44, 0) := fun p e R s m args below meth c mi d pc ad0 hown hcx hbx hini hts hK hdec => by
  show zOkPut D s args m.cls meth.name (zown mi) 136 11 44 (zty 11 44)
  have hc := hcx.2.2.2.2.2.1
  rw [hown] at hc ⊢
  exact zk_putF hts (zuk_11 hK) zin_11 (by decide) zw_890 rfl hc (hbx.2.trans (hini rfl)) rfl (by decide +kernel)
set_option maxRecDepth 20000 in
theorem lk_26_44 (D : va_G) (l : Launch) : zLk D l "FlagLayersModel" (.putfield 139, 11, 45, 0) := fun p e R s m args below meth c mi d pc ad0 hown hcx hbx hini hts hK hdec => by
  show zOkPut D s args m.cls meth.name (zown mi) 139 11 45 (zty 11 45)
  have hc := hcx.2.2.2.2.2.1
  rw [hown] at hc ⊢
  exact zk_putF hts (zuk_11 hK) zin_11 (by decide) zw_891 rfl hc (hbx.2.trans (hini rfl)) rfl (by decide +kernel)
set_option maxRecDepth 20000 in
theorem lk_26_45 (D : va_G) (l : Launch) : zLk D l "FlagLayersModel" (.putfield 142, 11, 46, 0) := fun p e R s m args below meth c mi d pc ad0 hown hcx hbx hini hts hK hdec => by
  show zOkPut D s args m.cls meth.name (zown mi) 142 11 46 (zty 11 46)
  have hc := hcx.2.2.2.2.2.1
  rw [hown] at hc ⊢
  exact zk_putF hts (zuk_11 hK) zin_11 (by decide) zw_892 rfl hc (hbx.2.trans (hini rfl)) rfl (by decide +kernel)
set_option maxRecDepth 20000 in
theorem lk_26_46 (D : va_G) (l : Launch) : zLk D l "FlagLayersModel" (.putfield 145, 11, 47, 0) := fun p e R s m args below meth c mi d pc ad0 hown hcx hbx hini hts hK hdec => by
  show zOkPut D s args m.cls meth.name (zown mi) 145 11 47 (zty 11 47)
  have hc := hcx.2.2.2.2.2.1
  rw [hown] at hc ⊢
  exact zk_putF hts (zuk_11 hK) zin_11 (by decide) zw_893 rfl hc (hbx.2.trans (hini rfl)) rfl (by decide +kernel)
set_option maxRecDepth 20000 in
theorem lk_26_47 (D : va_G) (l : Launch) : zLk D l "FlagLayersModel" (.putfield 149, 11, 48, 0) := fun p e R s m args below meth c mi d pc ad0 hown hcx hbx hini hts hK hdec => by
  show zOkPut D s args m.cls meth.name (zown mi) 149 11 48 (zty 11 48)
  have hc := hcx.2.2.2.2.2.1
  rw [hown] at hc ⊢
  exact zk_putF hts (zuk_11 hK) zin_11 (by decide) zw_894 rfl hc (hbx.2.trans (hini rfl)) rfl (by decide +kernel)
set_option maxRecDepth 20000 in
theorem lk_26_48 (D : va_G) (l : Launch) : zLk D l "FlagLayersModel" (.putfield 152, 11, 49, 0) := fun p e R s m args below meth c mi d pc ad0 hown hcx hbx hini hts hK hdec => by
  show zOkPut D s args m.cls meth.name (zown mi) 152 11 49 (zty 11 49)
  have hc := hcx.2.2.2.2.2.1
  rw [hown] at hc ⊢
  exact zk_putF hts (zuk_11 hK) zin_11 (by decide) zw_895 rfl hc (hbx.2.trans (hini rfl)) rfl (by decide +kernel)
set_option maxRecDepth 20000 in
theorem lk_26_49 (D : va_G) (l : Launch) : zLk D l "FlagLayersModel" (.putfield 155, 11, 50, 0) := fun p e R s m args below meth c mi d pc ad0 hown hcx hbx hini hts hK hdec => by
  show zOkPut D s args m.cls meth.name (zown mi) 155 11 50 (zty 11 50)
  have hc := hcx.2.2.2.2.2.1
  rw [hown] at hc ⊢
  exact zk_putF hts (zuk_11 hK) zin_11 (by decide) zw_896 rfl hc (hbx.2.trans (hini rfl)) rfl (by decide +kernel)
set_option maxRecDepth 20000 in
theorem lk_26_50 (D : va_G) (l : Launch) : zLk D l "FlagLayersModel" (.putfield 158, 11, 51, 0) := fun p e R s m args below meth c mi d pc ad0 hown hcx hbx hini hts hK hdec => by
  show zOkPut D s args m.cls meth.name (zown mi) 158 11 51 (zty 11 51)
  have hc := hcx.2.2.2.2.2.1
  rw [hown] at hc ⊢
  exact zk_putF hts (zuk_11 hK) zin_11 (by decide) zw_897 rfl hc (hbx.2.trans (hini rfl)) rfl (by decide +kernel)
set_option maxRecDepth 20000 in
theorem lk_26_51 (D : va_G) (l : Launch) : zLk D l "FlagLayersModel" (.putfield 161, 11, 52, 0) := fun p e R s m args below meth c mi d pc ad0 hown hcx hbx hini hts hK hdec => by
  show zOkPut D s args m.cls meth.name (zown mi) 161 11 52 (zty 11 52)
  have hc := hcx.2.2.2.2.2.1
  rw [hown] at hc ⊢
  exact zk_putF hts (zuk_11 hK) zin_11 (by decide) zw_898 rfl hc (hbx.2.trans (hini rfl)) rfl (by decide +kernel)
set_option maxRecDepth 20000 in
theorem lk_26_52 (D : va_G) (l : Launch) : zLk D l "FlagLayersModel" (.putfield 164, 11, 53, 0) := fun p e R s m args below meth c mi d pc ad0 hown hcx hbx hini hts hK hdec => by
  show zOkPut D s args m.cls meth.name (zown mi) 164 11 53 (zty 11 53)
  have hc := hcx.2.2.2.2.2.1
  rw [hown] at hc ⊢
  exact zk_putF hts (zuk_11 hK) zin_11 (by decide) zw_899 rfl hc (hbx.2.trans (hini rfl)) rfl (by decide +kernel)
set_option maxRecDepth 20000 in
theorem lk_26_53 (D : va_G) (l : Launch) : zLk D l "FlagLayersModel" (.putfield 167, 11, 54, 0) := fun p e R s m args below meth c mi d pc ad0 hown hcx hbx hini hts hK hdec => by
  show zOkPut D s args m.cls meth.name (zown mi) 167 11 54 (zty 11 54)
  have hc := hcx.2.2.2.2.2.1
  rw [hown] at hc ⊢
  exact zk_putF hts (zuk_11 hK) zin_11 (by decide) zw_900 rfl hc (hbx.2.trans (hini rfl)) rfl (by decide +kernel)
set_option maxRecDepth 20000 in
theorem lk_26_54 (D : va_G) (l : Launch) : zLk D l "FlagLayersModel" (.putfield 170, 11, 55, 0) := fun p e R s m args below meth c mi d pc ad0 hown hcx hbx hini hts hK hdec => by
  show zOkPut D s args m.cls meth.name (zown mi) 170 11 55 (zty 11 55)
  have hc := hcx.2.2.2.2.2.1
  rw [hown] at hc ⊢
  exact zk_putF hts (zuk_11 hK) zin_11 (by decide) zw_901 rfl hc (hbx.2.trans (hini rfl)) rfl (by decide +kernel)
set_option maxRecDepth 20000 in
theorem lk_26_55 (D : va_G) (l : Launch) : zLk D l "FlagLayersModel" (.putfield 173, 11, 56, 0) := fun p e R s m args below meth c mi d pc ad0 hown hcx hbx hini hts hK hdec => by
  show zOkPut D s args m.cls meth.name (zown mi) 173 11 56 (zty 11 56)
  have hc := hcx.2.2.2.2.2.1
  rw [hown] at hc ⊢
  exact zk_putF hts (zuk_11 hK) zin_11 (by decide) zw_902 rfl hc (hbx.2.trans (hini rfl)) rfl (by decide +kernel)
set_option maxRecDepth 20000 in
theorem lk_26_56 (D : va_G) (l : Launch) : zLk D l "FlagLayersModel" (.putfield 176, 11, 57, 0) := fun p e R s m args below meth c mi d pc ad0 hown hcx hbx hini hts hK hdec => by
  show zOkPut D s args m.cls meth.name (zown mi) 176 11 57 (zty 11 57)
  have hc := hcx.2.2.2.2.2.1
  rw [hown] at hc ⊢
  exact zk_putF hts (zuk_11 hK) zin_11 (by decide) zw_903 rfl hc (hbx.2.trans (hini rfl)) rfl (by decide +kernel)
set_option maxRecDepth 20000 in
theorem lk_26_57 (D : va_G) (l : Launch) : zLk D l "FlagLayersModel" (.putfield 179, 11, 58, 0) := fun p e R s m args below meth c mi d pc ad0 hown hcx hbx hini hts hK hdec => by
  show zOkPut D s args m.cls meth.name (zown mi) 179 11 58 (zty 11 58)
  have hc := hcx.2.2.2.2.2.1
  rw [hown] at hc ⊢
  exact zk_putF hts (zuk_11 hK) zin_11 (by decide) zw_904 rfl hc (hbx.2.trans (hini rfl)) rfl (by decide +kernel)
set_option maxRecDepth 20000 in
theorem lk_26_58 (D : va_G) (l : Launch) : zLk D l "FlagLayersModel" (.putfield 182, 11, 59, 0) := fun p e R s m args below meth c mi d pc ad0 hown hcx hbx hini hts hK hdec => by
  show zOkPut D s args m.cls meth.name (zown mi) 182 11 59 (zty 11 59)
  have hc := hcx.2.2.2.2.2.1
  rw [hown] at hc ⊢
  exact zk_putF hts (zuk_11 hK) zin_11 (by decide) zw_905 rfl hc (hbx.2.trans (hini rfl)) rfl (by decide +kernel)
set_option maxRecDepth 20000 in
theorem lk_26_59 (D : va_G) (l : Launch) : zLk D l "FlagLayersModel" (.putfield 185, 11, 60, 0) := fun p e R s m args below meth c mi d pc ad0 hown hcx hbx hini hts hK hdec => by
  show zOkPut D s args m.cls meth.name (zown mi) 185 11 60 (zty 11 60)
  have hc := hcx.2.2.2.2.2.1
  rw [hown] at hc ⊢
  exact zk_putF hts (zuk_11 hK) zin_11 (by decide) zw_906 rfl hc (hbx.2.trans (hini rfl)) rfl (by decide +kernel)
set_option maxRecDepth 20000 in
theorem lk_26_60 (D : va_G) (l : Launch) : zLk D l "FlagLayersModel" (.putfield 188, 11, 61, 0) := fun p e R s m args below meth c mi d pc ad0 hown hcx hbx hini hts hK hdec => by
  show zOkPut D s args m.cls meth.name (zown mi) 188 11 61 (zty 11 61)
  have hc := hcx.2.2.2.2.2.1
  rw [hown] at hc ⊢
  exact zk_putF hts (zuk_11 hK) zin_11 (by decide) zw_907 rfl hc (hbx.2.trans (hini rfl)) rfl (by decide +kernel)
set_option maxRecDepth 20000 in
theorem lk_26_61 (D : va_G) (l : Launch) : zLk D l "FlagLayersModel" (.putfield 191, 11, 62, 0) := fun p e R s m args below meth c mi d pc ad0 hown hcx hbx hini hts hK hdec => by
  show zOkPut D s args m.cls meth.name (zown mi) 191 11 62 (zty 11 62)
  have hc := hcx.2.2.2.2.2.1
  rw [hown] at hc ⊢
  exact zk_putF hts (zuk_11 hK) zin_11 (by decide) zw_908 rfl hc (hbx.2.trans (hini rfl)) rfl (by decide +kernel)
set_option maxRecDepth 20000 in
theorem lk_26_62 (D : va_G) (l : Launch) : zLk D l "FlagLayersModel" (.putfield 194, 11, 63, 0) := fun p e R s m args below meth c mi d pc ad0 hown hcx hbx hini hts hK hdec => by
  show zOkPut D s args m.cls meth.name (zown mi) 194 11 63 (zty 11 63)
  have hc := hcx.2.2.2.2.2.1
  rw [hown] at hc ⊢
  exact zk_putF hts (zuk_11 hK) zin_11 (by decide) zw_909 rfl hc (hbx.2.trans (hini rfl)) rfl (by decide +kernel)
set_option maxRecDepth 20000 in
theorem lk_26_63 (D : va_G) (l : Launch) : zLk D l "FlagLayersModel" (.putfield 197, 11, 66, 0) := fun p e R s m args below meth c mi d pc ad0 hown hcx hbx hini hts hK hdec => by
  show zOkPut D s args m.cls meth.name (zown mi) 197 11 66 (zty 11 66)
  have hc := hcx.2.2.2.2.2.1
  rw [hown] at hc ⊢
  exact zk_putF hts (zuk_11 hK) zin_11 (by decide) zw_910 rfl hc (hbx.2.trans (hini rfl)) rfl (by decide +kernel)
set_option maxRecDepth 20000 in
theorem lk_26_64 (D : va_G) (l : Launch) : zLk D l "FlagLayersModel" (.putfield 200, 11, 67, 0) := fun p e R s m args below meth c mi d pc ad0 hown hcx hbx hini hts hK hdec => by
  show zOkPut D s args m.cls meth.name (zown mi) 200 11 67 (zty 11 67)
  have hc := hcx.2.2.2.2.2.1
  rw [hown] at hc ⊢
  exact zk_putF hts (zuk_11 hK) zin_11 (by decide) zw_911 rfl hc (hbx.2.trans (hini rfl)) rfl (by decide +kernel)
set_option maxRecDepth 20000 in
theorem lk_26_65 (D : va_G) (l : Launch) : zLk D l "FlagLayersModel" (.putfield 203, 11, 74, 0) := fun p e R s m args below meth c mi d pc ad0 hown hcx hbx hini hts hK hdec => by
  show zOkPut D s args m.cls meth.name (zown mi) 203 11 74 (zty 11 74)
  have hc := hcx.2.2.2.2.2.1
  rw [hown] at hc ⊢
  exact zk_putF hts (zuk_11 hK) zin_11 (by decide) zw_912 rfl hc (hbx.2.trans (hini rfl)) rfl (by decide +kernel)
set_option maxRecDepth 20000 in
theorem lk_26_66 (D : va_G) (l : Launch) : zLk D l "FlagLayersModel" (.putfield 206, 11, 77, 0) := fun p e R s m args below meth c mi d pc ad0 hown hcx hbx hini hts hK hdec => by
  show zOkPut D s args m.cls meth.name (zown mi) 206 11 77 (zty 11 77)
  have hc := hcx.2.2.2.2.2.1
  rw [hown] at hc ⊢
  exact zk_putF hts (zuk_11 hK) zin_11 (by decide) zw_913 rfl hc (hbx.2.trans (hini rfl)) rfl (by decide +kernel)
set_option maxRecDepth 20000 in
theorem lk_26_67 (D : va_G) (l : Launch) : zLk D l "FlagLayersModel" (.putfield 209, 11, 78, 0) := fun p e R s m args below meth c mi d pc ad0 hown hcx hbx hini hts hK hdec => by
  show zOkPut D s args m.cls meth.name (zown mi) 209 11 78 (zty 11 78)
  have hc := hcx.2.2.2.2.2.1
  rw [hown] at hc ⊢
  exact zk_putF hts (zuk_11 hK) zin_11 (by decide) zw_914 rfl hc (hbx.2.trans (hini rfl)) rfl (by decide +kernel)
set_option maxRecDepth 20000 in
theorem lk_26_68 (D : va_G) (l : Launch) : zLk D l "FlagLayersModel" (.putfield 212, 11, 79, 0) := fun p e R s m args below meth c mi d pc ad0 hown hcx hbx hini hts hK hdec => by
  show zOkPut D s args m.cls meth.name (zown mi) 212 11 79 (zty 11 79)
  have hc := hcx.2.2.2.2.2.1
  rw [hown] at hc ⊢
  exact zk_putF hts (zuk_11 hK) zin_11 (by decide) zw_915 rfl hc (hbx.2.trans (hini rfl)) rfl (by decide +kernel)
set_option maxRecDepth 20000 in
theorem lk_26_69 (D : va_G) (l : Launch) : zLk D l "FlagLayersModel" (.putfield 215, 11, 80, 0) := fun p e R s m args below meth c mi d pc ad0 hown hcx hbx hini hts hK hdec => by
  show zOkPut D s args m.cls meth.name (zown mi) 215 11 80 (zty 11 80)
  have hc := hcx.2.2.2.2.2.1
  rw [hown] at hc ⊢
  exact zk_putF hts (zuk_11 hK) zin_11 (by decide) zw_916 rfl hc (hbx.2.trans (hini rfl)) rfl (by decide +kernel)
set_option maxRecDepth 20000 in
theorem lk_26_70 (D : va_G) (l : Launch) : zLk D l "FlagLayersModel" (.putfield 218, 11, 81, 0) := fun p e R s m args below meth c mi d pc ad0 hown hcx hbx hini hts hK hdec => by
  show zOkPut D s args m.cls meth.name (zown mi) 218 11 81 (zty 11 81)
  have hc := hcx.2.2.2.2.2.1
  rw [hown] at hc ⊢
  exact zk_putF hts (zuk_11 hK) zin_11 (by decide) zw_917 rfl hc (hbx.2.trans (hini rfl)) rfl (by decide +kernel)
set_option maxRecDepth 20000 in
theorem lk_26_71 (D : va_G) (l : Launch) : zLk D l "FlagLayersModel" (.putfield 221, 11, 82, 0) := fun p e R s m args below meth c mi d pc ad0 hown hcx hbx hini hts hK hdec => by
  show zOkPut D s args m.cls meth.name (zown mi) 221 11 82 (zty 11 82)
  have hc := hcx.2.2.2.2.2.1
  rw [hown] at hc ⊢
  exact zk_putF hts (zuk_11 hK) zin_11 (by decide) zw_918 rfl hc (hbx.2.trans (hini rfl)) rfl (by decide +kernel)
set_option maxRecDepth 20000 in
theorem lk_26_72 (D : va_G) (l : Launch) : zLk D l "FlagLayersModel" (.putfield 224, 11, 83, 0) := fun p e R s m args below meth c mi d pc ad0 hown hcx hbx hini hts hK hdec => by
  show zOkPut D s args m.cls meth.name (zown mi) 224 11 83 (zty 11 83)
  have hc := hcx.2.2.2.2.2.1
  rw [hown] at hc ⊢
  exact zk_putF hts (zuk_11 hK) zin_11 (by decide) zw_919 rfl hc (hbx.2.trans (hini rfl)) rfl (by decide +kernel)
set_option maxRecDepth 20000 in
theorem lk_26_73 (D : va_G) (l : Launch) : zLk D l "FlagLayersModel" (.putfield 227, 11, 91, 0) := fun p e R s m args below meth c mi d pc ad0 hown hcx hbx hini hts hK hdec => by
  show zOkPut D s args m.cls meth.name (zown mi) 227 11 91 (zty 11 91)
  have hc := hcx.2.2.2.2.2.1
  rw [hown] at hc ⊢
  exact zk_putF hts (zuk_11 hK) zin_11 (by decide) zw_920 rfl hc (hbx.2.trans (hini rfl)) rfl (by decide +kernel)
set_option maxRecDepth 20000 in
theorem lk_26_74 (D : va_G) (l : Launch) : zLk D l "FlagLayersModel" (.getfield 230, 11, 0, 0) := fun p e R s m args below meth c mi d pc ad0 hown hcx hbx hini hts hK hdec => by
  show zOkGet D s args (zown mi) 230 11 0
  rw [hown]
  exact zk_get hts (zuk_11 hK) zin_11 (by decide) (zFl_p hts zw_921) (Or.inl rfl)
set_option maxRecDepth 20000 in
theorem lk_26_75 (D : va_G) (l : Launch) : zLk D l "FlagLayersModel" (.getfield 233, 11, 2, 0) := fun p e R s m args below meth c mi d pc ad0 hown hcx hbx hini hts hK hdec => by
  show zOkGet D s args (zown mi) 233 11 2
  rw [hown]
  exact zk_get hts (zuk_11 hK) zin_11 (by decide) (zFl_p hts zw_922) (Or.inl rfl)
set_option maxRecDepth 20000 in
theorem lk_26_76 (D : va_G) (l : Launch) : zLk D l "FlagLayersModel" (.invokevirtual 236, 185, 0, 14) := fun p e R s m args below meth c mi d pc ad0 hown hcx hbx hini hts hK hdec => zk_V (n := 11) hcx hts (zuk_11 hK).2.1 zcm_185 zct_185 hdec (by rw [hown]; exact zw_923) zw_924 zs_47 zw_7 rfl zpd_185 rfl
set_option maxRecDepth 20000 in
theorem lk_26_77 (D : va_G) (l : Launch) : zLk D l "FlagLayersModel" (.getfield 7, 11, 1, 0) := fun p e R s m args below meth c mi d pc ad0 hown hcx hbx hini hts hK hdec => by
  show zOkGet D s args (zown mi) 7 11 1
  rw [hown]
  exact zk_get hts (zuk_11 hK) zin_11 (by decide) (zFl_p hts zw_848) (Or.inl rfl)
set_option maxRecDepth 20000 in
theorem lk_26_78 (D : va_G) (l : Launch) : zLk D l "FlagLayersModel" (.putfield 233, 11, 2, 0) := fun p e R s m args below meth c mi d pc ad0 hown hcx hbx hini hts hK hdec => by
  show zOkPut D s args m.cls meth.name (zown mi) 233 11 2 (zty 11 2)
  rw [hown]
  exact zk_put hts (zuk_11 hK) zin_11 (by decide) (zFl_p hts zw_922) (Or.inl rfl) rfl (by decide +kernel)
set_option maxRecDepth 20000 in
theorem lk_26_79 (D : va_G) (l : Launch) : zLk D l "FlagLayersModel" (.putfield 230, 11, 0, 0) := fun p e R s m args below meth c mi d pc ad0 hown hcx hbx hini hts hK hdec => by
  show zOkPut D s args m.cls meth.name (zown mi) 230 11 0 (zty 11 0)
  rw [hown]
  exact zk_put hts (zuk_11 hK) zin_11 (by decide) (zFl_p hts zw_921) (Or.inl rfl) rfl (by decide +kernel)
set_option maxRecDepth 20000 in
theorem lk_26_80 (D : va_G) (l : Launch) : zLk D l "FlagLayersModel" (.invokestatic 240, 187, 0, 0) := fun p e R s m args below meth c mi d pc ad0 hown hcx hbx hini hts hK hdec => zk_S hcx hts zcm_187 zct_187 hdec (by rw [hown]; exact zw_925) zw_926 zw_7 zpd_187 rfl
set_option maxRecDepth 20000 in
theorem lk_26_81 (D : va_G) (l : Launch) : zLk D l "FlagLayersModel" (.invokevirtual 487, 189, 0, 14) := fun p e R s m args below meth c mi d pc ad0 hown hcx hbx hini hts hK hdec => zk_V (n := 11) hcx hts (zuk_11 hK).2.1 zcm_189 zct_189 hdec (by rw [hown]; exact zw_927) zw_928 zs_48 zw_7 rfl zpd_189 rfl
set_option maxRecDepth 20000 in
theorem lk_26_82 (D : va_G) (l : Launch) : zLk D l "FlagLayersModel" (.getfield 251, 11, 73, 0) := fun p e R s m args below meth c mi d pc ad0 hown hcx hbx hini hts hK hdec => by
  show zOkGet D s args (zown mi) 251 11 73
  rw [hown]
  exact zk_get hts (zuk_11 hK) zin_11 (by decide) (zFl_p hts zw_929) (Or.inl rfl)
set_option maxRecDepth 20000 in
theorem lk_26_83 (D : va_G) (l : Launch) : zLk D l "FlagLayersModel" (.getfield 13, 11, 4, 0) := fun p e R s m args below meth c mi d pc ad0 hown hcx hbx hini hts hK hdec => by
  show zOkGet D s args (zown mi) 13 11 4
  rw [hown]
  exact zk_get hts (zuk_11 hK) zin_11 (by decide) (zFl_p hts zw_849) (Or.inl rfl)
set_option maxRecDepth 20000 in
theorem lk_26_84 (D : va_G) (l : Launch) : zLk D l "FlagLayersModel" (.putfield 490, 11, 3, 0) := fun p e R s m args below meth c mi d pc ad0 hown hcx hbx hini hts hK hdec => by
  show zOkPut D s args m.cls meth.name (zown mi) 490 11 3 (zty 11 3)
  rw [hown]
  exact zk_put hts (zuk_11 hK) zin_11 (by decide) (zFl_p hts zw_930) (Or.inl rfl) rfl (by decide +kernel)
set_option maxRecDepth 20000 in
theorem lk_26_85 (D : va_G) (l : Launch) : zLk D l "FlagLayersModel" (.putfield 493, 11, 85, 0) := fun p e R s m args below meth c mi d pc ad0 hown hcx hbx hini hts hK hdec => by
  show zOkPut D s args m.cls meth.name (zown mi) 493 11 85 (zty 11 85)
  rw [hown]
  exact zk_put hts (zuk_11 hK) zin_11 (by decide) (zFl_p hts zw_931) (Or.inl rfl) rfl (by decide +kernel)
set_option maxRecDepth 20000 in
theorem lk_26_86 (D : va_G) (l : Launch) : zLk D l "FlagLayersModel" (.getfield 43, 11, 13, 0) := fun p e R s m args below meth c mi d pc ad0 hown hcx hbx hini hts hK hdec => by
  show zOkGet D s args (zown mi) 43 11 13
  rw [hown]
  exact zk_get hts (zuk_11 hK) zin_11 (by decide) (zFl_p hts zw_859) (Or.inl rfl)
set_option maxRecDepth 20000 in
theorem lk_26_87 (D : va_G) (l : Launch) : zLk D l "FlagLayersModel" (.getfield 490, 11, 3, 0) := fun p e R s m args below meth c mi d pc ad0 hown hcx hbx hini hts hK hdec => by
  show zOkGet D s args (zown mi) 490 11 3
  rw [hown]
  exact zk_get hts (zuk_11 hK) zin_11 (by decide) (zFl_p hts zw_930) (Or.inl rfl)
set_option maxRecDepth 20000 in
theorem lk_26_88 (D : va_G) (l : Launch) : zLk D l "FlagLayersModel" (.getfield 17, 11, 5, 0) := fun p e R s m args below meth c mi d pc ad0 hown hcx hbx hini hts hK hdec => by
  show zOkGet D s args (zown mi) 17 11 5
  rw [hown]
  exact zk_get hts (zuk_11 hK) zin_11 (by decide) (zFl_p hts zw_850) (Or.inl rfl)
set_option maxRecDepth 20000 in
theorem lk_26_89 (D : va_G) (l : Launch) : zLk D l "FlagLayersModel" (.getfield 28, 11, 8, 0) := fun p e R s m args below meth c mi d pc ad0 hown hcx hbx hini hts hK hdec => by
  show zOkGet D s args (zown mi) 28 11 8
  rw [hown]
  exact zk_get hts (zuk_11 hK) zin_11 (by decide) (zFl_p hts zw_854) (Or.inl rfl)
set_option maxRecDepth 20000 in
theorem lk_26_90 (D : va_G) (l : Launch) : zLk D l "FlagLayersModel" (.getfield 91, 11, 29, 0) := fun p e R s m args below meth c mi d pc ad0 hown hcx hbx hini hts hK hdec => by
  show zOkGet D s args (zown mi) 91 11 29
  rw [hown]
  exact zk_get hts (zuk_11 hK) zin_11 (by decide) (zFl_p hts zw_875) (Or.inl rfl)
set_option maxRecDepth 20000 in
theorem lk_26_91 (D : va_G) (l : Launch) : zLk D l "FlagLayersModel" (.getfield 100, 11, 32, 0) := fun p e R s m args below meth c mi d pc ad0 hown hcx hbx hini hts hK hdec => by
  show zOkGet D s args (zown mi) 100 11 32
  rw [hown]
  exact zk_get hts (zuk_11 hK) zin_11 (by decide) (zFl_p hts zw_878) (Or.inl rfl)
set_option maxRecDepth 20000 in
theorem lk_26_92 (D : va_G) (l : Launch) : zLk D l "FlagLayersModel" (.getfield 121, 11, 39, 0) := fun p e R s m args below meth c mi d pc ad0 hown hcx hbx hini hts hK hdec => by
  show zOkGet D s args (zown mi) 121 11 39
  rw [hown]
  exact zk_get hts (zuk_11 hK) zin_11 (by decide) (zFl_p hts zw_885) (Or.inl rfl)
set_option maxRecDepth 20000 in
theorem lk_26_93 (D : va_G) (l : Launch) : zLk D l "FlagLayersModel" (.getfield 133, 11, 43, 0) := fun p e R s m args below meth c mi d pc ad0 hown hcx hbx hini hts hK hdec => by
  show zOkGet D s args (zown mi) 133 11 43
  rw [hown]
  exact zk_get hts (zuk_11 hK) zin_11 (by decide) (zFl_p hts zw_889) (Or.inl rfl)
set_option maxRecDepth 20000 in
theorem lk_26_94 (D : va_G) (l : Launch) : zLk D l "FlagLayersModel" (.getfield 142, 11, 46, 0) := fun p e R s m args below meth c mi d pc ad0 hown hcx hbx hini hts hK hdec => by
  show zOkGet D s args (zown mi) 142 11 46
  rw [hown]
  exact zk_get hts (zuk_11 hK) zin_11 (by decide) (zFl_p hts zw_892) (Or.inl rfl)
set_option maxRecDepth 20000 in
theorem lk_26_95 (D : va_G) (l : Launch) : zLk D l "FlagLayersModel" (.getfield 164, 11, 53, 0) := fun p e R s m args below meth c mi d pc ad0 hown hcx hbx hini hts hK hdec => by
  show zOkGet D s args (zown mi) 164 11 53
  rw [hown]
  exact zk_get hts (zuk_11 hK) zin_11 (by decide) (zFl_p hts zw_899) (Or.inl rfl)
set_option maxRecDepth 20000 in
theorem lk_26_96 (D : va_G) (l : Launch) : zLk D l "FlagLayersModel" (.getfield 191, 11, 62, 0) := fun p e R s m args below meth c mi d pc ad0 hown hcx hbx hini hts hK hdec => by
  show zOkGet D s args (zown mi) 191 11 62
  rw [hown]
  exact zk_get hts (zuk_11 hK) zin_11 (by decide) (zFl_p hts zw_908) (Or.inl rfl)
set_option maxRecDepth 20000 in
theorem lk_26_97 (D : va_G) (l : Launch) : zLk D l "FlagLayersModel" (.putfield 264, 11, 68, 0) := fun p e R s m args below meth c mi d pc ad0 hown hcx hbx hini hts hK hdec => by
  show zOkPut D s args m.cls meth.name (zown mi) 264 11 68 (zty 11 68)
  rw [hown]
  exact zk_put hts (zuk_11 hK) zin_11 (by decide) (zFl_p hts zw_932) (Or.inl rfl) rfl (by decide +kernel)
set_option maxRecDepth 20000 in
theorem lk_26_98 (D : va_G) (l : Launch) : zLk D l "FlagLayersModel" (.putfield 251, 11, 73, 0) := fun p e R s m args below meth c mi d pc ad0 hown hcx hbx hini hts hK hdec => by
  show zOkPut D s args m.cls meth.name (zown mi) 251 11 73 (zty 11 73)
  rw [hown]
  exact zk_put hts (zuk_11 hK) zin_11 (by decide) (zFl_p hts zw_929) (Or.inl rfl) rfl (by decide +kernel)
set_option maxRecDepth 20000 in
theorem lk_26_99 (D : va_G) (l : Launch) : zLk D l "FlagLayersModel" (.putfield 254, 11, 64, 0) := fun p e R s m args below meth c mi d pc ad0 hown hcx hbx hini hts hK hdec => by
  show zOkPut D s args m.cls meth.name (zown mi) 254 11 64 (zty 11 64)
  rw [hown]
  exact zk_put hts (zuk_11 hK) zin_11 (by decide) (zFl_p hts zw_933) (Or.inl rfl) rfl (by decide +kernel)
set_option maxRecDepth 20000 in
theorem lk_26_100 (D : va_G) (l : Launch) : zLk D l "FlagLayersModel" (.invokevirtual 316, 190, 0, 14) := fun p e R s m args below meth c mi d pc ad0 hown hcx hbx hini hts hK hdec => zk_V (n := 11) hcx hts (zuk_11 hK).2.1 zcm_190 zct_190 hdec (by rw [hown]; exact zw_934) zw_935 zs_49 zw_7 rfl zpd_190 rfl
set_option maxRecDepth 20000 in
theorem lk_26_101 (D : va_G) (l : Launch) : zLk D l "FlagLayersModel" (.getfield 271, 11, 69, 0) := fun p e R s m args below meth c mi d pc ad0 hown hcx hbx hini hts hK hdec => by
  show zOkGet D s args (zown mi) 271 11 69
  rw [hown]
  exact zk_get hts (zuk_11 hK) zin_11 (by decide) (zFl_p hts zw_936) (Or.inl rfl)
set_option maxRecDepth 20000 in
theorem lk_26_102 (D : va_G) (l : Launch) : zLk D l "FlagLayersModel" (.ldc_w 330, 52, 0, 0) := fun p e R s m args below meth c mi d pc ad0 hown hcx hbx hini hts hK hdec => by
  intro v hv
  obtain rfl : (.ref 53 : Value) = v := Option.some.inj hv
  exact zk_strw (tx := "segment flag layer") hcx (by rw [hown]; exact hK.2.2.1 3 _ rfl) hdec
set_option maxRecDepth 20000 in
theorem lk_26_103 (D : va_G) (l : Launch) : zLk D l "FlagLayersModel" (.invokevirtual 304, 199, 0, 14) := fun p e R s m args below meth c mi d pc ad0 hown hcx hbx hini hts hK hdec => zk_V (n := 11) hcx hts (zuk_11 hK).2.1 zcm_199 zct_199 hdec (by rw [hown]; exact zw_937) zw_938 zs_50 zw_7 rfl zpd_199 rfl
set_option maxRecDepth 20000 in
theorem lk_26_104 (D : va_G) (l : Launch) : zLk D l "FlagLayersModel" (.invokevirtual 313, 200, 0, 14) := fun p e R s m args below meth c mi d pc ad0 hown hcx hbx hini hts hK hdec => zk_V (n := 11) hcx hts (zuk_11 hK).2.1 zcm_200 zct_200 hdec (by rw [hown]; exact zw_939) zw_940 zs_51 zw_7 rfl zpd_200 rfl
set_option maxRecDepth 20000 in
theorem lk_26_105 (D : va_G) (l : Launch) : zLk D l "FlagLayersModel" (.invokevirtual 332, 201, 0, 14) := fun p e R s m args below meth c mi d pc ad0 hown hcx hbx hini hts hK hdec => zk_V (n := 11) hcx hts (zuk_11 hK).2.1 zcm_201 zct_201 hdec (by rw [hown]; exact zw_941) zw_942 zs_52 zw_7 rfl zpd_201 rfl
set_option maxRecDepth 20000 in
theorem lk_26_106 (D : va_G) (l : Launch) : zLk D l "FlagLayersModel" (.invokevirtual 335, 226, 0, 14) := fun p e R s m args below meth c mi d pc ad0 hown hcx hbx hini hts hK hdec => zk_V (n := 11) hcx hts (zuk_11 hK).2.1 zcm_226 zct_226 hdec (by rw [hown]; exact zw_943) zw_944 zs_53 zw_7 rfl zpd_226 rfl
set_option maxRecDepth 20000 in
theorem lk_26_107 (D : va_G) (l : Launch) : zLk D l "FlagLayersModel" (.invokevirtual 338, 235, 0, 14) := fun p e R s m args below meth c mi d pc ad0 hown hcx hbx hini hts hK hdec => zk_V (n := 11) hcx hts (zuk_11 hK).2.1 zcm_235 zct_235 hdec (by rw [hown]; exact zw_945) zw_946 zs_54 zw_7 rfl zpd_235 rfl
set_option maxRecDepth 20000 in
theorem lk_26_108 (D : va_G) (l : Launch) : zLk D l "FlagLayersModel" (.invokevirtual 341, 237, 0, 14) := fun p e R s m args below meth c mi d pc ad0 hown hcx hbx hini hts hK hdec => zk_V (n := 11) hcx hts (zuk_11 hK).2.1 zcm_237 zct_237 hdec (by rw [hown]; exact zw_947) zw_948 zs_55 zw_7 rfl zpd_237 rfl
set_option maxRecDepth 20000 in
theorem lk_26_109 (D : va_G) (l : Launch) : zLk D l "FlagLayersModel" (.invokevirtual 344, 239, 0, 14) := fun p e R s m args below meth c mi d pc ad0 hown hcx hbx hini hts hK hdec => zk_V (n := 11) hcx hts (zuk_11 hK).2.1 zcm_239 zct_239 hdec (by rw [hown]; exact zw_949) zw_950 zs_56 zw_7 rfl zpd_239 rfl
set_option maxRecDepth 20000 in
theorem lk_26_110 (D : va_G) (l : Launch) : zLk D l "FlagLayersModel" (.getfield 264, 11, 68, 0) := fun p e R s m args below meth c mi d pc ad0 hown hcx hbx hini hts hK hdec => by
  show zOkGet D s args (zown mi) 264 11 68
  rw [hown]
  exact zk_get hts (zuk_11 hK) zin_11 (by decide) (zFl_p hts zw_932) (Or.inl rfl)
set_option maxRecDepth 20000 in
theorem lk_26_111 (D : va_G) (l : Launch) : zLk D l "FlagLayersModel" (.invokevirtual 267, 191, 0, 14) := fun p e R s m args below meth c mi d pc ad0 hown hcx hbx hini hts hK hdec => zk_V (n := 11) hcx hts (zuk_11 hK).2.1 zcm_191 zct_191 hdec (by rw [hown]; exact zw_951) zw_952 zs_57 zw_7 rfl zpd_191 rfl
set_option maxRecDepth 20000 in
theorem lk_26_112 (D : va_G) (l : Launch) : zLk D l "FlagLayersModel" (.putfield 244, 11, 70, 0) := fun p e R s m args below meth c mi d pc ad0 hown hcx hbx hini hts hK hdec => by
  show zOkPut D s args m.cls meth.name (zown mi) 244 11 70 (zty 11 70)
  rw [hown]
  exact zk_put hts (zuk_11 hK) zin_11 (by decide) (zFl_p hts zw_953) (Or.inl rfl) rfl (by decide +kernel)
set_option maxRecDepth 20000 in
theorem lk_26_113 (D : va_G) (l : Launch) : zLk D l "FlagLayersModel" (.putfield 271, 11, 69, 0) := fun p e R s m args below meth c mi d pc ad0 hown hcx hbx hini hts hK hdec => by
  show zOkPut D s args m.cls meth.name (zown mi) 271 11 69 (zty 11 69)
  rw [hown]
  exact zk_put hts (zuk_11 hK) zin_11 (by decide) (zFl_p hts zw_936) (Or.inl rfl) rfl (by decide +kernel)
set_option maxRecDepth 20000 in
theorem lk_26_114 (D : va_G) (l : Launch) : zLk D l "FlagLayersModel" (.invokestatic 257, 192, 0, 0) := fun p e R s m args below meth c mi d pc ad0 hown hcx hbx hini hts hK hdec => zk_S hcx hts zcm_192 zct_192 hdec (by rw [hown]; exact zw_954) zw_955 zw_7 zpd_192 rfl
set_option maxRecDepth 20000 in
theorem lk_26_115 (D : va_G) (l : Launch) : zLk D l "FlagLayersModel" (.invokestatic 274, 193, 0, 0) := fun p e R s m args below meth c mi d pc ad0 hown hcx hbx hini hts hK hdec => zk_S hcx hts zcm_193 zct_193 hdec (by rw [hown]; exact zw_956) zw_957 zw_7 zpd_193 rfl
set_option maxRecDepth 20000 in
theorem lk_26_116 (D : va_G) (l : Launch) : zLk D l "FlagLayersModel" (.getfield 244, 11, 70, 0) := fun p e R s m args below meth c mi d pc ad0 hown hcx hbx hini hts hK hdec => by
  show zOkGet D s args (zown mi) 244 11 70
  rw [hown]
  exact zk_get hts (zuk_11 hK) zin_11 (by decide) (zFl_p hts zw_953) (Or.inl rfl)
set_option maxRecDepth 20000 in
theorem lk_26_117 (D : va_G) (l : Launch) : zLk D l "FlagLayersModel" (.putfield 277, 11, 71, 0) := fun p e R s m args below meth c mi d pc ad0 hown hcx hbx hini hts hK hdec => by
  show zOkPut D s args m.cls meth.name (zown mi) 277 11 71 (zty 11 71)
  rw [hown]
  exact zk_put hts (zuk_11 hK) zin_11 (by decide) (zFl_p hts zw_958) (Or.inl rfl) rfl (by decide +kernel)
set_option maxRecDepth 20000 in
theorem lk_26_118 (D : va_G) (l : Launch) : zLk D l "FlagLayersModel" (.getfield 277, 11, 71, 0) := fun p e R s m args below meth c mi d pc ad0 hown hcx hbx hini hts hK hdec => by
  show zOkGet D s args (zown mi) 277 11 71
  rw [hown]
  exact zk_get hts (zuk_11 hK) zin_11 (by decide) (zFl_p hts zw_958) (Or.inl rfl)
set_option maxRecDepth 20000 in
theorem lk_26_119 (D : va_G) (l : Launch) : zLk D l "FlagLayersModel" (.invokevirtual 280, 195, 0, 14) := fun p e R s m args below meth c mi d pc ad0 hown hcx hbx hini hts hK hdec => zk_V (n := 11) hcx hts (zuk_11 hK).2.1 zcm_195 zct_195 hdec (by rw [hown]; exact zw_959) zw_960 zs_58 zw_7 rfl zpd_195 rfl
set_option maxRecDepth 20000 in
theorem lk_26_120 (D : va_G) (l : Launch) : zLk D l "FlagLayersModel" (.invokestatic 261, 194, 0, 0) := fun p e R s m args below meth c mi d pc ad0 hown hcx hbx hini hts hK hdec => zk_S hcx hts zcm_194 zct_194 hdec (by rw [hown]; exact zw_961) zw_962 zw_7 zpd_194 rfl
set_option maxRecDepth 20000 in
theorem lk_26_121 (D : va_G) (l : Launch) : zLk D l "FlagLayersModel" (.invokevirtual 284, 197, 0, 14) := fun p e R s m args below meth c mi d pc ad0 hown hcx hbx hini hts hK hdec => zk_V (n := 11) hcx hts (zuk_11 hK).2.1 zcm_197 zct_197 hdec (by rw [hown]; exact zw_963) zw_964 zs_59 zw_7 rfl zpd_197 rfl
set_option maxRecDepth 20000 in
theorem lk_26_122 (D : va_G) (l : Launch) : zLk D l "FlagLayersModel" (.invokevirtual 288, 198, 0, 14) := fun p e R s m args below meth c mi d pc ad0 hown hcx hbx hini hts hK hdec => zk_V (n := 11) hcx hts (zuk_11 hK).2.1 zcm_198 zct_198 hdec (by rw [hown]; exact zw_965) zw_966 zs_60 zw_7 rfl zpd_198 rfl
set_option maxRecDepth 20000 in
theorem lk_26_123 (D : va_G) (l : Launch) : zLk D l "FlagLayersModel" (.invokevirtual 247, 196, 0, 14) := fun p e R s m args below meth c mi d pc ad0 hown hcx hbx hini hts hK hdec => zk_V (n := 11) hcx hts (zuk_11 hK).2.1 zcm_196 zct_196 hdec (by rw [hown]; exact zw_967) zw_968 zs_61 zw_7 rfl zpd_196 rfl
set_option maxRecDepth 20000 in
theorem lk_26_124 (D : va_G) (l : Launch) : zLk D l "FlagLayersModel" (.putfield 291, 11, 72, 0) := fun p e R s m args below meth c mi d pc ad0 hown hcx hbx hini hts hK hdec => by
  show zOkPut D s args m.cls meth.name (zown mi) 291 11 72 (zty 11 72)
  rw [hown]
  exact zk_put hts (zuk_11 hK) zin_11 (by decide) (zFl_p hts zw_969) (Or.inl rfl) rfl (by decide +kernel)
set_option maxRecDepth 20000 in
theorem lk_26_125 (D : va_G) (l : Launch) : zLk D l "FlagLayersModel" (.getfield 291, 11, 72, 0) := fun p e R s m args below meth c mi d pc ad0 hown hcx hbx hini hts hK hdec => by
  show zOkGet D s args (zown mi) 291 11 72
  rw [hown]
  exact zk_get hts (zuk_11 hK) zin_11 (by decide) (zFl_p hts zw_969) (Or.inl rfl)
set_option maxRecDepth 20000 in
theorem lk_26_126 (D : va_G) (l : Launch) : zLk D l "FlagLayersModel" (.invokevirtual 294, 55, 0, 15) := fun p e R s m args below meth c mi d pc ad0 hown hcx hbx hini hts hK hdec => zk_V (n := 12) hcx hts (zuk_12 hK).2.1 zcm_55 zct_55 hdec (by rw [hown]; exact zw_970) zw_227 zw_226 zw_185 rfl zpd_55 rfl
set_option maxRecDepth 20000 in
theorem lk_26_127 (D : va_G) (l : Launch) : zLk D l "FlagLayersModel" (.invokevirtual 300, 59, 0, 15) := fun p e R s m args below meth c mi d pc ad0 hown hcx hbx hini hts hK hdec => zk_V (n := 12) hcx hts (zuk_12 hK).2.1 zcm_59 zct_59 hdec (by rw [hown]; exact zw_971) zw_230 zw_229 zw_185 rfl zpd_59 rfl
set_option maxRecDepth 20000 in
theorem lk_26_128 (D : va_G) (l : Launch) : zLk D l "FlagLayersModel" (.getfield 31, 11, 9, 0) := fun p e R s m args below meth c mi d pc ad0 hown hcx hbx hini hts hK hdec => by
  show zOkGet D s args (zown mi) 31 11 9
  rw [hown]
  exact zk_get hts (zuk_11 hK) zin_11 (by decide) (zFl_p hts zw_855) (Or.inl rfl)
set_option maxRecDepth 20000 in
theorem lk_26_129 (D : va_G) (l : Launch) : zLk D l "FlagLayersModel" (.invokevirtual 358, 202, 0, 14) := fun p e R s m args below meth c mi d pc ad0 hown hcx hbx hini hts hK hdec => zk_V (n := 11) hcx hts (zuk_11 hK).2.1 zcm_202 zct_202 hdec (by rw [hown]; exact zw_972) zw_973 zs_62 zw_7 rfl zpd_202 rfl
set_option maxRecDepth 20000 in
theorem lk_26_130 (D : va_G) (l : Launch) : zLk D l "FlagLayersModel" (.invokevirtual 362, 208, 0, 14) := fun p e R s m args below meth c mi d pc ad0 hown hcx hbx hini hts hK hdec => zk_V (n := 11) hcx hts (zuk_11 hK).2.1 zcm_208 zct_208 hdec (by rw [hown]; exact zw_974) zw_975 zs_63 zw_7 rfl zpd_208 rfl
set_option maxRecDepth 20000 in
theorem lk_26_131 (D : va_G) (l : Launch) : zLk D l "FlagLayersModel" (.invokevirtual 365, 210, 0, 14) := fun p e R s m args below meth c mi d pc ad0 hown hcx hbx hini hts hK hdec => zk_V (n := 11) hcx hts (zuk_11 hK).2.1 zcm_210 zct_210 hdec (by rw [hown]; exact zw_976) zw_977 zs_64 zw_7 rfl zpd_210 rfl
set_option maxRecDepth 20000 in
theorem lk_26_132 (D : va_G) (l : Launch) : zLk D l "FlagLayersModel" (.getfield 34, 11, 10, 0) := fun p e R s m args below meth c mi d pc ad0 hown hcx hbx hini hts hK hdec => by
  show zOkGet D s args (zown mi) 34 11 10
  rw [hown]
  exact zk_get hts (zuk_11 hK) zin_11 (by decide) (zFl_p hts zw_856) (Or.inl rfl)
set_option maxRecDepth 20000 in
theorem lk_26_133 (D : va_G) (l : Launch) : zLk D l "FlagLayersModel" (.getfield 37, 11, 11, 0) := fun p e R s m args below meth c mi d pc ad0 hown hcx hbx hini hts hK hdec => by
  show zOkGet D s args (zown mi) 37 11 11
  rw [hown]
  exact zk_get hts (zuk_11 hK) zin_11 (by decide) (zFl_p hts zw_857) (Or.inl rfl)
set_option maxRecDepth 20000 in
theorem lk_26_134 (D : va_G) (l : Launch) : zLk D l "FlagLayersModel" (.getfield 40, 11, 12, 0) := fun p e R s m args below meth c mi d pc ad0 hown hcx hbx hini hts hK hdec => by
  show zOkGet D s args (zown mi) 40 11 12
  rw [hown]
  exact zk_get hts (zuk_11 hK) zin_11 (by decide) (zFl_p hts zw_858) (Or.inl rfl)
set_option maxRecDepth 20000 in
theorem lk_26_135 (D : va_G) (l : Launch) : zLk D l "FlagLayersModel" (.invokevirtual 347, 203, 0, 14) := fun p e R s m args below meth c mi d pc ad0 hown hcx hbx hini hts hK hdec => zk_V (n := 11) hcx hts (zuk_11 hK).2.1 zcm_203 zct_203 hdec (by rw [hown]; exact zw_978) zw_979 zs_65 zw_7 rfl zpd_203 rfl
set_option maxRecDepth 20000 in
theorem lk_26_136 (D : va_G) (l : Launch) : zLk D l "FlagLayersModel" (.invokevirtual 351, 204, 0, 14) := fun p e R s m args below meth c mi d pc ad0 hown hcx hbx hini hts hK hdec => zk_V (n := 11) hcx hts (zuk_11 hK).2.1 zcm_204 zct_204 hdec (by rw [hown]; exact zw_980) zw_981 zs_66 zw_7 rfl zpd_204 rfl
set_option maxRecDepth 20000 in
theorem lk_26_137 (D : va_G) (l : Launch) : zLk D l "FlagLayersModel" (.invokevirtual 355, 206, 0, 14) := fun p e R s m args below meth c mi d pc ad0 hown hcx hbx hini hts hK hdec => zk_V (n := 11) hcx hts (zuk_11 hK).2.1 zcm_206 zct_206 hdec (by rw [hown]; exact zw_982) zw_983 zs_67 zw_7 rfl zpd_206 rfl
set_option maxRecDepth 20000 in
theorem lk_26_138 (D : va_G) (l : Launch) : zLk D l "FlagLayersModel" (.ldc_w 308, 53, 0, 0) := fun p e R s m args below meth c mi d pc ad0 hown hcx hbx hini hts hK hdec => by
  intro v hv
  obtain rfl : (.ref 55 : Value) = v := Option.some.inj hv
  exact zk_strw (tx := "flag bool num choice default off needs rule layer of set segment split roll else in not or and true false is below above begins ends holds among given") hcx (by rw [hown]; exact hK.2.2.1 4 _ rfl) hdec
set_option maxRecDepth 20000 in
theorem lk_26_139 (D : va_G) (l : Launch) : zLk D l "FlagLayersModel" (.invokevirtual 327, 205, 0, 14) := fun p e R s m args below meth c mi d pc ad0 hown hcx hbx hini hts hK hdec => zk_V (n := 11) hcx hts (zuk_11 hK).2.1 zcm_205 zct_205 hdec (by rw [hown]; exact zw_984) zw_985 zs_68 zw_7 rfl zpd_205 rfl
set_option maxRecDepth 20000 in
theorem lk_26_140 (D : va_G) (l : Launch) : zLk D l "FlagLayersModel" (.getfield 21, 11, 6, 0) := fun p e R s m args below meth c mi d pc ad0 hown hcx hbx hini hts hK hdec => by
  show zOkGet D s args (zown mi) 21 11 6
  rw [hown]
  exact zk_get hts (zuk_11 hK) zin_11 (by decide) (zFl_p hts zw_851) (Or.inl rfl)
set_option maxRecDepth 20000 in
theorem lk_26_141 (D : va_G) (l : Launch) : zLk D l "FlagLayersModel" (.getfield 25, 11, 7, 0) := fun p e R s m args below meth c mi d pc ad0 hown hcx hbx hini hts hK hdec => by
  show zOkGet D s args (zown mi) 25 11 7
  rw [hown]
  exact zk_get hts (zuk_11 hK) zin_11 (by decide) (zFl_p hts zw_853) (Or.inl rfl)
set_option maxRecDepth 20000 in
theorem lk_26_142 (D : va_G) (l : Launch) : zLk D l "FlagLayersModel" (.invokevirtual 323, 207, 0, 14) := fun p e R s m args below meth c mi d pc ad0 hown hcx hbx hini hts hK hdec => zk_V (n := 11) hcx hts (zuk_11 hK).2.1 zcm_207 zct_207 hdec (by rw [hown]; exact zw_986) zw_987 zs_69 zw_7 rfl zpd_207 rfl
set_option maxRecDepth 20000 in
theorem lk_26_143 (D : va_G) (l : Launch) : zLk D l "FlagLayersModel" (.invokevirtual 310, 209, 0, 14) := fun p e R s m args below meth c mi d pc ad0 hown hcx hbx hini hts hK hdec => zk_V (n := 11) hcx hts (zuk_11 hK).2.1 zcm_209 zct_209 hdec (by rw [hown]; exact zw_988) zw_989 zs_70 zw_7 rfl zpd_209 rfl
set_option maxRecDepth 20000 in
theorem lk_26_144 (D : va_G) (l : Launch) : zLk D l "FlagLayersModel" (.putfield 432, 11, 75, 0) := fun p e R s m args below meth c mi d pc ad0 hown hcx hbx hini hts hK hdec => by
  show zOkPut D s args m.cls meth.name (zown mi) 432 11 75 (zty 11 75)
  rw [hown]
  exact zk_put hts (zuk_11 hK) zin_11 (by decide) (zFl_p hts zw_990) (Or.inl rfl) rfl (by decide +kernel)
set_option maxRecDepth 20000 in
theorem lk_26_145 (D : va_G) (l : Launch) : zLk D l "FlagLayersModel" (.putfield 441, 11, 76, 0) := fun p e R s m args below meth c mi d pc ad0 hown hcx hbx hini hts hK hdec => by
  show zOkPut D s args m.cls meth.name (zown mi) 441 11 76 (zty 11 76)
  rw [hown]
  exact zk_put hts (zuk_11 hK) zin_11 (by decide) (zFl_p hts zw_991) (Or.inl rfl) rfl (by decide +kernel)
set_option maxRecDepth 20000 in
theorem lk_26_146 (D : va_G) (l : Launch) : zLk D l "FlagLayersModel" (.invokevirtual 450, 211, 0, 14) := fun p e R s m args below meth c mi d pc ad0 hown hcx hbx hini hts hK hdec => zk_V (n := 11) hcx hts (zuk_11 hK).2.1 zcm_211 zct_211 hdec (by rw [hown]; exact zw_992) zw_993 zs_71 zw_7 rfl zpd_211 rfl
set_option maxRecDepth 20000 in
theorem lk_26_147 (D : va_G) (l : Launch) : zLk D l "FlagLayersModel" (.getfield 432, 11, 75, 0) := fun p e R s m args below meth c mi d pc ad0 hown hcx hbx hini hts hK hdec => by
  show zOkGet D s args (zown mi) 432 11 75
  rw [hown]
  exact zk_get hts (zuk_11 hK) zin_11 (by decide) (zFl_p hts zw_990) (Or.inl rfl)
set_option maxRecDepth 20000 in
theorem lk_26_148 (D : va_G) (l : Launch) : zLk D l "FlagLayersModel" (.invokevirtual 453, 212, 0, 14) := fun p e R s m args below meth c mi d pc ad0 hown hcx hbx hini hts hK hdec => zk_V (n := 11) hcx hts (zuk_11 hK).2.1 zcm_212 zct_212 hdec (by rw [hown]; exact zw_994) zw_995 zs_72 zw_7 rfl zpd_212 rfl
set_option maxRecDepth 20000 in
theorem lk_26_149 (D : va_G) (l : Launch) : zLk D l "FlagLayersModel" (.ldc_w 456, 54, 0, 0) := fun p e R s m args below meth c mi d pc ad0 hown hcx hbx hini hts hK hdec => by
  intro v hv
  obtain rfl : (.ref 57 : Value) = v := Option.some.inj hv
  exact zk_strw (tx := "and") hcx (by rw [hown]; exact hK.2.2.1 5 _ rfl) hdec
set_option maxRecDepth 20000 in
theorem lk_26_150 (D : va_G) (l : Launch) : zLk D l "FlagLayersModel" (.invokevirtual 319, 213, 0, 14) := fun p e R s m args below meth c mi d pc ad0 hown hcx hbx hini hts hK hdec => zk_V (n := 11) hcx hts (zuk_11 hK).2.1 zcm_213 zct_213 hdec (by rw [hown]; exact zw_996) zw_997 zs_73 zw_7 rfl zpd_213 rfl
set_option maxRecDepth 20000 in
theorem lk_26_151 (D : va_G) (l : Launch) : zLk D l "FlagLayersModel" (.getfield 215, 11, 80, 0) := fun p e R s m args below meth c mi d pc ad0 hown hcx hbx hini hts hK hdec => by
  show zOkGet D s args (zown mi) 215 11 80
  rw [hown]
  exact zk_get hts (zuk_11 hK) zin_11 (by decide) (zFl_p hts zw_916) (Or.inl rfl)
set_option maxRecDepth 20000 in
theorem lk_26_152 (D : va_G) (l : Launch) : zLk D l "FlagLayersModel" (.invokevirtual 458, 223, 0, 14) := fun p e R s m args below meth c mi d pc ad0 hown hcx hbx hini hts hK hdec => zk_V (n := 11) hcx hts (zuk_11 hK).2.1 zcm_223 zct_223 hdec (by rw [hown]; exact zw_998) zw_999 zs_74 zw_7 rfl zpd_223 rfl
set_option maxRecDepth 20000 in
theorem lk_26_153 (D : va_G) (l : Launch) : zLk D l "FlagLayersModel" (.ldc_w 461, 55, 0, 0) := fun p e R s m args below meth c mi d pc ad0 hown hcx hbx hini hts hK hdec => by
  intro v hv
  obtain rfl : (.ref 59 : Value) = v := Option.some.inj hv
  exact zk_strw (tx := "or") hcx (by rw [hown]; exact hK.2.2.1 6 _ rfl) hdec
set_option maxRecDepth 20000 in
theorem lk_26_154 (D : va_G) (l : Launch) : zLk D l "FlagLayersModel" (.getfield 209, 11, 78, 0) := fun p e R s m args below meth c mi d pc ad0 hown hcx hbx hini hts hK hdec => by
  show zOkGet D s args (zown mi) 209 11 78
  rw [hown]
  exact zk_get hts (zuk_11 hK) zin_11 (by decide) (zFl_p hts zw_914) (Or.inl rfl)
set_option maxRecDepth 20000 in
theorem lk_26_155 (D : va_G) (l : Launch) : zLk D l "FlagLayersModel" (.invokevirtual 444, 224, 0, 14) := fun p e R s m args below meth c mi d pc ad0 hown hcx hbx hini hts hK hdec => zk_V (n := 11) hcx hts (zuk_11 hK).2.1 zcm_224 zct_224 hdec (by rw [hown]; exact zw_1000) zw_1001 zs_75 zw_7 rfl zpd_224 rfl
set_option maxRecDepth 20000 in
theorem lk_26_156 (D : va_G) (l : Launch) : zLk D l "FlagLayersModel" (.getfield 212, 11, 79, 0) := fun p e R s m args below meth c mi d pc ad0 hown hcx hbx hini hts hK hdec => by
  show zOkGet D s args (zown mi) 212 11 79
  rw [hown]
  exact zk_get hts (zuk_11 hK) zin_11 (by decide) (zFl_p hts zw_915) (Or.inl rfl)
set_option maxRecDepth 20000 in
theorem lk_26_157 (D : va_G) (l : Launch) : zLk D l "FlagLayersModel" (.invokevirtual 435, 220, 0, 14) := fun p e R s m args below meth c mi d pc ad0 hown hcx hbx hini hts hK hdec => zk_V (n := 11) hcx hts (zuk_11 hK).2.1 zcm_220 zct_220 hdec (by rw [hown]; exact zw_1002) zw_1003 zs_76 zw_7 rfl zpd_220 rfl
set_option maxRecDepth 20000 in
theorem lk_26_158 (D : va_G) (l : Launch) : zLk D l "FlagLayersModel" (.invokevirtual 463, 225, 0, 14) := fun p e R s m args below meth c mi d pc ad0 hown hcx hbx hini hts hK hdec => zk_V (n := 11) hcx hts (zuk_11 hK).2.1 zcm_225 zct_225 hdec (by rw [hown]; exact zw_1004) zw_1005 zs_77 zw_7 rfl zpd_225 rfl
set_option maxRecDepth 20000 in
theorem lk_26_159 (D : va_G) (l : Launch) : zLk D l "FlagLayersModel" (.getfield 441, 11, 76, 0) := fun p e R s m args below meth c mi d pc ad0 hown hcx hbx hini hts hK hdec => by
  show zOkGet D s args (zown mi) 441 11 76
  rw [hown]
  exact zk_get hts (zuk_11 hK) zin_11 (by decide) (zFl_p hts zw_991) (Or.inl rfl)
set_option maxRecDepth 20000 in
theorem lk_26_160 (D : va_G) (l : Launch) : zLk D l "FlagLayersModel" (.invokevirtual 466, 222, 0, 14) := fun p e R s m args below meth c mi d pc ad0 hown hcx hbx hini hts hK hdec => zk_V (n := 11) hcx hts (zuk_11 hK).2.1 zcm_222 zct_222 hdec (by rw [hown]; exact zw_1006) zw_1007 zs_78 zw_7 rfl zpd_222 rfl
set_option maxRecDepth 20000 in
theorem lk_26_161 (D : va_G) (l : Launch) : zLk D l "FlagLayersModel" (.getfield 206, 11, 77, 0) := fun p e R s m args below meth c mi d pc ad0 hown hcx hbx hini hts hK hdec => by
  show zOkGet D s args (zown mi) 206 11 77
  rw [hown]
  exact zk_get hts (zuk_11 hK) zin_11 (by decide) (zFl_p hts zw_913) (Or.inl rfl)
set_option maxRecDepth 20000 in
theorem lk_26_162 (D : va_G) (l : Launch) : zLk D l "FlagLayersModel" (.getfield 218, 11, 81, 0) := fun p e R s m args below meth c mi d pc ad0 hown hcx hbx hini hts hK hdec => by
  show zOkGet D s args (zown mi) 218 11 81
  rw [hown]
  exact zk_get hts (zuk_11 hK) zin_11 (by decide) (zFl_p hts zw_917) (Or.inl rfl)
set_option maxRecDepth 20000 in
theorem lk_26_163 (D : va_G) (l : Launch) : zLk D l "FlagLayersModel" (.ldc_w 469, 56, 0, 0) := fun p e R s m args below meth c mi d pc ad0 hown hcx hbx hini hts hK hdec => by
  intro v hv
  obtain rfl : (.ref 61 : Value) = v := Option.some.inj hv
  exact zk_strw (tx := "not") hcx (by rw [hown]; exact hK.2.2.1 7 _ rfl) hdec
set_option maxRecDepth 20000 in
theorem lk_26_164 (D : va_G) (l : Launch) : zLk D l "FlagLayersModel" (.invokevirtual 471, 214, 0, 14) := fun p e R s m args below meth c mi d pc ad0 hown hcx hbx hini hts hK hdec => zk_V (n := 11) hcx hts (zuk_11 hK).2.1 zcm_214 zct_214 hdec (by rw [hown]; exact zw_1008) zw_1009 zs_79 zw_7 rfl zpd_214 rfl
set_option maxRecDepth 20000 in
theorem lk_26_165 (D : va_G) (l : Launch) : zLk D l "FlagLayersModel" (.invokevirtual 447, 215, 0, 14) := fun p e R s m args below meth c mi d pc ad0 hown hcx hbx hini hts hK hdec => zk_V (n := 11) hcx hts (zuk_11 hK).2.1 zcm_215 zct_215 hdec (by rw [hown]; exact zw_1010) zw_1011 zs_80 zw_7 rfl zpd_215 rfl
set_option maxRecDepth 20000 in
theorem lk_26_166 (D : va_G) (l : Launch) : zLk D l "FlagLayersModel" (.ldc_w 474, 57, 0, 0) := fun p e R s m args below meth c mi d pc ad0 hown hcx hbx hini hts hK hdec => by
  intro v hv
  obtain rfl : (.ref 63 : Value) = v := Option.some.inj hv
  exact zk_strw (tx := "true false in") hcx (by rw [hown]; exact hK.2.2.1 8 _ rfl) hdec
set_option maxRecDepth 20000 in
theorem lk_26_167 (D : va_G) (l : Launch) : zLk D l "FlagLayersModel" (.invokevirtual 401, 216, 0, 14) := fun p e R s m args below meth c mi d pc ad0 hown hcx hbx hini hts hK hdec => zk_V (n := 11) hcx hts (zuk_11 hK).2.1 zcm_216 zct_216 hdec (by rw [hown]; exact zw_1012) zw_1013 zs_81 zw_7 rfl zpd_216 rfl
set_option maxRecDepth 20000 in
theorem lk_26_168 (D : va_G) (l : Launch) : zLk D l "FlagLayersModel" (.getfield 170, 11, 55, 0) := fun p e R s m args below meth c mi d pc ad0 hown hcx hbx hini hts hK hdec => by
  show zOkGet D s args (zown mi) 170 11 55
  rw [hown]
  exact zk_get hts (zuk_11 hK) zin_11 (by decide) (zFl_p hts zw_901) (Or.inl rfl)
set_option maxRecDepth 20000 in
theorem lk_26_169 (D : va_G) (l : Launch) : zLk D l "FlagLayersModel" (.invokevirtual 476, 217, 0, 14) := fun p e R s m args below meth c mi d pc ad0 hown hcx hbx hini hts hK hdec => zk_V (n := 11) hcx hts (zuk_11 hK).2.1 zcm_217 zct_217 hdec (by rw [hown]; exact zw_1014) zw_1015 zs_82 zw_7 rfl zpd_217 rfl
set_option maxRecDepth 20000 in
theorem lk_26_170 (D : va_G) (l : Launch) : zLk D l "FlagLayersModel" (.invokevirtual 438, 221, 0, 14) := fun p e R s m args below meth c mi d pc ad0 hown hcx hbx hini hts hK hdec => zk_V (n := 11) hcx hts (zuk_11 hK).2.1 zcm_221 zct_221 hdec (by rw [hown]; exact zw_1016) zw_1017 zs_83 zw_7 rfl zpd_221 rfl
set_option maxRecDepth 20000 in
theorem lk_26_171 (D : va_G) (l : Launch) : zLk D l "FlagLayersModel" (.getfield 167, 11, 54, 0) := fun p e R s m args below meth c mi d pc ad0 hown hcx hbx hini hts hK hdec => by
  show zOkGet D s args (zown mi) 167 11 54
  rw [hown]
  exact zk_get hts (zuk_11 hK) zin_11 (by decide) (zFl_p hts zw_900) (Or.inl rfl)
set_option maxRecDepth 20000 in
theorem lk_26_172 (D : va_G) (l : Launch) : zLk D l "FlagLayersModel" (.getfield 173, 11, 56, 0) := fun p e R s m args below meth c mi d pc ad0 hown hcx hbx hini hts hK hdec => by
  show zOkGet D s args (zown mi) 173 11 56
  rw [hown]
  exact zk_get hts (zuk_11 hK) zin_11 (by decide) (zFl_p hts zw_902) (Or.inl rfl)
set_option maxRecDepth 20000 in
theorem lk_26_173 (D : va_G) (l : Launch) : zLk D l "FlagLayersModel" (.getfield 176, 11, 57, 0) := fun p e R s m args below meth c mi d pc ad0 hown hcx hbx hini hts hK hdec => by
  show zOkGet D s args (zown mi) 176 11 57
  rw [hown]
  exact zk_get hts (zuk_11 hK) zin_11 (by decide) (zFl_p hts zw_903) (Or.inl rfl)
set_option maxRecDepth 20000 in
theorem lk_26_174 (D : va_G) (l : Launch) : zLk D l "FlagLayersModel" (.getfield 179, 11, 58, 0) := fun p e R s m args below meth c mi d pc ad0 hown hcx hbx hini hts hK hdec => by
  show zOkGet D s args (zown mi) 179 11 58
  rw [hown]
  exact zk_get hts (zuk_11 hK) zin_11 (by decide) (zFl_p hts zw_904) (Or.inl rfl)
set_option maxRecDepth 20000 in
theorem lk_26_175 (D : va_G) (l : Launch) : zLk D l "FlagLayersModel" (.getfield 182, 11, 59, 0) := fun p e R s m args below meth c mi d pc ad0 hown hcx hbx hini hts hK hdec => by
  show zOkGet D s args (zown mi) 182 11 59
  rw [hown]
  exact zk_get hts (zuk_11 hK) zin_11 (by decide) (zFl_p hts zw_905) (Or.inl rfl)
set_option maxRecDepth 20000 in
theorem lk_26_176 (D : va_G) (l : Launch) : zLk D l "FlagLayersModel" (.getfield 185, 11, 60, 0) := fun p e R s m args below meth c mi d pc ad0 hown hcx hbx hini hts hK hdec => by
  show zOkGet D s args (zown mi) 185 11 60
  rw [hown]
  exact zk_get hts (zuk_11 hK) zin_11 (by decide) (zFl_p hts zw_906) (Or.inl rfl)
set_option maxRecDepth 20000 in
theorem lk_26_177 (D : va_G) (l : Launch) : zLk D l "FlagLayersModel" (.ldc_w 479, 58, 0, 0) := fun p e R s m args below meth c mi d pc ad0 hown hcx hbx hini hts hK hdec => by
  intro v hv
  obtain rfl : (.ref 65 : Value) = v := Option.some.inj hv
  exact zk_strw (tx := "is below above begins ends holds among given") hcx (by rw [hown]; exact hK.2.2.1 9 _ rfl) hdec
set_option maxRecDepth 20000 in
theorem lk_26_178 (D : va_G) (l : Launch) : zLk D l "FlagLayersModel" (.invokevirtual 481, 218, 0, 14) := fun p e R s m args below meth c mi d pc ad0 hown hcx hbx hini hts hK hdec => zk_V (n := 11) hcx hts (zuk_11 hK).2.1 zcm_218 zct_218 hdec (by rw [hown]; exact zw_1018) zw_1019 zs_84 zw_7 rfl zpd_218 rfl
set_option maxRecDepth 20000 in
theorem lk_26_179 (D : va_G) (l : Launch) : zLk D l "FlagLayersModel" (.invokevirtual 484, 219, 0, 14) := fun p e R s m args below meth c mi d pc ad0 hown hcx hbx hini hts hK hdec => zk_V (n := 11) hcx hts (zuk_11 hK).2.1 zcm_219 zct_219 hdec (by rw [hown]; exact zw_1020) zw_1021 zs_85 zw_7 rfl zpd_219 rfl
set_option maxRecDepth 20000 in
theorem lk_26_180 (D : va_G) (l : Launch) : zLk D l "FlagLayersModel" (.getfield 188, 11, 61, 0) := fun p e R s m args below meth c mi d pc ad0 hown hcx hbx hini hts hK hdec => by
  show zOkGet D s args (zown mi) 188 11 61
  rw [hown]
  exact zk_get hts (zuk_11 hK) zin_11 (by decide) (zFl_p hts zw_907) (Or.inl rfl)
set_option maxRecDepth 20000 in
theorem lk_26_181 (D : va_G) (l : Launch) : zLk D l "FlagLayersModel" (.getfield 46, 11, 14, 0) := fun p e R s m args below meth c mi d pc ad0 hown hcx hbx hini hts hK hdec => by
  show zOkGet D s args (zown mi) 46 11 14
  rw [hown]
  exact zk_get hts (zuk_11 hK) zin_11 (by decide) (zFl_p hts zw_860) (Or.inl rfl)
set_option maxRecDepth 20000 in
theorem lk_26_182 (D : va_G) (l : Launch) : zLk D l "FlagLayersModel" (.getfield 49, 11, 15, 0) := fun p e R s m args below meth c mi d pc ad0 hown hcx hbx hini hts hK hdec => by
  show zOkGet D s args (zown mi) 49 11 15
  rw [hown]
  exact zk_get hts (zuk_11 hK) zin_11 (by decide) (zFl_p hts zw_861) (Or.inl rfl)
set_option maxRecDepth 20000 in
theorem lk_26_183 (D : va_G) (l : Launch) : zLk D l "FlagLayersModel" (.ldc_w 368, 59, 0, 0) := fun p e R s m args below meth c mi d pc ad0 hown hcx hbx hini hts hK hdec => by
  intro v hv
  obtain rfl : (.ref 67 : Value) = v := Option.some.inj hv
  exact zk_strw (tx := "bool num choice") hcx (by rw [hown]; exact hK.2.2.1 10 _ rfl) hdec
set_option maxRecDepth 20000 in
theorem lk_26_184 (D : va_G) (l : Launch) : zLk D l "FlagLayersModel" (.getfield 52, 11, 16, 0) := fun p e R s m args below meth c mi d pc ad0 hown hcx hbx hini hts hK hdec => by
  show zOkGet D s args (zown mi) 52 11 16
  rw [hown]
  exact zk_get hts (zuk_11 hK) zin_11 (by decide) (zFl_p hts zw_862) (Or.inl rfl)
set_option maxRecDepth 20000 in
theorem lk_26_185 (D : va_G) (l : Launch) : zLk D l "FlagLayersModel" (.getfield 64, 11, 20, 0) := fun p e R s m args below meth c mi d pc ad0 hown hcx hbx hini hts hK hdec => by
  show zOkGet D s args (zown mi) 64 11 20
  rw [hown]
  exact zk_get hts (zuk_11 hK) zin_11 (by decide) (zFl_p hts zw_866) (Or.inl rfl)
set_option maxRecDepth 20000 in
theorem lk_26_186 (D : va_G) (l : Launch) : zLk D l "FlagLayersModel" (.invokevirtual 370, 227, 0, 14) := fun p e R s m args below meth c mi d pc ad0 hown hcx hbx hini hts hK hdec => zk_V (n := 11) hcx hts (zuk_11 hK).2.1 zcm_227 zct_227 hdec (by rw [hown]; exact zw_1022) zw_1023 zs_86 zw_7 rfl zpd_227 rfl
set_option maxRecDepth 20000 in
theorem lk_26_187 (D : va_G) (l : Launch) : zLk D l "FlagLayersModel" (.ldc_w 373, 60, 0, 0) := fun p e R s m args below meth c mi d pc ad0 hown hcx hbx hini hts hK hdec => by
  intro v hv
  obtain rfl : (.ref 69 : Value) = v := Option.some.inj hv
  exact zk_strw (tx := "default") hcx (by rw [hown]; exact hK.2.2.1 11 _ rfl) hdec
set_option maxRecDepth 20000 in
theorem lk_26_188 (D : va_G) (l : Launch) : zLk D l "FlagLayersModel" (.invokevirtual 375, 228, 0, 14) := fun p e R s m args below meth c mi d pc ad0 hown hcx hbx hini hts hK hdec => zk_V (n := 11) hcx hts (zuk_11 hK).2.1 zcm_228 zct_228 hdec (by rw [hown]; exact zw_1024) zw_1025 zs_87 zw_7 rfl zpd_228 rfl
set_option maxRecDepth 20000 in
theorem lk_26_189 (D : va_G) (l : Launch) : zLk D l "FlagLayersModel" (.invokevirtual 379, 229, 0, 14) := fun p e R s m args below meth c mi d pc ad0 hown hcx hbx hini hts hK hdec => zk_V (n := 11) hcx hts (zuk_11 hK).2.1 zcm_229 zct_229 hdec (by rw [hown]; exact zw_1026) zw_1027 zs_88 zw_7 rfl zpd_229 rfl
set_option maxRecDepth 20000 in
theorem lk_26_190 (D : va_G) (l : Launch) : zLk D l "FlagLayersModel" (.ldc_w 382, 61, 0, 0) := fun p e R s m args below meth c mi d pc ad0 hown hcx hbx hini hts hK hdec => by
  intro v hv
  obtain rfl : (.ref 71 : Value) = v := Option.some.inj hv
  exact zk_strw (tx := "off") hcx (by rw [hown]; exact hK.2.2.1 12 _ rfl) hdec
set_option maxRecDepth 20000 in
theorem lk_26_191 (D : va_G) (l : Launch) : zLk D l "FlagLayersModel" (.invokevirtual 384, 232, 0, 14) := fun p e R s m args below meth c mi d pc ad0 hown hcx hbx hini hts hK hdec => zk_V (n := 11) hcx hts (zuk_11 hK).2.1 zcm_232 zct_232 hdec (by rw [hown]; exact zw_1028) zw_1029 zs_89 zw_7 rfl zpd_232 rfl
set_option maxRecDepth 20000 in
theorem lk_26_192 (D : va_G) (l : Launch) : zLk D l "FlagLayersModel" (.getfield 58, 11, 18, 0) := fun p e R s m args below meth c mi d pc ad0 hown hcx hbx hini hts hK hdec => by
  show zOkGet D s args (zown mi) 58 11 18
  rw [hown]
  exact zk_get hts (zuk_11 hK) zin_11 (by decide) (zFl_p hts zw_864) (Or.inl rfl)
set_option maxRecDepth 20000 in
theorem lk_26_193 (D : va_G) (l : Launch) : zLk D l "FlagLayersModel" (.getfield 61, 11, 19, 0) := fun p e R s m args below meth c mi d pc ad0 hown hcx hbx hini hts hK hdec => by
  show zOkGet D s args (zown mi) 61 11 19
  rw [hown]
  exact zk_get hts (zuk_11 hK) zin_11 (by decide) (zFl_p hts zw_865) (Or.inl rfl)
set_option maxRecDepth 20000 in
theorem lk_26_194 (D : va_G) (l : Launch) : zLk D l "FlagLayersModel" (.ldc_w 387, 62, 0, 0) := fun p e R s m args below meth c mi d pc ad0 hown hcx hbx hini hts hK hdec => by
  intro v hv
  obtain rfl : (.ref 73 : Value) = v := Option.some.inj hv
  exact zk_strw (tx := "needs") hcx (by rw [hown]; exact hK.2.2.1 13 _ rfl) hdec
set_option maxRecDepth 20000 in
theorem lk_26_195 (D : va_G) (l : Launch) : zLk D l "FlagLayersModel" (.invokevirtual 389, 233, 0, 14) := fun p e R s m args below meth c mi d pc ad0 hown hcx hbx hini hts hK hdec => zk_V (n := 11) hcx hts (zuk_11 hK).2.1 zcm_233 zct_233 hdec (by rw [hown]; exact zw_1030) zw_1031 zs_90 zw_7 rfl zpd_233 rfl
set_option maxRecDepth 20000 in
theorem lk_26_196 (D : va_G) (l : Launch) : zLk D l "FlagLayersModel" (.ldc_w 392, 63, 0, 0) := fun p e R s m args below meth c mi d pc ad0 hown hcx hbx hini hts hK hdec => by
  intro v hv
  obtain rfl : (.ref 75 : Value) = v := Option.some.inj hv
  exact zk_strw (tx := "rule") hcx (by rw [hown]; exact hK.2.2.1 14 _ rfl) hdec
set_option maxRecDepth 20000 in
theorem lk_26_197 (D : va_G) (l : Launch) : zLk D l "FlagLayersModel" (.invokevirtual 394, 234, 0, 14) := fun p e R s m args below meth c mi d pc ad0 hown hcx hbx hini hts hK hdec => zk_V (n := 11) hcx hts (zuk_11 hK).2.1 zcm_234 zct_234 hdec (by rw [hown]; exact zw_1032) zw_1033 zs_91 zw_7 rfl zpd_234 rfl
set_option maxRecDepth 20000 in
theorem lk_26_198 (D : va_G) (l : Launch) : zLk D l "FlagLayersModel" (.getfield 55, 11, 17, 0) := fun p e R s m args below meth c mi d pc ad0 hown hcx hbx hini hts hK hdec => by
  show zOkGet D s args (zown mi) 55 11 17
  rw [hown]
  exact zk_get hts (zuk_11 hK) zin_11 (by decide) (zFl_p hts zw_863) (Or.inl rfl)
set_option maxRecDepth 20000 in
theorem lk_26_199 (D : va_G) (l : Launch) : zLk D l "FlagLayersModel" (.ldc_w 412, 64, 0, 0) := fun p e R s m args below meth c mi d pc ad0 hown hcx hbx hini hts hK hdec => by
  intro v hv
  obtain rfl : (.ref 77 : Value) = v := Option.some.inj hv
  exact zk_strw (tx := "roll") hcx (by rw [hown]; exact hK.2.2.1 15 _ rfl) hdec
set_option maxRecDepth 20000 in
theorem lk_26_200 (D : va_G) (l : Launch) : zLk D l "FlagLayersModel" (.ldc_w 414, 65, 0, 0) := fun p e R s m args below meth c mi d pc ad0 hown hcx hbx hini hts hK hdec => by
  intro v hv
  obtain rfl : (.ref 79 : Value) = v := Option.some.inj hv
  exact zk_strw (tx := "split") hcx (by rw [hown]; exact hK.2.2.1 16 _ rfl) hdec
set_option maxRecDepth 20000 in
theorem lk_26_201 (D : va_G) (l : Launch) : zLk D l "FlagLayersModel" (.invokevirtual 416, 230, 0, 14) := fun p e R s m args below meth c mi d pc ad0 hown hcx hbx hini hts hK hdec => zk_V (n := 11) hcx hts (zuk_11 hK).2.1 zcm_230 zct_230 hdec (by rw [hown]; exact zw_1034) zw_1035 zs_92 zw_7 rfl zpd_230 rfl
set_option maxRecDepth 20000 in
theorem lk_26_202 (D : va_G) (l : Launch) : zLk D l "FlagLayersModel" (.getfield 136, 11, 44, 0) := fun p e R s m args below meth c mi d pc ad0 hown hcx hbx hini hts hK hdec => by
  show zOkGet D s args (zown mi) 136 11 44
  rw [hown]
  exact zk_get hts (zuk_11 hK) zin_11 (by decide) (zFl_p hts zw_890) (Or.inl rfl)
set_option maxRecDepth 20000 in
theorem lk_26_203 (D : va_G) (l : Launch) : zLk D l "FlagLayersModel" (.getfield 139, 11, 45, 0) := fun p e R s m args below meth c mi d pc ad0 hown hcx hbx hini hts hK hdec => by
  show zOkGet D s args (zown mi) 139 11 45
  rw [hown]
  exact zk_get hts (zuk_11 hK) zin_11 (by decide) (zFl_p hts zw_891) (Or.inl rfl)
set_option maxRecDepth 20000 in
theorem lk_26_204 (D : va_G) (l : Launch) : zLk D l "FlagLayersModel" (.invokevirtual 420, 231, 0, 14) := fun p e R s m args below meth c mi d pc ad0 hown hcx hbx hini hts hK hdec => zk_V (n := 11) hcx hts (zuk_11 hK).2.1 zcm_231 zct_231 hdec (by rw [hown]; exact zw_1036) zw_1037 zs_93 zw_7 rfl zpd_231 rfl
set_option maxRecDepth 20000 in
theorem lk_26_205 (D : va_G) (l : Launch) : zLk D l "FlagLayersModel" (.getfield 145, 11, 47, 0) := fun p e R s m args below meth c mi d pc ad0 hown hcx hbx hini hts hK hdec => by
  show zOkGet D s args (zown mi) 145 11 47
  rw [hown]
  exact zk_get hts (zuk_11 hK) zin_11 (by decide) (zFl_p hts zw_893) (Or.inl rfl)
set_option maxRecDepth 20000 in
theorem lk_26_206 (D : va_G) (l : Launch) : zLk D l "FlagLayersModel" (.getfield 149, 11, 48, 0) := fun p e R s m args below meth c mi d pc ad0 hown hcx hbx hini hts hK hdec => by
  show zOkGet D s args (zown mi) 149 11 48
  rw [hown]
  exact zk_get hts (zuk_11 hK) zin_11 (by decide) (zFl_p hts zw_894) (Or.inl rfl)
set_option maxRecDepth 20000 in
theorem lk_26_207 (D : va_G) (l : Launch) : zLk D l "FlagLayersModel" (.getfield 152, 11, 49, 0) := fun p e R s m args below meth c mi d pc ad0 hown hcx hbx hini hts hK hdec => by
  show zOkGet D s args (zown mi) 152 11 49
  rw [hown]
  exact zk_get hts (zuk_11 hK) zin_11 (by decide) (zFl_p hts zw_895) (Or.inl rfl)
set_option maxRecDepth 20000 in
theorem lk_26_208 (D : va_G) (l : Launch) : zLk D l "FlagLayersModel" (.getfield 155, 11, 50, 0) := fun p e R s m args below meth c mi d pc ad0 hown hcx hbx hini hts hK hdec => by
  show zOkGet D s args (zown mi) 155 11 50
  rw [hown]
  exact zk_get hts (zuk_11 hK) zin_11 (by decide) (zFl_p hts zw_896) (Or.inl rfl)
set_option maxRecDepth 20000 in
theorem lk_26_209 (D : va_G) (l : Launch) : zLk D l "FlagLayersModel" (.getfield 158, 11, 51, 0) := fun p e R s m args below meth c mi d pc ad0 hown hcx hbx hini hts hK hdec => by
  show zOkGet D s args (zown mi) 158 11 51
  rw [hown]
  exact zk_get hts (zuk_11 hK) zin_11 (by decide) (zFl_p hts zw_897) (Or.inl rfl)
set_option maxRecDepth 20000 in
theorem lk_26_210 (D : va_G) (l : Launch) : zLk D l "FlagLayersModel" (.getfield 161, 11, 52, 0) := fun p e R s m args below meth c mi d pc ad0 hown hcx hbx hini hts hK hdec => by
  show zOkGet D s args (zown mi) 161 11 52
  rw [hown]
  exact zk_get hts (zuk_11 hK) zin_11 (by decide) (zFl_p hts zw_898) (Or.inl rfl)
set_option maxRecDepth 20000 in
theorem lk_26_211 (D : va_G) (l : Launch) : zLk D l "FlagLayersModel" (.ldc_w 423, 66, 0, 0) := fun p e R s m args below meth c mi d pc ad0 hown hcx hbx hini hts hK hdec => by
  intro v hv
  obtain rfl : (.ref 81 : Value) = v := Option.some.inj hv
  exact zk_strw (tx := "else") hcx (by rw [hown]; exact hK.2.2.1 17 _ rfl) hdec
set_option maxRecDepth 20000 in
theorem lk_26_212 (D : va_G) (l : Launch) : zLk D l "FlagLayersModel" (.ldc_w 397, 67, 0, 0) := fun p e R s m args below meth c mi d pc ad0 hown hcx hbx hini hts hK hdec => by
  intro v hv
  obtain rfl : (.ref 83 : Value) = v := Option.some.inj hv
  exact zk_strw (tx := "true") hcx (by rw [hown]; exact hK.2.2.1 18 _ rfl) hdec
set_option maxRecDepth 20000 in
theorem lk_26_213 (D : va_G) (l : Launch) : zLk D l "FlagLayersModel" (.ldc_w 399, 68, 0, 0) := fun p e R s m args below meth c mi d pc ad0 hown hcx hbx hini hts hK hdec => by
  intro v hv
  obtain rfl : (.ref 85 : Value) = v := Option.some.inj hv
  exact zk_strw (tx := "false") hcx (by rw [hown]; exact hK.2.2.1 19 _ rfl) hdec
set_option maxRecDepth 20000 in
theorem lk_26_214 (D : va_G) (l : Launch) : zLk D l "FlagLayersModel" (.getfield 67, 11, 21, 0) := fun p e R s m args below meth c mi d pc ad0 hown hcx hbx hini hts hK hdec => by
  show zOkGet D s args (zown mi) 67 11 21
  rw [hown]
  exact zk_get hts (zuk_11 hK) zin_11 (by decide) (zFl_p hts zw_867) (Or.inl rfl)
set_option maxRecDepth 20000 in
theorem lk_26_215 (D : va_G) (l : Launch) : zLk D l "FlagLayersModel" (.getfield 70, 11, 22, 0) := fun p e R s m args below meth c mi d pc ad0 hown hcx hbx hini hts hK hdec => by
  show zOkGet D s args (zown mi) 70 11 22
  rw [hown]
  exact zk_get hts (zuk_11 hK) zin_11 (by decide) (zFl_p hts zw_868) (Or.inl rfl)
set_option maxRecDepth 20000 in
theorem lk_26_216 (D : va_G) (l : Launch) : zLk D l "FlagLayersModel" (.getfield 85, 11, 27, 0) := fun p e R s m args below meth c mi d pc ad0 hown hcx hbx hini hts hK hdec => by
  show zOkGet D s args (zown mi) 85 11 27
  rw [hown]
  exact zk_get hts (zuk_11 hK) zin_11 (by decide) (zFl_p hts zw_873) (Or.inl rfl)
set_option maxRecDepth 20000 in
theorem lk_26_217 (D : va_G) (l : Launch) : zLk D l "FlagLayersModel" (.getfield 76, 11, 24, 0) := fun p e R s m args below meth c mi d pc ad0 hown hcx hbx hini hts hK hdec => by
  show zOkGet D s args (zown mi) 76 11 24
  rw [hown]
  exact zk_get hts (zuk_11 hK) zin_11 (by decide) (zFl_p hts zw_870) (Or.inl rfl)
set_option maxRecDepth 20000 in
theorem lk_26_218 (D : va_G) (l : Launch) : zLk D l "FlagLayersModel" (.getfield 79, 11, 25, 0) := fun p e R s m args below meth c mi d pc ad0 hown hcx hbx hini hts hK hdec => by
  show zOkGet D s args (zown mi) 79 11 25
  rw [hown]
  exact zk_get hts (zuk_11 hK) zin_11 (by decide) (zFl_p hts zw_871) (Or.inl rfl)
set_option maxRecDepth 20000 in
theorem lk_26_219 (D : va_G) (l : Launch) : zLk D l "FlagLayersModel" (.getfield 82, 11, 26, 0) := fun p e R s m args below meth c mi d pc ad0 hown hcx hbx hini hts hK hdec => by
  show zOkGet D s args (zown mi) 82 11 26
  rw [hown]
  exact zk_get hts (zuk_11 hK) zin_11 (by decide) (zFl_p hts zw_872) (Or.inl rfl)
set_option maxRecDepth 20000 in
theorem lk_26_220 (D : va_G) (l : Launch) : zLk D l "FlagLayersModel" (.getfield 103, 11, 33, 0) := fun p e R s m args below meth c mi d pc ad0 hown hcx hbx hini hts hK hdec => by
  show zOkGet D s args (zown mi) 103 11 33
  rw [hown]
  exact zk_get hts (zuk_11 hK) zin_11 (by decide) (zFl_p hts zw_879) (Or.inl rfl)
set_option maxRecDepth 20000 in
theorem lk_26_221 (D : va_G) (l : Launch) : zLk D l "FlagLayersModel" (.getfield 106, 11, 34, 0) := fun p e R s m args below meth c mi d pc ad0 hown hcx hbx hini hts hK hdec => by
  show zOkGet D s args (zown mi) 106 11 34
  rw [hown]
  exact zk_get hts (zuk_11 hK) zin_11 (by decide) (zFl_p hts zw_880) (Or.inl rfl)
set_option maxRecDepth 20000 in
theorem lk_26_222 (D : va_G) (l : Launch) : zLk D l "FlagLayersModel" (.getfield 109, 11, 35, 0) := fun p e R s m args below meth c mi d pc ad0 hown hcx hbx hini hts hK hdec => by
  show zOkGet D s args (zown mi) 109 11 35
  rw [hown]
  exact zk_get hts (zuk_11 hK) zin_11 (by decide) (zFl_p hts zw_881) (Or.inl rfl)
set_option maxRecDepth 20000 in
theorem lk_26_223 (D : va_G) (l : Launch) : zLk D l "FlagLayersModel" (.getfield 112, 11, 36, 0) := fun p e R s m args below meth c mi d pc ad0 hown hcx hbx hini hts hK hdec => by
  show zOkGet D s args (zown mi) 112 11 36
  rw [hown]
  exact zk_get hts (zuk_11 hK) zin_11 (by decide) (zFl_p hts zw_882) (Or.inl rfl)
set_option maxRecDepth 20000 in
theorem lk_26_224 (D : va_G) (l : Launch) : zLk D l "FlagLayersModel" (.getfield 115, 11, 37, 0) := fun p e R s m args below meth c mi d pc ad0 hown hcx hbx hini hts hK hdec => by
  show zOkGet D s args (zown mi) 115 11 37
  rw [hown]
  exact zk_get hts (zuk_11 hK) zin_11 (by decide) (zFl_p hts zw_883) (Or.inl rfl)
set_option maxRecDepth 20000 in
theorem lk_26_225 (D : va_G) (l : Launch) : zLk D l "FlagLayersModel" (.getfield 118, 11, 38, 0) := fun p e R s m args below meth c mi d pc ad0 hown hcx hbx hini hts hK hdec => by
  show zOkGet D s args (zown mi) 118 11 38
  rw [hown]
  exact zk_get hts (zuk_11 hK) zin_11 (by decide) (zFl_p hts zw_884) (Or.inl rfl)
set_option maxRecDepth 20000 in
theorem lk_26_226 (D : va_G) (l : Launch) : zLk D l "FlagLayersModel" (.getfield 94, 11, 30, 0) := fun p e R s m args below meth c mi d pc ad0 hown hcx hbx hini hts hK hdec => by
  show zOkGet D s args (zown mi) 94 11 30
  rw [hown]
  exact zk_get hts (zuk_11 hK) zin_11 (by decide) (zFl_p hts zw_876) (Or.inl rfl)
set_option maxRecDepth 20000 in
theorem lk_26_227 (D : va_G) (l : Launch) : zLk D l "FlagLayersModel" (.ldc_w 404, 69, 0, 0) := fun p e R s m args below meth c mi d pc ad0 hown hcx hbx hini hts hK hdec => by
  intro v hv
  obtain rfl : (.ref 87 : Value) = v := Option.some.inj hv
  exact zk_strw (tx := "of") hcx (by rw [hown]; exact hK.2.2.1 20 _ rfl) hdec
set_option maxRecDepth 20000 in
theorem lk_26_228 (D : va_G) (l : Launch) : zLk D l "FlagLayersModel" (.getfield 97, 11, 31, 0) := fun p e R s m args below meth c mi d pc ad0 hown hcx hbx hini hts hK hdec => by
  show zOkGet D s args (zown mi) 97 11 31
  rw [hown]
  exact zk_get hts (zuk_11 hK) zin_11 (by decide) (zFl_p hts zw_877) (Or.inl rfl)
set_option maxRecDepth 20000 in
theorem lk_26_229 (D : va_G) (l : Launch) : zLk D l "FlagLayersModel" (.ldc_w 406, 70, 0, 0) := fun p e R s m args below meth c mi d pc ad0 hown hcx hbx hini hts hK hdec => by
  intro v hv
  obtain rfl : (.ref 89 : Value) = v := Option.some.inj hv
  exact zk_strw (tx := "set") hcx (by rw [hown]; exact hK.2.2.1 21 _ rfl) hdec
set_option maxRecDepth 20000 in
theorem lk_26_230 (D : va_G) (l : Launch) : zLk D l "FlagLayersModel" (.invokevirtual 408, 236, 0, 14) := fun p e R s m args below meth c mi d pc ad0 hown hcx hbx hini hts hK hdec => zk_V (n := 11) hcx hts (zuk_11 hK).2.1 zcm_236 zct_236 hdec (by rw [hown]; exact zw_1038) zw_1039 zs_94 zw_7 rfl zpd_236 rfl
set_option maxRecDepth 20000 in
theorem lk_26_231 (D : va_G) (l : Launch) : zLk D l "FlagLayersModel" (.getfield 124, 11, 40, 0) := fun p e R s m args below meth c mi d pc ad0 hown hcx hbx hini hts hK hdec => by
  show zOkGet D s args (zown mi) 124 11 40
  rw [hown]
  exact zk_get hts (zuk_11 hK) zin_11 (by decide) (zFl_p hts zw_886) (Or.inl rfl)
set_option maxRecDepth 20000 in
theorem lk_26_232 (D : va_G) (l : Launch) : zLk D l "FlagLayersModel" (.getfield 127, 11, 41, 0) := fun p e R s m args below meth c mi d pc ad0 hown hcx hbx hini hts hK hdec => by
  show zOkGet D s args (zown mi) 127 11 41
  rw [hown]
  exact zk_get hts (zuk_11 hK) zin_11 (by decide) (zFl_p hts zw_887) (Or.inl rfl)
set_option maxRecDepth 20000 in
theorem lk_26_233 (D : va_G) (l : Launch) : zLk D l "FlagLayersModel" (.getfield 130, 11, 42, 0) := fun p e R s m args below meth c mi d pc ad0 hown hcx hbx hini hts hK hdec => by
  show zOkGet D s args (zown mi) 130 11 42
  rw [hown]
  exact zk_get hts (zuk_11 hK) zin_11 (by decide) (zFl_p hts zw_888) (Or.inl rfl)
set_option maxRecDepth 20000 in
theorem lk_26_234 (D : va_G) (l : Launch) : zLk D l "FlagLayersModel" (.invokevirtual 425, 238, 0, 14) := fun p e R s m args below meth c mi d pc ad0 hown hcx hbx hini hts hK hdec => zk_V (n := 11) hcx hts (zuk_11 hK).2.1 zcm_238 zct_238 hdec (by rw [hown]; exact zw_1040) zw_1041 zs_95 zw_7 rfl zpd_238 rfl
set_option maxRecDepth 20000 in
theorem lk_26_235 (D : va_G) (l : Launch) : zLk D l "FlagLayersModel" (.getfield 73, 11, 23, 0) := fun p e R s m args below meth c mi d pc ad0 hown hcx hbx hini hts hK hdec => by
  show zOkGet D s args (zown mi) 73 11 23
  rw [hown]
  exact zk_get hts (zuk_11 hK) zin_11 (by decide) (zFl_p hts zw_869) (Or.inl rfl)
set_option maxRecDepth 20000 in
theorem lk_26_236 (D : va_G) (l : Launch) : zLk D l "FlagLayersModel" (.getfield 88, 11, 28, 0) := fun p e R s m args below meth c mi d pc ad0 hown hcx hbx hini hts hK hdec => by
  show zOkGet D s args (zown mi) 88 11 28
  rw [hown]
  exact zk_get hts (zuk_11 hK) zin_11 (by decide) (zFl_p hts zw_874) (Or.inl rfl)
set_option maxRecDepth 20000 in
theorem lk_26_237 (D : va_G) (l : Launch) : zLk D l "FlagLayersModel" (.invokevirtual 429, 240, 0, 14) := fun p e R s m args below meth c mi d pc ad0 hown hcx hbx hini hts hK hdec => zk_V (n := 11) hcx hts (zuk_11 hK).2.1 zcm_240 zct_240 hdec (by rw [hown]; exact zw_1042) zw_1043 zs_96 zw_7 rfl zpd_240 rfl
set_option maxRecDepth 20000 in
theorem lk_26_238 (D : va_G) (l : Launch) : zLk D l "FlagLayersModel" (.getfield 203, 11, 74, 0) := fun p e R s m args below meth c mi d pc ad0 hown hcx hbx hini hts hK hdec => by
  show zOkGet D s args (zown mi) 203 11 74
  rw [hown]
  exact zk_get hts (zuk_11 hK) zin_11 (by decide) (zFl_p hts zw_912) (Or.inl rfl)
set_option maxRecDepth 20000 in
theorem lk_26_239 (D : va_G) (l : Launch) : zLk D l "FlagLayersModel" (.getfield 194, 11, 63, 0) := fun p e R s m args below meth c mi d pc ad0 hown hcx hbx hini hts hK hdec => by
  show zOkGet D s args (zown mi) 194 11 63
  rw [hown]
  exact zk_get hts (zuk_11 hK) zin_11 (by decide) (zFl_p hts zw_909) (Or.inl rfl)
set_option maxRecDepth 20000 in
theorem lk_26_240 (D : va_G) (l : Launch) : zLk D l "FlagLayersModel" (.getfield 254, 11, 64, 0) := fun p e R s m args below meth c mi d pc ad0 hown hcx hbx hini hts hK hdec => by
  show zOkGet D s args (zown mi) 254 11 64
  rw [hown]
  exact zk_get hts (zuk_11 hK) zin_11 (by decide) (zFl_p hts zw_933) (Or.inl rfl)
set_option maxRecDepth 20000 in
theorem lk_26_241 (D : va_G) (l : Launch) : zLk D l "FlagLayersModel" (.getfield 497, 11, 65, 0) := fun p e R s m args below meth c mi d pc ad0 hown hcx hbx hini hts hK hdec => by
  show zOkGet D s args (zown mi) 497 11 65
  rw [hown]
  exact zk_get hts (zuk_11 hK) zin_11 (by decide) (zFl_p hts zw_1044) (Or.inl rfl)
set_option maxRecDepth 20000 in
theorem lk_26_242 (D : va_G) (l : Launch) : zLk D l "FlagLayersModel" (.putfield 497, 11, 65, 0) := fun p e R s m args below meth c mi d pc ad0 hown hcx hbx hini hts hK hdec => by
  show zOkPut D s args m.cls meth.name (zown mi) 497 11 65 (zty 11 65)
  rw [hown]
  exact zk_put hts (zuk_11 hK) zin_11 (by decide) (zFl_p hts zw_1044) (Or.inl rfl) rfl (by decide +kernel)
set_option maxRecDepth 20000 in
theorem lk_26_243 (D : va_G) (l : Launch) : zLk D l "FlagLayersModel" (.getfield 197, 11, 66, 0) := fun p e R s m args below meth c mi d pc ad0 hown hcx hbx hini hts hK hdec => by
  show zOkGet D s args (zown mi) 197 11 66
  rw [hown]
  exact zk_get hts (zuk_11 hK) zin_11 (by decide) (zFl_p hts zw_910) (Or.inl rfl)
set_option maxRecDepth 20000 in
theorem lk_26_244 (D : va_G) (l : Launch) : zLk D l "FlagLayersModel" (.getfield 200, 11, 67, 0) := fun p e R s m args below meth c mi d pc ad0 hown hcx hbx hini hts hK hdec => by
  show zOkGet D s args (zown mi) 200 11 67
  rw [hown]
  exact zk_get hts (zuk_11 hK) zin_11 (by decide) (zFl_p hts zw_911) (Or.inl rfl)
set_option maxRecDepth 20000 in
theorem lk_26_245 (D : va_G) (l : Launch) : zLk D l "FlagLayersModel" (.invokevirtual 500, 248, 0, 14) := fun p e R s m args below meth c mi d pc ad0 hown hcx hbx hini hts hK hdec => zk_V (n := 11) hcx hts (zuk_11 hK).2.1 zcm_248 zct_248 hdec (by rw [hown]; exact zw_1045) zw_1046 zs_97 zw_7 rfl zpd_248 rfl
set_option maxRecDepth 20000 in
theorem lk_26_246 (D : va_G) (l : Launch) : zLk D l "FlagLayersModel" (.invokevirtual 503, 249, 0, 14) := fun p e R s m args below meth c mi d pc ad0 hown hcx hbx hini hts hK hdec => zk_V (n := 11) hcx hts (zuk_11 hK).2.1 zcm_249 zct_249 hdec (by rw [hown]; exact zw_1047) zw_1048 zs_98 zw_7 rfl zpd_249 rfl
set_option maxRecDepth 20000 in
theorem lk_26_247 (D : va_G) (l : Launch) : zLk D l "FlagLayersModel" (.invokevirtual 575, 251, 0, 14) := fun p e R s m args below meth c mi d pc ad0 hown hcx hbx hini hts hK hdec => zk_V (n := 11) hcx hts (zuk_11 hK).2.1 zcm_251 zct_251 hdec (by rw [hown]; exact zw_1049) zw_1050 zs_99 zw_7 rfl zpd_251 rfl
set_option maxRecDepth 20000 in
theorem lk_26_248 (D : va_G) (l : Launch) : zLk D l "FlagLayersModel" (.getfield 227, 11, 91, 0) := fun p e R s m args below meth c mi d pc ad0 hown hcx hbx hini hts hK hdec => by
  show zOkGet D s args (zown mi) 227 11 91
  rw [hown]
  exact zk_get hts (zuk_11 hK) zin_11 (by decide) (zFl_p hts zw_920) (Or.inl rfl)
set_option maxRecDepth 20000 in
theorem lk_26_249 (D : va_G) (l : Launch) : zLk D l "FlagLayersModel" (.invokevirtual 578, 258, 0, 14) := fun p e R s m args below meth c mi d pc ad0 hown hcx hbx hini hts hK hdec => zk_V (n := 11) hcx hts (zuk_11 hK).2.1 zcm_258 zct_258 hdec (by rw [hown]; exact zw_1051) zw_1052 zs_100 zw_7 rfl zpd_258 rfl
set_option maxRecDepth 20000 in
theorem lk_26_250 (D : va_G) (l : Launch) : zLk D l "FlagLayersModel" (.getfield 224, 11, 83, 0) := fun p e R s m args below meth c mi d pc ad0 hown hcx hbx hini hts hK hdec => by
  show zOkGet D s args (zown mi) 224 11 83
  rw [hown]
  exact zk_get hts (zuk_11 hK) zin_11 (by decide) (zFl_p hts zw_919) (Or.inl rfl)
set_option maxRecDepth 20000 in
theorem lk_26_251 (D : va_G) (l : Launch) : zLk D l "FlagLayersModel" (.invokevirtual 521, 252, 0, 14) := fun p e R s m args below meth c mi d pc ad0 hown hcx hbx hini hts hK hdec => zk_V (n := 11) hcx hts (zuk_11 hK).2.1 zcm_252 zct_252 hdec (by rw [hown]; exact zw_1053) zw_1054 zs_101 zw_7 rfl zpd_252 rfl
set_option maxRecDepth 20000 in
theorem lk_26_252 (D : va_G) (l : Launch) : zLk D l "FlagLayersModel" (.getfield 221, 11, 82, 0) := fun p e R s m args below meth c mi d pc ad0 hown hcx hbx hini hts hK hdec => by
  show zOkGet D s args (zown mi) 221 11 82
  rw [hown]
  exact zk_get hts (zuk_11 hK) zin_11 (by decide) (zFl_p hts zw_918) (Or.inl rfl)
set_option maxRecDepth 20000 in
theorem lk_26_253 (D : va_G) (l : Launch) : zLk D l "FlagLayersModel" (.invokevirtual 518, 253, 0, 14) := fun p e R s m args below meth c mi d pc ad0 hown hcx hbx hini hts hK hdec => zk_V (n := 11) hcx hts (zuk_11 hK).2.1 zcm_253 zct_253 hdec (by rw [hown]; exact zw_1055) zw_1056 zs_102 zw_7 rfl zpd_253 rfl
set_option maxRecDepth 20000 in
theorem lk_26_254 (D : va_G) (l : Launch) : zLk D l "FlagLayersModel" (.invokevirtual 509, 254, 0, 14) := fun p e R s m args below meth c mi d pc ad0 hown hcx hbx hini hts hK hdec => zk_V (n := 11) hcx hts (zuk_11 hK).2.1 zcm_254 zct_254 hdec (by rw [hown]; exact zw_1057) zw_1058 zs_103 zw_7 rfl zpd_254 rfl
set_option maxRecDepth 20000 in
theorem lk_26_255 (D : va_G) (l : Launch) : zLk D l "FlagLayersModel" (.invokevirtual 512, 255, 0, 14) := fun p e R s m args below meth c mi d pc ad0 hown hcx hbx hini hts hK hdec => zk_V (n := 11) hcx hts (zuk_11 hK).2.1 zcm_255 zct_255 hdec (by rw [hown]; exact zw_1059) zw_1060 zs_104 zw_7 rfl zpd_255 rfl
set_option maxRecDepth 20000 in
theorem lk_26_256 (D : va_G) (l : Launch) : zLk D l "FlagLayersModel" (.invokevirtual 506, 256, 0, 14) := fun p e R s m args below meth c mi d pc ad0 hown hcx hbx hini hts hK hdec => zk_V (n := 11) hcx hts (zuk_11 hK).2.1 zcm_256 zct_256 hdec (by rw [hown]; exact zw_1061) zw_1062 zs_105 zw_7 rfl zpd_256 rfl
set_option maxRecDepth 20000 in
theorem lk_26_257 (D : va_G) (l : Launch) : zLk D l "FlagLayersModel" (.invokevirtual 515, 257, 0, 14) := fun p e R s m args below meth c mi d pc ad0 hown hcx hbx hini hts hK hdec => zk_V (n := 11) hcx hts (zuk_11 hK).2.1 zcm_257 zct_257 hdec (by rw [hown]; exact zw_1063) zw_1064 zs_106 zw_7 rfl zpd_257 rfl
set_option maxRecDepth 20000 in
theorem lk_26_258 (D : va_G) (l : Launch) : zLk D l "FlagLayersModel" (.invokevirtual 561, 259, 0, 14) := fun p e R s m args below meth c mi d pc ad0 hown hcx hbx hini hts hK hdec => zk_V (n := 11) hcx hts (zuk_11 hK).2.1 zcm_259 zct_259 hdec (by rw [hown]; exact zw_1065) zw_1066 zs_107 zw_7 rfl zpd_259 rfl
set_option maxRecDepth 20000 in
theorem lk_26_259 (D : va_G) (l : Launch) : zLk D l "FlagLayersModel" (.invokevirtual 565, 260, 0, 14) := fun p e R s m args below meth c mi d pc ad0 hown hcx hbx hini hts hK hdec => zk_V (n := 11) hcx hts (zuk_11 hK).2.1 zcm_260 zct_260 hdec (by rw [hown]; exact zw_1067) zw_1068 zs_108 zw_7 rfl zpd_260 rfl
set_option maxRecDepth 20000 in
theorem lk_26_260 (D : va_G) (l : Launch) : zLk D l "FlagLayersModel" (.invokevirtual 569, 261, 0, 14) := fun p e R s m args below meth c mi d pc ad0 hown hcx hbx hini hts hK hdec => zk_V (n := 11) hcx hts (zuk_11 hK).2.1 zcm_261 zct_261 hdec (by rw [hown]; exact zw_1069) zw_1070 zs_109 zw_7 rfl zpd_261 rfl
set_option maxRecDepth 20000 in
theorem lk_26_261 (D : va_G) (l : Launch) : zLk D l "FlagLayersModel" (.invokevirtual 572, 262, 0, 14) := fun p e R s m args below meth c mi d pc ad0 hown hcx hbx hini hts hK hdec => zk_V (n := 11) hcx hts (zuk_11 hK).2.1 zcm_262 zct_262 hdec (by rw [hown]; exact zw_1071) zw_1072 zs_110 zw_7 rfl zpd_262 rfl
set_option maxRecDepth 20000 in
theorem lk_26_262 (D : va_G) (l : Launch) : zLk D l "FlagLayersModel" (.putfield 549, 11, 86, 0) := fun p e R s m args below meth c mi d pc ad0 hown hcx hbx hini hts hK hdec => by
  show zOkPut D s args m.cls meth.name (zown mi) 549 11 86 (zty 11 86)
  rw [hown]
  exact zk_put hts (zuk_11 hK) zin_11 (by decide) (zFl_p hts zw_1073) (Or.inl rfl) rfl (by decide +kernel)
set_option maxRecDepth 20000 in
theorem lk_26_263 (D : va_G) (l : Launch) : zLk D l "FlagLayersModel" (.putfield 552, 11, 87, 0) := fun p e R s m args below meth c mi d pc ad0 hown hcx hbx hini hts hK hdec => by
  show zOkPut D s args m.cls meth.name (zown mi) 552 11 87 (zty 11 87)
  rw [hown]
  exact zk_put hts (zuk_11 hK) zin_11 (by decide) (zFl_p hts zw_1074) (Or.inl rfl) rfl (by decide +kernel)
set_option maxRecDepth 20000 in
theorem lk_26_264 (D : va_G) (l : Launch) : zLk D l "FlagLayersModel" (.putfield 555, 11, 88, 0) := fun p e R s m args below meth c mi d pc ad0 hown hcx hbx hini hts hK hdec => by
  show zOkPut D s args m.cls meth.name (zown mi) 555 11 88 (zty 11 88)
  rw [hown]
  exact zk_put hts (zuk_11 hK) zin_11 (by decide) (zFl_p hts zw_1075) (Or.inl rfl) rfl (by decide +kernel)
set_option maxRecDepth 20000 in
theorem lk_26_265 (D : va_G) (l : Launch) : zLk D l "FlagLayersModel" (.putfield 558, 11, 90, 0) := fun p e R s m args below meth c mi d pc ad0 hown hcx hbx hini hts hK hdec => by
  show zOkPut D s args m.cls meth.name (zown mi) 558 11 90 (zty 11 90)
  rw [hown]
  exact zk_put hts (zuk_11 hK) zin_11 (by decide) (zFl_p hts zw_1076) (Or.inl rfl) rfl (by decide +kernel)
set_option maxRecDepth 20000 in
theorem lk_26_266 (D : va_G) (l : Launch) : zLk D l "FlagLayersModel" (.putfield 546, 11, 89, 0) := fun p e R s m args below meth c mi d pc ad0 hown hcx hbx hini hts hK hdec => by
  show zOkPut D s args m.cls meth.name (zown mi) 546 11 89 (zty 11 89)
  rw [hown]
  exact zk_put hts (zuk_11 hK) zin_11 (by decide) (zFl_p hts zw_1077) (Or.inl rfl) rfl (by decide +kernel)
set_option maxRecDepth 20000 in
theorem lk_26_267 (D : va_G) (l : Launch) : zLk D l "FlagLayersModel" (.invokevirtual 542, 263, 0, 14) := fun p e R s m args below meth c mi d pc ad0 hown hcx hbx hini hts hK hdec => zk_V (n := 11) hcx hts (zuk_11 hK).2.1 zcm_263 zct_263 hdec (by rw [hown]; exact zw_1078) zw_1079 zs_111 zw_7 rfl zpd_263 rfl
set_option maxRecDepth 20000 in
theorem lk_26_268 (D : va_G) (l : Launch) : zLk D l "FlagLayersModel" (.getfield 546, 11, 89, 0) := fun p e R s m args below meth c mi d pc ad0 hown hcx hbx hini hts hK hdec => by
  show zOkGet D s args (zown mi) 546 11 89
  rw [hown]
  exact zk_get hts (zuk_11 hK) zin_11 (by decide) (zFl_p hts zw_1077) (Or.inl rfl)
set_option maxRecDepth 20000 in
theorem lk_26_269 (D : va_G) (l : Launch) : zLk D l "FlagLayersModel" (.ldc2_w 533, 71, 0, 0) := fun p e R s m args below meth c mi d pc ad0 hown hcx hbx hini hts hK hdec => by
  intro v hv
  obtain rfl : (.long (-3750763034362895579) : Value) = v := Option.some.inj hv
  exact zk_long hcx hts (by rw [hown]; exact zw_1080) hdec
set_option maxRecDepth 20000 in
theorem lk_26_270 (D : va_G) (l : Launch) : zLk D l "FlagLayersModel" (.putfield 524, 11, 84, 0) := fun p e R s m args below meth c mi d pc ad0 hown hcx hbx hini hts hK hdec => by
  show zOkPut D s args m.cls meth.name (zown mi) 524 11 84 (zty 11 84)
  rw [hown]
  exact zk_put hts (zuk_11 hK) zin_11 (by decide) (zFl_p hts zw_1081) (Or.inl rfl) rfl (by decide +kernel)
set_option maxRecDepth 20000 in
theorem lk_26_271 (D : va_G) (l : Launch) : zLk D l "FlagLayersModel" (.invokevirtual 530, 264, 0, 14) := fun p e R s m args below meth c mi d pc ad0 hown hcx hbx hini hts hK hdec => zk_V (n := 11) hcx hts (zuk_11 hK).2.1 zcm_264 zct_264 hdec (by rw [hown]; exact zw_1082) zw_1083 zs_112 zw_7 rfl zpd_264 rfl
set_option maxRecDepth 20000 in
theorem lk_26_272 (D : va_G) (l : Launch) : zLk D l "FlagLayersModel" (.invokevirtual 535, 265, 0, 14) := fun p e R s m args below meth c mi d pc ad0 hown hcx hbx hini hts hK hdec => zk_V (n := 11) hcx hts (zuk_11 hK).2.1 zcm_265 zct_265 hdec (by rw [hown]; exact zw_1084) zw_1085 zs_113 zw_7 rfl zpd_265 rfl
set_option maxRecDepth 20000 in
theorem lk_26_273 (D : va_G) (l : Launch) : zLk D l "FlagLayersModel" (.getfield 524, 11, 84, 0) := fun p e R s m args below meth c mi d pc ad0 hown hcx hbx hini hts hK hdec => by
  show zOkGet D s args (zown mi) 524 11 84
  rw [hown]
  exact zk_get hts (zuk_11 hK) zin_11 (by decide) (zFl_p hts zw_1081) (Or.inl rfl)
set_option maxRecDepth 20000 in
theorem lk_26_274 (D : va_G) (l : Launch) : zLk D l "FlagLayersModel" (.ldc2_w 538, 72, 0, 0) := fun p e R s m args below meth c mi d pc ad0 hown hcx hbx hini hts hK hdec => by
  intro v hv
  obtain rfl : (.long (10000) : Value) = v := Option.some.inj hv
  exact zk_long hcx hts (by rw [hown]; exact zw_1086) hdec
set_option maxRecDepth 20000 in
theorem lk_26_275 (D : va_G) (l : Launch) : zLk D l "FlagLayersModel" (.ldc2_w 540, 73, 0, 0) := fun p e R s m args below meth c mi d pc ad0 hown hcx hbx hini hts hK hdec => by
  intro v hv
  obtain rfl : (.long (2) : Value) = v := Option.some.inj hv
  exact zk_long hcx hts (by rw [hown]; exact zw_1087) hdec
set_option maxRecDepth 20000 in
theorem lk_26_276 (D : va_G) (l : Launch) : zLk D l "FlagLayersModel" (.ldc2_w 528, 74, 0, 0) := fun p e R s m args below meth c mi d pc ad0 hown hcx hbx hini hts hK hdec => by
  intro v hv
  obtain rfl : (.long (1099511628211) : Value) = v := Option.some.inj hv
  exact zk_long hcx hts (by rw [hown]; exact zw_1088) hdec
set_option maxRecDepth 20000 in
theorem lk_26_277 (D : va_G) (l : Launch) : zLk D l "FlagLayersModel" (.getfield 493, 11, 85, 0) := fun p e R s m args below meth c mi d pc ad0 hown hcx hbx hini hts hK hdec => by
  show zOkGet D s args (zown mi) 493 11 85
  rw [hown]
  exact zk_get hts (zuk_11 hK) zin_11 (by decide) (zFl_p hts zw_931) (Or.inl rfl)
set_option maxRecDepth 20000 in
theorem lk_26_278 (D : va_G) (l : Launch) : zLk D l "FlagLayersModel" (.getfield 549, 11, 86, 0) := fun p e R s m args below meth c mi d pc ad0 hown hcx hbx hini hts hK hdec => by
  show zOkGet D s args (zown mi) 549 11 86
  rw [hown]
  exact zk_get hts (zuk_11 hK) zin_11 (by decide) (zFl_p hts zw_1073) (Or.inl rfl)
set_option maxRecDepth 20000 in
theorem lk_26_279 (D : va_G) (l : Launch) : zLk D l "FlagLayersModel" (.getfield 552, 11, 87, 0) := fun p e R s m args below meth c mi d pc ad0 hown hcx hbx hini hts hK hdec => by
  show zOkGet D s args (zown mi) 552 11 87
  rw [hown]
  exact zk_get hts (zuk_11 hK) zin_11 (by decide) (zFl_p hts zw_1074) (Or.inl rfl)
set_option maxRecDepth 20000 in
theorem lk_26_280 (D : va_G) (l : Launch) : zLk D l "FlagLayersModel" (.getfield 555, 11, 88, 0) := fun p e R s m args below meth c mi d pc ad0 hown hcx hbx hini hts hK hdec => by
  show zOkGet D s args (zown mi) 555 11 88
  rw [hown]
  exact zk_get hts (zuk_11 hK) zin_11 (by decide) (zFl_p hts zw_1075) (Or.inl rfl)
set_option maxRecDepth 20000 in
theorem lk_26_281 (D : va_G) (l : Launch) : zLk D l "FlagLayersModel" (.getfield 558, 11, 90, 0) := fun p e R s m args below meth c mi d pc ad0 hown hcx hbx hini hts hK hdec => by
  show zOkGet D s args (zown mi) 558 11 90
  rw [hown]
  exact zk_get hts (zuk_11 hK) zin_11 (by decide) (zFl_p hts zw_1076) (Or.inl rfl)
def zlk_26 : List zRow := [(.invokespecial 1, 0, 1, 0), (.putfield 7, 11, 1, 0), (.putfield 13, 11, 4, 0), (.putfield 17, 11, 5, 0), (.putfield 21, 11, 6, 0), (.ldc 24, 51, 0, 0), (.putfield 25, 11, 7, 0), (.putfield 28, 11, 8, 0), (.putfield 31, 11, 9, 0), (.putfield 34, 11, 10, 0), (.putfield 37, 11, 11, 0), (.putfield 40, 11, 12, 0), (.putfield 43, 11, 13, 0), (.putfield 46, 11, 14, 0), (.putfield 49, 11, 15, 0), (.putfield 52, 11, 16, 0), (.putfield 55, 11, 17, 0), (.putfield 58, 11, 18, 0), (.putfield 61, 11, 19, 0), (.putfield 64, 11, 20, 0), (.putfield 67, 11, 21, 0), (.putfield 70, 11, 22, 0), (.putfield 73, 11, 23, 0), (.putfield 76, 11, 24, 0), (.putfield 79, 11, 25, 0), (.putfield 82, 11, 26, 0), (.putfield 85, 11, 27, 0), (.putfield 88, 11, 28, 0), (.putfield 91, 11, 29, 0), (.putfield 94, 11, 30, 0), (.putfield 97, 11, 31, 0), (.putfield 100, 11, 32, 0), (.putfield 103, 11, 33, 0), (.putfield 106, 11, 34, 0), (.putfield 109, 11, 35, 0), (.putfield 112, 11, 36, 0), (.putfield 115, 11, 37, 0), (.putfield 118, 11, 38, 0), (.putfield 121, 11, 39, 0), (.putfield 124, 11, 40, 0), (.putfield 127, 11, 41, 0), (.putfield 130, 11, 42, 0), (.putfield 133, 11, 43, 0), (.putfield 136, 11, 44, 0), (.putfield 139, 11, 45, 0), (.putfield 142, 11, 46, 0), (.putfield 145, 11, 47, 0), (.putfield 149, 11, 48, 0), (.putfield 152, 11, 49, 0), (.putfield 155, 11, 50, 0), (.putfield 158, 11, 51, 0), (.putfield 161, 11, 52, 0), (.putfield 164, 11, 53, 0), (.putfield 167, 11, 54, 0), (.putfield 170, 11, 55, 0), (.putfield 173, 11, 56, 0), (.putfield 176, 11, 57, 0), (.putfield 179, 11, 58, 0), (.putfield 182, 11, 59, 0), (.putfield 185, 11, 60, 0), (.putfield 188, 11, 61, 0), (.putfield 191, 11, 62, 0), (.putfield 194, 11, 63, 0), (.putfield 197, 11, 66, 0), (.putfield 200, 11, 67, 0), (.putfield 203, 11, 74, 0), (.putfield 206, 11, 77, 0), (.putfield 209, 11, 78, 0), (.putfield 212, 11, 79, 0), (.putfield 215, 11, 80, 0), (.putfield 218, 11, 81, 0), (.putfield 221, 11, 82, 0), (.putfield 224, 11, 83, 0), (.putfield 227, 11, 91, 0), (.getfield 230, 11, 0, 0), (.getfield 233, 11, 2, 0), (.invokevirtual 236, 185, 0, 14), (.getfield 7, 11, 1, 0), (.putfield 233, 11, 2, 0), (.putfield 230, 11, 0, 0), (.invokestatic 240, 187, 0, 0), (.invokevirtual 487, 189, 0, 14), (.getfield 251, 11, 73, 0), (.getfield 13, 11, 4, 0), (.putfield 490, 11, 3, 0), (.putfield 493, 11, 85, 0), (.getfield 43, 11, 13, 0), (.getfield 490, 11, 3, 0), (.getfield 17, 11, 5, 0), (.getfield 28, 11, 8, 0), (.getfield 91, 11, 29, 0), (.getfield 100, 11, 32, 0), (.getfield 121, 11, 39, 0), (.getfield 133, 11, 43, 0), (.getfield 142, 11, 46, 0), (.getfield 164, 11, 53, 0), (.getfield 191, 11, 62, 0), (.putfield 264, 11, 68, 0), (.putfield 251, 11, 73, 0), (.putfield 254, 11, 64, 0), (.invokevirtual 316, 190, 0, 14), (.getfield 271, 11, 69, 0), (.ldc_w 330, 52, 0, 0), (.invokevirtual 304, 199, 0, 14), (.invokevirtual 313, 200, 0, 14), (.invokevirtual 332, 201, 0, 14), (.invokevirtual 335, 226, 0, 14), (.invokevirtual 338, 235, 0, 14), (.invokevirtual 341, 237, 0, 14), (.invokevirtual 344, 239, 0, 14), (.getfield 264, 11, 68, 0), (.invokevirtual 267, 191, 0, 14), (.putfield 244, 11, 70, 0), (.putfield 271, 11, 69, 0), (.invokestatic 257, 192, 0, 0), (.invokestatic 274, 193, 0, 0), (.getfield 244, 11, 70, 0), (.putfield 277, 11, 71, 0), (.getfield 277, 11, 71, 0), (.invokevirtual 280, 195, 0, 14), (.invokestatic 261, 194, 0, 0), (.invokevirtual 284, 197, 0, 14), (.invokevirtual 288, 198, 0, 14), (.invokevirtual 247, 196, 0, 14), (.putfield 291, 11, 72, 0), (.getfield 291, 11, 72, 0), (.invokevirtual 294, 55, 0, 15), (.invokevirtual 300, 59, 0, 15), (.getfield 31, 11, 9, 0), (.invokevirtual 358, 202, 0, 14), (.invokevirtual 362, 208, 0, 14), (.invokevirtual 365, 210, 0, 14), (.getfield 34, 11, 10, 0), (.getfield 37, 11, 11, 0), (.getfield 40, 11, 12, 0), (.invokevirtual 347, 203, 0, 14), (.invokevirtual 351, 204, 0, 14), (.invokevirtual 355, 206, 0, 14), (.ldc_w 308, 53, 0, 0), (.invokevirtual 327, 205, 0, 14), (.getfield 21, 11, 6, 0), (.getfield 25, 11, 7, 0), (.invokevirtual 323, 207, 0, 14), (.invokevirtual 310, 209, 0, 14), (.putfield 432, 11, 75, 0), (.putfield 441, 11, 76, 0), (.invokevirtual 450, 211, 0, 14), (.getfield 432, 11, 75, 0), (.invokevirtual 453, 212, 0, 14), (.ldc_w 456, 54, 0, 0), (.invokevirtual 319, 213, 0, 14), (.getfield 215, 11, 80, 0), (.invokevirtual 458, 223, 0, 14), (.ldc_w 461, 55, 0, 0), (.getfield 209, 11, 78, 0), (.invokevirtual 444, 224, 0, 14), (.getfield 212, 11, 79, 0), (.invokevirtual 435, 220, 0, 14), (.invokevirtual 463, 225, 0, 14), (.getfield 441, 11, 76, 0), (.invokevirtual 466, 222, 0, 14), (.getfield 206, 11, 77, 0), (.getfield 218, 11, 81, 0), (.ldc_w 469, 56, 0, 0), (.invokevirtual 471, 214, 0, 14), (.invokevirtual 447, 215, 0, 14), (.ldc_w 474, 57, 0, 0), (.invokevirtual 401, 216, 0, 14), (.getfield 170, 11, 55, 0), (.invokevirtual 476, 217, 0, 14), (.invokevirtual 438, 221, 0, 14), (.getfield 167, 11, 54, 0), (.getfield 173, 11, 56, 0), (.getfield 176, 11, 57, 0), (.getfield 179, 11, 58, 0), (.getfield 182, 11, 59, 0), (.getfield 185, 11, 60, 0), (.ldc_w 479, 58, 0, 0), (.invokevirtual 481, 218, 0, 14), (.invokevirtual 484, 219, 0, 14), (.getfield 188, 11, 61, 0), (.getfield 46, 11, 14, 0), (.getfield 49, 11, 15, 0), (.ldc_w 368, 59, 0, 0), (.getfield 52, 11, 16, 0), (.getfield 64, 11, 20, 0), (.invokevirtual 370, 227, 0, 14), (.ldc_w 373, 60, 0, 0), (.invokevirtual 375, 228, 0, 14), (.invokevirtual 379, 229, 0, 14), (.ldc_w 382, 61, 0, 0), (.invokevirtual 384, 232, 0, 14), (.getfield 58, 11, 18, 0), (.getfield 61, 11, 19, 0), (.ldc_w 387, 62, 0, 0), (.invokevirtual 389, 233, 0, 14), (.ldc_w 392, 63, 0, 0), (.invokevirtual 394, 234, 0, 14), (.getfield 55, 11, 17, 0), (.ldc_w 412, 64, 0, 0), (.ldc_w 414, 65, 0, 0), (.invokevirtual 416, 230, 0, 14), (.getfield 136, 11, 44, 0), (.getfield 139, 11, 45, 0), (.invokevirtual 420, 231, 0, 14), (.getfield 145, 11, 47, 0), (.getfield 149, 11, 48, 0), (.getfield 152, 11, 49, 0), (.getfield 155, 11, 50, 0), (.getfield 158, 11, 51, 0), (.getfield 161, 11, 52, 0), (.ldc_w 423, 66, 0, 0), (.ldc_w 397, 67, 0, 0), (.ldc_w 399, 68, 0, 0), (.getfield 67, 11, 21, 0), (.getfield 70, 11, 22, 0), (.getfield 85, 11, 27, 0), (.getfield 76, 11, 24, 0), (.getfield 79, 11, 25, 0), (.getfield 82, 11, 26, 0), (.getfield 103, 11, 33, 0), (.getfield 106, 11, 34, 0), (.getfield 109, 11, 35, 0), (.getfield 112, 11, 36, 0), (.getfield 115, 11, 37, 0), (.getfield 118, 11, 38, 0), (.getfield 94, 11, 30, 0), (.ldc_w 404, 69, 0, 0), (.getfield 97, 11, 31, 0), (.ldc_w 406, 70, 0, 0), (.invokevirtual 408, 236, 0, 14), (.getfield 124, 11, 40, 0), (.getfield 127, 11, 41, 0), (.getfield 130, 11, 42, 0), (.invokevirtual 425, 238, 0, 14), (.getfield 73, 11, 23, 0), (.getfield 88, 11, 28, 0), (.invokevirtual 429, 240, 0, 14), (.getfield 203, 11, 74, 0), (.getfield 194, 11, 63, 0), (.getfield 254, 11, 64, 0), (.getfield 497, 11, 65, 0), (.putfield 497, 11, 65, 0), (.getfield 197, 11, 66, 0), (.getfield 200, 11, 67, 0), (.invokevirtual 500, 248, 0, 14), (.invokevirtual 503, 249, 0, 14), (.invokevirtual 575, 251, 0, 14), (.getfield 227, 11, 91, 0), (.invokevirtual 578, 258, 0, 14), (.getfield 224, 11, 83, 0), (.invokevirtual 521, 252, 0, 14), (.getfield 221, 11, 82, 0), (.invokevirtual 518, 253, 0, 14), (.invokevirtual 509, 254, 0, 14), (.invokevirtual 512, 255, 0, 14), (.invokevirtual 506, 256, 0, 14), (.invokevirtual 515, 257, 0, 14), (.invokevirtual 561, 259, 0, 14), (.invokevirtual 565, 260, 0, 14), (.invokevirtual 569, 261, 0, 14), (.invokevirtual 572, 262, 0, 14), (.putfield 549, 11, 86, 0), (.putfield 552, 11, 87, 0), (.putfield 555, 11, 88, 0), (.putfield 558, 11, 90, 0), (.putfield 546, 11, 89, 0), (.invokevirtual 542, 263, 0, 14), (.getfield 546, 11, 89, 0), (.ldc2_w 533, 71, 0, 0), (.putfield 524, 11, 84, 0), (.invokevirtual 530, 264, 0, 14), (.invokevirtual 535, 265, 0, 14), (.getfield 524, 11, 84, 0), (.ldc2_w 538, 72, 0, 0), (.ldc2_w 540, 73, 0, 0), (.ldc2_w 528, 74, 0, 0), (.getfield 493, 11, 85, 0), (.getfield 549, 11, 86, 0), (.getfield 552, 11, 87, 0), (.getfield 555, 11, 88, 0), (.getfield 558, 11, 90, 0)]
set_option maxRecDepth 20000 in
theorem zlkA_26 (D : va_G) (l : Launch) : ∀ t ∈ zlk_26, zLk D l "FlagLayersModel" t := zlkc (lk_26_0 D l) (zlkc (lk_26_1 D l) (zlkc (lk_26_2 D l) (zlkc (lk_26_3 D l) (zlkc (lk_26_4 D l) (zlkc (lk_26_5 D l) (zlkc (lk_26_6 D l) (zlkc (lk_26_7 D l) (zlkc (lk_26_8 D l) (zlkc (lk_26_9 D l) (zlkc (lk_26_10 D l) (zlkc (lk_26_11 D l) (zlkc (lk_26_12 D l) (zlkc (lk_26_13 D l) (zlkc (lk_26_14 D l) (zlkc (lk_26_15 D l) (zlkc (lk_26_16 D l) (zlkc (lk_26_17 D l) (zlkc (lk_26_18 D l) (zlkc (lk_26_19 D l) (zlkc (lk_26_20 D l) (zlkc (lk_26_21 D l) (zlkc (lk_26_22 D l) (zlkc (lk_26_23 D l) (zlkc (lk_26_24 D l) (zlkc (lk_26_25 D l) (zlkc (lk_26_26 D l) (zlkc (lk_26_27 D l) (zlkc (lk_26_28 D l) (zlkc (lk_26_29 D l) (zlkc (lk_26_30 D l) (zlkc (lk_26_31 D l) (zlkc (lk_26_32 D l) (zlkc (lk_26_33 D l) (zlkc (lk_26_34 D l) (zlkc (lk_26_35 D l) (zlkc (lk_26_36 D l) (zlkc (lk_26_37 D l) (zlkc (lk_26_38 D l) (zlkc (lk_26_39 D l) (zlkc (lk_26_40 D l) (zlkc (lk_26_41 D l) (zlkc (lk_26_42 D l) (zlkc (lk_26_43 D l) (zlkc (lk_26_44 D l) (zlkc (lk_26_45 D l) (zlkc (lk_26_46 D l) (zlkc (lk_26_47 D l) (zlkc (lk_26_48 D l) (zlkc (lk_26_49 D l) (zlkc (lk_26_50 D l) (zlkc (lk_26_51 D l) (zlkc (lk_26_52 D l) (zlkc (lk_26_53 D l) (zlkc (lk_26_54 D l) (zlkc (lk_26_55 D l) (zlkc (lk_26_56 D l) (zlkc (lk_26_57 D l) (zlkc (lk_26_58 D l) (zlkc (lk_26_59 D l) (zlkc (lk_26_60 D l) (zlkc (lk_26_61 D l) (zlkc (lk_26_62 D l) (zlkc (lk_26_63 D l) (zlkc (lk_26_64 D l) (zlkc (lk_26_65 D l) (zlkc (lk_26_66 D l) (zlkc (lk_26_67 D l) (zlkc (lk_26_68 D l) (zlkc (lk_26_69 D l) (zlkc (lk_26_70 D l) (zlkc (lk_26_71 D l) (zlkc (lk_26_72 D l) (zlkc (lk_26_73 D l) (zlkc (lk_26_74 D l) (zlkc (lk_26_75 D l) (zlkc (lk_26_76 D l) (zlkc (lk_26_77 D l) (zlkc (lk_26_78 D l) (zlkc (lk_26_79 D l) (zlkc (lk_26_80 D l) (zlkc (lk_26_81 D l) (zlkc (lk_26_82 D l) (zlkc (lk_26_83 D l) (zlkc (lk_26_84 D l) (zlkc (lk_26_85 D l) (zlkc (lk_26_86 D l) (zlkc (lk_26_87 D l) (zlkc (lk_26_88 D l) (zlkc (lk_26_89 D l) (zlkc (lk_26_90 D l) (zlkc (lk_26_91 D l) (zlkc (lk_26_92 D l) (zlkc (lk_26_93 D l) (zlkc (lk_26_94 D l) (zlkc (lk_26_95 D l) (zlkc (lk_26_96 D l) (zlkc (lk_26_97 D l) (zlkc (lk_26_98 D l) (zlkc (lk_26_99 D l) (zlkc (lk_26_100 D l) (zlkc (lk_26_101 D l) (zlkc (lk_26_102 D l) (zlkc (lk_26_103 D l) (zlkc (lk_26_104 D l) (zlkc (lk_26_105 D l) (zlkc (lk_26_106 D l) (zlkc (lk_26_107 D l) (zlkc (lk_26_108 D l) (zlkc (lk_26_109 D l) (zlkc (lk_26_110 D l) (zlkc (lk_26_111 D l) (zlkc (lk_26_112 D l) (zlkc (lk_26_113 D l) (zlkc (lk_26_114 D l) (zlkc (lk_26_115 D l) (zlkc (lk_26_116 D l) (zlkc (lk_26_117 D l) (zlkc (lk_26_118 D l) (zlkc (lk_26_119 D l) (zlkc (lk_26_120 D l) (zlkc (lk_26_121 D l) (zlkc (lk_26_122 D l) (zlkc (lk_26_123 D l) (zlkc (lk_26_124 D l) (zlkc (lk_26_125 D l) (zlkc (lk_26_126 D l) (zlkc (lk_26_127 D l) (zlkc (lk_26_128 D l) (zlkc (lk_26_129 D l) (zlkc (lk_26_130 D l) (zlkc (lk_26_131 D l) (zlkc (lk_26_132 D l) (zlkc (lk_26_133 D l) (zlkc (lk_26_134 D l) (zlkc (lk_26_135 D l) (zlkc (lk_26_136 D l) (zlkc (lk_26_137 D l) (zlkc (lk_26_138 D l) (zlkc (lk_26_139 D l) (zlkc (lk_26_140 D l) (zlkc (lk_26_141 D l) (zlkc (lk_26_142 D l) (zlkc (lk_26_143 D l) (zlkc (lk_26_144 D l) (zlkc (lk_26_145 D l) (zlkc (lk_26_146 D l) (zlkc (lk_26_147 D l) (zlkc (lk_26_148 D l) (zlkc (lk_26_149 D l) (zlkc (lk_26_150 D l) (zlkc (lk_26_151 D l) (zlkc (lk_26_152 D l) (zlkc (lk_26_153 D l) (zlkc (lk_26_154 D l) (zlkc (lk_26_155 D l) (zlkc (lk_26_156 D l) (zlkc (lk_26_157 D l) (zlkc (lk_26_158 D l) (zlkc (lk_26_159 D l) (zlkc (lk_26_160 D l) (zlkc (lk_26_161 D l) (zlkc (lk_26_162 D l) (zlkc (lk_26_163 D l) (zlkc (lk_26_164 D l) (zlkc (lk_26_165 D l) (zlkc (lk_26_166 D l) (zlkc (lk_26_167 D l) (zlkc (lk_26_168 D l) (zlkc (lk_26_169 D l) (zlkc (lk_26_170 D l) (zlkc (lk_26_171 D l) (zlkc (lk_26_172 D l) (zlkc (lk_26_173 D l) (zlkc (lk_26_174 D l) (zlkc (lk_26_175 D l) (zlkc (lk_26_176 D l) (zlkc (lk_26_177 D l) (zlkc (lk_26_178 D l) (zlkc (lk_26_179 D l) (zlkc (lk_26_180 D l) (zlkc (lk_26_181 D l) (zlkc (lk_26_182 D l) (zlkc (lk_26_183 D l) (zlkc (lk_26_184 D l) (zlkc (lk_26_185 D l) (zlkc (lk_26_186 D l) (zlkc (lk_26_187 D l) (zlkc (lk_26_188 D l) (zlkc (lk_26_189 D l) (zlkc (lk_26_190 D l) (zlkc (lk_26_191 D l) (zlkc (lk_26_192 D l) (zlkc (lk_26_193 D l) (zlkc (lk_26_194 D l) (zlkc (lk_26_195 D l) (zlkc (lk_26_196 D l) (zlkc (lk_26_197 D l) (zlkc (lk_26_198 D l) (zlkc (lk_26_199 D l) (zlkc (lk_26_200 D l) (zlkc (lk_26_201 D l) (zlkc (lk_26_202 D l) (zlkc (lk_26_203 D l) (zlkc (lk_26_204 D l) (zlkc (lk_26_205 D l) (zlkc (lk_26_206 D l) (zlkc (lk_26_207 D l) (zlkc (lk_26_208 D l) (zlkc (lk_26_209 D l) (zlkc (lk_26_210 D l) (zlkc (lk_26_211 D l) (zlkc (lk_26_212 D l) (zlkc (lk_26_213 D l) (zlkc (lk_26_214 D l) (zlkc (lk_26_215 D l) (zlkc (lk_26_216 D l) (zlkc (lk_26_217 D l) (zlkc (lk_26_218 D l) (zlkc (lk_26_219 D l) (zlkc (lk_26_220 D l) (zlkc (lk_26_221 D l) (zlkc (lk_26_222 D l) (zlkc (lk_26_223 D l) (zlkc (lk_26_224 D l) (zlkc (lk_26_225 D l) (zlkc (lk_26_226 D l) (zlkc (lk_26_227 D l) (zlkc (lk_26_228 D l) (zlkc (lk_26_229 D l) (zlkc (lk_26_230 D l) (zlkc (lk_26_231 D l) (zlkc (lk_26_232 D l) (zlkc (lk_26_233 D l) (zlkc (lk_26_234 D l) (zlkc (lk_26_235 D l) (zlkc (lk_26_236 D l) (zlkc (lk_26_237 D l) (zlkc (lk_26_238 D l) (zlkc (lk_26_239 D l) (zlkc (lk_26_240 D l) (zlkc (lk_26_241 D l) (zlkc (lk_26_242 D l) (zlkc (lk_26_243 D l) (zlkc (lk_26_244 D l) (zlkc (lk_26_245 D l) (zlkc (lk_26_246 D l) (zlkc (lk_26_247 D l) (zlkc (lk_26_248 D l) (zlkc (lk_26_249 D l) (zlkc (lk_26_250 D l) (zlkc (lk_26_251 D l) (zlkc (lk_26_252 D l) (zlkc (lk_26_253 D l) (zlkc (lk_26_254 D l) (zlkc (lk_26_255 D l) (zlkc (lk_26_256 D l) (zlkc (lk_26_257 D l) (zlkc (lk_26_258 D l) (zlkc (lk_26_259 D l) (zlkc (lk_26_260 D l) (zlkc (lk_26_261 D l) (zlkc (lk_26_262 D l) (zlkc (lk_26_263 D l) (zlkc (lk_26_264 D l) (zlkc (lk_26_265 D l) (zlkc (lk_26_266 D l) (zlkc (lk_26_267 D l) (zlkc (lk_26_268 D l) (zlkc (lk_26_269 D l) (zlkc (lk_26_270 D l) (zlkc (lk_26_271 D l) (zlkc (lk_26_272 D l) (zlkc (lk_26_273 D l) (zlkc (lk_26_274 D l) (zlkc (lk_26_275 D l) (zlkc (lk_26_276 D l) (zlkc (lk_26_277 D l) (zlkc (lk_26_278 D l) (zlkc (lk_26_279 D l) (zlkc (lk_26_280 D l) (zlkc (lk_26_281 D l) (zlkn))))))))))))))))))))))))))))))))))))))))))))))))))))))))))))))))))))))))))))))))))))))))))))))))))))))))))))))))))))))))))))))))))))))))))))))))))))))))))))))))))))))))))))))))))))))))))))))))))))))))))))))))))))))))))))))))))))))))))))))))))))))))))))))))))))))))))))))))))))))))))

/-! WHAT THE LINKS OWE, class by class (written by a program of the verifier's) -/
section ZLKD
def zneed (q : zRow) : Bool := match q.1 with
  | .putfield _ => match zg zclL q.2.1 with
    | some r => (r.2.1 q.2.2.1).2.2.2
    | none => false
  | _ => false
def zRo (D : va_G) (l : Launch) (p : Program) (e : Env) (R : Room) (s : State) (m : MethodId) (args : Array Value) (below : List Frame) (meth : Method) (c : Code) (A : Nat → Prop) (ad0 : List Nat) (mi pc : Nat) (q : zRow) : Prop := match q.1 with
  | .getfield _ | .putfield _ | .new _ | .anewarray _ | .newarray _ => zOkHp D zclL zcnm zty zdf s args m.cls meth.name (zown mi) q.1 q.2.1 q.2.2.1
  | .ldc _ | .ldc_w _ | .ldc2_w _ | .getstatic _ => ∀ v, zg zkst q.2.1 = some v → zOkCs p l e R s m args below meth c A ad0 pc q.1 v
  | .checkcast _ | .instanceof _ => zOkCa zcnm s args (zown mi) q.1 q.2.1 q.2.2.1
  | .invokevirtual _ | .invokespecial _ | .invokestatic _ => match q.2.2.1 with
    | 0 => zOkInv zGG D l zy zw p e R s m args below meth c pc q.2.1 q.2.2.2 true
    | 2 => zOkInv zGG D l zy zw p e R s m args below meth c pc q.2.1 q.2.2.2 false
    | 1 => zOkObj s args (zown mi) q.1
    | _ => True
  | _ => True
def zLk (D : va_G) (l : Launch) (ow : String) (q : zRow) : Prop := ∀ (p : Program) (e : Env) (R : Room) (s : State) (m : MethodId) (args : Array Value) (below : List Frame) (meth : Method) (c : Code) (mi d pc : Nat) (ad0 : List Nat), zown mi = ow → zCx zGG zby zown p R s m meth c mi d → zBx zy ztb meth c mi → (zneed q = true → (zy mi).name = "<init>") → (∀ w ∈ zT, w.before args s = true) → zK D ad0 (zA zn0 ad0 s.heap.size) s → decode (zby mi) pc = .ok (q.1, zlen q.1) → zRo D l p e R s m args below meth c (zA zn0 ad0 s.heap.size) ad0 mi pc q
theorem zlkc {P : zRow → Prop} {a : zRow} {l : List zRow} (h : P a) (hl : ∀ w ∈ l, P w) : ∀ w ∈ a :: l, P w := fun w hw => (List.mem_cons.mp hw).elim (fun q => q ▸ h) (hl w)
theorem zlkn {P : zRow → Prop} : ∀ w ∈ ([] : List zRow), P w := fun _ h => by cases h
end ZLKD
set_option maxRecDepth 20000 in
theorem lk_0_0 (D : va_G) (l : Launch) : zLk D l "FlagLayersLaw" (.new 8, 10, 4, 0) := fun p e R s m args below meth c mi d pc ad0 hown hcx hbx hini hts hK hdec => by
  show zOkNew D zclL s args (zown mi) 8 10 4 (zdf 10)
  rw [hown]
  exact zk_new hts rfl (zuk_10 hK) zin_10 (fun k => zty 10 k) ztk_10 zw_0 zw_1 zw_2 rfl zdk_10
set_option maxRecDepth 20000 in
theorem lk_0_1 (D : va_G) (l : Launch) : zLk D l "FlagLayersLaw" (.invokespecial 60, 1, 2, 2) := fun p e R s m args below meth c mi d pc ad0 hown hcx hbx hini hts hK hdec => zk_I hcx hts zcm_1 zct_1 hdec (by rw [hown]; exact zw_3) zw_4 zw_2 rfl zpd_1 rfl
set_option maxRecDepth 20000 in
theorem lk_0_2 (D : va_G) (l : Launch) : zLk D l "FlagLayersLaw" (.new 61, 11, 92, 0) := fun p e R s m args below meth c mi d pc ad0 hown hcx hbx hini hts hK hdec => by
  show zOkNew D zclL s args (zown mi) 61 11 92 (zdf 11)
  rw [hown]
  exact zk_new hts rfl (zuk_11 hK) zin_11 (fun k => zty 11 k) ztk_11 zw_5 zw_6 zw_7 rfl zdk_11
set_option maxRecDepth 20000 in
theorem lk_0_3 (D : va_G) (l : Launch) : zLk D l "FlagLayersLaw" (.invokespecial 63, 182, 2, 2) := fun p e R s m args below meth c mi d pc ad0 hown hcx hbx hini hts hK hdec => zk_I hcx hts zcm_182 zct_182 hdec (by rw [hown]; exact zw_8) zw_9 zw_7 rfl zpd_182 rfl
set_option maxRecDepth 20000 in
theorem lk_0_4 (D : va_G) (l : Launch) : zLk D l "FlagLayersLaw" (.invokestatic 64, 124, 0, 0) := fun p e R s m args below meth c mi d pc ad0 hown hcx hbx hini hts hK hdec => zk_SX hcx hts zcm_124 zct_124 hdec (by rw [hown]; exact zw_10) zw_11 zw_12 zpd_124 rfl
set_option maxRecDepth 20000 in
theorem lk_0_5 (D : va_G) (l : Launch) : zLk D l "FlagLayersLaw" (.invokevirtual 69, 184, 0, 14) := fun p e R s m args below meth c mi d pc ad0 hown hcx hbx hini hts hK hdec => zk_V (n := 11) hcx hts (zuk_11 hK).2.1 zcm_184 zct_184 hdec (by rw [hown]; exact zw_13) zw_15 zw_14 zw_7 rfl zpd_184 rfl
set_option maxRecDepth 20000 in
theorem lk_0_6 (D : va_G) (l : Launch) : zLk D l "FlagLayersLaw" (.invokevirtual 70, 183, 0, 14) := fun p e R s m args below meth c mi d pc ad0 hown hcx hbx hini hts hK hdec => zk_V (n := 11) hcx hts (zuk_11 hK).2.1 zcm_183 zct_183 hdec (by rw [hown]; exact zw_16) zw_18 zw_17 zw_7 rfl zpd_183 rfl
set_option maxRecDepth 20000 in
theorem lk_0_7 (D : va_G) (l : Launch) : zLk D l "FlagLayersLaw" (.invokestatic 73, 127, 0, 0) := fun p e R s m args below meth c mi d pc ad0 hown hcx hbx hini hts hK hdec => zk_SX hcx hts zcm_127 zct_127 hdec (by rw [hown]; exact zw_19) zw_20 zw_12 zpd_127 rfl
set_option maxRecDepth 20000 in
theorem lk_0_8 (D : va_G) (l : Launch) : zLk D l "FlagLayersLaw" (.invokevirtual 76, 186, 0, 14) := fun p e R s m args below meth c mi d pc ad0 hown hcx hbx hini hts hK hdec => zk_V (n := 11) hcx hts (zuk_11 hK).2.1 zcm_186 zct_186 hdec (by rw [hown]; exact zw_21) zw_23 zw_22 zw_7 rfl zpd_186 rfl
set_option maxRecDepth 20000 in
theorem lk_0_9 (D : va_G) (l : Launch) : zLk D l "FlagLayersLaw" (.invokevirtual 77, 9, 0, 13) := fun p e R s m args below meth c mi d pc ad0 hown hcx hbx hini hts hK hdec => zk_VX (n := 10) hcx hts (zuk_10 hK).2.1 zcm_9 zct_9 hdec (by rw [hown]; exact zw_24) zw_26 zw_25 zw_2 rfl zpd_9 rfl
set_option maxRecDepth 20000 in
theorem lk_0_10 (D : va_G) (l : Launch) : zLk D l "FlagLayersLaw" (.invokevirtual 80, 188, 0, 14) := fun p e R s m args below meth c mi d pc ad0 hown hcx hbx hini hts hK hdec => zk_V (n := 11) hcx hts (zuk_11 hK).2.1 zcm_188 zct_188 hdec (by rw [hown]; exact zw_27) zw_29 zw_28 zw_7 rfl zpd_188 rfl
set_option maxRecDepth 20000 in
theorem lk_0_11 (D : va_G) (l : Launch) : zLk D l "FlagLayersLaw" (.invokevirtual 81, 121, 0, 13) := fun p e R s m args below meth c mi d pc ad0 hown hcx hbx hini hts hK hdec => zk_V (n := 10) hcx hts (zuk_10 hK).2.1 zcm_121 zct_121 hdec (by rw [hown]; exact zw_30) zw_32 zw_31 zw_2 rfl zpd_121 rfl
set_option maxRecDepth 20000 in
theorem lk_0_12 (D : va_G) (l : Launch) : zLk D l "FlagLayersLaw" (.invokevirtual 84, 241, 0, 14) := fun p e R s m args below meth c mi d pc ad0 hown hcx hbx hini hts hK hdec => zk_V (n := 11) hcx hts (zuk_11 hK).2.1 zcm_241 zct_241 hdec (by rw [hown]; exact zw_33) zw_35 zw_34 zw_7 rfl zpd_241 rfl
set_option maxRecDepth 20000 in
theorem lk_0_13 (D : va_G) (l : Launch) : zLk D l "FlagLayersLaw" (.invokestatic 85, 129, 0, 0) := fun p e R s m args below meth c mi d pc ad0 hown hcx hbx hini hts hK hdec => zk_SX hcx hts zcm_129 zct_129 hdec (by rw [hown]; exact zw_36) zw_37 zw_12 zpd_129 rfl
set_option maxRecDepth 20000 in
theorem lk_0_14 (D : va_G) (l : Launch) : zLk D l "FlagLayersLaw" (.invokevirtual 88, 242, 0, 14) := fun p e R s m args below meth c mi d pc ad0 hown hcx hbx hini hts hK hdec => zk_V (n := 11) hcx hts (zuk_11 hK).2.1 zcm_242 zct_242 hdec (by rw [hown]; exact zw_38) zw_40 zw_39 zw_7 rfl zpd_242 rfl
set_option maxRecDepth 20000 in
theorem lk_0_15 (D : va_G) (l : Launch) : zLk D l "FlagLayersLaw" (.invokestatic 89, 131, 0, 0) := fun p e R s m args below meth c mi d pc ad0 hown hcx hbx hini hts hK hdec => zk_SX hcx hts zcm_131 zct_131 hdec (by rw [hown]; exact zw_41) zw_42 zw_12 zpd_131 rfl
set_option maxRecDepth 20000 in
theorem lk_0_16 (D : va_G) (l : Launch) : zLk D l "FlagLayersLaw" (.invokevirtual 92, 243, 0, 14) := fun p e R s m args below meth c mi d pc ad0 hown hcx hbx hini hts hK hdec => zk_V (n := 11) hcx hts (zuk_11 hK).2.1 zcm_243 zct_243 hdec (by rw [hown]; exact zw_43) zw_45 zw_44 zw_7 rfl zpd_243 rfl
set_option maxRecDepth 20000 in
theorem lk_0_17 (D : va_G) (l : Launch) : zLk D l "FlagLayersLaw" (.invokevirtual 93, 122, 0, 13) := fun p e R s m args below meth c mi d pc ad0 hown hcx hbx hini hts hK hdec => zk_V (n := 10) hcx hts (zuk_10 hK).2.1 zcm_122 zct_122 hdec (by rw [hown]; exact zw_46) zw_48 zw_47 zw_2 rfl zpd_122 rfl
set_option maxRecDepth 20000 in
theorem lk_0_18 (D : va_G) (l : Launch) : zLk D l "FlagLayersLaw" (.invokevirtual 96, 244, 0, 14) := fun p e R s m args below meth c mi d pc ad0 hown hcx hbx hini hts hK hdec => zk_V (n := 11) hcx hts (zuk_11 hK).2.1 zcm_244 zct_244 hdec (by rw [hown]; exact zw_49) zw_51 zw_50 zw_7 rfl zpd_244 rfl
set_option maxRecDepth 20000 in
theorem lk_0_19 (D : va_G) (l : Launch) : zLk D l "FlagLayersLaw" (.invokestatic 97, 136, 0, 0) := fun p e R s m args below meth c mi d pc ad0 hown hcx hbx hini hts hK hdec => zk_SX hcx hts zcm_136 zct_136 hdec (by rw [hown]; exact zw_52) zw_53 zw_12 zpd_136 rfl
set_option maxRecDepth 20000 in
theorem lk_0_20 (D : va_G) (l : Launch) : zLk D l "FlagLayersLaw" (.invokevirtual 99, 245, 0, 14) := fun p e R s m args below meth c mi d pc ad0 hown hcx hbx hini hts hK hdec => zk_V (n := 11) hcx hts (zuk_11 hK).2.1 zcm_245 zct_245 hdec (by rw [hown]; exact zw_54) zw_56 zw_55 zw_7 rfl zpd_245 rfl
set_option maxRecDepth 20000 in
theorem lk_0_21 (D : va_G) (l : Launch) : zLk D l "FlagLayersLaw" (.invokestatic 100, 141, 0, 0) := fun p e R s m args below meth c mi d pc ad0 hown hcx hbx hini hts hK hdec => zk_SX hcx hts zcm_141 zct_141 hdec (by rw [hown]; exact zw_57) zw_58 zw_12 zpd_141 rfl
set_option maxRecDepth 20000 in
theorem lk_0_22 (D : va_G) (l : Launch) : zLk D l "FlagLayersLaw" (.invokevirtual 103, 246, 0, 14) := fun p e R s m args below meth c mi d pc ad0 hown hcx hbx hini hts hK hdec => zk_V (n := 11) hcx hts (zuk_11 hK).2.1 zcm_246 zct_246 hdec (by rw [hown]; exact zw_59) zw_61 zw_60 zw_7 rfl zpd_246 rfl
set_option maxRecDepth 20000 in
theorem lk_0_23 (D : va_G) (l : Launch) : zLk D l "FlagLayersLaw" (.invokestatic 104, 143, 0, 0) := fun p e R s m args below meth c mi d pc ad0 hown hcx hbx hini hts hK hdec => zk_SX hcx hts zcm_143 zct_143 hdec (by rw [hown]; exact zw_62) zw_63 zw_12 zpd_143 rfl
set_option maxRecDepth 20000 in
theorem lk_0_24 (D : va_G) (l : Launch) : zLk D l "FlagLayersLaw" (.invokevirtual 107, 247, 0, 14) := fun p e R s m args below meth c mi d pc ad0 hown hcx hbx hini hts hK hdec => zk_V (n := 11) hcx hts (zuk_11 hK).2.1 zcm_247 zct_247 hdec (by rw [hown]; exact zw_64) zw_66 zw_65 zw_7 rfl zpd_247 rfl
set_option maxRecDepth 20000 in
theorem lk_0_25 (D : va_G) (l : Launch) : zLk D l "FlagLayersLaw" (.invokestatic 108, 146, 0, 0) := fun p e R s m args below meth c mi d pc ad0 hown hcx hbx hini hts hK hdec => zk_SX hcx hts zcm_146 zct_146 hdec (by rw [hown]; exact zw_67) zw_68 zw_12 zpd_146 rfl
set_option maxRecDepth 20000 in
theorem lk_0_26 (D : va_G) (l : Launch) : zLk D l "FlagLayersLaw" (.invokevirtual 110, 250, 0, 14) := fun p e R s m args below meth c mi d pc ad0 hown hcx hbx hini hts hK hdec => zk_V (n := 11) hcx hts (zuk_11 hK).2.1 zcm_250 zct_250 hdec (by rw [hown]; exact zw_69) zw_71 zw_70 zw_7 rfl zpd_250 rfl
set_option maxRecDepth 20000 in
theorem lk_0_27 (D : va_G) (l : Launch) : zLk D l "FlagLayersLaw" (.invokestatic 111, 171, 0, 0) := fun p e R s m args below meth c mi d pc ad0 hown hcx hbx hini hts hK hdec => zk_SX hcx hts zcm_171 zct_171 hdec (by rw [hown]; exact zw_72) zw_73 zw_12 zpd_171 rfl
set_option maxRecDepth 20000 in
theorem lk_0_28 (D : va_G) (l : Launch) : zLk D l "FlagLayersLaw" (.invokevirtual 113, 266, 0, 14) := fun p e R s m args below meth c mi d pc ad0 hown hcx hbx hini hts hK hdec => zk_V (n := 11) hcx hts (zuk_11 hK).2.1 zcm_266 zct_266 hdec (by rw [hown]; exact zw_74) zw_76 zw_75 zw_7 rfl zpd_266 rfl
set_option maxRecDepth 20000 in
theorem lk_0_29 (D : va_G) (l : Launch) : zLk D l "FlagLayersLaw" (.invokestatic 114, 173, 0, 0) := fun p e R s m args below meth c mi d pc ad0 hown hcx hbx hini hts hK hdec => zk_SX hcx hts zcm_173 zct_173 hdec (by rw [hown]; exact zw_77) zw_78 zw_12 zpd_173 rfl
set_option maxRecDepth 20000 in
theorem lk_0_30 (D : va_G) (l : Launch) : zLk D l "FlagLayersLaw" (.invokevirtual 116, 267, 0, 14) := fun p e R s m args below meth c mi d pc ad0 hown hcx hbx hini hts hK hdec => zk_V (n := 11) hcx hts (zuk_11 hK).2.1 zcm_267 zct_267 hdec (by rw [hown]; exact zw_79) zw_81 zw_80 zw_7 rfl zpd_267 rfl
set_option maxRecDepth 20000 in
theorem lk_0_31 (D : va_G) (l : Launch) : zLk D l "FlagLayersLaw" (.invokestatic 117, 175, 0, 0) := fun p e R s m args below meth c mi d pc ad0 hown hcx hbx hini hts hK hdec => zk_SX hcx hts zcm_175 zct_175 hdec (by rw [hown]; exact zw_82) zw_83 zw_12 zpd_175 rfl
set_option maxRecDepth 20000 in
theorem lk_0_32 (D : va_G) (l : Launch) : zLk D l "FlagLayersLaw" (.invokevirtual 119, 268, 0, 14) := fun p e R s m args below meth c mi d pc ad0 hown hcx hbx hini hts hK hdec => zk_V (n := 11) hcx hts (zuk_11 hK).2.1 zcm_268 zct_268 hdec (by rw [hown]; exact zw_84) zw_86 zw_85 zw_7 rfl zpd_268 rfl
set_option maxRecDepth 20000 in
theorem lk_0_33 (D : va_G) (l : Launch) : zLk D l "FlagLayersLaw" (.invokestatic 120, 177, 0, 0) := fun p e R s m args below meth c mi d pc ad0 hown hcx hbx hini hts hK hdec => zk_SX hcx hts zcm_177 zct_177 hdec (by rw [hown]; exact zw_87) zw_88 zw_12 zpd_177 rfl
set_option maxRecDepth 20000 in
theorem lk_0_34 (D : va_G) (l : Launch) : zLk D l "FlagLayersLaw" (.invokevirtual 122, 269, 0, 14) := fun p e R s m args below meth c mi d pc ad0 hown hcx hbx hini hts hK hdec => zk_V (n := 11) hcx hts (zuk_11 hK).2.1 zcm_269 zct_269 hdec (by rw [hown]; exact zw_89) zw_91 zw_90 zw_7 rfl zpd_269 rfl
set_option maxRecDepth 20000 in
theorem lk_0_35 (D : va_G) (l : Launch) : zLk D l "FlagLayersLaw" (.invokestatic 123, 179, 0, 0) := fun p e R s m args below meth c mi d pc ad0 hown hcx hbx hini hts hK hdec => zk_SX hcx hts zcm_179 zct_179 hdec (by rw [hown]; exact zw_92) zw_93 zw_12 zpd_179 rfl
set_option maxRecDepth 20000 in
theorem lk_0_36 (D : va_G) (l : Launch) : zLk D l "FlagLayersLaw" (.invokevirtual 125, 270, 0, 14) := fun p e R s m args below meth c mi d pc ad0 hown hcx hbx hini hts hK hdec => zk_V (n := 11) hcx hts (zuk_11 hK).2.1 zcm_270 zct_270 hdec (by rw [hown]; exact zw_94) zw_96 zw_95 zw_7 rfl zpd_270 rfl
set_option maxRecDepth 20000 in
theorem lk_0_37 (D : va_G) (l : Launch) : zLk D l "FlagLayersLaw" (.invokevirtual 7, 125, 0, 13) := fun p e R s m args below meth c mi d pc ad0 hown hcx hbx hini hts hK hdec => zk_V (n := 10) hcx hts (zuk_10 hK).2.1 zcm_125 zct_125 hdec (by rw [hown]; exact zw_97) zw_99 zw_98 zw_2 rfl zpd_125 rfl
set_option maxRecDepth 20000 in
theorem lk_0_38 (D : va_G) (l : Launch) : zLk D l "FlagLayersLaw" (.invokevirtual 15, 128, 0, 13) := fun p e R s m args below meth c mi d pc ad0 hown hcx hbx hini hts hK hdec => zk_V (n := 10) hcx hts (zuk_10 hK).2.1 zcm_128 zct_128 hdec (by rw [hown]; exact zw_100) zw_102 zw_101 zw_2 rfl zpd_128 rfl
set_option maxRecDepth 20000 in
theorem lk_0_39 (D : va_G) (l : Launch) : zLk D l "FlagLayersLaw" (.invokevirtual 21, 130, 0, 13) := fun p e R s m args below meth c mi d pc ad0 hown hcx hbx hini hts hK hdec => zk_V (n := 10) hcx hts (zuk_10 hK).2.1 zcm_130 zct_130 hdec (by rw [hown]; exact zw_103) zw_105 zw_104 zw_2 rfl zpd_130 rfl
set_option maxRecDepth 20000 in
theorem lk_0_40 (D : va_G) (l : Launch) : zLk D l "FlagLayersLaw" (.invokevirtual 27, 132, 0, 13) := fun p e R s m args below meth c mi d pc ad0 hown hcx hbx hini hts hK hdec => zk_V (n := 10) hcx hts (zuk_10 hK).2.1 zcm_132 zct_132 hdec (by rw [hown]; exact zw_106) zw_108 zw_107 zw_2 rfl zpd_132 rfl
set_option maxRecDepth 20000 in
theorem lk_0_41 (D : va_G) (l : Launch) : zLk D l "FlagLayersLaw" (.invokevirtual 31, 137, 0, 13) := fun p e R s m args below meth c mi d pc ad0 hown hcx hbx hini hts hK hdec => zk_V (n := 10) hcx hts (zuk_10 hK).2.1 zcm_137 zct_137 hdec (by rw [hown]; exact zw_109) zw_111 zw_110 zw_2 rfl zpd_137 rfl
set_option maxRecDepth 20000 in
theorem lk_0_42 (D : va_G) (l : Launch) : zLk D l "FlagLayersLaw" (.invokevirtual 34, 142, 0, 13) := fun p e R s m args below meth c mi d pc ad0 hown hcx hbx hini hts hK hdec => zk_V (n := 10) hcx hts (zuk_10 hK).2.1 zcm_142 zct_142 hdec (by rw [hown]; exact zw_112) zw_114 zw_113 zw_2 rfl zpd_142 rfl
set_option maxRecDepth 20000 in
theorem lk_0_43 (D : va_G) (l : Launch) : zLk D l "FlagLayersLaw" (.invokevirtual 38, 144, 0, 13) := fun p e R s m args below meth c mi d pc ad0 hown hcx hbx hini hts hK hdec => zk_V (n := 10) hcx hts (zuk_10 hK).2.1 zcm_144 zct_144 hdec (by rw [hown]; exact zw_115) zw_117 zw_116 zw_2 rfl zpd_144 rfl
set_option maxRecDepth 20000 in
theorem lk_0_44 (D : va_G) (l : Launch) : zLk D l "FlagLayersLaw" (.invokevirtual 42, 147, 0, 13) := fun p e R s m args below meth c mi d pc ad0 hown hcx hbx hini hts hK hdec => zk_V (n := 10) hcx hts (zuk_10 hK).2.1 zcm_147 zct_147 hdec (by rw [hown]; exact zw_118) zw_120 zw_119 zw_2 rfl zpd_147 rfl
set_option maxRecDepth 20000 in
theorem lk_0_45 (D : va_G) (l : Launch) : zLk D l "FlagLayersLaw" (.invokevirtual 45, 172, 0, 13) := fun p e R s m args below meth c mi d pc ad0 hown hcx hbx hini hts hK hdec => zk_V (n := 10) hcx hts (zuk_10 hK).2.1 zcm_172 zct_172 hdec (by rw [hown]; exact zw_121) zw_123 zw_122 zw_2 rfl zpd_172 rfl
set_option maxRecDepth 20000 in
theorem lk_0_46 (D : va_G) (l : Launch) : zLk D l "FlagLayersLaw" (.invokevirtual 48, 174, 0, 13) := fun p e R s m args below meth c mi d pc ad0 hown hcx hbx hini hts hK hdec => zk_V (n := 10) hcx hts (zuk_10 hK).2.1 zcm_174 zct_174 hdec (by rw [hown]; exact zw_124) zw_126 zw_125 zw_2 rfl zpd_174 rfl
set_option maxRecDepth 20000 in
theorem lk_0_47 (D : va_G) (l : Launch) : zLk D l "FlagLayersLaw" (.invokevirtual 51, 176, 0, 13) := fun p e R s m args below meth c mi d pc ad0 hown hcx hbx hini hts hK hdec => zk_V (n := 10) hcx hts (zuk_10 hK).2.1 zcm_176 zct_176 hdec (by rw [hown]; exact zw_127) zw_129 zw_128 zw_2 rfl zpd_176 rfl
set_option maxRecDepth 20000 in
theorem lk_0_48 (D : va_G) (l : Launch) : zLk D l "FlagLayersLaw" (.invokevirtual 54, 178, 0, 13) := fun p e R s m args below meth c mi d pc ad0 hown hcx hbx hini hts hK hdec => zk_V (n := 10) hcx hts (zuk_10 hK).2.1 zcm_178 zct_178 hdec (by rw [hown]; exact zw_130) zw_132 zw_131 zw_2 rfl zpd_178 rfl
set_option maxRecDepth 20000 in
theorem lk_0_49 (D : va_G) (l : Launch) : zLk D l "FlagLayersLaw" (.invokevirtual 57, 180, 0, 13) := fun p e R s m args below meth c mi d pc ad0 hown hcx hbx hini hts hK hdec => zk_V (n := 10) hcx hts (zuk_10 hK).2.1 zcm_180 zct_180 hdec (by rw [hown]; exact zw_133) zw_135 zw_134 zw_2 rfl zpd_180 rfl
def zlk_0 : List zRow := [(.new 8, 10, 4, 0), (.invokespecial 60, 1, 2, 2), (.new 61, 11, 92, 0), (.invokespecial 63, 182, 2, 2), (.invokestatic 64, 124, 0, 0), (.invokevirtual 69, 184, 0, 14), (.invokevirtual 70, 183, 0, 14), (.invokestatic 73, 127, 0, 0), (.invokevirtual 76, 186, 0, 14), (.invokevirtual 77, 9, 0, 13), (.invokevirtual 80, 188, 0, 14), (.invokevirtual 81, 121, 0, 13), (.invokevirtual 84, 241, 0, 14), (.invokestatic 85, 129, 0, 0), (.invokevirtual 88, 242, 0, 14), (.invokestatic 89, 131, 0, 0), (.invokevirtual 92, 243, 0, 14), (.invokevirtual 93, 122, 0, 13), (.invokevirtual 96, 244, 0, 14), (.invokestatic 97, 136, 0, 0), (.invokevirtual 99, 245, 0, 14), (.invokestatic 100, 141, 0, 0), (.invokevirtual 103, 246, 0, 14), (.invokestatic 104, 143, 0, 0), (.invokevirtual 107, 247, 0, 14), (.invokestatic 108, 146, 0, 0), (.invokevirtual 110, 250, 0, 14), (.invokestatic 111, 171, 0, 0), (.invokevirtual 113, 266, 0, 14), (.invokestatic 114, 173, 0, 0), (.invokevirtual 116, 267, 0, 14), (.invokestatic 117, 175, 0, 0), (.invokevirtual 119, 268, 0, 14), (.invokestatic 120, 177, 0, 0), (.invokevirtual 122, 269, 0, 14), (.invokestatic 123, 179, 0, 0), (.invokevirtual 125, 270, 0, 14), (.invokevirtual 7, 125, 0, 13), (.invokevirtual 15, 128, 0, 13), (.invokevirtual 21, 130, 0, 13), (.invokevirtual 27, 132, 0, 13), (.invokevirtual 31, 137, 0, 13), (.invokevirtual 34, 142, 0, 13), (.invokevirtual 38, 144, 0, 13), (.invokevirtual 42, 147, 0, 13), (.invokevirtual 45, 172, 0, 13), (.invokevirtual 48, 174, 0, 13), (.invokevirtual 51, 176, 0, 13), (.invokevirtual 54, 178, 0, 13), (.invokevirtual 57, 180, 0, 13)]
set_option maxRecDepth 20000 in
theorem zlkA_0 (D : va_G) (l : Launch) : ∀ t ∈ zlk_0, zLk D l "FlagLayersLaw" t := zlkc (lk_0_0 D l) (zlkc (lk_0_1 D l) (zlkc (lk_0_2 D l) (zlkc (lk_0_3 D l) (zlkc (lk_0_4 D l) (zlkc (lk_0_5 D l) (zlkc (lk_0_6 D l) (zlkc (lk_0_7 D l) (zlkc (lk_0_8 D l) (zlkc (lk_0_9 D l) (zlkc (lk_0_10 D l) (zlkc (lk_0_11 D l) (zlkc (lk_0_12 D l) (zlkc (lk_0_13 D l) (zlkc (lk_0_14 D l) (zlkc (lk_0_15 D l) (zlkc (lk_0_16 D l) (zlkc (lk_0_17 D l) (zlkc (lk_0_18 D l) (zlkc (lk_0_19 D l) (zlkc (lk_0_20 D l) (zlkc (lk_0_21 D l) (zlkc (lk_0_22 D l) (zlkc (lk_0_23 D l) (zlkc (lk_0_24 D l) (zlkc (lk_0_25 D l) (zlkc (lk_0_26 D l) (zlkc (lk_0_27 D l) (zlkc (lk_0_28 D l) (zlkc (lk_0_29 D l) (zlkc (lk_0_30 D l) (zlkc (lk_0_31 D l) (zlkc (lk_0_32 D l) (zlkc (lk_0_33 D l) (zlkc (lk_0_34 D l) (zlkc (lk_0_35 D l) (zlkc (lk_0_36 D l) (zlkc (lk_0_37 D l) (zlkc (lk_0_38 D l) (zlkc (lk_0_39 D l) (zlkc (lk_0_40 D l) (zlkc (lk_0_41 D l) (zlkc (lk_0_42 D l) (zlkc (lk_0_43 D l) (zlkc (lk_0_44 D l) (zlkc (lk_0_45 D l) (zlkc (lk_0_46 D l) (zlkc (lk_0_47 D l) (zlkc (lk_0_48 D l) (zlkc (lk_0_49 D l) (zlkn))))))))))))))))))))))))))))))))))))))))))))))))))
set_option maxRecDepth 20000 in
theorem lk_1_0 (D : va_G) (l : Launch) : zLk D l "FlagLayers" (.invokespecial 1, 0, 1, 0) := fun p e R s m args below meth c mi d pc ad0 hown hcx hbx hini hts hK hdec => by
  show zOkObj s args (zown mi) (.invokespecial 1)
  rw [hown]
  exact ⟨hts _ zw_136, hts _ zw_137, hts _ (zT_mem (zt_1 44 rfl) rfl)⟩
set_option maxRecDepth 20000 in
theorem lk_1_1 (D : va_G) (l : Launch) : zLk D l "FlagLayers" (.new 7, 8, 2, 0) := fun p e R s m args below meth c mi d pc ad0 hown hcx hbx hini hts hK hdec => by
  show zOkNew D zclL s args (zown mi) 7 8 2 (zdf 8)
  rw [hown]
  exact zk_new hts rfl (zuk_8 hK) zin_8 (fun k => zty 8 k) ztk_8 zw_138 zw_139 zw_140 rfl zdk_8
set_option maxRecDepth 20000 in
theorem lk_1_2 (D : va_G) (l : Launch) : zLk D l "FlagLayers" (.invokespecial 9, 2, 2, 2) := fun p e R s m args below meth c mi d pc ad0 hown hcx hbx hini hts hK hdec => zk_IN (host := "FlagLayers") hcx hts zcm_2 zct_2 hdec (by rw [hown]; exact hK.2.2.2.2.1 _ (znw_mem (by decide +kernel) rfl)) zw_141 zw_140 rfl zpd_2 rfl
set_option maxRecDepth 20000 in
theorem lk_1_3 (D : va_G) (l : Launch) : zLk D l "FlagLayers" (.putfield 10, 10, 0, 0) := fun p e R s m args below meth c mi d pc ad0 hown hcx hbx hini hts hK hdec => by
  show zOkPut D s args m.cls meth.name (zown mi) 10 10 0 (zty 10 0)
  have hc := hcx.2.2.2.2.2.1
  rw [hown] at hc ⊢
  exact zk_putF hts (zuk_10 hK) zin_10 (by decide) zw_142 rfl hc (hbx.2.trans (hini rfl)) rfl (by decide +kernel)
set_option maxRecDepth 20000 in
theorem lk_1_4 (D : va_G) (l : Launch) : zLk D l "FlagLayers" (.new 16, 1, 7, 0) := fun p e R s m args below meth c mi d pc ad0 hown hcx hbx hini hts hK hdec => by
  show zOkNew D zclL s args (zown mi) 16 1 7 (zdf 1)
  rw [hown]
  exact zk_new hts rfl (zuk_1 hK) zin_1 (fun k => zty 1 k) ztk_1 zw_143 zw_144 zw_145 rfl zdk_1
set_option maxRecDepth 20000 in
theorem lk_1_5 (D : va_G) (l : Launch) : zLk D l "FlagLayers" (.invokespecial 18, 3, 2, 2) := fun p e R s m args below meth c mi d pc ad0 hown hcx hbx hini hts hK hdec => zk_I hcx hts zcm_3 zct_3 hdec (by rw [hown]; exact zw_146) zw_147 zw_145 rfl zpd_3 rfl
set_option maxRecDepth 20000 in
theorem lk_1_6 (D : va_G) (l : Launch) : zLk D l "FlagLayers" (.putfield 19, 10, 1, 0) := fun p e R s m args below meth c mi d pc ad0 hown hcx hbx hini hts hK hdec => by
  show zOkPut D s args m.cls meth.name (zown mi) 19 10 1 (zty 10 1)
  have hc := hcx.2.2.2.2.2.1
  rw [hown] at hc ⊢
  exact zk_putF hts (zuk_10 hK) zin_10 (by decide) zw_148 rfl hc (hbx.2.trans (hini rfl)) rfl (by decide +kernel)
set_option maxRecDepth 20000 in
theorem lk_1_7 (D : va_G) (l : Launch) : zLk D l "FlagLayers" (.new 23, 4, 12, 0) := fun p e R s m args below meth c mi d pc ad0 hown hcx hbx hini hts hK hdec => by
  show zOkNew D zclL s args (zown mi) 23 4 12 (zdf 4)
  rw [hown]
  exact zk_new hts rfl (zuk_4 hK) zin_4 (fun k => zty 4 k) ztk_4 zw_149 zw_150 zw_151 rfl zdk_4
set_option maxRecDepth 20000 in
theorem lk_1_8 (D : va_G) (l : Launch) : zLk D l "FlagLayers" (.invokespecial 25, 5, 2, 2) := fun p e R s m args below meth c mi d pc ad0 hown hcx hbx hini hts hK hdec => zk_IN (host := "FlagLayers") hcx hts zcm_5 zct_5 hdec (by rw [hown]; exact hK.2.2.2.2.1 _ (znw_mem (by decide +kernel) rfl)) zw_152 zw_151 rfl zpd_5 rfl
set_option maxRecDepth 20000 in
theorem lk_1_9 (D : va_G) (l : Launch) : zLk D l "FlagLayers" (.putfield 26, 10, 2, 0) := fun p e R s m args below meth c mi d pc ad0 hown hcx hbx hini hts hK hdec => by
  show zOkPut D s args m.cls meth.name (zown mi) 26 10 2 (zty 10 2)
  rw [hown]
  exact zk_put hts (zuk_10 hK) zin_10 (by decide) (zFl_p hts zw_153) (Or.inl rfl) rfl (by decide +kernel)
set_option maxRecDepth 20000 in
theorem lk_1_10 (D : va_G) (l : Launch) : zLk D l "FlagLayers" (.putfield 30, 10, 3, 0) := fun p e R s m args below meth c mi d pc ad0 hown hcx hbx hini hts hK hdec => by
  show zOkPut D s args m.cls meth.name (zown mi) 30 10 3 (zty 10 3)
  rw [hown]
  exact zk_put hts (zuk_10 hK) zin_10 (by decide) (zFl_p hts zw_154) (Or.inl rfl) rfl (by decide +kernel)
set_option maxRecDepth 20000 in
theorem lk_1_11 (D : va_G) (l : Launch) : zLk D l "FlagLayers" (.new 53, 5, 4, 0) := fun p e R s m args below meth c mi d pc ad0 hown hcx hbx hini hts hK hdec => by
  show zOkNew D zclL s args (zown mi) 53 5 4 (zdf 5)
  rw [hown]
  exact zk_new hts rfl (zuk_5 hK) zin_5 (fun k => zty 5 k) ztk_5 zw_155 zw_156 zw_157 rfl zdk_5
set_option maxRecDepth 20000 in
theorem lk_1_12 (D : va_G) (l : Launch) : zLk D l "FlagLayers" (.getfield 10, 10, 0, 0) := fun p e R s m args below meth c mi d pc ad0 hown hcx hbx hini hts hK hdec => by
  show zOkGet D s args (zown mi) 10 10 0
  rw [hown]
  exact zk_get hts (zuk_10 hK) zin_10 (by decide) (zFl_p hts zw_142) (Or.inl rfl)
set_option maxRecDepth 20000 in
theorem lk_1_13 (D : va_G) (l : Launch) : zLk D l "FlagLayers" (.invokevirtual 55, 10, 0, 11) := fun p e R s m args below meth c mi d pc ad0 hown hcx hbx hini hts hK hdec => zk_V (n := 8) hcx hts (zuk_8 hK).2.1 zcm_10 zct_10 hdec (by rw [hown]; exact zw_158) zw_160 zw_159 zw_140 rfl zpd_10 rfl
set_option maxRecDepth 20000 in
theorem lk_1_14 (D : va_G) (l : Launch) : zLk D l "FlagLayers" (.invokespecial 59, 64, 2, 2) := fun p e R s m args below meth c mi d pc ad0 hown hcx hbx hini hts hK hdec => zk_I hcx hts zcm_64 zct_64 hdec (by rw [hown]; exact zw_161) zw_162 zw_157 rfl zpd_64 rfl
set_option maxRecDepth 20000 in
theorem lk_1_15 (D : va_G) (l : Launch) : zLk D l "FlagLayers" (.invokevirtual 62, 65, 0, 8) := fun p e R s m args below meth c mi d pc ad0 hown hcx hbx hini hts hK hdec => zk_V (n := 5) hcx hts (zuk_5 hK).2.1 zcm_65 zct_65 hdec (by rw [hown]; exact zw_163) zw_165 zw_164 zw_157 rfl zpd_65 rfl
set_option maxRecDepth 20000 in
theorem lk_1_16 (D : va_G) (l : Launch) : zLk D l "FlagLayers" (.getfield 65, 5, 1, 0) := fun p e R s m args below meth c mi d pc ad0 hown hcx hbx hini hts hK hdec => by
  show zOkGet D s args (zown mi) 65 5 1
  rw [hown]
  exact zk_get hts (zuk_5 hK) zin_5 (by decide) (zFl_p hts zw_166) (Or.inl rfl)
set_option maxRecDepth 20000 in
theorem lk_1_17 (D : va_G) (l : Launch) : zLk D l "FlagLayers" (.getfield 66, 5, 2, 0) := fun p e R s m args below meth c mi d pc ad0 hown hcx hbx hini hts hK hdec => by
  show zOkGet D s args (zown mi) 66 5 2
  rw [hown]
  exact zk_get hts (zuk_5 hK) zin_5 (by decide) (zFl_p hts zw_167) (Or.inl rfl)
set_option maxRecDepth 20000 in
theorem lk_1_18 (D : va_G) (l : Launch) : zLk D l "FlagLayers" (.getfield 69, 5, 0, 0) := fun p e R s m args below meth c mi d pc ad0 hown hcx hbx hini hts hK hdec => by
  show zOkGet D s args (zown mi) 69 5 0
  rw [hown]
  exact zk_get hts (zuk_5 hK) zin_5 (by decide) (zFl_p hts zw_168) (Or.inl rfl)
set_option maxRecDepth 20000 in
theorem lk_1_19 (D : va_G) (l : Launch) : zLk D l "FlagLayers" (.getfield 19, 10, 1, 0) := fun p e R s m args below meth c mi d pc ad0 hown hcx hbx hini hts hK hdec => by
  show zOkGet D s args (zown mi) 19 10 1
  rw [hown]
  exact zk_get hts (zuk_10 hK) zin_10 (by decide) (zFl_p hts zw_148) (Or.inl rfl)
set_option maxRecDepth 20000 in
theorem lk_1_20 (D : va_G) (l : Launch) : zLk D l "FlagLayers" (.invokevirtual 70, 120, 0, 4) := fun p e R s m args below meth c mi d pc ad0 hown hcx hbx hini hts hK hdec => zk_V (n := 1) hcx hts (zuk_1 hK).2.1 zcm_120 zct_120 hdec (by rw [hown]; exact zw_169) zw_171 zw_170 zw_145 rfl zpd_120 rfl
set_option maxRecDepth 20000 in
theorem lk_1_21 (D : va_G) (l : Launch) : zLk D l "FlagLayers" (.getfield 26, 10, 2, 0) := fun p e R s m args below meth c mi d pc ad0 hown hcx hbx hini hts hK hdec => by
  show zOkGet D s args (zown mi) 26 10 2
  rw [hown]
  exact zk_get hts (zuk_10 hK) zin_10 (by decide) (zFl_p hts zw_153) (Or.inl rfl)
set_option maxRecDepth 20000 in
theorem lk_1_22 (D : va_G) (l : Launch) : zLk D l "FlagLayers" (.getfield 73, 4, 4, 0) := fun p e R s m args below meth c mi d pc ad0 hown hcx hbx hini hts hK hdec => by
  show zOkGet D s args (zown mi) 73 4 4
  rw [hown]
  exact zk_get hts (zuk_4 hK) zin_4 (by decide) (zFl_p hts zw_172) (Or.inl rfl)
set_option maxRecDepth 20000 in
theorem lk_1_23 (D : va_G) (l : Launch) : zLk D l "FlagLayers" (.invokevirtual 77, 68, 0, 17) := fun p e R s m args below meth c mi d pc ad0 hown hcx hbx hini hts hK hdec => zk_V (n := 14) hcx hts (zuk_14 hK).2.1 zcm_68 zct_68 hdec (by rw [hown]; exact zw_173) zw_175 zw_174 zw_176 rfl zpd_68 rfl
set_option maxRecDepth 20000 in
theorem lk_1_24 (D : va_G) (l : Launch) : zLk D l "FlagLayers" (.invokevirtual 172, 74, 0, 17) := fun p e R s m args below meth c mi d pc ad0 hown hcx hbx hini hts hK hdec => zk_V (n := 14) hcx hts (zuk_14 hK).2.1 zcm_74 zct_74 hdec (by rw [hown]; exact zw_177) zw_179 zw_178 zw_176 rfl zpd_74 rfl
set_option maxRecDepth 20000 in
theorem lk_1_25 (D : va_G) (l : Launch) : zLk D l "FlagLayers" (.checkcast 130, 9, 0, 0) := fun p e R s m args below meth c mi d pc ad0 hown hcx hbx hini hts hK hdec => by
  show (Cond.classLink (zown mi) 130 (zcnm 9)).before args s = true ∧ (0 = 0 ∨ zcnm 9 = "[" ++ (FieldType.object (zcnm 0)).toString)
  rw [hown]
  exact ⟨hts _ zw_180, Or.inl rfl⟩
set_option maxRecDepth 20000 in
theorem lk_1_26 (D : va_G) (l : Launch) : zLk D l "FlagLayers" (.getfield 129, 9, 3, 0) := fun p e R s m args below meth c mi d pc ad0 hown hcx hbx hini hts hK hdec => by
  show zOkGet D s args (zown mi) 129 9 3
  rw [hown]
  exact zk_get hts (zuk_9 hK) zin_9 (by decide) (zFl_p hts zw_181) (Or.inl rfl)
set_option maxRecDepth 20000 in
theorem lk_1_27 (D : va_G) (l : Launch) : zLk D l "FlagLayers" (.invokevirtual 245, 29, 0, 15) := fun p e R s m args below meth c mi d pc ad0 hown hcx hbx hini hts hK hdec => zk_V (n := 12) hcx hts (zuk_12 hK).2.1 zcm_29 zct_29 hdec (by rw [hown]; exact zw_182) zw_184 zw_183 zw_185 rfl zpd_29 rfl
set_option maxRecDepth 20000 in
theorem lk_1_28 (D : va_G) (l : Launch) : zLk D l "FlagLayers" (.getfield 30, 10, 3, 0) := fun p e R s m args below meth c mi d pc ad0 hown hcx hbx hini hts hK hdec => by
  show zOkGet D s args (zown mi) 30 10 3
  rw [hown]
  exact zk_get hts (zuk_10 hK) zin_10 (by decide) (zFl_p hts zw_154) (Or.inl rfl)
set_option maxRecDepth 20000 in
theorem lk_1_29 (D : va_G) (l : Launch) : zLk D l "FlagLayers" (.invokevirtual 145, 123, 0, 4) := fun p e R s m args below meth c mi d pc ad0 hown hcx hbx hini hts hK hdec => zk_V (n := 1) hcx hts (zuk_1 hK).2.1 zcm_123 zct_123 hdec (by rw [hown]; exact zw_186) zw_188 zw_187 zw_145 rfl zpd_123 rfl
set_option maxRecDepth 20000 in
theorem lk_1_30 (D : va_G) (l : Launch) : zLk D l "FlagLayers" (.getfield 34, 8, 1, 0) := fun p e R s m args below meth c mi d pc ad0 hown hcx hbx hini hts hK hdec => by
  show zOkGet D s args (zown mi) 34 8 1
  rw [hown]
  exact zk_get hts (zuk_8 hK) zin_8 (by decide) (zFl_n (host := "FlagLayers") (hK.2.2.2.2.1 _ (znw_mem (by decide +kernel) rfl))) (Or.inl rfl)
set_option maxRecDepth 20000 in
theorem lk_1_31 (D : va_G) (l : Launch) : zLk D l "FlagLayers" (.invokevirtual 44, 126, 0, 11) := fun p e R s m args below meth c mi d pc ad0 hown hcx hbx hini hts hK hdec => zk_V (n := 8) hcx hts (zuk_8 hK).2.1 zcm_126 zct_126 hdec (by rw [hown]; exact zw_189) zw_191 zw_190 zw_140 rfl zpd_126 rfl
set_option maxRecDepth 20000 in
theorem lk_1_32 (D : va_G) (l : Launch) : zLk D l "FlagLayers" (.putfield 34, 8, 1, 0) := fun p e R s m args below meth c mi d pc ad0 hown hcx hbx hini hts hK hdec => by
  show zOkPut D s args m.cls meth.name (zown mi) 34 8 1 (zty 8 1)
  rw [hown]
  exact zk_put hts (zuk_8 hK) zin_8 (by decide) (zFl_n (host := "FlagLayers") (hK.2.2.2.2.1 _ (znw_mem (by decide +kernel) rfl))) (Or.inl rfl) rfl (by decide +kernel)
set_option maxRecDepth 20000 in
theorem lk_1_33 (D : va_G) (l : Launch) : zLk D l "FlagLayers" (.getfield 83, 4, 3, 0) := fun p e R s m args below meth c mi d pc ad0 hown hcx hbx hini hts hK hdec => by
  show zOkGet D s args (zown mi) 83 4 3
  rw [hown]
  exact zk_get hts (zuk_4 hK) zin_4 (by decide) (zFl_p hts zw_192) (Or.inl rfl)
set_option maxRecDepth 20000 in
theorem lk_1_34 (D : va_G) (l : Launch) : zLk D l "FlagLayers" (.getfield 86, 4, 5, 0) := fun p e R s m args below meth c mi d pc ad0 hown hcx hbx hini hts hK hdec => by
  show zOkGet D s args (zown mi) 86 4 5
  rw [hown]
  exact zk_get hts (zuk_4 hK) zin_4 (by decide) (zFl_p hts zw_193) (Or.inl rfl)
set_option maxRecDepth 20000 in
theorem lk_1_35 (D : va_G) (l : Launch) : zLk D l "FlagLayers" (.getfield 89, 4, 6, 0) := fun p e R s m args below meth c mi d pc ad0 hown hcx hbx hini hts hK hdec => by
  show zOkGet D s args (zown mi) 89 4 6
  rw [hown]
  exact zk_get hts (zuk_4 hK) zin_4 (by decide) (zFl_p hts zw_194) (Or.inl rfl)
set_option maxRecDepth 20000 in
theorem lk_1_36 (D : va_G) (l : Launch) : zLk D l "FlagLayers" (.getfield 92, 4, 8, 0) := fun p e R s m args below meth c mi d pc ad0 hown hcx hbx hini hts hK hdec => by
  show zOkGet D s args (zown mi) 92 4 8
  rw [hown]
  exact zk_get hts (zuk_4 hK) zin_4 (by decide) (zFl_p hts zw_195) (Or.inl rfl)
set_option maxRecDepth 20000 in
theorem lk_1_37 (D : va_G) (l : Launch) : zLk D l "FlagLayers" (.getfield 95, 4, 7, 0) := fun p e R s m args below meth c mi d pc ad0 hown hcx hbx hini hts hK hdec => by
  show zOkGet D s args (zown mi) 95 4 7
  rw [hown]
  exact zk_get hts (zuk_4 hK) zin_4 (by decide) (zFl_p hts zw_196) (Or.inl rfl)
set_option maxRecDepth 20000 in
theorem lk_1_38 (D : va_G) (l : Launch) : zLk D l "FlagLayers" (.getfield 98, 4, 9, 0) := fun p e R s m args below meth c mi d pc ad0 hown hcx hbx hini hts hK hdec => by
  show zOkGet D s args (zown mi) 98 4 9
  rw [hown]
  exact zk_get hts (zuk_4 hK) zin_4 (by decide) (zFl_p hts zw_197) (Or.inl rfl)
set_option maxRecDepth 20000 in
theorem lk_1_39 (D : va_G) (l : Launch) : zLk D l "FlagLayers" (.getfield 101, 1, 2, 0) := fun p e R s m args below meth c mi d pc ad0 hown hcx hbx hini hts hK hdec => by
  show zOkGet D s args (zown mi) 101 1 2
  rw [hown]
  exact zk_get hts (zuk_1 hK) zin_1 (by decide) (zFl_n (host := "FlagLayers") (hK.2.2.2.2.1 _ (znw_mem (by decide +kernel) rfl))) (Or.inl rfl)
set_option maxRecDepth 20000 in
theorem lk_1_40 (D : va_G) (l : Launch) : zLk D l "FlagLayers" (.getstatic 109, 7, 0, 0) := fun p e R s m args below meth c mi d pc ad0 hown hcx hbx hini hts hK hdec => by
  intro v hv
  obtain rfl : (.ref 3 : Value) = v := Option.some.inj hv
  exact zk_st hcx hts (hK.2.1 5 _ rfl) (by rw [hown]; exact zw_198) rfl hdec
set_option maxRecDepth 20000 in
theorem lk_1_41 (D : va_G) (l : Launch) : zLk D l "FlagLayers" (.invokevirtual 115, 71, 0, 8) := fun p e R s m args below meth c mi d pc ad0 hown hcx hbx hini hts hK hdec => zk_V (n := 5) hcx hts (zuk_5 hK).2.1 zcm_71 zct_71 hdec (by rw [hown]; exact zw_199) zw_201 zw_200 zw_157 rfl zpd_71 rfl
set_option maxRecDepth 20000 in
theorem lk_1_42 (D : va_G) (l : Launch) : zLk D l "FlagLayers" (.getstatic 119, 18, 0, 0) := fun p e R s m args below meth c mi d pc ad0 hown hcx hbx hini hts hK hdec => by
  intro v hv
  obtain rfl : (.ref 13 : Value) = v := Option.some.inj hv
  exact zk_st hcx hts (hK.2.1 13 _ rfl) (by rw [hown]; exact zw_202) rfl hdec
set_option maxRecDepth 20000 in
theorem lk_1_43 (D : va_G) (l : Launch) : zLk D l "FlagLayers" (.invokevirtual 122, 84, 0, 8) := fun p e R s m args below meth c mi d pc ad0 hown hcx hbx hini hts hK hdec => zk_V (n := 5) hcx hts (zuk_5 hK).2.1 zcm_84 zct_84 hdec (by rw [hown]; exact zw_203) zw_205 zw_204 zw_157 rfl zpd_84 rfl
set_option maxRecDepth 20000 in
theorem lk_1_44 (D : va_G) (l : Launch) : zLk D l "FlagLayers" (.getstatic 126, 1, 0, 0) := fun p e R s m args below meth c mi d pc ad0 hown hcx hbx hini hts hK hdec => by
  intro v hv
  obtain rfl : (.ref 1 : Value) = v := Option.some.inj hv
  exact zk_st hcx hts (hK.2.1 1 _ rfl) (by rw [hown]; exact zw_206) rfl hdec
set_option maxRecDepth 20000 in
theorem lk_1_45 (D : va_G) (l : Launch) : zLk D l "FlagLayers" (.invokevirtual 135, 133, 0, 4) := fun p e R s m args below meth c mi d pc ad0 hown hcx hbx hini hts hK hdec => zk_V (n := 1) hcx hts (zuk_1 hK).2.1 zcm_133 zct_133 hdec (by rw [hown]; exact zw_207) zw_209 zw_208 zw_145 rfl zpd_133 rfl
set_option maxRecDepth 20000 in
theorem lk_1_46 (D : va_G) (l : Launch) : zLk D l "FlagLayers" (.invokevirtual 141, 135, 0, 4) := fun p e R s m args below meth c mi d pc ad0 hown hcx hbx hini hts hK hdec => zk_V (n := 1) hcx hts (zuk_1 hK).2.1 zcm_135 zct_135 hdec (by rw [hown]; exact zw_210) zw_212 zw_211 zw_145 rfl zpd_135 rfl
set_option maxRecDepth 20000 in
theorem lk_1_47 (D : va_G) (l : Launch) : zLk D l "FlagLayers" (.invokestatic 148, 138, 0, 0) := fun p e R s m args below meth c mi d pc ad0 hown hcx hbx hini hts hK hdec => zk_S hcx hts zcm_138 zct_138 hdec (by rw [hown]; exact zw_213) zw_214 zw_2 zpd_138 rfl
set_option maxRecDepth 20000 in
theorem lk_1_48 (D : va_G) (l : Launch) : zLk D l "FlagLayers" (.invokevirtual 154, 139, 0, 7) := fun p e R s m args below meth c mi d pc ad0 hown hcx hbx hini hts hK hdec => zk_V (n := 4) hcx hts (zuk_4 hK).2.1 zcm_139 zct_139 hdec (by rw [hown]; exact zw_215) zw_217 zw_216 zw_151 rfl zpd_139 rfl
set_option maxRecDepth 20000 in
theorem lk_1_49 (D : va_G) (l : Launch) : zLk D l "FlagLayers" (.invokevirtual 158, 140, 0, 11) := fun p e R s m args below meth c mi d pc ad0 hown hcx hbx hini hts hK hdec => zk_V (n := 8) hcx hts (zuk_8 hK).2.1 zcm_140 zct_140 hdec (by rw [hown]; exact zw_218) zw_220 zw_219 zw_140 rfl zpd_140 rfl
set_option maxRecDepth 20000 in
theorem lk_1_50 (D : va_G) (l : Launch) : zLk D l "FlagLayers" (.invokestatic 162, 73, 0, 0) := fun p e R s m args below meth c mi d pc ad0 hown hcx hbx hini hts hK hdec => zk_S hcx hts zcm_73 zct_73 hdec (by rw [hown]; exact zw_221) zw_222 zw_2 zpd_73 rfl
set_option maxRecDepth 20000 in
theorem lk_1_51 (D : va_G) (l : Launch) : zLk D l "FlagLayers" (.invokestatic 166, 13, 0, 0) := fun p e R s m args below meth c mi d pc ad0 hown hcx hbx hini hts hK hdec => zk_S hcx hts zcm_13 zct_13 hdec (by rw [hown]; exact zw_223) zw_224 zw_2 zpd_13 rfl
set_option maxRecDepth 20000 in
theorem lk_1_52 (D : va_G) (l : Launch) : zLk D l "FlagLayers" (.invokevirtual 176, 55, 0, 15) := fun p e R s m args below meth c mi d pc ad0 hown hcx hbx hini hts hK hdec => zk_V (n := 12) hcx hts (zuk_12 hK).2.1 zcm_55 zct_55 hdec (by rw [hown]; exact zw_225) zw_227 zw_226 zw_185 rfl zpd_55 rfl
set_option maxRecDepth 20000 in
theorem lk_1_53 (D : va_G) (l : Launch) : zLk D l "FlagLayers" (.invokevirtual 182, 59, 0, 15) := fun p e R s m args below meth c mi d pc ad0 hown hcx hbx hini hts hK hdec => zk_V (n := 12) hcx hts (zuk_12 hK).2.1 zcm_59 zct_59 hdec (by rw [hown]; exact zw_228) zw_230 zw_229 zw_185 rfl zpd_59 rfl
set_option maxRecDepth 20000 in
theorem lk_1_54 (D : va_G) (l : Launch) : zLk D l "FlagLayers" (.checkcast 188, 0, 0, 0) := fun p e R s m args below meth c mi d pc ad0 hown hcx hbx hini hts hK hdec => by
  show (Cond.classLink (zown mi) 188 (zcnm 0)).before args s = true ∧ (0 = 0 ∨ zcnm 0 = "[" ++ (FieldType.object (zcnm 0)).toString)
  rw [hown]
  exact ⟨hts _ zw_231, Or.inl rfl⟩
set_option maxRecDepth 20000 in
theorem lk_1_55 (D : va_G) (l : Launch) : zLk D l "FlagLayers" (.invokevirtual 190, 145, 0, 3) := fun p e R s m args below meth c mi d pc ad0 hown hcx hbx hini hts hK hdec => zk_V (n := 0) hcx hts (zuk_0 hK).2.1 zcm_145 zct_145 hdec (by rw [hown]; exact zw_232) zw_234 zw_233 zw_235 rfl zpd_145 rfl
set_option maxRecDepth 20000 in
theorem lk_1_56 (D : va_G) (l : Launch) : zLk D l "FlagLayers" (.getfield 193, 0, 1, 0) := fun p e R s m args below meth c mi d pc ad0 hown hcx hbx hini hts hK hdec => by
  show zOkGet D s args (zown mi) 193 0 1
  rw [hown]
  exact zk_get hts (zuk_0 hK) zin_0 (by decide) (zFl_p hts zw_236) (Or.inl rfl)
set_option maxRecDepth 20000 in
theorem lk_1_57 (D : va_G) (l : Launch) : zLk D l "FlagLayers" (.getfield 196, 0, 2, 0) := fun p e R s m args below meth c mi d pc ad0 hown hcx hbx hini hts hK hdec => by
  show zOkGet D s args (zown mi) 196 0 2
  rw [hown]
  exact zk_get hts (zuk_0 hK) zin_0 (by decide) (zFl_p hts zw_237) (Or.inl rfl)
set_option maxRecDepth 20000 in
theorem lk_1_58 (D : va_G) (l : Launch) : zLk D l "FlagLayers" (.getfield 199, 0, 9, 0) := fun p e R s m args below meth c mi d pc ad0 hown hcx hbx hini hts hK hdec => by
  show zOkGet D s args (zown mi) 199 0 9
  rw [hown]
  exact zk_get hts (zuk_0 hK) zin_0 (by decide) (zFl_p hts zw_238) (Or.inl rfl)
set_option maxRecDepth 20000 in
theorem lk_1_59 (D : va_G) (l : Launch) : zLk D l "FlagLayers" (.getfield 202, 0, 8, 0) := fun p e R s m args below meth c mi d pc ad0 hown hcx hbx hini hts hK hdec => by
  show zOkGet D s args (zown mi) 202 0 8
  rw [hown]
  exact zk_get hts (zuk_0 hK) zin_0 (by decide) (zFl_p hts zw_239) (Or.inl rfl)
set_option maxRecDepth 20000 in
theorem lk_1_60 (D : va_G) (l : Launch) : zLk D l "FlagLayers" (.getfield 205, 0, 7, 0) := fun p e R s m args below meth c mi d pc ad0 hown hcx hbx hini hts hK hdec => by
  show zOkGet D s args (zown mi) 205 0 7
  rw [hown]
  exact zk_get hts (zuk_0 hK) zin_0 (by decide) (zFl_p hts zw_240) (Or.inl rfl)
set_option maxRecDepth 20000 in
theorem lk_1_61 (D : va_G) (l : Launch) : zLk D l "FlagLayers" (.invokevirtual 212, 148, 0, 4) := fun p e R s m args below meth c mi d pc ad0 hown hcx hbx hini hts hK hdec => zk_V (n := 1) hcx hts (zuk_1 hK).2.1 zcm_148 zct_148 hdec (by rw [hown]; exact zw_241) zw_243 zw_242 zw_145 rfl zpd_148 rfl
set_option maxRecDepth 20000 in
theorem lk_1_62 (D : va_G) (l : Launch) : zLk D l "FlagLayers" (.getfield 216, 1, 5, 0) := fun p e R s m args below meth c mi d pc ad0 hown hcx hbx hini hts hK hdec => by
  show zOkGet D s args (zown mi) 216 1 5
  rw [hown]
  exact zk_get hts (zuk_1 hK) zin_1 (by decide) (zFl_n (host := "FlagLayers") (hK.2.2.2.2.1 _ (znw_mem (by decide +kernel) rfl))) (Or.inl rfl)
set_option maxRecDepth 20000 in
theorem lk_1_63 (D : va_G) (l : Launch) : zLk D l "FlagLayers" (.invokevirtual 224, 149, 0, 4) := fun p e R s m args below meth c mi d pc ad0 hown hcx hbx hini hts hK hdec => zk_V (n := 1) hcx hts (zuk_1 hK).2.1 zcm_149 zct_149 hdec (by rw [hown]; exact zw_244) zw_246 zw_245 zw_145 rfl zpd_149 rfl
set_option maxRecDepth 20000 in
theorem lk_1_64 (D : va_G) (l : Launch) : zLk D l "FlagLayers" (.invokevirtual 228, 151, 0, 4) := fun p e R s m args below meth c mi d pc ad0 hown hcx hbx hini hts hK hdec => zk_V (n := 1) hcx hts (zuk_1 hK).2.1 zcm_151 zct_151 hdec (by rw [hown]; exact zw_247) zw_249 zw_248 zw_145 rfl zpd_151 rfl
set_option maxRecDepth 20000 in
theorem lk_1_65 (D : va_G) (l : Launch) : zLk D l "FlagLayers" (.getfield 231, 4, 10, 0) := fun p e R s m args below meth c mi d pc ad0 hown hcx hbx hini hts hK hdec => by
  show zOkGet D s args (zown mi) 231 4 10
  rw [hown]
  exact zk_get hts (zuk_4 hK) zin_4 (by decide) (zFl_p hts zw_250) (Or.inl rfl)
set_option maxRecDepth 20000 in
theorem lk_1_66 (D : va_G) (l : Launch) : zLk D l "FlagLayers" (.getfield 234, 4, 11, 0) := fun p e R s m args below meth c mi d pc ad0 hown hcx hbx hini hts hK hdec => by
  show zOkGet D s args (zown mi) 234 4 11
  rw [hown]
  exact zk_get hts (zuk_4 hK) zin_4 (by decide) (zFl_p hts zw_251) (Or.inl rfl)
set_option maxRecDepth 20000 in
theorem lk_1_67 (D : va_G) (l : Launch) : zLk D l "FlagLayers" (.checkcast 239, 7, 0, 0) := fun p e R s m args below meth c mi d pc ad0 hown hcx hbx hini hts hK hdec => by
  show (Cond.classLink (zown mi) 239 (zcnm 7)).before args s = true ∧ (0 = 0 ∨ zcnm 7 = "[" ++ (FieldType.object (zcnm 0)).toString)
  rw [hown]
  exact ⟨hts _ zw_252, Or.inl rfl⟩
set_option maxRecDepth 20000 in
theorem lk_1_68 (D : va_G) (l : Launch) : zLk D l "FlagLayers" (.invokevirtual 241, 181, 0, 10) := fun p e R s m args below meth c mi d pc ad0 hown hcx hbx hini hts hK hdec => zk_V (n := 7) hcx hts (zuk_7 hK).2.1 zcm_181 zct_181 hdec (by rw [hown]; exact zw_253) zw_255 zw_254 zw_256 rfl zpd_181 rfl
def zlk_1 : List zRow := [(.invokespecial 1, 0, 1, 0), (.new 7, 8, 2, 0), (.invokespecial 9, 2, 2, 2), (.putfield 10, 10, 0, 0), (.new 16, 1, 7, 0), (.invokespecial 18, 3, 2, 2), (.putfield 19, 10, 1, 0), (.new 23, 4, 12, 0), (.invokespecial 25, 5, 2, 2), (.putfield 26, 10, 2, 0), (.putfield 30, 10, 3, 0), (.new 53, 5, 4, 0), (.getfield 10, 10, 0, 0), (.invokevirtual 55, 10, 0, 11), (.invokespecial 59, 64, 2, 2), (.invokevirtual 62, 65, 0, 8), (.getfield 65, 5, 1, 0), (.getfield 66, 5, 2, 0), (.getfield 69, 5, 0, 0), (.getfield 19, 10, 1, 0), (.invokevirtual 70, 120, 0, 4), (.getfield 26, 10, 2, 0), (.getfield 73, 4, 4, 0), (.invokevirtual 77, 68, 0, 17), (.invokevirtual 172, 74, 0, 17), (.checkcast 130, 9, 0, 0), (.getfield 129, 9, 3, 0), (.invokevirtual 245, 29, 0, 15), (.getfield 30, 10, 3, 0), (.invokevirtual 145, 123, 0, 4), (.getfield 34, 8, 1, 0), (.invokevirtual 44, 126, 0, 11), (.putfield 34, 8, 1, 0), (.getfield 83, 4, 3, 0), (.getfield 86, 4, 5, 0), (.getfield 89, 4, 6, 0), (.getfield 92, 4, 8, 0), (.getfield 95, 4, 7, 0), (.getfield 98, 4, 9, 0), (.getfield 101, 1, 2, 0), (.getstatic 109, 7, 0, 0), (.invokevirtual 115, 71, 0, 8), (.getstatic 119, 18, 0, 0), (.invokevirtual 122, 84, 0, 8), (.getstatic 126, 1, 0, 0), (.invokevirtual 135, 133, 0, 4), (.invokevirtual 141, 135, 0, 4), (.invokestatic 148, 138, 0, 0), (.invokevirtual 154, 139, 0, 7), (.invokevirtual 158, 140, 0, 11), (.invokestatic 162, 73, 0, 0), (.invokestatic 166, 13, 0, 0), (.invokevirtual 176, 55, 0, 15), (.invokevirtual 182, 59, 0, 15), (.checkcast 188, 0, 0, 0), (.invokevirtual 190, 145, 0, 3), (.getfield 193, 0, 1, 0), (.getfield 196, 0, 2, 0), (.getfield 199, 0, 9, 0), (.getfield 202, 0, 8, 0), (.getfield 205, 0, 7, 0), (.invokevirtual 212, 148, 0, 4), (.getfield 216, 1, 5, 0), (.invokevirtual 224, 149, 0, 4), (.invokevirtual 228, 151, 0, 4), (.getfield 231, 4, 10, 0), (.getfield 234, 4, 11, 0), (.checkcast 239, 7, 0, 0), (.invokevirtual 241, 181, 0, 10)]
set_option maxRecDepth 20000 in
theorem zlkA_1 (D : va_G) (l : Launch) : ∀ t ∈ zlk_1, zLk D l "FlagLayers" t := zlkc (lk_1_0 D l) (zlkc (lk_1_1 D l) (zlkc (lk_1_2 D l) (zlkc (lk_1_3 D l) (zlkc (lk_1_4 D l) (zlkc (lk_1_5 D l) (zlkc (lk_1_6 D l) (zlkc (lk_1_7 D l) (zlkc (lk_1_8 D l) (zlkc (lk_1_9 D l) (zlkc (lk_1_10 D l) (zlkc (lk_1_11 D l) (zlkc (lk_1_12 D l) (zlkc (lk_1_13 D l) (zlkc (lk_1_14 D l) (zlkc (lk_1_15 D l) (zlkc (lk_1_16 D l) (zlkc (lk_1_17 D l) (zlkc (lk_1_18 D l) (zlkc (lk_1_19 D l) (zlkc (lk_1_20 D l) (zlkc (lk_1_21 D l) (zlkc (lk_1_22 D l) (zlkc (lk_1_23 D l) (zlkc (lk_1_24 D l) (zlkc (lk_1_25 D l) (zlkc (lk_1_26 D l) (zlkc (lk_1_27 D l) (zlkc (lk_1_28 D l) (zlkc (lk_1_29 D l) (zlkc (lk_1_30 D l) (zlkc (lk_1_31 D l) (zlkc (lk_1_32 D l) (zlkc (lk_1_33 D l) (zlkc (lk_1_34 D l) (zlkc (lk_1_35 D l) (zlkc (lk_1_36 D l) (zlkc (lk_1_37 D l) (zlkc (lk_1_38 D l) (zlkc (lk_1_39 D l) (zlkc (lk_1_40 D l) (zlkc (lk_1_41 D l) (zlkc (lk_1_42 D l) (zlkc (lk_1_43 D l) (zlkc (lk_1_44 D l) (zlkc (lk_1_45 D l) (zlkc (lk_1_46 D l) (zlkc (lk_1_47 D l) (zlkc (lk_1_48 D l) (zlkc (lk_1_49 D l) (zlkc (lk_1_50 D l) (zlkc (lk_1_51 D l) (zlkc (lk_1_52 D l) (zlkc (lk_1_53 D l) (zlkc (lk_1_54 D l) (zlkc (lk_1_55 D l) (zlkc (lk_1_56 D l) (zlkc (lk_1_57 D l) (zlkc (lk_1_58 D l) (zlkc (lk_1_59 D l) (zlkc (lk_1_60 D l) (zlkc (lk_1_61 D l) (zlkc (lk_1_62 D l) (zlkc (lk_1_63 D l) (zlkc (lk_1_64 D l) (zlkc (lk_1_65 D l) (zlkc (lk_1_66 D l) (zlkc (lk_1_67 D l) (zlkc (lk_1_68 D l) (zlkn)))))))))))))))))))))))))))))))))))))))))))))))))))))))))))))))))))))
set_option maxRecDepth 20000 in
theorem lk_2_0 (D : va_G) (l : Launch) : zLk D l "FlagLayers$Tape" (.invokespecial 3, 0, 1, 0) := fun p e R s m args below meth c mi d pc ad0 hown hcx hbx hini hts hK hdec => by
  show zOkObj s args (zown mi) (.invokespecial 3)
  rw [hown]
  exact ⟨hts _ zw_257, hts _ zw_137, hts _ (zT_mem (zt_1 44 rfl) rfl)⟩
set_option maxRecDepth 20000 in
theorem lk_2_1 (D : va_G) (l : Launch) : zLk D l "FlagLayers$Tape" (.putfield 9, 8, 0, 0) := fun p e R s m args below meth c mi d pc ad0 hown hcx hbx hini hts hK hdec => by
  show zOkPut D s args m.cls meth.name (zown mi) 9 8 0 (zty 8 0)
  have hc := hcx.2.2.2.2.2.1
  rw [hown] at hc ⊢
  exact zk_putF hts (zuk_8 hK) zin_8 (by decide) zw_258 rfl hc (hbx.2.trans (hini rfl)) rfl (by decide +kernel)
set_option maxRecDepth 20000 in
theorem lk_2_2 (D : va_G) (l : Launch) : zLk D l "FlagLayers$Tape" (.putfield 15, 8, 1, 0) := fun p e R s m args below meth c mi d pc ad0 hown hcx hbx hini hts hK hdec => by
  show zOkPut D s args m.cls meth.name (zown mi) 15 8 1 (zty 8 1)
  rw [hown]
  exact zk_put hts (zuk_8 hK) zin_8 (by decide) (zFl_p hts zw_259) (Or.inl rfl) rfl (by decide +kernel)
set_option maxRecDepth 20000 in
theorem lk_2_3 (D : va_G) (l : Launch) : zLk D l "FlagLayers$Tape" (.invokevirtual 23, 11, 0, 11) := fun p e R s m args below meth c mi d pc ad0 hown hcx hbx hini hts hK hdec => zk_V (n := 8) hcx hts (zuk_8 hK).2.1 zcm_11 zct_11 hdec (by rw [hown]; exact zw_260) zw_261 zs_0 zw_140 rfl zpd_11 rfl
set_option maxRecDepth 20000 in
theorem lk_2_4 (D : va_G) (l : Launch) : zLk D l "FlagLayers$Tape" (.getfield 27, 9, 0, 0) := fun p e R s m args below meth c mi d pc ad0 hown hcx hbx hini hts hK hdec => by
  show zOkGet D s args (zown mi) 27 9 0
  rw [hown]
  exact zk_get hts (zuk_9 hK) zin_9 (by decide) (zFl_p hts zw_262) (Or.inl rfl)
set_option maxRecDepth 20000 in
theorem lk_2_5 (D : va_G) (l : Launch) : zLk D l "FlagLayers$Tape" (.getstatic 33, 1, 0, 0) := fun p e R s m args below meth c mi d pc ad0 hown hcx hbx hini hts hK hdec => by
  intro v hv
  obtain rfl : (.ref 1 : Value) = v := Option.some.inj hv
  exact zk_st hcx hts (hK.2.1 1 _ rfl) (by rw [hown]; exact zw_263) rfl hdec
set_option maxRecDepth 20000 in
theorem lk_2_6 (D : va_G) (l : Launch) : zLk D l "FlagLayers$Tape" (.getstatic 38, 2, 0, 0) := fun p e R s m args below meth c mi d pc ad0 hown hcx hbx hini hts hK hdec => by
  intro v hv
  obtain rfl : (.ref 2 : Value) = v := Option.some.inj hv
  exact zk_st hcx hts (hK.2.1 2 _ rfl) (by rw [hown]; exact zw_264) rfl hdec
set_option maxRecDepth 20000 in
theorem lk_2_7 (D : va_G) (l : Launch) : zLk D l "FlagLayers$Tape" (.getfield 41, 9, 2, 0) := fun p e R s m args below meth c mi d pc ad0 hown hcx hbx hini hts hK hdec => by
  show zOkGet D s args (zown mi) 41 9 2
  rw [hown]
  exact zk_get hts (zuk_9 hK) zin_9 (by decide) (zFl_p hts zw_265) (Or.inl rfl)
set_option maxRecDepth 20000 in
theorem lk_2_8 (D : va_G) (l : Launch) : zLk D l "FlagLayers$Tape" (.putfield 44, 9, 5, 0) := fun p e R s m args below meth c mi d pc ad0 hown hcx hbx hini hts hK hdec => by
  show zOkPut D s args m.cls meth.name (zown mi) 44 9 5 (zty 9 5)
  rw [hown]
  exact zk_put hts (zuk_9 hK) zin_9 (by decide) (zFl_p hts zw_266) (Or.inl rfl) rfl (by decide +kernel)
set_option maxRecDepth 20000 in
theorem lk_2_9 (D : va_G) (l : Launch) : zLk D l "FlagLayers$Tape" (.getfield 15, 8, 1, 0) := fun p e R s m args below meth c mi d pc ad0 hown hcx hbx hini hts hK hdec => by
  show zOkGet D s args (zown mi) 15 8 1
  rw [hown]
  exact zk_get hts (zuk_8 hK) zin_8 (by decide) (zFl_p hts zw_259) (Or.inl rfl)
set_option maxRecDepth 20000 in
theorem lk_2_10 (D : va_G) (l : Launch) : zLk D l "FlagLayers$Tape" (.invokevirtual 48, 12, 0, 11) := fun p e R s m args below meth c mi d pc ad0 hown hcx hbx hini hts hK hdec => zk_V (n := 8) hcx hts (zuk_8 hK).2.1 zcm_12 zct_12 hdec (by rw [hown]; exact zw_267) zw_268 zs_1 zw_140 rfl zpd_12 rfl
set_option maxRecDepth 20000 in
theorem lk_2_11 (D : va_G) (l : Launch) : zLk D l "FlagLayers$Tape" (.invokestatic 52, 14, 0, 0) := fun p e R s m args below meth c mi d pc ad0 hown hcx hbx hini hts hK hdec => zk_S hcx hts zcm_14 zct_14 hdec (by rw [hown]; exact zw_269) zw_270 zw_140 zpd_14 rfl
set_option maxRecDepth 20000 in
theorem lk_2_12 (D : va_G) (l : Launch) : zLk D l "FlagLayers$Tape" (.new 28, 9, 6, 0) := fun p e R s m args below meth c mi d pc ad0 hown hcx hbx hini hts hK hdec => by
  show zOkNew D zclL s args (zown mi) 28 9 6 (zdf 9)
  rw [hown]
  exact zk_new hts rfl (zuk_9 hK) zin_9 (fun k => zty 9 k) ztk_9 zw_271 zw_272 zw_273 rfl zdk_9
set_option maxRecDepth 20000 in
theorem lk_2_13 (D : va_G) (l : Launch) : zLk D l "FlagLayers$Tape" (.ldc 56, 3, 0, 0) := fun p e R s m args below meth c mi d pc ad0 hown hcx hbx hini hts hK hdec => by
  intro v hv
  obtain rfl : (.ref 49 : Value) = v := Option.some.inj hv
  exact zk_str (tx := "") hcx (by rw [hown]; exact hK.2.2.1 0 _ rfl) hdec
set_option maxRecDepth 20000 in
theorem lk_2_14 (D : va_G) (l : Launch) : zLk D l "FlagLayers$Tape" (.invokespecial 58, 15, 2, 2) := fun p e R s m args below meth c mi d pc ad0 hown hcx hbx hini hts hK hdec => zk_I hcx hts zcm_15 zct_15 hdec (by rw [hown]; exact zw_274) zw_275 zw_273 rfl zpd_15 rfl
set_option maxRecDepth 20000 in
theorem lk_2_15 (D : va_G) (l : Launch) : zLk D l "FlagLayers$Tape" (.invokestatic 61, 16, 0, 0) := fun p e R s m args below meth c mi d pc ad0 hown hcx hbx hini hts hK hdec => zk_S hcx hts zcm_16 zct_16 hdec (by rw [hown]; exact zw_276) zw_277 zw_140 zpd_16 rfl
set_option maxRecDepth 20000 in
theorem lk_2_16 (D : va_G) (l : Launch) : zLk D l "FlagLayers$Tape" (.invokevirtual 64, 17, 0, 11) := fun p e R s m args below meth c mi d pc ad0 hown hcx hbx hini hts hK hdec => zk_V (n := 8) hcx hts (zuk_8 hK).2.1 zcm_17 zct_17 hdec (by rw [hown]; exact zw_278) zw_279 zs_2 zw_140 rfl zpd_17 rfl
set_option maxRecDepth 20000 in
theorem lk_2_17 (D : va_G) (l : Launch) : zLk D l "FlagLayers$Tape" (.invokevirtual 67, 31, 0, 11) := fun p e R s m args below meth c mi d pc ad0 hown hcx hbx hini hts hK hdec => zk_V (n := 8) hcx hts (zuk_8 hK).2.1 zcm_31 zct_31 hdec (by rw [hown]; exact zw_280) zw_281 zs_3 zw_140 rfl zpd_31 rfl
set_option maxRecDepth 20000 in
theorem lk_2_18 (D : va_G) (l : Launch) : zLk D l "FlagLayers$Tape" (.invokestatic 70, 19, 0, 0) := fun p e R s m args below meth c mi d pc ad0 hown hcx hbx hini hts hK hdec => zk_S hcx hts zcm_19 zct_19 hdec (by rw [hown]; exact zw_282) zw_283 zw_140 zpd_19 rfl
set_option maxRecDepth 20000 in
theorem lk_2_19 (D : va_G) (l : Launch) : zLk D l "FlagLayers$Tape" (.invokevirtual 73, 33, 0, 11) := fun p e R s m args below meth c mi d pc ad0 hown hcx hbx hini hts hK hdec => zk_V (n := 8) hcx hts (zuk_8 hK).2.1 zcm_33 zct_33 hdec (by rw [hown]; exact zw_284) zw_285 zs_4 zw_140 rfl zpd_33 rfl
set_option maxRecDepth 20000 in
theorem lk_2_20 (D : va_G) (l : Launch) : zLk D l "FlagLayers$Tape" (.invokevirtual 76, 57, 0, 11) := fun p e R s m args below meth c mi d pc ad0 hown hcx hbx hini hts hK hdec => zk_V (n := 8) hcx hts (zuk_8 hK).2.1 zcm_57 zct_57 hdec (by rw [hown]; exact zw_286) zw_287 zs_5 zw_140 rfl zpd_57 rfl
set_option maxRecDepth 20000 in
theorem lk_2_21 (D : va_G) (l : Launch) : zLk D l "FlagLayers$Tape" (.invokestatic 116, 13, 2, 0) := fun p e R s m args below meth c mi d pc ad0 hown hcx hbx hini hts hK hdec => zk_SN (host := "FlagLayers") hcx hts zcm_13 zct_13 hdec (by rw [hown]; exact hK.2.2.2.2.1 _ (znw_mem (by decide +kernel) rfl)) zw_224 zw_2 zpd_13 rfl
set_option maxRecDepth 20000 in
theorem lk_2_22 (D : va_G) (l : Launch) : zLk D l "FlagLayers$Tape" (.getfield 9, 8, 0, 0) := fun p e R s m args below meth c mi d pc ad0 hown hcx hbx hini hts hK hdec => by
  show zOkGet D s args (zown mi) 9 8 0
  rw [hown]
  exact zk_get hts (zuk_8 hK) zin_8 (by decide) (zFl_p hts zw_258) (Or.inl rfl)
set_option maxRecDepth 20000 in
theorem lk_2_23 (D : va_G) (l : Launch) : zLk D l "FlagLayers$Tape" (.invokestatic 79, 18, 0, 0) := fun p e R s m args below meth c mi d pc ad0 hown hcx hbx hini hts hK hdec => zk_S hcx hts zcm_18 zct_18 hdec (by rw [hown]; exact zw_288) zw_289 zw_140 zpd_18 rfl
set_option maxRecDepth 20000 in
theorem lk_2_24 (D : va_G) (l : Launch) : zLk D l "FlagLayers$Tape" (.invokevirtual 82, 20, 0, 11) := fun p e R s m args below meth c mi d pc ad0 hown hcx hbx hini hts hK hdec => zk_V (n := 8) hcx hts (zuk_8 hK).2.1 zcm_20 zct_20 hdec (by rw [hown]; exact zw_290) zw_291 zs_6 zw_140 rfl zpd_20 rfl
set_option maxRecDepth 20000 in
theorem lk_2_25 (D : va_G) (l : Launch) : zLk D l "FlagLayers$Tape" (.invokevirtual 19, 21, 0, 11) := fun p e R s m args below meth c mi d pc ad0 hown hcx hbx hini hts hK hdec => zk_V (n := 8) hcx hts (zuk_8 hK).2.1 zcm_21 zct_21 hdec (by rw [hown]; exact zw_292) zw_293 zs_7 zw_140 rfl zpd_21 rfl
set_option maxRecDepth 20000 in
theorem lk_2_26 (D : va_G) (l : Launch) : zLk D l "FlagLayers$Tape" (.invokestatic 85, 28, 0, 0) := fun p e R s m args below meth c mi d pc ad0 hown hcx hbx hini hts hK hdec => zk_S hcx hts zcm_28 zct_28 hdec (by rw [hown]; exact zw_294) zw_295 zw_296 zpd_28 rfl
set_option maxRecDepth 20000 in
theorem lk_2_27 (D : va_G) (l : Launch) : zLk D l "FlagLayers$Tape" (.invokestatic 120, 22, 0, 0) := fun p e R s m args below meth c mi d pc ad0 hown hcx hbx hini hts hK hdec => zk_S hcx hts zcm_22 zct_22 hdec (by rw [hown]; exact zw_297) zw_298 zw_299 zpd_22 rfl
set_option maxRecDepth 20000 in
theorem lk_2_28 (D : va_G) (l : Launch) : zLk D l "FlagLayers$Tape" (.new 126, 12, 4, 0) := fun p e R s m args below meth c mi d pc ad0 hown hcx hbx hini hts hK hdec => by
  show zOkNew D zclL s args (zown mi) 126 12 4 (zdf 12)
  rw [hown]
  exact zk_new hts rfl (zuk_12 hK) zin_12 (fun k => zty 12 k) ztk_12 zw_300 zw_301 zw_185 rfl zdk_12
set_option maxRecDepth 20000 in
theorem lk_2_29 (D : va_G) (l : Launch) : zLk D l "FlagLayers$Tape" (.invokespecial 128, 23, 2, 2) := fun p e R s m args below meth c mi d pc ad0 hown hcx hbx hini hts hK hdec => zk_I hcx hts zcm_23 zct_23 hdec (by rw [hown]; exact zw_302) zw_303 zw_185 rfl zpd_23 rfl
set_option maxRecDepth 20000 in
theorem lk_2_30 (D : va_G) (l : Launch) : zLk D l "FlagLayers$Tape" (.invokestatic 89, 32, 0, 0) := fun p e R s m args below meth c mi d pc ad0 hown hcx hbx hini hts hK hdec => zk_S hcx hts zcm_32 zct_32 hdec (by rw [hown]; exact zw_304) zw_305 zw_140 zpd_32 rfl
set_option maxRecDepth 20000 in
theorem lk_2_31 (D : va_G) (l : Launch) : zLk D l "FlagLayers$Tape" (.getstatic 92, 8, 0, 0) := fun p e R s m args below meth c mi d pc ad0 hown hcx hbx hini hts hK hdec => by
  intro v hv
  obtain rfl : (.ref 5 : Value) = v := Option.some.inj hv
  exact zk_st hcx hts (hK.2.1 6 _ rfl) (by rw [hown]; exact zw_306) rfl hdec
set_option maxRecDepth 20000 in
theorem lk_2_32 (D : va_G) (l : Launch) : zLk D l "FlagLayers$Tape" (.new 95, 13, 4, 0) := fun p e R s m args below meth c mi d pc ad0 hown hcx hbx hini hts hK hdec => by
  show zOkNew D zclL s args (zown mi) 95 13 4 (zdf 13)
  rw [hown]
  exact zk_new hts rfl (zuk_13 hK) zin_13 (fun k => zty 13 k) ztk_13 zw_307 zw_308 zw_309 rfl zdk_13
set_option maxRecDepth 20000 in
theorem lk_2_33 (D : va_G) (l : Launch) : zLk D l "FlagLayers$Tape" (.invokespecial 97, 34, 2, 2) := fun p e R s m args below meth c mi d pc ad0 hown hcx hbx hini hts hK hdec => zk_I hcx hts zcm_34 zct_34 hdec (by rw [hown]; exact zw_310) zw_311 zw_309 rfl zpd_34 rfl
set_option maxRecDepth 20000 in
theorem lk_2_34 (D : va_G) (l : Launch) : zLk D l "FlagLayers$Tape" (.invokevirtual 98, 36, 0, 16) := fun p e R s m args below meth c mi d pc ad0 hown hcx hbx hini hts hK hdec => zk_V (n := 13) hcx hts (zuk_13 hK).2.1 zcm_36 zct_36 hdec (by rw [hown]; exact zw_312) zw_314 zw_313 zw_309 rfl zpd_36 rfl
set_option maxRecDepth 20000 in
theorem lk_2_35 (D : va_G) (l : Launch) : zLk D l "FlagLayers$Tape" (.invokevirtual 102, 46, 0, 16) := fun p e R s m args below meth c mi d pc ad0 hown hcx hbx hini hts hK hdec => zk_V (n := 13) hcx hts (zuk_13 hK).2.1 zcm_46 zct_46 hdec (by rw [hown]; exact zw_315) zw_317 zw_316 zw_309 rfl zpd_46 rfl
set_option maxRecDepth 20000 in
theorem lk_2_36 (D : va_G) (l : Launch) : zLk D l "FlagLayers$Tape" (.getstatic 106, 9, 0, 0) := fun p e R s m args below meth c mi d pc ad0 hown hcx hbx hini hts hK hdec => by
  intro v hv
  obtain rfl : (.ref 4 : Value) = v := Option.some.inj hv
  exact zk_st hcx hts (hK.2.1 7 _ rfl) (by rw [hown]; exact zw_318) rfl hdec
set_option maxRecDepth 20000 in
theorem lk_2_37 (D : va_G) (l : Launch) : zLk D l "FlagLayers$Tape" (.getstatic 109, 15, 0, 0) := fun p e R s m args below meth c mi d pc ad0 hown hcx hbx hini hts hK hdec => by
  intro v hv
  obtain rfl : (.ref 14 : Value) = v := Option.some.inj hv
  exact zk_st hcx hts (hK.2.1 10 _ rfl) (by rw [hown]; exact zw_319) rfl hdec
set_option maxRecDepth 20000 in
theorem lk_2_38 (D : va_G) (l : Launch) : zLk D l "FlagLayers$Tape" (.invokestatic 112, 58, 0, 0) := fun p e R s m args below meth c mi d pc ad0 hown hcx hbx hini hts hK hdec => zk_S hcx hts zcm_58 zct_58 hdec (by rw [hown]; exact zw_320) zw_321 zw_296 zpd_58 rfl
def zlk_2 : List zRow := [(.invokespecial 3, 0, 1, 0), (.putfield 9, 8, 0, 0), (.putfield 15, 8, 1, 0), (.invokevirtual 23, 11, 0, 11), (.getfield 27, 9, 0, 0), (.getstatic 33, 1, 0, 0), (.getstatic 38, 2, 0, 0), (.getfield 41, 9, 2, 0), (.putfield 44, 9, 5, 0), (.getfield 15, 8, 1, 0), (.invokevirtual 48, 12, 0, 11), (.invokestatic 52, 14, 0, 0), (.new 28, 9, 6, 0), (.ldc 56, 3, 0, 0), (.invokespecial 58, 15, 2, 2), (.invokestatic 61, 16, 0, 0), (.invokevirtual 64, 17, 0, 11), (.invokevirtual 67, 31, 0, 11), (.invokestatic 70, 19, 0, 0), (.invokevirtual 73, 33, 0, 11), (.invokevirtual 76, 57, 0, 11), (.invokestatic 116, 13, 2, 0), (.getfield 9, 8, 0, 0), (.invokestatic 79, 18, 0, 0), (.invokevirtual 82, 20, 0, 11), (.invokevirtual 19, 21, 0, 11), (.invokestatic 85, 28, 0, 0), (.invokestatic 120, 22, 0, 0), (.new 126, 12, 4, 0), (.invokespecial 128, 23, 2, 2), (.invokestatic 89, 32, 0, 0), (.getstatic 92, 8, 0, 0), (.new 95, 13, 4, 0), (.invokespecial 97, 34, 2, 2), (.invokevirtual 98, 36, 0, 16), (.invokevirtual 102, 46, 0, 16), (.getstatic 106, 9, 0, 0), (.getstatic 109, 15, 0, 0), (.invokestatic 112, 58, 0, 0)]
set_option maxRecDepth 20000 in
theorem zlkA_2 (D : va_G) (l : Launch) : ∀ t ∈ zlk_2, zLk D l "FlagLayers$Tape" t := zlkc (lk_2_0 D l) (zlkc (lk_2_1 D l) (zlkc (lk_2_2 D l) (zlkc (lk_2_3 D l) (zlkc (lk_2_4 D l) (zlkc (lk_2_5 D l) (zlkc (lk_2_6 D l) (zlkc (lk_2_7 D l) (zlkc (lk_2_8 D l) (zlkc (lk_2_9 D l) (zlkc (lk_2_10 D l) (zlkc (lk_2_11 D l) (zlkc (lk_2_12 D l) (zlkc (lk_2_13 D l) (zlkc (lk_2_14 D l) (zlkc (lk_2_15 D l) (zlkc (lk_2_16 D l) (zlkc (lk_2_17 D l) (zlkc (lk_2_18 D l) (zlkc (lk_2_19 D l) (zlkc (lk_2_20 D l) (zlkc (lk_2_21 D l) (zlkc (lk_2_22 D l) (zlkc (lk_2_23 D l) (zlkc (lk_2_24 D l) (zlkc (lk_2_25 D l) (zlkc (lk_2_26 D l) (zlkc (lk_2_27 D l) (zlkc (lk_2_28 D l) (zlkc (lk_2_29 D l) (zlkc (lk_2_30 D l) (zlkc (lk_2_31 D l) (zlkc (lk_2_32 D l) (zlkc (lk_2_33 D l) (zlkc (lk_2_34 D l) (zlkc (lk_2_35 D l) (zlkc (lk_2_36 D l) (zlkc (lk_2_37 D l) (zlkc (lk_2_38 D l) (zlkn)))))))))))))))))))))))))))))))))))))))

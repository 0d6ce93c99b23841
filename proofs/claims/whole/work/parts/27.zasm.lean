/-! THE ASSEMBLY, second text: the rows' facts, the methods' contracts -/
section ZASN
def zAll2 {α : Type} (P : Nat → α → Prop) : Nat → List α → Prop
  | _, [] => True
  | i, a :: l => P i a ∧ zAll2 P (i + 1) l
theorem zAll2_get {α : Type} {P : Nat → α → Prop} : ∀ {l : List α} {i k : Nat} {a : α}, zAll2 P i l → zg l k = some a → P (i + k) a
  | [], i, k, a, h, hk => by cases hk
  | b :: l, i, 0, a, h, hk => by cases hk; exact h.1
  | b :: l, i, k + 1, a, h, hk => by
    have := zAll2_get (l := l) (i := i + 1) (k := k) h.2 hk
    rw [show i + (k + 1) = i + 1 + k by omega]
    exact this
set_option maxRecDepth 100000 in
theorem zok_list : zAll2 zPk 0 zcodes := ⟨zok_0, zok_1, zok_2, zok_3, zok_4, zok_5, zok_6, zok_7, zok_8, zok_9, zok_10, zok_11, zok_12, zok_13, zok_14, zok_15, zok_16, zok_17, zok_18, zok_19, zok_20, zok_21, zok_22, zok_23, zok_24, zok_25, zok_26, zok_27, zok_28, zok_29, zok_30, zok_31, zok_32, zok_33, zok_34, zok_35, zok_36, zok_37, zok_38, zok_39, zok_40, zok_41, zok_42, zok_43, zok_44, zok_45, zok_46, zok_47, zok_48, zok_49, zok_50, zok_51, zok_52, zok_53, zok_54, zok_55, zok_56, zok_57, zok_58, zok_59, zok_60, zok_61, zok_62, zok_63, zok_64, zok_65, zok_66, zok_67, zok_68, zok_69, zok_70, zok_71, zok_72, zok_73, zok_74, zok_75, zok_76, zok_77, zok_78, zok_79, zok_80, zok_81, zok_82, zok_83, zok_84, zok_85, zok_86, zok_87, zok_88, zok_89, zok_90, zok_91, zok_92, zok_93, zok_94, zok_95, zok_96, zok_97, zok_98, zok_99, zok_100, zok_101, zok_102, zok_103, zok_104, zok_105, zok_106, zok_107, zok_108, zok_109, zok_110, zok_111, zok_112, zok_113, zok_114, zok_115, zok_116, zok_117, zok_118, zok_119, zok_120, zok_121, zok_122, zok_123, zok_124, zok_125, zok_126, zok_127, zok_128, zok_129, zok_130, zok_131, zok_132, zok_133, zok_134, zok_135, zok_136, zok_137, zok_138, zok_139, zok_140, zok_141, zok_142, zok_143, zok_144, zok_145, zok_146, zok_147, zok_148, zok_149, zok_150, zok_151, zok_152, zok_153, zok_154, zok_155, zok_156, zok_157, zok_158, zok_159, zok_160, zok_161, zok_162, zok_163, zok_164, zok_165, zok_166, zok_167, zok_168, zok_169, zok_170, zok_171, zok_172, zok_173, zok_174, zok_175, zok_176, zok_177, zok_178, zok_179, zok_180, zok_181, zok_182, zok_183, zok_184, zok_185, zok_186, zok_187, zok_188, zok_189, zok_190, zok_191, zok_192, zok_193, zok_194, zok_195, zok_196, zok_197, zok_198, zok_199, zok_200, zok_201, zok_202, zok_203, zok_204, zok_205, zok_206, zok_207, zok_208, zok_209, zok_210, zok_211, zok_212, zok_213, zok_214, zok_215, zok_216, zok_217, zok_218, zok_219, zok_220, zok_221, zok_222, zok_223, zok_224, zok_225, zok_226, zok_227, zok_228, zok_229, zok_230, zok_231, zok_232, zok_233, zok_234, zok_235, zok_236, zok_237, zok_238, zok_239, zok_240, zok_241, zok_242, zok_243, zok_244, zok_245, zok_246, zok_247, zok_248, zok_249, zok_250, zok_251, zok_252, zok_253, zok_254, zok_255, zok_256, zok_257, zok_258, zok_259, zok_260, zok_261, zok_262, zok_263, zok_264, zok_265, zok_266, zok_267, zok_268, zok_269, zok_270, trivial⟩
theorem zok_all {mi : Nat} {zc : List (Nat × zRow)} (h : zg zcodes mi = some zc) : zPk mi zc := by
  have := zAll2_get zok_list h
  rw [Nat.zero_add] at this
  exact this
theorem zfind_mem : ∀ {l : List (Nat × zRow)} {pc : Nat} {r : zRow}, zfind l pc = some r → (pc, r) ∈ l
  | [], pc, r, h => by cases h
  | (a, q) :: l, pc, r, h => by
    unfold zfind at h
    split at h
    · rename_i hb
      cases h
      rw [Nat.eq_of_beq_eq_true hb]
      exact List.mem_cons_self
    · exact List.mem_cons_of_mem _ (zfind_mem h)
def zK2 (D : va_G) : List Nat → (Nat → Prop) → State → Prop := fun ad A s => zK D ad A s ∧ ∃ mir, va_Mi "[Ljava/lang/Object;" mir s
theorem zK2_ok (D : va_G) : zKok (zK2 D) := by
  intro s U A A' ad0 x H locs hK hS hU hW hsub
  obtain ⟨h1, mir, h2⟩ := hK
  exact ⟨zKK_ok znw_ok s U A A' ad0 x H locs h1 hS hU hW hsub, mir, h2.moved hW.alike⟩
theorem zcl_nm : ∀ ci, ci < 16 → (zg zclL ci).map (fun r => r.1) = some (zcnm ci) := by decide +kernel
theorem zca_0 : Cond.castable (zcnm 0) "java/lang/Object" ∈ znwL := znw_mem (List.mem_of_getElem? (i := 2207) (by decide +kernel)) rfl
theorem zca_2 : Cond.castable (zcnm 2) "java/lang/Object" ∈ znwL := znw_mem (List.mem_of_getElem? (i := 2210) (by decide +kernel)) rfl
theorem zca_3 : Cond.castable (zcnm 3) "java/lang/Object" ∈ znwL := znw_mem (List.mem_of_getElem? (i := 2206) (by decide +kernel)) rfl
theorem zca_6 : Cond.castable (zcnm 6) "java/lang/Object" ∈ znwL := znw_mem (List.mem_of_getElem? (i := 2209) (by decide +kernel)) rfl
theorem zca_7 : Cond.castable (zcnm 7) "java/lang/Object" ∈ znwL := znw_mem (List.mem_of_getElem? (i := 2208) (by decide +kernel)) rfl
theorem zca_9 : Cond.castable (zcnm 9) "java/lang/Object" ∈ znwL := znw_mem (List.mem_of_getElem? (i := 2204) (by decide +kernel)) rfl
theorem zdc_gc : Cond.declares zgcN ∈ znwL := znw_mem (List.mem_of_getElem? (i := 2197) (by decide +kernel)) rfl
theorem zK_as {D : va_G} {ad : List Nat} {A : Nat → Prop} {s : State} (hK : zK D ad A s) : zAs D zcnm zasg s := by
  intro ci cj h
  unfold zasg at h
  rw [Bool.or_eq_true, Bool.and_eq_true, Bool.and_eq_true] at h
  have key : ∀ ci, ci < 16 → ∃ kv, s.vm.findClass (zcnm ci) = some (D.1 ci) ∧ s.vm.classes[D.1 ci]? = some kv := by
    intro ci hc
    obtain ⟨r, hr⟩ := zg_of_lt (l := zclL) (n := ci) hc
    obtain ⟨-, h1, kv, h2, -⟩ := hK.1 ci r hr
    have h3 := zcl_nm ci hc
    rw [hr] at h3
    have h3 : r.1 = zcnm ci := Option.some.inj h3
    exact ⟨kv, h3 ▸ h1, h2⟩
  rcases h with ⟨h1, h2⟩ | ⟨h1, h2⟩
  · have h3 := Nat.le_of_ble_eq_true h1
    cases Nat.eq_of_beq_eq_true h2
    obtain ⟨kv, a, b⟩ := key ci (by omega)
    exact ⟨⟨kv, b⟩, D.1 ci, kv, a, b, va_asg _ _⟩
  · cases Nat.eq_of_beq_eq_true h1
    have cas : ci < 16 → Cond.castable (zcnm ci) "java/lang/Object" ∈ znwL → (∃ kv : Class, s.vm.classes[D.1 ci]? = some kv) ∧ ∃ (comp : ClassId) (kc : Class), s.vm.findClass (zcnm 16) = some comp ∧ s.vm.classes[comp]? = some kc ∧ s.vm.assignable (D.1 ci) comp = true := by
      intro h3 h4
      obtain ⟨kv, a, b⟩ := key ci h3
      obtain ⟨c, t, q1, q2, q3⟩ := Cond.castable_spec (va_Nw.use (A := #[]) rfl (hK.2.2.2.2.1 _ h4))
      cases Option.some.inj (q1.symm.trans a)
      obtain ⟨kc, hkc, -⟩ := Vm.findClass_spec q2
      exact ⟨⟨kv, b⟩, t, kc, q2, hkc, q3⟩
    simp only [Bool.or_eq_true] at h2
    rcases h2 with ((((h2 | h2) | h2) | h2) | h2) | h2 <;> cases Nat.eq_of_beq_eq_true h2
    · exact cas (by omega) zca_0
    · exact cas (by omega) zca_2
    · exact cas (by omega) zca_3
    · exact cas (by omega) zca_6
    · exact cas (by omega) zca_7
    · exact cas (by omega) zca_9
theorem zhnt (k : Nat) (st st' : List Value) (h h' : zH) (hp : zGnt zGG k st h = some (st', h')) : zUp h h' := by
  have hp : znt k st h = some (st', h') := hp
  unfold znt at hp
  split at hp
  · unfold zNcp at hp
    repeat' split at hp
    all_goals first
      | (cases hp; exact ⟨Nat.le_refl _, Nat.le_refl _, by rw [zs_length]; exact Nat.le_refl _⟩)
      | (cases hp; done)
  · unfold zNco at hp
    repeat' split at hp
    all_goals first
      | (cases hp; exact ⟨Nat.le_add_right _ _, Nat.le_add_right _ _, by rw [List.length_append]; exact Nat.le_add_right _ _⟩)
      | (cases hp; done)
theorem zmxL_le : zmxL.all (fun n => Nat.ble n 41) = true := by decide +kernel
theorem zhmx (mj : Nat) : zGmx zGG mj ≤ 41 := by
  show zmx mj ≤ 41
  unfold zmx
  cases h : zg zmxL mj with
  | none => exact Nat.zero_le _
  | some n => exact Nat.le_of_ble_eq_true (List.all_eq_true.mp zmxL_le n (zg_mem h))
theorem zplainL : zyL.all (fun y => plainName y.cls || (decide (y.cls = "java/lang/Math") && !Jvm.Free.JP.floatDescs.contains y.desc)) = true := by decide +kernel
theorem zplain (mi : Nat) : plainFor (zy mi) = true := by
  unfold zy
  cases h : zg zyL mi with
  | none => decide +kernel
  | some y =>
    show plainFor y = true
    have q := List.all_eq_true.mp zplainL y (zg_mem h)
    rw [Bool.or_eq_true, Bool.and_eq_true, decide_eq_true_eq, Bool.not_eq_true'] at q
    rcases q with q | q
    · exact plainFor_of_name q
    · exact Jvm.Free.JP.mathPlain q.1 q.2
theorem vx_ofWF {l : Launch} {y : MethodName} {ws ws' : List Cond} {rm : Room} {Pc : Array Value → State → Prop} {Qc : Array Value → State → Outcome → State → Prop} {XC : String → State → State → Prop} {mc ms : Nat} {free : Addr → Prop} {cc : ByteArray} {maxL : Nat} {ret : Option FieldType}
    (hy : plainFor y = true) (hw : ws = Cond.code y cc maxL ret :: ws')
    (body : ∀ p e s m args below meth c s₁, BodyLoose p l y (headSpec ws rm) cc maxL ret e s m args below meth c s₁ → c.maxLocals = maxL → (∀ x ∈ c.exceptionTable.toList, False) → Pc args s →
      W p l e (headSpec ws rm).room s m args below meth c s.heap [] 0 0 (vx_MQ below Qc XC args s mc ms free) (entryFrame m args maxL)) : vx_Met l y ws rm Pc Qc XC mc ms free := by
  refine MetFree.of_bodySF (code := cc) (maxLocals := maxL) (ret := ret) hy ?_ ?_
  · intro args s m h hn
    obtain ⟨meth, c, h1, h2, h3, h4, h5, h6, -, -⟩ := Cond.code_spec hn (atoms_spec (ws := ws) h _ (by rw [hw]; exact List.mem_cons_self))
    exact ⟨meth, c, h1, h2, h3, h4, h5, h6⟩
  · intro p e s m args below meth c s₁ B hml hP _
    have hh0 : s₁.heap = s.heap := by rw [B.state]; rfl
    have ht : ∀ x ∈ c.exceptionTable.toList, False := by
      obtain ⟨meth9, c9, h1, h2, -, -, -, -, h7, -⟩ := Cond.code_spec B.named (atoms_spec (ws := ws) B.pre _ (by rw [hw]; exact List.mem_cons_self))
      cases Option.some.inj (h1.symm.trans B.method)
      cases Option.some.inj (h2.symm.trans (Stand.of_body B).code)
      intro x hx
      rw [Array.isEmpty_iff.mp h7] at hx
      cases hx
    obtain ⟨t, a1, o, b1, b2, b3⟩ := body p e s m args below meth c s₁ B hml ht hP s₁ hh0 (Stand.of_body B)
    exact ⟨t, o, a1, b1, b2, b3⟩
theorem vx_ofWHF {l : Launch} {y : MethodName} {ws ws' : List Cond} {rm : Room} {Pc : Array Value → State → Prop} {Qc : Array Value → State → Outcome → State → Prop} {XC : String → State → State → Prop} {mc ms : Nat} {free : Addr → Prop} {cc : ByteArray} {maxL : Nat} {ret : Option FieldType} {hh : List (Nat × Nat × Nat × Nat)}
    (hy : plainFor y = true) (hw : ws = Cond.codeWith y cc maxL ret hh :: ws')
    (body : ∀ p e s m args below meth c s₁, BodyLoose p l y (headSpec ws rm) cc maxL ret e s m args below meth c s₁ → c.maxLocals = maxL → Pc args s →
      W p l e (headSpec ws rm).room s m args below meth c s.heap [] 0 0 (vx_MQ below Qc XC args s mc ms free) (entryFrame m args maxL)) : vx_Met l y ws rm Pc Qc XC mc ms free := by
  refine MetFree.of_bodySF (code := cc) (maxLocals := maxL) (ret := ret) hy ?_ ?_
  · intro args s m h hn
    obtain ⟨m9, meth, c, hn9, h1, h2, h3, h4, -, h5, h6, -⟩ := Cond.codeWith_spec (atoms_spec (ws := ws) h _ (by rw [hw]; exact List.mem_cons_self))
    cases hn.symm.trans hn9
    exact ⟨meth, c, h1, h2, h3, h4, h5, h6⟩
  · intro p e s m args below meth c s₁ B hml hP _
    have hh0 : s₁.heap = s.heap := by rw [B.state]; rfl
    obtain ⟨t, a1, o, b1, b2, b3⟩ := body p e s m args below meth c s₁ B hml hP s₁ hh0 (Stand.of_body B)
    exact ⟨t, o, a1, b1, b2, b3⟩
theorem zOkM_all (l : Launch) (mi : Nat) : zOkM zGG l zy zby zown zw ztb mi := by
  intro rm Pc Qc XC mc ms free d hf hl body
  cases htb : ztb mi with
  | nil =>
    have hw : zw mi = Cond.code (zy mi) (zby mi) (zmx mi) (zrt mi) :: zT := by unfold zw zcw; rw [htb]
    refine vx_ofWF (zplain mi) hw fun p e s m args below meth c s₁ B hml ht hP => ?_
    refine body p e s m args below meth c ⟨B.exec, B.bytes, B.returns, hml, B.notSynchronized, findClass_of_methodNamed B.named, hf, hl⟩ ⟨?_, (name_of_methodNamed B.named B.method).1⟩ (atoms_spec B.pre) hP
    rw [htb]
    cases hc : c.exceptionTable.toList with
    | nil => rfl
    | cons a r => exact absurd (ht a (by rw [hc]; exact List.mem_cons_self)) (fun q => q)
  | cons q r =>
    have hw : zw mi = Cond.codeWith (zy mi) (zby mi) (zmx mi) (zrt mi) (q :: r) :: zT := by unfold zw zcw; rw [htb]
    refine vx_ofWHF (zplain mi) hw fun p e s m args below meth c s₁ B hml hP => ?_
    refine body p e s m args below meth c ⟨B.exec, B.bytes, B.returns, hml, B.notSynchronized, findClass_of_methodNamed B.named, hf, hl⟩ ⟨?_, (name_of_methodNamed B.named B.method).1⟩ (atoms_spec B.pre) hP
    rw [htb]
    exact vx_table (x := zy mi) B (atoms_spec (ws := zw mi) B.pre _ (by rw [hw]; exact List.mem_cons_self))
theorem ztbL_has : ztbL.all (fun q => zhas q.1) = true := by decide +kernel
theorem ztb_nil {mi : Nat} (h : zhas mi = false) : ztb mi = [] := by
  unfold ztb
  cases hf : ztbL.find? (fun q => Nat.beq q.1 mi) with
  | none => rfl
  | some q =>
    have h1 := List.find?_some hf
    have h2 := List.all_eq_true.mp ztbL_has q (List.mem_of_find?_eq_some hf)
    rw [Nat.eq_of_beq_eq_true h1, h] at h2
    cases h2
theorem zhdf_spec : ∀ {L : List (Nat × Nat × Nat × Nat × Nat)} {m pc en : Nat} {r : Option Nat}, zhdf L m pc en = some r → ∃ q ∈ L, q.1 = m ∧ q.2.1 ≤ pc ∧ pc < q.2.2.1 ∧ q.2.2.2.2 = en ∧ r = some q.2.2.2.1
  | [], m, pc, en, r, h => by cases h
  | (mi, a, b, hp, x) :: L, m, pc, en, r, h => by
    unfold zhdf at h
    split at h
    · rename_i hb
      cases h
      simp only [Bool.and_eq_true] at hb
      exact ⟨_, List.mem_cons_self, Nat.eq_of_beq_eq_true hb.1.1.1, Nat.le_of_ble_eq_true hb.1.1.2, Nat.le_of_ble_eq_true hb.1.2, Nat.eq_of_beq_eq_true hb.2, rfl⟩
    · obtain ⟨q, h1, h2⟩ := zhdf_spec h
      exact ⟨q, List.mem_cons_of_mem _ h1, h2⟩
variable {D : va_G} {l : Launch} {p : Program} {e : Env} {R : Room} {s : State} {m : MethodId} {args : Array Value} {below : List Frame} {meth : Method} {c : Code} {mi d pc : Nat} {ad0 : List Nat}
theorem zexc_all {A : Nat → Prop} (hcx : zCx zGG zby zown p R s m meth c mi d) (hbx : zBx zy ztb meth c mi) (hts : ∀ w ∈ zT, w.before args s = true) (hK : zK D ad0 A s) {en : Nat} {r : Option Nat} (h : zhd mi pc en = some r) : zOkExc l p e R s m args below meth c pc (zcnm en) r := by
  unfold zhd at h
  split at h
  · obtain ⟨q, h1, h2, h3, h4, h5, h6⟩ := zhdf_spec h
    unfold zhdL at h1
    simp only [List.mem_cons, List.not_mem_nil, or_false] at h1
    rcases h1 with rfl | rfl | rfl | rfl | rfl | rfl | rfl | rfl | rfl | rfl | rfl | rfl | rfl | rfl | rfl <;> dsimp only at h2 h3 h4 h5 h6 <;> subst h2 h5 h6
    · exact zcat_9_0 D h3 h4 hcx hbx hts hK
    · exact zcat_124_0 D h3 h4 hcx hbx hts hK
    · exact zcat_127_0 D h3 h4 hcx hbx hts hK
    · exact zcat_129_0 D h3 h4 hcx hbx hts hK
    · exact zcat_131_0 D h3 h4 hcx hbx hts hK
    · exact zcat_131_1 D h3 h4 hcx hbx hts hK
    · exact zcat_136_0 D h3 h4 hcx hbx hts hK
    · exact zcat_141_0 D h3 h4 hcx hbx hts hK
    · exact zcat_143_0 D h3 h4 hcx hbx hts hK
    · exact zcat_146_0 D h3 h4 hcx hbx hts hK
    · exact zcat_171_0 D h3 h4 hcx hbx hts hK
    · exact zcat_173_0 D h3 h4 hcx hbx hts hK
    · exact zcat_175_0 D h3 h4 hcx hbx hts hK
    · exact zcat_177_0 D h3 h4 hcx hbx hts hK
    · exact zcat_179_0 D h3 h4 hcx hbx hts hK
  · rename_i hn
    split at h
    · cases h
      exact zk_out hcx (by rw [hbx.1, ztb_nil hn]; rfl)
    · cases h
theorem zin3_spec {L : List (Nat × Nat × Nat)} {a b c : Nat} (h : zin3 L a b c = true) : (a, b, c) ∈ L := by
  unfold zin3 at h
  obtain ⟨q, h1, h2⟩ := List.any_eq_true.mp h
  simp only [Bool.and_eq_true] at h2
  rw [← Nat.eq_of_beq_eq_true h2.1, ← Nat.eq_of_beq_eq_true h2.2.1, ← Nat.eq_of_beq_eq_true h2.2.2]
  exact h1
theorem zthr_all {A : Nat → Prop} {x : Nat} (hl : l.stackTraces = false) (hcx : zCx zGG zby zown p R s m meth c mi d) (hbx : zBx zy ztb meth c mi) (hts : ∀ w ∈ zT, w.before args s = true) (hK : zK D ad0 A s) (h : zin3 zthL mi pc x = true) : zOkThrow l p e R s m args below meth c A pc (zcnm x) := by
  have h1 := zin3_spec h
  unfold zthL at h1
  simp only [List.mem_cons, List.not_mem_nil, or_false, Prod.mk.injEq] at h1
  rcases h1 with h1 | h1 | h1 | h1 | h1 | h1 | h1 | h1 | h1 | h1 | h1 | h1 | h1 | h1 | h1 | h1 <;> obtain ⟨h2, h3, h4⟩ := h1 <;> subst h2 h3 h4
  · exact zth_70_27 D hl hcx hbx hts hK
  · exact zth_125_13 D hl hcx hbx hts hK
  · exact zth_128_15 D hl hcx hbx hts hK
  · exact zth_130_127 D hl hcx hbx hts hK
  · exact zth_132_62 D hl hcx hbx hts hK
  · exact zth_137_7 D hl hcx hbx hts hK
  · exact zth_142_25 D hl hcx hbx hts hK
  · exact zth_142_78 D hl hcx hbx hts hK
  · exact zth_144_17 D hl hcx hbx hts hK
  · exact zth_144_112 D hl hcx hbx hts hK
  · exact zth_147_49 D hl hcx hbx hts hK
  · exact zth_172_15 D hl hcx hbx hts hK
  · exact zth_174_17 D hl hcx hbx hts hK
  · exact zth_176_17 D hl hcx hbx hts hK
  · exact zth_178_17 D hl hcx hbx hts hK
  · exact zth_180_17 D hl hcx hbx hts hK
theorem znat_all {x : Nat} (hcx : zCx zGG zby zown p R s m meth c mi d) (hts : ∀ w ∈ zT, w.before args s = true) (hK : zK2 D ad0 (zA zn0 ad0 s.heap.size) s) (h : zin3 zntL mi pc x = true) : zOkNat zGG D zclL zcnm l p e R s m args below meth c (zA zn0 ad0 s.heap.size) ad0 pc x := by
  have h1 := zin3_spec h
  unfold zntL at h1
  simp only [List.mem_cons, List.not_mem_nil, or_false, Prod.mk.injEq] at h1
  rcases h1 with h1 | h1 | h1 <;> obtain ⟨h2, h3, h4⟩ := h1 <;> subst h2 h3 h4
  · exact zk_nat0 (idx := 150) hcx hts (show Cond.methodLink "java/util/Arrays" 150 arraycopyName ∈ zT from zac_lk) zco_t7 zco_t8 zco_t9 (by decide +kernel)
  · exact zk_nat0 (idx := 150) hcx hts (show Cond.methodLink "java/util/Arrays" 150 arraycopyName ∈ zT from zac_lk) zco_t7 zco_t8 zco_t9 (by decide +kernel)
  · exact zk_nat1 hcx (by decide +kernel) hts (fun q hq => Or.inr hq) (zK_as hK.1) hK.2 (hK.1.2.2.2.2.2.2.2.2 _ (by decide)) (hK.1.2.2.2.2.1 _ zdc_gc) (by decide +kernel)
theorem zCnd_J {i : Instr} {st : List Value} {r : Bool × List Value} (h : zCnd i st = some r) : zisJ i = true := by
  cases i <;> first | rfl | (cases h; done)
theorem zcodesN : zcodes.all (fun zc => zc.all (fun q => match q.2.1 with | .newarray t => Nat.ble (zcode t) 4 | _ => true)) = true := by decide +kernel
theorem zarr_cls {t : ArrayType} (h : zcode t ≤ 4) : Cond.arrayClass (newarray.typeOf t) ∈ zT := by
  cases t
  · exact zT_mem (zt_1 95 rfl) rfl
  · exact zT_mem (zt_2 131 rfl) rfl
  · exact absurd h (by decide)
  · exact absurd h (by decide)
  · exact zT_mem (zt_1 59 rfl) rfl
  · exact absurd h (by decide)
  · exact zT_mem (zt_1 96 rfl) rfl
  · exact zT_mem (zt_10 19 rfl) rfl
theorem zrows (D : va_G) (l : Launch) (hl : l.stackTraces = false) : zOkRows zGG D zclL zcnm (zK2 D) l zy zby zown zw ztb := by
  intro mi p e R s m args below meth c d ad0 hcx hbx hws hK2 pc row hrow
  have hts : ∀ w ∈ zT, w.before args s = true := fun w h => hws w (List.mem_cons_of_mem _ h)
  have hK := hK2.1
  have hrow : zprog mi pc = some row := hrow
  unfold zprog at hrow
  split at hrow
  · rename_i zc hzc
    have hmem := zfind_mem hrow
    obtain ⟨ow, lk, e1, e2, e3⟩ := zok_all hzc
    have hck := List.all_eq_true.mp e3 _ hmem
    have hnw := List.all_eq_true.mp (List.all_eq_true.mp zcodesN zc (zg_mem hzc)) _ hmem
    obtain ⟨i, a1, a2, a3⟩ := row
    unfold zchR at hck
    dsimp only at hck hnw
    rw [Bool.and_eq_true] at hck
    obtain ⟨k1, k2⟩ := hck
    have hd : ∃ len, decode (zby mi) pc = .ok (i, len) ∧ (zisTs i = true ∨ len = zlen i) := by
      unfold zdk at k1
      split at k1
      · rename_i j len hdj
        rw [Bool.and_eq_true, decide_eq_true_eq, Bool.or_eq_true] at k1
        exact ⟨len, by rw [hdj, k1.1], k1.2.imp id Nat.eq_of_beq_eq_true⟩
      · cases k1
    refine ⟨hd, fun h1 => ?_, fun h1 => ?_⟩
    · have h1 : a3 = 1 := h1
      subst h1
      exact zthr_all hl hcx hbx hts hK k2
    · have h1 : a3 ≠ 1 := h1
      have hb : Nat.beq a3 1 = false := by
        cases h9 : Nat.beq a3 1 with
        | false => rfl
        | true => exact absurd (Nat.eq_of_beq_eq_true h9) h1
      rw [hb] at k2
      dsimp only at k2
      rw [Bool.and_eq_true] at k2
      obtain ⟨k3, k4⟩ := k2
      have hlk : zisLk i = true → zisI (i, a1, a2, a3) = false → zRo D l p e R s m args below meth c (zA zn0 ad0 s.heap.size) ad0 mi pc (i, a1, a2, a3) := by
        intro g1 g2
        rw [g1] at k4
        dsimp only at k4
        rw [g2] at k4
        dsimp only at k4
        rw [Bool.and_eq_true, List.any_eq_true, Bool.or_eq_true] at k4
        obtain ⟨⟨r, r1, r2⟩, r3⟩ := k4
        rw [Bool.and_eq_true, decide_eq_true_eq] at r2
        obtain ⟨len, d1, d2⟩ := hd
        have d3 : len = zlen i := by
          rcases d2 with d2 | d2
          · cases i <;> first | (cases d2; done) | (cases g1; done)
          · exact d2
        refine e2 D l _ (r2.2 ▸ r1) p e R s m args below meth c mi d pc ad0 e1 hcx hbx ?_ hts hK (by rw [d1, d3])
        intro h9
        rcases r3 with r3 | r3
        · rw [h9] at r3; cases r3
        · exact decide_eq_true_eq.mp r3
      refine ⟨fun st r hc => ?_, ?_, fun st r hc => ?_, ?_, fun hi => ?_⟩
      · rw [Bool.or_eq_true] at k3
        rcases k3 with k3 | k3
        · rw [show zisJ i = true from zCnd_J hc] at k3; cases k3
        · exact decide_eq_true_eq.mp k3
      · cases i <;> first | exact trivial | exact hlk rfl rfl | exact hts _ (zarr_cls (Nat.le_of_ble_eq_true hnw))
      · cases i <;> first | (cases hc; done) | exact hlk rfl rfl
      · cases i <;> first | exact trivial | exact hlk rfl rfl
      · have hinv : zisLk i = true := by cases i <;> first | rfl | (cases hi; done)
        dsimp only
        have hz : ∀ k, a2 = k → Nat.ble k 2 = true → zisI (i, a1, a2, a3) = false := by
          intro k q1 q2
          show (zisInv i && !Nat.ble a2 2) = false
          rw [q1, q2]
          cases zisInv i <;> rfl
        have hro : ∀ k, a2 = k → Nat.ble k 2 = true → zRo D l p e R s m args below meth c (zA zn0 ad0 s.heap.size) ad0 mi pc (i, a1, a2, a3) := fun k q1 q2 => hlk hinv (hz k q1 q2)
        match a2, hro, k4 with
        | 0, hro, _ =>
          refine ⟨?_, fun en r hr => zexc_all hcx hbx hts hK hr⟩
          have := hro 0 rfl rfl
          cases i <;> first | exact this | (cases hi; done)
        | 1, hro, _ =>
          have := hro 1 rfl rfl
          cases i <;> first | exact this | (cases hi; done)
        | 2, hro, _ =>
          have := hro 2 rfl rfl
          cases i <;> first | exact this | (cases hi; done)
        | n + 3, _, k4 =>
          rw [hinv] at k4
          dsimp only at k4
          rw [show zisI (i, a1, n + 3, a3) = true by show (zisInv i && !Nat.ble (n + 3) 2) = true; rw [show zisInv i = true from hi]; rfl] at k4
          exact znat_all hcx hts hK2 k4
  · cases hrow
/-- EVERY METHOD OF THE PROGRAM: what the virtual machine answers, the machine does -/
theorem zmachine (D : va_G) (l : Launch) (hl : l.stackTraces = false) (hap : zAp D zclL) : ∀ n : Nat, zBodyP zGG D zclL zcnm (zK2 D) l zy zby zown zw n ∧ zMetP zGG D zclL zcnm (zK2 D) l zy zw n :=
  zMet_all (zK2_ok D) hap (fun _ _ _ h => zK_as h.1) zhnt zhmx (fun mi _ => zOkM_all l mi) (zrows D l hl)
end ZASN

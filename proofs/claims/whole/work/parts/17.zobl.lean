/-! WHAT THE ROWS OWE, by kinds: fields, new objects, calls -/
section ZOBL
/-- a method's own word, and its words -/
def zcw (m : Nat) : Cond := match ztb m with
  | [] => .code (zy m) (zby m) (zmx m) (zrt m)
  | q :: r => .codeWith (zy m) (zby m) (zmx m) (zrt m) (q :: r)
def zw (m : Nat) : List Cond := zcw m :: zT
theorem zGoodIn {m : Nat} (h : zcw m ∈ zT) : GoodIn zT (zw m) := by
  intro w hw
  have hm : w ∈ zT := by
    rcases List.mem_cons.mp hw with rfl | q
    · exact h
    · exact q
  exact ⟨hm, good_of_word (zT_good hm)⟩
theorem zGoodApp {a b : List Cond} (ha : ∀ w ∈ a, w ∈ zT) (hb : GoodIn zT b) : GoodIn zT (a ++ b) := by
  intro w hw
  rcases List.mem_append.mp hw with q | q
  · exact ⟨ha w q, good_of_word (zT_good (ha w q))⟩
  · exact hb w q
theorem zall1 {P : Cond → Prop} {a : Cond} (h : P a) : ∀ w ∈ [a], P w := fun w hw => by rw [List.mem_singleton.mp hw]; exact h
theorem zallc {P : Cond → Prop} {a : Cond} {l : List Cond} (h : P a) (hl : ∀ w ∈ l, P w) : ∀ w ∈ a :: l, P w := fun w hw => by
  rcases List.mem_cons.mp hw with rfl | q
  · exact h
  · exact hl w q
theorem zMet_of {l : Launch} {y : MethodName} {ws : List Cond} {rm : Room} {Pc : Array Value → State → Prop} {Qc : Array Value → State → Outcome → State → Prop} {XC : String → State → State → Prop} {mc ms : Nat} {free : Addr → Prop} (hx : ∀ E st t, ¬ XC E st t) (h : vx_Met l y ws rm Pc Qc XC mc ms free) : Met l y ws rm Pc Qc mc ms free := by
  intro p e h1 h2 h3 s m args below h4 h5 h6 h7
  obtain ⟨n, o, a1, a2, a3, a4⟩ := h p e h1 h2 h3 s m args below h4 h5 h6 h7
  refine ⟨n, o, a1, a2, a3, ?_⟩
  rcases a4 with a4 | ⟨q, -, E, ce, L, b1, -⟩
  · exact a4
  · exact absurd b1 (hx _ _ _)
theorem zRun_of {p : Program} {l : Launch} {e : Env} {R : Room} {s : State} {m : MethodId} {args : Array Value} {below : List Frame} {meth : Method} {c : Code} {H : Heap} {locs : List Loc} {cells slots mc ms : Nat} {g : JFrame} {rest : List Value} {Qa : State → Outcome → State → Prop} {XC : String → State → State → Prop} {free : Addr → Prop}
    (h : va_Run p l e R s m args below meth c H locs cells slots mc ms g rest Qa free) : vx_Run p l e R s m args below meth c H locs cells slots mc ms g rest Qa XC free := fun T hT X => Or.inl (h T hT X)
section
variable {D : va_G} {s : State} {args : Array Value}
theorem zFl_p {own ref n d : String} {idx : Nat} (hts : ∀ w ∈ zT, w.before args s = true) (h : Cond.fieldLink own idx ref n d ∈ zT) : zFl s args own idx ref n d := Or.inl (hts _ h)
theorem zFl_n {own ref n d host : String} {idx : Nat} (h : va_Nw (Cond.fieldLinkNest own idx ref n d host) s) : zFl s args own idx ref n d := Or.inr ⟨host, va_Nw.use rfl h⟩
theorem zk_get {ci k idx N : Nat} {own ref C : String} {T : u_T} (hts : ∀ w ∈ zT, w.before args s = true) (hu : u_Kn s C T N (D.1 ci) (D.2 ci)) (hin : ∀ w ∈ u_ws C T N, w ∈ zT) (hk : k < N) (hlink : zFl s args own idx ref (T k).2.1 (T k).2.2.1) (hsame : ref = (T k).1 ∨ Cond.sameField ref (T k).1 (T k).2.1 (T k).2.2.1 ∈ zT) : zOkGet D s args own idx ci k := by
  obtain ⟨hS, hfc, kC, hkC, hkind⟩ := hu
  obtain ⟨cf, kf, fi, f, hi, hsl⟩ := hS k hk
  have hst := (u_facts hfc hkC (u_lays hts hin hk) hi).1
  refine ⟨ref, (T k).2.1, (T k).2.2.1, cf, fi, kf, f, ?_, hst, hsl, hlink⟩
  rcases hsame with rfl | q
  · exact hi
  · exact u_same (hts _ q) _ hi
/-- a field of a class whose slots the constants' facts tell -/
theorem zk_getS {ci k idx : Nat} {own ref n dd : String} (hts : ∀ w ∈ zT, w.before args s = true) (h : ∃ (cf fi : Nat) (kf : Class) (f : Field), s.fieldFound? ref n dd = some (cf, kf, fi, f) ∧ f.isStatic = false ∧ f.slot = D.2 ci k) (hlink : Cond.fieldLink own idx ref n dd ∈ zT) : zOkGet D s args own idx ci k := by
  obtain ⟨cf, fi, kf, f, h1, h2, h3⟩ := h
  exact ⟨ref, n, dd, cf, fi, kf, f, h1, h2, h3, zFl_p hts hlink⟩
theorem zk_put {ci k idx N : Nat} {own ref C mname : String} {T : u_T} {mcls : ClassId} {ty : FieldType} (hts : ∀ w ∈ zT, w.before args s = true) (hu : u_Kn s C T N (D.1 ci) (D.2 ci)) (hin : ∀ w ∈ u_ws C T N, w ∈ zT) (hk : k < N) (hlink : zFl s args own idx ref (T k).2.1 (T k).2.2.1) (hsame : ref = (T k).1 ∨ Cond.sameField ref (T k).1 (T k).2.1 (T k).2.2.1 ∈ zT)
    (hfin : (T k).2.2.2 = false) (hd : parseFieldDescriptor (T k).2.2.1 = some ty) : zOkPut D s args mcls mname own idx ci k ty := by
  obtain ⟨hS, hfc, kC, hkC, hkind⟩ := hu
  obtain ⟨cf, kf, fi, f, hi, hsl⟩ := hS k hk
  have hst := (u_facts hfc hkC (u_lays hts hin hk) hi).1
  have hlay := hts _ (hin _ (u_in_lay hk))
  unfold u_lay at hlay
  rw [if_neg (by rw [hfin]; decide)] at hlay
  refine ⟨ref, (T k).2.1, (T k).2.2.1, cf, fi, kf, f, ?_, hst, hsl, Or.inl ⟨hlink, fun v h1 h2 => u_store hfc hkC hkind hlay hi hd h1 h2⟩⟩
  rcases hsame with rfl | q
  · exact hi
  · exact u_same (hts _ q) _ hi
theorem zk_putF {ci k idx N : Nat} {own C mname : String} {T : u_T} {mcls : ClassId} {ty : FieldType} (hts : ∀ w ∈ zT, w.before args s = true) (hu : u_Kn s C T N (D.1 ci) (D.2 ci)) (hin : ∀ w ∈ u_ws C T N, w ∈ zT) (hk : k < N) (hlink : Cond.fieldLink own idx own (T k).2.1 (T k).2.2.1 ∈ zT) (hdecl : (T k).1 = own) (hown : s.vm.findClass own = some mcls) (hname : mname = "<init>")
    (hfin : (T k).2.2.2 = true) (hd : parseFieldDescriptor (T k).2.2.1 = some ty) : zOkPut D s args mcls mname own idx ci k ty := by
  obtain ⟨hS, hfc, kC, hkC, hkind⟩ := hu
  obtain ⟨cf, kf, fi, f, hi, hsl⟩ := hS k hk
  have hst := (u_facts hfc hkC (u_lays hts hin hk) hi).1
  have hlay := hts _ (hin _ (u_in_lay hk))
  unfold u_lay at hlay
  rw [if_pos hfin] at hlay
  have hcf : mcls = cf := by
    obtain ⟨_, _, c', _, _, _, -, -, hf', -, -, -, hown2, -⟩ := Cond.laysFinal_spec hlay
    have e1 : c' = cf := by have := hi.symm.trans hf'; simp at this; exact this.1.symm
    rw [hdecl] at hown2
    rw [← e1]; exact Option.some.inj (hown.symm.trans hown2)
  exact ⟨own, (T k).2.1, (T k).2.2.1, cf, fi, kf, f, by rw [← hdecl]; exact hi, hst, hsl, Or.inr ⟨hts _ hlink, hcf, hname, fun v h1 h2 => u_fits hfc hkC hkind (Or.inr hlay) hi hd h1 h2⟩⟩
theorem zk_new {cl : List vw_C} {ci n idx N : Nat} {own C : String} {T : u_T} {fs : List Value} (hts : ∀ w ∈ zT, w.before args s = true) (hcl : zg cl ci = some (C, T, N)) (hu : u_Kn s C T N (D.1 ci) (D.2 ci)) (hin : ∀ w ∈ u_ws C T N, w ∈ zT) (ty : Nat → FieldType) (hty : ∀ k, k < N → parseFieldDescriptor (T k).2.2.1 = some (ty k))
    (w1 : Cond.classLink own idx C ∈ zT) (w2 : Cond.instantiable C n ∈ zT) (w3 : Cond.initialized C ∈ zT) (hfl : fs.length = N) (hfs : ∀ k, k < N → zg fs k = some (defaultValue (ty k)) ∧ zcst (defaultValue (ty k)) = true) : zOkNew D cl s args own idx ci n fs := by
  refine ⟨C, (C, T, N), hts _ w1, hts _ w2, hts _ w3, hu.2.1, hcl, hfl, fun kC hkC k v hk => ?_⟩
  have hkN : k < N := by rw [← hfl]; exact zg_lt hk
  obtain ⟨q1, q2⟩ := hfs k hkN
  rw [q1] at hk
  cases hk
  refine ⟨q2, ?_⟩
  obtain ⟨hS, hfc, -⟩ := hu
  obtain ⟨cf, kf, fi, fd, hi, he⟩ := hS k hkN
  have h3 := (u_facts hfc hkC (u_lays hts hin hkN) hi).2.2
  rw [(State.fieldFound?_type hi (hty k hkN)).2] at h3
  rw [← he]
  exact k2_blank h3
end
section
variable {D : va_G} {l : Launch} {p : Program} {e : Env} {R : Room} {s : State} {m : MethodId} {args : Array Value} {below : List Frame} {meth : Method} {c : Code} {mi d pc mj idx n : Nat}
/-- invokevirtual of a method that the class itself has -/
theorem zk_V {C : String} {k : Nat} (hcx : zCx zGG zby zown p R s m meth c mi d) (hts : ∀ w ∈ zT, w.before args s = true) (hC : s.vm.findClass C = some (D.1 n)) (hcw : zcw mj = .code (zy mj) (zby mj) (zmx mj) (zrt mj)) (hmem : zcw mj ∈ zT) (hdec : decode (zby mi) pc = .ok (.invokevirtual idx, 3))
    (w1 : Cond.methodLink (zown mi) idx (zy mj) ∈ zT) (w2 : Cond.instanceMethod (zy mj) ∈ zT) (w3 : Cond.selects C (zy mj) (zy mj) ∈ zT) (w4 : Cond.initialized C ∈ zT) (hcls : (zy mj).cls = C) (hd : (zy mj).cls ≠ "java/lang/invoke/MethodHandle" ∧ (zy mj).cls ≠ "java/lang/invoke/VarHandle" ∧ (parseMethodDescriptor (zy mj).desc).map (fun d => d.parameters.length) = some k) (har : zar mj = k + 1) :
    zOkInv zGG D l zy zw p e R s m args below meth c pc mj (n + 3) true := by
  obtain ⟨x1, x2, x3, x4, x5, x6, x7, x8⟩ := hcx
  intro H locs cells slots mc ms ws rest ls Pc Qc XC free rm r1 r2 r3 r4 hM hbl hrc hPc hls hwl hcat hc1 hs1 hthr
  obtain ⟨b, As, ce, rfl, g1, g2, g3⟩ := hrc
  have hAs : As.length = k := by have : (Value.ref b :: As).length = zar mj := hwl; rw [har] at this; simpa using this
  have hw : zw mj = Cond.code (zy mj) (zby mj) (zmx mj) (zrt mj) :: zT := by unfold zw; rw [hcw]
  have hcwV := cwV (R := R) (rm := rm) (mc := mc) (ms := ms) (own := zown mi) (index := idx) (C := C) k hts (zGoodApp (zallc w1 (zallc w2 (zallc w3 (zall1 w4)))) (zGoodIn hmem)) hw r1 r2 ⟨hcls, hd⟩ ⟨r3, r4⟩
  exact vx_runV (g := F0 m pc ls ((Value.ref b :: As).reverse ++ rest)) (rest := rest) (As := As) (b := b) ⟨x1, x2, x4, x6, hts⟩ hM hcwV ⟨hbl, ⟨ce, g1, g2, by rw [g3]; exact hC⟩, hPc⟩ rfl hAs (by show ls.size = _; rw [hls, x4]) (by show _ = _; simp) (lv_room hcat) hdec ⟨hc1, hs1⟩
/-- invokestatic -/
theorem zk_S (hcx : zCx zGG zby zown p R s m meth c mi d) (hts : ∀ w ∈ zT, w.before args s = true) (hcw : zcw mj = .code (zy mj) (zby mj) (zmx mj) (zrt mj)) (hmem : zcw mj ∈ zT) (hdec : decode (zby mi) pc = .ok (.invokestatic idx, 3))
    (w1 : Cond.methodLink (zown mi) idx (zy mj) ∈ zT) (w2 : Cond.static (zy mj) ∈ zT) (w3 : Cond.initialized (zy mj).cls ∈ zT) {k : Nat} (hd : (zy mj).cls ≠ "java/lang/invoke/MethodHandle" ∧ (zy mj).cls ≠ "java/lang/invoke/VarHandle" ∧ (parseMethodDescriptor (zy mj).desc).map (fun d => d.parameters.length) = some k) (har : zar mj = k) :
    zOkInv zGG D l zy zw p e R s m args below meth c pc mj 0 true := by
  obtain ⟨x1, x2, x3, x4, x5, x6, x7, x8⟩ := hcx
  intro H locs cells slots mc ms ws rest ls Pc Qc XC free rm r1 r2 r3 r4 hM hbl hrc hPc hls hwl hcat hc1 hs1 hthr
  have hw : zw mj = Cond.code (zy mj) (zby mj) (zmx mj) (zrt mj) :: zT := by unfold zw; rw [hcw]
  have hcwS := va_cwS (R := R) (rm := rm) (mc := mc) (ms := ms) (own := zown mi) (index := idx) k hts (zGoodApp (zallc w1 (zallc w2 (zall1 w3))) (zGoodIn hmem)) hw r1 r2 hd ⟨r3, r4⟩
  exact vx_runS (g := F0 m pc ls (ws.reverse ++ rest)) (rest := rest) (As := ws) ⟨x1, x2, x4, x6, hts⟩ hM hcwS ⟨hbl, hPc⟩ rfl (by rw [hwl]; exact har) (by show ls.size = _; rw [hls, x4]) rfl (lv_room hcat) hdec ⟨hc1, hs1⟩
/-- invokestatic of a nest mate's private method -/
theorem zk_SN {host : String} (hcx : zCx zGG zby zown p R s m meth c mi d) (hts : ∀ w ∈ zT, w.before args s = true) (hcw : zcw mj = .code (zy mj) (zby mj) (zmx mj) (zrt mj)) (hmem : zcw mj ∈ zT) (hdec : decode (zby mi) pc = .ok (.invokestatic idx, 3))
    (w1 : va_Nw (Cond.methodLinkNest (zown mi) idx (zy mj) host) s) (w2 : Cond.static (zy mj) ∈ zT) (w3 : Cond.initialized (zy mj).cls ∈ zT) {k : Nat} (hd : (zy mj).cls ≠ "java/lang/invoke/MethodHandle" ∧ (zy mj).cls ≠ "java/lang/invoke/VarHandle" ∧ (parseMethodDescriptor (zy mj).desc).map (fun d => d.parameters.length) = some k) (har : zar mj = k) :
    zOkInv zGG D l zy zw p e R s m args below meth c pc mj 0 false := by
  obtain ⟨x1, x2, x3, x4, x5, x6, x7, x8⟩ := hcx
  intro H locs cells slots mc ms ws rest ls Pc Qc XC free rm r1 r2 r3 r4 hM hbl hrc hPc hls hwl hcat hc1 hs1 hthr
  have hx : ∀ E st t, ¬ XC E st t := hthr.resolve_left (by decide)
  have hw : zw mj = Cond.code (zy mj) (zby mj) (zmx mj) (zrt mj) :: zT := by unfold zw; rw [hcw]
  have hcn := va_cnB (R := R) (rm := rm) (mc := mc) (ms := ms) (own := zown mi) (index := idx) (host := host) k hts (zGoodIn hmem) hw r1 r2 w1 (hts _ w3) hd ⟨r3, r4⟩
  exact zRun_of (va_runSN (g := F0 m pc ls (ws.reverse ++ rest)) (rest := rest) (As := ws) ⟨x1, x2, x4, x6, hts⟩ (zMet_of hx hM) ⟨hcn, hts _ w2, trivial⟩ ⟨hbl, hPc⟩ rfl (by rw [hwl]; exact har) (by show ls.size = _; rw [hls, x4]) rfl (lv_room hcat) hdec ⟨hc1, hs1⟩)
/-- invokespecial of a constructor -/
theorem zk_I (hcx : zCx zGG zby zown p R s m meth c mi d) (hts : ∀ w ∈ zT, w.before args s = true) (hcw : zcw mj = .code (zy mj) (zby mj) (zmx mj) none) (hmem : zcw mj ∈ zT) (hdec : decode (zby mi) pc = .ok (.invokespecial idx, 3))
    (w1 : Cond.methodLink (zown mi) idx (zy mj) ∈ zT) (w2 : Cond.instanceMethod (zy mj) ∈ zT) (w3 : Cond.initialized (zy mj).cls ∈ zT) (hnm : (zy mj).name = "<init>") {k : Nat} (hd : (zy mj).cls ≠ "java/lang/invoke/MethodHandle" ∧ (zy mj).cls ≠ "java/lang/invoke/VarHandle" ∧ (parseMethodDescriptor (zy mj).desc).map (fun d => d.parameters.length) = some k) (har : zar mj = k + 1) :
    zOkInv zGG D l zy zw p e R s m args below meth c pc mj 2 false := by
  obtain ⟨x1, x2, x3, x4, x5, x6, x7, x8⟩ := hcx
  intro H locs cells slots mc ms ws rest ls Pc Qc XC free rm r1 r2 r3 r4 hM hbl hrc hPc hls hwl hcat hc1 hs1 hthr
  obtain ⟨b, As, rfl⟩ := hrc
  have hx : ∀ E st t, ¬ XC E st t := hthr.resolve_left (by decide)
  have hAs : As.length = k := by have : (Value.ref b :: As).length = zar mj := hwl; rw [har] at this; simpa using this
  have hw : zw mj = Cond.code (zy mj) (zby mj) (zmx mj) none :: zT := by unfold zw; rw [hcw]
  have hcb := callB_of (R := R) (rm := rm) (mc := mc) (ms := ms) (own := zown mi) (index := idx) k hts (zGoodIn hmem) hw r1 r2 (hts _ w3) (hts _ w1) hd ⟨r3, r4⟩
  exact zRun_of (va_runI (g := F0 m pc ls ((Value.ref b :: As).reverse ++ rest)) (rest := rest) (As := As) (b := b) ⟨x1, x2, x4, x6, hts⟩ (zMet_of hx hM) ⟨hcb, hnm, hts _ w2⟩ ⟨hbl, hPc⟩ rfl hAs (by show ls.size = _; rw [hls, x4]) (by show _ = _; simp) (lv_room hcat) hdec ⟨hc1, hs1⟩)
theorem zk_IN {host : String} (hcx : zCx zGG zby zown p R s m meth c mi d) (hts : ∀ w ∈ zT, w.before args s = true) (hcw : zcw mj = .code (zy mj) (zby mj) (zmx mj) none) (hmem : zcw mj ∈ zT) (hdec : decode (zby mi) pc = .ok (.invokespecial idx, 3))
    (w1 : va_Nw (Cond.methodLinkNest (zown mi) idx (zy mj) host) s) (w2 : Cond.instanceMethod (zy mj) ∈ zT) (w3 : Cond.initialized (zy mj).cls ∈ zT) (hnm : (zy mj).name = "<init>") {k : Nat} (hd : (zy mj).cls ≠ "java/lang/invoke/MethodHandle" ∧ (zy mj).cls ≠ "java/lang/invoke/VarHandle" ∧ (parseMethodDescriptor (zy mj).desc).map (fun d => d.parameters.length) = some k) (har : zar mj = k + 1) :
    zOkInv zGG D l zy zw p e R s m args below meth c pc mj 2 false := by
  obtain ⟨x1, x2, x3, x4, x5, x6, x7, x8⟩ := hcx
  intro H locs cells slots mc ms ws rest ls Pc Qc XC free rm r1 r2 r3 r4 hM hbl hrc hPc hls hwl hcat hc1 hs1 hthr
  obtain ⟨b, As, rfl⟩ := hrc
  have hx : ∀ E st t, ¬ XC E st t := hthr.resolve_left (by decide)
  have hAs : As.length = k := by have : (Value.ref b :: As).length = zar mj := hwl; rw [har] at this; simpa using this
  have hw : zw mj = Cond.code (zy mj) (zby mj) (zmx mj) none :: zT := by unfold zw; rw [hcw]
  have hcn := va_cnB (R := R) (rm := rm) (mc := mc) (ms := ms) (own := zown mi) (index := idx) (host := host) k hts (zGoodIn hmem) hw r1 r2 w1 (hts _ w3) hd ⟨r3, r4⟩
  exact zRun_of (va_runIN (g := F0 m pc ls ((Value.ref b :: As).reverse ++ rest)) (rest := rest) (As := As) (b := b) ⟨x1, x2, x4, x6, hts⟩ (zMet_of hx hM) ⟨hcn, hnm, hts _ w2⟩ ⟨hbl, hPc⟩ rfl hAs (by show ls.size = _; rw [hls, x4]) (by show _ = _; simp) (lv_room hcat) hdec ⟨hc1, hs1⟩)
/-- invokevirtual of an inherited method -/
theorem zk_U {C owner : String} {x : MethodName} {k : Nat} (hcx : zCx zGG zby zown p R s m meth c mi d) (hts : ∀ w ∈ zT, w.before args s = true) (hC : s.vm.findClass C = some (D.1 n)) (hcw : zcw mj = .code (zy mj) (zby mj) (zmx mj) (zrt mj)) (hmem : zcw mj ∈ zT) (hdec : decode (zby mi) pc = .ok (.invokevirtual idx, 3))
    (w1 : Cond.methodLink (zown mi) idx x ∈ zT) (w2 : Cond.sameMethod x.cls owner x.name x.desc ∈ zT) (w3 : Cond.selects C x (zy mj) ∈ zT) (w4 : Cond.instanceMethod (zy mj) ∈ zT) (w5 : Cond.initialized (zy mj).cls ∈ zT) (hyx : zy mj = ⟨owner, x.name, x.desc⟩) (hd : owner ≠ "java/lang/invoke/MethodHandle" ∧ owner ≠ "java/lang/invoke/VarHandle" ∧ (parseMethodDescriptor x.desc).map (fun d => d.parameters.length) = some k) (har : zar mj = k + 1) :
    zOkInv zGG D l zy zw p e R s m args below meth c pc mj (n + 3) false := by
  obtain ⟨x1, x2, x3, x4, x5, x6, x7, x8⟩ := hcx
  intro H locs cells slots mc ms ws rest ls Pc Qc XC free rm r1 r2 r3 r4 hM hbl hrc hPc hls hwl hcat hc1 hs1 hthr
  obtain ⟨b, As, ce, rfl, g1, g2, g3⟩ := hrc
  have hx : ∀ E st t, ¬ XC E st t := hthr.resolve_left (by decide)
  have hAs : As.length = k := by have : (Value.ref b :: As).length = zar mj := hwl; rw [har] at this; simpa using this
  have hw : zw mj = Cond.code (zy mj) (zby mj) (zmx mj) (zrt mj) :: zT := by unfold zw; rw [hcw]
  have hcU := va_cwU (R := R) (rm := rm) (mc := mc) (ms := ms) (own := zown mi) (index := idx) (C := C) (owner := owner) (x := x) k hts (zGoodApp (zallc w1 (zallc w2 (zallc w3 (zallc w4 (zall1 w5))))) (zGoodIn hmem)) hw r1 r2 hyx hd ⟨r3, r4⟩
  exact zRun_of (va_runU (g := F0 m pc ls ((Value.ref b :: As).reverse ++ rest)) (rest := rest) (As := As) (b := b) ⟨x1, x2, x4, x6, hts⟩ (zMet_of hx hM) hcU ⟨hbl, ⟨ce, g1, g2, by rw [g3]; exact hC⟩, hPc⟩ rfl hAs (by show ls.size = _; rw [hls, x4]) (by show _ = _; simp) (lv_room hcat) hdec ⟨hc1, hs1⟩)
/-- invokevirtual of a method that the receiver's class has anew -/
theorem zk_O {C owner : String} {x : MethodName} {k : Nat} {b0 : ByteArray} {m0 : Nat} {r0 : Option FieldType} (hcx : zCx zGG zby zown p R s m meth c mi d) (hts : ∀ w ∈ zT, w.before args s = true) (hC : s.vm.findClass C = some (D.1 n)) (hcw : zcw mj = .code (zy mj) (zby mj) (zmx mj) (zrt mj)) (hmem : zcw mj ∈ zT) (hdec : decode (zby mi) pc = .ok (.invokevirtual idx, 3))
    (w1 : Cond.methodLink (zown mi) idx x ∈ zT) (w2 : Cond.sameMethod x.cls owner x.name x.desc ∈ zT) (w0 : Cond.instanceMethod ⟨owner, x.name, x.desc⟩ ∈ zT) (w3 : Cond.selects C x (zy mj) ∈ zT) (w4 : Cond.instanceMethod (zy mj) ∈ zT) (w5 : Cond.initialized (zy mj).cls ∈ zT) (h0 : Cond.code ⟨owner, x.name, x.desc⟩ b0 m0 r0 ∈ zT) (hd : owner ≠ "java/lang/invoke/MethodHandle" ∧ owner ≠ "java/lang/invoke/VarHandle" ∧ (parseMethodDescriptor x.desc).map (fun d => d.parameters.length) = some k) (har : zar mj = k + 1) :
    zOkInv zGG D l zy zw p e R s m args below meth c pc mj (n + 3) false := by
  obtain ⟨x1, x2, x3, x4, x5, x6, x7, x8⟩ := hcx
  intro H locs cells slots mc ms ws rest ls Pc Qc XC free rm r1 r2 r3 r4 hM hbl hrc hPc hls hwl hcat hc1 hs1 hthr
  obtain ⟨b, As, ce, rfl, g1, g2, g3⟩ := hrc
  have hx : ∀ E st t, ¬ XC E st t := hthr.resolve_left (by decide)
  have hAs : As.length = k := by have : (Value.ref b :: As).length = zar mj := hwl; rw [har] at this; simpa using this
  have hw : zw mj = Cond.code (zy mj) (zby mj) (zmx mj) (zrt mj) :: zT := by unfold zw; rw [hcw]
  have hcU := va_cwO (R := R) (rm := rm) (mc := mc) (ms := ms) (own := zown mi) (index := idx) (C := C) (owner := owner) (x := x) k hts (zGoodApp (zallc w1 (zallc w2 (zallc w0 (zallc w3 (zallc w4 (zall1 w5)))))) (zGoodIn hmem)) hw r1 r2 h0 hd ⟨r3, r4⟩
  exact zRun_of (va_runU (g := F0 m pc ls ((Value.ref b :: As).reverse ++ rest)) (rest := rest) (As := As) (b := b) ⟨x1, x2, x4, x6, hts⟩ (zMet_of hx hM) hcU ⟨hbl, ⟨ce, g1, g2, by rw [g3]; exact hC⟩, hPc⟩ rfl hAs (by show ls.size = _; rw [hls, x4]) (by show _ = _; simp) (lv_room hcat) hdec ⟨hc1, hs1⟩)
/-- invokestatic, invokevirtual of a method with a table of its own -/
theorem zk_SX (hcx : zCx zGG zby zown p R s m meth c mi d) (hts : ∀ w ∈ zT, w.before args s = true) (hcw : zcw mj = .codeWith (zy mj) (zby mj) (zmx mj) (zrt mj) (ztb mj)) (hmem : zcw mj ∈ zT) (hdec : decode (zby mi) pc = .ok (.invokestatic idx, 3))
    (w1 : Cond.methodLink (zown mi) idx (zy mj) ∈ zT) (w2 : Cond.static (zy mj) ∈ zT) (w3 : Cond.initialized (zy mj).cls ∈ zT) {k : Nat} (hd : (zy mj).cls ≠ "java/lang/invoke/MethodHandle" ∧ (zy mj).cls ≠ "java/lang/invoke/VarHandle" ∧ (parseMethodDescriptor (zy mj).desc).map (fun d => d.parameters.length) = some k) (har : zar mj = k) :
    zOkInv zGG D l zy zw p e R s m args below meth c pc mj 0 true := by
  obtain ⟨x1, x2, x3, x4, x5, x6, x7, x8⟩ := hcx
  intro H locs cells slots mc ms ws rest ls Pc Qc XC free rm r1 r2 r3 r4 hM hbl hrc hPc hls hwl hcat hc1 hs1 hthr
  have hw : zw mj = Cond.codeWith (zy mj) (zby mj) (zmx mj) (zrt mj) (ztb mj) :: zT := by unfold zw; rw [hcw]
  have hcwS := vx_cwSW (R := R) (rm := rm) (mc := mc) (ms := ms) (own := zown mi) (index := idx) k hts (zGoodApp (zallc w1 (zallc w2 (zall1 w3))) (zGoodIn hmem)) hw r1 r2 hd ⟨r3, r4⟩
  exact vx_runSX (g := F0 m pc ls (ws.reverse ++ rest)) (rest := rest) (As := ws) ⟨x1, x2, x4, x6, hts⟩ hM hcwS ⟨hbl, hPc⟩ rfl (by rw [hwl]; exact har) (by show ls.size = _; rw [hls, x4]) rfl (lv_room hcat) hdec ⟨hc1, hs1⟩
theorem zk_VX {C : String} {k : Nat} (hcx : zCx zGG zby zown p R s m meth c mi d) (hts : ∀ w ∈ zT, w.before args s = true) (hC : s.vm.findClass C = some (D.1 n)) (hcw : zcw mj = .codeWith (zy mj) (zby mj) (zmx mj) (zrt mj) (ztb mj)) (hmem : zcw mj ∈ zT) (hdec : decode (zby mi) pc = .ok (.invokevirtual idx, 3))
    (w1 : Cond.methodLink (zown mi) idx (zy mj) ∈ zT) (w2 : Cond.instanceMethod (zy mj) ∈ zT) (w3 : Cond.selects C (zy mj) (zy mj) ∈ zT) (w4 : Cond.initialized C ∈ zT) (hcls : (zy mj).cls = C) (hd : (zy mj).cls ≠ "java/lang/invoke/MethodHandle" ∧ (zy mj).cls ≠ "java/lang/invoke/VarHandle" ∧ (parseMethodDescriptor (zy mj).desc).map (fun d => d.parameters.length) = some k) (har : zar mj = k + 1) :
    zOkInv zGG D l zy zw p e R s m args below meth c pc mj (n + 3) true := by
  obtain ⟨x1, x2, x3, x4, x5, x6, x7, x8⟩ := hcx
  intro H locs cells slots mc ms ws rest ls Pc Qc XC free rm r1 r2 r3 r4 hM hbl hrc hPc hls hwl hcat hc1 hs1 hthr
  obtain ⟨b, As, ce, rfl, g1, g2, g3⟩ := hrc
  have hAs : As.length = k := by have : (Value.ref b :: As).length = zar mj := hwl; rw [har] at this; simpa using this
  have hw : zw mj = Cond.codeWith (zy mj) (zby mj) (zmx mj) (zrt mj) (ztb mj) :: zT := by unfold zw; rw [hcw]
  have hcwV := vx_cwVW (R := R) (rm := rm) (mc := mc) (ms := ms) (own := zown mi) (index := idx) (C := C) k hts (zGoodApp (zallc w1 (zallc w2 (zallc w3 (zall1 w4)))) (zGoodIn hmem)) hw r1 r2 ⟨hcls, hd⟩ ⟨r3, r4⟩
  exact vx_runVX (g := F0 m pc ls ((Value.ref b :: As).reverse ++ rest)) (rest := rest) (As := As) (b := b) ⟨x1, x2, x4, x6, hts⟩ hM hcwV ⟨hbl, ⟨ce, g1, g2, by rw [g3]; exact hC⟩, hPc⟩ rfl hAs (by show ls.size = _; rw [hls, x4]) (by show _ = _; simp) (lv_room hcat) hdec ⟨hc1, hs1⟩
/-- invokespecial of a superclass's method -/
theorem zk_SU {C : String} {k : Nat} (hcx : zCx zGG zby zown p R s m meth c mi d) (hts : ∀ w ∈ zT, w.before args s = true) (hC : ClassAt s C (D.1 n)) (hcw : zcw mj = .code (zy mj) (zby mj) (zmx mj) (zrt mj)) (hmem : zcw mj ∈ zT) (hdec : decode (zby mi) pc = .ok (.invokespecial idx, 3))
    (w1 : Cond.methodLink (zown mi) idx (zy mj) ∈ zT) (w2 : Cond.sameMethod (zy mj).cls (zy mj).cls (zy mj).name (zy mj).desc ∈ zT) (w3 : Cond.superclass (zown mi) (zy mj).cls ∈ zT) (w4 : Cond.instanceMethod (zy mj) ∈ zT) (w5 : Cond.initialized (zy mj).cls ∈ zT) (hd : (zy mj).name ≠ "<init>" ∧ (parseMethodDescriptor (zy mj).desc).map (fun d => d.parameters.length) = some k) (har : zar mj = k + 1) :
    zOkInv zGG D l zy zw p e R s m args below meth c pc mj (n + 3) false := by
  obtain ⟨x1, x2, x3, x4, x5, x6, x7, x8⟩ := hcx
  intro H locs cells slots mc ms ws rest ls Pc Qc XC free rm r1 r2 r3 r4 hM hbl hrc hPc hls hwl hcat hc1 hs1 hthr
  obtain ⟨b, As, ce, rfl, g1, g2, g3⟩ := hrc
  have hx : ∀ E st t, ¬ XC E st t := hthr.resolve_left (by decide)
  have hAs : As.length = k := by have : (Value.ref b :: As).length = zar mj := hwl; rw [har] at this; simpa using this
  have hw : zw mj = Cond.code (zy mj) (zby mj) (zmx mj) (zrt mj) :: zT := by unfold zw; rw [hcw]
  have hcS := va_cwSU (R := R) (rm := rm) (mc := mc) (ms := ms) (own := zown mi) (index := idx) k hts (zGoodApp (zallc w1 (zallc w2 (zallc w3 (zallc w4 (zall1 w5))))) (zGoodIn hmem)) hw r1 r2 hd ⟨r3, r4⟩
  exact zRun_of (va_runSU hC (g := F0 m pc ls ((Value.ref b :: As).reverse ++ rest)) (rest := rest) (As := As) (b := b) ⟨x1, x2, x4, x6, hts⟩ (zMet_of hx hM) hcS ⟨hbl, ⟨ce, g1, g2, by rw [g3]; exact hC.1⟩, hPc⟩ rfl hAs (by show ls.size = _; rw [hls, x4]) (by show _ = _; simp) (lv_room hcat) hdec ⟨hc1, hs1⟩)
end
end ZOBL

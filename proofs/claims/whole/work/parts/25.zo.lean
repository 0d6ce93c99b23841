/-! ARRAYS.COPYOF OF A LIST'S ARRAY (its words written by a program of the verifier's) -/
section ZNAU
abbrev zgcN : MethodName := ⟨"java/lang/Object", "getClass", "()Ljava/lang/Class;"⟩
abbrev zc2N : MethodName := Jvm.Free.CopyOfC.copy2N
abbrev zc3N : MethodName := Jvm.Free.CopyOfC.copy3N
abbrev zmnN : MethodName := Jvm.Free.CopyOfC.minN
set_option maxRecDepth 20000 in
theorem zco_s0 : Cond.methodLink "java/util/Arrays" 86 zgcN ∈ zT := zT_mem (zt_4 170 rfl) rfl
set_option maxRecDepth 20000 in
theorem zco_s2 : Cond.selects "[Ljava/lang/Object;" zgcN zgcN ∈ zT := zT_mem (zt_10 36 rfl) rfl
set_option maxRecDepth 20000 in
theorem zco_s3 : Cond.instanceMethod zgcN ∈ zT := zT_mem (zt_4 171 rfl) rfl
set_option maxRecDepth 20000 in
theorem zco_s4 : Cond.native zgcN ∈ zT := zT_mem (zt_4 192 rfl) rfl
set_option maxRecDepth 20000 in
theorem zco_s5 : Cond.methodLink "java/util/Arrays" 300 zc3N ∈ zT := zT_mem (zt_4 193 rfl) rfl
set_option maxRecDepth 20000 in
theorem zco_s6 : Cond.static zc3N ∈ zT := zT_mem (zt_4 194 rfl) rfl
set_option maxRecDepth 20000 in
theorem zco_s7 : Cond.initialized "java/util/Arrays" ∈ zT := zT_mem (zt_1 4 rfl) rfl
set_option maxRecDepth 20000 in
theorem zco_t0 : Cond.classLink "java/util/Arrays" 2 "java/lang/Object" ∈ zT := zT_mem (zt_4 198 rfl) rfl
set_option maxRecDepth 20000 in
theorem zco_t2 : Cond.methodLink "java/util/Arrays" 304 zmnN ∈ zT := zT_mem (zt_2 221 rfl) rfl
set_option maxRecDepth 20000 in
theorem zco_t3 : Cond.static zmnN ∈ zT := zT_mem (zt_2 222 rfl) rfl
set_option maxRecDepth 20000 in
theorem zco_t4 : Cond.initialized "java/lang/Math" ∈ zT := zT_mem (zt_1 19 rfl) rfl
set_option maxRecDepth 20000 in
theorem zco_t5 : Cond.code zmnN Jvm.Lib.Math.min.code 2 (some .int) ∈ zT := zT_mem (zt_2 223 rfl) rfl
set_option maxRecDepth 20000 in
theorem zco_t6 : Cond.methodLink "java/util/Arrays" 150 arraycopyName ∈ zT := zT_mem (zt_2 224 rfl) rfl
set_option maxRecDepth 20000 in
theorem zco_t7 : Cond.native arraycopyName ∈ zT := zT_mem (zt_2 226 rfl) rfl
set_option maxRecDepth 20000 in
theorem zco_t8 : Cond.static arraycopyName ∈ zT := zT_mem (zt_2 225 rfl) rfl
set_option maxRecDepth 20000 in
theorem zco_t9 : Cond.initialized "java/lang/System" ∈ zT := zT_mem (zt_1 28 rfl) rfl
set_option maxRecDepth 20000 in
theorem zco_t10 : Cond.classLink "java/util/Arrays" 110 "[Ljava/lang/Object;" ∈ zT := zT_mem (zt_4 196 rfl) rfl
set_option maxRecDepth 20000 in
theorem zco_c3 : Cond.code zc3N Jvm.Free.CopyOfC.copy3B 4 (some (.array (.object "java/lang/Object"))) ∈ zT := zT_mem (zt_4 195 rfl) rfl
set_option maxRecDepth 20000 in
theorem zco_c2 : Cond.code zc2N Jvm.Free.CopyOfC.copy2B 2 (some (.array (.object "java/lang/Object"))) ∈ zT := zT_mem (zt_4 169 rfl) rfl
set_option maxRecDepth 20000 in
theorem zco_st : Cond.static zc2N ∈ zT := zT_mem (zt_4 168 rfl) rfl
set_option maxRecDepth 20000 in
theorem zco_in : Cond.initialized "java/util/Arrays" ∈ zT := zT_mem (zt_1 4 rfl) rfl
set_option maxRecDepth 20000 in
theorem zco_lk : Cond.methodLink "java/util/ArrayList" 66 zc2N ∈ zT := zT_mem (zt_4 167 rfl) rfl
set_option maxRecDepth 20000 in
theorem zac_lk : Cond.methodLink "java/util/Arrays" 150 arraycopyName ∈ zT := zT_mem (zt_2 224 rfl) rfl
def zcoP (g : Jvm.Free.CopyOfC.Copy3.G) : Array Value → State → Prop := fun a U => Jvm.Free.CopyOfC.Copy2.P g.n.toNatClampNeg g a U ∧ va_AO "java/lang/Object" U ∧ va_Nw (Cond.declares zgcN) U
theorem zcoMet (l : Launch) (g : Jvm.Free.CopyOfC.Copy3.G) : vx_Met l zc2N (Cond.code zc2N Jvm.Free.CopyOfC.copy2B 2 (some (.array (.object "java/lang/Object"))) :: zT) { frames := 3, locals := 64, cells := 1, slots := g.n.toNatClampNeg } (zcoP g) (Jvm.Free.CopyOfC.Copy3.Q g) (fun _ _ _ => False) 1 g.n.toNatClampNeg (fun _ => False) := by
  intro p e ha hc hk s m args below hf happ hP hK
  obtain ⟨a1, a2, a3, a4, a5, a6, a7, a8⟩ := (Spec.appliesLoose_iff hf).mp happ
  have at_ := atoms_spec a8
  have hw : ∀ w ∈ zT, w.before args s = true := fun w h => at_ w (List.mem_cons_of_mem _ h)
  obtain ⟨hP1, hP2, hP3⟩ := hP
  have hsz : args.size = 2 := by rw [hP1.1]; rfl
  have h3 : Jvm.Free.CopyOfC.Copy3.tab.before args s = true := by
    unfold Jvm.Free.CopyOfC.Copy3.tab
    refine (conj_holds (args := args) (first := s) (o := none) (s := s) (idx := []) _ _).mpr ⟨hw _ zco_c3, fun d hd => ?_⟩
    simp only [List.mem_cons, List.not_mem_nil, or_false] at hd
    rcases hd with rfl | rfl | rfl | rfl | rfl | rfl | rfl | rfl | rfl | rfl | rfl
    · exact hw _ zco_t0
    · exact hP2.use
    · exact hw _ zco_t2
    · exact hw _ zco_t3
    · exact hw _ zco_t4
    · exact hw _ zco_t5
    · exact hw _ zco_t6
    · exact hw _ zco_t7
    · exact hw _ zco_t8
    · exact hw _ zco_t9
    · exact hw _ zco_t10
  have hpre : (Jvm.Free.CopyOfC.Copy2.spec g.n.toNatClampNeg).pre.before args s = true := by
    simp only [Jvm.Free.CopyOfC.Copy2.spec, Cond.before_and, Bool.and_eq_true]
    refine ⟨?_, ?_⟩
    · simp [Cond.before, Cond.holds, Cond.value, hsz]
    · unfold Jvm.Free.CopyOfC.Copy2.tab
      refine (conj_holds (args := args) (first := s) (o := none) (s := s) (idx := []) _ _).mpr ⟨hw _ zco_c2, fun d hd => ?_⟩
      rcases List.mem_append.mp hd with hd | hd
      · unfold Jvm.Free.CopyOfC.Copy2.siteAtoms at hd
        simp only [List.mem_cons, List.not_mem_nil, or_false] at hd
        rcases hd with rfl | rfl | rfl | rfl | rfl | rfl | rfl | rfl
        · exact hw _ zco_s0
        · exact va_Nw.use rfl hP3
        · exact hw _ zco_s2
        · exact hw _ zco_s3
        · exact hw _ zco_s4
        · exact hw _ zco_s5
        · exact hw _ zco_s6
        · exact hw _ zco_s7
      · rw [List.mem_singleton.mp hd]
        exact h3
  obtain ⟨n, o, w1, w2, w3, w4⟩ := Jvm.Free.CopyOfC.Copy2.gets l g.n.toNatClampNeg g p e ha hc hk s m args below hf ((Spec.appliesLoose_iff hf).mpr ⟨a1, a2, a3, a4, a5, a6, a7, hpre⟩) hP1 trivial
  exact ⟨n, o, w1, w2, w3, Or.inl ⟨w4, [], w4.2.2, fun q h => by cases h⟩⟩
theorem z32 {k : Nat} (h : k < 2 ^ 31) : k.toInt32.toInt = (k : Int) := by
  have e : k.toInt32.toInt = Int.bmod (k : Int) (2 ^ 32) := by
    show (Int32.ofNat k).toInt = _
    rw [Int32.toInt_ofNat']
  rw [e]
  exact Int.bmod_eq_of_le (by omega) (by omega)
theorem zclamp {k : Nat} (h : k < 2 ^ 31) : k.toInt32.toNatClampNeg = k := by
  show k.toInt32.toInt.toNat = k
  rw [z32 h]
  rfl
theorem zclamp_nn {k : Nat} (h : k < 2 ^ 31) : ¬ k.toInt32 < 0 := fun q => by
  have h2 := Int32.lt_iff_toInt_lt.mp q
  rw [z32 h] at h2
  have h3 : (0 : Int32).toInt = 0 := rfl
  omega
theorem zelA_spec {h : List zO} {v : Value} (q : zelA h v = true) : v = .null ∨ ∃ (k ci : Nat) (fs : List Value), v = .ref k ∧ zg h k = some (.inr (ci, fs)) ∧ zasg ci 16 = true := by
  unfold zelA at q
  split at q
  · exact Or.inl rfl
  · split at q
    · exact Or.inr ⟨_, _, _, rfl, by assumption, q⟩
    · cases q
  · cases q
theorem zAlike_cell {s t : State} {o : Outcome} {n : Nat} (h : FrameEnd s o t [] 1 n) : (∀ q : Nat, q < s.heap.size → t.heap[q]? = s.heap[q]?) ∧ s.heap.size ≤ t.heap.size := by
  obtain ⟨-, -, -, h1, -, -, -, h2⟩ := h
  refine ⟨fun q hq => ?_, h1⟩
  obtain ⟨ce, hce⟩ : ∃ ce, s.heap[q]? = some ce := ⟨s.heap[q], Array.getElem?_eq_getElem hq⟩
  obtain ⟨c', g1, g2, g3, g4⟩ := h2 q ce hce
  have e : c'.slots = ce.slots := by
    apply Array.ext_getElem?
    intro i
    exact g4 i (fun x => by cases x)
  have g1 : t.heap[q]? = some c' := g1
  rw [g1, hce, g2, e]
variable {D : va_G} {l : Launch} {p : Program} {e : Env} {R : Room} {s : State} {m : MethodId} {args : Array Value} {below : List Frame} {meth : Method} {c : Code} {mi d pc : Nat} {A : Nat → Prop} {ad0 : List Nat}
theorem zInv.push2 {cl : List vw_C} {cnm : Nat → String} {n0 c0 z0 : Nat} {ad : List Nat} {h : zH} {H H1 : Heap} {locs : List Loc} {cells slots : Nat} (hV : zInv D cl cnm n0 s A ad0 c0 z0 ad h H locs cells slots) (hA : ∀ q : Nat, s.heap.size ≤ q → A q) {o : zO} {cell : Cell} {n : Nat}
    (hc : H1[H.size]? = some cell) (hz : zob D cl cnm s ad o cell) (hn : cell.vm = .none ∧ zra cnm s o cell) (hq : ∀ q : Nat, q < H.size → H1[q]? = H[q]?) : zInv D cl cnm n0 s A ad0 c0 z0 (ad ++ [H.size]) (h.1 ++ [o], h.2.1 + 1, h.2.2 + n) H1 locs (cells + 1) (slots + n) := by
  obtain ⟨v1, v2, v3, v4, ⟨x, v5⟩, v6, v7, v8⟩ := hV
  have hge : s.heap.size ≤ H.size := v3.1
  have hlt : H.size < H1.size := (Array.getElem?_eq_some_iff.mp hc).1
  refine ⟨v1.push hc hz hn hq, v2.push (fun k b hb q => by have := v1.lt hb; omega), ⟨by omega, fun q h1 h2 => by rw [hq q (by omega)]; exact v3.2.1 q h1 h2, v3.2.2⟩, fun k a hk ha => ?_, ⟨x ++ [H.size], by rw [v5, List.append_assoc]⟩, fun k a hk ha => ?_, by show h.2.1 + 1 = _; omega, by show h.2.2 + n = _; omega⟩
  · rcases zg_end_inv ha with ha | ⟨rfl, rfl⟩
    · exact v4 k a hk ha
    · exact hA _ hge
  · rcases zg_end_inv ha with ha | ⟨rfl, rfl⟩
    · exact v6 k a hk ha
    · exact hge
theorem zk_nat1 (hcx : zCx zGG zby zown p R s m meth c mi d) (hown : zown mi = "java/util/ArrayList") (hts : ∀ w ∈ zT, w.before args s = true) (hA : ∀ q : Nat, s.heap.size ≤ q → A q) (hAs : zAs D zcnm zasg s) (hM : ∃ mir, va_Mi "[Ljava/lang/Object;" mir s) (hao : va_AO "java/lang/Object" s) (hdc : va_Nw (Cond.declares zgcN) s) (hdec : decode (zby mi) pc = .ok (.invokestatic 66, 3)) :
    zOkNat zGG D zclL zcnm l p e R s m args below meth c A ad0 pc 1 := by
  obtain ⟨x1, x2, x3, x4, x5, x6, x7, x8⟩ := hcx
  intro c0 z0 ad st st' h h' H locs cells slots rs ls Q hV hls hs hp hn0 hc hz kk
  have hp : zNco st h = some (st', h') := hp
  unfold zNco at hp
  split at hp
  · rename_i n k0 st0 _
    split at hp
    · rename_i v0 g0
      split at hp
      · rename_i hb
        cases hp
        simp only [Bool.and_eq_true, Bool.not_eq_true', decide_eq_false_iff_not] at hb
        obtain ⟨⟨⟨⟨⟨b1, b2⟩, b3⟩, b4⟩, b5⟩, b6⟩ := hb
        have b1 := Nat.le_of_ble_eq_true b1
        have b3 := Nat.le_of_ble_eq_true b3
        have b4 := Nat.le_of_ble_eq_true b4
        have b6 := Nat.le_of_ble_eq_true b6
        obtain ⟨y1, r1, rfl, e1, y2, rest, rfl, e2, hst⟩ := hs
        obtain ⟨a, ce, rfl, q1, q2, ⟨q3, q4, q5⟩, q6⟩ := hV.get g0 e2
        rw [show y1 = _ from e1]
        obtain ⟨q7, q8⟩ := q6 b1
        have q8 : va_RA s ce.cls (.object "java/lang/Object") := q8
        obtain ⟨kA, comp, u1, u2, u3, u4⟩ := q8
        have u4 : s.vm.findClass "[Ljava/lang/Object;" = some ce.cls := u4
        obtain ⟨mir, cM, kM, m1, m2, m3⟩ := hM
        cases Option.some.inj (m1.symm.trans u4)
        cases Option.some.inj (m2.symm.trans u1)
        have zs0 := zrs_size q5
        obtain ⟨v1', v2', v3', v4', v5', v6', v7', v8'⟩ := id hV
        have hcat : (rest.map fun v => v.category).sum ≤ 8 := by rw [hst.cats, ← zcat_sum]; exact b6
        obtain ⟨cAR, hAR⟩ : ∃ cAR, s.vm.findClass "java/util/Arrays" = some cAR := by
          have h9 := hts _ zco_in
          cases hf : s.vm.findClass "java/util/Arrays" with
          | some c9 => exact ⟨c9, rfl⟩
          | none => simp [Cond.before, Cond.holds, Cond.value, hf] at h9
        obtain ⟨kC, hkC, -⟩ := Vm.findClass_spec u3
        have hP : ∀ U : State, U.heap = H → s.WarmedH U.vm → zcoP { orig := a, cs := ce, n := n, mir := mir, cOA := ce.cls, cObj := comp, cAR := cAR } #[.ref a, .int n] U := by
          intro U hU hW
          have hal := hW.alike
          obtain ⟨kM', hk', he⟩ := hal.2.2 _ _ m2
          obtain ⟨kC', hkC', -⟩ := hal.2.2 _ _ hkC
          refine ⟨⟨rfl, ⟨rfl, by rw [hU]; exact q2, q3, q4.1, ⟨kM', comp, _, hk', by rw [he]; exact u2, rfl⟩, by rw [hal.findClass]; exact u4, ⟨kM', hk', by rw [he]; exact u2, by rw [he]; exact m3⟩, by rw [hal.findClass]; exact u3, ⟨kC', hkC'⟩, by rw [hal.findClass]; exact hAR, by rw [znn n b2]; exact Int.natCast_nonneg _, Nat.le_refl _, by show n.toNatClampNeg * 4 ≤ _; omega, by show ce.slots.size < _; omega, ?_⟩, NotFace.move hal (notFace_of_selects (hts _ zco_s2)), rfl⟩, hao.moved hal, hdc.warmD hW⟩
          intro i hi
          have hi : i < ce.slots.size := hi
          obtain ⟨x, hx⟩ := zg_of_lt (l := v0) (n := i) (by omega)
          obtain ⟨w, y1, y2⟩ := q5.get hx
          rw [Array.getElem?_toList] at y1
          refine ⟨w, y1, ?_⟩
          rcases zelA_spec (List.all_eq_true.mp b5 x (zg_mem hx)) with rfl | ⟨k, ci, fs, rfl, y3, y4⟩
          · exact Or.inl y2
          · obtain ⟨b, cb, rfl, z1, z2, ⟨z3, z4, z5, -⟩, -⟩ := hV.get y3 y2
            obtain ⟨⟨kv, o1⟩, comp', kc, o2, o3, o4⟩ := hAs ci 16 y4
            have o2 : s.vm.findClass "java/lang/Object" = some comp' := o2
            cases Option.some.inj (o2.symm.trans u3)
            obtain ⟨kv', p1, -⟩ := hal.2.2 _ _ o1
            exact Or.inr ⟨b, cb, rfl, by rw [hU]; exact z2, (fun q hq => by rw [hq] at z4; cases z4), ⟨kv', by rw [z5]; exact p1⟩, by rw [z5, hal.assignable]; exact o4⟩
        have hrun := vx_runS (p := p) (e := e) (m := m) (below := below) (meth := meth) (c := c) (H := H) (locs := locs) (cells := cells) (slots := slots) (own := zown mi) (index := 66) (cc := zby mi) (nL := ls.size) (g := F0 m pc ls (.int n :: .ref a :: rest)) (rest := rest) (As := [.ref a, .int n]) (Ts := zT) ⟨x1, x2, by rw [hls], x6, hts⟩ (zcoMet l { orig := a, cs := ce, n := n, mir := mir, cOA := ce.cls, cObj := comp, cAR := cAR })
          (va_cwS (R := R) (own := zown mi) (index := 66) 2 hts (zGoodApp (zallc (by rw [hown]; exact zco_lk) (zallc zco_st (zall1 zco_in))) (fun w hw => by
            have hm : w ∈ zT := by
              rcases List.mem_cons.mp hw with rfl | q
              · exact zco_c2
              · exact q
            exact ⟨hm, good_of_word (zT_good hm)⟩)) rfl rfl rfl (by decide +kernel) ⟨by show 3 + 1 ≤ _; omega, by show 8 + (2 + 11) + 64 ≤ _; omega⟩)
          ⟨fun _ _ _ _ hh => hh, hP⟩ rfl rfl rfl rfl (lv_room hcat) hdec ⟨by show cells + 1 ≤ _; have : h.2.1 + 1 ≤ c0 + R.cells := hc; omega, by show slots + n.toNatClampNeg ≤ _; have : h.2.2 + n.toNatClampNeg ≤ z0 + R.slots := hz; omega⟩
        intro T hT X
        rcases hrun T hT X with ⟨v, st₀, t, T', L1, i0, X', i1, i2, i3, i4, i5⟩ | ⟨q, st₀, t, T', L1, E, ce9, i0, X', i1, i2, i3, i4, -⟩
        · obtain ⟨j1, j2, j3⟩ := i4
          cases j1
          obtain ⟨f1, f2⟩ := zAlike_cell j3
          rw [i0] at f1 f2 j2
          have hmn : Jvm.Free.CopyOfC.Copy3.mn { orig := a, cs := ce, n := n, mir := mir, cOA := ce.cls, cObj := comp, cAR := cAR } = ce.slots.size.toInt32 := by
            show (if n < ce.slots.size.toInt32 then n else ce.slots.size.toInt32) = _
            rw [if_neg]
            intro h9
            have h10 := Int32.lt_iff_toInt_lt.mp h9
            rw [znn n b2, znn ce.slots.size.toInt32 (zclamp_nn (by omega)), zclamp (by omega)] at h10
            omega
          have hce : copied ce (Jvm.Free.CopyOfC.Copy3.fresh { orig := a, cs := ce, n := n, mir := mir, cOA := ce.cls, cObj := comp, cAR := cAR }) 0 0 (Jvm.Free.CopyOfC.Copy3.mn { orig := a, cs := ce, n := n, mir := mir, cOA := ce.cls, cObj := comp, cAR := cAR }) = (Jvm.Free.CopyOfC.Copy3.fresh { orig := a, cs := ce, n := n, mir := mir, cOA := ce.cls, cObj := comp, cAR := cAR }).storeRun 0 (ce.stretch 0 ce.slots.size) := by
            rw [hmn]
            show Cell.storeRun _ _ (Cell.stretch ce 0 ce.slots.size.toInt32.toNatClampNeg) = _
            rw [zclamp (by omega)]
            rfl
          rw [hce] at j2
          have hfac := Cell.storeRun_facts (Jvm.Free.CopyOfC.Copy3.fresh { orig := a, cs := ce, n := n, mir := mir, cOA := ce.cls, cObj := comp, cAR := cAR }) 0 (ce.stretch 0 ce.slots.size)
          have hfs : (Jvm.Free.CopyOfC.Copy3.fresh { orig := a, cs := ce, n := n, mir := mir, cOA := ce.cls, cObj := comp, cAR := cAR }).slots = Array.replicate n.toNatClampNeg .null := rfl
          have hlist := zcopied_list ce (Jvm.Free.CopyOfC.Copy3.fresh { orig := a, cs := ce, n := n, mir := mir, cOA := ce.cls, cObj := comp, cAR := cAR }) 0 0 ce.slots.size (by omega) (by rw [hfs, Array.size_replicate]; omega)
          rw [hfs] at hlist
          obtain rfl : L1 = [] := by
            cases L1 with
            | nil => rfl
            | cons z zs => exact absurd (i1 z List.mem_cons_self) (fun q => q)
          rw [List.append_nil] at X'
          have hV1 := hV.push2 (H1 := T'.heap) (n := n.toNatClampNeg) (o := .inl (21, v0 ++ List.replicate (n.toNatClampNeg - v0.length) .null)) hA (by rw [i2]; exact j2) ⟨by rw [hfac.2.1]; exact (fun q => by cases q), ⟨fun k => by rw [hfac.2.1]; exact (fun q => by cases q), _, by rw [hfac.1]; exact u1, comp, u2⟩, by
            rw [hlist]
            show zrs ad _ (_ ++ (List.take ce.slots.size (List.drop 0 ce.slots.toList) ++ List.drop (0 + ce.slots.size) (Array.replicate n.toNatClampNeg Value.null).toList))
            rw [List.take_zero, List.nil_append, List.drop_zero, ← Array.length_toList, List.take_length, Array.toList_replicate, List.drop_replicate, Nat.zero_add, q5.length]
            exact q5.append (zrs.rep (show zr ad .null .null from rfl) _)⟩ ⟨by rw [hfac.2.1]; rfl, (show va_RA s _ (.object "java/lang/Object") by rw [hfac.1]; exact ⟨_, comp, u1, u2, u3, u4⟩)⟩ (by rw [i2]; exact f1)
          obtain ⟨t2, z1, z2⟩ := kk [H.size] T'.heap locs (cells + 1) (slots + n.toNatClampNeg) (.ref H.size :: rest) hV1 ⟨.ref H.size, rest, rfl, ⟨H.size, by rw [← v1'.1]; exact zg_end ad H.size, rfl⟩, hst.app _⟩ T' rfl X'
          rw [i0] at i5
          exact ⟨t2, i5 t2 z1, z2⟩
        · exact absurd i4 (fun z => z)
      · cases hp
    · cases hp
  · cases hp

end ZNAU

/-! THE START, fifth text: the claim out of the law in the virtual machine (begun from the skeleton that is given) -/
section ZMAI
def lw_P (b : Addr) (xs : List Int32) (args : Array Value) (s : State) : Prop := args = #[.ref b] ∧ s.IntsAt b xs ∧ xs.length ≤ 3072 ∧ (Jvm.Cond.and given_1 narrow_1).before args s = true
def lw_Q (_ : Array Value) (s : State) (o : Outcome) (t : State) : Prop := o = .returned (some (.int 1)) ∧ Framed s o t [] 601024 7293034
/-- the fixed objects -/
def zro0 (xs : List Int32) : List zO := .inl (0, xs.map (fun x => Value.int x)) :: zroL
/-- WHAT IS LEFT: the law in the virtual machine answers true, within the room -/
def zClaim : Prop := ∀ xs : List Int32, xs.length ≤ 3072 → ∃ (n d : Nat) (h' : zH), d ≤ 1390 ∧ zEv zGG n d 0 0 (zent [.ref 0] 7) [] (zro0 xs, 0, 0) = some (.inl (some (.int 1)), h') ∧ h'.2.1 ≤ 601024 ∧ h'.2.2 ≤ 7293034
theorem zatoms {ws : List Jvm.Cond} {args : Array Value} {s : State} (h : ∀ c ∈ ws, c.before args s = true) : (allAtoms ws).before args s = true := by
  induction ws with
  | nil => rfl
  | cons a l ih =>
    show (Cond.and a (allAtoms l)).before args s = true
    rw [Cond.before_and, Bool.and_eq_true]
    exact ⟨h a List.mem_cons_self, ih fun c hc => h c (List.mem_cons_of_mem _ hc)⟩
theorem zselP {y z : MethodName} {s : State} {args : Array Value} {n : Nat} (hy : y.cls ≠ "java/lang/invoke/MethodHandle" ∧ y.cls ≠ "java/lang/invoke/VarHandle") {C : String}
    (hins : (Cond.instantiable C n).before args s = true) (hpriv : (Cond.privateMethod y).before args s = true) (hinst : (Cond.instanceMethod y).before args s = true) (hz : (Cond.selects C z z).before args s = true) (hzc : z.cls = y.cls) :
    (Cond.selects C y y).before args s = true := by
  obtain ⟨c, k, hc, hk, -⟩ := Cond.instantiable_spec hins
  obtain ⟨mk, methM, hnamed, hmethM, -, -⟩ := Cond.instanceMethod_spec hinst
  have hfound : s.methodFound? y.cls y.name y.desc = some mk := State.methodFound?_of_named hnamed hy
  have hsel : selectMethod {} s.vm c mk = .method mk := selectMethod_private hmethM (Cond.privateMethod_at hpriv mk methM hnamed hmethM)
  obtain ⟨c', r, m, -, -, hzn, -, kz, hkz, hni⟩ := Cond.selects_spec hz
  have e : m.cls = mk.cls := by
    have h1 := findClass_of_methodNamed hzn
    have h2 := findClass_of_methodNamed hnamed
    rw [hzc] at h1
    exact Option.some.inj (h1.symm.trans h2)
  rw [e] at hkz
  simp only [Cond.before, Cond.holds, Cond.value, hc, hfound, hnamed, hsel, hkz]
  simp
  exact hni
set_option maxRecDepth 20000 in
theorem zT_ok {args : Array Value} {s : State} (hts : ∀ w ∈ lw_tbl, w.before args s = true) : ∀ w ∈ zT, w.before args s = true := by
  intro w hw
  rcases List.mem_append.mp hw with q | q
  · rcases List.mem_cons.mp q with rfl | q
    · exact zselP (z := ⟨"java/lang/AbstractStringBuilder", "isLatin1", "()Z"⟩) ⟨by decide +kernel, by decide +kernel⟩ (hts _ (zt_2 161 rfl)) (hts _ (zt_2 195 rfl)) (hts _ (zt_2 196 rfl)) (hts _ (zt_2 230 rfl)) rfl
    · rw [List.mem_singleton.mp q]
      exact zselP (z := ⟨"java/lang/AbstractStringBuilder", "isLatin1", "()Z"⟩) ⟨by decide +kernel, by decide +kernel⟩ (hts _ (zt_2 161 rfl)) (hts _ (zt_2 199 rfl)) (hts _ (zt_2 200 rfl)) (hts _ (zt_2 230 rfl)) rfl
  · exact hts w (List.mem_filter.mp q).1
theorem zclean {s t : State} {o : Outcome} {L : List Loc} {mc ms : Nat} (h : FrameEnd s o t L mc ms) (hL : ∀ q ∈ L, s.heap.size ≤ q.base) (hc : mc ≤ 601024) (hs : ms ≤ 7293034) : Framed s o t [] 601024 7293034 := by
  obtain ⟨h1, h2, g1, g2, g3, g4, g5, g6⟩ := h
  refine ⟨h1, h2, g1, g2, Nat.le_trans g3 (by omega), g4, Nat.le_trans g5 hs, fun a c ha => ?_⟩
  obtain ⟨c', q1, q2, q3, q4⟩ := g6 a c ha
  refine ⟨c', q1, q2, q3, fun i _ => q4 i fun hm => ?_⟩
  have h9 := hL _ hm
  have h8 := (Array.getElem?_eq_some_iff.mp ha).1
  exact absurd (Nat.lt_of_lt_of_le h8 h9) (Nat.lt_irrefl _)
theorem lw_walk (hC : zClaim) (l : Launch) (hl : l.stackTraces = false) (b : Addr) (xs : List Int32) : MetFree l x (headSpec (Jvm.Cond.code x code maxLocals ret :: tables_1) room_1) (lw_P b xs) (fun _ _ _ _ _ => True) lw_Q := by
  intro p e ha hc hk s m args below hf happ hP hK
  obtain ⟨a1, a2, a3, a4, a5, a6, a7, a8⟩ := (Spec.appliesLoose_iff hf).mp happ
  obtain ⟨rfl, hx, hbd, hgv⟩ := hP
  obtain ⟨scr, harrAt, hlist, hof, hsmall⟩ := hx
  obtain ⟨hcb, hkn, -, -⟩ := State.arrayAt?_spec harrAt
  have hts0 : ∀ c ∈ (Jvm.Cond.code x code maxLocals ret :: tables_1), c.before #[Value.ref b] s = true := atoms_spec (ws := Jvm.Cond.code x code maxLocals ret :: tables_1) a8
  have hts : ∀ w ∈ lw_tbl, w.before #[Value.ref b] s = true := k2_hts_sels lw_privs (fun w hw => hts0 w (List.mem_cons_of_mem _ hw)) lw_privs_ok
  have htT := zT_ok hts
  have hg := zGv_of hts hgv
  obtain ⟨D, hD⟩ := zD_of hg htT
  obtain ⟨ad, hfx⟩ := zFx_of (zevs hg)
  have hPo := zPl hg hfx hD
  have hap := zap_of htT hD hPo
  have hI := zI_of hfx.1 hD hPo
  have hA : ∀ a : Nat, a < s.heap.size → ¬ zA zn0 ad s.heap.size a := by
    intro a h1 h2
    rcases h2 with ⟨k, h3, h4⟩ | h2
    · have h5 := zg_lt h4
      have h3 : 139 ≤ k := h3
      rw [hfx.1] at h5
      omega
    · omega
  have hK2 := zK2_of (A := zA zn0 ad s.heap.size) hg hfx hD hA
  have hR : zRep D zclL zcnm zn0 ad (zro0 xs) s s.heap := by
    refine ⟨hfx.1, fun k o ho => ?_⟩
    match k, ho with
    | 0, ho =>
      cases ho
      exact ⟨b, scr, hfx.2.1, hcb, ⟨hkn, hof, by rw [hlist]; exact zrs_ints xs⟩, fun h => absurd h (by decide)⟩
    | k + 1, ho =>
      obtain ⟨a, cell, h1, h2, h3⟩ := hPo k o ho
      refine ⟨a, cell, h1, h2, h3, fun h => ?_⟩
      have h4 := zg_lt h1
      rw [hfx.1] at h4
      have h : 139 ≤ k + 1 := h
      omega
  obtain ⟨n, d, h', hd, hev, hcc, hss⟩ := hC xs hbd
  have hmet := (zmachine D l hl hap n).2 d 0 [.ref 0] (zro0 xs, 0, 0) _ h' ad s.heap.size hev (by decide) (Nat.le_refl _)
  have hroom : s.hasRoom e.platform (zRm d (h'.2.1 - 0) (h'.2.2 - 0)) = true := by
    refine hasRoom_mono (r' := room_1) ?_ ?_ ?_ ?_ a7
    · show d + 10 ≤ 2048; omega
    · show 60 * d + 200 ≤ 84000; omega
    · show h'.2.1 - 0 ≤ 601024; omega
    · show h'.2.2 - 0 ≤ 7293034; omega
  have hpre : (headSpec (zw 0) (zRm d (h'.2.1 - 0) (h'.2.2 - 0))).pre.before #[Value.ref b] s = true := by
    show (allAtoms (zw 0)).before _ _ = true
    refine zatoms (fun w hw => ?_)
    rcases List.mem_cons.mp hw with rfl | q
    · exact hts0 _ List.mem_cons_self
    · exact htT w q
  obtain ⟨k, oc, w1, w2, w3, w4⟩ := hmet p e ha hc hk s m #[.ref b] below hf ((Spec.appliesLoose_iff hf).mpr ⟨a1, a2, a3, a4, a5, a6, hroom, hpre⟩) ⟨[.ref b], rfl, ⟨.ref b, [], rfl, ⟨b, hfx.2.1, rfl⟩, rfl⟩, rfl, hR, hI, hK2⟩ trivial
  rcases w4 with ⟨⟨ad', w, e1, e2, e3⟩, L, hL1, hL2⟩ | ⟨q, -, E, ce, L, hx, -⟩
  · obtain ⟨v, e4, e5⟩ := e2
    subst e4
    rw [show v = .int 1 from e5] at e1
    refine ⟨k, oc, w1, w2, w3, e1, zclean hL1 (fun q hq => ?_) (by show h'.2.1 - 0 ≤ _; omega) (by show h'.2.2 - 0 ≤ _; omega)⟩
    rcases hL2 q hq with ⟨k, h3, h4⟩ | h2
    · have h5 := zg_lt h4
      have h3 : 139 ≤ k := h3
      rw [hfx.1] at h5
      omega
    · exact h2
  · exact absurd hx (fun q => q)
theorem lw_pre_spec {args : Array Value} {s : State} (h : (Jvm.Cond.and given_1 narrow_1).before args s = true) (hr : rest_1_c.before args s = true) : ∃ (b : Addr) (xs : List Int32), lw_P b xs args s := by
  have hs := flat_of_before _ h
  have hq := flat_of_before _ hr
  have hc : (Cond.count 1).before args s = true := hs _ (by decide +kernel)
  have harr : (Cond.arrayOf (.arg 0) .int).before args s = true := hs _ (by decide +kernel)
  have hle : (Cond.le (.length (.arg 0)) (.int 3072)).before args s = true := hs _ (by decide +kernel)
  have hlen : (Cond.isInt (.length (.arg 0))).before args s = true := hq _ (by decide +kernel)
  have hall : (Cond.all (.arg 0) (.isInt (.elem (.arg 0) (.index 0)))).before args s = true := hq _ (by decide +kernel)
  obtain ⟨b, xs, hb, hx⟩ := State.ints_of_pre rfl harr hlen hall
  have hsm : xs.length < 2 ^ 31 := hx.choose_spec.2.2.2
  have hev : (Term.length (.arg 0)).eval args s none [] s = some (.int xs.length.toInt32) := hx.length_eval hb
  have hv := Cond.le_ints hev (show (Term.int 3072).eval args s none [] s = some (.int 3072) from rfl)
  have hd : xs.length.toInt32 ≤ 3072 := by
    simpa [Cond.before, Cond.holds, hv] using hle
  have hN : xs.length ≤ 3072 := (Int32.ofNat_le_ofNat hsm (by decide)).mp (show Int32.ofNat xs.length ≤ Int32.ofNat 3072 from hd)
  exact ⟨b, xs, Cond.one_arg hc (show args[0]? = some (.ref b) from hb), hx, hN, h⟩
theorem lw_comes (hC : zClaim) (l : Launch) (hl : l.stackTraces = false) : Comes l x (Jvm.Cond.code x code maxLocals ret :: tables_1) room_1 (fun tb e args s => Calls_1 tb e args s ∧ rest_1 tb e args s ∧ Pre_1 tb e args s)
    (fun _ _ args s o t => lw_Q args s o t) := by
  intro p e ha hc hk s m args below hf hfit hheap happ hpre
  obtain ⟨b, xs, hP⟩ := lw_pre_spec hpre.2.2 hpre.2.1
  obtain ⟨k, o, h1, h2, h3, hQ⟩ := lw_walk hC l hl b xs p e ha hc hk s m args below hf ((Spec.applies_iff_loose hf).mp happ).1 hP trivial
  exact ⟨k, o, h1, h2, h3, hQ⟩
theorem lw_frame {s t : State} {o : Outcome} {args : Array Value} (h : Framed s o t [] 601024 7293034) :
    Framed s o t (fieldLocs frame_1_writes args s ++ arrayLocs frame_1_arrays args s ++ staticLocs frame_1_statics s) 601024 7293034 := h
theorem lw_limb (hC : zClaim) (L : Cond) (hL : ∀ (args : Array Value) (s t : State), L.after args s (.returned (some (.int 1))) t = true) :
    ArmFor flags0 classFile x code maxLocals ret World_1 tables_1 room_1 Calls_1 rest_1 Pre_1
      (fun tb e a s o t => postC L tb e a s o t ∧ Framed s o t (fieldLocs frame_1_writes a s ++ arrayLocs frame_1_arrays a s ++ staticLocs frame_1_statics s) 601024 7293034) := by
  intro l hfl _ _ p e ha hc hk s m args below hf hfit hheap happ hpre
  have hl : l.stackTraces = false := by
    unfold Launch.stackTraces
    rw [hfl]
    decide +kernel
  obtain ⟨k, o, h1, h2, h3, rfl, hF⟩ := lw_comes hC l hl p e ha hc hk s m args below hf hfit hheap happ hpre
  exact ⟨k, _, h1, h2, h3, hL args s _, lw_frame hF⟩
theorem i_vc_of (hC : zClaim) : Claimed_1_1 ∧ Claimed_1_2 := ⟨lw_limb hC limb_1_1 (fun args s t => by simp [limb_1_1, Cond.after, Cond.holds, Cond.value]), lw_limb hC limb_1_2 (fun args s t => Cond.after_iff.mpr (by
  first | (rw [show limb_1_2 = Cond.eq .result (.int 1) from rfl, Cond.eq_ints (x := 1) (y := 1) rfl rfl]; simp; done) | (simp [limb_1_2, Cond.value, Term.eval]; done)))⟩
end ZMAI

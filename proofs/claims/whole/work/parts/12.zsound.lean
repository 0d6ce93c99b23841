/-! THE VIRTUAL MACHINE, eleventh text: the machine does as the virtual one -/
section ZSOUND
theorem zRep.kept {D : va_G} {cl : List vw_C} {cnm : Nat → String} {n0 : Nat} {ad : List Nat} {h : List zO} {U : State} {H H1 : Heap} (hR : zRep D cl cnm n0 ad h U H) (hq : ∀ q : Nat, q < H.size → H1[q]? = H[q]?) : zRep D cl cnm n0 ad h U H1 :=
  ⟨hR.1, fun k o hk => by obtain ⟨a, ce, h1, h2, h3, h4⟩ := hR.2 k o hk; exact ⟨a, ce, h1, by rw [hq a (hR.lt h1)]; exact h2, h3, h4⟩⟩
variable (G : zG) (D : va_G) (cl : List vw_C) (cnm : Nat → String) (K : List Nat → (Nat → Prop) → State → Prop) (l : Launch) (yv : Nat → MethodName) (byt : Nat → ByteArray) (own : Nat → String) (wv : Nat → List Cond) (tab : Nat → List (Nat × Nat × Nat × Nat))
def zBodyP (n : Nat) : Prop := ∀ (d mi pc : Nat) (L : List (Option Value)) (st : List Value) (h : zH) (o : zRs) (h' : zH), zEv G n d mi pc L st h = some (o, h') →
  ∀ (p : Program) (e : Env) (R : Room) (s : State) (m : MethodId) (args : Array Value) (below : List Frame) (meth : Method) (c : Code) (ad0 : List Nat) (c0 z0 : Nat) (ad : List Nat) (H : Heap) (locs : List Loc) (cells slots : Nat) (ls : Array Slot) (rs : List Value),
    zCx G byt own p R s m meth c mi d → (∀ (pc : Nat) (row : zRow), zGP G mi pc = some row → zOkRow G D cl cnm l yv byt own wv p e R s m args below meth c (zA (zGn G) ad0 s.heap.size) ad0 mi pc row) → K ad0 (zA (zGn G) ad0 s.heap.size) s → zAs D cnm (zGas G) s → zGn G ≤ h.1.length →
    zInv D cl cnm (zGn G) s (zA (zGn G) ad0 s.heap.size) ad0 c0 z0 ad h H locs cells slots → zL ad L ls (zGmx G mi) → zrs ad st rs → h'.2.1 ≤ c0 + R.cells → h'.2.2 ≤ z0 + R.slots →
    W p l e R s m args below meth c H locs cells slots (vx_MQ below (zQo G D cl cnm ad0 s.heap.size o h') (zXo G D cl cnm ad0 s.heap.size o h') args s (h'.2.1 - c0) (h'.2.2 - z0) (zA (zGn G) ad0 s.heap.size)) (F0 m pc ls rs)
def zMetP (n : Nat) : Prop := ∀ (d mi : Nat) (vs : List Value) (h : zH) (o : zRs) (h' : zH) (ad : List Nat) (sz : Nat), zEv G n d mi 0 (zent vs (zGmx G mi)) [] h = some (o, h') → (zsl vs).length ≤ zGmx G mi → zGn G ≤ h.1.length →
  vx_Met l (yv mi) (wv mi) (zRm d (h'.2.1 - h.2.1) (h'.2.2 - h.2.2)) (zPc G D cl cnm K ad vs h sz) (zQo G D cl cnm ad sz o h') (zXo G D cl cnm ad sz o h') (h'.2.1 - h.2.1) (h'.2.2 - h.2.2) (zA (zGn G) ad sz)
/-- what is known of a body besides -/
def zBx (meth : Method) (c : Code) (mi : Nat) : Prop := c.exceptionTable.toList = tableOf (tab mi) ∧ meth.name = (yv mi).name
/-- a method's contract out of its body -/
def zOkM (mi : Nat) : Prop := ∀ (rm : Room) (Pc : Array Value → State → Prop) (Qc : Array Value → State → Outcome → State → Prop) (XC : String → State → State → Prop) (mc ms : Nat) (free : Addr → Prop) (d : Nat), d + 10 ≤ rm.frames → 60 * d + 200 ≤ rm.locals →
  (∀ (p : Program) (e : Env) (s : State) (m : MethodId) (args : Array Value) (below : List Frame) (meth : Method) (c : Code), zCx G byt own p rm s m meth c mi d → zBx yv tab meth c mi → (∀ w ∈ wv mi, w.before args s = true) → Pc args s →
    W p l e rm s m args below meth c s.heap [] 0 0 (vx_MQ below Qc XC args s mc ms free) (entryFrame m args (zGmx G mi))) → vx_Met l (yv mi) (wv mi) rm Pc Qc XC mc ms free
/-- the rows' facts, out of the words and the constants' facts -/
def zOkRows : Prop := ∀ (mi : Nat) (p : Program) (e : Env) (R : Room) (s : State) (m : MethodId) (args : Array Value) (below : List Frame) (meth : Method) (c : Code) (d : Nat) (ad0 : List Nat), zCx G byt own p R s m meth c mi d → zBx yv tab meth c mi → (∀ w ∈ wv mi, w.before args s = true) → K ad0 (zA (zGn G) ad0 s.heap.size) s →
  ∀ (pc : Nat) (row : zRow), zGP G mi pc = some row → zOkRow G D cl cnm l yv byt own wv p e R s m args below meth c (zA (zGn G) ad0 s.heap.size) ad0 mi pc row
theorem zMet_of_body {n : Nat} (hM : ∀ mi d, (∃ L st h r, zEv G n d mi 0 L st h = some r) → zOkM G l yv byt own wv tab mi) (hR : zOkRows G D cl cnm K l yv byt own wv tab) (hAs : ∀ ad A s, K ad A s → zAs D cnm (zGas G) s) (hB : zBodyP G D cl cnm K l yv byt own wv n) : zMetP G D cl cnm K l yv wv n := by
  intro d mi vs h o h' ad sz hev hvs hn0
  refine hM mi d ⟨_, _, _, _, hev⟩ _ _ _ _ _ _ _ d (Nat.le_refl _) (Nat.le_refl _) fun p e s m args below meth c hcx hbx hws hpc => ?_
  obtain ⟨ws, rfl, q2, q3, q4, q5, q6⟩ := hpc
  subst q3
  rw [lg_entry_eq]
  have hV : zInv D cl cnm (zGn G) s (zA (zGn G) ad s.heap.size) ad h.2.1 h.2.2 ad h s.heap [] 0 0 :=
    ⟨q4, q5, va_S.rf, fun k a hk ha => Or.inl ⟨k, hk, ha⟩, ⟨[], by rw [List.append_nil]⟩, fun k a hk ha => absurd (zg_lt ha) (by omega), rfl, rfl⟩
  exact hB d mi 0 _ [] h o h' hev p e (zRm d (h'.2.1 - h.2.1) (h'.2.2 - h.2.2)) s m ws.toArray below meth c ad h.2.1 h.2.2 ad s.heap [] 0 0 _ [] hcx (hR mi p e _ s m _ below meth c d ad hcx hbx hws q6) q6 (hAs _ _ _ q6) hn0 hV (zent_zL q2 hvs) rfl (by show h'.2.1 ≤ h.2.1 + (h'.2.1 - h.2.1); omega) (by show h'.2.2 ≤ h.2.2 + (h'.2.2 - h.2.2); omega)
variable {G D cl cnm K l yv byt own wv}
/-- the end of a body -/
theorem zret_post {s : State} {ad0 : List Nat} {c0 z0 : Nat} {ad : List Nat} {h : zH} {H : Heap} {locs : List Loc} {cells slots : Nat} {args : Array Value} {v : Option Value} {w : Option Value} (hV : zInv D cl cnm (zGn G) s (zA (zGn G) ad0 s.heap.size) ad0 c0 z0 ad h H locs cells slots) (hr : zro ad v w) :
    ∀ t : State, t.heap = H → s.WarmedH t.vm → zQo G D cl cnm ad0 s.heap.size (.inl v) h args s (.returned w) t := by
  intro t ht hW
  obtain ⟨v1, v2, v3, v4, v5, v6, v7, v8⟩ := hV
  exact ⟨ad, w, rfl, hr, v5, by rw [ht]; exact zRep.moved hW.alike v1, v2, v6, v3.F ht⟩
set_option maxHeartbeats 4000000 in
theorem zRt_sound {p : Program} {e : Env} {R : Room} {s : State} {m : MethodId} {args : Array Value} {below : List Frame} {meth : Method} {c : Code} {ad0 : List Nat} {c0 z0 : Nat} {ad : List Nat} {h : zH} {H : Heap} {locs : List Loc} {cells slots : Nat} {ls : Array Slot} {st rs : List Value} {i : Instr} {pc : Nat} {rt : Option FieldType} {v : Option Value} {cc : ByteArray}
    (hexec : p.tables.exec = Jvm.exec) (hb : c.code = cc) (hret : meth.sig.returnType = rt) (hlocks : meth.locks = false) (hdg : decode cc pc = .ok (i, zlen i)) (hV : zInv D cl cnm (zGn G) s (zA (zGn G) ad0 s.heap.size) ad0 c0 z0 ad h H locs cells slots) (hs : zrs ad st rs) (hp : zRt rt i st = some v) :
    W p l e R s m args below meth c H locs cells slots (vx_MQ below (zQo G D cl cnm ad0 s.heap.size (.inl v) h) (zXo G D cl cnm ad0 s.heap.size (.inl v) h) args s (h.2.1 - c0) (h.2.2 - z0) (zA (zGn G) ad0 s.heap.size)) (F0 m pc ls rs) := by
  obtain ⟨-, -, v3, -, -, -, v7, v8⟩ := id hV
  rw [show h.2.1 - c0 = cells by omega, show h.2.2 - z0 = slots by omega]
  refine vx_ret ?_
  unfold zRt at hp
  split at hp
  · split at hp
    · cases hp
      rw [show rs = [] from hs]
      exact W.vret hexec hb hret (zret_post (v := none) hV rfl) v3.2.2 hdg hlocks
    · cases hp
  · split at hp
    · rename_i ty x
      split at hp
      · rename_i hz
        cases hp
        obtain ⟨w, rs', rfl, h1, h2⟩ := hs
        rw [show rs' = [] from h2, show w = _ from h1]
        refine W.zret hexec hb hret ?_ (zret_post (v := some (.int x)) hV ⟨_, rfl, rfl⟩) v3.2.2 hdg hlocks
        unfold zrtn at hz
        split at hz
        · rfl
        · rw [Bool.or_eq_true, beq_iff_eq, beq_iff_eq] at hz
          rcases hz with rfl | rfl <;> decide
        · exact of_decide_eq_true hz
        · exact of_decide_eq_true hz
        · cases hz
      · cases hp
    · cases hp
  · split at hp
    · rename_i x
      cases hp
      obtain ⟨w, rs', rfl, h1, h2⟩ := hs
      rw [show rs' = [] from h2, show w = _ from h1]
      exact W.lret hexec hb hret (zret_post (v := some (.long x)) hV ⟨_, rfl, rfl⟩) v3.2.2 hdg hlocks
    · cases hp
  · split at hp
    · rename_i n x
      cases hp
      obtain ⟨w, rs', rfl, ⟨b, h1, rfl⟩, h2⟩ := hs
      rw [show rs' = [] from h2]
      exact W.aret hexec hb hret (Or.inl ⟨n, rfl⟩) (Or.inr ⟨b, rfl⟩) (zret_post (v := some (.ref x)) hV ⟨_, rfl, b, h1, rfl⟩) v3.2.2 hdg hlocks
    · rename_i n
      cases hp
      obtain ⟨w, rs', rfl, h1, h2⟩ := hs
      rw [show rs' = [] from h2, show w = _ from h1]
      exact W.aret hexec hb hret (Or.inl ⟨n, rfl⟩) (Or.inl rfl) (zret_post (v := some .null) hV ⟨_, rfl, rfl⟩) v3.2.2 hdg hlocks
    · rename_i t x
      cases hp
      obtain ⟨w, rs', rfl, ⟨b, h1, rfl⟩, h2⟩ := hs
      rw [show rs' = [] from h2]
      exact W.aret hexec hb hret (Or.inr ⟨t, rfl⟩) (Or.inr ⟨b, rfl⟩) (zret_post (v := some (.ref x)) hV ⟨_, rfl, b, h1, rfl⟩) v3.2.2 hdg hlocks
    · rename_i t
      cases hp
      obtain ⟨w, rs', rfl, h1, h2⟩ := hs
      rw [show rs' = [] from h2, show w = _ from h1]
      exact W.aret hexec hb hret (Or.inr ⟨t, rfl⟩) (Or.inl rfl) (zret_post (v := some .null) hV ⟨_, rfl, rfl⟩) v3.2.2 hdg hlocks
    · cases hp
  · cases hp
set_option maxHeartbeats 4000000 in
theorem zCall_sound {n : Nat} (hK : zKok K) (hnt : ∀ (k : Nat) (st st' : List Value) (h h' : zH), zGnt G k st h = some (st', h') → zUp h h') (hmx : ∀ mj, zGmx G mj ≤ 41) (hB : zBodyP G D cl cnm K l yv byt own wv n) (hM : zMetP G D cl cnm K l yv wv n) {thr : Bool} {d mi pc a1 a3 : Nat} {L : List (Option Value)} {st : List Value} {h : zH} {o : zRs} {h' : zH} (hp : zCall G (zEv G n) thr d mi pc a1 a3 L st h = some (o, h'))
    {p : Program} {e : Env} {R : Room} {s : State} {m : MethodId} {args : Array Value} {below : List Frame} {meth : Method} {c : Code} {ad0 : List Nat} {c0 z0 : Nat} {ad : List Nat} {H : Heap} {locs : List Loc} {cells slots : Nat} {ls : Array Slot} {rs : List Value}
    (hcx : zCx G byt own p R s m meth c mi d) (hrow : ∀ (pc : Nat) (row : zRow), zGP G mi pc = some row → zOkRow G D cl cnm l yv byt own wv p e R s m args below meth c (zA (zGn G) ad0 s.heap.size) ad0 mi pc row) (hKs : K ad0 (zA (zGn G) ad0 s.heap.size) s) (hAs : zAs D cnm (zGas G) s) (hn0 : zGn G ≤ h.1.length)
    (hV : zInv D cl cnm (zGn G) s (zA (zGn G) ad0 s.heap.size) ad0 c0 z0 ad h H locs cells slots) (hl : zL ad L ls (zGmx G mi)) (hs : zrs ad st rs) (hcl : h'.2.1 ≤ c0 + R.cells) (hsl : h'.2.2 ≤ z0 + R.slots)
    (hinv : zOkInv G D l yv wv p e R s m args below meth c pc a1 a3 thr) (hexc : thr = true → ∀ en r, zGhd G mi pc en = some r → zOkExc l p e R s m args below meth c pc (cnm en) r) :
    W p l e R s m args below meth c H locs cells slots (vx_MQ below (zQo G D cl cnm ad0 s.heap.size o h') (zXo G D cl cnm ad0 s.heap.size o h') args s (h'.2.1 - c0) (h'.2.2 - z0) (zA (zGn G) ad0 s.heap.size)) (F0 m pc ls rs) := by
  obtain ⟨v1, v2, v3, v4, ⟨y, v5⟩, v6, v7, v8⟩ := id hV
  obtain ⟨x1, x2, x3, x4, x5, x6, x7, x8⟩ := id hcx
  have hsz : s.heap.size ≤ H.size := v3.1
  unfold zCall at hp
  split at hp
  · cases hp
  rename_i d'
  split at hp
  · cases hp
  rename_i vs st' htk
  split at hp
  · cases hp
  rename_i hcond
  rw [Bool.and_eq_true, Bool.and_eq_true] at hcond
  have hcat := Nat.le_of_ble_eq_true hcond.1.2
  have hvs := Nat.le_of_ble_eq_true hcond.2
  obtain ⟨ws, rest, rfl, w1, w2, w3⟩ := zTk_real htk hs
  have hrest : (rest.map fun v => v.category).sum ≤ 8 := by rw [w2.cats, ← zcat_sum]; exact hcat
  have hPc : ∀ U : State, U.heap = H → s.WarmedH U.vm → zPc G D cl cnm K ad vs h H.size ws.toArray U := fun U hU hW => by
    refine ⟨ws, rfl, w1, by rw [hU], by rw [hU]; exact zRep.moved hW.alike v1, v2, ?_⟩
    rw [v5]
    rw [v5] at v4
    refine hK s U _ _ ad0 y H locs hKs v3 hU hW fun q hq => ?_
    rintro (⟨k, hk, h9⟩ | h9)
    · exact v4 k q hk h9
    · omega
  have main : ∀ (o1 : zRs) (h1 : zH), zEv G n d' a1 0 (zent vs (zGmx G a1)) [] h = some (o1, h1) → zUp h1 h' → (thr = true ∨ ∀ E st t, ¬ zXo G D cl cnm ad H.size o1 h1 E st t) →
      (∀ (ad' : List Nat) (v : Option Value) (w : Option Value) (T : State) (locs1 : List Loc), o1 = .inl v → zro ad' v w → (∃ x, ad' = ad ++ x) → zInv D cl cnm (zGn G) s (zA (zGn G) ad0 s.heap.size) ad0 c0 z0 ad' h1 T.heap locs1 (cells + (h1.2.1 - h.2.1)) (slots + (h1.2.2 - h.2.2)) →
        W p l e R s m args below meth c T.heap locs1 (cells + (h1.2.1 - h.2.1)) (slots + (h1.2.2 - h.2.2)) (vx_MQ below (zQo G D cl cnm ad0 s.heap.size o h') (zXo G D cl cnm ad0 s.heap.size o h') args s (h'.2.1 - c0) (h'.2.2 - z0) (zA (zGn G) ad0 s.heap.size)) (F0 m (pc + 3) ls (w.toList ++ rest))) →
      (∀ (ad' : List Nat) (en : Nat) (T : State) (locs1 : List Loc) (q : Addr) (ce : Cell), o1 = .inr en → (∃ x, ad' = ad ++ x) → T.heap[q]? = some ce → ce.vm = .none → s.vm.findClass (cnm en) = some ce.cls → zInv D cl cnm (zGn G) s (zA (zGn G) ad0 s.heap.size) ad0 c0 z0 ad' h1 T.heap locs1 (cells + (h1.2.1 - h.2.1)) (slots + (h1.2.2 - h.2.2)) →
        vx_W p l e R s m args below meth c T.heap locs1 (cells + (h1.2.1 - h.2.1)) (slots + (h1.2.2 - h.2.2)) (vx_MQ below (zQo G D cl cnm ad0 s.heap.size o h') (zXo G D cl cnm ad0 s.heap.size o h') args s (h'.2.1 - c0) (h'.2.2 - z0) (zA (zGn G) ad0 s.heap.size)) (F0 m pc ls rest) q) →
      W p l e R s m args below meth c H locs cells slots (vx_MQ below (zQo G D cl cnm ad0 s.heap.size o h') (zXo G D cl cnm ad0 s.heap.size o h') args s (h'.2.1 - c0) (h'.2.2 - z0) (zA (zGn G) ad0 s.heap.size)) (F0 m pc ls (ws.reverse ++ rest)) := by
    intro o1 h1 hev1 hup1 hthr kr kx
    have hup := zEv_up hnt n _ _ _ _ _ _ _ _ hev1
    have u1 := hup.1
    have u2 := hup.2.1
    have u3 := hup1.1
    have u4 := hup1.2.1
    have hmj := hmx a1
    have hrun := hinv H locs cells slots (h1.2.1 - h.2.1) (h1.2.2 - h.2.2) ws rest ls _ _ _ _ (zRm d' (h1.2.1 - h.2.1) (h1.2.2 - h.2.2)) rfl rfl (by show d' + 10 + 1 ≤ R.frames; omega) (by show 8 + (zGmx G a1 + 11) + (60 * d' + 200) ≤ R.locals; omega)
      (hM d' a1 vs h o1 h1 ad H.size hev1 hvs hn0) (zPc_blind hK) (zrcv_real hV w1 hcond.1.1) hPc (by rw [hl.1, x4]) w3 hrest (by omega) (by omega) hthr
    intro T hT X
    rcases hrun T hT X with ⟨v, st₀, t, T', L1, g0, X', g1, g2, g3, g4, g5⟩ | ⟨q, st₀, t, T', L1, E, ce, g0, X', g1, g2, g3, g4, g5, g6, g7, g8⟩
    · have hal : s.vm.Alike t.vm := by rw [← g3]; exact X'.warmed.alike
      cases o1 with
      | inr en => exact absurd g4 (fun q => q)
      | inl v0 =>
        obtain ⟨ad', w, r1, r2, r3⟩ := g4
        cases r1
        obtain ⟨i1, i2⟩ := hV.back hup g0 g2 hal g1 r3
        obtain ⟨t2, a2, b2⟩ := kr ad' v0 v T' (locs ++ L1) rfl r2 i2 i1 T' rfl X'
        exact ⟨t2, g5 t2 a2, b2⟩
    · have hal : s.vm.Alike t.vm := by rw [← g3]; exact X'.warmed.alike
      cases o1 with
      | inl v0 => exact absurd g4 (fun q => q)
      | inr en =>
        obtain ⟨rfl, ad', r3⟩ := g4
        obtain ⟨i1, i2⟩ := hV.back hup g0 g2 hal g1 r3
        obtain ⟨t2, a2, b2⟩ := kx ad' en T' (locs ++ L1) q ce rfl i2 (by rw [g2]; exact g5) g6 g7 i1 T' rfl X'
        exact ⟨t2, g8.trans a2, b2⟩
  split at hp
  · cases hp
  · rename_i v h1 hev1
    refine main _ _ hev1 (zEv_up hnt n _ _ _ _ _ _ _ _ hp) (Or.inr (fun _ _ _ q => q)) ?_ (fun _ _ _ _ _ _ q => by cases q)
    intro ad' v0 w T locs1 e1 e2 e3 e4
    cases e1
    obtain ⟨x, rfl⟩ := e3
    have hup := zEv_up hnt n _ _ _ _ _ _ _ _ hev1
    refine hB (d' + 1) mi (pc + 3) L _ h1 o h' hp p e R s m args below meth c ad0 c0 z0 _ T.heap locs1 _ _ ls _ hcx hrow hKs hAs (Nat.le_trans hn0 hup.2.2) e4 (hl.app x) ?_ hcl hsl
    cases v with
    | none => rw [show w = none from e2]; exact w2.app x
    | some v1 =>
      obtain ⟨z, rfl, e5⟩ := e2
      exact zcons e5 (w2.app x)
  · rename_i en h1 hev1
    split at hp
    · cases hp
    split at hp
    · rename_i hp0 hh
      refine main _ _ hev1 (zEv_up hnt n _ _ _ _ _ _ _ _ hp) (Or.inl rfl) (fun _ _ _ _ _ q => by cases q) ?_
      intro ad' en' T locs1 q ce e1 e3 e5 e6 e7 e4
      cases e1
      obtain ⟨x, rfl⟩ := e3
      have hup := zEv_up hnt n _ _ _ _ _ _ _ _ hev1
      have hx := hexc rfl en _ hh
      refine hx _ _ _ _ _ ls rest q ce e5 e6 e7 ?_
      exact hB (d' + 1) mi hp0 L _ h1 o h' hp p e R s m args below meth c ad0 c0 z0 _ T.heap locs1 _ _ ls _ hcx hrow hKs hAs (Nat.le_trans hn0 hup.2.2) e4 (hl.app x) ⟨.ref q, [], rfl, Or.inr ⟨q, rfl⟩, rfl⟩ hcl hsl
    · rename_i hh
      cases hp
      refine main _ _ hev1 (zUp.rf _) (Or.inl rfl) (fun _ _ _ _ _ q => by cases q) ?_
      intro ad' en' T locs1 q ce e1 e3 e5 e6 e7 e4
      cases e1
      have hx := hexc rfl en _ hh
      obtain ⟨f1, f2, f3, f4, f5, f6, f7, f8⟩ := e4
      refine hx _ _ _ _ _ _ ls rest _ _ _ q ce e5 e6 e7 (fun t ht hal => ⟨rfl, ad', f5, by rw [ht]; exact zRep.moved hal f1, f2, f6, f3.F ht⟩) f3.2.2 (by omega) (by omega)
    · cases hp
end ZSOUND

/-! THE VIRTUAL MACHINE, sixth text: the heap's instructions are the machine's own -/
section ZHPS
variable {p : Program} {l : Launch} {e : Env} {R : Room} {s : State} {m : MethodId} {args : Array Value} {below : List Frame} {meth : Method} {c : Code} {H : Heap} {locs : List Loc} {cells slots : Nat} {Q : State → Prop}
variable {cc : ByteArray} {pc nL : Nat} {ad : List Nat} {st st' : List Value} {ls : Array Slot} {rs : List Value} {D : va_G} {cl : List vw_C} {cnm : Nat → String} {n0 : Nat} {A : Nat → Prop} {ad0 : List Nat} {c0 z0 : Nat} {h h' : zH} {asg : Nat → Nat → Bool}
theorem zob_put {ci k : Nat} {fs : List Value} {v w : Value} {ce : Cell} (hap : zAp D cl) (hz : zob D cl cnm s ad (.inr (ci, fs)) ce) (hk : k < fs.length) (hr : zr ad v w) : zob D cl cnm s ad (.inr (ci, zs fs k v)) (ce.setSlot (D.2 ci k) w) := by
  obtain ⟨h1, h2, h3, r, h4, h5, h6⟩ := hz
  refine ⟨h1, h2, h3, r, h4, by rw [zs_length]; exact h5, fun j u hj => ?_⟩
  obtain ⟨x, hx⟩ := zg_of_lt hk
  by_cases e : j = k
  · subst e
    rw [zg_self fs j _ _ hx] at hj
    cases hj
    obtain ⟨w0, q1, -⟩ := h6 j x hx
    refine ⟨w, ?_, hr⟩
    have hlt := (Array.getElem?_eq_some_iff.mp q1).1
    simp [Cell.setSlot, hlt]
  · rw [zg_ne fs k j _ e] at hj
    obtain ⟨w0, q1, q2⟩ := h6 j u hj
    refine ⟨w0, ?_, q2⟩
    rw [slot_ne ce w (hap ci k j r h4 (by omega) (by have := zg_lt hj; omega) (fun q => e q.symm))]
    exact q1
theorem zob_slot {ci k : Nat} {fs : List Value} {ce : Cell} (hz : zob D cl cnm s ad (.inr (ci, fs)) ce) {x : Value} (hx : zg fs k = some x) : D.2 ci k < ce.slots.size := by
  obtain ⟨h1, h2, h3, r, h4, h5, h6⟩ := hz
  obtain ⟨w0, q1, -⟩ := h6 k x hx
  exact (Array.getElem?_eq_some_iff.mp q1).1
theorem zdef_zr (ty : Nat) : zr ad (zdef ty) (zdef ty) := by
  unfold zdef
  split <;> rfl
theorem zdef_ty {t : ArrayType} (h : zcode t ≤ 4) : defaultValue (newarray.typeOf t) = zdef (zcode t) ∧ newarray.typeOf t = zaty cnm (zcode t) ∧ componentBytes (newarray.typeOf t) ≤ 8 := by
  cases t <;> first | exact ⟨rfl, rfl, by decide⟩ | (simp [zcode] at h)
theorem zW_eq {g : JFrame} {pc' : Nat} {ls' : Array Slot} {rs' : List Value} (hg : g = F0 m pc' ls' rs') (k : W p l e R s m args below meth c H locs cells slots Q (F0 m pc' ls' rs')) : W p l e R s m args below meth c H locs cells slots Q g := hg ▸ k
set_option maxHeartbeats 8000000 in
theorem zHp_sound (hexec : p.tables.exec = Jvm.exec) (hb : c.code = cc) {i : Instr} {a1 a2 : Nat} {own : String} {tyv : Nat → Nat → FieldType} {dfv : Nat → List Value} (hdg : decode cc pc = .ok (i, zlen i)) (hown : s.vm.findClass own = some m.cls) (hap : zAp D cl) (has : zAs D cnm asg s) (hok : zOkHp D cl cnm tyv dfv s args m.cls meth.name own i a1 a2)
    (hA : ∀ q : Nat, s.heap.size ≤ q → A q) (hn0 : n0 ≤ h.1.length) (hV : zInv D cl cnm n0 s A ad0 c0 z0 ad h H locs cells slots) (hs : zrs ad st rs) (hp : zHp n0 tyv dfv asg i a1 a2 st h = some (st', h')) (hcl : h'.2.1 ≤ c0 + R.cells) (hsl : h'.2.2 ≤ z0 + R.slots)
    (kk : ∀ (x : List Nat) (H' : Heap) (locs' : List Loc) (cells' slots' : Nat) (rs' : List Value), zInv D cl cnm n0 s A ad0 c0 z0 (ad ++ x) h' H' locs' cells' slots' → zrs (ad ++ x) st' rs' → W p l e R s m args below meth c H' locs' cells' slots' Q (F0 m (pc + zlen i) ls rs')) : W p l e R s m args below meth c H locs cells slots Q (F0 m pc ls rs) := by
  have kk0 : ∀ (H' : Heap) (locs' : List Loc) (rs' : List Value), zInv D cl cnm n0 s A ad0 c0 z0 ad h' H' locs' cells slots → zrs ad st' rs' → W p l e R s m args below meth c H' locs' cells slots Q (F0 m (pc + zlen i) ls rs') := fun H' locs' rs' q1 q2 => by
    have := kk [] H' locs' cells slots rs' (by rw [List.append_nil]; exact q1) (by rw [List.append_nil]; exact q2)
    exact this
  obtain ⟨-, -, -, -, -, -, hv7, hv8⟩ := id hV
  unfold zHp at hp
  split at hp
  · -- getfield
    rename_i idx
    split at hp
    · rename_i k st0
      split at hp
      · rename_i ci fs ho
        split at hp
        · rename_i hb1
          split at hp
          · rename_i v hv
            cases hp
            have e1 := Nat.eq_of_beq_eq_true hb1
            subst e1
            obtain ⟨w, rs1, rfl, h1, h2⟩ := hs
            obtain ⟨a, ce, rfl, g2, g3, g4, -⟩ := hV.get ho h1
            obtain ⟨ref, n, d, cf, fi, kf, f, f1, f2, f3, f4⟩ := hok
            obtain ⟨y1, y2, y3, r, y4, y5, y6⟩ := g4
            obtain ⟨w, q1, q2⟩ := y6 a2 v hv
            rcases f4 with f4 | ⟨host, f4⟩
            · exact W.getf hexec hb hown f4 f1 f2 g3 y1 (by rw [f3]; exact q1) rfl rfl hdg (kk0 _ _ _ hV (zcons q2 h2))
            · exact va_Wgetf hexec hb hown f4 f1 f2 g3 y1 (by rw [f3]; exact q1) rfl rfl hdg (kk0 _ _ _ hV (zcons q2 h2))
          · cases hp
        · cases hp
      · cases hp
    · cases hp
  · -- putfield
    rename_i idx
    split at hp
    · rename_i v k st0
      split at hp
      · rename_i ci fs ho
        split at hp
        · rename_i hb1
          split at hp
          · rename_i u hu
            cases hp
            rw [Bool.and_eq_true, Bool.and_eq_true] at hb1
            have e1 := Nat.eq_of_beq_eq_true hb1.1.1
            subst e1
            have hn := Nat.le_of_ble_eq_true hb1.1.2
            obtain ⟨w, rs1, rfl, h1, w2, rs2, rfl, h2, h3⟩ := hs
            obtain ⟨a, ce, rfl, g2, g3, g4, g5⟩ := hV.get ho h2
            obtain ⟨ref, n, d, cf, fi, kf, f, f1, f2, f3, f4⟩ := hok
            obtain ⟨hvm, -⟩ := g5 hn
            obtain ⟨z1, z2⟩ := zfit_spec hb1.2 h1
            have hcls : ce.cls = D.1 ci := g4.2.2.1
            have hlt : f.slot < ce.slots.size := by rw [f3]; exact zob_slot g4 hu
            have hnew : ∀ H' : Heap, H'[a]? = some (ce.setSlot f.slot w) → H'.size = H.size → (∀ q, q ≠ a → H'[q]? = H[q]?) → W p l e R s m args below meth c H' (locs ++ [⟨a, f.slot⟩]) cells slots Q (F0 m (pc + 3) ls rs2) := fun H' e1 e2 e3 =>
              kk0 H' _ _ (hV.put hn ho g2 e1 (by rw [f3]; exact zob_put hap g4 (zg_lt hu) h1) ⟨hvm, trivial⟩ e2 e3) h3
            rcases f4 with ⟨f4 | ⟨host, f4⟩, f5⟩ | ⟨f4, f5, f6, f7⟩
            · exact W.putK hexec hb ⟨hown, f4, ⟨cf, kf, fi, f1⟩, f2⟩ (by rw [hcls]; exact f5 w z1 z2) g3 hvm hlt rfl rfl hdg hnew
            · exact va_WputK hexec hb hown f4 f1 f2 (by rw [hcls]; exact f5 w z1 z2) g3 hvm hlt rfl rfl hdg hnew
            · exact W.putFinK hexec hb hown f4 f1 f2 f5 f6 (by rw [hcls]; exact f7 w z1 z2) g3 hvm hlt rfl rfl hdg hnew
          · cases hp
        · cases hp
      · cases hp
    · cases hp
  · -- new
    rename_i idx
    cases hp
    obtain ⟨C, r, o1, o2, o3, o4, o5, o6, o7⟩ := hok
    have hc1 : cells + 1 ≤ R.cells := by have : h.2.1 + 1 ≤ c0 + R.cells := hcl; omega
    have hs1 : slots + a2 ≤ R.slots := by have : h.2.2 + a2 ≤ z0 + R.slots := hsl; omega
    refine W.newcK hexec hb hown o1 o2 o3 rfl hdg hc1 hs1 o4 rfl fun H' kC hkC e1 e2 e3 => ?_
    have e4 : H'[H.size]? = some (blank (D.1 a1) kC) := e1
    refine kk [H.size] H' locs (cells + 1) (slots + a2) _ (hV.push hA hn0 e4 ⟨fun q => (by cases q), rfl, rfl, r, o5, o6, fun k v hk => ?_⟩ ⟨rfl, trivial⟩ e2 e3) ?_
    · obtain ⟨q1, q2⟩ := o7 kC hkC k v hk
      exact ⟨v, q2, zcst_zr q1⟩
    · exact zcons ⟨H.size, by rw [← hV.1.1]; exact zg_end ad _, rfl⟩ (hs.app _)
  · -- newarray
    rename_i t
    split at hp
    · rename_i n st0
      split at hp
      · rename_i hc
        cases hp
        rw [Bool.and_eq_true, Bool.and_eq_true, Bool.not_eq_true', decide_eq_false_iff_not] at hc
        have hn1 := Nat.le_of_ble_eq_true hc.1.2
        have ht := Nat.le_of_ble_eq_true hc.2
        obtain ⟨d1, d2, d3⟩ := zdef_ty (cnm := cnm) ht
        obtain ⟨w, rs1, rfl, h1, h2⟩ := hs
        rw [show w = _ from h1]
        have hc1 : cells + 1 ≤ R.cells := by have : h.2.1 + 1 ≤ c0 + R.cells := hcl; omega
        have hs1 : slots + n.toNatClampNeg ≤ R.slots := by have : h.2.2 + n.toNatClampNeg ≤ z0 + R.slots := hsl; omega
        have hbytes : n.toNatClampNeg * componentBytes (newarray.typeOf t) ≤ 536870912 := Nat.le_trans (Nat.mul_le_mul hn1 d3) (by decide)
        refine W.newaK hexec hb hok rfl hdg rfl hc.1.1 rfl hbytes hc1 hs1 rfl fun H' cA e1 e2 e3 e4 => ?_
        rw [d1] at e1
        rw [d2] at e4
        refine kk [H.size] H' locs (cells + 1) (slots + n.toNatClampNeg) _ (hV.push hA hn0 e1 ⟨fun q => (by cases q), e4 _ _, ?_⟩ ⟨rfl, ?_⟩ e2 e3) ?_
        · have : (arrV cA n.toNatClampNeg (fun _ => zdef (zcode t))).slots.toList = List.replicate n.toNatClampNeg (zdef (zcode t)) := by
            rw [← arrV_new]; simp
          rw [this]
          exact zrs.rep (zdef_zr _) _
        · show zraT cnm s _ (zcode t)
          unfold zraT
          split
          · omega
          · trivial
        · exact zcons ⟨H.size, by rw [← hV.1.1]; exact zg_end ad _, rfl⟩ (h2.app _)
      · cases hp
    · cases hp
  · -- anewarray
    rename_i idx
    split at hp
    · rename_i n st0
      split at hp
      · rename_i hc
        cases hp
        rw [Bool.and_eq_true, Bool.not_eq_true', decide_eq_false_iff_not] at hc
        have hn1 := Nat.le_of_ble_eq_true hc.2
        obtain ⟨w, rs1, rfl, h1, h2⟩ := hs
        rw [show w = _ from h1]
        have hc1 : cells + 1 ≤ R.cells := by have : h.2.1 + 1 ≤ c0 + R.cells := hcl; omega
        have hs1 : slots + n.toNatClampNeg ≤ R.slots := by have : h.2.2 + n.toNatClampNeg ≤ z0 + R.slots := hsl; omega
        refine W.anew hexec hb hown hok.1 hok.2 rfl hdg rfl hc.1 (by omega) hc1 hs1 fun cA kA comp f1 f2 f3 f4 => ?_
        generalize hH1 : H.push ({ cls := cA, slots := Array.replicate n.toNatClampNeg .null, vm := .none } : Cell) = H'
        have e1 : H'[H.size]? = some ({ cls := cA, slots := Array.replicate n.toNatClampNeg .null, vm := .none } : Cell) := by rw [← hH1]; simp
        have e2 : H'.size = H.size + 1 := by rw [← hH1, Array.size_push]
        have e3 : ∀ q : Nat, q < H.size → H'[q]? = H[q]? := fun q hq => by rw [← hH1, Array.getElem?_push, if_neg (by omega)]
        refine kk [H.size] H' locs (cells + 1) (slots + n.toNatClampNeg) _ (hV.push hA hn0 e1 ⟨fun q => (by cases q), ⟨fun k q => (by cases q), kA, f2, comp, f3⟩, ?_⟩ ⟨rfl, ⟨kA, comp, f2, f3, f4, f1⟩⟩ e2 e3) ?_
        · rw [Array.toList_replicate]
          exact zrs.rep (v := .null) (show zr ad .null .null from rfl) _
        · exact zcons ⟨H.size, by rw [← hV.1.1]; exact zg_end ad _, rfl⟩ (h2.app _)
      · cases hp
    · cases hp
  · -- arraylength
    split at hp
    · rename_i k st0
      split at hp
      · rename_i ty vs ho
        cases hp
        obtain ⟨w, rs1, rfl, h1, h2⟩ := hs
        obtain ⟨a, ce, rfl, g2, g3, ⟨y1, y2, y3⟩, -⟩ := hV.get ho h1
        refine W.alen hexec hb g3 y2 rfl rfl rfl hdg (kk0 _ _ _ hV (zcons ?_ h2))
        show Value.int _ = Value.int _
        rw [zrs_size y3]
        rfl
      · cases hp
    · cases hp
  · -- iaload
    obtain ⟨j, a, ty, ce, v, w, st0, rs0, rfl, rfl, rfl, q1, q2, q3, q4, q5, q6, q7, q8⟩ := zald_inv hV hs hp
    have e1 := Nat.eq_of_beq_eq_true q3
    subst e1
    exact W.iald hexec hb q4 q5 q6 q7 q8 rfl rfl hdg (kk0 _ _ _ hV (zcons q2 q1))
  · -- baload
    obtain ⟨j, a, ty, ce, v, w, st0, rs0, rfl, rfl, rfl, q1, q2, q3, q4, q5, q6, q7, q8⟩ := zald_inv hV hs hp
    rw [Bool.or_eq_true] at q3
    rcases q3 with q3 | q3
    · have e1 := Nat.eq_of_beq_eq_true q3
      subst e1
      exact W.bald hexec hb q4 q5 q6 q7 q8 rfl rfl hdg (kk0 _ _ _ hV (zcons q2 q1))
    · have e1 := Nat.eq_of_beq_eq_true q3
      subst e1
      exact W.zald hexec hb q4 q5 q6 q7 q8 rfl rfl hdg (kk0 _ _ _ hV (zcons q2 q1))
  · obtain ⟨j, a, ty, ce, v, w, st0, rs0, rfl, rfl, rfl, q1, q2, q3, q4, q5, q6, q7, q8⟩ := zald_inv hV hs hp
    have e1 := Nat.eq_of_beq_eq_true q3
    subst e1
    exact W.cald hexec hb q4 q5 q6 q7 q8 rfl rfl hdg (kk0 _ _ _ hV (zcons q2 q1))
  · obtain ⟨j, a, ty, ce, v, w, st0, rs0, rfl, rfl, rfl, q1, q2, q3, q4, q5, q6, q7, q8⟩ := zald_inv hV hs hp
    have e1 := Nat.eq_of_beq_eq_true q3
    subst e1
    exact W.lald hexec hb q4 q5 q6 q7 q8 rfl rfl hdg (kk0 _ _ _ hV (zcons q2 q1))
  · obtain ⟨j, a, ty, ce, v, w, st0, rs0, rfl, rfl, rfl, q1, q2, q3, q4, q5, q6, q7, q8⟩ := zald_inv hV hs hp
    have e1 := Nat.le_of_ble_eq_true q3
    obtain ⟨n, rfl⟩ : ∃ n, ty = n + 5 := ⟨ty - 5, by omega⟩
    exact W.aald hexec hb q4 q5 rfl q6 q7 q8 rfl rfl hdg (kk0 _ _ _ hV (zcons q2 q1))
  · -- iastore
    obtain ⟨x, y, j, k, a, ty, vs, ce, w, rs0, rfl, q1, q2, q3, q4, q5, q6, rfl, q7, q8, q9, q10, q11, q12⟩ := zast_inv hV hs hp
    unfold zsI at q2
    split at q2
    · cases q2
      rw [show w = _ from q1]
      refine W.iast hexec hb q7 q8 (by rw [q9]; intro q; cases q) q12 rfl rfl hdg fun H' e1 e2 e3 => kk0 H' _ _ (zput_arr hV q4 q5 q6 q8 q9 q10 q11 rfl e1 e2 e3) q3
    · cases q2
  · -- bastore
    obtain ⟨x, y, j, k, a, ty, vs, ce, w, rs0, rfl, q1, q2, q3, q4, q5, q6, rfl, q7, q8, q9, q10, q11, q12⟩ := zast_inv hV hs hp
    unfold zsB at q2
    split at q2
    · cases q2
      rw [show w = _ from q1]
      refine W.bast hexec hb q7 q8 (by rw [q9]; intro q; cases q) q12 rfl rfl hdg fun H' e1 e2 e3 => kk0 H' _ _ (zput_arr hV q4 q5 q6 q8 q9 q10 q11 rfl e1 e2 e3) q3
    · cases q2
      rw [show w = _ from q1]
      refine W.zast hexec hb q7 q8 (by rw [q9]; intro q; cases q) q12 rfl rfl hdg fun H' e1 e2 e3 => kk0 H' _ _ (zput_arr hV q4 q5 q6 q8 q9 q10 q11 rfl e1 e2 e3) q3
    · cases q2
  · -- castore
    obtain ⟨x, y, j, k, a, ty, vs, ce, w, rs0, rfl, q1, q2, q3, q4, q5, q6, rfl, q7, q8, q9, q10, q11, q12⟩ := zast_inv hV hs hp
    unfold zsC at q2
    split at q2
    · cases q2
      rw [show w = _ from q1]
      refine W.cast hexec hb q7 q8 (by rw [q9]; intro q; cases q) q12 rfl rfl hdg fun H' e1 e2 e3 => kk0 H' _ _ (zput_arr hV q4 q5 q6 q8 q9 q10 q11 rfl e1 e2 e3) q3
    · cases q2
  · -- lastore
    obtain ⟨x, y, j, k, a, ty, vs, ce, w, rs0, rfl, q1, q2, q3, q4, q5, q6, rfl, q7, q8, q9, q10, q11, q12⟩ := zast_inv hV hs hp
    unfold zsL at q2
    split at q2
    · cases q2
      rw [show w = _ from q1]
      refine W.last hexec hb q7 q8 (by rw [q9]; intro q; cases q) q12 rfl rfl hdg fun H' e1 e2 e3 => kk0 H' _ _ (zput_arr hV q4 q5 q6 q8 q9 q10 q11 rfl e1 e2 e3) q3
    · cases q2
  · -- aastore
    obtain ⟨x, y, j, k, a, ty, vs, ce, w, rs0, rfl, q1, q2, q3, q4, q5, q6, rfl, q7, q8, q9, q10, q11, q12⟩ := zast_inv hV hs hp
    unfold zsA at q2
    split at q2
    · cases q2
      rw [show w = _ from q1]
      refine va_WaastN (C := cnm _) hexec hb q7 q8 (by rw [q9]; intro q; cases q) q12 rfl rfl hdg fun H' e1 e2 e3 => kk0 H' _ _ (zput_arr hV q4 q5 q6 q8 q9 q10 q11 rfl e1 e2 e3) q3
    · rename_i n kx
      split at q2
      · rename_i ci fs hx
        split at q2
        · rename_i ha1
          cases q2
          obtain ⟨b, cx, rfl, g2, g3, g4, -⟩ := hV.get hx q1
          obtain ⟨⟨kv, hkv⟩, comp, kc, hcomp, hkc, hasg⟩ := has ci n ha1
          obtain ⟨kA, comp', r1, r2, r3, r4⟩ := q10
          rw [hcomp] at r3
          cases r3
          obtain ⟨y1, y2, y3, -⟩ := g4
          refine W.aast hexec hb q7 (fun q z => by rw [q9] at z; cases z) (by rw [q9]; intro q; cases q) r1 r2 rfl hkc ⟨fun z => q12 (Or.inl z), Nat.not_le.mp fun z => q12 (Or.inr z)⟩ g3 (fun q z => by rw [z] at y2; cases y2) (by rw [y3]; exact hkv) (by rw [y3]; exact hasg) rfl rfl hdg fun H' e1 e2 e3 => kk0 H' _ _ (zput_arr hV q4 q5 q6 q8 q9 ⟨kA, comp, r1, r2, hcomp, r4⟩ q11 ⟨b, g2, rfl⟩ e1 e2 e3) q3
        · cases q2
      · cases q2
    · cases q2
  · cases hp
end ZHPS

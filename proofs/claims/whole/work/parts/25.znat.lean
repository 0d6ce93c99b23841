/-! THE NATIVES: System.arraycopy between arrays of bytes; Arrays.copyOf of a list's array -/
section ZNAT
theorem zcopied_list (cs cd : Cell) (sp dp n : Nat) (h1 : sp + n ≤ cs.slots.size) (h2 : dp + n ≤ cd.slots.size) :
    (cd.storeRun dp (cs.stretch sp n)).slots.toList = cd.slots.toList.take dp ++ ((cs.slots.toList.drop sp).take n ++ cd.slots.toList.drop (dp + n)) := by
  apply List.ext_getElem?
  intro j
  rw [Array.getElem?_toList, Cell.storeRun_get cd dp _ j (by rw [Cell.stretch_length]; exact h2), Cell.stretch_length]
  have l1 : (cd.slots.toList.take dp).length = dp := by rw [List.length_take, Array.length_toList]; omega
  have l2 : ((cs.slots.toList.drop sp).take n).length = n := by rw [List.length_take, List.length_drop, Array.length_toList]; omega
  by_cases a : j < dp
  · rw [if_neg (by omega), List.getElem?_append_left (by omega), List.getElem?_take, if_pos a, Array.getElem?_toList]
  · rw [List.getElem?_append_right (by omega), l1]
    by_cases b : j < dp + n
    · rw [if_pos (by omega), List.getElem?_append_left (by omega), List.getElem?_take, if_pos (by omega), List.getElem?_drop, Array.getElem?_toList (xs := cs.slots)]
      show (Cell.stretch cs sp n)[j - dp]? = _
      unfold Cell.stretch
      rw [show ∀ (L : List Value) (i : Nat), L[i]? = L[i]? from fun _ _ => rfl, List.getElem?_map, List.getElem?_range (by omega)]
      show some _ = _
      show some (cs.slots.getD (sp + (j - dp)) .null) = _
      rw [Array.getD_eq_getD_getElem?, Array.getElem?_eq_getElem (by omega)]
      rfl
    · rw [if_neg (by omega), List.getElem?_append_right (by omega), l2, List.getElem?_drop, Array.getElem?_toList]
      congr 1
      omega
theorem zrs.take {ad : List Nat} : ∀ (n : Nat) {vs ws : List Value}, zrs ad vs ws → zrs ad (vs.take n) (ws.take n)
  | 0, vs, ws, _ => by rw [List.take_zero, List.take_zero]; rfl
  | n + 1, [], ws, h => by rw [show ws = [] from h]; exact rfl
  | n + 1, v :: vs, ws, ⟨w, ws', e, h1, h2⟩ => by subst e; exact ⟨w, ws'.take n, rfl, h1, zrs.take n h2⟩
theorem zrs.drop {ad : List Nat} : ∀ (n : Nat) {vs ws : List Value}, zrs ad vs ws → zrs ad (vs.drop n) (ws.drop n)
  | 0, vs, ws, h => h
  | n + 1, [], ws, h => by rw [show ws = [] from h]; exact rfl
  | n + 1, v :: vs, ws, ⟨w, ws', e, h1, h2⟩ => by subst e; exact zrs.drop n h2
theorem znn (z : Int32) (hz : ¬ z < 0) : z.toInt = (z.toNatClampNeg : Int) := by
  have hz0 : (0 : Int) ≤ z.toInt := by
    have := Int32.not_lt.mp hz
    simpa using Int32.le_iff_toInt_le.mp this
  show z.toInt = ((z.toInt.toNat : Nat) : Int)
  omega
theorem zelB_spec {v : Value} (h : zelB v = true) : ∃ x : Int32, v = .int x ∧ fits .byte (.int x) = true := by
  unfold zelB at h
  split at h
  · exact ⟨_, rfl, h⟩
  · cases h
variable {D : va_G} {l : Launch} {p : Program} {e : Env} {R : Room} {s : State} {m : MethodId} {args : Array Value} {below : List Frame} {meth : Method} {c : Code} {mi d pc idx : Nat} {A : Nat → Prop} {ad0 : List Nat}
theorem zk_nat0 (hcx : zCx zGG zby zown p R s m meth c mi d) (hts : ∀ w ∈ zT, w.before args s = true) (w1 : Cond.methodLink (zown mi) idx arraycopyName ∈ zT) (w2 : Cond.native arraycopyName ∈ zT) (w3 : Cond.static arraycopyName ∈ zT) (w4 : Cond.initialized "java/lang/System" ∈ zT) (hdec : decode (zby mi) pc = .ok (.invokestatic idx, 3)) :
    zOkNat zGG D zclL zcnm l p e R s m args below meth c A ad0 pc 0 := by
  obtain ⟨x1, x2, x3, x4, x5, x6, x7, x8⟩ := hcx
  intro c0 z0 ad st st' h h' H locs cells slots rs ls Q hV hls hs hp hn0 hc hz kk
  have hp : zNcp st h = some (st', h') := hp
  unfold zNcp at hp
  split at hp
  · rename_i n dp k1 sp k0 st0 _
    split at hp
    · rename_i v0 v1 g0 g1
      split at hp
      · rename_i hb
        cases hp
        simp only [Bool.and_eq_true, Bool.not_eq_true', decide_eq_false_iff_not] at hb
        obtain ⟨⟨⟨⟨⟨⟨⟨b1, b2⟩, b3⟩, b4⟩, b5⟩, b6⟩, b7⟩, b8⟩ := hb
        have b1 := Nat.le_of_ble_eq_true b1
        have b5 := Nat.le_of_ble_eq_true b5
        have b6 := Nat.le_of_ble_eq_true b6
        have b8 := Nat.le_of_ble_eq_true b8
        obtain ⟨y1, r1, rfl, e1, y2, r2, rfl, e2, y3, r3, rfl, e3, y4, r4, rfl, e4, y5, rest, rfl, e5, hst⟩ := hs
        obtain ⟨a1, cd, rfl, q1, q2, ⟨q3, q4, q5⟩, q6⟩ := hV.get g1 e3
        obtain ⟨a0, cs, rfl, t1, t2, ⟨t3, t4, t5⟩, -⟩ := hV.get g0 e5
        rw [show y1 = _ from e1, show y2 = _ from e2, show y4 = _ from e4]
        obtain ⟨q7, q8⟩ := q6 b1
        have zs0 := zrs_size t5
        have zs1 := zrs_size q5
        intro T hT X
        obtain ⟨-, ks, hks, sC, hsk⟩ := id t4
        obtain ⟨-, kd, hkd, dC, hdk⟩ := id q4
        obtain ⟨vm', X', step⟩ := X.arraycopy x1 x6 (hts _ w1) (hts _ w2) (hts _ w3) (hts _ w4) (src := a0) (dst := a1) (cs := cs) (cd := cd) (srcPos := sp) (destPos := dp) (n := n) (by rw [hT]; exact t2) (by rw [hT]; exact q2)
          t4.1 q4.1 t3 q3 hks hkd hsk hdk rfl b2 b3 b4
          (by rw [znn sp b2, znn n b4]; omega) (by rw [znn dp b3, znn n b4]; omega)
          (fun vm₁ _ i hi => by
            obtain ⟨v, hv⟩ := zg_of_lt (l := (v0.drop sp.toNatClampNeg).take n.toNatClampNeg) (n := i) (by rw [List.length_take, List.length_drop]; omega)
            obtain ⟨x, rfl, hf⟩ := zelB_spec (List.all_eq_true.mp b7 v (by rw [zg_eq] at hv; exact List.mem_of_getElem? hv))
            have hv0 : zg v0 (sp.toNatClampNeg + i) = some (.int x) := by
              rw [zg_eq, List.getElem?_take, if_pos hi, List.getElem?_drop] at hv
              rw [zg_eq]
              exact hv
            obtain ⟨w, u1, u2⟩ := t5.get hv0
            rw [Array.getElem?_toList] at u1
            rw [Array.getD_eq_getD_getElem?, u1, show w = _ from u2]
            exact ⟨hf, trivial⟩)
          (g := F0 m pc ls (.int n :: .int dp :: .ref a1 :: .int sp :: .ref a0 :: rest)) rfl (by show ls.size = _; exact hls) (rest := rest) rfl (by rw [x2]; exact hdec) (by omega)
          (by
            have hcat : (rest.map fun v => v.category).sum ≤ 8 := by rw [hst.cats, ← zcat_sum]; exact b8
            show 2 * 0 + _ + _ ≤ _
            have : nativeFrameWords "java/lang/System" "arraycopy" 5 ≤ 64 := by decide +kernel
            omega)
        have hl : a1 < H.size := (Array.getElem?_eq_some_iff.mp q2).1
        have hheap : ((T.setVm vm').setCell a1 (copied cs cd sp dp n)).heap = H.setIfInBounds a1 (copied cs cd sp dp n) := by rw [← hT]; rfl
        have oq : ∀ q : Nat, q ≠ a1 → (H.setIfInBounds a1 (copied cs cd sp dp n))[q]? = H[q]? := fun q hq => by simp [Array.getElem?_setIfInBounds, Ne.symm hq]
        have hlist := zcopied_list cs cd sp.toNatClampNeg dp.toNatClampNeg n.toNatClampNeg (by omega) (by omega)
        have hfac := Cell.storeRun_facts cd dp.toNatClampNeg (cs.stretch sp.toNatClampNeg n.toNatClampNeg)
        obtain ⟨v1', v2', v3', v4', v5', v6', v7', v8'⟩ := id hV
        have hV1 : zInv D zclL zcnm (zGn zGG) s A ad0 c0 z0 ad (zs h.1 k1 (.inl (1, zcp v0 v1 sp.toNatClampNeg dp.toNatClampNeg n.toNatClampNeg)), h.2) (H.setIfInBounds a1 (copied cs cd sp dp n)) (locs ++ (cs.stretch sp.toNatClampNeg n.toNatClampNeg).zipIdx.map fun q => ⟨a1, dp.toNatClampNeg + q.2⟩) cells slots := by
          refine ⟨v1'.set v2' b1 g1 q1 (cell' := copied cs cd sp dp n) (by simp [Array.getElem?_setIfInBounds, hl]) ⟨?_, ?_, ?_⟩ (fun _ => ⟨?_, trivial⟩) oq, v2', ⟨?_, ?_, ?_⟩, v4', v5', v6', v7', v8'⟩
          · show (cd.storeRun _ _).vm ≠ _
            rw [hfac.2.1]; exact q3
          · show s.isArrayOf (cd.storeRun _ _) _
            refine ⟨fun k => ?_, ?_⟩
            · rw [hfac.2.1]; exact q4.1 k
            · rw [hfac.1]; exact q4.2
          · show zrs ad (zcp v0 v1 _ _ _) (cd.storeRun _ _).slots.toList
            rw [hlist]
            exact (q5.take _).append (((t5.drop _).take _).append (q5.drop _))
          · show (cd.storeRun _ _).vm = _
            rw [hfac.2.1]; exact q7
          · simp; exact v3'.1
          · intro q y1 y2
            rw [oq q (fun e => y2 (by rw [e]; exact v4' k1 a1 b1 q1))]
            exact v3'.2.1 q y1 y2
          · intro q hq
            rcases List.mem_append.mp hq with h9 | h9
            · exact v3'.2.2 q h9
            · obtain ⟨z, -, hz⟩ := List.mem_map.mp h9
              rw [← hz]
              exact v4' k1 a1 b1 q1
        obtain ⟨t, z1, z2⟩ := kk [] _ _ cells slots rest (by rw [List.append_nil]; exact hV1) (by rw [List.append_nil]; exact hst) _ hheap X'
        exact ⟨t, step t z1, z2⟩
      · cases hp
    · cases hp
  · cases hp
end ZNAT

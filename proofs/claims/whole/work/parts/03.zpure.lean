/-! THE VIRTUAL MACHINE, second text: the instructions that touch locals and stack alone, and the branches, are the machine's own -/
section ZPURE
variable {p : Program} {l : Launch} {e : Env} {R : Room} {s : State} {m : MethodId} {args : Array Value} {below : List Frame} {meth : Method} {c : Code} {H : Heap} {locs : List Loc} {cells slots : Nat} {Q : State → Prop}
variable {cc : ByteArray} {pc nL : Nat} {ad : List Nat} {L L' : List (Option Value)} {st st' : List Value} {ls : Array Slot} {rs : List Value}
theorem zldI_inv {k : Nat} (hl : zL ad L ls nL) (hp : zldI L k st = some (L', st')) : ∃ x : Int32, L' = L ∧ st' = .int x :: st ∧ ls[k]? = some (.val (.int x)) := by
  unfold zldI at hp
  split at hp
  · rename_i v hv
    cases hp
    obtain ⟨w, h1, h2⟩ := hl.2.2.2 k _ hv
    exact ⟨v, rfl, rfl, by rw [h1, show w = _ from h2]⟩
  · cases hp
theorem zldL_inv {k : Nat} (hl : zL ad L ls nL) (hp : zldL L k st = some (L', st')) : ∃ x : Int64, L' = L ∧ st' = .long x :: st ∧ ls[k]? = some (.val (.long x)) := by
  unfold zldL at hp
  split at hp
  · rename_i v hv
    cases hp
    obtain ⟨w, h1, h2⟩ := hl.2.2.2 k _ hv
    exact ⟨v, rfl, rfl, by rw [h1, show w = _ from h2]⟩
  · cases hp
theorem zldA_inv {k : Nat} (hl : zL ad L ls nL) (hp : zldA L k st = some (L', st')) : L' = L ∧ ((∃ v a : Nat, st' = .ref v :: st ∧ zg ad v = some a ∧ ls[k]? = some (.val (.ref a))) ∨ (st' = .null :: st ∧ ls[k]? = some (.val .null))) := by
  unfold zldA at hp
  split at hp
  · rename_i v hv
    cases hp
    obtain ⟨w, h1, a, h2, h3⟩ := hl.2.2.2 k _ hv
    exact ⟨rfl, Or.inl ⟨v, a, rfl, h2, by rw [h1, h3]⟩⟩
  · rename_i hv
    cases hp
    obtain ⟨w, h1, h2⟩ := hl.2.2.2 k _ hv
    exact ⟨rfl, Or.inr ⟨rfl, by rw [h1, show w = _ from h2]⟩⟩
  · cases hp
theorem zstI_inv {k : Nat} (hs : zrs ad st rs) (hp : zstI L k st = some (L', st')) : ∃ (x : Int32) (rs' : List Value), rs = .int x :: rs' ∧ zput L k (.int x) = some L' ∧ zrs ad st' rs' := by
  unfold zstI at hp
  split at hp
  · rename_i v st0
    split at hp
    · rename_i L1 hL
      cases hp
      obtain ⟨w, rs', e1, h1, h2⟩ := hs
      exact ⟨v, rs', by rw [e1, show w = _ from h1], hL, h2⟩
    · cases hp
  · cases hp
theorem zstL_inv {k : Nat} (hs : zrs ad st rs) (hp : zstL L k st = some (L', st')) : ∃ (x : Int64) (rs' : List Value), rs = .long x :: rs' ∧ zput2 L k (.long x) = some L' ∧ zrs ad st' rs' := by
  unfold zstL at hp
  split at hp
  · rename_i v st0
    split at hp
    · rename_i L1 hL
      cases hp
      obtain ⟨w, rs', e1, h1, h2⟩ := hs
      exact ⟨v, rs', by rw [e1, show w = _ from h1], hL, h2⟩
    · cases hp
  · cases hp
theorem zstA_inv {k : Nat} (hs : zrs ad st rs) (hp : zstA L k st = some (L', st')) : ∃ (v : Value) (rs' : List Value), zput L k v = some L' ∧ zrs ad st' rs' ∧ ((∃ a : Nat, rs = .ref a :: rs' ∧ zr ad v (.ref a)) ∨ (rs = .null :: rs' ∧ zr ad v .null)) := by
  unfold zstA at hp
  split at hp
  · rename_i v st0
    split at hp
    · rename_i L1 hL
      cases hp
      obtain ⟨w, rs', e1, ⟨a, h1, h1'⟩, h2⟩ := hs
      exact ⟨_, rs', hL, h2, Or.inl ⟨a, by rw [e1, h1'], a, h1, rfl⟩⟩
    · cases hp
  · rename_i v st0
    split at hp
    · rename_i L1 hL
      cases hp
      obtain ⟨w, rs', e1, h1 | ⟨a, h1⟩, h2⟩ := hs
      · exact ⟨_, rs', hL, h2, Or.inr ⟨by rw [e1, h1], Or.inl rfl⟩⟩
      · exact ⟨_, rs', hL, h2, Or.inl ⟨a, by rw [e1, h1], Or.inr ⟨a, rfl⟩⟩⟩
    · cases hp
  · rename_i st0
    split at hp
    · rename_i L1 hL
      cases hp
      obtain ⟨w, rs', e1, h1, h2⟩ := hs
      exact ⟨_, rs', hL, h2, Or.inr ⟨by rw [e1, show w = _ from h1], rfl⟩⟩
    · cases hp
  · cases hp
theorem zincI_inv {k : Nat} {n : Int} (hl : zL ad L ls nL) (hp : zincI L k n st = some (L', st')) : ∃ x : Int32, st' = st ∧ ls[k]? = some (.val (.int x)) ∧ zput L k (.int (x + Int32.ofInt n)) = some L' := by
  unfold zincI at hp
  split at hp
  · rename_i v hv
    split at hp
    · rename_i L1 hL
      cases hp
      obtain ⟨w, h1, h2⟩ := hl.2.2.2 k _ hv
      exact ⟨v, rfl, by rw [h1, show w = _ from h2], hL⟩
    · cases hp
  · cases hp
theorem zbI_inv {f : Int32 → Int32 → Int32} (hs : zrs ad st rs) (hp : zbI f L st = some (L', st')) : ∃ (x y : Int32) (st0 rs0 : List Value), rs = .int y :: .int x :: rs0 ∧ L' = L ∧ st' = .int (f x y) :: st0 ∧ zrs ad st0 rs0 := by
  unfold zbI at hp
  split at hp
  · rename_i y x st0
    cases hp
    obtain ⟨w, rs1, e1, h1, w2, rs2, e2, h2, h3⟩ := hs
    exact ⟨x, y, st0, rs2, by rw [e1, e2, show w = _ from h1, show w2 = _ from h2], rfl, rfl, h3⟩
  · cases hp
theorem zbL_inv {f : Int64 → Int64 → Int64} (hs : zrs ad st rs) (hp : zbL f L st = some (L', st')) : ∃ (x y : Int64) (st0 rs0 : List Value), rs = .long y :: .long x :: rs0 ∧ L' = L ∧ st' = .long (f x y) :: st0 ∧ zrs ad st0 rs0 := by
  unfold zbL at hp
  split at hp
  · rename_i y x st0
    cases hp
    obtain ⟨w, rs1, e1, h1, w2, rs2, e2, h2, h3⟩ := hs
    exact ⟨x, y, st0, rs2, by rw [e1, e2, show w = _ from h1, show w2 = _ from h2], rfl, rfl, h3⟩
  · cases hp
theorem zuI_inv {f : Int32 → Value} (hs : zrs ad st rs) (hp : zuI f L st = some (L', st')) : ∃ (x : Int32) (st0 rs0 : List Value), rs = .int x :: rs0 ∧ L' = L ∧ st' = f x :: st0 ∧ zrs ad st0 rs0 := by
  unfold zuI at hp
  split at hp
  · rename_i x st0
    cases hp
    obtain ⟨w, rs1, e1, h1, h3⟩ := hs
    exact ⟨x, st0, rs1, by rw [e1, show w = _ from h1], rfl, rfl, h3⟩
  · cases hp
theorem zc1_cat {v w : Value} (h : zc1 v = true) (hr : zr ad v w) : w.category = 1 := by
  rw [hr.cat]
  cases v <;> simp_all [zc1, Value.category]
theorem zcons {v w : Value} (h : zr ad v w) (h2 : zrs ad st rs) : zrs ad (v :: st) (w :: rs) := ⟨w, rs, rfl, h, h2⟩
set_option maxHeartbeats 4000000 in
theorem zPure_sound (hexec : p.tables.exec = Jvm.exec) (hb : c.code = cc) {i : Instr} (hdg : decode cc pc = .ok (i, zlen i)) (hl : zL ad L ls nL) (hs : zrs ad st rs) (hp : zPure i L st = some (L', st'))
    (kk : ∀ (ls' : Array Slot) (rs' : List Value), zL ad L' ls' nL → zrs ad st' rs' → W p l e R s m args below meth c H locs cells slots Q (F0 m (pc + zlen i) ls' rs')) : W p l e R s m args below meth c H locs cells slots Q (F0 m pc ls rs) := by
  unfold zPure at hp
  split at hp
  · -- aload
    obtain ⟨rfl, ⟨v, a, rfl, h1, h2⟩ | ⟨rfl, h2⟩⟩ := zldA_inv hl hp
    · exact lv_aload hexec hb hdg h2 (kk _ _ hl (zcons ⟨a, h1, rfl⟩ hs))
    · exact lv_aloadN hexec hb hdg h2 (kk _ _ hl (zcons rfl hs))
  · obtain ⟨rfl, ⟨v, a, rfl, h1, h2⟩ | ⟨rfl, h2⟩⟩ := zldA_inv hl hp
    · exact lv_aload_n hexec hb hdg rfl h2 (kk _ _ hl (zcons ⟨a, h1, rfl⟩ hs))
    · exact lv_aload_nN hexec hb hdg rfl h2 (kk _ _ hl (zcons rfl hs))
  · obtain ⟨x, rfl, rfl, h2⟩ := zldI_inv hl hp
    exact lv_iload hexec hb hdg h2 (kk _ _ hl (zcons rfl hs))
  · obtain ⟨x, rfl, rfl, h2⟩ := zldI_inv hl hp
    exact lv_iload_n hexec hb hdg rfl h2 (kk _ _ hl (zcons rfl hs))
  · obtain ⟨x, rfl, rfl, h2⟩ := zldL_inv hl hp
    exact lv_lload hexec hb hdg h2 (kk _ _ hl (zcons rfl hs))
  · obtain ⟨x, rfl, rfl, h2⟩ := zldL_inv hl hp
    exact lv_lload_n hexec hb hdg rfl h2 (kk _ _ hl (zcons rfl hs))
  · obtain ⟨v, rs', h1, h2, ⟨a, rfl, h3⟩ | ⟨rfl, h3⟩⟩ := zstA_inv hs hp
    · exact lv_astore hexec hb hdg hl.ok (hl.lt (zput_spec h1).2.2) rfl (fun ls' hl' => kk _ _ (hl.put h1 h3 hl') h2)
    · exact lv_astoreN hexec hb hdg hl.ok (hl.lt (zput_spec h1).2.2) rfl (fun ls' hl' => kk _ _ (hl.put h1 h3 hl') h2)
  · obtain ⟨v, rs', h1, h2, ⟨a, rfl, h3⟩ | ⟨rfl, h3⟩⟩ := zstA_inv hs hp
    · exact lv_astore_n hexec hb hdg rfl hl.ok (hl.lt (zput_spec h1).2.2) rfl (fun ls' hl' => kk _ _ (hl.put h1 h3 hl') h2)
    · exact lv_astore_nN hexec hb hdg rfl hl.ok (hl.lt (zput_spec h1).2.2) rfl (fun ls' hl' => kk _ _ (hl.put h1 h3 hl') h2)
  · obtain ⟨x, rs', rfl, h1, h2⟩ := zstI_inv hs hp
    exact lv_istore hexec hb hdg hl.ok (hl.lt (zput_spec h1).2.2) rfl (fun ls' hl' => kk _ _ (hl.put h1 rfl hl') h2)
  · obtain ⟨x, rs', rfl, h1, h2⟩ := zstI_inv hs hp
    exact lv_istore_n hexec hb hdg rfl hl.ok (hl.lt (zput_spec h1).2.2) rfl (fun ls' hl' => kk _ _ (hl.put h1 rfl hl') h2)
  · obtain ⟨x, rs', rfl, h1, h2⟩ := zstL_inv hs hp
    exact lv_lstore hexec hb hdg hl.ok (hl.lt (zput2_spec h1).2.2) rfl (fun ls' hl' => kk _ _ (hl.put2 h1 rfl hl') h2)
  · obtain ⟨x, rs', rfl, h1, h2⟩ := zstL_inv hs hp
    exact lv_lstore_n hexec hb hdg rfl hl.ok (hl.lt (zput2_spec h1).2.2) rfl (fun ls' hl' => kk _ _ (hl.put2 h1 rfl hl') h2)
  · obtain ⟨x, rfl, h1, h2⟩ := zincI_inv hl hp
    obtain ⟨j, hj⟩ := List.getElem?_of_mem (zall_mem h1)
    exact lv_iinc hexec hb hdg hl.ok hj rfl (hl.lt (zput_spec h2).2.2) rfl (fun ls' hl' => kk _ _ (hl.put h2 rfl hl') hs)
  · cases hp
    exact lv_iconst hexec hb hdg rfl (kk _ _ hl (zcons rfl hs))
  · cases hp
    exact lv_bipush hexec hb hdg rfl (kk _ _ hl (zcons rfl hs))
  · cases hp
    exact lv_sipush hexec hb hdg rfl (kk _ _ hl (zcons rfl hs))
  · cases hp
    exact lv_lconst hexec hb hdg rfl (kk _ _ hl (zcons rfl hs))
  · cases hp
    exact lv_null hexec hb hdg (kk _ _ hl (zcons rfl hs))
  · obtain ⟨x, y, st0, rs0, rfl, rfl, rfl, h3⟩ := zbI_inv hs hp
    exact lv_iadd hexec hb hdg (kk _ _ hl (zcons rfl h3))
  · obtain ⟨x, y, st0, rs0, rfl, rfl, rfl, h3⟩ := zbI_inv hs hp
    exact lv_isub hexec hb hdg (kk _ _ hl (zcons rfl h3))
  · obtain ⟨x, y, st0, rs0, rfl, rfl, rfl, h3⟩ := zbI_inv hs hp
    exact lv_imul hexec hb hdg (kk _ _ hl (zcons rfl h3))
  · obtain ⟨x, y, st0, rs0, rfl, rfl, rfl, h3⟩ := zbI_inv hs hp
    exact lv_iand hexec hb hdg (kk _ _ hl (zcons rfl h3))
  · obtain ⟨x, y, st0, rs0, rfl, rfl, rfl, h3⟩ := zbI_inv hs hp
    exact lv_ior hexec hb hdg (kk _ _ hl (zcons rfl h3))
  · obtain ⟨x, y, st0, rs0, rfl, rfl, rfl, h3⟩ := zbI_inv hs hp
    exact lv_ixor hexec hb hdg (kk _ _ hl (zcons rfl h3))
  · obtain ⟨x, y, st0, rs0, rfl, rfl, rfl, h3⟩ := zbI_inv hs hp
    exact lv_ishl hexec hb hdg (kk _ _ hl (zcons rfl h3))
  · obtain ⟨x, y, st0, rs0, rfl, rfl, rfl, h3⟩ := zbI_inv hs hp
    exact lv_ishr hexec hb hdg (kk _ _ hl (zcons rfl h3))
  · obtain ⟨x, y, st0, rs0, rfl, rfl, rfl, h3⟩ := zbI_inv hs hp
    exact lv_iushr hexec hb hdg rfl (kk _ _ hl (zcons rfl h3))
  · obtain ⟨x, y, st0, rs0, rfl, rfl, rfl, h3⟩ := zbL_inv hs hp
    exact lv_ladd hexec hb hdg (kk _ _ hl (zcons rfl h3))
  · obtain ⟨x, y, st0, rs0, rfl, rfl, rfl, h3⟩ := zbL_inv hs hp
    exact lv_land hexec hb hdg (kk _ _ hl (zcons rfl h3))
  · obtain ⟨x, y, st0, rs0, rfl, rfl, rfl, h3⟩ := zbL_inv hs hp
    exact lv_lmul hexec hb hdg (kk _ _ hl (zcons rfl h3))
  · obtain ⟨x, y, st0, rs0, rfl, rfl, rfl, h3⟩ := zbL_inv hs hp
    exact lv_lxor hexec hb hdg (kk _ _ hl (zcons rfl h3))
  · split at hp
    · rename_i y x st0
      split at hp
      · rename_i hz
        cases hp
        obtain ⟨w, rs1, rfl, h1, w2, rs2, rfl, h2, h3⟩ := hs
        rw [show w = _ from h1, show w2 = _ from h2]
        exact lv_idiv hexec hb hdg (of_decide_eq_false hz) (kk _ _ hl (zcons rfl h3))
      · cases hp
    · cases hp
  · split at hp
    · rename_i y x st0
      split at hp
      · rename_i hz
        cases hp
        obtain ⟨w, rs1, rfl, h1, w2, rs2, rfl, h2, h3⟩ := hs
        rw [show w = _ from h1, show w2 = _ from h2]
        exact lv_irem hexec hb hdg (of_decide_eq_false hz) (kk _ _ hl (zcons rfl h3))
      · cases hp
    · cases hp
  · split at hp
    · rename_i y x st0
      split at hp
      · rename_i hz
        cases hp
        obtain ⟨w, rs1, rfl, h1, w2, rs2, rfl, h2, h3⟩ := hs
        rw [show w = _ from h1, show w2 = _ from h2]
        exact lv_lrem hexec hb hdg (of_decide_eq_false hz) (kk _ _ hl (zcons rfl h3))
      · cases hp
    · cases hp
  · split at hp
    · rename_i y x st0
      cases hp
      obtain ⟨w, rs1, rfl, h1, w2, rs2, rfl, h2, h3⟩ := hs
      rw [show w = _ from h1, show w2 = _ from h2]
      exact lv_lushr hexec hb hdg rfl (kk _ _ hl (zcons rfl h3))
    · cases hp
  · split at hp
    · rename_i y x st0
      cases hp
      obtain ⟨w, rs1, rfl, h1, w2, rs2, rfl, h2, h3⟩ := hs
      rw [show w = _ from h1, show w2 = _ from h2]
      exact W.lcmp hexec hb hdg (kk _ _ hl (zcons rfl h3))
    · cases hp
  · split at hp
    · rename_i x st0
      cases hp
      obtain ⟨w, rs1, rfl, h1, h3⟩ := hs
      rw [show w = _ from h1]
      exact lv_l2i hexec hb hdg rfl (kk _ _ hl (zcons rfl h3))
    · cases hp
  · obtain ⟨x, st0, rs0, rfl, rfl, rfl, h3⟩ := zuI_inv hs hp
    exact lv_ineg hexec hb hdg (kk _ _ hl (zcons rfl h3))
  · obtain ⟨x, st0, rs0, rfl, rfl, rfl, h3⟩ := zuI_inv hs hp
    exact lv_i2l hexec hb hdg rfl (kk _ _ hl (zcons rfl h3))
  · obtain ⟨x, st0, rs0, rfl, rfl, rfl, h3⟩ := zuI_inv hs hp
    exact lv_i2b hexec hb hdg rfl (kk _ _ hl (zcons rfl h3))
  · obtain ⟨x, st0, rs0, rfl, rfl, rfl, h3⟩ := zuI_inv hs hp
    exact lv_i2c hexec hb hdg rfl (kk _ _ hl (zcons rfl h3))
  · split at hp
    · split at hp
      · rename_i hc
        cases hp
        obtain ⟨w, rs1, rfl, h1, h3⟩ := hs
        exact lv_dup hexec hb hdg (zc1_cat hc h1) (kk _ _ hl (zcons h1 (zcons h1 h3)))
      · cases hp
    · cases hp
  · split at hp
    · split at hp
      · rename_i hc
        cases hp
        rw [Bool.and_eq_true] at hc
        obtain ⟨w, rs1, rfl, h1, w2, rs2, rfl, h2, h3⟩ := hs
        exact lv_dup_x1 hexec hb hdg (zc1_cat hc.1 h1) (zc1_cat hc.2 h2) (kk _ _ hl (zcons h1 (zcons h2 (zcons h1 h3))))
      · cases hp
    · cases hp
  · split at hp
    · split at hp
      · rename_i hc
        cases hp
        rw [Bool.and_eq_true] at hc
        obtain ⟨w, rs1, rfl, h1, w2, rs2, rfl, h2, h3⟩ := hs
        exact lv_dup2_11 hexec hb hdg (zc1_cat hc.1 h1) (zc1_cat hc.2 h2) (kk _ _ hl (zcons h1 (zcons h2 (zcons h1 (zcons h2 h3)))))
      · cases hp
    · cases hp
  · split at hp
    · split at hp
      · rename_i hc
        cases hp
        obtain ⟨w, rs1, rfl, h1, h3⟩ := hs
        exact lv_pop hexec hb hdg (zc1_cat hc h1) (kk _ _ hl h3)
      · cases hp
    · cases hp
  · cases hp
end ZPURE

/-! THE VIRTUAL MACHINE, third text: branches and switches -/
section ZBR
variable {p : Program} {l : Launch} {e : Env} {R : Room} {s : State} {m : MethodId} {args : Array Value} {below : List Frame} {meth : Method} {c : Code} {H : Heap} {locs : List Loc} {cells slots : Nat} {Q : State → Prop}
variable {cc : ByteArray} {pc nL : Nat} {ad : List Nat} {st st' : List Value} {ls : Array Slot} {rs : List Value}
/-- the addresses are apart (but the first one, the script's, only from those behind n0) -/
def zI (n0 : Nat) (ad : List Nat) : Prop := ∀ (i j a : Nat), zg ad i = some a → zg ad j = some a → (1 ≤ i ∧ 1 ≤ j) ∨ n0 ≤ i ∨ n0 ≤ j → i = j
def zcmp : ClassFile.Cond → Int32 → Int32 → Bool
  | .eq, x, y => decide (x = y)
  | .ne, x, y => decide (¬ x = y)
  | .lt, x, y => decide (x < y)
  | .ge, x, y => decide (y ≤ x)
  | .gt, x, y => decide (y < x)
  | .le, x, y => decide (x ≤ y)
def zreq : Value → Value → Option Bool
  | .ref a, .ref b => match Nat.ble 1 a && Nat.ble 1 b with
    | true => some (decide (a = b))
    | false => none
  | .null, .null => some true
  | .ref _, .null => some false
  | .null, .ref _ => some false
  | _, _ => none
def zCnd (i : Instr) (st : List Value) : Option (Bool × List Value) :=
  match i with
  | .goto _ => some (true, st)
  | .ifCond k _ => match st with
    | .int x :: st => some (zcmp k x 0, st)
    | _ => none
  | .if_icmp k _ => match st with
    | .int y :: .int x :: st => some (zcmp k x y, st)
    | _ => none
  | .if_acmp .eq _ => match st with
    | v :: u :: st => match zreq u v with
      | some b => some (b, st)
      | none => none
    | _ => none
  | .if_acmp .ne _ => match st with
    | v :: u :: st => match zreq u v with
      | some b => some (!b, st)
      | none => none
    | _ => none
  | .ifnull _ => match st with
    | .null :: st => some (true, st)
    | .ref _ :: st => some (false, st)
    | _ => none
  | .ifnonnull _ => match st with
    | .null :: st => some (false, st)
    | .ref _ :: st => some (true, st)
    | _ => none
  | _ => none
def zif (b : Bool) (x y : Nat) : Nat := match b with
  | true => x
  | false => y
def zoff : Instr → Int
  | .goto o | .ifCond _ o | .if_icmp _ o | .if_acmp _ o | .ifnull o | .ifnonnull o => o
  | _ => 0
theorem zreq_spec {v u w x : Value} {b : Bool} {n0 : Nat} (hi : zI n0 ad) (hv : zr ad v w) (hu : zr ad u x) (h : zreq v u = some b) : ∃ r r' : Option Nat, w = va_rf r ∧ x = va_rf r' ∧ (b = true ↔ r = r') := by
  unfold zreq at h
  split at h
  · rename_i k j
    obtain ⟨a, h1, rfl⟩ := hv
    obtain ⟨a', h2, rfl⟩ := hu
    split at h
    · rename_i hc
      rw [Bool.and_eq_true] at hc
      cases h
      refine ⟨some a, some a', rfl, rfl, ?_⟩
      rw [decide_eq_true_eq]
      constructor
      · rintro rfl
        rw [h1] at h2
        cases h2; rfl
      · intro q
        cases q
        exact hi _ _ _ h1 h2 (Or.inl ⟨Nat.le_of_ble_eq_true hc.1, Nat.le_of_ble_eq_true hc.2⟩)
    · cases h
  · cases h
    exact ⟨none, none, hv, hu, by simp⟩
  · obtain ⟨a, h1, rfl⟩ := hv
    cases h
    exact ⟨some a, none, rfl, hu, by simp⟩
  · obtain ⟨a, h1, rfl⟩ := hu
    cases h
    exact ⟨none, some a, hv, rfl, by simp⟩
  · cases h
set_option maxHeartbeats 4000000 in
theorem zCnd_sound (hexec : p.tables.exec = Jvm.exec) (hb : c.code = cc) {i : Instr} {tgt : Nat} (hdg : decode cc pc = .ok (i, zlen i)) (ht : (pc : Int) + zoff i = (tgt : Int)) {n0 : Nat} (hi : zI n0 ad) (hs : zrs ad st rs) {b : Bool} (hp : zCnd i st = some (b, st'))
    (kk : ∀ (rs' : List Value), zrs ad st' rs' → W p l e R s m args below meth c H locs cells slots Q (F0 m (zif b tgt (pc + 3)) ls rs')) : W p l e R s m args below meth c H locs cells slots Q (F0 m pc ls rs) := by
  unfold zCnd at hp
  split at hp
  · cases hp
    exact lv_goto hexec hb hdg ht (kk _ hs)
  · rename_i k o
    split at hp
    · rename_i x st0
      cases hp
      obtain ⟨w, rs1, rfl, h1, h3⟩ := hs
      rw [show w = _ from h1]
      have k1 := kk _ h3
      cases k
      · refine lv_if_eq hexec hb hdg ht (fun q => ?_) (fun q => ?_) <;> simpa [zcmp, q, zif] using k1
      · refine lv_if_ne hexec hb hdg ht (fun q => ?_) (fun q => ?_) <;> simpa [zcmp, q, zif] using k1
      · refine lv_if_lt hexec hb hdg ht (fun q => ?_) (fun q => ?_) <;> simpa [zcmp, q, zif] using k1
      · refine lv_if_ge hexec hb hdg ht (fun q => ?_) (fun q => ?_) <;> simpa [zcmp, q, zif] using k1
      · refine lv_if_gt hexec hb hdg ht (fun q => ?_) (fun q => ?_) <;> simpa [zcmp, q, zif] using k1
      · refine lv_if_le hexec hb hdg ht (fun q => ?_) (fun q => ?_) <;> simpa [zcmp, q, zif] using k1
    · cases hp
  · rename_i k o
    split at hp
    · rename_i y x st0
      cases hp
      obtain ⟨w, rs1, rfl, h1, w2, rs2, rfl, h2, h3⟩ := hs
      rw [show w = _ from h1, show w2 = _ from h2]
      have k1 := kk _ h3
      cases k
      · refine lv_icmp_eq hexec hb hdg ht (fun q => ?_) (fun q => ?_) <;> simpa [zcmp, q, zif] using k1
      · refine lv_icmp_ne hexec hb hdg ht (fun q => ?_) (fun q => ?_) <;> simpa [zcmp, q, zif] using k1
      · refine lv_icmp_lt hexec hb hdg ht (fun q => ?_) (fun q => ?_) <;> simpa [zcmp, q, zif] using k1
      · refine lv_icmp_ge hexec hb hdg ht (fun q => ?_) (fun q => ?_) <;> simpa [zcmp, q, zif] using k1
      · refine lv_icmp_gt hexec hb hdg ht (fun q => ?_) (fun q => ?_) <;> simpa [zcmp, q, zif] using k1
      · refine lv_icmp_le hexec hb hdg ht (fun q => ?_) (fun q => ?_) <;> simpa [zcmp, q, zif] using k1
    · cases hp
  · split at hp
    · split at hp
      · rename_i v u st0 b' hb'
        cases hp
        obtain ⟨w, rs1, rfl, h1, w2, rs2, rfl, h2, h3⟩ := hs
        obtain ⟨r, r', rfl, rfl, hq⟩ := zreq_spec hi h2 h1 hb'
        have k1 := kk _ h3
        refine lv_acmp_eq hexec hb hdg ht (fun q => ?_) (fun q => ?_)
        · rw [hq.mpr q] at k1; exact k1
        · have hf : b = false := by cases b; rfl; exact absurd (hq.mp rfl) q
          rw [hf] at k1; exact k1
      · cases hp
    · cases hp
  · split at hp
    · split at hp
      · rename_i v u st0 b' hb'
        cases hp
        obtain ⟨w, rs1, rfl, h1, w2, rs2, rfl, h2, h3⟩ := hs
        obtain ⟨r, r', rfl, rfl, hq⟩ := zreq_spec hi h2 h1 hb'
        have k1 := kk _ h3
        refine lv_acmp_ne hexec hb hdg ht (fun q => ?_) (fun q => ?_)
        · have hf : b' = false := by cases b'; rfl; exact absurd (hq.mp rfl) q
          rw [hf] at k1; exact k1
        · rw [hq.mpr q] at k1; exact k1
      · cases hp
    · cases hp
  · split at hp
    · cases hp
      obtain ⟨w, rs1, rfl, h1, h3⟩ := hs
      rw [show w = _ from h1]
      exact lv_ifnullN hexec hb hdg ht (kk _ h3)
    · cases hp
      obtain ⟨w, rs1, rfl, ⟨a, h1, rfl⟩, h3⟩ := hs
      exact lv_ifnull hexec hb hdg (kk _ h3)
    · cases hp
  · split at hp
    · cases hp
      obtain ⟨w, rs1, rfl, h1, h3⟩ := hs
      rw [show w = _ from h1]
      exact lv_ifnonnullN hexec hb hdg (kk _ h3)
    · cases hp
      obtain ⟨w, rs1, rfl, ⟨a, h1, rfl⟩, h3⟩ := hs
      exact lv_ifnonnull hexec hb hdg ht (kk _ h3)
    · cases hp
  · cases hp
/-- the target of a table's jump -/
def zsw (pc : Nat) (dflt lo hi : Int) (offs : Array Int) (x : Int32) : Option Nat :=
  match decide (x.toInt < lo ∨ hi < x.toInt) with
  | true => match decide (0 ≤ (pc : Int) + dflt) with
    | true => some ((pc : Int) + dflt).toNat
    | false => none
  | false => match zg offs.toList (x.toInt - lo).toNat with
    | none => none
    | some o => match decide (0 ≤ (pc : Int) + o) with
      | true => some ((pc : Int) + o).toNat
      | false => none
theorem zsw_sound (hexec : p.tables.exec = Jvm.exec) (hb : c.code = cc) {dflt lo hi : Int} {offs : Array Int} {len tgt : Nat} {x : Int32} (hdg : decode cc pc = .ok (.tableswitch dflt lo hi offs, len)) (hp : zsw pc dflt lo hi offs x = some tgt)
    (kk : W p l e R s m args below meth c H locs cells slots Q (F0 m tgt ls rs)) : W p l e R s m args below meth c H locs cells slots Q (F0 m pc ls (.int x :: rs)) := by
  unfold zsw at hp
  split at hp
  · rename_i hd
    rw [decide_eq_true_eq] at hd
    split at hp
    · rename_i h0
      rw [decide_eq_true_eq] at h0
      cases hp
      exact lv_tableOut hexec hb hdg hd (by omega) kk
    · cases hp
  · rename_i hd
    rw [decide_eq_false_iff_not] at hd
    split at hp
    · cases hp
    · rename_i o ho
      split at hp
      · rename_i h0
        rw [decide_eq_true_eq] at h0
        cases hp
        refine lv_tableIn (off := o) hexec hb hdg (fun q => hd (Or.inl q)) (fun q => hd (Or.inr q)) ?_ (by omega) kk
        rw [zg_eq, Array.getElem?_toList] at ho
        exact ho
      · cases hp
end ZBR

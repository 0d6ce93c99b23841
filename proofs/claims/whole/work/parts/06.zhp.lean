/-! THE VIRTUAL MACHINE, fifth text: the instructions that read and write the heap -/
section ZHP
def zald (ok : Nat → Bool) (st : List Value) (h : zH) : Option (List Value × zH) := match st with
  | .int j :: .ref a :: st => match zg h.1 a with
    | some (.inl (ty, vs)) => match ok ty && !decide (j < 0) with
      | true => match zg vs j.toNatClampNeg with
        | some v => some (v :: st, h)
        | none => none
      | false => none
    | _ => none
  | _ => none
def zast (ok : Nat → Value → Option Value) (n0 : Nat) (st : List Value) (h : zH) : Option (List Value × zH) := match st with
  | x :: .int j :: .ref a :: st => match zg h.1 a with
    | some (.inl (ty, vs)) => match ok ty x with
      | some y => match Nat.ble n0 a && !decide (j < 0) with
        | true => match zg vs j.toNatClampNeg with
          | some _ => some (st, (zs h.1 a (.inl (ty, zs vs j.toNatClampNeg y)), h.2))
          | none => none
        | false => none
      | none => none
    | _ => none
  | _ => none
/-- the code of an array's type -/
def zcode : ArrayType → Nat
  | .int => 0
  | .byte => 1
  | .boolean => 2
  | .char => 3
  | .long => 4
  | _ => 5
def zdef (ty : Nat) : Value := match ty with
  | 4 => .long 0
  | n + 5 => .null
  | _ => .int 0
def zsI (ty : Nat) (x : Value) : Option Value := match ty, x with
  | 0, .int v => some (.int v)
  | _, _ => none
def zsB (ty : Nat) (x : Value) : Option Value := match ty, x with
  | 1, .int v => some (narrow .byte (.int v))
  | 2, .int v => some (narrow .boolean (.int v))
  | _, _ => none
def zsC (ty : Nat) (x : Value) : Option Value := match ty, x with
  | 3, .int v => some (narrow .char (.int v))
  | _, _ => none
def zsL (ty : Nat) (x : Value) : Option Value := match ty, x with
  | 4, .long v => some (.long v)
  | _, _ => none
/-- a reference that is stored: of an object whose class may be there, or null -/
def zsA (asg : Nat → Nat → Bool) (h : List zO) (ty : Nat) (x : Value) : Option Value := match ty, x with
  | n + 5, .null => some .null
  | n + 5, .ref k => match zg h k with
    | some (.inr (ci, _)) => match asg ci n with
      | true => some (.ref k)
      | false => none
    | _ => none
  | _, _ => none
def zHp (n0 : Nat) (tyv : Nat → Nat → FieldType) (dfv : Nat → List Value) (asg : Nat → Nat → Bool) (i : Instr) (a1 a2 : Nat) (st : List Value) (h : zH) : Option (List Value × zH) :=
  match i with
  | .getfield _ => match st with
    | .ref a :: st => match zg h.1 a with
      | some (.inr (ci, fs)) => match Nat.beq ci a1 with
        | true => match zg fs a2 with
          | some v => some (v :: st, h)
          | none => none
        | false => none
      | _ => none
    | _ => none
  | .putfield _ => match st with
    | v :: .ref a :: st => match zg h.1 a with
      | some (.inr (ci, fs)) => match Nat.beq ci a1 && Nat.ble n0 a && zfit (tyv a1 a2) v with
        | true => match zg fs a2 with
          | some _ => some (st, (zs h.1 a (.inr (ci, zs fs a2 v)), h.2))
          | none => none
        | false => none
      | _ => none
    | _ => none
  | .new _ => some (.ref h.1.length :: st, (h.1 ++ [.inr (a1, dfv a1)], h.2.1 + 1, h.2.2 + a2))
  | .newarray t => match st with
    | .int n :: st => match !decide (n < 0) && Nat.ble n.toNatClampNeg 65536 && Nat.ble (zcode t) 4 with
      | true => some (.ref h.1.length :: st, (h.1 ++ [.inl (zcode t, List.replicate n.toNatClampNeg (zdef (zcode t)))], h.2.1 + 1, h.2.2 + n.toNatClampNeg))
      | false => none
    | _ => none
  | .anewarray _ => match st with
    | .int n :: st => match !decide (n < 0) && Nat.ble n.toNatClampNeg 65536 with
      | true => some (.ref h.1.length :: st, (h.1 ++ [.inl (a1 + 5, List.replicate n.toNatClampNeg .null)], h.2.1 + 1, h.2.2 + n.toNatClampNeg))
      | false => none
    | _ => none
  | .arraylength => match st with
    | .ref a :: st => match zg h.1 a with
      | some (.inl (_, vs)) => some (.int (nI vs.length) :: st, h)
      | _ => none
    | _ => none
  | .iaload => zald (fun ty => Nat.beq ty 0) st h
  | .baload => zald (fun ty => Nat.beq ty 1 || Nat.beq ty 2) st h
  | .caload => zald (fun ty => Nat.beq ty 3) st h
  | .laload => zald (fun ty => Nat.beq ty 4) st h
  | .aaload => zald (fun ty => Nat.ble 5 ty) st h
  | .iastore => zast zsI n0 st h
  | .bastore => zast zsB n0 st h
  | .castore => zast zsC n0 st h
  | .lastore => zast zsL n0 st h
  | .aastore => zast (zsA asg h.1) n0 st h
  | _ => none
/-- what the tables must say of a field's read .. -/
def zFl (s : State) (args : Array Value) (own : String) (index : Nat) (ref n d : String) : Prop := (Cond.fieldLink own index ref n d).before args s = true ∨ ∃ host, (Cond.fieldLinkNest own index ref n d host).before args s = true
def zOkGet (D : va_G) (s : State) (args : Array Value) (own : String) (index ci k : Nat) : Prop := ∃ (ref n d : String) (cf fi : Nat) (kf : Class) (f : Field), s.fieldFound? ref n d = some (cf, kf, fi, f) ∧ f.isStatic = false ∧ f.slot = D.2 ci k ∧ zFl s args own index ref n d
/-- .. and write; .. -/
def zOkPut (D : va_G) (s : State) (args : Array Value) (mcls : ClassId) (mname : String) (own : String) (index ci k : Nat) (ty : FieldType) : Prop := ∃ (ref n d : String) (cf fi : Nat) (kf : Class) (f : Field), s.fieldFound? ref n d = some (cf, kf, fi, f) ∧ f.isStatic = false ∧ f.slot = D.2 ci k ∧
  ((zFl s args own index ref n d ∧ ∀ v : Value, narrow ty v = v → fits ty v = true → k2_Sd s f (D.1 ci) v) ∨ ((Cond.fieldLink own index ref n d).before args s = true ∧ mcls = cf ∧ mname = "<init>" ∧ ∀ v : Value, narrow ty v = v → fits ty v = true → narrow f.type v = v ∧ s.fitsSlot (D.1 ci) .none f.slot v = true))
/-- a value that is no reference -/
def zcst : Value → Bool
  | .ref _ | .retAddr _ => false
  | _ => true
theorem zcst_zr {ad : List Nat} {v : Value} (h : zcst v = true) : zr ad v v := by
  cases v <;> first | rfl | cases h
def zOkNew (D : va_G) (cl : List vw_C) (s : State) (args : Array Value) (own : String) (index ci n : Nat) (fs : List Value) : Prop := ∃ (C : String) (r : vw_C), (Cond.classLink own index C).before args s = true ∧ (Cond.instantiable C n).before args s = true ∧ (Cond.initialized C).before args s = true ∧ s.vm.findClass C = some (D.1 ci) ∧ zg cl ci = some r ∧ fs.length = r.2.2 ∧
  ∀ kC : Class, s.vm.classes[D.1 ci]? = some kC → ∀ (k : Nat) (v : Value), zg fs k = some v → zcst v = true ∧ (blank (D.1 ci) kC).slots[D.2 ci k]? = some v
/-- the fields of a class lie apart -/
def zAp (D : va_G) (cl : List vw_C) : Prop := ∀ (ci x y : Nat) (r : vw_C), zg cl ci = some r → x < r.2.2 → y < r.2.2 → x ≠ y → D.2 ci x ≠ D.2 ci y
/-- objects of one class may stand where another is asked for -/
def zAs (D : va_G) (cnm : Nat → String) (asg : Nat → Nat → Bool) (s : State) : Prop := ∀ ci cj : Nat, asg ci cj = true → (∃ kv : Class, s.vm.classes[D.1 ci]? = some kv) ∧ ∃ (comp : ClassId) (kc : Class), s.vm.findClass (cnm cj) = some comp ∧ s.vm.classes[comp]? = some kc ∧ s.vm.assignable (D.1 ci) comp = true
/-- the obligations of a row -/
def zOkHp (D : va_G) (cl : List vw_C) (cnm : Nat → String) (tyv : Nat → Nat → FieldType) (dfv : Nat → List Value) (s : State) (args : Array Value) (mcls : ClassId) (mname : String) (own : String) (i : Instr) (a1 a2 : Nat) : Prop := match i with
  | .getfield x => zOkGet D s args own x a1 a2
  | .putfield x => zOkPut D s args mcls mname own x a1 a2 (tyv a1 a2)
  | .new x => zOkNew D cl s args own x a1 a2 (dfv a1)
  | .newarray t => (Cond.arrayClass (newarray.typeOf t)).before args s = true
  | .anewarray x => (Cond.classLink own x (cnm a1)).before args s = true ∧ (Cond.arrayOver (.object (cnm a1))).before args s = true
  | _ => True
variable {p : Program} {l : Launch} {e : Env} {R : Room} {s : State} {m : MethodId} {args : Array Value} {below : List Frame} {meth : Method} {c : Code} {H : Heap} {locs : List Loc} {cells slots : Nat} {Q : State → Prop}
variable {cc : ByteArray} {pc nL : Nat} {ad : List Nat} {st st' : List Value} {ls : Array Slot} {rs : List Value} {D : va_G} {cl : List vw_C} {cnm : Nat → String} {n0 : Nat} {A : Nat → Prop} {ad0 : List Nat} {c0 z0 : Nat} {h h' : zH} {asg : Nat → Nat → Bool}
theorem zald_inv {ok : Nat → Bool} (hV : zInv D cl cnm n0 s A ad0 c0 z0 ad h H locs cells slots) (hs : zrs ad st rs) (hp : zald ok st h = some (st', h')) : ∃ (j : Int32) (a ty : Nat) (ce : Cell) (v w : Value) (st0 rs0 : List Value), rs = .int j :: .ref a :: rs0 ∧ h' = h ∧ st' = v :: st0 ∧ zrs ad st0 rs0 ∧ zr ad v w ∧ ok ty = true ∧ H[a]? = some ce ∧ s.isArrayOf ce (zaty cnm ty) ∧ ce.vm ≠ .unknown ∧ ¬ (j < 0 ∨ ce.slots.size ≤ j.toNatClampNeg) ∧ ce.slots[j.toNatClampNeg]? = some w := by
  unfold zald at hp
  split at hp
  · rename_i j k st0
    split at hp
    · rename_i ty vs ho
      split at hp
      · rename_i hc
        split at hp
        · rename_i v hv
          cases hp
          rw [Bool.and_eq_true, Bool.not_eq_true', decide_eq_false_iff_not] at hc
          obtain ⟨w1, rs1, rfl, h1, w2, rs2, rfl, h2, h3⟩ := hs
          obtain ⟨a, ce, rfl, e2, e3, ⟨e4, e5, e6⟩, -⟩ := hV.get ho h2
          obtain ⟨w, q1, q2⟩ := e6.get hv
          rw [Array.getElem?_toList] at q1
          refine ⟨j, a, ty, ce, v, w, st0, rs2, by rw [show w1 = _ from h1], rfl, rfl, h3, q2, hc.1, e3, e5, e4, ?_, q1⟩
          rintro (z | z)
          · exact hc.2 z
          · exact absurd (Array.getElem?_eq_some_iff.mp q1).1 (by omega)
        · cases hp
      · cases hp
    · cases hp
  · cases hp
theorem zast_inv {ok : Nat → Value → Option Value} (hV : zInv D cl cnm n0 s A ad0 c0 z0 ad h H locs cells slots) (hs : zrs ad st rs) (hp : zast ok n0 st h = some (st', h')) : ∃ (x y : Value) (j : Int32) (k a ty : Nat) (vs : List Value) (ce : Cell) (w : Value) (rs0 : List Value), rs = w :: .int j :: .ref a :: rs0 ∧ zr ad x w ∧ ok ty x = some y ∧ zrs ad st' rs0 ∧ zg h.1 k = some (.inl (ty, vs)) ∧ zg ad k = some a ∧ n0 ≤ k ∧ h' = (zs h.1 k (.inl (ty, zs vs j.toNatClampNeg y)), h.2) ∧ H[a]? = some ce ∧ s.isArrayOf ce (zaty cnm ty) ∧ ce.vm = .none ∧ zra cnm s (.inl (ty, vs)) ce ∧ zrs ad vs ce.slots.toList ∧ ¬ (j < 0 ∨ ce.slots.size ≤ j.toNatClampNeg) := by
  unfold zast at hp
  split at hp
  · rename_i x j k st0
    split at hp
    · rename_i ty vs ho
      split at hp
      · rename_i y hy
        split at hp
        · rename_i hc
          split at hp
          · rename_i u hu
            cases hp
            rw [Bool.and_eq_true, Bool.not_eq_true', decide_eq_false_iff_not] at hc
            have hn := Nat.le_of_ble_eq_true hc.1
            obtain ⟨w, rs1, rfl, h1, w2, rs2, rfl, h2, w3, rs3, rfl, h3, h4⟩ := hs
            obtain ⟨a, ce, rfl, e2, e3, ⟨e4, e5, e6⟩, e7⟩ := hV.get ho h3
            refine ⟨x, y, j, k, a, ty, vs, ce, w, rs3, by rw [show w2 = _ from h2], h1, hy, h4, ho, e2, hn, rfl, e3, e5, (e7 hn).1, (e7 hn).2, e6, ?_⟩
            rintro (z | z)
            · exact hc.2 z
            · rw [zrs_size e6] at z
              exact absurd (zg_lt hu) (by omega)
          · cases hp
        · cases hp
      · cases hp
    · cases hp
  · cases hp
theorem zput_arr (hV : zInv D cl cnm n0 s A ad0 c0 z0 ad h H locs cells slots) {k a ty i : Nat} {vs : List Value} {ce : Cell} {y w : Value} {H' : Heap} (ho : zg h.1 k = some (.inl (ty, vs))) (ha : zg ad k = some a) (hn : n0 ≤ k) (harr : s.isArrayOf ce (zaty cnm ty)) (hvm : ce.vm = .none) (hra : zra cnm s (.inl (ty, vs)) ce) (hvs : zrs ad vs ce.slots.toList) (hy : zr ad y w)
    (e1 : H'[a]? = some (ce.setSlot i w)) (e2 : H'.size = H.size) (e3 : ∀ q : Nat, q ≠ a → H'[q]? = H[q]?) : zInv D cl cnm n0 s A ad0 c0 z0 ad (zs h.1 k (.inl (ty, zs vs i y)), h.2) H' (locs ++ [⟨a, i⟩]) cells slots := by
  refine hV.put hn ho ha e1 ⟨?_, zset_arr i w harr, by rw [zset_slots]; exact hvs.set i hy⟩ ⟨hvm, hra⟩ e2 e3
  show ce.vm ≠ .unknown
  rw [hvm]; intro q; cases q
end ZHP

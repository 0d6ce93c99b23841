/-! THE VIRTUAL MACHINE, seventh text: constants, statics, casts -/
section ZCS
def zCs (kst : List Value) (i : Instr) (a1 : Nat) (st : List Value) : Option (List Value) := match i with
  | .ldc _ | .ldc_w _ | .ldc2_w _ | .getstatic _ => match zg kst a1 with
    | some v => some (v :: st)
    | none => none
  | _ => none
/-- what is pushed stands for the constant -/
def zOkCs (p : Program) (l : Launch) (e : Env) (R : Room) (s : State) (m : MethodId) (args : Array Value) (below : List Frame) (meth : Method) (c : Code) (A : Nat → Prop) (ad0 : List Nat) (pc : Nat) (i : Instr) (v : Value) : Prop :=
  ∃ w, zr ad0 v w ∧ ∀ (H : Heap) (locs : List Loc) (cells slots : Nat) (Q : State → Prop) (ls : Array Slot) (rest : List Value), va_S A s.heap H locs → W p l e R s m args below meth c H locs cells slots Q (F0 m (pc + zlen i) ls (w :: rest)) → W p l e R s m args below meth c H locs cells slots Q (F0 m pc ls rest)
def zCa (asg : Nat → Nat → Bool) (n0 : Nat) (i : Instr) (a1 a2 : Nat) (st : List Value) (h : zH) : Option (List Value) := match i with
  | .checkcast _ => match st with
    | .null :: st => some (.null :: st)
    | .ref k :: st => match zg h.1 k with
      | some (.inr (ci, _)) => match asg ci a1 with
        | true => some (.ref k :: st)
        | false => none
      | some (.inl (ty, _)) => match Nat.beq ty (a2 + 5) && Nat.ble n0 k && Nat.ble 1 a2 with
        | true => some (.ref k :: st)
        | false => none
      | _ => none
    | _ => none
  | .instanceof _ => match st with
    | .null :: st => some (.int 0 :: st)
    | .ref k :: st => match zg h.1 k with
      | some (.inr (ci, _)) => match asg ci a1 with
        | true => some (.int 1 :: st)
        | false => none
      | _ => none
    | _ => none
  | _ => none
/-- the class of a cast; a2 names the component's class where it is an array's -/
def zOkCa (cnm : Nat → String) (s : State) (args : Array Value) (own : String) (i : Instr) (a1 a2 : Nat) : Prop := match i with
  | .checkcast x => (Cond.classLink own x (cnm a1)).before args s = true ∧ (a2 = 0 ∨ cnm a1 = "[" ++ (FieldType.object (cnm a2)).toString)
  | .instanceof x => (Cond.classLink own x (cnm a1)).before args s = true
  | _ => True
variable {p : Program} {l : Launch} {e : Env} {R : Room} {s : State} {m : MethodId} {args : Array Value} {below : List Frame} {meth : Method} {c : Code} {H : Heap} {locs : List Loc} {cells slots : Nat} {Q : State → Prop}
variable {cc : ByteArray} {pc nL : Nat} {ad : List Nat} {st st' : List Value} {ls : Array Slot} {rs : List Value} {D : va_G} {cl : List vw_C} {cnm : Nat → String} {n0 : Nat} {A : Nat → Prop} {ad0 : List Nat} {c0 z0 : Nat} {h h' : zH} {asg : Nat → Nat → Bool}
theorem zCs_inv {kst : List Value} {i : Instr} {a1 : Nat} (hp : zCs kst i a1 st = some st') : ∃ v, zg kst a1 = some v ∧ st' = v :: st := by
  unfold zCs at hp
  split at hp
  all_goals first
    | (split at hp <;> first | (rename_i v hv; cases hp; exact ⟨v, hv, rfl⟩) | cases hp)
    | cases hp
theorem zCs_sound {kst : List Value} {i : Instr} {a1 : Nat} (hok : ∀ v, zg kst a1 = some v → zOkCs p l e R s m args below meth c A ad0 pc i v) (hV : zInv D cl cnm n0 s A ad0 c0 z0 ad h H locs cells slots) (hs : zrs ad st rs) (hp : zCs kst i a1 st = some st')
    (kk : ∀ rs' : List Value, zrs ad st' rs' → W p l e R s m args below meth c H locs cells slots Q (F0 m (pc + zlen i) ls rs')) : W p l e R s m args below meth c H locs cells slots Q (F0 m pc ls rs) := by
  obtain ⟨v, hv, rfl⟩ := zCs_inv hp
  obtain ⟨w, h1, h2⟩ := hok v hv
  obtain ⟨-, -, v3, -, ⟨x, rfl⟩, -⟩ := hV
  exact h2 H locs cells slots Q ls rs v3 (kk _ (zcons (h1.app x) hs))
theorem zcastOk {own nm : String} {index a : Nat} {ce : Cell} {t : ClassId} (hexec : p.tables.exec = Jvm.exec) (hb : c.code = cc) (hown : s.vm.findClass own = some m.cls) (hlink : (Cond.classLink own index nm).before args s = true)
    (h1 : H[a]? = some ce) (h2 : ce.vm.isStatics = false) (h3 : s.vm.findClass nm = some t) (h4 : s.vm.assignable ce.cls t = true) (hdg : decode cc pc = .ok (.checkcast index, 3))
    (k : W p l e R s m args below meth c H locs cells slots Q (F0 m (pc + 3) ls (.ref a :: rs))) : W p l e R s m args below meth c H locs cells slots Q (F0 m pc ls (.ref a :: rs)) := by
  intro T hT X
  obtain ⟨vm', X', st⟩ := X.checkcastYes hexec hown hlink (by rw [hT]; exact h1) h2 h3 h4 (g := F0 m pc ls (.ref a :: rs)) rfl rfl (by rw [hb]; exact hdg)
  obtain ⟨t, a1, b1⟩ := k (T.setVm vm') hT X'
  exact ⟨t, st t a1, b1⟩
theorem zinstOk {own nm : String} {index a : Nat} {ce : Cell} {t : ClassId} (hexec : p.tables.exec = Jvm.exec) (hb : c.code = cc) (hown : s.vm.findClass own = some m.cls) (hlink : (Cond.classLink own index nm).before args s = true)
    (h1 : H[a]? = some ce) (h2 : ce.vm.isStatics = false) (h3 : s.vm.findClass nm = some t) (h4 : s.vm.assignable ce.cls t = true) (hdg : decode cc pc = .ok (.instanceof index, 3))
    (k : W p l e R s m args below meth c H locs cells slots Q (F0 m (pc + 3) ls (.int 1 :: rs))) : W p l e R s m args below meth c H locs cells slots Q (F0 m pc ls (.ref a :: rs)) := by
  intro T hT X
  obtain ⟨vm', X', st⟩ := X.instanceofYes hexec hown hlink (by rw [hT]; exact h1) h2 h3 h4 (g := F0 m pc ls (.ref a :: rs)) rfl rfl (by rw [hb]; exact hdg)
  obtain ⟨t, a1, b1⟩ := k (T.setVm vm') hT X'
  exact ⟨t, st t a1, b1⟩
set_option maxHeartbeats 4000000 in
theorem zCa_sound (hexec : p.tables.exec = Jvm.exec) (hb : c.code = cc) {i : Instr} {a1 a2 : Nat} {own : String} (hdg : decode cc pc = .ok (i, zlen i)) (hown : s.vm.findClass own = some m.cls) (has : zAs D cnm asg s) (hok : zOkCa cnm s args own i a1 a2)
    (hV : zInv D cl cnm n0 s A ad0 c0 z0 ad h H locs cells slots) (hs : zrs ad st rs) (hp : zCa asg n0 i a1 a2 st h = some st')
    (kk : ∀ rs' : List Value, zrs ad st' rs' → W p l e R s m args below meth c H locs cells slots Q (F0 m (pc + zlen i) ls rs')) : W p l e R s m args below meth c H locs cells slots Q (F0 m pc ls rs) := by
  unfold zCa at hp
  split at hp
  · rename_i x
    obtain ⟨hok, hok2⟩ := hok
    split at hp
    · cases hp
      obtain ⟨w, rs1, rfl, h1, h2⟩ := hs
      rw [show w = _ from h1]
      exact lv_castN hexec hb hdg (kk _ (zcons rfl h2))
    · rename_i k st0
      split at hp
      · rename_i ci fs ho
        split at hp
        · rename_i ha
          cases hp
          obtain ⟨w, rs1, rfl, h1, h2⟩ := hs
          obtain ⟨a, ce, rfl, g2, g3, ⟨y1, y2, y3, -⟩, -⟩ := hV.get ho h1
          obtain ⟨-, comp, kc, q1, q2, q3⟩ := has ci a1 ha
          exact zcastOk hexec hb hown hok g3 y2 q1 (by rw [y3]; exact q3) hdg (kk _ (zcons h1 h2))
        · cases hp
      · rename_i ty vs ho
        split at hp
        · rename_i hc
          cases hp
          rw [Bool.and_eq_true, Bool.and_eq_true] at hc
          have e1 := Nat.eq_of_beq_eq_true hc.1.1
          have hn := Nat.le_of_ble_eq_true hc.1.2
          have ha2 := Nat.le_of_ble_eq_true hc.2
          subst e1
          obtain ⟨w, rs1, rfl, h1, h2⟩ := hs
          obtain ⟨a, ce, rfl, g2, g3, g4, g5⟩ := hV.get ho h1
          obtain ⟨z1, ⟨kA, comp, z2, z3, z4, z5⟩⟩ := g5 hn
          rcases hok2 with hok2 | hok2
          · omega
          · exact zcastOk hexec hb hown hok g3 (by rw [z1]; rfl) (by rw [hok2]; exact z5) (va_asg _ _) hdg (kk _ (zcons h1 h2))
        · cases hp
      · cases hp
    · cases hp
  · rename_i x
    split at hp
    · cases hp
      obtain ⟨w, rs1, rfl, h1, h2⟩ := hs
      rw [show w = _ from h1]
      exact lv_instN hexec hb hdg (kk _ (zcons rfl h2))
    · rename_i k st0
      split at hp
      · rename_i ci fs ho
        split at hp
        · rename_i ha
          cases hp
          obtain ⟨w, rs1, rfl, h1, h2⟩ := hs
          obtain ⟨a, ce, rfl, g2, g3, ⟨y1, y2, y3, -⟩, -⟩ := hV.get ho h1
          obtain ⟨-, comp, kc, q1, q2, q3⟩ := has ci a1 ha
          exact zinstOk hexec hb hown hok g3 y2 q1 (by rw [y3]; exact q3) hdg (kk _ (zcons rfl h2))
        · cases hp
      · cases hp
    · cases hp
  · cases hp
end ZCS

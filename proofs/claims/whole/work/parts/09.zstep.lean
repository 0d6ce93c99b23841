/-! THE VIRTUAL MACHINE, eighth text: the whole step, by what a program's tables say -/
section ZSTEP
/-- an instruction with what it means in this program: jumps: the target; fields: class, place; calls: the callee, the way, the receiver's class and 3; throws: the exception's number, and 1 in the last place -/
abbrev zRow : Type := Instr × Nat × Nat × Nat
/-- how a method ends: by a value or none, or by an exception (its number) -/
abbrev zRs : Type := Option Value ⊕ Nat
abbrev zNt : Type := Nat → List Value → zH → Option (List Value × zH)
/-- the program: rows; how many objects nobody writes; fields' types; new objects' fields; who may stand for whom; constants; how many values a method takes; its locals; its answer's type; its handlers; natives -/
abbrev zG : Type := (Nat → Nat → Option zRow) × Nat × (Nat → Nat → FieldType) × (Nat → List Value) × (Nat → Nat → Bool) × List Value × (Nat → Nat) × (Nat → Nat) × (Nat → Option FieldType) × (Nat → Nat → Nat → Option (Option Nat)) × zNt
abbrev zGP (G : zG) : Nat → Nat → Option zRow := G.1
abbrev zGn (G : zG) : Nat := G.2.1
abbrev zGty (G : zG) : Nat → Nat → FieldType := G.2.2.1
abbrev zGdf (G : zG) : Nat → List Value := G.2.2.2.1
abbrev zGas (G : zG) : Nat → Nat → Bool := G.2.2.2.2.1
abbrev zGk (G : zG) : List Value := G.2.2.2.2.2.1
abbrev zGar (G : zG) : Nat → Nat := G.2.2.2.2.2.2.1
abbrev zGmx (G : zG) : Nat → Nat := G.2.2.2.2.2.2.2.1
abbrev zGrt (G : zG) : Nat → Option FieldType := G.2.2.2.2.2.2.2.2.1
abbrev zGhd (G : zG) : Nat → Nat → Nat → Option (Option Nat) := G.2.2.2.2.2.2.2.2.2.1
abbrev zGnt (G : zG) : zNt := G.2.2.2.2.2.2.2.2.2.2
/-- the first n of a stack, in the order of arguments, and the rest -/
def zTk : Nat → List Value → List Value → Option (List Value × List Value)
  | 0, st, acc => some (acc, st)
  | n + 1, v :: st, acc => zTk n st (v :: acc)
  | _ + 1, [], _ => none
/-- a method's first locals -/
def zsl : List Value → List (Option Value)
  | [] => []
  | .long x :: vs => some (.long x) :: none :: zsl vs
  | .double x :: vs => some (.double x) :: none :: zsl vs
  | v :: vs => some v :: zsl vs
def zent (vs : List Value) (n : Nat) : List (Option Value) := zsl vs ++ List.replicate (n - (zsl vs).length) none
def zrtn (ty : FieldType) (v : Int32) : Bool := match ty with
  | .int => true
  | .boolean => v == 0 || v == 1
  | .byte => decide (narrow .byte (.int v) = .int v)
  | .char => decide (narrow .char (.int v) = .int v)
  | _ => false
def zRt (rt : Option FieldType) (i : Instr) (st : List Value) : Option (Option Value) := match i with
  | .return_ => match rt, st with
    | none, [] => some none
    | _, _ => none
  | .ireturn => match rt, st with
    | some ty, [.int v] => match zrtn ty v with
      | true => some (some (.int v))
      | false => none
    | _, _ => none
  | .lreturn => match rt, st with
    | some .long, [.long v] => some (some (.long v))
    | _, _ => none
  | .areturn => match rt, st with
    | some (.object _), [.ref a] => some (some (.ref a))
    | some (.object _), [.null] => some (some .null)
    | some (.array _), [.ref a] => some (some (.ref a))
    | some (.array _), [.null] => some (some .null)
    | _, _ => none
  | _ => none
def zisInv : Instr → Bool
  | .invokevirtual _ | .invokespecial _ | .invokestatic _ => true
  | _ => false
/-- the receiver -/
def zrcv (a3 : Nat) (vs : List Value) (h : zH) : Bool := match a3 with
  | 0 => true
  | 1 => false
  | 2 => match vs with
    | .ref _ :: _ => true
    | _ => false
  | n + 3 => match vs with
    | .ref k :: _ => match zg h.1 k with
      | some (.inr (ci, _)) => Nat.beq ci n
      | _ => false
    | _ => false
def zcat : List Value → Nat
  | [] => 0
  | v :: vs => v.category + zcat vs
def zpu (v : Option Value) (st : List Value) : List Value := match v with
  | some v => v :: st
  | none => st
abbrev zIh : Type := Nat → Nat → Nat → List (Option Value) → List Value → zH → Option (zRs × zH)
def zCall (G : zG) (ih : zIh) (thr : Bool) (d m pc a1 a3 : Nat) (L : List (Option Value)) (st : List Value) (h : zH) : Option (zRs × zH) := match d with
  | 0 => none
  | d' + 1 => match zTk (zGar G a1) st [] with
    | none => none
    | some (vs, st') => match zrcv a3 vs h && Nat.ble (zcat st') 8 && Nat.ble (zsl vs).length (zGmx G a1) with
      | false => none
      | true => match ih d' a1 0 (zent vs (zGmx G a1)) [] h with
        | none => none
        | some (.inl v, h') => ih (d' + 1) m (pc + 3) L (zpu v st') h'
        | some (.inr en, h') => match thr with
          | false => none
          | true => match zGhd G m pc en with
            | some (some hp) => ih (d' + 1) m hp L [.retAddr 0] h'
            | some none => some (.inr en, h')
            | none => none
def zB (G : zG) (ih : zIh) (d m pc : Nat) (L : List (Option Value)) (st : List Value) (h : zH) : Option (zRs × zH) :=
  match zGP G m pc with
  | none => none
  | some (i, a1, a2, a3) => match Nat.beq a3 1 with
    | true => match st with
      | [] => some (.inr a1, (h.1, h.2.1 + 1, h.2.2 + 6))
      | _ => none
    | false => match zPure i L st with
      | some (L', st') => ih d m (pc + zlen i) L' st' h
      | none => match zCnd i st with
        | some (b, st') => match b with
          | true => ih d m a1 L st' h
          | false => ih d m (pc + 3) L st' h
        | none => match zHp (zGn G) (zGty G) (zGdf G) (zGas G) i a1 a2 st h with
          | some (st', h') => ih d m (pc + zlen i) L st' h'
          | none => match zCs (zGk G) i a1 st with
            | some st' => ih d m (pc + zlen i) L st' h
            | none => match zCa (zGas G) (zGn G) i a1 a2 st h with
              | some st' => ih d m (pc + zlen i) L st' h
              | none => match zRt (zGrt G m) i st with
                | some v => some (.inl v, h)
                | none => match i with
                  | .tableswitch dflt lo hi offs => match st with
                    | .int x :: st' => match zsw pc dflt lo hi offs x with
                      | some t => ih d m t L st' h
                      | none => none
                    | _ => none
                  | _ => match zisInv i with
                    | false => none
                    | true => match a2 with
                      | 0 => zCall G ih true d m pc a1 a3 L st h
                      | 2 => zCall G ih false d m pc a1 a3 L st h
                      | 1 => match st with
                        | .ref _ :: st' => match Nat.ble (zcat st') 8 with
                          | true => ih d m (pc + 3) L st' h
                          | false => none
                        | _ => none
                      | _ => match zGnt G a1 st h with
                        | some (st', h') => ih d m (pc + 3) L st' h'
                        | none => none
/-- the machine, with so many steps -/
def zEv (G : zG) (n : Nat) : zIh := Nat.rec (fun _ _ _ _ _ _ => none) (fun _ ih => zB G ih) n
theorem zEv_succ (G : zG) (n : Nat) : zEv G (n + 1) = zB G (zEv G n) := rfl
theorem zEv_zero (G : zG) (d m pc : Nat) (L : List (Option Value)) (st : List Value) (h : zH) : zEv G 0 d m pc L st h = none := rfl
/-- the counts never fall -/
def zUp (h h' : zH) : Prop := h.2.1 ≤ h'.2.1 ∧ h.2.2 ≤ h'.2.2 ∧ h.1.length ≤ h'.1.length
theorem zUp.rf (h : zH) : zUp h h := ⟨Nat.le_refl _, Nat.le_refl _, Nat.le_refl _⟩
theorem zUp.tr {a b c : zH} (h1 : zUp a b) (h2 : zUp b c) : zUp a c := ⟨Nat.le_trans h1.1 h2.1, Nat.le_trans h1.2.1 h2.2.1, Nat.le_trans h1.2.2 h2.2.2⟩
theorem zald_up {ok : Nat → Bool} {st st' : List Value} {h h' : zH} (hp : zald ok st h = some (st', h')) : zUp h h' := by
  unfold zald at hp
  repeat' split at hp
  all_goals first | (cases hp; exact zUp.rf _) | cases hp
theorem zast_up {ok : Nat → Value → Option Value} {n0 : Nat} {st st' : List Value} {h h' : zH} (hp : zast ok n0 st h = some (st', h')) : zUp h h' := by
  unfold zast at hp
  repeat' split at hp
  all_goals first | (cases hp; exact ⟨Nat.le_refl _, Nat.le_refl _, by rw [zs_length]; exact Nat.le_refl _⟩) | cases hp
theorem zHp_up {n0 : Nat} {tyv : Nat → Nat → FieldType} {dfv : Nat → List Value} {asg : Nat → Nat → Bool} {i : Instr} {a1 a2 : Nat} {st st' : List Value} {h h' : zH} (hp : zHp n0 tyv dfv asg i a1 a2 st h = some (st', h')) : zUp h h' := by
  unfold zHp at hp
  split at hp
  all_goals first
    | exact zald_up hp
    | exact zast_up hp
    | (repeat' split at hp
       all_goals first
         | (cases hp; exact zUp.rf _)
         | (cases hp; exact ⟨Nat.le_refl _, Nat.le_refl _, by rw [zs_length]; exact Nat.le_refl _⟩)
         | (cases hp; exact ⟨Nat.le_add_right _ _, Nat.le_add_right _ _, by rw [List.length_append]; exact Nat.le_add_right _ _⟩)
         | cases hp)
theorem zCall_up {G : zG} {ih : zIh} {thr : Bool} (hih : ∀ (d m pc : Nat) (L : List (Option Value)) (st : List Value) (h h' : zH) (o : zRs), ih d m pc L st h = some (o, h') → zUp h h') {d m pc a1 a3 : Nat} {L : List (Option Value)} {st : List Value} {h h' : zH} {o : zRs} (hp : zCall G ih thr d m pc a1 a3 L st h = some (o, h')) : zUp h h' := by
  unfold zCall at hp
  split at hp
  · cases hp
  split at hp
  · cases hp
  split at hp
  · cases hp
  split at hp
  · cases hp
  · rename_i hq
    exact (hih _ _ _ _ _ _ _ _ hq).tr (hih _ _ _ _ _ _ _ _ hp)
  · rename_i hq
    split at hp
    · cases hp
    split at hp
    · exact (hih _ _ _ _ _ _ _ _ hq).tr (hih _ _ _ _ _ _ _ _ hp)
    · cases hp
      exact hih _ _ _ _ _ _ _ _ hq
    · cases hp
theorem zB_up {G : zG} {ih : zIh} (hnt : ∀ (k : Nat) (st st' : List Value) (h h' : zH), zGnt G k st h = some (st', h') → zUp h h')
    (hih : ∀ (d m pc : Nat) (L : List (Option Value)) (st : List Value) (h h' : zH) (o : zRs), ih d m pc L st h = some (o, h') → zUp h h') {d m pc : Nat} {L : List (Option Value)} {st : List Value} {h h' : zH} {o : zRs} (hp : zB G ih d m pc L st h = some (o, h')) : zUp h h' := by
  unfold zB at hp
  split at hp
  · cases hp
  split at hp
  · split at hp
    · cases hp
      exact ⟨Nat.le_add_right _ _, Nat.le_add_right _ _, Nat.le_refl _⟩
    · cases hp
  split at hp
  · exact hih _ _ _ _ _ _ _ _ hp
  split at hp
  · split at hp <;> exact hih _ _ _ _ _ _ _ _ hp
  split at hp
  · rename_i hq
    exact (zHp_up hq).tr (hih _ _ _ _ _ _ _ _ hp)
  split at hp
  · exact hih _ _ _ _ _ _ _ _ hp
  split at hp
  · exact hih _ _ _ _ _ _ _ _ hp
  split at hp
  · cases hp
    exact zUp.rf _
  split at hp
  · split at hp
    · split at hp
      · exact hih _ _ _ _ _ _ _ _ hp
      · cases hp
    · cases hp
  split at hp
  · cases hp
  split at hp
  · exact zCall_up hih hp
  · exact zCall_up hih hp
  · split at hp
    · split at hp
      · exact hih _ _ _ _ _ _ _ _ hp
      · cases hp
    · cases hp
  · split at hp
    · rename_i hq
      exact (hnt _ _ _ _ _ hq).tr (hih _ _ _ _ _ _ _ _ hp)
    · cases hp
theorem zEv_up {G : zG} (hnt : ∀ (k : Nat) (st st' : List Value) (h h' : zH), zGnt G k st h = some (st', h') → zUp h h') : ∀ (n d m pc : Nat) (L : List (Option Value)) (st : List Value) (h h' : zH) (o : zRs), zEv G n d m pc L st h = some (o, h') → zUp h h'
  | 0, _, _, _, _, _, _, _, _, hp => by rw [zEv_zero] at hp; cases hp
  | n + 1, _, _, _, _, _, _, _, _, hp => by rw [zEv_succ] at hp; exact zB_up hnt (zEv_up hnt n) hp
end ZSTEP

/-! THE ASSEMBLY, first text: a check of every method's rows (written by a program of the verifier's) -/
section ZASM
def zisLk : Instr → Bool
  | .getfield _ | .putfield _ | .new _ | .anewarray _ | .ldc _ | .ldc_w _ | .ldc2_w _ | .getstatic _ | .checkcast _ | .instanceof _ | .invokevirtual _ | .invokespecial _ | .invokestatic _ => true
  | _ => false
def zkey : Instr → Nat
  | .getfield x | .putfield x | .new x | .anewarray x | .ldc x | .ldc_w x | .ldc2_w x | .getstatic x | .checkcast x | .instanceof x | .invokevirtual x | .invokespecial x | .invokestatic x => x
  | _ => 0
def zisJ : Instr → Bool
  | .goto _ | .ifCond _ _ | .if_icmp _ _ | .if_acmp _ _ | .ifnull _ | .ifnonnull _ => true
  | _ => false
/-- throws: method, place, exception -/
def zthL : List (Nat × Nat × Nat) := [(70, 27, 18), (125, 13, 19), (128, 15, 18), (130, 127, 20), (132, 62, 19), (137, 7, 20), (142, 25, 20), (142, 78, 20), (144, 17, 20), (144, 112, 20), (147, 49, 20), (172, 15, 20), (174, 17, 20), (176, 17, 20), (178, 17, 20), (180, 17, 20)]
/-- natives: method, place, which -/
def zntL : List (Nat × Nat × Nat) := [(42, 28, 0), (53, 27, 0), (89, 37, 1)]
def zin3 (l : List (Nat × Nat × Nat)) (a b c : Nat) : Bool := l.any (fun q => Nat.beq q.1 a && (Nat.beq q.2.1 b && Nat.beq q.2.2 c))
def zdk (b : ByteArray) (pc : Nat) (i : Instr) : Bool := match decode b pc with
  | .ok (j, len) => decide (j = i) && (zisTs i || Nat.beq len (zlen i))
  | .error _ => false
def zisI (q : zRow) : Bool := zisInv q.1 && !Nat.ble q.2.2.1 2
/-- what a row is checked for, where the class's links are lk -/
def zchR (mi : Nat) (lk : List zRow) (q : Nat × zRow) : Bool := zdk (zby mi) q.1 q.2.1 && (match Nat.beq q.2.2.2.2 1 with
  | true => zin3 zthL mi q.1 q.2.2.1
  | false => (!zisJ q.2.1 || decide ((q.1 : Int) + zoff q.2.1 = (q.2.2.1 : Int))) && (match zisLk q.2.1 with
    | false => true
    | true => match zisI q.2 with
      | true => zin3 zntL mi q.1 q.2.2.1
      | false => lk.any (fun r => Nat.beq (zkey r.1) (zkey q.2.1) && decide (r = q.2)) && (!zneed q.2 || decide ((zy mi).name = "<init>"))))
def zPk (mi : Nat) (zc : List (Nat × zRow)) : Prop := ∃ (ow : String) (lk : List zRow), zown mi = ow ∧ (∀ (D : va_G) (l : Launch), ∀ t ∈ lk, zLk D l ow t) ∧ zc.all (zchR mi lk) = true

theorem zal2 {α : Type} {P : α → Bool} {l : List α} (a : Nat) (h1 : ((l.drop a).take 40).all P = true) (h2 : (l.drop (a + 40)).all P = true) : (l.drop a).all P = true := by
  rw [← List.take_append_drop 40 (l.drop a), List.all_append, h1, List.drop_drop, h2]
  rfl
end ZASM

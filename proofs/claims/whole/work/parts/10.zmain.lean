/-! THE VIRTUAL MACHINE, ninth text: what a program's rows owe, the contracts, and the pieces of the proof that the machine does as the virtual one -/
section ZMAIN
/-- what a method may write: the objects that are not fixed, and what is new -/
def zA (n0 : Nat) (ad : List Nat) (sz : Nat) : Nat → Prop := fun q => (∃ k : Nat, n0 ≤ k ∧ zg ad k = some q) ∨ sz ≤ q
def zro (ad : List Nat) : Option Value → Option Value → Prop
  | none, w => w = none
  | some v, w => ∃ x, w = some x ∧ zr ad v x
variable (G : zG) (D : va_G) (cl : List vw_C) (cnm : Nat → String) (K : List Nat → (Nat → Prop) → State → Prop)
def zPc (ad : List Nat) (vs : List Value) (h : zH) (sz : Nat) : Array Value → State → Prop := fun av U => ∃ ws, av = ws.toArray ∧ zrs ad vs ws ∧ U.heap.size = sz ∧ zRep D cl cnm (zGn G) ad h.1 U U.heap ∧ zI (zGn G) ad ∧ K ad (zA (zGn G) ad sz) U
def zQb (ad : List Nat) (sz : Nat) (h' : zH) (ad' : List Nat) (st t : State) : Prop := (∃ x, ad' = ad ++ x) ∧ zRep D cl cnm (zGn G) ad' h'.1 t t.heap ∧ zI (zGn G) ad' ∧ (∀ k a : Nat, ad.length ≤ k → zg ad' k = some a → sz ≤ a) ∧ va_F (zA (zGn G) ad sz) st t
def zQo (ad : List Nat) (sz : Nat) (o : zRs) (h' : zH) : Array Value → State → Outcome → State → Prop := fun _ st oc t => match o with
  | .inl r => ∃ (ad' : List Nat) (w : Option Value), oc = .returned w ∧ zro ad' r w ∧ zQb G D cl cnm ad sz h' ad' st t
  | .inr _ => False
def zXo (ad : List Nat) (sz : Nat) (o : zRs) (h' : zH) : String → State → State → Prop := fun E st t => match o with
  | .inl _ => False
  | .inr en => E = cnm en ∧ ∃ ad' : List Nat, zQb G D cl cnm ad sz h' ad' st t
def zRm (d mc ms : Nat) : Room := { frames := d + 10, cells := mc, slots := ms, locals := 60 * d + 200 }
variable (l : Launch) (yv : Nat → MethodName) (byt : Nat → ByteArray) (own : Nat → String) (wv : Nat → List Cond)
/-- a body of the method mi, with d calls left -/
def zCx (p : Program) (R : Room) (s : State) (m : MethodId) (meth : Method) (c : Code) (mi d : Nat) : Prop :=
  p.tables.exec = Jvm.exec ∧ c.code = byt mi ∧ meth.sig.returnType = zGrt G mi ∧ c.maxLocals = zGmx G mi ∧ meth.locks = false ∧ s.vm.findClass (own mi) = some m.cls ∧ d + 10 ≤ R.frames ∧ 60 * d + 200 ≤ R.locals
def zOkThrow (p : Program) (e : Env) (R : Room) (s : State) (m : MethodId) (args : Array Value) (below : List Frame) (meth : Method) (c : Code) (A : Nat → Prop) (pc : Nat) (E : String) : Prop :=
  ∀ (H : Heap) (locs : List Loc) (cells slots mc ms : Nat) (ls : Array Slot) (Qc : Array Value → State → Outcome → State → Prop) (XC : String → State → State → Prop) (free : Addr → Prop), va_S A s.heap H locs → ls.size = c.maxLocals → cells + 1 ≤ R.cells → slots + 6 ≤ R.slots →
    (∀ t : State, s.vm.Alike t.vm → H.size ≤ t.heap.size → (∀ q : Nat, q < H.size → t.heap[q]? = H[q]?) → XC E s t) → (∀ z ∈ locs, free z.base) → cells + 1 ≤ mc → slots + 6 ≤ ms → W p l e R s m args below meth c H locs cells slots (vx_MQ below Qc XC args s mc ms free) (F0 m pc ls [])
def zOkExc (p : Program) (e : Env) (R : Room) (s : State) (m : MethodId) (args : Array Value) (below : List Frame) (meth : Method) (c : Code) (pc : Nat) (E : String) (r : Option Nat) : Prop := match r with
  | some hp => ∀ (H : Heap) (locs : List Loc) (cells slots : Nat) (Q : State → Prop) (ls : Array Slot) (rest : List Value) (q : Addr) (ce : Cell), H[q]? = some ce → ce.vm = .none → s.vm.findClass E = some ce.cls → W p l e R s m args below meth c H locs cells slots Q (F0 m hp ls [.ref q]) → vx_W p l e R s m args below meth c H locs cells slots Q (F0 m pc ls rest) q
  | none => ∀ (H : Heap) (locs : List Loc) (cells slots mc ms : Nat) (ls : Array Slot) (rest : List Value) (Qc : Array Value → State → Outcome → State → Prop) (XC : String → State → State → Prop) (free : Addr → Prop) (q : Addr) (ce : Cell), H[q]? = some ce → ce.vm = .none → s.vm.findClass E = some ce.cls →
    (∀ t : State, t.heap = H → s.vm.Alike t.vm → XC E s t) → (∀ z ∈ locs, free z.base) → cells ≤ mc → slots ≤ ms → vx_W p l e R s m args below meth c H locs cells slots (vx_MQ below Qc XC args s mc ms free) (F0 m pc ls rest) q
def zrcvR (a3 : Nat) (ws : List Value) (H : Heap) : Prop := match a3 with
  | 0 => True
  | 1 => False
  | 2 => ∃ (b : Nat) (As : List Value), ws = .ref b :: As
  | n + 3 => ∃ (b : Nat) (As : List Value) (ce : Cell), ws = .ref b :: As ∧ H[b]? = some ce ∧ ce.vm.isStatics = false ∧ ce.cls = D.1 n
def zOkInv (p : Program) (e : Env) (R : Room) (s : State) (m : MethodId) (args : Array Value) (below : List Frame) (meth : Method) (c : Code) (pc mj a3 : Nat) (thr : Bool) : Prop :=
  ∀ (H : Heap) (locs : List Loc) (cells slots mc ms : Nat) (ws rest : List Value) (ls : Array Slot) (Pc : Array Value → State → Prop) (Qc : Array Value → State → Outcome → State → Prop) (XC : String → State → State → Prop) (free : Addr → Prop) (rm : Room), rm.cells = mc → rm.slots = ms → rm.frames + 1 ≤ R.frames → 8 + (zGmx G mj + 11) + rm.locals ≤ R.locals →
    vx_Met l (yv mj) (wv mj) rm Pc Qc XC mc ms free → FrameBlind Pc → zrcvR D a3 ws H → (∀ U : State, U.heap = H → s.WarmedH U.vm → Pc ws.toArray U) → ls.size = c.maxLocals → ws.length = zGar G mj → (rest.map fun v => v.category).sum ≤ 8 → cells + mc ≤ R.cells → slots + ms ≤ R.slots →
    (thr = true ∨ ∀ E st t, ¬ XC E st t) → vx_Run p l e R s m args below meth c H locs cells slots mc ms (F0 m pc ls (ws.reverse ++ rest)) rest (Qc ws.toArray) XC free
def zOkNat (p : Program) (e : Env) (R : Room) (s : State) (m : MethodId) (args : Array Value) (below : List Frame) (meth : Method) (c : Code) (A : Nat → Prop) (ad0 : List Nat) (pc a1 : Nat) : Prop :=
  ∀ (c0 z0 : Nat) (ad : List Nat) (st st' : List Value) (h h' : zH) (H : Heap) (locs : List Loc) (cells slots : Nat) (rs : List Value) (ls : Array Slot) (Q : State → Prop), zInv D cl cnm (zGn G) s A ad0 c0 z0 ad h H locs cells slots → ls.size = c.maxLocals → zrs ad st rs → zGnt G a1 st h = some (st', h') → zGn G ≤ h.1.length → h'.2.1 ≤ c0 + R.cells → h'.2.2 ≤ z0 + R.slots →
    (∀ (x : List Nat) (H' : Heap) (locs' : List Loc) (cells' slots' : Nat) (rs' : List Value), zInv D cl cnm (zGn G) s A ad0 c0 z0 (ad ++ x) h' H' locs' cells' slots' → zrs (ad ++ x) st' rs' → W p l e R s m args below meth c H' locs' cells' slots' Q (F0 m (pc + 3) ls rs')) → W p l e R s m args below meth c H locs cells slots Q (F0 m pc ls rs)
def zOkObj (s : State) (args : Array Value) (own : String) (i : Instr) : Prop := match i with
  | .invokespecial x => (Cond.methodLink own x Lib.objectInit).before args s = true ∧ (Cond.instanceMethod Lib.objectInit).before args s = true ∧ (Cond.code Lib.objectInit ⟨#[0xb1]⟩ 1 none).before args s = true
  | _ => False
def zisTs : Instr → Bool
  | .tableswitch _ _ _ _ => true
  | _ => false
/-- what the tables owe at a row -/
def zOkRow (p : Program) (e : Env) (R : Room) (s : State) (m : MethodId) (args : Array Value) (below : List Frame) (meth : Method) (c : Code) (A : Nat → Prop) (ad0 : List Nat) (mi pc : Nat) (row : zRow) : Prop :=
  (∃ len, decode (byt mi) pc = .ok (row.1, len) ∧ (zisTs row.1 = true ∨ len = zlen row.1)) ∧
  (row.2.2.2 = 1 → zOkThrow l p e R s m args below meth c A pc (cnm row.2.1)) ∧
  (row.2.2.2 ≠ 1 → (∀ st r, zCnd row.1 st = some r → (pc : Int) + zoff row.1 = (row.2.1 : Int)) ∧
    zOkHp D cl cnm (zGty G) (zGdf G) s args m.cls meth.name (own mi) row.1 row.2.1 row.2.2.1 ∧
    (∀ st r, zCs (zGk G) row.1 row.2.1 st = some r → ∀ v, zg (zGk G) row.2.1 = some v → zOkCs p l e R s m args below meth c A ad0 pc row.1 v) ∧
    zOkCa cnm s args (own mi) row.1 row.2.1 row.2.2.1 ∧
    (zisInv row.1 = true → match row.2.2.1 with
      | 0 => zOkInv G D l yv wv p e R s m args below meth c pc row.2.1 row.2.2.2 true ∧ ∀ en r, zGhd G mi pc en = some r → zOkExc l p e R s m args below meth c pc (cnm en) r
      | 2 => zOkInv G D l yv wv p e R s m args below meth c pc row.2.1 row.2.2.2 false
      | 1 => zOkObj s args (own mi) row.1
      | _ => zOkNat G D cl cnm l p e R s m args below meth c A ad0 pc row.2.1))
end ZMAIN

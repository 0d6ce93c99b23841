/-! THE VIRTUAL MACHINE, first text: values, locals and the operand stack over virtual addresses (an object's address is its place in a list), and how they stand for the machine's own -/
section ZVM
def zg {α : Type} : List α → Nat → Option α
  | [], _ => none
  | a :: _, 0 => some a
  | _ :: l, n + 1 => zg l n
def zs {α : Type} : List α → Nat → α → List α
  | [], _, _ => []
  | _ :: l, 0, x => x :: l
  | a :: l, n + 1, x => a :: zs l n x
theorem zg_eq {α : Type} : ∀ (l : List α) (n : Nat), zg l n = l[n]?
  | [], n => by simp [zg]
  | a :: l, 0 => by simp [zg]
  | a :: l, n + 1 => by simp [zg, zg_eq l n]
theorem zs_length {α : Type} : ∀ (l : List α) (n : Nat) (x : α), (zs l n x).length = l.length
  | [], n, x => by simp [zs]
  | a :: l, 0, x => by simp [zs]
  | a :: l, n + 1, x => by simp [zs, zs_length l n x]
theorem zg_self {α : Type} : ∀ (l : List α) (n : Nat) (x y : α), zg l n = some y → zg (zs l n x) n = some x
  | [], n, x, y, h => by simp [zg] at h
  | a :: l, 0, x, y, h => by simp [zs, zg]
  | a :: l, n + 1, x, y, h => by simp only [zs, zg] at h ⊢; exact zg_self l n x y h
theorem zg_ne {α : Type} : ∀ (l : List α) (n k : Nat) (x : α), k ≠ n → zg (zs l n x) k = zg l k
  | [], n, k, x, h => by simp [zs]
  | a :: l, 0, 0, x, h => absurd rfl h
  | a :: l, 0, k + 1, x, h => by simp [zs, zg]
  | a :: l, n + 1, 0, x, h => by simp [zs, zg]
  | a :: l, n + 1, k + 1, x, h => by simp only [zs, zg]; exact zg_ne l n k x (fun q => h (by rw [q]))
theorem zg_lt {α : Type} : ∀ {l : List α} {n : Nat} {x : α}, zg l n = some x → n < l.length
  | [], n, x, h => by simp [zg] at h
  | a :: l, 0, x, h => by simp
  | a :: l, n + 1, x, h => by simp only [zg] at h; have := zg_lt h; simp only [List.length_cons]; omega
theorem zg_of_lt {α : Type} : ∀ {l : List α} {n : Nat}, n < l.length → ∃ x, zg l n = some x
  | [], n, h => by simp at h
  | a :: l, 0, h => ⟨a, rfl⟩
  | a :: l, n + 1, h => by simp only [zg]; exact zg_of_lt (by simpa using h)
theorem zg_app {α : Type} : ∀ {l : List α} {n : Nat} {x : α} (r : List α), zg l n = some x → zg (l ++ r) n = some x
  | [], n, x, r, h => by simp [zg] at h
  | a :: l, 0, x, r, h => by simpa [zg] using h
  | a :: l, n + 1, x, r, h => by simp only [zg, List.cons_append] at h ⊢; exact zg_app r h
theorem zg_end {α : Type} : ∀ (l : List α) (x : α), zg (l ++ [x]) l.length = some x
  | [], x => by simp [zg]
  | a :: l, x => by simp only [List.cons_append, List.length_cons, zg]; exact zg_end l x
theorem zg_end_inv {α : Type} : ∀ {l : List α} {x y : α} {n : Nat}, zg (l ++ [x]) n = some y → zg l n = some y ∨ (n = l.length ∧ y = x)
  | [], x, y, 0, h => by simp only [List.nil_append, zg, Option.some.injEq] at h; exact Or.inr ⟨rfl, h.symm⟩
  | [], x, y, n + 1, h => by simp [zg] at h
  | a :: l, x, y, 0, h => by simp only [List.cons_append, zg] at h ⊢; exact Or.inl h
  | a :: l, x, y, n + 1, h => by
    simp only [List.cons_append, zg, List.length_cons] at h ⊢
    rcases zg_end_inv h with h | ⟨h1, h2⟩
    · exact Or.inl h
    · exact Or.inr ⟨by omega, h2⟩
/-- a virtual value stands for a value: a reference by the list of addresses; '.retAddr' stands for some reference or null that is never looked at -/
def zr (ad : List Nat) : Value → Value → Prop
  | .ref k, w => ∃ a : Nat, zg ad k = some a ∧ w = .ref a
  | .retAddr _, w => w = .null ∨ ∃ a : Nat, w = .ref a
  | .int x, w => w = .int x
  | .long x, w => w = .long x
  | .float x, w => w = .float x
  | .double x, w => w = .double x
  | .null, w => w = .null
def zrs (ad : List Nat) : List Value → List Value → Prop
  | [], ws => ws = []
  | v :: vs, ws => ∃ w ws', ws = w :: ws' ∧ zr ad v w ∧ zrs ad vs ws'
theorem zr.app {ad : List Nat} (r : List Nat) : ∀ {v w : Value}, zr ad v w → zr (ad ++ r) v w
  | .ref k, w, ⟨a, h1, h2⟩ => ⟨a, zg_app r h1, h2⟩
  | .retAddr _, w, h => h
  | .int _, w, h => h
  | .long _, w, h => h
  | .float _, w, h => h
  | .double _, w, h => h
  | .null, w, h => h
theorem zrs.app {ad : List Nat} (r : List Nat) : ∀ {vs ws : List Value}, zrs ad vs ws → zrs (ad ++ r) vs ws
  | [], ws, h => h
  | v :: vs, ws, ⟨w, ws', e, h1, h2⟩ => ⟨w, ws', e, h1.app r, h2.app r⟩
theorem zr.cat {ad : List Nat} : ∀ {v w : Value}, zr ad v w → w.category = v.category
  | .ref k, w, ⟨a, h1, h2⟩ => by rw [h2]; rfl
  | .retAddr _, w, Or.inl h => by rw [h]; rfl
  | .retAddr _, w, Or.inr ⟨a, h⟩ => by rw [h]; rfl
  | .int _, w, h => by rw [show w = _ from h]
  | .long _, w, h => by rw [show w = _ from h]
  | .float _, w, h => by rw [show w = _ from h]
  | .double _, w, h => by rw [show w = _ from h]
  | .null, w, h => by rw [show w = _ from h]
theorem zrs.length {ad : List Nat} : ∀ {vs ws : List Value}, zrs ad vs ws → ws.length = vs.length
  | [], ws, h => by rw [show ws = [] from h]
  | v :: vs, ws, ⟨w, ws', e, h1, h2⟩ => by rw [e, List.length_cons, List.length_cons, zrs.length h2]
theorem zrs.cats {ad : List Nat} : ∀ {vs ws : List Value}, zrs ad vs ws → (ws.map fun v => v.category) = vs.map fun v => v.category
  | [], ws, h => by rw [show ws = [] from h]
  | v :: vs, ws, ⟨w, ws', e, h1, h2⟩ => by rw [e, List.map_cons, List.map_cons, zrs.cats h2, h1.cat]
theorem zrs.get {ad : List Nat} : ∀ {vs ws : List Value} {k : Nat} {v : Value}, zrs ad vs ws → zg vs k = some v → ∃ w, ws[k]? = some w ∧ zr ad v w
  | [], ws, k, v, h, hk => by simp [zg] at hk
  | u :: vs, ws, 0, v, ⟨w, ws', e, h1, h2⟩, hk => by
    simp only [zg, Option.some.injEq] at hk
    subst hk; subst e
    exact ⟨w, by simp, h1⟩
  | u :: vs, ws, k + 1, v, ⟨w, ws', e, h1, h2⟩, hk => by
    simp only [zg] at hk
    subst e
    obtain ⟨x, h3, h4⟩ := zrs.get h2 hk
    exact ⟨x, by simpa using h3, h4⟩
theorem zrs.set {ad : List Nat} : ∀ {vs ws : List Value} (k : Nat) {v w : Value}, zrs ad vs ws → zr ad v w → zrs ad (zs vs k v) (ws.set k w)
  | [], ws, k, v, w, h, hv => by rw [show ws = [] from h]; simp [zs, zrs]
  | u :: vs, ws, 0, v, w, ⟨x, ws', e, h1, h2⟩, hv => by subst e; exact ⟨w, ws', rfl, hv, h2⟩
  | u :: vs, ws, k + 1, v, w, ⟨x, ws', e, h1, h2⟩, hv => by subst e; exact ⟨x, ws'.set k w, rfl, h1, zrs.set k h2 hv⟩
theorem zrs.append {ad : List Nat} : ∀ {vs ws us xs : List Value}, zrs ad vs ws → zrs ad us xs → zrs ad (vs ++ us) (ws ++ xs)
  | [], ws, us, xs, h, h' => by rw [show ws = [] from h]; exact h'
  | v :: vs, ws, us, xs, ⟨w, ws', e, h1, h2⟩, h' => by subst e; exact ⟨w, ws' ++ xs, rfl, h1, zrs.append h2 h'⟩
theorem zrs.reverse {ad : List Nat} : ∀ {vs ws : List Value}, zrs ad vs ws → zrs ad vs.reverse ws.reverse
  | [], ws, h => by rw [show ws = [] from h]; simp [zrs]
  | v :: vs, ws, ⟨w, ws', e, h1, h2⟩ => by
    subst e
    rw [List.reverse_cons, List.reverse_cons]
    exact zrs.append (zrs.reverse h2) ⟨w, [], rfl, h1, rfl⟩
theorem zrs.rep {ad : List Nat} {v w : Value} (h : zr ad v w) : ∀ n : Nat, zrs ad (List.replicate n v) (List.replicate n w)
  | 0 => rfl
  | n + 1 => ⟨w, List.replicate n w, rfl, h, zrs.rep h n⟩
/-- the locals -/
def zL (ad : List Nat) (L : List (Option Value)) (ls : Array Slot) (nL : Nat) : Prop :=
  ls.size = nL ∧ lv_wf ls ∧ L.length = nL ∧ ∀ (i : Nat) (v : Value), zg L i = some (some v) → ∃ w, ls[i]? = some (.val w) ∧ zr ad v w
theorem zL.app {ad : List Nat} (r : List Nat) {L : List (Option Value)} {ls : Array Slot} {nL : Nat} (h : zL ad L ls nL) : zL (ad ++ r) L ls nL :=
  ⟨h.1, h.2.1, h.2.2.1, fun i v hi => by obtain ⟨w, h1, h2⟩ := h.2.2.2 i v hi; exact ⟨w, h1, h2.app r⟩⟩
/-- is the local ahead of place i a long? -/
def zcl (L : List (Option Value)) : Nat → Bool
  | 0 => false
  | j + 1 => match zg L j with
    | some (some (.long _)) => true
    | some (some (.double _)) => true
    | _ => false
def zput (L : List (Option Value)) (i : Nat) (v : Value) : Option (List (Option Value)) :=
  match zg L i with
  | none => none
  | some _ => match zcl L i with
    | true => none
    | false => some (zs L i (some v))
def zput2 (L : List (Option Value)) (i : Nat) (v : Value) : Option (List (Option Value)) :=
  match zg L (i + 1) with
  | none => none
  | some _ => match zcl L i with
    | true => none
    | false => some (zs (zs L i (some v)) (i + 1) none)
/-- all values that the locals hold -/
def zall (ls : Array Slot) : List (Nat × Value) := (List.range ls.size).filterMap fun (i : Nat) => match (ls[i]? : Option Slot) with
  | some (Slot.val v) => some (i, v)
  | _ => none
theorem zall_mem {ls : Array Slot} {i : Nat} {v : Value} (h : ls[i]? = some (.val v)) : (i, v) ∈ zall ls := by
  refine List.mem_filterMap.mpr ⟨i, List.mem_range.mpr (lv_lt h), ?_⟩
  rw [h]
theorem zall_has {ls : Array Slot} {nL : Nat} (h1 : ls.size = nL) (h2 : lv_wf ls) : lv_has ls nL (zall ls) := by
  refine ⟨h1, h2, fun q hq => ?_⟩
  obtain ⟨i, -, hi⟩ := List.mem_filterMap.mp hq
  split at hi
  · rename_i v hv
    cases hi
    exact hv
  · cases hi
theorem zcl_cat {ad : List Nat} {L : List (Option Value)} {j : Nat} {u x : Value} (hc : zcl L (j + 1) = false) (hu : zg L j = some (some u)) (hx : zr ad u x) : x.category ≠ 2 := by
  rw [hx.cat]
  simp only [zcl, hu] at hc
  cases u <;> simp_all [Value.category]
theorem zput_spec {L L' : List (Option Value)} {i : Nat} {v : Value} (h : zput L i v = some L') : L' = zs L i (some v) ∧ zcl L i = false ∧ i < L.length := by
  unfold zput at h
  split at h
  · cases h
  · rename_i x hx
    split at h
    · cases h
    · rename_i hc
      cases h
      exact ⟨rfl, hc, zg_lt hx⟩
theorem zput2_spec {L L' : List (Option Value)} {i : Nat} {v : Value} (h : zput2 L i v = some L') : L' = zs (zs L i (some v)) (i + 1) none ∧ zcl L i = false ∧ i + 1 < L.length := by
  unfold zput2 at h
  split at h
  · cases h
  · rename_i x hx
    split at h
    · cases h
    · rename_i hc
      cases h
      exact ⟨rfl, hc, zg_lt hx⟩
theorem zL.put {ad : List Nat} {L L' : List (Option Value)} {ls ls' : Array Slot} {nL i : Nat} {v w : Value} (h : zL ad L ls nL) (hp : zput L i v = some L') (hr : zr ad v w)
    (h' : lv_has ls' nL ((i, w) :: (zall ls).filter (fun q => !(q.1 == i) && !(q.1 + 1 == i && q.2.category == 2)))) : zL ad L' ls' nL := by
  obtain ⟨rfl, hc, hi⟩ := zput_spec hp
  obtain ⟨x, hx⟩ := zg_of_lt hi
  refine ⟨h'.1, h'.2.1, by rw [zs_length]; exact h.2.2.1, fun j u hu => ?_⟩
  by_cases hj : j = i
  · subst hj
    rw [zg_self L j _ _ hx] at hu
    cases hu
    exact ⟨w, h'.2.2 _ List.mem_cons_self, hr⟩
  · rw [zg_ne L i j _ hj] at hu
    obtain ⟨y, h1, h2⟩ := h.2.2.2 j u hu
    refine ⟨y, h'.2.2 (j, y) (List.mem_cons_of_mem _ (List.mem_filter.mpr ⟨zall_mem h1, ?_⟩)), h2⟩
    have hne : ¬ (j + 1 = i ∧ y.category = 2) := by
      rintro ⟨q1, q2⟩
      subst q1
      exact zcl_cat hc hu h2 q2
    simp only [Bool.and_eq_true, Bool.not_eq_true', beq_eq_false_iff_ne, ne_eq, Bool.and_eq_false_iff]
    exact ⟨hj, by rcases Classical.em (j + 1 = i) with q | q; exact Or.inr (fun z => hne ⟨q, z⟩); exact Or.inl q⟩
theorem zL.put2 {ad : List Nat} {L L' : List (Option Value)} {ls ls' : Array Slot} {nL i : Nat} {v w : Value} (h : zL ad L ls nL) (hp : zput2 L i v = some L') (hr : zr ad v w)
    (h' : lv_has ls' nL ((i, w) :: (zall ls).filter (fun q => !(q.1 == i) && (!(q.1 == i + 1) && !(q.1 + 1 == i && q.2.category == 2))))) : zL ad L' ls' nL := by
  obtain ⟨rfl, hc, hi⟩ := zput2_spec hp
  obtain ⟨x, hx⟩ := zg_of_lt (show i < L.length by omega)
  refine ⟨h'.1, h'.2.1, by rw [zs_length, zs_length]; exact h.2.2.1, fun j u hu => ?_⟩
  by_cases hj1 : j = i + 1
  · subst hj1
    obtain ⟨y, hy⟩ := zg_of_lt (l := zs L i (some v)) (n := i + 1) (by rw [zs_length]; exact hi)
    rw [zg_self _ _ _ _ hy] at hu
    cases hu
  · rw [zg_ne _ _ _ _ hj1] at hu
    by_cases hj : j = i
    · subst hj
      rw [zg_self L j _ _ hx] at hu
      cases hu
      exact ⟨w, h'.2.2 _ List.mem_cons_self, hr⟩
    · rw [zg_ne L i j _ hj] at hu
      obtain ⟨y, h1, h2⟩ := h.2.2.2 j u hu
      refine ⟨y, h'.2.2 (j, y) (List.mem_cons_of_mem _ (List.mem_filter.mpr ⟨zall_mem h1, ?_⟩)), h2⟩
      have hne : ¬ (j + 1 = i ∧ y.category = 2) := by
        rintro ⟨q1, q2⟩
        subst q1
        exact zcl_cat hc hu h2 q2
      simp only [Bool.and_eq_true, Bool.not_eq_true', beq_eq_false_iff_ne, ne_eq, Bool.and_eq_false_iff]
      exact ⟨hj, hj1, by rcases Classical.em (j + 1 = i) with q | q; exact Or.inr (fun z => hne ⟨q, z⟩); exact Or.inl q⟩
theorem zL.ok {ad : List Nat} {L : List (Option Value)} {ls : Array Slot} {nL : Nat} (h : zL ad L ls nL) : lv_has ls nL (zall ls) := zall_has h.1 h.2.1
theorem zL.lt {ad : List Nat} {L : List (Option Value)} {ls : Array Slot} {nL i : Nat} (h : zL ad L ls nL) (hi : i < L.length) : i < nL := by rw [← h.2.2.1]; exact hi
/-- an instruction's length -/
def zlen : Instr → Nat
  | .aload _ | .iload _ | .lload _ | .istore _ | .lstore _ | .astore _ | .bipush _ | .ldc _ | .newarray _ => 2
  | .sipush _ | .ldc_w _ | .ldc2_w _ | .iinc _ _ | .if_icmp _ _ | .ifCond _ _ | .if_acmp _ _ | .ifnull _ | .ifnonnull _ | .goto _ | .getfield _ | .putfield _ | .getstatic _ | .new _ | .anewarray _ | .checkcast _ | .instanceof _ | .invokevirtual _ | .invokespecial _ | .invokestatic _ => 3
  | _ => 1
def zldI (L : List (Option Value)) (k : Nat) (st : List Value) : Option (List (Option Value) × List Value) := match zg L k with
  | some (some (.int v)) => some (L, .int v :: st)
  | _ => none
def zldL (L : List (Option Value)) (k : Nat) (st : List Value) : Option (List (Option Value) × List Value) := match zg L k with
  | some (some (.long v)) => some (L, .long v :: st)
  | _ => none
def zldA (L : List (Option Value)) (k : Nat) (st : List Value) : Option (List (Option Value) × List Value) := match zg L k with
  | some (some (.ref v)) => some (L, .ref v :: st)
  | some (some .null) => some (L, .null :: st)
  | _ => none
def zstI (L : List (Option Value)) (k : Nat) (st : List Value) : Option (List (Option Value) × List Value) := match st with
  | .int v :: st => match zput L k (.int v) with
    | some L' => some (L', st)
    | none => none
  | _ => none
def zstL (L : List (Option Value)) (k : Nat) (st : List Value) : Option (List (Option Value) × List Value) := match st with
  | .long v :: st => match zput2 L k (.long v) with
    | some L' => some (L', st)
    | none => none
  | _ => none
def zstA (L : List (Option Value)) (k : Nat) (st : List Value) : Option (List (Option Value) × List Value) := match st with
  | .ref v :: st => match zput L k (.ref v) with
    | some L' => some (L', st)
    | none => none
  | .retAddr v :: st => match zput L k (.retAddr v) with
    | some L' => some (L', st)
    | none => none
  | .null :: st => match zput L k .null with
    | some L' => some (L', st)
    | none => none
  | _ => none
def zincI (L : List (Option Value)) (k : Nat) (n : Int) (st : List Value) : Option (List (Option Value) × List Value) := match zg L k with
  | some (some (.int v)) => match zput L k (.int (v + Int32.ofInt n)) with
    | some L' => some (L', st)
    | none => none
  | _ => none
def zbI (f : Int32 → Int32 → Int32) (L : List (Option Value)) (st : List Value) : Option (List (Option Value) × List Value) := match st with
  | .int y :: .int x :: st => some (L, .int (f x y) :: st)
  | _ => none
def zbL (f : Int64 → Int64 → Int64) (L : List (Option Value)) (st : List Value) : Option (List (Option Value) × List Value) := match st with
  | .long y :: .long x :: st => some (L, .long (f x y) :: st)
  | _ => none
def zuI (f : Int32 → Value) (L : List (Option Value)) (st : List Value) : Option (List (Option Value) × List Value) := match st with
  | .int x :: st => some (L, f x :: st)
  | _ => none
/-- a value of one place, by its form -/
def zc1 : Value → Bool
  | .int _ | .ref _ | .null | .retAddr _ => true
  | _ => false
def zPure (i : Instr) (L : List (Option Value)) (st : List Value) : Option (List (Option Value) × List Value) :=
  match i with
  | .aload k => zldA L k st
  | .aload_n k => zldA L k.val st
  | .iload k => zldI L k st
  | .iload_n k => zldI L k.val st
  | .lload k => zldL L k st
  | .lload_n k => zldL L k.val st
  | .astore k => zstA L k st
  | .astore_n k => zstA L k.val st
  | .istore k => zstI L k st
  | .istore_n k => zstI L k.val st
  | .lstore k => zstL L k st
  | .lstore_n k => zstL L k.val st
  | .iinc k n => zincI L k n st
  | .iconst n => some (L, .int (Int32.ofInt n) :: st)
  | .bipush n => some (L, .int (Int8.ofInt n).toInt32 :: st)
  | .sipush n => some (L, .int (Int16.ofInt n).toInt32 :: st)
  | .lconst n => some (L, .long (Int64.ofNat n.val) :: st)
  | .aconst_null => some (L, .null :: st)
  | .iadd => zbI (fun x y => x + y) L st
  | .isub => zbI (fun x y => x - y) L st
  | .imul => zbI (fun x y => x * y) L st
  | .iand => zbI (fun x y => x &&& y) L st
  | .ior => zbI (fun x y => x ||| y) L st
  | .ixor => zbI (fun x y => x ^^^ y) L st
  | .ishl => zbI (fun x y => x <<< (y &&& 31)) L st
  | .ishr => zbI (fun x y => x >>> (y &&& 31)) L st
  | .iushr => zbI (fun x y => (x.toUInt32 >>> (y.toUInt32 &&& Int32.toUInt32 31)).toInt32) L st
  | .ladd => zbL (fun x y => x + y) L st
  | .land => zbL (fun x y => x &&& y) L st
  | .lmul => zbL (fun x y => x * y) L st
  | .lxor => zbL (fun x y => x ^^^ y) L st
  | .idiv => match st with
    | .int y :: .int x :: st => match decide (y = 0) with
      | false => some (L, .int (x / y) :: st)
      | true => none
    | _ => none
  | .irem => match st with
    | .int y :: .int x :: st => match decide (y = 0) with
      | false => some (L, .int (x - x / y * y) :: st)
      | true => none
    | _ => none
  | .lrem => match st with
    | .long y :: .long x :: st => match decide (y = 0) with
      | false => some (L, .long (x - x / y * y) :: st)
      | true => none
    | _ => none
  | .lushr => match st with
    | .int y :: .long x :: st => some (L, .long (x.toUInt64 >>> (y.toInt64.toUInt64 &&& Int64.toUInt64 63)).toInt64 :: st)
    | _ => none
  | .lcmp => match st with
    | .long y :: .long x :: st => some (L, .int (lg_cmp x y) :: st)
    | _ => none
  | .l2i => match st with
    | .long x :: st => some (L, .int x.toInt32 :: st)
    | _ => none
  | .ineg => zuI (fun x => .int (-x)) L st
  | .i2l => zuI (fun x => .long x.toInt64) L st
  | .i2b => zuI (fun x => .int x.toInt8.toInt32) L st
  | .i2c => zuI (fun x => .int (x.toUInt32 % 65536).toInt32) L st
  | .dup => match st with
    | v :: st => match zc1 v with
      | true => some (L, v :: v :: st)
      | false => none
    | _ => none
  | .dup_x1 => match st with
    | v :: u :: st => match zc1 v && zc1 u with
      | true => some (L, v :: u :: v :: st)
      | false => none
    | _ => none
  | .dup2 => match st with
    | v :: u :: st => match zc1 v && zc1 u with
      | true => some (L, v :: u :: v :: u :: st)
      | false => none
    | _ => none
  | .pop => match st with
    | v :: st => match zc1 v with
      | true => some (L, st)
      | false => none
    | _ => none
  | _ => none
end ZVM

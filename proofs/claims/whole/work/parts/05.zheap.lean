/-! THE VIRTUAL MACHINE, fourth text: the virtual heap (a list of objects and arrays, and counts of the cells and slots made), and how it stands for the machine's -/
section ZHEAP
/-- an array: the code of its components' type, its values; or an object: the number of its class, its fields -/
abbrev zO : Type := (Nat × List Value) ⊕ (Nat × List Value)
abbrev zH : Type := List zO × Nat × Nat
/-- the components' types by their codes: an object's class by its number -/
def zaty (cnm : Nat → String) : Nat → FieldType
  | 0 => .int
  | 1 => .byte
  | 2 => .boolean
  | 3 => .char
  | 4 => .long
  | n + 5 => .object (cnm n)
/-- a cell stands for a virtual object -/
def zob (D : va_G) (cl : List vw_C) (cnm : Nat → String) (U : State) (ad : List Nat) (o : zO) (cell : Cell) : Prop := match o with
  | .inl (ty, vs) => cell.vm ≠ .unknown ∧ U.isArrayOf cell (zaty cnm ty) ∧ zrs ad vs cell.slots.toList
  | .inr (ci, fs) => cell.vm ≠ .unknown ∧ cell.vm.isStatics = false ∧ cell.cls = D.1 ci ∧ ∃ r : vw_C, zg cl ci = some r ∧ fs.length = r.2.2 ∧ ∀ (k : Nat) (v : Value), zg fs k = some v → ∃ w, cell.slots[D.2 ci k]? = some w ∧ zr ad v w
theorem zob.app {D : va_G} {cl : List vw_C} {cnm : Nat → String} {U : State} {ad : List Nat} (x : List Nat) : ∀ {o : zO} {cell : Cell}, zob D cl cnm U ad o cell → zob D cl cnm U (ad ++ x) o cell
  | .inl (ty, vs), ce, ⟨h1, h2, h3⟩ => ⟨h1, h2, h3.app x⟩
  | .inr (ci, fs), ce, ⟨h1, h2, h3, r, h4, h5, h6⟩ => ⟨h1, h2, h3, r, h4, h5, fun k v hk => by obtain ⟨w, a, b⟩ := h6 k v hk; exact ⟨w, a, b.app x⟩⟩
theorem zob.moved {D : va_G} {cl : List vw_C} {cnm : Nat → String} {u U : State} (hvm : u.vm.Alike U.vm) {ad : List Nat} : ∀ {o : zO} {cell : Cell}, zob D cl cnm u ad o cell → zob D cl cnm U ad o cell
  | .inl (ty, vs), ce, ⟨h1, h2, h3⟩ => ⟨h1, State.isArrayOf_alike hvm h2, h3⟩
  | .inr (ci, fs), ce, h => h
/-- of an array of references that may be written: its component's class is the class of that name -/
def zraT (cnm : Nat → String) (U : State) (k : ClassId) (ty : Nat) : Prop := match ty with
  | n + 5 => va_RA U k (.object (cnm n))
  | _ => True
def zra (cnm : Nat → String) (U : State) (o : zO) (cell : Cell) : Prop := match o with
  | .inl (ty, _) => zraT cnm U cell.cls ty
  | .inr _ => True
theorem zra.moved {cnm : Nat → String} {u U : State} (hvm : u.vm.Alike U.vm) {o : zO} {ce : Cell} (h : zra cnm u o ce) : zra cnm U o ce := by
  rcases o with ⟨ty, vs⟩ | x
  · show zraT cnm U ce.cls ty
    have h : zraT cnm u ce.cls ty := h
    unfold zraT at h ⊢
    split at h
    · exact h.moved hvm
    · trivial
  · trivial
/-- the heap holds the virtual one; the first n0 objects are those that nobody writes -/
def zRep (D : va_G) (cl : List vw_C) (cnm : Nat → String) (n0 : Nat) (ad : List Nat) (h : List zO) (U : State) (H : Heap) : Prop :=
  ad.length = h.length ∧ ∀ (k : Nat) (o : zO), zg h k = some o → ∃ (a : Nat) (cell : Cell), zg ad k = some a ∧ H[a]? = some cell ∧ zob D cl cnm U ad o cell ∧ (n0 ≤ k → cell.vm = .none ∧ zra cnm U o cell)
theorem zRep.moved {D : va_G} {cl : List vw_C} {cnm : Nat → String} {n0 : Nat} {ad : List Nat} {h : List zO} {u U : State} {H : Heap} (hvm : u.vm.Alike U.vm) (hR : zRep D cl cnm n0 ad h u H) : zRep D cl cnm n0 ad h U H :=
  ⟨hR.1, fun k o hk => by obtain ⟨a, cell, h1, h2, h3, h4⟩ := hR.2 k o hk; exact ⟨a, cell, h1, h2, h3.moved hvm, fun hk => ⟨(h4 hk).1, (h4 hk).2.moved hvm⟩⟩⟩
theorem zRep.lt {D : va_G} {cl : List vw_C} {cnm : Nat → String} {n0 : Nat} {ad : List Nat} {h : List zO} {U : State} {H : Heap} (hR : zRep D cl cnm n0 ad h U H) {k a : Nat} (hk : zg ad k = some a) : a < H.size := by
  obtain ⟨o, ho⟩ := zg_of_lt (l := h) (n := k) (by rw [← hR.1]; exact zg_lt hk)
  obtain ⟨a', cell, h1, h2, -, -⟩ := hR.2 k o ho
  rw [hk] at h1
  cases h1
  exact (Array.getElem?_eq_some_iff.mp h2).1
/-- a virtual object is changed in one place -/
theorem zRep.set {D : va_G} {cl : List vw_C} {cnm : Nat → String} {n0 : Nat} {ad : List Nat} {h : List zO} {U : State} {H H1 : Heap} (hR : zRep D cl cnm n0 ad h U H) (hi : zI n0 ad) {k a : Nat} (hkn : n0 ≤ k) {o o' : zO} {cell' : Cell} (ho : zg h k = some o) (ha : zg ad k = some a)
    (hc : H1[a]? = some cell') (hz : zob D cl cnm U ad o' cell') (hn : n0 ≤ k → cell'.vm = .none ∧ zra cnm U o' cell') (hq : ∀ q : Nat, q ≠ a → H1[q]? = H[q]?) : zRep D cl cnm n0 ad (zs h k o') U H1 := by
  refine ⟨by rw [zs_length]; exact hR.1, fun j x hj => ?_⟩
  by_cases hjk : j = k
  · subst hjk
    rw [zg_self h j _ _ ho] at hj
    cases hj
    exact ⟨a, cell', ha, hc, hz, hn⟩
  · rw [zg_ne h k j _ hjk] at hj
    obtain ⟨a', cell, h1, h2, h3, h4⟩ := hR.2 j x hj
    refine ⟨a', cell, h1, ?_, h3, h4⟩
    rw [hq a' (fun q => hjk (hi j k a' h1 (by rw [ha, q]) (Or.inr (Or.inr hkn))))]
    exact h2
/-- a new one comes -/
theorem zRep.push {D : va_G} {cl : List vw_C} {cnm : Nat → String} {n0 : Nat} {ad : List Nat} {h : List zO} {U : State} {H H1 : Heap} (hR : zRep D cl cnm n0 ad h U H) {o : zO} {cell : Cell} {a : Nat}
    (hc : H1[a]? = some cell) (hz : zob D cl cnm U ad o cell) (hn : cell.vm = .none ∧ zra cnm U o cell) (hq : ∀ q : Nat, q < H.size → H1[q]? = H[q]?) : zRep D cl cnm n0 (ad ++ [a]) (h ++ [o]) U H1 := by
  refine ⟨by rw [List.length_append, List.length_append, hR.1]; rfl, fun j x hj => ?_⟩
  rcases zg_end_inv hj with hj | ⟨rfl, rfl⟩
  · obtain ⟨a', cell', h1, h2, h3, h4⟩ := hR.2 j x hj
    exact ⟨a', cell', zg_app _ h1, by rw [hq a' (hR.lt h1)]; exact h2, h3.app _, h4⟩
  · exact ⟨a, cell, by rw [← hR.1]; exact zg_end ad a, hc, hz.app _, fun _ => hn⟩
theorem zI.push {n0 : Nat} {ad : List Nat} {a : Nat} (hi : zI n0 ad) (ha : ∀ (k b : Nat), zg ad k = some b → b ≠ a) : zI n0 (ad ++ [a]) := by
  intro i j b h1 h2 h3
  rcases zg_end_inv h1 with q1 | ⟨e1, e2⟩
  · rcases zg_end_inv h2 with q2 | ⟨e3, e4⟩
    · exact hi i j b q1 q2 h3
    · exact absurd e4 (ha i _ q1)
  · rcases zg_end_inv h2 with q2 | ⟨e3, e4⟩
    · exact absurd e2 (ha j _ q2)
    · rw [e1, e3]
/-- the walk's own: what has been written lies in A; what is new lies behind the entry's heap; the counts -/
def zInv (D : va_G) (cl : List vw_C) (cnm : Nat → String) (n0 : Nat) (s : State) (A : Nat → Prop) (ad0 : List Nat) (c0 z0 : Nat) (ad : List Nat) (h : zH) (H : Heap) (locs : List Loc) (cells slots : Nat) : Prop :=
  zRep D cl cnm n0 ad h.1 s H ∧ zI n0 ad ∧ va_S A s.heap H locs ∧ (∀ (k a : Nat), n0 ≤ k → zg ad k = some a → A a) ∧ (∃ x, ad = ad0 ++ x) ∧ (∀ (k a : Nat), ad0.length ≤ k → zg ad k = some a → s.heap.size ≤ a) ∧ h.2.1 = c0 + cells ∧ h.2.2 = z0 + slots
section
variable {D : va_G} {cl : List vw_C} {cnm : Nat → String} {n0 : Nat} {s : State} {A : Nat → Prop} {ad0 : List Nat} {c0 z0 : Nat} {ad : List Nat} {h : zH} {H H1 : Heap} {locs : List Loc} {cells slots : Nat}
theorem zInv.put (hV : zInv D cl cnm n0 s A ad0 c0 z0 ad h H locs cells slots) {k a j : Nat} {o o' : zO} {cell' : Cell} (hk : n0 ≤ k) (ho : zg h.1 k = some o) (ha : zg ad k = some a)
    (hc : H1[a]? = some cell') (hz : zob D cl cnm s ad o' cell') (hn : cell'.vm = .none ∧ zra cnm s o' cell') (hs : H1.size = H.size) (hq : ∀ q : Nat, q ≠ a → H1[q]? = H[q]?) : zInv D cl cnm n0 s A ad0 c0 z0 ad (zs h.1 k o', h.2) H1 (locs ++ [⟨a, j⟩]) cells slots := by
  obtain ⟨v1, v2, v3, v4, v5, v6, v7, v8⟩ := hV
  exact ⟨v1.set v2 hk ho ha hc hz (fun _ => hn) hq, v2, v3.put hs hq (v4 k a hk ha), v4, v5, v6, v7, v8⟩
theorem zInv.push (hV : zInv D cl cnm n0 s A ad0 c0 z0 ad h H locs cells slots) (hA : ∀ q : Nat, s.heap.size ≤ q → A q) {o : zO} {cell : Cell} {n : Nat} (hn0 : n0 ≤ h.1.length)
    (hc : H1[H.size]? = some cell) (hz : zob D cl cnm s ad o cell) (hn : cell.vm = .none ∧ zra cnm s o cell) (hs : H1.size = H.size + 1) (hq : ∀ q : Nat, q < H.size → H1[q]? = H[q]?) : zInv D cl cnm n0 s A ad0 c0 z0 (ad ++ [H.size]) (h.1 ++ [o], h.2.1 + 1, h.2.2 + n) H1 locs (cells + 1) (slots + n) := by
  obtain ⟨v1, v2, v3, v4, ⟨x, v5⟩, v6, v7, v8⟩ := hV
  have hge : s.heap.size ≤ H.size := v3.1
  refine ⟨v1.push hc hz hn hq, v2.push (fun k b hb q => by have := v1.lt hb; omega), ⟨by omega, fun q h1 h2 => by rw [hq q (by omega)]; exact v3.2.1 q h1 h2, v3.2.2⟩, fun k a hk ha => ?_, ⟨x ++ [H.size], by rw [v5, List.append_assoc]⟩, fun k a hk ha => ?_, by show h.2.1 + 1 = _; omega, by show h.2.2 + n = _; omega⟩
  · rcases zg_end_inv ha with ha | ⟨rfl, rfl⟩
    · exact v4 k a hk ha
    · exact hA _ hge
  · rcases zg_end_inv ha with ha | ⟨rfl, rfl⟩
    · exact v6 k a hk ha
    · exact hge
theorem zInv.get (hV : zInv D cl cnm n0 s A ad0 c0 z0 ad h H locs cells slots) {k : Nat} {o : zO} {w : Value} (ho : zg h.1 k = some o) (hw : zr ad (.ref k) w) : ∃ (a : Nat) (cell : Cell), w = .ref a ∧ zg ad k = some a ∧ H[a]? = some cell ∧ zob D cl cnm s ad o cell ∧ (n0 ≤ k → cell.vm = .none ∧ zra cnm s o cell) := by
  obtain ⟨a, h1, rfl⟩ := hw
  obtain ⟨a', cell, h2, h3, h4, h5⟩ := hV.1.2 k o ho
  rw [h1] at h2
  cases h2
  exact ⟨a, cell, rfl, h1, h3, h4, h5⟩
end
theorem zrs_size {ad vs} {cell : Cell} (h : zrs ad vs cell.slots.toList) : cell.slots.size = vs.length := by
  rw [← Array.length_toList]; exact h.length
theorem zset_slots (cell : Cell) (i : Nat) (v : Value) : (cell.setSlot i v).slots.toList = cell.slots.toList.set i v := by
  simp [Cell.setSlot, Array.toList_setIfInBounds]
theorem zset_arr {U : State} {cell : Cell} {t : FieldType} (i : Nat) (v : Value) (h : U.isArrayOf cell t) : U.isArrayOf (cell.setSlot i v) t := h
/-- the fields' fit, by the value's form first -/
def zfit (ty : FieldType) (v : Value) : Bool := match ty, v with
  | .int, .int _ => true
  | .long, .long _ => true
  | .object _, .null => true
  | .object _, .ref _ => true
  | .array _, .null => true
  | .array _, .ref _ => true
  | .boolean, .int x => x == 0 || x == 1
  | .byte, .int x => fits .byte (.int x) && decide (narrow .byte (.int x) = .int x)
  | _, _ => false
theorem zfit_spec {ad : List Nat} {ty : FieldType} {v w : Value} (h : zfit ty v = true) (hr : zr ad v w) : narrow ty w = w ∧ fits ty w = true := by
  unfold zfit at h
  split at h
  · rw [show w = _ from hr]; exact ⟨rfl, rfl⟩
  · rw [show w = _ from hr]; exact ⟨rfl, rfl⟩
  · rw [show w = _ from hr]; exact ⟨rfl, rfl⟩
  · obtain ⟨a, -, rfl⟩ := hr; exact ⟨rfl, rfl⟩
  · rw [show w = _ from hr]; exact ⟨rfl, rfl⟩
  · obtain ⟨a, -, rfl⟩ := hr; exact ⟨rfl, rfl⟩
  · rename_i x
    rw [show w = _ from hr]
    rw [Bool.or_eq_true, beq_iff_eq, beq_iff_eq] at h
    rcases h with rfl | rfl
    · exact ⟨by decide, by decide⟩
    · exact ⟨by decide, by decide⟩
  · rw [show w = _ from hr]
    rw [Bool.and_eq_true, decide_eq_true_eq] at h
    exact ⟨h.2, h.1⟩
  · cases h
end ZHEAP

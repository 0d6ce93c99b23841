/-! THE CONSTANTS' FACTS, and how they move along -/
section ZKK
/-- words on nest mates and casts, which the tables decide -/
def zNwok (w : Cond) : Prop := ∀ s U : State, s.WarmedH U.vm → va_Nw w s → va_Nw w U
/-- a class: its fields' places, its number; all but the enumeration are ordinary -/
def zKn (D : va_G) (s : State) (ci : Nat) (r : vw_C) : Prop := (∀ k, k < r.2.2 → SlotIs s (r.2.1 k).1 (r.2.1 k).2.1 (r.2.1 k).2.2.1 (D.2 ci k)) ∧ s.vm.findClass r.1 = some (D.1 ci) ∧ ∃ kv : Class, s.vm.classes[D.1 ci]? = some kv ∧ (ci ≠ 15 → kv.kind = .ordinary)
theorem zKn.u {D : va_G} {s : State} {ci : Nat} {r : vw_C} (h : zKn D s ci r) (hc : ci ≠ 15) : u_Kn s r.1 r.2.1 r.2.2 (D.1 ci) (D.2 ci) := by
  obtain ⟨h1, h2, kv, h3, h4⟩ := h
  exact ⟨h1, h2, kv, h3, h4 hc⟩
theorem zKn.moved {D : va_G} {u U : State} {ci : Nat} {r : vw_C} (hvm : u.vm.Alike U.vm) (h : zKn D u ci r) : zKn D U ci r := by
  obtain ⟨h1, h2, kv, h3, h4⟩ := h
  obtain ⟨k', hk', he⟩ := hvm.2.2 _ _ h3
  exact ⟨fun k hk => slotIs_moved hvm (h1 k hk), by rw [hvm.findClass]; exact h2, k', hk', fun hc => by rw [he]; exact h4 hc⟩
/-- statics: class, name, descriptor, the virtual value; texts: class, entry, text, the virtual object; the throws' texts; the words -/
def zKK (D : va_G) (cl : List vw_C) (stt : List ((String × String × String) × Value)) (srt : List ((String × Nat × String) × Nat)) (tht : List (String × Nat × String)) (nwt : List Cond) (sft : List (String × String × String × Nat × Nat)) (zqt : List (String × String × String)) (nct : List (String × String)) (aot : List String) : List Nat → (Nat → Prop) → State → Prop := fun ad A s =>
  (∀ (ci : Nat) (r : vw_C), zg cl ci = some r → zKn D s ci r) ∧
  (∀ (k : Nat) (q : (String × String × String) × Value), zg stt k = some q → ∃ w, zr ad q.2 w ∧ va_Z q.1.1 q.1.2.1 q.1.2.2 w A s s.heap) ∧
  (∀ (k : Nat) (q : (String × Nat × String) × Nat), zg srt k = some q → ∃ a, zg ad q.2 = some a ∧ vk_R q.1.1 q.1.2.1 q.1.2.2 a s) ∧
  (∀ q ∈ tht, ∃ a, vk_R q.1 q.2.1 q.2.2 a s) ∧ (∀ w ∈ nwt, va_Nw w s) ∧
  (∀ q ∈ sft, ∃ (cf fi : Nat) (kf : Class) (f : Field), s.fieldFound? q.1 q.2.1 q.2.2.1 = some (cf, kf, fi, f) ∧ f.isStatic = false ∧ f.slot = D.2 q.2.2.2.1 q.2.2.2.2) ∧
  (∀ q ∈ zqt, vx_Zq q.1 q.2.1 q.2.2 A s s.heap) ∧ (∀ q ∈ nct, va_Nc q.1 q.2 s) ∧ (∀ C ∈ aot, va_AO C s)
theorem zZ_move {C n d : String} {v : Value} {A A' : Nat → Prop} {s U : State} {H : Heap} {locs : List Loc} (h : va_Z C n d v A s s.heap) (hS : va_S A s.heap H locs) (hU : U.heap = H) (hal : s.vm.Alike U.vm) (hsub : ∀ q, q < s.heap.size → A' q → A q) : va_Z C n d v A' U U.heap := by
  obtain ⟨cf, kf, fi, f, a, ce, h1, h2, h3, h4, h5, h6, h7, h8⟩ := va_Z.moved hal h
  have hlt : a < s.heap.size := (Array.getElem?_eq_some_iff.mp h5).1
  exact ⟨cf, kf, fi, f, a, ce, h1, h2, h3, h4, by rw [hU, hS.2.1 a hlt h8]; exact h5, h6, h7, fun q => h8 (hsub a hlt q)⟩
theorem zL_move {C n d : String} {A A' : Nat → Prop} {s U : State} {H : Heap} {locs : List Loc} (h : vx_L C n d A s s.heap) (hS : va_S A s.heap H locs) (hU : U.heap = H) (hal : s.vm.Alike U.vm) (hsub : ∀ q, q < s.heap.size → A' q → A q) : vx_L C n d A' U U.heap := by
  obtain ⟨c, k, i, f, a, ce, h1, h2, h3, h4, h5, h6, h7, h8, h9, h10⟩ := vx_L.moved hal h
  have hlt : a < s.heap.size := (Array.getElem?_eq_some_iff.mp h5).1
  exact ⟨c, k, i, f, a, ce, h1, h2, h3, h4, by rw [hU, hS.2.1 a hlt h10]; exact h5, h6, h7, h8, h9, fun q => h10 (hsub a hlt q)⟩
theorem zZq_move {C n d : String} {A A' : Nat → Prop} {s U : State} {H : Heap} {locs : List Loc} (h : vx_Zq C n d A s s.heap) (hS : va_S A s.heap H locs) (hU : U.heap = H) (hal : s.vm.Alike U.vm) (hsub : ∀ q, q < s.heap.size → A' q → A q) : vx_Zq C n d A' U U.heap := by
  refine ⟨?_, zL_move h.2 hS hU hal hsub⟩
  rcases h.1 with q | ⟨t, q⟩
  · exact Or.inl (zZ_move q hS hU hal hsub)
  · exact Or.inr ⟨t, zZ_move q hS hU hal hsub⟩
theorem zFF_moved {s U : State} (hal : s.vm.Alike U.vm) {o n d : String} {slot : Nat} (h : ∃ (cf fi : Nat) (kf : Class) (f : Field), s.fieldFound? o n d = some (cf, kf, fi, f) ∧ f.isStatic = false ∧ f.slot = slot) : ∃ (cf fi : Nat) (kf : Class) (f : Field), U.fieldFound? o n d = some (cf, kf, fi, f) ∧ f.isStatic = false ∧ f.slot = slot := by
  obtain ⟨cf, fi, kf, f, h1, h2, h3⟩ := h
  obtain ⟨k', hi', he⟩ := State.fieldFound?_setVm hal h1
  exact ⟨cf, fi, k', f, hi', h2, h3⟩
theorem zKK_ok {D : va_G} {cl : List vw_C} {stt : List ((String × String × String) × Value)} {srt : List ((String × Nat × String) × Nat)} {tht : List (String × Nat × String)} {nwt : List Cond} {sft : List (String × String × String × Nat × Nat)} {zqt : List (String × String × String)} {nct : List (String × String)} {aot : List String} (hnw : ∀ w ∈ nwt, zNwok w) : zKok (zKK D cl stt srt tht nwt sft zqt nct aot) := by
  intro s U A A' ad0 x H locs hK hS hU hW hsub
  obtain ⟨k1, k2, k3, k4, k5, k6, k7, k8, k9⟩ := hK
  have hal := hW.alike
  refine ⟨fun ci r hr => zKn.moved hal (k1 ci r hr), fun k q hq => ?_, fun k q hq => ?_, fun q hq => ?_, fun w hw => hnw w hw s U hW (k5 w hw), fun q hq => zFF_moved hal (k6 q hq), fun q hq => zZq_move (k7 q hq) hS hU hal hsub, fun q hq => va_Nc.moved hal (k8 q hq), fun C hC => va_AO.moved hal (k9 C hC)⟩
  · obtain ⟨w, h1, h2⟩ := k2 k q hq
    exact ⟨w, h1.app x, zZ_move h2 hS hU hal hsub⟩
  · obtain ⟨a, h1, h2⟩ := k3 k q hq
    exact ⟨a, zg_app x h1, h2.warm hW⟩
  · obtain ⟨a, h1⟩ := k4 q hq
    exact ⟨a, h1.warm hW⟩
end ZKK

/-! THE START, second text: from what is given to the fixed objects -/
section ZSTA
variable {args : Array Value} {s : State}
theorem zblk {L big : List Cond} {p m : Nat} (h : (big.drop p).take m = L) (hb : ∀ c ∈ big, c.before args s = true) : ∀ c ∈ L, c.before args s = true := by
  intro c hc
  rw [← h] at hc
  exact hb c (List.mem_of_mem_drop (List.mem_of_mem_take hc))
theorem zelC_get {tm : Term} : ∀ {vs : List Int32} {j0 k : Nat} {v : Int32}, zg vs k = some v → Cond.eq (.elem tm (.int (Int32.ofNat (j0 + k)))) (.int v) ∈ zelC tm j0 vs
  | [], j0, k, v, h => by cases h
  | a :: vs, j0, 0, v, h => by cases h; exact List.mem_cons_self
  | a :: vs, j0, k + 1, v, h => by
    refine List.mem_cons_of_mem _ ?_
    have h2 := zelC_get (tm := tm) (vs := vs) (j0 := j0 + 1) (k := k) h
    rw [show j0 + 1 + k = j0 + (k + 1) by omega] at h2
    exact h2
theorem zlen_of {tm : Term} {N : Nat} (hN : N < 2 ^ 31) (h : (Cond.eq (.length tm) (.int (Int32.ofNat N))).before args s = true) : ∃ (t : Nat) (cell : Cell), tm.eval args s none [] s = some (.ref t) ∧ s.arrayAt? t = some cell ∧ s.heap[t]? = some cell ∧ cell.vm ≠ .unknown ∧ cell.slots.size = N := by
  have hlen := va_eqt h
  obtain ⟨t, cell, ht, hat, hv⟩ := Term.length_spec hlen
  obtain ⟨hcell, hkn, -, -⟩ := State.arrayAt?_spec hat
  have hlt : cell.slots.size < 2 ^ 31 := by
    simp only [Term.eval, ht, hat, Option.bind_eq_bind, Option.bind_some] at hlen
    by_cases q : cell.slots.size < 2147483648
    · exact q
    · simp [q] at hlen
  have e : cell.slots.size.toInt32 = N.toInt32 := (Value.int.inj hv).symm
  have e2 := congrArg Int32.toNatClampNeg e
  rw [zclamp hlt, zclamp hN] at e2
  exact ⟨t, cell, ht, hat, hcell, hkn, e2⟩
theorem zelem_of {tm : Term} {t j : Nat} {cell : Cell} {v : Value} (ht : tm.eval args s none [] s = some (.ref t)) (hat : s.arrayAt? t = some cell) (hj : j < 2 ^ 31) (h : (Term.elem tm (.int (Int32.ofNat j))).eval args s none [] s = some v) : cell.slots[j]? = some v := by
  obtain ⟨a, i, cell2, h1, h2, h3, h4, h5⟩ := Term.elem_spec h
  cases ht.symm.trans h1
  cases hat.symm.trans h3
  have hi : i = Int32.ofNat j := by
    have e : (Term.int (Int32.ofNat j)).eval args s none [] s = some (.int (Int32.ofNat j)) := rfl
    cases h2.symm.trans e
    rfl
  rw [hi, show (Int32.ofNat j).toNatClampNeg = j from zclamp hj] at h5
  exact h5
theorem zarr_of {tm : Term} {ty : FieldType} {vs : List Int32} (hN : vs.length < 2 ^ 31) (h : ∀ c ∈ zarrC tm ty vs, c.before args s = true) : ∃ (t : Nat) (cell : Cell), tm.eval args s none [] s = some (.ref t) ∧ s.heap[t]? = some cell ∧ s.isArrayOf cell ty ∧ cell.vm ≠ .unknown ∧ cell.slots.toList = vs.map (fun x => Value.int x) := by
  obtain ⟨t, cell, ht, hat, hcell, hkn, hsz⟩ := zlen_of hN (h _ (List.mem_cons_of_mem _ List.mem_cons_self))
  obtain ⟨hof, -⟩ := Cond.arrayOf_spec (h _ List.mem_cons_self) ht hcell
  refine ⟨t, cell, ht, hcell, hof, hkn, ?_⟩
  apply List.ext_getElem?
  intro j
  rw [Array.getElem?_toList, List.getElem?_map]
  by_cases hj : j < vs.length
  · obtain ⟨v, hv⟩ := zg_of_lt hj
    have hel := va_eqt (h _ (List.mem_cons_of_mem _ (List.mem_cons_of_mem _ (zelC_get (j0 := 0) hv))))
    rw [Nat.zero_add] at hel
    rw [zelem_of ht hat (by omega) hel, ← zg_eq, hv]
    rfl
  · rw [Array.getElem?_eq_none (by omega), List.getElem?_eq_none (by omega)]
    rfl
theorem zrs_ints {ad : List Nat} : ∀ vs : List Int32, zrs ad (vs.map (fun x => Value.int x)) (vs.map (fun x => Value.int x))
  | [] => rfl
  | v :: vs => ⟨.int v, _, rfl, rfl, zrs_ints vs⟩
theorem zeqL {t u : Term} {a : Nat} (h : (Cond.eq t u).before args s = true) (hu : u.eval args s none [] s = some (.ref a)) : t.eval args s none [] s = some (.ref a) := by
  cases ht : t.eval args s none [] s with
  | none => simp [Cond.before, Cond.holds, Cond.value, ht, hu] at h
  | some w =>
    simp only [Cond.before, Cond.holds, Cond.value, ht, hu] at h
    cases w <;> simp_all
theorem zchoose {P : Nat → Nat → Prop} : ∀ n : Nat, (∀ k, k < n → ∃ a, P k a) → ∃ ad : List Nat, ad.length = n ∧ ∀ k, k < n → ∃ a, zg ad k = some a ∧ P k a
  | 0, _ => ⟨[], rfl, fun k hk => absurd hk (Nat.not_lt_zero k)⟩
  | n + 1, h => by
    obtain ⟨ad, h1, h2⟩ := zchoose n (fun k hk => h k (by omega))
    obtain ⟨a, ha⟩ := h n (by omega)
    refine ⟨ad ++ [a], by rw [List.length_append, h1]; rfl, fun k hk => ?_⟩
    by_cases hkn : k = n
    · subst hkn
      exact ⟨a, by rw [← h1]; exact zg_end ad a, ha⟩
    · obtain ⟨b, hb, hb2⟩ := h2 k (by omega)
      exact ⟨b, zg_app _ hb, hb2⟩
/-- the addresses of the fixed objects -/
def zFx (s : State) (b : Nat) (ad : List Nat) : Prop := ad.length = 139 ∧ zg ad 0 = some b ∧ ∀ (k : Nat) (tm : Term), zg zroT k = some tm → ∃ a, zg ad (k + 1) = some a ∧ tm.eval #[.ref b] s none [] s = some (.ref a)
theorem zFx_of {b : Nat} (h : ∀ tm ∈ zroT, ∃ a, tm.eval #[.ref b] s none [] s = some (.ref a)) : ∃ ad, zFx s b ad := by
  obtain ⟨ad, h1, h2⟩ := zchoose (P := fun k a => ∀ tm, zg zroT k = some tm → tm.eval #[.ref b] s none [] s = some (.ref a)) 138 (fun k hk => by
    obtain ⟨tm, htm⟩ := zg_of_lt (l := zroT) (n := k) hk
    obtain ⟨a, ha⟩ := h tm (zg_mem htm)
    exact ⟨a, fun tm' htm' => by rw [htm] at htm'; cases htm'; exact ha⟩)
  refine ⟨b :: ad, by rw [List.length_cons, h1], rfl, fun k tm htm => ?_⟩
  obtain ⟨a, ha, hb⟩ := h2 k (by have := zg_lt htm; exact this)
  exact ⟨a, ha, hb tm htm⟩
theorem zFx.at {b : Nat} {ad : List Nat} (h : zFx s b ad) {k a : Nat} {tm : Term} (hk : zg zroT k = some tm) (he : tm.eval #[.ref b] s none [] s = some (.ref a)) : zg ad (k + 1) = some a := by
  obtain ⟨a', h1, h2⟩ := h.2.2 k tm hk
  rw [he] at h2
  cases h2
  exact h1
/-- the object at the place k + 1 -/
def zPo (D : va_G) (s : State) (ad : List Nat) (k : Nat) (o : zO) : Prop := ∃ (a : Nat) (cell : Cell), zg ad (k + 1) = some a ∧ s.heap[a]? = some cell ∧ zob D zclL zcnm s ad o cell
theorem zobj_of {D : va_G} {ad : List Nat} {ci a : Nat} {r : vw_C} {cell : Cell} {fs : List Value} (hcl : zg zclL ci = some r) (hKn : zKn D s ci r) (hcell : s.heap[a]? = some cell) (hst : cell.vm.isStatics = false) (hcls : s.vm.findClass r.1 = some cell.cls) (hlen : fs.length = r.2.2) (h0 : fs ≠ [])
    (hf : ∀ k v, zg fs k = some v → ∃ w, zr ad v w ∧ va_OF (r.2.1 k).1 (r.2.1 k).2.1 (r.2.1 k).2.2.1 w a (fun _ => False) s s.heap) : zob D zclL zcnm s ad (.inr (ci, fs)) cell := by
  have hun : cell.vm ≠ .unknown := by
    obtain ⟨v, hv⟩ : ∃ v, zg fs 0 = some v := by
      cases fs with
      | nil => exact absurd rfl h0
      | cons v l => exact ⟨v, rfl⟩
    obtain ⟨w, -, _, _, _, _, cell', -, -, f3, f4, -⟩ := hf 0 v hv
    cases Option.some.inj (hcell.symm.trans f3)
    exact f4
  refine ⟨hun, hst, Option.some.inj (hcls.symm.trans hKn.2.1), r, hcl, hlen, fun k v hk => ?_⟩
  obtain ⟨w, h1, cf, k', i, f, cell', f1, f2, f3, f4, f5, -⟩ := hf k v hk
  cases Option.some.inj (hcell.symm.trans f3)
  obtain ⟨_, _, _, fd, g1, g2⟩ := hKn.1 k (by rw [← hlen]; exact zg_lt hk)
  cases f1.symm.trans g1
  exact ⟨w, by rw [← g2]; exact f5, h1⟩
theorem zP_sort {b : Nat} {ad : List Nat} {D : va_G} {nm : String} {o idx k i : Nat} (hfx : zFx s b ad) (hKn : zKn D s 15 ("FlagLayers$Sort", zN_15, 2)) (hb : ∀ c ∈ zsrtC nm o idx, c.before #[.ref b] s = true) (ht : zg zroT k = some (.static "FlagLayers$Sort" nm "LFlagLayers$Sort;")) (hs : zg zroT (48 + 2 * i) = some (.string "FlagLayers$Sort" idx)) : zPo D s ad k (.inr (15, [.int (Int32.ofNat o), .ref (49 + 2 * i)])) := by
  obtain ⟨a, c, cell, kc, q1, q2, q3, q4, q5, q6, -⟩ := Cond.exactly_spec (args := #[.ref b]) (first := s) (o := none) (s := s) (idx := []) (hb _ List.mem_cons_self)
  have e1 := va_eqt (hb _ (List.mem_cons_of_mem _ List.mem_cons_self))
  obtain ⟨a2, g1, g2⟩ := hfx.2.2 _ _ hs
  have e2 := zeqL (hb _ (List.mem_cons_of_mem _ (List.mem_cons_of_mem _ List.mem_cons_self))) g2
  refine ⟨a, cell, hfx.at ht q1, q3, zobj_of rfl hKn q3 q5 (by rw [q6]; exact q2) rfl (by simp) fun k v hv => ?_⟩
  match k, hv with
  | 0, hv =>
    cases hv
    exact ⟨_, rfl, vk_OFof q1 e1 (fun _ _ q => q)⟩
  | 1, hv =>
    cases hv
    exact ⟨.ref a2, ⟨a2, by rw [show 49 + 2 * i = 48 + 2 * i + 1 by omega]; exact g1, rfl⟩, vk_OFof q1 e2 (fun _ _ q => q)⟩
  | n + 2, hv => cases hv
theorem zP_str {b : Nat} {ad : List Nat} {D : va_G} {own : String} {vs : List Int32} {idx k : Nat} (hN : vs.length < 2 ^ 31) (hfx : zFx s b ad) (hKn : zKn D s 12 ("java/lang/String", zN_12, 2)) (hb : ∀ c ∈ zstrC own idx vs, c.before #[.ref b] s = true) (ht : zg zroT k = some (.string own idx)) (hs : zg zroT (k + 1) = some (.field (.string own idx) "java/lang/String" "value" "[B")) : zPo D s ad k (.inr (12, [.ref (k + 2), .int 0])) ∧ zPo D s ad (k + 1) (.inl (1, vs.map (fun x => Value.int x))) := by
  obtain ⟨a, c, cell, kc, q1, q2, q3, q4, q5, q6, -⟩ := Cond.exactly_spec (args := #[.ref b]) (first := s) (o := none) (s := s) (idx := []) (hb _ List.mem_cons_self)
  have e1 := va_eqt (hb _ (List.mem_cons_of_mem _ List.mem_cons_self))
  obtain ⟨t, ca, r1, r2, r3, r4, r5⟩ := zarr_of hN (fun c hc => hb c (List.mem_cons_of_mem _ (List.mem_cons_of_mem _ hc)))
  refine ⟨⟨a, cell, hfx.at ht q1, q3, zobj_of rfl hKn q3 q5 (by rw [q6]; exact q2) rfl (by simp) fun j v hv => ?_⟩, t, ca, hfx.at hs r1, r2, r4, r3, by rw [r5]; exact zrs_ints vs⟩
  match j, hv with
  | 0, hv =>
    cases hv
    exact ⟨.ref t, ⟨t, hfx.at hs r1, rfl⟩, vk_OFof q1 r1 (fun _ _ q => q)⟩
  | 1, hv =>
    cases hv
    exact ⟨_, rfl, vk_OFof q1 e1 (fun _ _ q => q)⟩
  | n + 2, hv => cases hv
theorem zP_arr {b : Nat} {ad : List Nat} {D : va_G} {tm : Term} {ty : Nat} {vs : List Int32} {k : Nat} (hN : vs.length < 2 ^ 31) (hfx : zFx s b ad) (hb : ∀ c ∈ zarrC tm (zaty zcnm ty) vs, c.before #[.ref b] s = true) (ht : zg zroT k = some tm) : zPo D s ad k (.inl (ty, vs.map (fun x => Value.int x))) := by
  obtain ⟨t, ca, r1, r2, r3, r4, r5⟩ := zarr_of hN hb
  exact ⟨t, ca, hfx.at ht r1, r2, r4, r3, by rw [r5]; exact zrs_ints vs⟩
theorem zP_nil {b : Nat} {ad : List Nat} {D : va_G} {tm : Term} {ty : Nat} {k : Nat} (hfx : zFx s b ad) (h1 : (Cond.arrayOf tm (zaty zcnm ty)).before #[.ref b] s = true) (h2 : (Cond.eq (.length tm) (.int 0)).before #[.ref b] s = true) (ht : zg zroT k = some tm) : zPo D s ad k (.inl (ty, [])) := by
  obtain ⟨t, cell, g1, g2, g3, g4, g5⟩ := zlen_of (N := 0) (by decide) h2
  exact ⟨t, cell, hfx.at ht g1, g3, g4, (Cond.arrayOf_spec h1 g1 g3).1, by
    have : cell.slots.toList = [] := List.eq_nil_of_length_eq_zero (by rw [Array.length_toList]; exact g5)
    rw [this]
    rfl⟩
def zelS (tm : Term) : Nat → List (String × Nat × Nat) → List Cond
  | _, [] => []
  | j, q :: vs => Cond.eq (.elem tm (.int (Int32.ofNat j))) (.static "FlagLayers$Sort" q.1 "LFlagLayers$Sort;") :: zelS tm (j + 1) vs
theorem zelS_get {tm : Term} : ∀ {vs : List (String × Nat × Nat)} {j0 k : Nat} {v : String × Nat × Nat}, zg vs k = some v → Cond.eq (.elem tm (.int (Int32.ofNat (j0 + k)))) (.static "FlagLayers$Sort" v.1 "LFlagLayers$Sort;") ∈ zelS tm j0 vs
  | [], j0, k, v, h => by cases h
  | a :: vs, j0, 0, v, h => by cases h; exact List.mem_cons_self
  | a :: vs, j0, k + 1, v, h => by
    refine List.mem_cons_of_mem _ ?_
    have h2 := zelS_get (tm := tm) (vs := vs) (j0 := j0 + 1) (k := k) h
    rw [show j0 + 1 + k = j0 + (k + 1) by omega] at h2
    exact h2
theorem zrs_of {ad : List Nat} : ∀ {vs ws : List Value}, vs.length = ws.length → (∀ k v w, zg vs k = some v → ws[k]? = some w → zr ad v w) → zrs ad vs ws
  | [], [], _, _ => rfl
  | [], _ :: _, h, _ => by cases h
  | _ :: _, [], h, _ => by cases h
  | v :: vs, w :: ws, h, hk => ⟨w, ws, rfl, hk 0 v w rfl rfl, zrs_of (Nat.succ.inj h) (fun k v' w' h1 h2 => hk (k + 1) v' w' h1 (by simpa using h2))⟩
theorem zP_all {b : Nat} {ad : List Nat} {D : va_G} {tm : Term} {ty N : Nat} {L : List (String × Nat × Nat)} {k : Nat} (hN : L.length = N) (hN2 : N < 2 ^ 31) (hfx : zFx s b ad) (h1 : (Cond.arrayOf tm (zaty zcnm ty)).before #[.ref b] s = true) (h2 : (Cond.eq (.length tm) (.int (Int32.ofNat N))).before #[.ref b] s = true) (h3 : ∀ c ∈ zelS tm 0 L, c.before #[.ref b] s = true) (ht : zg zroT k = some tm)
    (hL : ∀ j q, zg L j = some q → zg zroT j = some (.static "FlagLayers$Sort" q.1 "LFlagLayers$Sort;")) : zPo D s ad k (.inl (ty, (List.range N).map (fun j => Value.ref (j + 1)))) := by
  obtain ⟨t, cell, g1, g2, g3, g4, g5⟩ := zlen_of hN2 h2
  refine ⟨t, cell, hfx.at ht g1, g3, g4, (Cond.arrayOf_spec h1 g1 g3).1, zrs_of (by rw [List.length_map, List.length_range, Array.length_toList, g5]) fun j v w hv hw => ?_⟩
  rw [zg_eq, List.getElem?_map] at hv
  by_cases hj : j < N
  · rw [List.getElem?_range hj] at hv
    cases hv
    obtain ⟨q, hq⟩ := zg_of_lt (l := L) (n := j) (by omega)
    obtain ⟨a, e1, e2⟩ := hfx.2.2 j _ (hL j q hq)
    have hel := zeqL (h3 _ (zelS_get (j0 := 0) hq)) e2
    rw [Nat.zero_add] at hel
    have := zelem_of g1 g2 (by omega) hel
    rw [Array.getElem?_toList, this] at hw
    cases hw
    exact ⟨a, e1, rfl⟩
  · rw [List.getElem?_eq_none (by rw [List.length_range]; omega)] at hv
    cases hv
end ZSTA

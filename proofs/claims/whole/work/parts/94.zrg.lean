/-! THE REFERENCE LOOKS FOR RINGS, AND LAYS THE ORDER -/
section ZRG
def tk0 : Tk := (0, 0, [], 0)
/-- the token of a need's name -/
def tkN (P : Pln) (i k : Nat) : Tk := ((P.2.1.getD i fl0).2.2.1.getD k (tk0, tk0)).1
def rg1 (P : Pln) (N : List (List (Nat × Int32))) (i k : Nat) : Option Tk := if rchB N ((N.getD i []).getD k (0, 0)).1 i = true then some (tkN P i k) else none
def rgF (P : Pln) (N : List (List (Nat × Int32))) (i : Nat) : List Tk := (List.range (N.getD i []).length).filterMap (rg1 P N i)
section
variable {n : Nat} {X X1 X2 : zX} {b f g k t nv cb : Nat} {N : List (List (Nat × Int32))} {v : Int32} {P : Pln} {D : List Pd} {T : List Int32} {fk : Int32} {ts : List Tk}
theorem sRing_eq : sRing P N = match ((List.range N.length).flatMap (rgF P N)).head? with
    | none => .inr ()
    | some t => .inl (sErr 6 t) := rfl
/-- where the names of the needs stand -/
def NPl (X : zX) (b : Nat) (P : Pln) (N : List (List (Nat × Int32))) : Prop := ∀ f l, N[f]? = some l → ∀ k, k < l.length → cv X 18 (4 * (24 * b + f) + k) = nI (tkN P f k).2.1 ∧ (tkN P f k).1 = 2 ∧ (tkN P f k).2.1 ≤ 6000
theorem lp25 {q10 : Int32 → zX → Option (Unit × zX)} {l : List (Nat × Int32)} (hl : N[f]? = some l) (h : NR X b N) (h4 : X.1 4 = nI b) (h62 : ∀ f, f < N.length → cv X 62 f = bitsI (rchB N f) 24) (hpl : NPl X b P N) (hR : RI X T fk (.inr ts)) (hb1 : (hd ts).1 ≠ 1) (hn : 6002 ≤ n) : ∀ (fu k : Nat), k ≤ l.length → l.length - k < fu → match (((List.range l.length).drop k).filterMap (rg1 P N f)).head? with
    | none => gf239_25 n q10 fu (nI f) (nI k) X = q10 (nI (f + 1)) X
    | some t => ∃ X1, gf239_25 n q10 fu (nI f) (nI k) X = some ((), X1) ∧ RI X1 T fk (.inl (sErr 6 t))
  | 0, k, _, hk => by omega
  | fu + 1, k, hk, hfu => by
    have hrec := lp25 (q10 := q10) hl h h4 h62 hpl hR hb1 hn fu (k + 1)
    obtain ⟨h1, h2, h3, h4', h5, h6⟩ := h
    have hfN := lt_of_get hl
    obtain ⟨k1, k2, k3⟩ := h6 f l hl
    have e25 : gf239_25 n q10 (fu + 1) (nI f) (nI k) X = gb239_25 n q10 (gf239_25 n q10 fu) (nI f) (nI k) X := rfl
    unfold gb239_25 at e25
    rw [i12a (a := 24) (k := 24) h4 rfl, rd_cv h1 (by decide) (by show _ < 48; omega) (by omega), k1, i4] at e25
    dsimp only [Option.bind_some] at e25
    by_cases hz : k = l.length
    · rw [List.drop_eq_nil_of_le (by rw [List.length_range]; omega)]
      show gf239_25 n q10 (fu + 1) (nI f) (nI k) X = _
      rw [e25, if_pos (by rw [hz]; exact Int32.le_refl _), nI_1]
    · have hlt : k < l.length := by omega
      obtain ⟨x, hx⟩ : ∃ x, l[k]? = some x := ⟨_, List.getElem?_eq_getElem hlt⟩
      have hxl := h5 l (List.mem_of_getElem? hl) x (List.mem_of_getElem? hx)
      have hgx : ((N.getD f []).getD k (0, 0)).1 = x.1 := by
        rw [List.getD_eq_getElem?_getD (l := N), hl, List.getD_eq_getElem?_getD]
        show (l[k]?.getD (0, 0)).1 = x.1
        rw [hx]
        rfl
      rw [if_neg (nI_ge hlt (by omega)), rd_cv h1 (by decide) (by show _ < 192; omega) (by omega), k3 k x hx] at e25
      dsimp only [Option.bind_some] at e25
      rw [rd_cv h1 (by decide) (by show _ < 24; omega) (by omega), h62 x.1 hxl] at e25
      dsimp only [Option.bind_some] at e25
      rw [bits_t (by omega)] at e25
      rw [range_drop hlt, List.filterMap_cons]
      obtain ⟨p1, p2, p3⟩ := hpl f l hl k hlt
      cases hr : rchB N x.1 f with
      | true =>
        have hrg : rg1 P N f k = some (tkN P f k) := by unfold rg1; rw [hgx, if_pos hr]
        rw [hrg]
        show ∃ X1, _ ∧ RI X1 T fk (.inl (sErr 6 (tkN P f k)))
        obtain ⟨X1, e1, e2⟩ := ri_at (n := n) (k := 6) (p := (tkN P f k).2.1) hR hb1 p3
        refine ⟨X1, ?_, by unfold sErr; rw [if_neg (by rw [p2]; decide)]; exact e2⟩
        rw [e25, hr, if_pos rfl, if_pos rfl, rd_cv h1 (by decide) (by show _ < 192; omega) (by omega), p1]
        dsimp only [Option.bind_some]
        rw [e1]
        rfl
      | false =>
        have hrg : rg1 P N f k = none := by unfold rg1; rw [hgx, if_neg (by rw [hr]; decide)]
        rw [hrg, e25, hr, if_neg (by decide), nI_1]
        exact hrec (by omega) (by omega)
theorem lpR10 (h : NR X b N) (h4 : X.1 4 = nI b) (h62 : ∀ f, f < N.length → cv X 62 f = bitsI (rchB N f) 24) (hpl : NPl X b P N) (hR : RI X T fk (.inr ts)) (hb1 : (hd ts).1 ≠ 1) (hn : 6002 ≤ n) : ∀ (fu f : Nat), f ≤ N.length → N.length - f < fu → match (((List.range N.length).drop f).flatMap (rgF P N)).head? with
    | none => gf239_10 n fu (nI f) X = gf239_105 n n 0 0 X
    | some t => ∃ X1, gf239_10 n fu (nI f) X = some ((), X1) ∧ RI X1 T fk (.inl (sErr 6 t))
  | 0, f, _, hk => by omega
  | fu + 1, f, hf, hfu => by
    have hrec := lpR10 h h4 h62 hpl hR hb1 hn fu (f + 1)
    have hNR := h
    obtain ⟨h1, h2, h3, h4', h5, h6⟩ := h
    have e10 : gf239_10 n (fu + 1) (nI f) X = gb239_10 n (gf239_10 n fu) (nI f) X := rfl
    unfold gb239_10 at e10
    rw [h4, rd_cv h1 (by decide) (by show _ < 2; omega) (by omega), h3] at e10
    dsimp only [Option.bind_some] at e10
    by_cases hz : f = N.length
    · rw [List.drop_eq_nil_of_le (by rw [List.length_range]; omega)]
      show gf239_10 n (fu + 1) (nI f) X = _
      rw [e10, if_pos (by rw [hz]; exact Int32.le_refl _)]
    · have hlt : f < N.length := by omega
      obtain ⟨l, hl⟩ : ∃ x, N[f]? = some x := ⟨_, List.getElem?_eq_getElem hlt⟩
      have hs := lp25 (n := n) (q10 := gf239_10 n fu) hl hNR h4 h62 hpl hR hb1 hn n 0 (by omega) (by have := (h6 f l hl).2.1; omega)
      rw [if_neg (nI_ge hlt (by omega)), show (0 : Int32) = nI 0 from rfl] at e10
      rw [range_drop hlt, List.flatMap_cons, List.head?_append]
      have hgf : rgF P N f = ((List.range l.length).drop 0).filterMap (rg1 P N f) := by
        unfold rgF
        rw [List.getD_eq_getElem?_getD, hl, List.drop_zero]
        rfl
      rw [hgf]
      cases hh : (((List.range l.length).drop 0).filterMap (rg1 P N f)).head? with
      | some t =>
        rw [hh] at hs
        show ∃ X1, gf239_10 n (fu + 1) (nI f) X = _ ∧ RI X1 T fk (.inl (sErr 6 t))
        rw [e10]
        exact hs
      | none =>
        rw [hh] at hs
        have hs : gf239_25 n (gf239_10 n fu) n (nI f) (nI 0) X = gf239_10 n fu (nI (f + 1)) X := hs
        rw [e10, hs]
        exact hrec (by omega) (by omega)
/-! the order -/
theorem pig : ∀ (n : Nat) (l : List Nat), (∀ i, i < n → i ∈ l) → n ≤ l.length
  | 0, _, _ => Nat.zero_le _
  | n + 1, l, h => by
    have h1 := h n (by omega)
    have := pig n (l.erase n) (fun i hi => (List.mem_erase_of_ne (by omega)).mpr (h i (by omega)))
    rw [List.length_erase_of_mem h1] at this
    have : 0 < l.length := List.length_pos_of_mem h1
    omega
theorem con_bits {done : List Nat} : ∀ i, done.contains i = true ↔ i ∈ done := fun i => by simp
theorem rdy_bits {done : List Nat} (hN : NL N) (h24 : N.length ≤ 24) (hd : ∀ x ∈ done, x < N.length) {i : Nat} (hi : i < N.length) : ready N done i = true ↔ ((bitsI (fun j => done.contains j) 24 >>> (nI i &&& 31)) &&& 1) = 0 ∧ (bitsI (rchB N i) 24 &&& (bitsI (fun j => done.contains j) 24 ^^^ (-1))) = 0 := by
  rw [bits_t (by omega), sub0]
  unfold ready
  rw [Bool.and_eq_true, List.all_eq_true]
  constructor
  · rintro ⟨a, c⟩
    refine ⟨by rw [if_neg (by simpa using a)], fun j hj hb => ?_⟩
    rw [bt_bits (by omega), Bool.and_eq_true] at hb ⊢
    refine ⟨hb.1, ?_⟩
    have := c j (List.mem_range.mpr (path_lt hN _ hb.2).2)
    rw [hb.2] at this
    simpa using this
  · rintro ⟨a, c⟩
    refine ⟨?_, fun j hj => ?_⟩
    · by_cases q : done.contains i = true
      · rw [if_pos q] at a
        exact absurd a (by decide)
      · simpa using q
    · rw [List.mem_range] at hj
      cases hr : rchB N i j with
      | false => rfl
      | true =>
        have := c j (by omega) (by rw [bt_bits (by omega), hr, decide_eq_true (by omega)]; rfl)
        rw [bt_bits (by omega), Bool.and_eq_true] at this
        rw [this.2]
        rfl
theorem range_find {m : Nat} {p : Nat → Bool} {d : Int32} : (match (List.range (m + 1)).find? p with | some i => nI i | none => d) = (match (List.range m).find? p with | some i => nI i | none => if p m = true then nI m else d) := by
  rw [List.range_succ, List.find?_append]
  cases (List.range m).find? p with
  | some i => rfl
  | none =>
    show (match [m].find? p with | some i => nI i | none => d) = if p m = true then nI m else d
    by_cases h : p m = true
    · rw [List.find?_cons_of_pos h, if_pos h]
    · rw [List.find?_cons_of_neg h, if_neg h]; rfl
theorem lp133 {q105 : Int32 → Int32 → zX → Option (Unit × zX)} {done : List Nat} (h : NR X b N) (h4 : X.1 4 = nI b) (h62 : ∀ f, f < N.length → cv X 62 f = bitsI (rchB N f) 24) (hd : ∀ x ∈ done, x < N.length) (hk : k < 24) : ∀ (m fu : Nat) (l3 : Int32), m ≤ N.length → m < fu → gf239_133 n q105 fu (bitsI (fun j => done.contains j) 24) (nI k) l3 (nI m + (-1)) X = q105 (bitsI (fun j => done.contains j) 24 ||| ((1 : Int32) <<< ((match (List.range m).find? (fun i => ready N done i) with | some i => nI i | none => l3) &&& 31))) (nI (k + 1)) (up X 59 (24 * b + k) (match (List.range m).find? (fun i => ready N done i) with | some i => nI i | none => l3))
  | m, 0, l3, _, hf => by omega
  | 0, fu + 1, l3, _, hf => by
    obtain ⟨h1, h2, h3, h4', h5, h6⟩ := h
    show gb239_133 n q105 (gf239_133 n q105 fu) _ _ l3 (nI 0 + (-1)) X = _
    unfold gb239_133
    rw [if_pos (by decide), nI_1]
    exact wst 24 k h1 h4 h2 (by decide) rfl (by decide) hk rfl (by decide) (i12a h4 rfl) rfl
  | m + 1, fu + 1, l3, hm, hf => by
    have hrec := fun l3 => lp133 (q105 := q105) h h4 h62 hd hk m fu l3 (by omega) (by omega)
    obtain ⟨h1, h2, h3, h4', h5, h6⟩ := h
    have em : nI (m + 1) + (-1) = nI m := by rw [← nI_1, Int32.add_assoc]; show nI m + (1 + -1) = nI m; rw [show (1 : Int32) + -1 = 0 from rfl, Int32.add_zero]
    rw [range_find, ← hrec]
    show gb239_133 n q105 (gf239_133 n q105 fu) _ _ l3 (nI (m + 1) + (-1)) X = _
    unfold gb239_133 gb239_167 gb239_166 gb239_167
    rw [em, if_neg (nI_pos (by omega)), rd_cv h1 (by decide) (by show _ < 24; omega) (by omega), h62 m (by omega)]
    dsimp only [Option.bind_some]
    have hb := rdy_bits (done := done) h5 h4' hd (i := m) (by omega)
    by_cases hr : ready N done m = true
    · obtain ⟨a1, a2⟩ := hb.mp hr
      rw [if_pos a1, if_pos a2, if_pos hr]
    · rw [if_neg hr]
      by_cases a1 : ((bitsI (fun j => done.contains j) 24 >>> (nI m &&& 31)) &&& 1) = 0
      · rw [if_pos a1, if_neg (fun q => hr (hb.mpr ⟨a1, q⟩))]
      · rw [if_neg a1]
theorem seqL_ext : ∀ (m : Nat) (done : List Nat), ∃ r, seqL N m done = done ++ r ∧ r.length = m
  | 0, done => ⟨[], by rw [List.append_nil]; rfl, rfl⟩
  | m + 1, done => by
    obtain ⟨r, h1, h2⟩ := seqL_ext m (done ++ [((List.range N.length).find? (fun i => ready N done i)).getD 0])
    exact ⟨_ :: r, by show seqL N m _ = _; rw [h1, List.append_assoc]; rfl, by show r.length + 1 = _; rw [h2]⟩
def O59 (X X1 : zX) : Prop := LN X1 ∧ X1.1 = X.1 ∧ ∀ i, i ≠ 59 → X1.2.2 i = X.2.2 i
theorem lp105 (ha : ∀ i, rchB N i i = false) (hn : 6002 ≤ n) : ∀ (m fu : Nat) (done : List Nat) {X : zX}, done.length + m = N.length → m < fu → NR X b N → X.1 4 = nI b → (∀ f, f < N.length → cv X 62 f = bitsI (rchB N f) 24) → (∀ x ∈ done, x < N.length) → (∀ i x, done[i]? = some x → cv X 59 (24 * b + i) = nI x) → ∃ X1, gf239_105 n fu (bitsI (fun j => done.contains j) 24) (nI done.length) X = some ((), X1) ∧ O59 X X1 ∧ ∀ i x, (seqL N m done)[i]? = some x → x < N.length ∧ cv X1 59 (24 * b + i) = nI x
  | m, 0, done, X, _, hf, _, _, _, _, _ => by omega
  | 0, fu + 1, done, X, hm, hf, h, h4, h62, hd, hc => by
    obtain ⟨h1, h2, h3, h4', h5, h6⟩ := h
    refine ⟨X, ?_, ⟨h1, rfl, fun _ _ => rfl⟩, fun i x hx => ⟨hd x (List.mem_of_getElem? hx), hc i x hx⟩⟩
    show gb239_105 n (gf239_105 n fu) _ _ X = _
    unfold gb239_105
    rw [h4, rd_cv h1 (by decide) (by show _ < 2; omega) (by omega), h3]
    dsimp only [Option.bind_some]
    rw [if_pos (by rw [show done.length = N.length by omega]; exact Int32.le_refl _)]
  | m + 1, fu + 1, done, X, hm, hf, h, h4, h62, hd, hc => by
    have hNR := h
    obtain ⟨h1, h2, h3, h4', h5, h6⟩ := h
    obtain ⟨i0, i1, i2⟩ : ∃ i, i < N.length ∧ i ∉ done := by
      refine Classical.byContradiction fun q => ?_
      have := pig N.length done (fun i hi => Classical.byContradiction fun r => q ⟨i, hi, r⟩)
      omega
    obtain ⟨j, j1, j2⟩ := rdy_ex ha done _ i0 i1 i2 (Nat.le_refl _)
    obtain ⟨a, ha'⟩ : ∃ a, (List.range N.length).find? (fun i => ready N done i) = some a := by
      cases hfi : (List.range N.length).find? (fun i => ready N done i) with
      | some a => exact ⟨a, rfl⟩
      | none =>
        rw [List.find?_eq_none] at hfi
        exact absurd j2 (hfi j (List.mem_range.mpr j1))
    have haN : a < N.length := List.mem_range.mp (List.mem_of_find?_eq_some ha')
    have hst := lp133 (n := n) (q105 := gf239_105 n fu) (k := done.length) hNR h4 h62 hd (by omega) N.length n (-1) (Nat.le_refl _) (by omega)
    rw [ha'] at hst
    have hbit : bitsI (fun j => done.contains j) 24 ||| ((1 : Int32) <<< (nI a &&& 31)) = bitsI (fun j => (done ++ [a]).contains j) 24 := by
      rw [bits_set (by omega)]
      refine bits_eq (fun j _ => ?_)
      by_cases q : j = a
      · subst q; simp
      · simp [q]
    have hst : gf239_133 n (gf239_105 n fu) n (bitsI (fun j => done.contains j) 24) (nI done.length) (-1) (nI N.length + (-1)) X = gf239_105 n fu (bitsI (fun j => done.contains j) 24 ||| ((1 : Int32) <<< (nI a &&& 31))) (nI (done.length + 1)) (up X 59 (24 * b + done.length) (nI a)) := hst
    have hl : (done ++ [a]).length = done.length + 1 := by rw [List.length_append]; rfl
    have hO : O59 X (up X 59 (24 * b + done.length) (nI a)) := ⟨LN_up h1, rfl, fun i hi => up_row hi⟩
    have e : ∀ i j, i ≠ 59 → cv (up X 59 (24 * b + done.length) (nI a)) i j = cv X i j := fun i j hi => cv_ne (Or.inl hi)
    obtain ⟨X1, k1, k2, k3⟩ := lp105 ha hn m fu (done ++ [a]) (X := up X 59 (24 * b + done.length) (nI a)) (by omega) (by omega) ⟨LN_up h1, h2, by rw [e 9 _ (by decide)]; exact h3, h4', h5, fun f l hl => ⟨by rw [e 16 _ (by decide)]; exact (h6 f l hl).1, (h6 f l hl).2.1, fun k x hx => by rw [e 19 _ (by decide)]; exact (h6 f l hl).2.2 k x hx⟩⟩ h4 (fun f hf => by rw [e 62 _ (by decide)]; exact h62 f hf) (by
      intro x hx
      rcases List.mem_append.mp hx with hx | hx
      · exact hd x hx
      · rw [List.mem_singleton.mp hx]; exact haN) (by
      intro i x hx
      rcases get_app hx with hx | ⟨hz, hx⟩
      · have := lt_of_get hx
        rw [cv_ne (Or.inr (by omega))]
        exact hc i x hx
      · rw [hz, hx, cv_eq h1 (by decide) (by show _ < 48; omega)])
    refine ⟨X1, ?_, ⟨k2.1, k2.2.1, fun i hi => (k2.2.2 i hi).trans (up_row hi)⟩, fun i x hx => k3 i x ?_⟩
    · show gb239_105 n (gf239_105 n fu) _ _ X = _
      unfold gb239_105
      rw [h4, rd_cv h1 (by decide) (by show _ < 2; omega) (by omega), h3]
      dsimp only [Option.bind_some]
      rw [if_neg (nI_ge (by omega) (by omega)), show nI N.length - 1 = nI N.length + (-1) from Int32.sub_eq_add_neg .., hst, hbit, ← hl]
      exact k1
    · show (seqL N m (done ++ [a]))[i]? = some x
      have : seqL N (m + 1) done = seqL N m (done ++ [((List.range N.length).find? (fun i => ready N done i)).getD 0]) := rfl
      rw [this, ha'] at hx
      exact hx
/-- lookForRings -/
theorem rng_ok (h : NR X b N) (h4 : X.1 4 = nI b) (hne : ∀ (f : Nat) (l : List (Nat × Int32)), N[f]? = some l → ∀ x ∈ l, x.1 ≠ f) (hpl : NPl X b P N) (hR : RI X T fk (.inr ts)) (hb1 : (hd ts).1 ≠ 1) (hn : 6002 ≤ n) : match sRing P N with
    | .inl e => ∃ X1, g239 n X = some ((), X1) ∧ RI X1 T fk (.inl e)
    | .inr _ => ∃ X1, g239 n X = some ((), X1) ∧ (LN X1 ∧ X1.1 = X.1 ∧ ∀ i, i ≠ 59 → i ≠ 62 → X1.2.2 i = X.2.2 i) ∧ (seqL N N.length []).length = N.length ∧ ∀ i x, (seqL N N.length [])[i]? = some x → x < N.length ∧ cv X1 59 (24 * b + i) = nI x := by
  obtain ⟨X1, g1, g2, g3⟩ := fr_ok (n := n) h hn
  have h41 : X1.1 4 = nI b := by rw [g2.2.1]; exact h4
  have hpl1 : NPl X1 b P N := fun f l hl k hk => by
    obtain ⟨p1, p2, p3⟩ := hpl f l hl k hk
    exact ⟨by rw [cv_of (g2.2.2 18 (by decide))]; exact p1, p2, p3⟩
  have hR1 : RI X1 T fk (.inr ts) := RI_of hR g2.2.1 (g2.2.2 0 (by decide))
  have hN := h.2.2.2.2.1
  have h24 := h.2.2.2.1
  have hs := lpR10 (n := n) (NR_O h g2) h41 g3 hpl1 hR1 hb1 hn n 0 (by omega) (by omega)
  have e239 : g239 n X = gf239_10 n n 0 X1 := by
    unfold g239
    rw [h4, g1]
    rfl
  rw [List.drop_zero] at hs
  rw [sRing_eq, e239]
  cases hh : ((List.range N.length).flatMap (rgF P N)).head? with
  | some t =>
    rw [hh] at hs
    exact hs
  | none =>
    rw [hh] at hs
    have hnil : (List.range N.length).flatMap (rgF P N) = [] := by
      cases hl : (List.range N.length).flatMap (rgF P N) with
      | nil => rfl
      | cons a l => rw [hl] at hh; cases hh
    have hac := acyc hN (fun i g he => by
      have hi := (edge_lt hN he).1
      obtain ⟨l, hl⟩ : ∃ x, N[i]? = some x := ⟨_, List.getElem?_eq_getElem hi⟩
      have hgd : N.getD i [] = l := by rw [List.getD_eq_getElem?_getD, hl]; rfl
      unfold edge at he
      rw [hgd, List.any_eq_true] at he
      obtain ⟨x, hx, hxe⟩ := he
      have hxe : x.1 = g := by simpa using hxe
      refine ⟨fun q => hne i l hl x hx (by omega), ?_⟩
      cases hr : rchB N g i with
      | false => rfl
      | true =>
        exfalso
        rw [List.flatMap_eq_nil_iff] at hnil
        have hrg := hnil i (List.mem_range.mpr hi)
        unfold rgF at hrg
        rw [List.filterMap_eq_nil_iff, hgd] at hrg
        obtain ⟨k, hk⟩ := List.mem_iff_getElem?.mp hx
        have := hrg k (List.mem_range.mpr (lt_of_get hk))
        unfold rg1 at this
        rw [hgd, List.getD_eq_getElem?_getD, hk] at this
        rw [if_pos (by show rchB N x.1 i = true; rw [hxe]; exact hr)] at this
        cases this)
    have hs : gf239_10 n n (nI 0) X1 = gf239_105 n n 0 0 X1 := hs
    have hz0 : (0 : Int32) = bitsI (fun j => ([] : List Nat).contains j) 24 := by
      apply bt_ext
      intro j hj
      rw [bt_0, bt_bits (by omega)]
      show false = (_ && false)
      rw [Bool.and_false]
    obtain ⟨X2, k1, k2, k3⟩ := lp105 (n := n) (b := b) hac hn N.length n [] (X := X1) (by show 0 + _ = _; omega) (by omega) (NR_O h g2) h41 g3 (fun x hx => (by cases hx)) (fun i x hx => (by cases hx))
    refine ⟨X2, ?_, ⟨k2.1, k2.2.1.trans g2.2.1, fun i i1 i2 => (k2.2.2 i i1).trans (g2.2.2 i i2)⟩, ?_, k3⟩
    · rw [show (0 : Int32) = nI 0 from rfl, hs]
      rw [← hz0] at k1
      exact k1
    · obtain ⟨r, r1, r2⟩ := seqL_ext (N := N) N.length []
      rw [r1, List.nil_append, r2]
end
end ZRG

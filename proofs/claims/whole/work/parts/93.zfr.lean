/-! THE REFERENCE FINDS WHAT IS REACHED -/
section ZFR
/-- needs that were settled, in a bank -/
def NR (X : zX) (b : Nat) (N : List (List (Nat × Int32))) : Prop := LN X ∧ b ≤ 1 ∧ cv X 9 b = nI N.length ∧ N.length ≤ 24 ∧ NL N ∧ ∀ f l, N[f]? = some l → cv X 16 (24 * b + f) = nI l.length ∧ l.length ≤ 4 ∧ ∀ k x, l[k]? = some x → cv X 19 (4 * (24 * b + f) + k) = nI x.1
section
variable {n : Nat} {X X1 X2 : zX} {b f g k t : Nat} {N : List (List (Nat × Int32))} {v : Int32}
/-- only what is reached changes -/
def O62 (X X1 : zX) : Prop := LN X1 ∧ X1.1 = X.1 ∧ ∀ i, i ≠ 62 → X1.2.2 i = X.2.2 i
theorem O62_T (h1 : O62 X X1) (h2 : O62 X1 X2) : O62 X X2 := ⟨h2.1, h2.2.1.trans h1.2.1, fun i a => (h2.2.2 i a).trans (h1.2.2 i a)⟩
theorem O62_up {j : Nat} (hL : LN X) : O62 X (up X 62 j v) := ⟨LN_up hL, rfl, fun i a => up_row a⟩
theorem O62_R (hL : LN X) : O62 X X := ⟨hL, rfl, fun _ _ => rfl⟩
theorem NR_O (h : NR X b N) (ho : O62 X X1) : NR X1 b N := by
  obtain ⟨h1, h2, h3, h4, h5, h6⟩ := h
  have e : ∀ i j, i ≠ 62 → cv X1 i j = cv X i j := fun i j hi => cv_of (ho.2.2 i hi)
  exact ⟨ho.1, h2, by rw [e 9 _ (by decide)]; exact h3, h4, h5, fun f l hl => ⟨by rw [e 16 _ (by decide)]; exact (h6 f l hl).1, (h6 f l hl).2.1, fun k x hx => by rw [e 19 _ (by decide)]; exact (h6 f l hl).2.2 k x hx⟩⟩
theorem bits_set {S : Nat → Bool} (hg : g < 24) : bitsI S 24 ||| ((1 : Int32) <<< (nI g &&& 31)) = bitsI (fun j => S j || j == g) 24 := by
  apply bt_ext
  intro j hj
  rw [bt_or, bt_sh (by omega), bt_bits (by omega), bt_bits (by omega)]
  by_cases h : j = g
  · subst h; simp [hg]
  · rw [decide_eq_false h, Bool.or_false, show (j == g) = false by simpa using h, Bool.or_false]
theorem bits_or {S S' : Nat → Bool} : bitsI S 24 ||| bitsI S' 24 = bitsI (fun j => S j || S' j) 24 := by
  apply bt_ext
  intro j hj
  rw [bt_or, bt_bits (by omega), bt_bits (by omega), bt_bits (by omega)]
  cases decide (j < 24) <;> simp
theorem bits_eq {S S' : Nat → Bool} (h : ∀ j, j < 24 → S j = S' j) : bitsI S 24 = bitsI S' 24 := by
  apply bt_ext
  intro j hj
  rw [bt_bits (by omega), bt_bits (by omega)]
  by_cases q : j < 24
  · rw [h j q]
  · rw [decide_eq_false q]; rfl
theorem bits_t {S : Nat → Bool} (hg : g < 24) : ((bitsI S 24 >>> (nI g &&& 31)) &&& 1) = if S g = true then 1 else 0 := by
  rw [tst1 (by omega), bt_bits (by omega), decide_eq_true hg, Bool.true_and]
def edT (l : List (Nat × Int32)) (j : Nat) : Bool := l.any (fun x => x.1 == j)
theorem lp21 {q2 : Int32 → Int32 → zX → Option (Unit × zX)} {l : List (Nat × Int32)} (hl : N[f]? = some l) (hn : 6002 ≤ n) : ∀ (fu k : Nat) {X : zX}, k ≤ l.length → l.length - k < fu → NR X b N → cv X 62 f = bitsI (edT (l.take k)) 24 → ∃ X1, gf240_21 n q2 fu (nI b) (nI f) (nI k) X = q2 (nI b) (nI (f + 1)) X1 ∧ O62 X X1 ∧ cv X1 62 f = bitsI (edT l) 24 ∧ ∀ j, j ≠ f → cv X1 62 j = cv X 62 j
  | 0, k, X, _, hk, _, _ => by omega
  | fu + 1, k, X, hk, hfu, h, h62 => by
    obtain ⟨h1, h2, h3, h4, h5, h6⟩ := h
    have hfN := lt_of_get hl
    obtain ⟨k1, k2, k3⟩ := h6 f l hl
    show ∃ X1, gb240_21 n q2 (gf240_21 n q2 fu) (nI b) (nI f) (nI k) X = _ ∧ _
    unfold gb240_21
    have e24 : (24 : Int32) * nI b + nI f = nI (24 * b + f) := by rw [show (24 : Int32) = nI 24 from rfl, nI_mul, nI_add]
    rw [e24, rd_cv h1 (by decide) (by show _ < 48; omega) (by omega), k1]
    dsimp only [Option.bind_some]
    by_cases hz : k = l.length
    · rw [if_pos (by rw [hz]; exact Int32.le_refl _), nI_1]
      refine ⟨X, rfl, O62_R h1, ?_, fun _ _ => rfl⟩
      rw [h62, hz, List.take_length]
    · have hlt : k < l.length := by omega
      obtain ⟨x, hx⟩ : ∃ x, l[k]? = some x := ⟨_, List.getElem?_eq_getElem hlt⟩
      have hxl : x.1 < 24 := by
        have := h5 l (List.mem_of_getElem? hl) x (List.mem_of_getElem? hx)
        omega
      have e4 : (4 : Int32) * nI (24 * b + f) + nI k = nI (4 * (24 * b + f) + k) := i4
      have hnew : bitsI (edT (l.take k)) 24 ||| ((1 : Int32) <<< (nI x.1 &&& 31)) = bitsI (edT (l.take (k + 1))) 24 := by
        rw [bits_set hxl]
        refine bits_eq (fun j _ => ?_)
        unfold edT
        rw [List.take_add_one, hx, List.any_append]
        show _ = (_ || List.any [x] _)
        rw [List.any_cons, List.any_nil, Bool.or_false]
        congr 1
        by_cases q : j = x.1
        · subst q; simp
        · rw [show (j == x.1) = false by simpa using q, show (x.1 == j) = false by simpa using fun e => q e.symm]
      obtain ⟨X1, g1, g2, g3, g4⟩ := lp21 (q2 := q2) hl hn fu (k + 1) (X := up X 62 f (bitsI (edT (l.take (k + 1))) 24)) (by omega) (by omega) (NR_O ⟨h1, h2, h3, h4, h5, h6⟩ (O62_up h1)) (by rw [cv_eq h1 (by decide) (by show _ < 24; omega)])
      refine ⟨X1, ?_, O62_T (O62_up h1) g2, g3, fun j hj => by rw [g4 j hj, cv_ne (Or.inr hj)]⟩
      rw [if_neg (nI_ge hlt (by omega)), rd_cv h1 (by decide) (by show _ < 24; omega) (by omega), h62]
      dsimp only [Option.bind_some]
      rw [e4, rd_cv h1 (by decide) (by show _ < 192; omega) (by omega), k3 k x hx]
      dsimp only [Option.bind_some]
      rw [hnew, nI_1]
      exact wst0 h1 (by decide) (by show _ < 24; omega) (by omega) rfl g1
/-- the rows of what is reached: at least lo, at most what is reached -/
def RL (X : zX) (N : List (List (Nat × Int32))) (lo : Nat → Nat → Bool) : Prop := ∀ f, f < N.length → ∃ s : Nat → Bool, cv X 62 f = bitsI s 24 ∧ (∀ j, lo f j = true → s j = true) ∧ ∀ j, s j = true → rchB N f j = true
theorem lpA (hn : 6002 ≤ n) : ∀ (fu f : Nat) {X : zX}, f ≤ N.length → N.length - f < fu → NR X b N → (∀ i, i < f → cv X 62 i = bitsI (edge N i) 24) → ∃ X1, gf240_2 n fu (nI b) (nI f) X = gf240_80 n n (nI b) 0 X1 ∧ O62 X X1 ∧ ∀ i, i < N.length → cv X1 62 i = bitsI (edge N i) 24
  | 0, f, X, _, hk, _, _ => by omega
  | fu + 1, f, X, hf, hfu, h, hd => by
    have hNR := h
    obtain ⟨h1, h2, h3, h4, h5, h6⟩ := h
    show ∃ X1, gb240_2 n (gf240_2 n fu) (nI b) (nI f) X = _ ∧ _
    unfold gb240_2
    rw [rd_cv h1 (by decide) (by show _ < 2; omega) (by omega), h3]
    dsimp only [Option.bind_some]
    by_cases hz : f = N.length
    · rw [if_pos (by rw [hz]; exact Int32.le_refl _)]
      exact ⟨X, rfl, O62_R h1, fun i hi => hd i (by omega)⟩
    · have hlt : f < N.length := by omega
      obtain ⟨l, hl⟩ : ∃ x, N[f]? = some x := ⟨_, List.getElem?_eq_getElem hlt⟩
      have hz0 : (0 : Int32) = bitsI (edT (l.take 0)) 24 := by
        apply bt_ext
        intro j hj
        rw [bt_0, bt_bits (by omega)]
        show false = (_ && false)
        rw [Bool.and_false]
      obtain ⟨X1, g1, g2, g3, g4⟩ := lp21 (n := n) (q2 := gf240_2 n fu) hl hn n 0 (X := up X 62 f 0) (by omega) (by have := (h6 f l hl).2.1; omega) (NR_O hNR (O62_up h1)) (by rw [cv_eq h1 (by decide) (by show _ < 24; omega)]; exact hz0)
      have hed : edT l = edge N f := by
        funext j
        unfold edT edge
        rw [List.getD_eq_getElem?_getD, hl]
        rfl
      obtain ⟨X2, k1, k2, k3⟩ := lpA hn fu (f + 1) (X := X1) (by omega) (by omega) (NR_O (NR_O hNR (O62_up h1)) g2) (fun i hi => by
        by_cases q : i = f
        · subst q; rw [g3, hed]
        · rw [g4 i q, cv_ne (Or.inr q)]; exact hd i (by omega))
      refine ⟨X2, ?_, O62_T (O62_T (O62_up h1) g2) k2, k3⟩
      rw [if_neg (nI_ge hlt (by omega))]
      refine wst0 h1 (by decide) (by show _ < 24; omega) (by omega) rfl ?_
      rw [show (0 : Int32) = nI 0 from rfl] at g1 ⊢
      rw [g1]
      exact k1
/-- what is known in round t at flag f, need g -/
def loR (N : List (List (Nat × Int32))) (t f g : Nat) (i j : Nat) : Bool := if i < f ∨ (i = f ∧ t < g) then pathN N (t + 1) i j else pathN N t i j
theorem lo_W {i j : Nat} (h : pathN N t i j = true) : loR N t f g i j = true := by
  unfold loR
  split
  · exact pathN_m h (by omega)
  · exact h
theorem lp101 {q80 : Int32 → Int32 → zX → Option (Unit × zX)} {q88 : Int32 → Int32 → Int32 → zX → Option (Unit × zX)} (hf : f < N.length) (ht : t < 24) (hn : 6002 ≤ n) : ∀ (fu g : Nat) {X : zX}, g ≤ N.length → N.length - g < fu → NR X b N → RL X N (loR N t f g) → ∃ X1, gf240_101 n q80 q88 fu (nI b) (nI t) (nI f) (nI g) X = q88 (nI b) (nI t) (nI (f + 1)) X1 ∧ O62 X X1 ∧ RL X1 N (loR N t (f + 1) 0)
  | 0, g, X, _, hk, _, _ => by omega
  | fu + 1, g, X, hg, hfu, h, hr => by
    have hNR := h
    obtain ⟨h1, h2, h3, h4, h5, h6⟩ := h
    show ∃ X1, gb240_101 n q80 q88 (gf240_101 n q80 q88 fu) (nI b) (nI t) (nI f) (nI g) X = _ ∧ _
    unfold gb240_101
    rw [rd_cv h1 (by decide) (by show _ < 2; omega) (by omega), h3]
    dsimp only [Option.bind_some]
    by_cases hz : g = N.length
    · rw [if_pos (by rw [hz]; exact Int32.le_refl _), nI_1]
      refine ⟨X, rfl, O62_R h1, fun i hi => ?_⟩
      obtain ⟨s, s1, s2, s3⟩ := hr i hi
      refine ⟨s, s1, fun j hj => s2 j ?_, s3⟩
      unfold loR at hj ⊢
      by_cases q : i < f
      · rw [if_pos (Or.inl (by omega))] at hj
        rw [if_pos (Or.inl q)]; exact hj
      · by_cases q2 : i = f
        · rw [if_pos (Or.inl (by omega))] at hj
          by_cases q3 : t < g
          · rw [if_pos (Or.inr ⟨q2, q3⟩)]; exact hj
          · rw [if_neg (by omega)]
            rw [pathN_s] at hj
            simp only [Bool.or_eq_true, Bool.and_eq_true] at hj
            rcases hj with hj | hj
            · exact hj
            · have := (path_lt h5 t hj.1).2
              omega
        · rw [if_neg (by omega)] at hj
          rw [if_neg (by omega)]; exact hj
    · have hlt : g < N.length := by omega
      obtain ⟨sf, f1, f2, f3⟩ := hr f hf
      obtain ⟨sg, g1, g2, g3⟩ := hr g hlt
      rw [if_neg (nI_ge hlt (by omega)), rd_cv h1 (by decide) (by show _ < 24; omega) (by omega), f1]
      dsimp only [Option.bind_some]
      rw [bits_t (by omega)]
      -- the new row
      have key : ∀ s' : Nat → Bool, (∀ j, sf j = true → s' j = true) → (sf g = true → ∀ j, sg j = true → s' j = true) → (∀ j, s' j = true → rchB N f j = true) → ∃ X1, gf240_101 n q80 q88 fu (nI b) (nI t) (nI f) (nI (g + 1)) (up X 62 f (bitsI s' 24)) = q88 (nI b) (nI t) (nI (f + 1)) X1 ∧ O62 X X1 ∧ RL X1 N (loR N t (f + 1) 0) := by
        intro s' hs1 hs2 hs3
        obtain ⟨X1, k1, k2, k3⟩ := lp101 (q80 := q80) (q88 := q88) hf ht hn fu (g + 1) (X := up X 62 f (bitsI s' 24)) (by omega) (by omega) (NR_O hNR (O62_up h1)) (fun i hi => by
          by_cases q : i = f
          · subst q
            refine ⟨s', by rw [cv_eq h1 (by decide) (by show _ < 24; omega)], fun j hj => ?_, hs3⟩
            unfold loR at hj
            by_cases q3 : t < g
            · rw [if_pos (Or.inr ⟨rfl, by omega⟩)] at hj
              refine hs1 j (f2 j ?_)
              unfold loR
              rw [if_pos (Or.inr ⟨rfl, q3⟩)]; exact hj
            · by_cases q4 : t = g
              · subst q4
                rw [if_pos (Or.inr ⟨rfl, by omega⟩), pathN_s] at hj
                simp only [Bool.or_eq_true, Bool.and_eq_true] at hj
                rcases hj with hj | hj
                · exact hs1 j (f2 j (lo_W hj))
                · exact hs2 (f2 t (lo_W hj.1)) j (g2 j (lo_W hj.2))
              · rw [if_neg (by omega)] at hj
                exact hs1 j (f2 j (lo_W hj))
          · obtain ⟨s, s1, s2, s3⟩ := hr i hi
            refine ⟨s, by rw [cv_ne (Or.inr q)]; exact s1, fun j hj => s2 j ?_, s3⟩
            unfold loR at hj ⊢
            by_cases q3 : i < f
            · rw [if_pos (Or.inl q3)] at hj
              rw [if_pos (Or.inl q3)]; exact hj
            · rw [if_neg (by omega)] at hj
              rw [if_neg (by omega)]; exact hj)
        exact ⟨X1, k1, O62_T (O62_up h1) k2, k3⟩
      unfold gb240_155
      by_cases hb : sf g = true
      · rw [if_pos hb, if_pos rfl, rd_cv h1 (by decide) (by show _ < 24; omega) (by omega), g1]
        dsimp only [Option.bind_some]
        rw [bits_or, nI_1]
        obtain ⟨X1, k1, k2, k3⟩ := key (fun j => sf j || sg j) (fun j hj => by show (sf j || sg j) = true; rw [hj]; rfl) (fun _ j hj => by show (sf j || sg j) = true; rw [hj, Bool.or_true]) (fun j hj => by
          have hj : (sf j || sg j) = true := hj
          rw [Bool.or_eq_true] at hj
          rcases hj with hj | hj
          · exact f3 j hj
          · exact rch_t hlt (f3 g hb) (g3 j hj))
        exact ⟨X1, wst0 h1 (by decide) (by show _ < 24; omega) (by omega) rfl k1, k2, k3⟩
      · rw [if_neg hb, if_neg (by decide), nI_1]
        obtain ⟨X1, k1, k2, k3⟩ := key sf (fun j hj => hj) (fun q => absurd q hb) f3
        exact ⟨X1, wst0 h1 (by decide) (by show _ < 24; omega) (by omega) rfl k1, k2, k3⟩
theorem lp88 {q80 : Int32 → Int32 → zX → Option (Unit × zX)} (ht : t < 24) (hn : 6002 ≤ n) : ∀ (fu f : Nat) {X : zX}, f ≤ N.length → N.length - f < fu → NR X b N → RL X N (loR N t f 0) → ∃ X1, gf240_88 n q80 fu (nI b) (nI t) (nI f) X = q80 (nI b) (nI (t + 1)) X1 ∧ O62 X X1 ∧ RL X1 N (pathN N (t + 1))
  | 0, f, X, _, hk, _, _ => by omega
  | fu + 1, f, X, hf, hfu, h, hr => by
    have hNR := h
    obtain ⟨h1, h2, h3, h4, h5, h6⟩ := h
    show ∃ X1, gb240_88 n q80 (gf240_88 n q80 fu) (nI b) (nI t) (nI f) X = _ ∧ _
    unfold gb240_88
    rw [rd_cv h1 (by decide) (by show _ < 2; omega) (by omega), h3]
    dsimp only [Option.bind_some]
    by_cases hz : f = N.length
    · rw [if_pos (by rw [hz]; exact Int32.le_refl _), nI_1]
      refine ⟨X, rfl, O62_R h1, fun i hi => ?_⟩
      obtain ⟨s, s1, s2, s3⟩ := hr i hi
      refine ⟨s, s1, fun j hj => s2 j ?_, s3⟩
      unfold loR
      rw [if_pos (Or.inl (by omega))]; exact hj
    · have hlt : f < N.length := by omega
      obtain ⟨X1, g1, g2, g3⟩ := lp101 (n := n) (q80 := q80) (q88 := gf240_88 n q80 fu) hlt ht hn n 0 (X := X) (by omega) (by omega) hNR hr
      obtain ⟨X2, k1, k2, k3⟩ := lp88 (q80 := q80) ht hn fu (f + 1) (X := X1) (by omega) (by omega) (NR_O hNR g2) g3
      refine ⟨X2, ?_, O62_T g2 k2, k3⟩
      rw [if_neg (nI_ge hlt (by omega)), show (0 : Int32) = nI 0 from rfl, g1]
      exact k1
theorem lp80 (hn : 6002 ≤ n) : ∀ (fu t : Nat) {X : zX}, t ≤ 24 → 24 - t < fu → NR X b N → RL X N (pathN N t) → ∃ X1, gf240_80 n fu (nI b) (nI t) X = some ((), X1) ∧ O62 X X1 ∧ RL X1 N (pathN N 24)
  | 0, t, X, _, hk, _, _ => by omega
  | fu + 1, t, X, ht, hfu, h, hr => by
    have hNR := h
    obtain ⟨h1, h2, h3, h4, h5, h6⟩ := h
    show ∃ X1, gb240_80 n (gf240_80 n fu) (nI b) (nI t) X = _ ∧ _
    unfold gb240_80
    by_cases hz : t = 24
    · subst hz
      rw [if_pos (show (24 : Int32) ≤ nI 24 by decide)]
      exact ⟨X, rfl, O62_R h1, hr⟩
    · obtain ⟨X1, g1, g2, g3⟩ := lp88 (n := n) (q80 := gf240_80 n fu) (t := t) (by omega) hn n 0 (X := X) (by omega) (by omega) hNR (fun i hi => by
        obtain ⟨s, s1, s2, s3⟩ := hr i hi
        refine ⟨s, s1, fun j hj => s2 j ?_, s3⟩
        unfold loR at hj
        rw [if_neg (by omega)] at hj
        exact hj)
      obtain ⟨X2, k1, k2, k3⟩ := lp80 hn fu (t + 1) (X := X1) (by omega) (by omega) (NR_O hNR g2) g3
      refine ⟨X2, ?_, O62_T g2 k2, k3⟩
      rw [show (24 : Int32) = nI 24 from rfl, if_neg (nI_ge (show t < 24 by omega) (by omega)), show (0 : Int32) = nI 0 from rfl, g1]
      exact k1
/-- findReach -/
theorem fr_ok (h : NR X b N) (hn : 6002 ≤ n) : ∃ X1, g240 n (nI b) X = some ((), X1) ∧ O62 X X1 ∧ ∀ f, f < N.length → cv X1 62 f = bitsI (rchB N f) 24 := by
  have h4 := h.2.2.2.1
  obtain ⟨X1, g1, g2, g3⟩ := lpA (n := n) hn n 0 (X := X) (by omega) (by omega) h (fun i hi => by omega)
  obtain ⟨X2, k1, k2, k3⟩ := lp80 (n := n) hn n 0 (X := X1) (by omega) (by omega) (NR_O h g2) (fun i hi => ⟨edge N i, g3 i hi, fun j hj => hj, fun j hj => rch_e hj⟩)
  refine ⟨X2, ?_, O62_T g2 k2, fun f hf => ?_⟩
  · unfold g240
    rw [show (0 : Int32) = nI 0 from rfl, g1]
    exact k1
  · obtain ⟨s, s1, s2, s3⟩ := k3 f hf
    rw [s1]
    refine bits_eq (fun j _ => ?_)
    cases hr : rchB N f j with
    | true => exact s2 j (pathN_m hr h4)
    | false =>
      cases hs : s j with
      | false => rfl
      | true => rw [s3 j hs] at hr; cases hr
end
end ZFR

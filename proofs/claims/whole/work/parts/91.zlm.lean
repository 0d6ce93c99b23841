/-! THE REFERENCE LOOKS AT ALL NEEDS -/
section ZLM
/-- needs as they are settled, from flag f on -/
def NX (X : zX) (b f : Nat) (N : List (List (Nat × Int32))) : Prop := ∀ i l, N[i]? = some l → NX1 X b (f + i) 0 l
def NG (P : Pln) (f : Nat) (N : List (List (Nat × Int32))) : Prop := ∀ i l, N[i]? = some l → l.length = (P.2.1.getD (f + i) fl0).2.2.1.length ∧ ∀ x ∈ l, x.1 < P.2.1.length
section
variable {n : Nat} {X X1 X2 : zX} {b nv cb f g k J lo hi mi : Nat} {T : List Int32} {fk : Int32} {ts : List Tk} {r : RR (List Tk)} {P : Pln} {D : List Pd} {q2 : Int32 → zX → Option (Unit × zX)} {l1 l2 l3 l4 l5 : Int32} {F : Flg}
theorem NX1_cons {x : Nat × Int32} {l : List (Nat × Int32)} (h1 : cv X 19 (4 * (24 * b + f) + k) = nI x.1 ∧ cv X 24 (4 * (24 * b + f) + k) = x.2) (h2 : NX1 X b f (k + 1) l) : NX1 X b f k (x :: l) := by
  intro i y hy
  cases i with
  | zero => cases hy; exact h1
  | succ i =>
    have := h2 i y hy
    rw [show k + (i + 1) = k + 1 + i by omega]
    exact this
theorem sMap_nil {α β : Type} {F : α → RR β} : sMap F [] = .inr [] := rfl
theorem sMap_cons {α β : Type} {F : α → RR β} {a : α} {l : List α} : sMap F (a :: l) = rb (F a) fun b => rb (sMap F l) fun bs => .inr (b :: bs) := rfl
theorem drop_get {α : Type} {l : List α} {k : Nat} {x : α} (h : l[k]? = some x) : l.drop k = x :: l.drop (k + 1) := by
  have hl := lt_of_get h
  rw [List.drop_eq_getElem_cons hl]
  rw [List.getElem?_eq_getElem hl] at h
  rw [Option.some.inj h]
theorem lp17 (hp : PND P) (hf : f < 24) (hF : P.2.1[f]? = some F) (hb1 : (hd ts).1 ≠ 1) (hn : 6002 ≤ n) : ∀ (fu k : Nat) {X : zX}, k ≤ F.2.2.1.length → F.2.2.1.length - k < fu → RP X b P D nv cb → RI X T fk (.inr ts) → match sMap (sSet1 P f) (F.2.2.1.drop k) with
    | .inl e => ∃ X1, gf237_17 n q2 fu (nI f) (nI k) X = some ((), X1) ∧ RI X1 T fk (.inl e)
    | .inr l => l.length = F.2.2.1.length - k ∧ (∀ x ∈ l, x.1 < P.2.1.length) ∧ ∃ X1, gf237_17 n q2 fu (nI f) (nI k) X = q2 (nI (f + 1)) X1 ∧ NkP X X1 (4 * (24 * b + f) + k) (4 * (24 * b + f) + F.2.2.1.length) ∧ NX1 X1 b f k l
  | 0, k, X, _, hk, _, _ => by omega
  | fu + 1, k, X, hk, hfu, h, hR => by
    obtain ⟨c1, c2, c3, _⟩ := RP_b h
    obtain ⟨hN1, hN2, hN3⟩ := (h.2.1.2.2 f F hF).2.2.1
    have e17 : gf237_17 n q2 (fu + 1) (nI f) (nI k) X = if nI F.2.2.1.length ≤ nI k then q2 (nI f + 1) X else gf237_63 n q2 (gf237_17 n q2 fu) n (nI f) (nI k) (nI (4 * (24 * b + f) + k)) (-1) 0 X := by
      show gb237_17 n q2 (gf237_17 n q2 fu) (nI f) (nI k) X = _
      unfold gb237_17 gb237_311
      rw [i12a (a := 24) (k := 24) c2 rfl, rd_cv c1 (by decide) (by show _ < 48; omega) (by omega), hN1, i4]
      dsimp only [Option.bind_some]
      rw [if_pos (ri_hd hR hb1).1]
    by_cases hz : k = F.2.2.1.length
    · rw [List.drop_eq_nil_of_le (by omega), sMap_nil]
      refine ⟨by show 0 = _; omega, fun x hx => (by cases hx), X, ?_, ⟨c1, rfl, fun _ _ _ => rfl, fun _ _ _ _ => rfl⟩, fun i x hx => (by cases hx)⟩
      rw [e17, if_pos (by rw [hz]; exact Int32.le_refl _), nI_1]
    · have hl : k < F.2.2.1.length := by omega
      obtain ⟨⟨wn, wv⟩, ha⟩ : ∃ a, F.2.2.1[k]? = some a := ⟨_, List.getElem?_eq_getElem hl⟩
      have hs := set1 (n := n) (q2 := q2) (q17 := gf237_17 n q2 fu) (l2 := nI k) h hp hf hF ha hR hb1 hn
      rw [e17, if_neg (nI_ge hl (by omega)), drop_get ha, sMap_cons]
      cases h1 : sSet1 P f (wn, wv) with
      | inl e =>
        rw [h1] at hs
        exact hs
      | inr x =>
        rw [h1] at hs
        obtain ⟨hx, X1, e1, e2, e3, e4⟩ := hs
        have hrec := lp17 hp hf hF hb1 hn fu (k + 1) (X := X1) (by omega) (by omega) (NkP_RP h e2) (NkP_RI hR e2)
        rw [e1, nI_1, rb_inr]
        cases h2 : sMap (sSet1 P f) (F.2.2.1.drop (k + 1)) with
        | inl e =>
          rw [h2] at hrec
          exact hrec
        | inr l =>
          rw [h2] at hrec
          obtain ⟨g1, g0, X2, g2, g3, g4⟩ := hrec
          refine ⟨by show l.length + 1 = _; omega, ?_, X2, g2, NkP_T (NkP_M e2 (by omega) (by omega)) (NkP_M g3 (by omega) (by omega)), NX1_cons ?_ g4⟩
          · intro y hy
            rcases List.mem_cons.mp hy with rfl | hy
            · exact hx
            · exact g0 y hy
          · rw [g3.2.2.2 19 _ (Or.inl rfl) (Or.inl (by omega)), g3.2.2.2 24 _ (Or.inr rfl) (Or.inl (by omega))]
            exact ⟨e3, e4⟩
theorem range_drop {m f : Nat} (h : f < m) : (List.range m).drop f = f :: (List.range m).drop (f + 1) := by
  rw [List.drop_eq_getElem_cons (by rw [List.length_range]; exact h), List.getElem_range]
def setF (P : Pln) (i : Nat) : RR (List (Nat × Int32)) := sMap (sSet1 P i) (P.2.1.getD i fl0).2.2.1
theorem NX1_of {l : List (Nat × Int32)} (h : NX1 X b f 0 l) (h4 : l.length ≤ 4) (e : ∀ i j, (i = 19 ∨ i = 24) → j < 4 * (24 * b + f) + 4 → cv X1 i j = cv X i j) : NX1 X1 b f 0 l := by
  intro i x hx
  have := lt_of_get hx
  rw [e 19 _ (Or.inl rfl) (by omega), e 24 _ (Or.inr rfl) (by omega)]
  exact h i x hx
theorem lpN2 (hp : PND P) (hb1 : (hd ts).1 ≠ 1) (hn : 6002 ≤ n) : ∀ (fu f : Nat) {X : zX}, f ≤ P.2.1.length → P.2.1.length - f < fu → RP X b P D nv cb → RI X T fk (.inr ts) → match sMap (setF P) ((List.range P.2.1.length).drop f) with
    | .inl e => ∃ X1, gf237_2 n fu (nI f) X = some ((), X1) ∧ RI X1 T fk (.inl e)
    | .inr N => N.length = P.2.1.length - f ∧ NG P f N ∧ ∃ X1, gf237_2 n fu (nI f) X = some ((), X1) ∧ NkP X X1 (4 * (24 * b + f)) (4 * (24 * b + 24)) ∧ NX X1 b f N
  | 0, f, X, _, hk, _, _ => by omega
  | fu + 1, f, X, hf, hfu, h, hR => by
    obtain ⟨c1, c2, c3, _⟩ := RP_b h
    have hfl := h.2.1.2.1
    have e2 : gf237_2 n (fu + 1) (nI f) X = if nI P.2.1.length ≤ nI f then some ((), X) else gf237_17 n (gf237_2 n fu) n (nI f) 0 X := by
      show gb237_2 n (gf237_2 n fu) (nI f) X = _
      unfold gb237_2
      rw [c2, rd_cv c1 (by decide) (by show _ < 2; omega) (by omega), h.2.1.1]
      rfl
    by_cases hz : f = P.2.1.length
    · rw [List.drop_eq_nil_of_le (by rw [List.length_range]; omega), sMap_nil]
      refine ⟨by show 0 = _; omega, fun i l hl => (by cases hl), X, ?_, ⟨c1, rfl, fun _ _ _ => rfl, fun _ _ _ _ => rfl⟩, fun i l hl => (by cases hl)⟩
      rw [e2, if_pos (by rw [hz]; exact Int32.le_refl _)]
    · have hl : f < P.2.1.length := by omega
      obtain ⟨F, hF⟩ : ∃ F, P.2.1[f]? = some F := ⟨_, List.getElem?_eq_getElem hl⟩
      have hFd : P.2.1.getD f fl0 = F := by rw [List.getD_eq_getElem?_getD, hF]; rfl
      have hn4 := (h.2.1.2.2 f F hF).2.2.1.2.1
      have hs := lp17 (n := n) (q2 := gf237_2 n fu) hp (by omega) hF hb1 hn n 0 (X := X) (by omega) (by omega) h hR
      rw [e2, if_neg (nI_ge hl (by omega)), range_drop hl, sMap_cons, show (0 : Int32) = nI 0 from rfl]
      have e3 : setF P f = sMap (sSet1 P f) (F.2.2.1.drop 0) := by unfold setF; rw [hFd, List.drop_zero]
      rw [e3]
      cases h1 : sMap (sSet1 P f) (F.2.2.1.drop 0) with
      | inl e =>
        rw [h1] at hs
        exact hs
      | inr l =>
        rw [h1] at hs
        obtain ⟨g1, g0, X1, g2, g3, g4⟩ := hs
        have hrec := lpN2 hp hb1 hn fu (f + 1) (X := X1) (by omega) (by omega) (NkP_RP h g3) (NkP_RI hR g3)
        rw [g2, rb_inr]
        cases h2 : sMap (setF P) ((List.range P.2.1.length).drop (f + 1)) with
        | inl e =>
          rw [h2] at hrec
          exact hrec
        | inr N =>
          rw [h2] at hrec
          obtain ⟨k1, k0, X2, k2, k3, k4⟩ := hrec
          refine ⟨by show N.length + 1 = _; omega, ?_, X2, k2, NkP_T (NkP_M g3 (by omega) (by omega)) (NkP_M k3 (by omega) (by omega)), ?_⟩
          · intro i l' hl'
            cases i with
            | zero =>
              cases hl'
              exact ⟨by rw [Nat.add_zero, hFd]; omega, g0⟩
            | succ i =>
              have := k0 i l' hl'
              rw [show f + (i + 1) = f + 1 + i by omega]
              exact this
          · intro i l' hl'
            cases i with
            | zero =>
              cases hl'
              rw [Nat.add_zero]
              exact NX1_of g4 (by omega) (fun i j hi hj => k3.2.2.2 i j hi (Or.inl (by omega)))
            | succ i =>
              have := k4 i l' hl'
              rw [show f + (i + 1) = f + 1 + i by omega]
              exact this
theorem sSetN_eq : sSetN P = sMap (setF P) (List.range P.2.1.length) := rfl
/-- lookAtNeeds -/
theorem lan_ok (hp : PND P) (h : RP X b P D nv cb) (hR : RI X T fk (.inr ts)) (hb1 : (hd ts).1 ≠ 1) (hn : 6002 ≤ n) : match sSetN P with
    | .inl e => ∃ X1, g237 n X = some ((), X1) ∧ RI X1 T fk (.inl e)
    | .inr N => N.length = P.2.1.length ∧ NG P 0 N ∧ ∃ X1, g237 n X = some ((), X1) ∧ NkP X X1 (96 * b) (96 * b + 96) ∧ NX X1 b 0 N := by
  have hfl := h.2.1.2.1
  have hs := lpN2 (n := n) hp hb1 hn n 0 (X := X) (by omega) (by omega) h hR
  rw [List.drop_zero, ← sSetN_eq] at hs
  unfold g237
  cases h1 : sSetN P with
  | inl e =>
    rw [h1] at hs
    exact hs
  | inr N =>
    rw [h1] at hs
    obtain ⟨k1, k0, X2, k2, k3, k4⟩ := hs
    exact ⟨by omega, k0, X2, k2, NkP_M k3 (by omega) (by omega), k4⟩
end
end ZLM

/-! THE REFERENCE: isTrue -/
section ZIT2
/-- which segments hold, as the reference has them -/
def INS (X : zX) (l : List Bool) : Prop := l.length = 12 ∧ ∀ j, j < 12 → cv X 69 j = b2 (l.getD j false)
def O68 (X X1 : zX) : Prop := LN X1 ∧ X1.1 = X.1 ∧ ∀ i, i ≠ 68 → X1.2.2 i = X.2.2 i
section
variable {n : Nat} {X X1 X2 : zX} {b p m cb : Nat} {K : KL} {φ : Den} {U : Nat → Prop} {E : Env} {D : List Pd} {q3 : Int32 → Int32 → Int32 → Int32 → zX → Option (Int32 × zX)} {l1 l2 l3 l4 l5 l6 : Int32}
theorem O68_R (h : LN X) : O68 X X := ⟨h, rfl, fun _ _ => rfl⟩
theorem O68_T (h1 : O68 X X1) (h2 : O68 X1 X2) : O68 X X2 := ⟨h2.1, h2.2.1.trans h1.2.1, fun i a => (h2.2.2 i a).trans (h1.2.2 i a)⟩
theorem or_l (hL : LN X) (h3 : X.1 3 = nI b) (hb : b ≤ 1) : ∀ (l : List Pd) (fu : Nat) (v : Bool), (∀ y ∈ l, y.1 < 400) → nxC X b (l.map (·.1)) → (∀ y ∈ l, cv X 68 y.1 = b2 (y.2 E)) → l.length < fu → gf252_184 n q3 fu l1 l2 l3 l4 l5 l6 (b2 v) (hdI (l.map (·.1))) X = gb252_308 n q3 l1 l2 l3 l4 l5 l6 (b2 (v || dOr (l.map (·.2)) E)) X
  | l, 0, v, _, _, _, h => by omega
  | [], fu + 1, v, _, _, _, _ => by
    show gb252_184 n q3 (gf252_184 n q3 fu) l1 l2 l3 l4 l5 l6 (b2 v) (-1) X = _
    unfold gb252_184
    rw [if_pos rfl]
    show _ = gb252_308 n q3 l1 l2 l3 l4 l5 l6 (b2 (v || false)) X
    rw [Bool.or_false]
  | y :: l, fu + 1, v, h4, hc, hw, hf => by
    have hy := h4 y List.mem_cons_self
    have hrec := fun v => or_l hL h3 hb l fu v (fun z hz => h4 z (List.mem_cons_of_mem _ hz)) (nxC_tl hc) (fun z hz => hw z (List.mem_cons_of_mem _ hz)) (by have : l.length + 1 < fu + 1 := hf; omega)
    have hnx := nxC_nx hc
    unfold pv at hnx
    have hc68 := hw y List.mem_cons_self
    show gb252_184 n q3 (gf252_184 n q3 fu) l1 l2 l3 l4 l5 l6 (b2 v) (nI y.1) X = _
    unfold gb252_184 gb252_205 gb252_210
    have e : ∀ v : Bool, ((rd (X.2.2 56) ((400 * (X.1 3)) + nI y.1)).bind fun x2 => gf252_184 n q3 fu l1 l2 l3 l4 l5 l6 (b2 v) x2 X) = gf252_184 n q3 fu l1 l2 l3 l4 l5 l6 (b2 v) (hdI (l.map (·.1))) X := by
      intro v
      rw [j3 (a := 400) (k := 400) h3 rfl, rd_cv hL (by decide) (by show _ < 800; omega) (by omega), hnx]
      rfl
    have hd : dOr ((y :: l).map (·.2)) E = (y.2 E || dOr (l.map (·.2)) E) := rfl
    rw [if_neg (nI_m1 (by omega)), hd]
    cases v with
    | true =>
      rw [if_neg (show ¬ b2 true = 0 by decide)]
      show ((rd (X.2.2 56) ((400 * (X.1 3)) + nI y.1)).bind fun x2 => gf252_184 n q3 fu l1 l2 l3 l4 l5 l6 (b2 true) x2 X) = _
      rw [e, hrec]
      simp
    | false =>
      rw [if_pos b2_f, rd_cv hL (by decide) (by show _ < 400; omega) (by omega), hc68]
      dsimp only [Option.bind_some]
      cases hs : y.2 E with
      | true =>
        rw [if_neg (show ¬ b2 true = 0 by decide)]
        show ((rd (X.2.2 56) ((400 * (X.1 3)) + nI y.1)).bind fun x2 => gf252_184 n q3 fu l1 l2 l3 l4 l5 l6 (b2 true) x2 X) = _
        rw [e, hrec]
        simp
      | false =>
        rw [if_pos b2_f]
        show ((rd (X.2.2 56) ((400 * (X.1 3)) + nI y.1)).bind fun x2 => gf252_184 n q3 fu l1 l2 l3 l4 l5 l6 (b2 false) x2 X) = _
        rw [e, hrec]
        simp
theorem and_l (hL : LN X) (h3 : X.1 3 = nI b) (hb : b ≤ 1) : ∀ (l : List Pd) (fu : Nat) (v : Bool), (∀ y ∈ l, y.1 < 400) → nxC X b (l.map (·.1)) → (∀ y ∈ l, cv X 68 y.1 = b2 (y.2 E)) → l.length < fu → gf252_248 n q3 fu l1 l2 l3 l4 l5 l6 (b2 v) (hdI (l.map (·.1))) X = gb252_308 n q3 l1 l2 l3 l4 l5 l6 (b2 (v && dAnd (l.map (·.2)) E)) X
  | l, 0, v, _, _, _, h => by omega
  | [], fu + 1, v, _, _, _, _ => by
    show gb252_248 n q3 (gf252_248 n q3 fu) l1 l2 l3 l4 l5 l6 (b2 v) (-1) X = _
    unfold gb252_248
    rw [if_pos rfl]
    show _ = gb252_308 n q3 l1 l2 l3 l4 l5 l6 (b2 (v && true)) X
    rw [Bool.and_true]
  | y :: l, fu + 1, v, h4, hc, hw, hf => by
    have hy := h4 y List.mem_cons_self
    have hrec := fun v => and_l hL h3 hb l fu v (fun z hz => h4 z (List.mem_cons_of_mem _ hz)) (nxC_tl hc) (fun z hz => hw z (List.mem_cons_of_mem _ hz)) (by have : l.length + 1 < fu + 1 := hf; omega)
    have hnx := nxC_nx hc
    unfold pv at hnx
    have hc68 := hw y List.mem_cons_self
    show gb252_248 n q3 (gf252_248 n q3 fu) l1 l2 l3 l4 l5 l6 (b2 v) (nI y.1) X = _
    unfold gb252_248 gb252_273 gb252_274
    have e : ∀ v : Bool, ((rd (X.2.2 56) ((400 * (X.1 3)) + nI y.1)).bind fun x2 => gf252_248 n q3 fu l1 l2 l3 l4 l5 l6 (b2 v) x2 X) = gf252_248 n q3 fu l1 l2 l3 l4 l5 l6 (b2 v) (hdI (l.map (·.1))) X := by
      intro v
      rw [j3 (a := 400) (k := 400) h3 rfl, rd_cv hL (by decide) (by show _ < 800; omega) (by omega), hnx]
      rfl
    have hd : dAnd ((y :: l).map (·.2)) E = (y.2 E && dAnd (l.map (·.2)) E) := rfl
    rw [if_neg (nI_m1 (by omega)), hd]
    cases v with
    | false =>
      rw [if_pos b2_f]
      show ((rd (X.2.2 56) ((400 * (X.1 3)) + nI y.1)).bind fun x2 => gf252_248 n q3 fu l1 l2 l3 l4 l5 l6 (b2 false) x2 X) = _
      rw [e, hrec]
      simp
    | true =>
      rw [if_neg (show ¬ b2 true = 0 by decide), rd_cv hL (by decide) (by show _ < 400; omega) (by omega), hc68]
      dsimp only [Option.bind_some]
      cases hs : y.2 E with
      | true =>
        rw [if_neg (show ¬ b2 true = 0 by decide)]
        show ((rd (X.2.2 56) ((400 * (X.1 3)) + nI y.1)).bind fun x2 => gf252_248 n q3 fu l1 l2 l3 l4 l5 l6 (b2 true) x2 X) = _
        rw [e, hrec]
        simp
      | false =>
        rw [if_pos b2_f]
        show ((rd (X.2.2 56) ((400 * (X.1 3)) + nI y.1)).bind fun x2 => gf252_248 n q3 fu l1 l2 l3 l4 l5 l6 (b2 false) x2 X) = _
        rw [e, hrec]
        simp
/-- one part -/
theorem one_p {i fm : Nat} {x : Pd} (hL : LN X) (h3 : X.1 3 = nI b) (hb : b ≤ 1) (hm : m ≤ 12) (hK : KNX X K) (hI : INS X E.2) (hE : E.1 = K) (h4 : ∀ y ∈ D, y.1 < 400) (hU : ∀ u, U u → u < 400) (hx : D[i]? = some x) (h57 : cv X 57 (400 * b + (fm + i)) = nI x.1) (hfm : fm + i < 400) (hto : ¬ l3 ≤ nI (fm + i)) (hp : PMn X b m (D.take i) U x.1 x.2) (hw : ∀ y ∈ D.take i, cv X 68 y.1 = b2 (y.2 E)) (hn : 6002 ≤ n) : gb252_3 n q3 l1 l2 l3 (nI (fm + i)) X = q3 l1 l2 l3 (nI (fm + i + 1)) (up X 68 x.1 (b2 (x.2 E))) := by
  have hx4 := h4 x (List.mem_of_getElem? hx)
  have hsub : ∀ y ∈ D.take i, y.1 < 400 := fun y hy => h4 y (List.mem_of_mem_take hy)
  have hfin : ∀ (l7 : Int32), l7 = b2 (x.2 E) → gb252_308 n q3 l1 l2 l3 (nI (fm + i)) (nI x.1) (nI (400 * b + x.1)) l7 X = q3 l1 l2 l3 (nI (fm + i + 1)) (up X 68 x.1 (b2 (x.2 E))) := by
    intro l7 h7
    unfold gb252_308
    rw [h7, b2_and, nI_1]
    exact wst0 hL (by decide) (by show _ < 400; omega) (by omega) rfl rfl
  have h50 : rd (X.2.2 50) (nI (400 * b + x.1)) = some (pv X b 50 x.1) := rd_cv hL (by decide) (by show _ < 800; omega) (by omega)
  have h55 : rd (X.2.2 55) (nI (400 * b + x.1)) = some (pv X b 55 x.1) := rd_cv hL (by decide) (by show _ < 800; omega) (by omega)
  unfold gb252_3
  rw [if_neg hto, j3 (a := 400) (k := 400) h3 rfl, rd_cv hL (by decide) (by show _ < 800; omega) (by omega), h57]
  dsimp only [Option.bind_some]
  rw [j3 (a := 400) (k := 400) h3 rfl, h50]
  dsimp only [Option.bind_some]
  rcases hp with ⟨k0, hφ⟩ | ⟨k0, hφ⟩ | ⟨k0, j, hj, h51, hφ⟩ | ⟨k0, y, hy, hy55, hφ⟩ | ⟨k0, l, hch, hl, hφ⟩ | ⟨k0, l, hch, hl, hφ⟩ | hT
  · rw [k0, if_pos rfl]
    exact hfin _ (by rw [hφ]; rfl)
  · rw [k0, if_neg (by decide), if_pos rfl]
    exact hfin _ (by rw [hφ]; rfl)
  · rw [k0, if_neg (by decide), if_neg (by decide), if_pos rfl, show rd (X.2.2 51) (nI (400 * b + x.1)) = some (pv X b 51 x.1) from rd_cv hL (by decide) (by show _ < 800; omega) (by omega), h51]
    dsimp only [Option.bind_some]
    rw [rd_cv hL (by decide) (by show _ < 12; omega) (by omega), hI.2 j (by omega)]
    dsimp only [Option.bind_some]
    exact hfin _ (by rw [hφ])
  · have hyc := hw y hy
    have hy4 := hsub y hy
    rw [k0, if_neg (by decide), if_neg (by decide), if_neg (by decide), if_neg (by decide), if_neg (by decide), if_neg (by decide), if_neg (by decide), if_neg (by decide), if_neg (by decide), if_neg (by decide), if_neg (by decide), if_neg (by decide), if_pos rfl, h55, hy55]
    dsimp only [Option.bind_some]
    rw [rd_cv hL (by decide) (by show _ < 400; omega) (by omega), hyc]
    dsimp only [Option.bind_some]
    unfold gb252_170
    cases hv : y.2 E with
    | true =>
      rw [if_neg (show ¬ b2 true = 0 by decide)]
      exact hfin _ (by rw [hφ]; show 0 = b2 (!y.2 E); rw [hv]; rfl)
    | false =>
      rw [if_pos b2_f]
      exact hfin _ (by rw [hφ]; show 1 = b2 (!y.2 E); rw [hv]; rfl)
  · have hl4 : ∀ y ∈ l, y.1 < 400 := fun y hy => hsub y (hl y hy).1
    have hlen : l.length ≤ 400 := by
      have := nxC_len (X := X) (b := b) (l := l.map (·.1)) (fun y hy => by
        obtain ⟨z, hz, rfl⟩ := List.mem_map.mp hy
        exact hl4 z hz) hch.2.2
      rw [List.length_map] at this
      exact this
    have e55 : pv X b 55 x.1 = hdI (l.map (·.1)) := by
      obtain ⟨hne, h, _⟩ := hch
      cases l with
      | nil => exact absurd rfl hne
      | cons y l => exact h
    rw [k0, if_neg (by decide), if_neg (by decide), if_neg (by decide), if_neg (by decide), if_neg (by decide), if_neg (by decide), if_neg (by decide), if_neg (by decide), if_neg (by decide), if_neg (by decide), if_neg (by decide), if_neg (by decide), if_neg (by decide), if_pos rfl, h55, e55]
    dsimp only [Option.bind_some]
    rw [show (0 : Int32) = b2 false from rfl, or_l (E := E) hL h3 hb l n false hl4 hch.2.2 (fun y hy => hw y (hl y hy).1) (by omega), Bool.false_or]
    exact hfin _ (by rw [hφ])
  · have hl4 : ∀ y ∈ l, y.1 < 400 := fun y hy => hsub y (hl y hy).1
    have hlen : l.length ≤ 400 := by
      have := nxC_len (X := X) (b := b) (l := l.map (·.1)) (fun y hy => by
        obtain ⟨z, hz, rfl⟩ := List.mem_map.mp hy
        exact hl4 z hz) hch.2.2
      rw [List.length_map] at this
      exact this
    have e55 : pv X b 55 x.1 = hdI (l.map (·.1)) := by
      obtain ⟨hne, h, _⟩ := hch
      cases l with
      | nil => exact absurd rfl hne
      | cons y l => exact h
    rw [k0, if_neg (by decide), if_neg (by decide), if_neg (by decide), if_neg (by decide), if_neg (by decide), if_neg (by decide), if_neg (by decide), if_neg (by decide), if_neg (by decide), if_neg (by decide), if_neg (by decide), if_neg (by decide), if_neg (by decide), if_neg (by decide), if_pos rfl, h55, e55]
    dsimp only [Option.bind_some]
    rw [show (1 : Int32) = b2 true from rfl, and_l (E := E) hL h3 hb l n true hl4 hch.2.2 (fun y hy => hw y (hl y hy).1) (by omega), Bool.true_and]
    exact hfin _ (by rw [hφ])
  · have ht := tst_ok (E := E) hL h3 hb hK hE hx4 hU hT hn
    have hk : ∃ k : Nat, pv X b 50 x.1 = nI k ∧ 3 ≤ k ∧ k ≤ 10 := by
      obtain ⟨_, _, _, _, _, h⟩ := hT
      rcases h with ⟨k, o, ht, h, _⟩ | ⟨h, _⟩
      · refine ⟨k, h, ?_⟩
        rcases ht with (h | h) | ⟨h | h, _⟩ | ⟨h1, h2, _⟩ <;> omega
      · exact ⟨9, h, by omega, by omega⟩
    obtain ⟨k, hk0, hk1, hk2⟩ := hk
    rw [hk0, ht]
    have hq : k = 3 ∨ k = 4 ∨ k = 5 ∨ k = 6 ∨ k = 7 ∨ k = 8 ∨ k = 9 ∨ k = 10 := by omega
    dsimp only [Option.bind_some]
    have hf := hfin _ rfl
    rcases hq with rfl | rfl | rfl | rfl | rfl | rfl | rfl | rfl
    · rw [if_neg (by decide), if_neg (by decide), if_neg (by decide), if_pos (by decide)]; exact hf
    · rw [if_neg (by decide), if_neg (by decide), if_neg (by decide), if_neg (by decide), if_pos (by decide)]; exact hf
    · rw [if_neg (by decide), if_neg (by decide), if_neg (by decide), if_neg (by decide), if_neg (by decide), if_pos (by decide)]; exact hf
    · rw [if_neg (by decide), if_neg (by decide), if_neg (by decide), if_neg (by decide), if_neg (by decide), if_neg (by decide), if_pos (by decide)]; exact hf
    · rw [if_neg (by decide), if_neg (by decide), if_neg (by decide), if_neg (by decide), if_neg (by decide), if_neg (by decide), if_neg (by decide), if_pos (by decide)]; exact hf
    · rw [if_neg (by decide), if_neg (by decide), if_neg (by decide), if_neg (by decide), if_neg (by decide), if_neg (by decide), if_neg (by decide), if_neg (by decide), if_pos (by decide)]; exact hf
    · rw [if_neg (by decide), if_neg (by decide), if_neg (by decide), if_neg (by decide), if_neg (by decide), if_neg (by decide), if_neg (by decide), if_neg (by decide), if_neg (by decide), if_pos (by decide)]; exact hf
    · rw [if_neg (by decide), if_neg (by decide), if_neg (by decide), if_neg (by decide), if_neg (by decide), if_neg (by decide), if_neg (by decide), if_neg (by decide), if_neg (by decide), if_neg (by decide), if_pos (by decide)]; exact hf
end
end ZIT2

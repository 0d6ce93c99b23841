/-! THE REFERENCE'S NEEDS -/
section ZND
def NdK (X X1 : zX) (b f m : Nat) : Prop := LN X1 ∧ X1.1 4 = X.1 4 ∧ SKa b X X1 ∧ (∀ i, 3 < i → i < 16 ∨ 23 < i → X1.2.2 i = X.2.2 i) ∧ (∀ j, j ≠ 24 * b + f → cv X1 16 j = cv X 16 j) ∧ ∀ i j, 17 ≤ i → i ≤ 23 → j ≠ 4 * (24 * b + f) + m → cv X1 i j = cv X i j
section
variable {n : Nat} {X X1 X2 : zX} {b f c m : Nat} {T : List Int32} {fk : Int32} {ts : List Tk} {nd : List (Tk × Tk)} {l1 l2 l3 : Int32}
theorem NdK_T (h1 : NdK X X1 b f m) (h2 : NdK X1 X2 b f m) : NdK X X2 b f m := ⟨h2.1, h2.2.1.trans h1.2.1, SKa_tr h1.2.2.1 h2.2.2.1, fun i a c => (h2.2.2.2.1 i a c).trans (h1.2.2.2.1 i a c), fun j a => (h2.2.2.2.2.1 j a).trans (h1.2.2.2.2.1 j a), fun i j a c d => (h2.2.2.2.2.2 i j a c d).trans (h1.2.2.2.2.2 i j a c d)⟩
theorem NdK_arr (hL : LN X1) (h4 : X1.1 4 = X.1 4) (e : X1.2.2 = X.2.2) : NdK X X1 b f m := ⟨hL, h4, SKa_of (by rw [e]) (by rw [e]) (by rw [e]), fun _ _ _ => by rw [e], fun _ _ => cv_of (by rw [e]), fun _ _ _ _ _ => cv_of (by rw [e])⟩
theorem NdK_nx (hL : LN X) (e : g190 n X = some ((), X1)) : NdK X X1 b f m := NdK_arr (LN_of hL (w190 e)) ((w190 e).1 4 rfl) (nx_arr e)
theorem NdK_sl (hL : LN X1) (h4 : X1.1 = X.1) (hs : SKa b X X1) (e : ∀ i, i ≠ 1 → i ≠ 2 → i ≠ 3 → X1.2.2 i = X.2.2 i) : NdK X X1 b f m := ⟨hL, by rw [h4], hs, fun i a _ => e i (by omega) (by omega) (by omega), fun _ _ => cv_of (e 16 (by omega) (by omega) (by omega)), fun i _ a _ _ => cv_of (e i (by omega) (by omega) (by omega))⟩
theorem NdK_u {i j : Nat} {v : Int32} (hL : LN X) (h : i = 16 ∧ j = 24 * b + f ∨ (17 ≤ i ∧ i ≤ 23) ∧ j = 4 * (24 * b + f) + m) : NdK X (up X i j v) b f m :=
  ⟨LN_up hL, rfl, SKa_up (by omega) (by omega) (by omega), fun i' h1 h2 => up_row (by omega), fun j' hj => cv_ne (by omega), fun i' j' h1 h2 hj => cv_ne (by omega)⟩
theorem wst4 {α : Type} {F : zX → Option α} {R : Option α} {J v : Int32} {i j : Nat} (hi : 17 ≤ i ∧ i ≤ 24) (hL : LN X) (h4 : X.1 4 = nI b) (hb : b ≤ 1) (hf : f < 24) (hj : j < 4) (hJ : J = nI (4 * (24 * b + f) + j)) (nx : F (up X i (4 * (24 * b + f) + j) v) = R) : (zgd (bkO (X.1 4) i J) ((wr X i J v).bind F)) = R := by
  have e : 96 * b + (4 * f + j) = 4 * (24 * b + f) + j := by omega
  have hh : i < 71 ∧ mH i = 96 ∧ mln i = 192 := by
    have : i = 17 ∨ i = 18 ∨ i = 19 ∨ i = 20 ∨ i = 21 ∨ i = 22 ∨ i = 23 ∨ i = 24 := by omega
    rcases this with rfl | rfl | rfl | rfl | rfl | rfl | rfl | rfl <;> exact ⟨by decide, rfl, rfl⟩
  exact wst 96 (4 * f + j) hL h4 hb hh.1 hh.2.1 (by decide) (by omega) hh.2.2 (by decide) (by rw [hJ, e]) (by rw [e]; exact nx)
theorem i4 {a i : Nat} : (4 : Int32) * nI a + nI i = nI (4 * a + i) := by
  rw [show (4 : Int32) = nI 4 from rfl, nI_mul, nI_add]
theorem nd128F {e : Er} {v : Int32} (h : RI X T fk (.inl e)) : gb233_128 n l1 l2 l3 v X = some ((), X) := by
  unfold gb233_128
  rw [ri_needF h]
  dsimp only [Option.bind_some]
  rw [if_neg (ri_flt h)]
theorem nd102F {e : Er} {v : Int32} (h : RI X T fk (.inl e)) (hn : 6002 ≤ n) : gb233_102 n l1 l2 v X = some ((), X) := by
  unfold gb233_102 gb233_123
  split
  · exact nd128F h
  · split
    · obtain ⟨bb, eb⟩ := name_any h hn
      rw [eb]
      dsimp only [Option.bind_some]
      split
      · exact nd128F h
      · exact nd128F h
    · exact nd128F h
theorem nd15F {e : Er} (h : RI X T fk (.inl e)) (hn : 6002 ≤ n) : gb233_15 n l1 X = some ((), X) := by
  obtain ⟨bb, eb⟩ := name_any h hn
  unfold gb233_15
  rw [ri_nextF h]
  dsimp only [Option.bind_some]
  rw [eb]
  dsimp only [Option.bind_some]
  rw [ri_needF h]
  dsimp only [Option.bind_some]
  rw [if_neg (ri_flt h)]
/-- the end of a need -/
theorem nd232 {v : Int32} (hL : LN X) (h4 : X.1 4 = nI b) (hb : b ≤ 1) (hf : f < 24) (hm : m < 4) (h16 : cv X 16 (24 * b + f) = nI m) (hR : RI X T fk (.inr ts)) (hn : 6002 ≤ n) : ∃ X1, gb233_232 n (nI (24 * b + f)) (nI (4 * (24 * b + f) + m)) l3 v (nI (4 * (24 * b + f) + m)) X = some ((), X1) ∧ RI X1 T fk (sEat 9 (adv ts)) ∧ LN X1 ∧ X1.1 4 = X.1 4 ∧ X1.2.2 = (up (up X 22 (4 * (24 * b + f) + m) v) 16 (24 * b + f) (nI (m + 1))).2.2 := by
  obtain ⟨X5, hX5⟩ : ∃ X5, X5 = up (up X 22 (4 * (24 * b + f) + m) v) 16 (24 * b + f) (nI (m + 1)) := ⟨_, rfl⟩
  have hR5 : RI X5 T fk (.inr ts) := by rw [hX5]; exact RI_up (RI_up hR (by decide)) (by decide)
  have hL5 : LN X5 := by rw [hX5]; exact LN_up (LN_up hL)
  obtain ⟨X6, n1, n2⟩ := ri_next hR5 hn
  obtain ⟨X7, m1, m2⟩ := ri_eat (n := n) (c := 59) (s := 9) rfl (by decide) n2 hn
  have hw := w208 m1
  refine ⟨X7, ?_, m2, LN_of (LN_of hL5 (w190 n1)) hw, by rw [hw.1 4 rfl, (w190 n1).1 4 rfl, hX5]; rfl, ?_⟩
  · unfold gb233_232
    refine wst4 (by omega) hL h4 hb hf hm rfl ?_
    refine rst (j := 24 * b + f) (LN_up hL) (by decide) (by show _ < 48; omega) (by omega) rfl ?_
    rw [cv_ne (Or.inl (by decide)), h16, nI_1]
    refine wst 24 f (LN_up hL) h4 hb (by decide) rfl (by decide) hf rfl (by decide) rfl ?_
    rw [← hX5, n1]
    dsimp only [Option.bind_some]
    rw [m1]
    rfl
  · rw [← hX5, ← nx_arr n1]
    exact funext fun i => hw.2.2.1 i (by simp)
/-- what is told of the value -/
theorem nd208 {num tk : Int32} (hL : LN X) (h4 : X.1 4 = nI b) (hb : b ≤ 1) (hf : f < 24) (hm : m < 4) (h16 : cv X 16 (24 * b + f) = nI m) (h20 : cv X 20 (4 * (24 * b + f) + m) = tk) (hc : cv X 1 b = nI c) (hc2 : c < 1500) (hR : RI X T fk (.inr ts)) (hb1 : (hd ts).1 ≠ 1) (ht : tk = 2 → (hd ts).1 = 2) (hn : 6002 ≤ n) : ∃ X1 v Y c1, gb233_208 n (nI (24 * b + f)) (nI (4 * (24 * b + f) + m)) l3 num (nI (4 * (24 * b + f) + m)) X = some ((), X1) ∧ RI X1 T fk (sEat 9 (adv ts)) ∧ LN X1 ∧ X1.1 4 = X.1 4 ∧ X1.2.2 = (up (up Y 22 (4 * (24 * b + f) + m) v) 16 (24 * b + f) (nI (m + 1))).2.2 ∧ Y.1 4 = X.1 4 ∧ SKa b X Y ∧ LN Y ∧ (∀ i, i ≠ 1 → i ≠ 2 → i ≠ 3 → Y.2.2 i = (up X 21 (4 * (24 * b + f) + m) num).2.2 i) ∧ cv Y 1 b = nI c1 ∧ c1 ≤ c + 1 ∧ (tk = 2 → SW Y b v (hd ts).2.2.1) := by
  have hR1 : RI (up X 21 (4 * (24 * b + f) + m) num) T fk (.inr ts) := RI_up hR (by decide)
  by_cases h2 : tk = 2
  · have hk := ht h2
    obtain ⟨Y, x1, x2, x3, x4, x5, x6, x7, x8⟩ := slot2 (n := n) hR1 (Or.inl ⟨hb1, by rw [hk]; rfl⟩) (LN_up hL) h4 hb (by rw [cv_ne (Or.inl (by decide))]; exact hc) hc2 hn
    obtain ⟨X1, z1, z2, z3, z4, z5⟩ := nd232 (n := n) (l3 := l3) (v := nI (1500 * b + c)) x6 (by rw [x7]; exact h4) hb hf hm (by rw [cv_of (x8 16 (by decide) (by decide) (by decide)), cv_ne (Or.inl (by decide))]; exact h16) x2 hn
    refine ⟨X1, _, Y, c + 1, ?_, z2, z3, z4.trans (by rw [x7]; rfl), z5, by rw [x7]; rfl, SKa_tr (SKa_up (by decide) (by decide) (by decide)) x4, x6, x8, x5, Nat.le_refl _, fun _ => x3⟩
    unfold gb233_208
    refine wst4 (by omega) hL h4 hb hf hm rfl ?_
    refine rst (j := 4 * (24 * b + f) + m) (LN_up hL) (by decide) (by show _ < 192; omega) (by omega) rfl ?_
    rw [cv_ne (Or.inl (by decide)), h20, if_pos h2, x1]
    exact z1
  · obtain ⟨X1, z1, z2, z3, z4, z5⟩ := nd232 (n := n) (l3 := l3) (v := 0) (LN_up (i := 21) (j := 4 * (24 * b + f) + m) (v := num) hL) h4 hb hf hm (by rw [cv_ne (Or.inl (by decide))]; exact h16) hR1 hn
    refine ⟨X1, _, _, c, ?_, z2, z3, z4, z5, rfl, SKa_up (by decide) (by decide) (by decide), LN_up hL, fun _ _ _ _ => rfl, by rw [cv_ne (Or.inl (by decide))]; exact hc, by omega, fun q => absurd q h2⟩
    unfold gb233_208
    refine wst4 (by omega) hL h4 hb hf hm rfl ?_
    refine rst (j := 4 * (24 * b + f) + m) (LN_up hL) (by decide) (by show _ < 192; omega) (by omega) rfl ?_
    rw [cv_ne (Or.inl (by decide)), h20, if_neg h2]
    exact z1
theorem nd128 {tk : Int32} (hL : LN X) (h4 : X.1 4 = nI b) (hb : b ≤ 1) (hf : f < 24) (hm : m < 4) (h16 : cv X 16 (24 * b + f) = nI m) (hc : cv X 1 b = nI c) (hc2 : c < 1500) (hR : RI X T fk (.inr ts)) (hb1 : (hd ts).1 ≠ 1) (h : l3 = 1 ∧ ((hd ts).1 = 33 ∨ (hd ts).1 = 34) ∨ l3 = 0 ∧ ((hd ts).1 = 3 ∨ (hd ts).1 = 2)) (hn : 6002 ≤ n) : ∃ X1, gb233_128 n (nI (24 * b + f)) (nI (4 * (24 * b + f) + m)) l3 1 X = some ((), X1) ∧ RI X1 T fk (sEat 9 (adv ts)) ∧ NdK X X1 b f m ∧ cv X1 16 (24 * b + f) = nI (m + 1) ∧ cv X1 17 (4 * (24 * b + f) + m) = cv X 17 (4 * (24 * b + f) + m) ∧ cv X1 18 (4 * (24 * b + f) + m) = cv X 18 (4 * (24 * b + f) + m) ∧ cv X1 23 (4 * (24 * b + f) + m) = nI (hd ts).2.1 ∧ NDV X1 b (4 * (24 * b + f) + m) (hd ts) ∧ ∃ c1, cv X1 1 b = nI c1 ∧ c1 ≤ c + 1 := by
  obtain ⟨a1, a2, a3, a4, a5, a6, a7⟩ := ri_hd hR hb1
  have hi1 : ∀ i, 17 ≤ i → i ≤ 23 → i < 71 ∧ 4 * (24 * b + f) + m < mln i := by
    intro i h1 h2
    have : i = 17 ∨ i = 18 ∨ i = 19 ∨ i = 20 ∨ i = 21 ∨ i = 22 ∨ i = 23 := by omega
    rcases this with rfl | rfl | rfl | rfl | rfl | rfl | rfl <;> exact ⟨by decide, by show _ < 192; omega⟩
  -- the token's kind and the number
  have key : ∀ (tk num : Int32), (∀ X2 : zX, RI X2 T fk (.inr ts) → X2 = up (up X 23 (4 * (24 * b + f) + m) (nI (hd ts).2.1)) 20 (4 * (24 * b + f) + m) tk → gb233_128 n (nI (24 * b + f)) (nI (4 * (24 * b + f) + m)) l3 1 X = gb233_208 n (nI (24 * b + f)) (nI (4 * (24 * b + f) + m)) l3 num (nI (4 * (24 * b + f) + m)) X2) → (tk = 2 → (hd ts).1 = 2) → (∀ X1 : zX, cv X1 20 (4 * (24 * b + f) + m) = tk → cv X1 21 (4 * (24 * b + f) + m) = num → (tk = 2 → SW X1 b (cv X1 22 (4 * (24 * b + f) + m)) (hd ts).2.2.1) → NDV X1 b (4 * (24 * b + f) + m) (hd ts)) → ∃ X1, gb233_128 n (nI (24 * b + f)) (nI (4 * (24 * b + f) + m)) l3 1 X = some ((), X1) ∧ RI X1 T fk (sEat 9 (adv ts)) ∧ NdK X X1 b f m ∧ cv X1 16 (24 * b + f) = nI (m + 1) ∧ cv X1 17 (4 * (24 * b + f) + m) = cv X 17 (4 * (24 * b + f) + m) ∧ cv X1 18 (4 * (24 * b + f) + m) = cv X 18 (4 * (24 * b + f) + m) ∧ cv X1 23 (4 * (24 * b + f) + m) = nI (hd ts).2.1 ∧ NDV X1 b (4 * (24 * b + f) + m) (hd ts) ∧ ∃ c1, cv X1 1 b = nI c1 ∧ c1 ≤ c + 1 := by
    intro tk num he ht hv
    obtain ⟨X2, hX2⟩ : ∃ X2, X2 = up (up X 23 (4 * (24 * b + f) + m) (nI (hd ts).2.1)) 20 (4 * (24 * b + f) + m) tk := ⟨_, rfl⟩
    have hR2 : RI X2 T fk (.inr ts) := by rw [hX2]; exact RI_up (RI_up hR (by decide)) (by decide)
    have hL2 : LN X2 := by rw [hX2]; exact LN_up (LN_up hL)
    have h42 : X2.1 4 = nI b := by rw [hX2]; exact h4
    obtain ⟨X1, v, Y, c1, y1, y2, y3, y4, y5, y0, y6, y7, y8, y9, y10, y11⟩ := nd208 (n := n) (l3 := l3) (num := num) (tk := tk) (c := c) hL2 h42 hb hf hm (by rw [hX2, cv_ne (Or.inl (by decide)), cv_ne (Or.inl (by decide))]; exact h16) (by rw [hX2, cv_eq (LN_up hL) (by decide) (hi1 20 (by omega) (by omega)).2]) (by rw [hX2, cv_ne (Or.inl (by decide)), cv_ne (Or.inl (by decide))]; exact hc) hc2 hR2 hb1 ht hn
    have hk2 : NdK X X2 b f m := by rw [hX2]; exact NdK_T (NdK_u hL (Or.inr ⟨by omega, rfl⟩)) (NdK_u (LN_up hL) (Or.inr ⟨by omega, rfl⟩))
    have hkY : NdK X2 Y b f m := by
      have h21 : NdK X2 (up X2 21 (4 * (24 * b + f) + m) num) b f m := NdK_u hL2 (Or.inr ⟨by omega, rfl⟩)
      have e : ∀ i, 3 < i → Y.2.2 i = (up X2 21 (4 * (24 * b + f) + m) num).2.2 i := fun i hi => y8 i (by omega) (by omega) (by omega)
      exact ⟨y7, y0, y6, fun i h1 h2 => (e i h1).trans (h21.2.2.2.1 i h1 h2), fun j hj => (cv_of (e 16 (by omega))).trans (h21.2.2.2.2.1 j hj), fun i j h1 h2 hj => (cv_of (e i (by omega))).trans (h21.2.2.2.2.2 i j h1 h2 hj)⟩
    have hkE : NdK Y (up (up Y 22 (4 * (24 * b + f) + m) v) 16 (24 * b + f) (nI (m + 1))) b f m := NdK_T (NdK_u y7 (Or.inr ⟨by omega, rfl⟩)) (NdK_u (LN_up y7) (Or.inl ⟨rfl, rfl⟩))
    have hkF : NdK (up (up Y 22 (4 * (24 * b + f) + m) v) 16 (24 * b + f) (nI (m + 1))) X1 b f m := NdK_arr y3 (y4.trans y0.symm) y5
    have e1 : ∀ i j, cv X1 i j = cv (up (up Y 22 (4 * (24 * b + f) + m) v) 16 (24 * b + f) (nI (m + 1))) i j := fun i j => cv_of (by rw [y5])
    have eY : ∀ i, 3 < i → cv Y i (4 * (24 * b + f) + m) = cv (up X2 21 (4 * (24 * b + f) + m) num) i (4 * (24 * b + f) + m) := fun i hi => cv_of (y8 i (by omega) (by omega) (by omega))
    refine ⟨X1, (he X2 hR2 hX2).trans y1, y2, NdK_T (NdK_T (NdK_T hk2 hkY) hkE) hkF, ?_, ?_, ?_, ?_, hv X1 ?_ ?_ (fun q => ?_), c1, ?_, y10⟩
    · rw [e1, cv_eq (LN_up y7) (by decide) (by show _ < 48; omega)]
    · rw [e1, cv_ne (Or.inl (by decide)), cv_ne (Or.inl (by decide)), eY 17 (by omega), cv_ne (Or.inl (by decide)), hX2, cv_ne (Or.inl (by decide)), cv_ne (Or.inl (by decide))]
    · rw [e1, cv_ne (Or.inl (by decide)), cv_ne (Or.inl (by decide)), eY 18 (by omega), cv_ne (Or.inl (by decide)), hX2, cv_ne (Or.inl (by decide)), cv_ne (Or.inl (by decide))]
    · rw [e1, cv_ne (Or.inl (by decide)), cv_ne (Or.inl (by decide)), eY 23 (by omega), cv_ne (Or.inl (by decide)), hX2, cv_ne (Or.inl (by decide)), cv_eq hL (by decide) (hi1 23 (by omega) (by omega)).2]
    · rw [e1, cv_ne (Or.inl (by decide)), cv_ne (Or.inl (by decide)), eY 20 (by omega), cv_ne (Or.inl (by decide)), hX2, cv_eq (LN_up hL) (by decide) (hi1 20 (by omega) (by omega)).2]
    · rw [e1, cv_ne (Or.inl (by decide)), cv_ne (Or.inl (by decide)), eY 21 (by omega), cv_eq hL2 (by decide) (hi1 21 (by omega) (by omega)).2]
    · rw [e1, cv_ne (Or.inl (by decide)), cv_eq y7 (by decide) (hi1 22 (by omega) (by omega)).2]
      exact SW_kp (y11 q) (SKa_tr hkE.2.2.1 hkF.2.2.1)
    · rw [e1, cv_ne (Or.inl (by decide)), cv_ne (Or.inl (by decide))]
      exact y9
  rcases h with ⟨h3, h33 | h34⟩ | ⟨h3, hnum | h2⟩
  · refine key 0 1 (fun X2 hR2 hX2 => ?_) (fun q => absurd q (by decide)) (fun X1 z1 z2 _ => Or.inl ⟨h33, z1, z2⟩)
    unfold gb233_128
    rw [need_1]
    dsimp only [Option.bind_some]
    rw [if_pos a1, a3]
    refine wst4 (by omega) hL h4 hb hf hm rfl ?_
    rw [if_neg (by rw [h3]; decide)]
    unfold gb233_176
    refine wst4 (by omega) (LN_up hL) h4 hb hf hm rfl ?_
    rw [if_neg (by rw [h3]; decide), ← hX2, isw_tok wk_83 hR2 hb1 hn]
    dsimp only [Option.bind_some]
    rw [show ((hd ts).1 == 33) = true by simpa using h33, if_neg (by decide)]
  · refine key 0 0 (fun X2 hR2 hX2 => ?_) (fun q => absurd q (by decide)) (fun X1 z1 z2 _ => Or.inr (Or.inl ⟨h34, z1, z2⟩))
    unfold gb233_128
    rw [need_1]
    dsimp only [Option.bind_some]
    rw [if_pos a1, a3]
    refine wst4 (by omega) hL h4 hb hf hm rfl ?_
    rw [if_neg (by rw [h3]; decide)]
    unfold gb233_176
    refine wst4 (by omega) (LN_up hL) h4 hb hf hm rfl ?_
    rw [if_neg (by rw [h3]; decide), ← hX2, isw_tok wk_83 hR2 hb1 hn]
    dsimp only [Option.bind_some]
    rw [show ((hd ts).1 == 33) = false by simp; omega, if_pos b2_f]
  · refine key 1 (hd ts).2.2.2 (fun X2 hR2 hX2 => ?_) (fun q => absurd q (by decide)) (fun X1 z1 z2 _ => Or.inr (Or.inr (Or.inl ⟨hnum, z1, z2⟩)))
    unfold gb233_128
    rw [need_1]
    dsimp only [Option.bind_some]
    rw [if_pos a1, a3]
    refine wst4 (by omega) hL h4 hb hf hm rfl ?_
    rw [if_pos h3, if_pos (by show X.1 69 = 2; rw [a4, hnum]; decide)]
    unfold gb233_176
    refine wst4 (by omega) (LN_up hL) h4 hb hf hm rfl ?_
    rw [if_pos h3, ← hX2, show X2.1 72 = (hd ts).2.2.2 by rw [hX2]; exact a5 hnum]
  · refine key 2 (X.1 72) (fun X2 hR2 hX2 => ?_) (fun _ => h2) (fun X1 z1 z2 z3 => Or.inr (Or.inr (Or.inr ⟨h2, z1, z3 rfl⟩)))
    unfold gb233_128
    rw [need_1]
    dsimp only [Option.bind_some]
    rw [if_pos a1, a3]
    refine wst4 (by omega) hL h4 hb hf hm rfl ?_
    rw [if_pos h3, if_neg (by show ¬ X.1 69 = 2; rw [a4]; exact kd_num (by omega))]
    unfold gb233_176
    refine wst4 (by omega) (LN_up hL) h4 hb hf hm rfl ?_
    rw [if_pos h3, ← hX2, show X2.1 72 = X.1 72 by rw [hX2]; rfl]
end
end ZND

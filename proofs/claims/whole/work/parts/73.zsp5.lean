/-! THE REFERENCE'S SPLITS: roll; readServe -/
section ZSP5
section
variable {n : Nat} {X X1 X2 : zX} {b f q c : Nat} {T : List Int32} {fk : Int32} {ts : List Tk} {k : Nat × List (List Int32)} {sh : List (Int32 × Int32)} {l1 l2 l3 l4 s0 nm sa : Int32}
theorem PO_up {α : Type} {tl : α → List Tk} {Q : α → Prop} {r : RR α} {i j : Nat} {v : Int32} (h : PO tl X1 T fk Q r) (hi : 0 ≠ i) : PO tl (up X1 i j v) T fk Q r := by
  cases r with
  | inl e => exact RI_up (r := .inl e) h hi
  | inr x =>
    have h : if (hd (tl x)).1 = 1 then RI X1 T fk (.inl (1, (hd (tl x)).2.1)) else RI X1 T fk (.inr (tl x)) ∧ Q x := h
    show if (hd (tl x)).1 = 1 then RI (up X1 i j v) T fk (.inl (1, (hd (tl x)).2.1)) else RI (up X1 i j v) T fk (.inr (tl x)) ∧ Q x
    split
    · rename_i hh; rw [if_pos hh] at h; exact RI_up h hi
    · rename_i hh; rw [if_neg hh] at h; exact ⟨RI_up h.1 hi, h.2⟩
theorem LpK_u {i j : Nat} {v : Int32} (hL : LN X) (h : i = 46 ∧ j = 100 * b + q ∨ (i = 47 ∨ i = 48) ∧ 8 * (100 * b + q) ≤ j ∧ j < 8 * (100 * b + q) + 8) : LpK X (up X i j v) b q := by
  refine ⟨rfl, LN_up hL, fun i' h1 h2 h3 => up_row (by omega), fun j' hj => ?_, fun i' j' h1 h2 => ?_⟩
  · exact cv_ne (by omega)
  · exact cv_ne (by omega)
theorem s109b (hL : LN X) (h4 : X.1 4 = nI b) (hb : b ≤ 1) (hf : f < 24) (hq : q < 100) (hK : KND X b f k) (hR : RI X T fk (.inr ts)) (h42 : cv X 42 b = nI q) (hn : 6002 ≤ n) : ∃ v X1, gb230_109 n (nI (24 * b + f)) 1 l3 nm sa X = some (v, X1) ∧ PO (fun x : List (Int32 × Int32) × List Tk => x.2) X1 T fk (fun x => v = nI q ∧ 1 ≤ x.1.length ∧ x.1.length ≤ 8 ∧ SHc X1 b q x.1 ∧ SpK X X1 b q nm sa) (rb (sVal k (adv ts)) fun x => rb (sEat 28 x.2) fun ts => rb (sVal k ts) fun y => .inr ([(l3, x.1), (10000 - l3, y.1)], y.2)) := by
  obtain ⟨X1, n1, n2⟩ := ri_next hR hn
  have hw := w190 n1
  have hL1 := LN_of hL hw
  have h41 : X1.1 4 = nI b := by rw [hw.1 4 rfl]; exact h4
  have h421 : cv X1 42 b = nI q := by rw [cv_of (hw.2.2.1 42 rfl)]; exact h42
  have hk1 : LpK X X1 b q := LpK_nx hL n1
  unfold gb230_109
  rw [n1]
  dsimp only [Option.bind_some]
  by_cases hb1 : (hd (adv ts)).1 = 1
  · have h' := (ri_brk n2 hb1).1
    rw [if_neg (ri_flt h'), sVal_brk _ hb1]
    exact ⟨_, X1, rfl, h'⟩
  · rw [if_pos (ri_hd n2 hb1).1]
    obtain ⟨X4, hX4⟩ : ∃ X4, X4 = up (up (up (sX X1 b q 1 nm sa) 46 (100 * b + q) 2) 47 (8 * (100 * b + q) + 0) l3) 47 (8 * (100 * b + q) + 1) (10000 - l3) := ⟨_, rfl⟩
    obtain ⟨s1, s2⟩ := sX_K (l2 := 1) (nm := nm) (sa := sa) hL1 hb hq
    have hLs := sX_LN (b := b) (q := q) (l2 := 1) (nm := nm) (sa := sa) hL1
    have hk4 : LpK (sX X1 b q 1 nm sa) X4 b q := by
      rw [hX4]
      exact LpK_T (LpK_T (LpK_u hLs (Or.inl ⟨rfl, rfl⟩)) (LpK_u (LN_up hLs) (Or.inr ⟨Or.inl rfl, by omega, by omega⟩))) (LpK_u (LN_up (LN_up hLs)) (Or.inr ⟨Or.inl rfl, by omega, by omega⟩))
    have hL4 := hk4.2.1
    have h44 : X4.1 4 = nI b := hk4.1.trans h41
    have hR4 : RI X4 T fk (.inr (adv ts)) := by
      rw [hX4]
      exact RI_up (RI_up (RI_up (sX_RI n2) (by decide)) (by decide)) (by decide)
    have hK4 : KND X4 b f k := KND_LpK (KND_kp (nf := f + 1) (ns := 0) (nl := 0) (nr := 0) (ni := 0) (nv := 0) (KND_LpK hK hk1) (SpK_kp s1) (by omega)) hk4
    obtain ⟨v1, X5, y1, y2⟩ := val_ok (n := n) hR4 hb1 hL4 hb hf hK4 hn
    have hk5 : LpK X4 X5 b q := LpK_w hL4 (w232 y1) ((w232 y1).1 4 rfl)
    have e5 : X5.2.2 = X4.2.2 := funext fun i => (w232 y1).2.2.1 i (by simp)
    obtain ⟨X6, hX6⟩ : ∃ X6, X6 = up X5 48 (8 * (100 * b + q) + 0) v1 := ⟨_, rfl⟩
    have hk6 : LpK X5 X6 b q := by rw [hX6]; exact LpK_u hk5.2.1 (Or.inr ⟨Or.inr rfl, by omega, by omega⟩)
    have h46 : X6.1 4 = nI b := hk6.1.trans (hk5.1.trans h44)
    have hL6 := hk6.2.1
    -- the equation up to the second value
    have hch : ∀ {R : Option (Int32 × zX)}, ((g228 n 81 X6).bind fun p50 => if (p50.2.1 73) = (-1) then (g232 n (nI (24 * b + f)) p50.2).bind fun p54 => gb230_285 n (nI (24 * b + f)) 1 l3 nm sa (nI q) (nI (100 * b + q)) p54.1 (8 * nI (100 * b + q) + 1) p54.2 else gb230_285 n (nI (24 * b + f)) 1 l3 nm sa (nI q) (nI (100 * b + q)) 0 (8 * nI (100 * b + q) + 1) p50.2) = R → ((rd (X1.2.2 42) (X1.1 4)).bind fun x5 =>
    (rd (X1.2.2 42) (X1.1 4)).bind fun x8 =>
    zgd (bkO (X1.1 4) 42 (X1.1 4)) <|
    (wr X1 42 (X1.1 4) (x8 + 1)).bind fun X10 =>
    zgd (bkO (X10.1 4) 43 ((100 * (X1.1 4)) + x5)) <|
    (wr X10 43 ((100 * (X1.1 4)) + x5) (1 &&& 1)).bind fun X14 =>
    zgd (bkO (X14.1 4) 44 ((100 * (X1.1 4)) + x5)) <|
    (wr X14 44 ((100 * (X1.1 4)) + x5) nm).bind fun X18 =>
    zgd (bkO (X18.1 4) 45 ((100 * (X1.1 4)) + x5)) <|
    (wr X18 45 ((100 * (X1.1 4)) + x5) sa).bind fun X22 =>
    zgd (bkO (X22.1 4) 46 ((100 * (X1.1 4)) + x5)) <|
    (wr X22 46 ((100 * (X1.1 4)) + x5) 0).bind fun X26 =>
    if (1 : Int32) = 0 then
      (g208 n 40 X26).bind fun p30 =>
      gf230_301 n  n (nI (24 * b + f)) 1 l3 nm sa x5 ((100 * (X1.1 4)) + x5) 0 1 p30.2
    else
      zgd (bkO (X26.1 4) 46 ((100 * (X1.1 4)) + x5)) <|
      (wr X26 46 ((100 * (X1.1 4)) + x5) 2).bind fun X33 =>
      zgd (bkO (X33.1 4) 47 (8 * ((100 * (X1.1 4)) + x5))) <|
      (wr X33 47 (8 * ((100 * (X1.1 4)) + x5)) l3).bind fun X37 =>
      zgd (bkO (X37.1 4) 47 ((8 * ((100 * (X1.1 4)) + x5)) + 1)) <|
      (wr X37 47 ((8 * ((100 * (X1.1 4)) + x5)) + 1) (10000 - l3)).bind fun X41 =>
      (g232 n (nI (24 * b + f)) X41).bind fun p45 =>
      zgd (bkO (p45.2.1 4) 48 (8 * ((100 * (X1.1 4)) + x5))) <|
      (wr p45.2 48 (8 * ((100 * (X1.1 4)) + x5)) p45.1).bind fun X47 =>
      (g228 n 81 X47).bind fun p50 =>
      if (p50.2.1 73) = (-1) then
        (g232 n (nI (24 * b + f)) p50.2).bind fun p54 =>
        gb230_285 n  (nI (24 * b + f)) 1 l3 nm sa x5 ((100 * (X1.1 4)) + x5) p54.1 ((8 * ((100 * (X1.1 4)) + x5)) + 1) p54.2
      else
        gb230_285 n  (nI (24 * b + f)) 1 l3 nm sa x5 ((100 * (X1.1 4)) + x5) 0 ((8 * ((100 * (X1.1 4)) + x5)) + 1) p50.2) = R := by
      intro R hfin
      have hm : b < mln 42 := by show b < 2; omega
      refine rst (j := b) hL1 (by decide) hm (by omega) h41 ?_
      rw [h421]
      refine rst (j := b) hL1 (by decide) hm (by omega) h41 ?_
      rw [h421, nI_1]
      refine wst1 hL1 h41 hb (by decide) rfl rfl h41 ?_
      refine wst 100 q (LN_up hL1) h41 hb (by decide) rfl (by decide) hq rfl (by decide) (i100 h41) ?_
      refine wst 100 q (LN_up (LN_up hL1)) h41 hb (by decide) rfl (by decide) hq rfl (by decide) (i100 h41) ?_
      refine wst 100 q (LN_up (LN_up (LN_up hL1))) h41 hb (by decide) rfl (by decide) hq rfl (by decide) (i100 h41) ?_
      refine wst 100 q (LN_up (LN_up (LN_up (LN_up hL1)))) h41 hb (by decide) rfl (by decide) hq rfl (by decide) (i100 h41) ?_
      rw [if_neg (by decide), i100 h41]
      refine wst 100 q hLs h41 hb (by decide) rfl (by decide) hq rfl (by decide) rfl ?_
      refine wst8 (j := 0) (LN_up hLs) h41 hb (Or.inl rfl) hq (by omega) (by rw [show (8 : Int32) = nI 8 from rfl, nI_mul]; rfl) ?_
      refine wst8 (j := 1) (LN_up (LN_up hLs)) h41 hb (Or.inl rfl) hq (by omega) (i8 (i := 1)) ?_
      have y1' := y1
      rw [hX4] at y1'
      refine (congrArg (fun z => Option.bind z _) y1').trans ?_
      refine wst8 (j := 0) hk5.2.1 (hk5.1.trans h44) hb (Or.inr rfl) hq (by omega) (by rw [show (8 : Int32) = nI 8 from rfl, nI_mul]; rfl) ?_
      rw [← hX6]
      exact hfin
    have h285 : ∀ {X8 : zX} {v : Int32}, LN X8 → X8.1 4 = nI b → gb230_285 n (nI (24 * b + f)) 1 l3 nm sa (nI q) (nI (100 * b + q)) v (8 * nI (100 * b + q) + 1) X8 = some (nI q, up X8 48 (8 * (100 * b + q) + 1) v) := by
      intro X8 v g1 g2
      unfold gb230_285
      exact wst8 (j := 1) g1 g2 hb (Or.inr rfl) hq (by omega) (i8 (i := 1)) rfl
    rcases po_el (f := fun x : Int32 × List Tk => rb (sEat 28 x.2) fun ts => rb (sVal k ts) fun y => (.inr ([(l3, x.1), (10000 - l3, y.1)], y.2) : RR (List (Int32 × Int32) × List Tk))) y2 (fun x hx => Brk_rb (f := sEat 28) (g := fun ts => rb (sVal k ts) fun y => (.inr ([(l3, x.1), (10000 - l3, y.1)], y.2) : RR (List (Int32 × Int32) × List Tk))) (sEat_brk (by decide)) x.2 hx) with ⟨e, z1, z2⟩ | ⟨x, z0, z1, z2, z3, z4⟩
    · rw [z2]
      obtain ⟨X7, m1, m2⟩ := ri_eatW (n := n) wk_81 (show RI X6 T fk (.inl e) by rw [hX6]; exact RI_up z1 (by decide)) hn
      have m2 : RI X7 T fk (.inl e) := m2
      refine ⟨nI q, up X7 48 (8 * (100 * b + q) + 1) 0, hch ?_, RI_up (r := .inl e) m2 (by decide)⟩
      rw [m1]
      dsimp only [Option.bind_some]
      rw [if_neg (ri_flt m2)]
      exact h285 (LN_of hL6 (w228 m1)) (by rw [(w228 m1).1 4 rfl]; exact h46)
    · rw [z4]
      obtain ⟨v3, ts4⟩ := x
      dsimp only at z1 z2 z3 ⊢
      subst z3
      obtain ⟨X7, m1, m2⟩ := ri_eatW (n := n) wk_81 (show RI X6 T fk (.inr ts4) by rw [hX6]; exact RI_up z2 (by decide)) hn
      have m2 : RI X7 T fk (sEat 28 ts4) := m2
      have hk7 : LpK X6 X7 b q := LpK_w hL6 (w228 m1) ((w228 m1).1 4 rfl)
      have h47 : X7.1 4 = nI b := hk7.1.trans h46
      have e7 : X7.2.2 = X6.2.2 := funext fun i => (w228 m1).2.2.1 i (by simp)
      rcases ri_el (f := fun ts => rb (sVal k ts) fun y => (.inr ([(l3, v1), (10000 - l3, y.1)], y.2) : RR (List (Int32 × Int32) × List Tk))) m2 (Brk_rb sVal_brk) with ⟨e, w1, w2⟩ | ⟨ts5, w0, w1, w2, w3⟩
      · rw [w2]
        refine ⟨nI q, up X7 48 (8 * (100 * b + q) + 1) 0, hch ?_, RI_up (r := .inl e) w1 (by decide)⟩
        rw [m1]
        dsimp only [Option.bind_some]
        rw [if_neg (ri_flt w1)]
        exact h285 hk7.2.1 h47
      · rw [w3]
        have hK7 : KND X7 b f k := KND_LpK (KND_LpK (KND_LpK hK4 hk5) hk6) hk7
        obtain ⟨v2, X8, g1, g2⟩ := val_ok (n := n) w2 w1 hk7.2.1 hb hf hK7 hn
        have hk8 : LpK X7 X8 b q := LpK_w hk7.2.1 (w232 g1) ((w232 g1).1 4 rfl)
        have e8 : X8.2.2 = X7.2.2 := funext fun i => (w232 g1).2.2.1 i (by simp)
        refine ⟨nI q, up X8 48 (8 * (100 * b + q) + 1) v2, hch ?_, PO_map (g := fun y : Int32 × List Tk => ([(l3, v1), (10000 - l3, y.1)], y.2)) (PO_up g2 (by decide)) (fun _ => rfl) (fun y _ hy => ?_)⟩
        · rw [m1]
          dsimp only [Option.bind_some]
          rw [if_pos (ri_hd w2 w1).1, g1]
          exact h285 hk8.2.1 (hk8.1.trans h47)
        · have hy : v2 = y.1 := hy
          have hk9 : LpK X8 (up X8 48 (8 * (100 * b + q) + 1) v2) b q := LpK_u hk8.2.1 (Or.inr ⟨Or.inr rfl, by omega, by omega⟩)
          have hkk : LpK (sX X1 b q 1 nm sa) (up X8 48 (8 * (100 * b + q) + 1) v2) b q := LpK_T (LpK_T (LpK_T (LpK_T (LpK_T hk4 hk5) hk6) hk7) hk8) hk9
          refine ⟨rfl, Nat.le_succ 1, by show 2 ≤ 8; omega, ⟨?_, ?_⟩, ?_⟩
          · show _ = nI 2
            rw [cv_ne (Or.inl (by decide)), cv_of (show X8.2.2 46 = X6.2.2 46 by rw [e8, e7]), hX6, cv_ne (Or.inl (by decide)), cv_of (show X5.2.2 46 = X4.2.2 46 by rw [e5]), hX4, cv_ne (Or.inl (by decide)), cv_ne (Or.inl (by decide)), cv_eq hLs (by decide) (by show _ < 200; omega)]
            rfl
          · have h70 : cv (up X8 48 (8 * (100 * b + q) + 1) v2) 47 (8 * (100 * b + q) + 0) = l3 := by
              rw [cv_ne (Or.inl (by decide)), cv_of (show X8.2.2 47 = X6.2.2 47 by rw [e8, e7]), hX6, cv_ne (Or.inl (by decide)), cv_of (show X5.2.2 47 = X4.2.2 47 by rw [e5]), hX4, cv_ne (Or.inr (by omega)), cv_eq (LN_up hLs) (by decide) (by show _ < 1600; omega)]
            have h71 : cv (up X8 48 (8 * (100 * b + q) + 1) v2) 47 (8 * (100 * b + q) + 1) = 10000 - l3 := by
              rw [cv_ne (Or.inl (by decide)), cv_of (show X8.2.2 47 = X6.2.2 47 by rw [e8, e7]), hX6, cv_ne (Or.inl (by decide)), cv_of (show X5.2.2 47 = X4.2.2 47 by rw [e5]), hX4, cv_eq (LN_up (LN_up hLs)) (by decide) (by show _ < 1600; omega)]
            have h80 : cv (up X8 48 (8 * (100 * b + q) + 1) v2) 48 (8 * (100 * b + q) + 0) = v1 := by
              rw [cv_ne (Or.inr (by omega)), cv_of (show X8.2.2 48 = X6.2.2 48 by rw [e8, e7]), hX6, cv_eq hk5.2.1 (by decide) (by show _ < 1600; omega)]
            have h81 : cv (up X8 48 (8 * (100 * b + q) + 1) v2) 48 (8 * (100 * b + q) + 1) = v2 := cv_eq hk8.2.1 (by decide) (by show _ < 1600; omega)
            intro i x hx
            rcases i with _ | _ | i
            · have hx : some ((l3, v1) : Int32 × Int32) = some x := hx
              rw [← Option.some.inj hx]
              exact ⟨h70, h80⟩
            · have hx : some ((10000 - l3, y.1) : Int32 × Int32) = some x := hx
              rw [← Option.some.inj hx]
              exact ⟨h71, h81.trans hy⟩
            · have hx : (none : Option (Int32 × Int32)) = some x := hx
              cases hx
          · obtain ⟨g1, g2, g3, g4, g5, g6, g7, g8⟩ := SpK_Lp s1 hkk
            exact ⟨g1, g2.trans hk1.1, fun i hi => (g3 i hi).trans (hk1.2.2.1 i (by omega) (by omega) (by omega)), g4, g5, g6, fun i j a1 a2 a3 => (g7 i j a1 a2 a3).trans (cv_of (by rw [nx_arr n1])), fun i j a1 a2 => (g8 i j a1 a2).trans (cv_of (by rw [nx_arr n1]))⟩
end
end ZSP5

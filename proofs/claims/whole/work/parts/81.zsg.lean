/-! THE REFERENCE'S SEGMENTS -/
section ZSG
def sgT (n : Nat) (v : Int32) (X : zX) : Option (Unit × zX) :=
  (g208 n 61 X).bind fun p9 =>
  (rd (p9.2.2.2 58) (p9.2.1 4)).bind fun x12 =>
  (g210 n  p9.2).bind fun p14 =>
  if (p14.2.1 73) = (-1) then
    (rd (p14.2.2.2 4) (p14.2.1 4)).bind fun x18 =>
    zgd (bkO (p14.2.1 4) 5 ((12 * (p14.2.1 4)) + x18)) <|
    (wr p14.2 5 ((12 * (p14.2.1 4)) + x18) v).bind fun X21 =>
    zgd (bkO (X21.1 4) 6 ((12 * (p14.2.1 4)) + x18)) <|
    (wr X21 6 ((12 * (p14.2.1 4)) + x18) p14.1).bind fun X25 =>
    zgd (bkO (X25.1 4) 7 ((12 * (p14.2.1 4)) + x18)) <|
    (wr X25 7 ((12 * (p14.2.1 4)) + x18) x12).bind fun X29 =>
    (rd (X29.2.2 58) (X29.1 4)).bind fun x34 =>
    zgd (bkO (X29.1 4) 8 ((12 * (p14.2.1 4)) + x18)) <|
    (wr X29 8 ((12 * (p14.2.1 4)) + x18) x34).bind fun X36 =>
    (rd (X36.2.2 4) (X36.1 4)).bind fun x40 =>
    zgd (bkO (X36.1 4) 4 (X36.1 4)) <|
    (wr X36 4 (X36.1 4) (x40 + 1)).bind fun X42 =>
    gb201_149 n  v x12 p14.1 X42
  else
    gb201_149 n  v x12 p14.1 p14.2
def gX (X : zX) (b m : Nat) (v c fr to : Int32) : zX := up (up (up (up (up X 5 (12 * b + m) v) 6 (12 * b + m) c) 7 (12 * b + m) fr) 8 (12 * b + m) to) 4 b (nI (m + 1))
section
variable {n : Nat} {X X1 X2 : zX} {b f c m nv nv' cb cb' nq nr E p : Nat} {T : List Int32} {fk : Int32} {ts : List Tk} {r : RR (List Tk)} {P : Pln} {D D1 : List Pd} {φ : Den} {k : Nat × List (List Int32)} {v l1 l2 l3 : Int32} {w : List Int32}
theorem sg149 (h : RI X T fk r) (hn : 6002 ≤ n) : ∃ X1, gb201_149 n l1 l2 l3 X = some ((), X1) ∧ RI X1 T fk (rb r (sEat 9)) ∧ X1.2.2 = X.2.2 ∧ X1.1 4 = X.1 4 := by
  obtain ⟨X1, e1, e2, e3, e4⟩ := ri_eat2 (n := n) (c := 59) (s := 9) rfl (by decide) h hn
  exact ⟨X1, by unfold gb201_149; rw [e1]; rfl, e2, e3, e4⟩
theorem sgTF {e : Er} (h : RI X T fk (.inl e)) (hL : LN X) (h4 : X.1 4 = nI b) (hb : b ≤ 1) (hn : 6002 ≤ n) : ∃ X1, sgT n v X = some ((), X1) ∧ RI X1 T fk (.inl e) := by
  obtain ⟨X1, e1, e2, e3, e4⟩ := ri_eat2 (n := n) (c := 61) (s := 12) rfl (by decide) h hn
  have hL1 : LN X1 := fun i hi => by rw [e3]; exact hL i hi
  have e2 : RI X1 T fk (.inl e) := e2
  obtain ⟨X2, f1, f2⟩ := exp_flt hL1 e2 hn
  obtain ⟨X3, g1, g2, _⟩ := sg149 (n := n) (l1 := v) (l2 := cv X1 58 b) (l3 := -1) f2 hn
  refine ⟨X3, ?_, g2⟩
  unfold sgT
  rw [e1]
  dsimp only [Option.bind_some]
  refine rst (j := b) hL1 (by decide) (by show _ < 2; omega) (by omega) (e4.trans h4) ?_
  rw [f1]
  dsimp only [Option.bind_some]
  rw [if_neg (ri_flt f2)]
  exact g1
theorem i12 {k : Nat} {a : Int32} (h4 : X.1 4 = nI b) (ha : a = nI k) : a * X.1 4 = nI (k * b) := by rw [h4, ha, nI_mul]
theorem i12a {k q : Nat} {a : Int32} (h4 : X.1 4 = nI b) (ha : a = nI k) : a * X.1 4 + nI q = nI (k * b + q) := by rw [h4, ha, nI_mul, nI_add]
theorem gX_fin {fr to : Nat} (h : RP X b P D nv cb) (hm : P.1.length < 12) (hw : SW X b v w) (hx : EX X b P.1.length cb P.2.2.2.2.2.2 D fr to c φ) : RP (gX X b P.1.length v (nI c) (nI fr) (nI to)) b (P.1 ++ [(w, φ)], P.2) D nv cb := by
  obtain ⟨c1, c2, c3, c4, ⟨cc, c5, c6⟩, c7, c8, c9⟩ := RP_b h
  have hL := c1
  have hk : KP X (gX X b P.1.length v (nI c) (nI fr) (nI to)) b (cnP P nv) := by
    refine KP_T (KP_T (KP_T (KP_T (KP_up (by decide) ?_) (KP_up (by decide) ?_)) (KP_up (by decide) ?_)) (KP_up (by decide) ?_)) (KP_up (by decide) ?_)
    · exact Or.inl (Nat.le_refl _)
    · exact Or.inl (Nat.le_refl _)
    · exact Or.inl (Nat.le_refl _)
    · exact Or.inl (Nat.le_refl _)
    · exact Or.inl (show 1 * b + 0 ≤ b by omega)
  have hrow : ∀ i, i < 4 ∨ 8 < i → (gX X b P.1.length v (nI c) (nI fr) (nI to)).2.2 i = X.2.2 i := fun i hi => by
    unfold gX
    rw [up_row (by omega), up_row (by omega), up_row (by omega), up_row (by omega), up_row (by omega)]
  have hI : ∀ fm D0, Inv X b P.1.length fm cb [] D0 P.2.2.2.2.2.2 [] [] [] → Inv (gX X b P.1.length v (nI c) (nI fr) (nI to)) b (P.1.length + 1) fm cb [] (D0 ++ []) P.2.2.2.2.2.2 [] [] [] := fun fm D0 hI => by
    rw [List.append_nil]
    exact Inv_tr hI (LN_up (LN_up (LN_up (LN_up (LN_up c1))))) rfl (fun i h1 h2 => hrow i (by omega)) hk.1 ⟨cc, by rw [cv_of (hrow 1 (by omega))]; exact c5, c6⟩ c8 (by omega)
  have hl : (P.1 ++ [(w, φ)]).length = P.1.length + 1 := by rw [List.length_append]; rfl
  have := RP_g (X1 := gX X b P.1.length v (nI c) (nI fr) (nI to)) (cb' := cb) (nv' := nv) (D' := []) (P' := (P.1 ++ [(w, φ)], P.2)) h hk ⟨?_, ?_, ?_⟩ ⟨by rw [cv_of (hrow 9 (by omega))]; exact h.2.1.1, h.2.1.2.1, fun _ _ q => Or.inl q⟩ ⟨by rw [cv_of (hrow 25 (by omega))]; exact h.2.2.1.1, h.2.2.1.2.1, fun _ _ q => Or.inl q⟩ ⟨by rw [cv_of (hrow 28 (by omega))]; exact h.2.2.2.1.1, h.2.2.2.1.2.1, fun _ _ q => Or.inl q⟩ ⟨by rw [cv_of (hrow 35 (by omega))]; exact h.2.2.2.2.1.1, h.2.2.2.2.1.2.1, fun _ _ q => Or.inl q⟩ ⟨by rw [cv_of (hrow 39 (by omega))]; exact h.2.2.2.2.2.1, Nat.le_refl _⟩ ⟨SPS_kp h.2.2.2.2.2.2.1 hk (cv_of (hrow 42 (by omega))), Nat.le_refl _⟩ (fun fm D0 q => by have := hI fm D0 q; rw [← hl] at this; exact this)
  · rw [List.append_nil] at this
    exact this
  · show cv _ 4 b = nI (P.1 ++ [(w, φ)]).length
    rw [hl]
    unfold gX
    rw [cv_eq (LN_up (LN_up (LN_up (LN_up c1)))) (by decide) (by show _ < 2; omega)]
  · show (P.1 ++ [(w, φ)]).length ≤ 12
    omega
  · intro j s hj
    rcases get_app hj with hj | ⟨hz, hj⟩
    · exact Or.inl hj
    · right
      rw [hz, hj]
      show SGR _ b (P.1 ++ [(w, φ)]).length cb _ _ _ _
      rw [hl]
      refine ⟨?_, c, fr, to, ?_, ?_, ?_, EX_g hx hI⟩
      · unfold gX
        rw [cv_ne (Or.inl (by decide)), cv_ne (Or.inl (by decide)), cv_ne (Or.inl (by decide)), cv_ne (Or.inl (by decide)), cv_eq c1 (by decide) (by show _ < 24; omega)]
        exact SW_kp hw hk.1
      · unfold gX
        rw [cv_ne (Or.inl (by decide)), cv_ne (Or.inl (by decide)), cv_ne (Or.inl (by decide)), cv_eq (LN_up c1) (by decide) (by show _ < 24; omega)]
      · unfold gX
        rw [cv_ne (Or.inl (by decide)), cv_ne (Or.inl (by decide)), cv_eq (LN_up (LN_up c1)) (by decide) (by show _ < 24; omega)]
      · unfold gX
        rw [cv_ne (Or.inl (by decide)), cv_eq (LN_up (LN_up (LN_up c1))) (by decide) (by show _ < 24; omega)]
theorem gX_RI {a c2 c3 : Int32} (h : RI X T fk r) : RI (gX X b m v a c2 c3) T fk r := RI_up (RI_up (RI_up (RI_up (RI_up h (by decide)) (by decide)) (by decide)) (by decide)) (by decide)
theorem sgT_ok (h : RP X b P D nv cb) (hm : P.1.length < 12) (hw : SW X b v w) (hR : RI X T fk (.inr ts)) (hn : 6002 ≤ n) : ∃ X1, sgT n v X = some ((), X1) ∧ PO (fun x : Pln × List Tk => x.2) X1 T fk (fun x => ∃ D1, RP X1 b x.1 (D ++ D1) nv cb) (rb (sEat 12 ts) fun ts => rb (sExp (P.1.map (·.1)) ts P.2.2.2.2.2.2) fun x => rb (sEat 9 x.2.1) fun ts => .inr ((P.1 ++ [(w, x.1)], P.2.1, P.2.2.1, P.2.2.2.1, P.2.2.2.2.1, P.2.2.2.2.2.1, x.2.2), ts)) := by
  obtain ⟨c1, c2, c3, c4, _⟩ := RP_b h
  obtain ⟨X1, e1, e2, e3, e4⟩ := ri_eat2 (n := n) (c := 61) (s := 12) rfl (by decide) hR hn
  have h1 : RP X1 b P D nv cb := RP_arr h e3 e4
  obtain ⟨d1, d2, d3, d4, _, _, _, d5⟩ := RP_b h1
  have hw1 : SW X1 b v w := SW_kp hw (KA_arr (b := b) e3 0 0 0 0 0 0 0).1
  have e2 : RI X1 T fk (sEat 12 ts) := e2
  generalize sEat 12 ts = rr at e2
  cases rr with
  | inl e =>
    obtain ⟨X2, f1, f2⟩ := exp_flt d1 e2 hn
    obtain ⟨X3, g1, g2, _⟩ := sg149 (n := n) (l1 := v) (l2 := cv X1 58 b) (l3 := -1) f2 hn
    refine ⟨X3, ?_, g2⟩
    unfold sgT
    rw [e1]
    dsimp only [Option.bind_some]
    refine rst (j := b) d1 (by decide) (by show _ < 2; omega) (by omega) d2 ?_
    rw [f1]
    dsimp only [Option.bind_some]
    rw [if_neg (ri_flt f2)]
    exact g1
  | inr ts1 =>
    rw [rb_inr]
    obtain ⟨u, X2, f1, f2⟩ := rp_exp h1 e2 hn
    have hch : ∀ R, (if (X2.1 73) = (-1) then
        (rd (X2.2.2 4) (X2.1 4)).bind fun x18 =>
        zgd (bkO (X2.1 4) 5 ((12 * (X2.1 4)) + x18)) <|
        (wr X2 5 ((12 * (X2.1 4)) + x18) v).bind fun X21 =>
        zgd (bkO (X21.1 4) 6 ((12 * (X2.1 4)) + x18)) <|
        (wr X21 6 ((12 * (X2.1 4)) + x18) u).bind fun X25 =>
        zgd (bkO (X25.1 4) 7 ((12 * (X2.1 4)) + x18)) <|
        (wr X25 7 ((12 * (X2.1 4)) + x18) (nI D.length)).bind fun X29 =>
        (rd (X29.2.2 58) (X29.1 4)).bind fun x34 =>
        zgd (bkO (X29.1 4) 8 ((12 * (X2.1 4)) + x18)) <|
        (wr X29 8 ((12 * (X2.1 4)) + x18) x34).bind fun X36 =>
        (rd (X36.2.2 4) (X36.1 4)).bind fun x40 =>
        zgd (bkO (X36.1 4) 4 (X36.1 4)) <|
        (wr X36 4 (X36.1 4) (x40 + 1)).bind fun X42 =>
        gb201_149 n  v (nI D.length) u X42
      else
        gb201_149 n  v (nI D.length) u X2) = R → sgT n v X = R := by
      intro R hR
      unfold sgT
      rw [e1]
      dsimp only [Option.bind_some]
      refine rst (j := b) d1 (by decide) (by show _ < 2; omega) (by omega) d2 ?_
      rw [d4, f1]
      exact hR
    rcases po_el f2 (f := fun x => rb (sEat 9 x.2.1) fun ts => .inr ((P.1 ++ [(w, x.1)], P.2.1, P.2.2.1, P.2.2.2.1, P.2.2.2.2.1, P.2.2.2.2.2.1, x.2.2), ts)) (fun x hx => by rw [sEat_brk (by decide) _ hx]; rfl) with ⟨e, q1, q2⟩ | ⟨x, q1, q2, q3, q4, q5⟩
    · obtain ⟨X3, g1, g2, _⟩ := sg149 (n := n) (l1 := v) (l2 := nI D.length) (l3 := u) q1 hn
      refine ⟨X3, hch _ ?_, ?_⟩
      · rw [if_neg (ri_flt q1)]
        exact g1
      · rw [q2]
        exact g2
    · obtain ⟨cc, D1, z1, z2, z3, z4, z5⟩ := q4
      obtain ⟨i1, i2, i3, i4, _⟩ := RP_b z2
      have hfin := gX_fin (w := w) (φ := x.1) (v := v) z2 hm (SW_kp hw1 (z5 0 0 0 0 0 0 0).1) z3
      obtain ⟨X5, hX5⟩ : ∃ X5, X5 = gX X2 b P.1.length v (nI cc) (nI D.length) (nI (D.length + D1.length)) := ⟨_, rfl⟩
      have hfin : RP X5 b (P.1 ++ [(w, x.1)], (pP P x.2.2).2) (D ++ D1) nv cb := by rw [hX5]; exact hfin
      have hR5 : RI X5 T fk (.inr x.2.1) := by rw [hX5]; exact gX_RI q3
      obtain ⟨X6, g1, g2, g3, g4⟩ := sg149 (n := n) (l1 := v) (l2 := nI D.length) (l3 := u) hR5 hn
      refine ⟨X6, hch _ ?_, ?_⟩
      · rw [if_pos (ri_hd q3 q2).1]
        have hL1 : LN (up X2 5 (12 * b + P.1.length) v) := LN_up i1
        have hL2 : LN (up (up X2 5 (12 * b + P.1.length) v) 6 (12 * b + P.1.length) u) := LN_up hL1
        have hL3 : LN (up (up (up X2 5 (12 * b + P.1.length) v) 6 (12 * b + P.1.length) u) 7 (12 * b + P.1.length) (nI D.length)) := LN_up hL2
        refine rst (j := b) i1 (by decide) (by show _ < 2; omega) (by omega) i2 ?_
        rw [show cv X2 4 b = nI P.1.length from z2.1.1]
        refine wst 12 P.1.length i1 i2 i3 (by decide) rfl (by decide) hm rfl (by decide) (i12a i2 rfl) ?_
        refine wst 12 P.1.length hL1 i2 i3 (by decide) rfl (by decide) hm rfl (by decide) (i12a i2 rfl) ?_
        refine wst 12 P.1.length hL2 i2 i3 (by decide) rfl (by decide) hm rfl (by decide) (i12a i2 rfl) ?_
        refine rst (j := b) hL3 (by decide) (by show _ < 2; omega) (by omega) i2 ?_
        rw [cv_ne (Or.inl (by decide)), cv_ne (Or.inl (by decide)), cv_ne (Or.inl (by decide)), z4]
        refine wst 12 P.1.length hL3 i2 i3 (by decide) rfl (by decide) hm rfl (by decide) (i12a i2 rfl) ?_
        refine rst (j := b) (LN_up hL3) (by decide) (by show _ < 2; omega) (by omega) i2 ?_
        rw [cv_ne (Or.inl (by decide)), cv_ne (Or.inl (by decide)), cv_ne (Or.inl (by decide)), cv_ne (Or.inl (by decide)), show cv X2 4 b = nI P.1.length from z2.1.1, nI_1]
        refine wst1 (LN_up hL3) i2 i3 (by decide) rfl rfl i2 ?_
        rw [hX5, ← z1] at g1
        exact g1
      · rw [q5]
        have g2 : RI X6 T fk (sEat 9 x.2.1) := g2
        generalize sEat 9 x.2.1 = rs at g2
        cases rs with
        | inl e => exact g2
        | inr ts6 => exact PO_inr (tl := fun x : Pln × List Tk => x.2) (x := ((P.1 ++ [(w, x.1)], P.2.1, P.2.2.1, P.2.2.2.1, P.2.2.2.2.1, P.2.2.2.2.2.1, x.2.2), ts6)) g2 ⟨D1, RP_arr hfin g3 g4⟩
theorem sg19 (h : RP X b P D nv cb) (hcb : cb < 640) (hm : (∃ e, r = .inl e) ∨ P.1.length < 12) (hR : RI X T fk r) (hn : 6002 ≤ n) : ∃ X1, gb201_19 n X = some ((), X1) ∧ PO (fun x : Pln × List Tk => x.2) X1 T fk (fun x => ∃ D1, RP X1 b x.1 (D ++ D1) nv (cb + 1)) (rb r fun ts => rb (sNew (P.1.map (·.1)) (adv ts)) fun w => rb (sEat 12 w.2) fun ts => rb (sExp (P.1.map (·.1)) ts P.2.2.2.2.2.2) fun x => rb (sEat 9 x.2.1) fun ts => .inr ((P.1 ++ [(w.1.2.2.1, x.1)], P.2.1, P.2.2.1, P.2.2.2.1, P.2.2.2.2.1, P.2.2.2.2.2.1, x.2.2), ts)) := by
  obtain ⟨X1, n1, n2⟩ := ri_nextR hR hn
  have h1 : RP X1 b P D nv cb := RP_arr h (nx_arr n1) ((w190 n1).1 4 rfl)
  obtain ⟨d1, d2, d3, d4, _⟩ := RP_b h1
  obtain ⟨v, X2, e1, e2⟩ := rp_new (n := n) (i := 5) (base := 12 * b) (names := P.1.map (·.1)) h1 hcb (by decide) (by decide) (by rw [List.length_map]; have := h.1.2.1; exact ⟨by show _ ≤ 24; omega, by decide⟩) (RP_nmS h1) n2 hn
  have hch : gb201_19 n X = sgT n v X2 := by
    unfold gb201_19 sgT
    rw [n1]
    dsimp only [Option.bind_some]
    refine rst (j := b) d1 (by decide) (by show _ < 2; omega) (by omega) d2 ?_
    rw [show cv X1 4 b = nI P.1.length from h1.1.1, i12 (a := 12) (k := 12) d2 rfl]
    rw [List.length_map] at e1
    rw [e1]
    rfl
  rw [hch, show ∀ F : Tk × List Tk → RR (Pln × List Tk), (rb r fun ts => rb (sNew (P.1.map (·.1)) (adv ts)) F) = rb (rb (rb r fun ts => .inr (adv ts)) (sNew (P.1.map (·.1)))) F from fun F => by cases r <;> rfl]
  rcases e2 with ⟨e, x1, x2, x3, x4⟩ | ⟨x, x1, x2, x3, x4, x5, x6⟩
  · rw [x1]
    obtain ⟨X3, f1, f2⟩ := sgTF (n := n) (v := v) x2 x3 x4 d3 hn
    exact ⟨X3, f1, f2⟩
  · rw [x1]
    rcases hm with ⟨e, he⟩ | hm
    · rw [he] at x1
      cases x1
    · exact sgT_ok x3 hm x4 x2 hn
theorem seg_ok (h : RP X b P D nv cb) (hcb : cb < 640) (hR : RI X T fk (.inr ts)) (hb1 : (hd ts).1 ≠ 1) (hn : 6002 ≤ n) : ∃ X1, g201 n X = some ((), X1) ∧ PO (fun x : Pln × List Tk => x.2) X1 T fk (fun x => ∃ D1, RP X1 b x.1 (D ++ D1) nv (cb + 1)) (sSeg P ts) := by
  obtain ⟨d1, d2, d3, d4, _⟩ := RP_b h
  unfold g201 sSeg sFirst
  rw [show rd (X.2.2 4) (X.1 4) = some (nI P.1.length) by rw [d2, rd_cv d1 (by decide) (by show _ < 2; omega) (by omega), h.1.1]]
  dsimp only [Option.bind_some]
  have h12 := h.1.2.1
  by_cases hm : P.1.length = 12
  · rw [if_pos (by rw [hm]; rfl), if_pos (by omega)]
    obtain ⟨X1, x1, x2⟩ := ri_bad (n := n) (k := 5) hR hb1
    rw [x1]
    dsimp only [Option.bind_some]
    exact sg19 (r := .inl (sErr 5 (hd ts))) (RP_fr h (w195 x1) ((w195 x1).1 4 rfl)) hcb (Or.inl ⟨_, rfl⟩) x2 hn
  · rw [if_neg (show ¬ nI P.1.length = 12 by rw [show (12 : Int32) = nI 12 from rfl, nI_eq (by omega) (by omega)]; exact hm), if_neg (by omega)]
    exact sg19 (r := .inr ts) h hcb (Or.inr (by omega)) hR hn
end
end ZSG

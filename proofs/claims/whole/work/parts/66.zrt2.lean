/-! THE REFERENCE'S EXPRESSION: tests -/
section ZRT2
section
variable {n : Nat} {X X1 : zX} {b m p q fm cb c s0 : Nat} {S : List Fr} {D P L : List Pd} {Q : List Nat} {φ : Den} {U0 : List Nat} {T : List Int32} {fk : Int32} {ts : List Tk} {segs : List (List Int32)} {w : List Int32}
/-- parts in hand may be let go -/
theorem Inv_dr {Q1 : List Nat} (h : Inv X b m fm cb S D p P L Q) (hs : Q1.Sublist Q) : Inv X b m fm cb S D p P L Q1 := by
  obtain ⟨⟨a1, a2, a3⟩, ⟨b1, b2'⟩, ⟨c1, c2⟩, hd, f, g, U, u1, u2, u3, u4, u5, u6, u7, u8⟩ := h
  have hss : (Q1 ++ opn S).Sublist (Q ++ opn S) := List.Sublist.append hs (List.Sublist.refl _)
  refine ⟨⟨a1, a2, a3⟩, ⟨b1, b2'⟩, ⟨c1, ?_⟩, hd, f, g, U, u1, u2, u3, u4, List.Nodup.sublist (List.Sublist.append (List.Sublist.refl _) hss) u5, u6, fun q hq => u7 q (hss.subset hq), u8⟩
  have := hss.length_le
  omega
/-- a test whose name and kind are told -/
def TS0 (X : zX) (b m fm cb : Nat) (S : List Fr) (D : List Pd) (p q k s0 c : Nat) (w : List Int32) : Prop := Inv X b m fm cb S D p [] [] [q] ∧ pv X b 50 q = nI k ∧ pv X b 51 q = nI s0 ∧ sl X b s0 ∧ SLT X s0 w ∧ pv X b 52 q = 0 ∧ pv X b 53 q = 0 ∧ pv X b 55 q = -1 ∧ pv X b 56 q = -1 ∧ cv X 1 b = nI c ∧ c + 1 ≤ cb + 2 * p
/-- what readTest leaves -/
def TsP (X X1 : zX) (b m fm cb : Nat) (S : List Fr) (D : List Pd) (q : Nat) (T : List Int32) (fk : Int32) (r : RR (Den × List Tk × Nat)) : Prop := match r with
  | .inl e => RI X1 T fk (.inl e)
  | .inr x => RI X1 T fk (.inr x.2.1) ∧ ∃ V : Nat → Prop, Inv X1 b m fm cb S D x.2.2 [] [] [q] ∧ (∀ U : Nat → Prop, TSTn X1 b (fun u => U u ∨ V u ∨ u ∈ (([] : List Pd) ++ ([] : List Pd)).map (fun x : Pd => x.1)) q x.1) ∧ (∀ u, V u → u < x.2.2 ∧ (∀ x ∈ kids S, x.1 ≠ u) ∧ u ≠ q ∧ u ∉ [] ++ opn S) ∧ SKa b X X1 ∧ pv X1 b 56 q = -1
theorem ts_giv (h : TS0 X b m fm cb S D p q 10 s0 c w) (hR : RI X T fk (.inr ts)) : TsP X X b m fm cb S D q T fk (.inr (dTest 42 w (false, 0, []), ts, p)) := by
  obtain ⟨h1, h2, h3, h4, h5, h6, h7, h8, h9, h10, h11⟩ := h
  refine ⟨hR, fun _ => False, h1, fun U => ⟨w, s0, h4, h3, h5, Or.inl ⟨10, (false, 0, []), Or.inl (Or.inr rfl), h2, ⟨h6, fun _ => h7, fun z => by cases z⟩, rfl⟩⟩, fun u hu => hu.elim, SKa_refl, h9⟩
theorem ts_is (h : TS0 X b m fm cb S D p q 3 s0 c w) (hR : RI X T fk (.inr ts)) (hn : 6002 ≤ n) : ∃ X1, g218 n (nI (400 * b + q)) X = some ((), X1) ∧ TsP X X1 b m fm cb S D q T fk (rb (sOne ts) fun o => .inr (dTest 35 w (thg o.1), o.2, p)) := by
  obtain ⟨h1, h2, h3, h4, h5, h6, h7, h8, h9, h10, h11⟩ := h
  obtain ⟨X1, e1, e2⟩ := one_ok (n := n) h1 hR h10 h11 hn
  refine ⟨X1, e1, ?_⟩
  cases hs : sOne ts with
  | inl e => rw [hs] at e2; exact e2
  | inr x =>
    rw [hs] at e2
    obtain ⟨f2, f3, f4, f5, f7, f8⟩ := e2
    exact ⟨f2, fun _ => False, f3, fun U => ⟨w, s0, (f7 _ _ h4 h5).1, by rw [f8 51 q (by omega) (by omega)]; exact h3, (f7 _ _ h4 h5).2, Or.inl ⟨3, thg x.1, Or.inl (Or.inl rfl), by rw [f8 50 q (by omega) (by omega)]; exact h2, f4, rfl⟩⟩, fun u hu => hu.elim, f7, by rw [f8 56 q (by omega) (by omega)]; exact h9⟩
/-- below, above -/
theorem ts_num {k : Nat} {l2 : Int32} (hk : k = 4 ∨ k = 5) (h : TS0 X b m fm cb S D p q k s0 c w) (hR : RI X T fk (.inr ts)) (hn : 6002 ≤ n) : ∃ X1, gb217_108 n (nI (400 * b + q)) l2 X = some ((), X1) ∧ TsP X X1 b m fm cb S D q T fk (rb (sTake 3 ts) fun o => .inr (dTest (k + 32) w (thg o.1), o.2, p)) := by
  obtain ⟨h1, h2, h3, h4, h5, h6, h7, h8, h9, h10, h11⟩ := h
  have hq4 : q < 400 := opn_lt h1 (by simp)
  have h1' := h1
  obtain ⟨⟨a1, a2, a3⟩, _⟩ := h1
  have hfl : ∀ {X2 : zX} {e : Er} {v : Int32}, LN X2 → X2.1 4 = nI b → RI X2 T fk (.inl e) → ∃ X1, gb217_122 n (nI (400 * b + q)) l2 v X2 = some ((), X1) ∧ RI X1 T fk (.inl e) := by
    intro X2 e v hL hb4 h2
    unfold gb217_122
    rw [ri_needF h2]
    dsimp only [Option.bind_some]
    refine ⟨up X2 53 (400 * b + q) (X2.1 72), ?_, RI_up h2 (by decide)⟩
    refine wst 400 q hL hb4 a3 (by decide) rfl (by decide) hq4 rfl (by decide) rfl ?_
    rw [ri_nextF (RI_up h2 (by decide))]
    rfl
  unfold sTake
  by_cases hbr : (hd ts).1 = 1
  · have h' := ri_of_brk hR hbr (k := 2)
    rw [if_neg (by omega), rb_inl]
    unfold gb217_108
    split
    · exact hfl a1 a2 h'
    · exact hfl a1 a2 h'
  · obtain ⟨r1, r2, r3, r4, r5, r6, r7⟩ := ri_hd hR hbr
    unfold gb217_108
    by_cases h3' : (hd ts).1 = 3
    · rw [if_pos h3', rb_inr, if_pos (by rw [r4, h3']; rfl)]
      unfold gb217_122
      rw [need_1]
      dsimp only [Option.bind_some]
      have hI1 := Inv_ow (i := 53) (v := X.1 72) (by omega) h1'
      obtain ⟨X1, e1, e2⟩ := ri_next (RI_up (i := 53) (j := 400 * b + q) (v := X.1 72) hR (by decide)) hn
      have hcell : ∀ i x, i ≠ 53 ∨ x ≠ q → pv X1 b i x = pv X b i x := by
        intro i x hx
        unfold pv
        rw [cv_of (X := up X 53 (400 * b + q) (X.1 72)) (by rw [nx_arr e1]), cv_ne (by omega)]
      have h53 : pv X1 b 53 q = X.1 72 := by
        unfold pv
        rw [cv_of (X := up X 53 (400 * b + q) (X.1 72)) (by rw [nx_arr e1]), cv_eq a1 (by decide) (by show 400 * b + q < 800; omega)]
      have hsk : SKa b X X1 := SKa_tr (SKa_up (by decide) (by decide) (by decide)) (SKa_nx e1)
      refine ⟨X1, ?_, e2, fun _ => False, Inv_nx hI1 e1, fun U => ⟨w, s0, (hsk _ _ h4 h5).1, by rw [hcell 51 q (by omega)]; exact h3, (hsk _ _ h4 h5).2, Or.inl ⟨k, thg (hd ts), Or.inr (Or.inl ⟨hk, by show ((hd ts).1 == 4) = false; rw [h3']; rfl⟩), by rw [hcell 50 q (by omega)]; exact h2, ⟨?_, fun _ => ?_, fun z => ?_⟩, rfl⟩⟩, fun u hu => hu.elim, hsk, by rw [hcell 56 q (by omega)]; exact h9⟩
      · refine wst 400 q a1 a2 a3 (by decide) rfl (by decide) hq4 rfl (by decide) rfl ?_
        rw [e1]
        rfl
      · rw [hcell 52 q (by omega), h6]
        show (0 : Int32) = b2 ((hd ts).1 == 4)
        rw [h3']
        rfl
      · rw [h53, r5 h3']
        rfl
      · have z : ((hd ts).1 == 4) = true := z
        rw [h3'] at z
        exact absurd z (by decide)
    · rw [if_neg h3', rb_inl, if_neg]
      · obtain ⟨X1, e1, e2⟩ := ri_need (n := n) (b := false) hR hbr
        rw [if_neg (by decide)] at e2
        have hw := w200 e1
        unfold gb217_122
        rw [show g200 n 0 X = some ((), X1) from e1]
        dsimp only [Option.bind_some]
        have hL1 := LN_of a1 hw
        have h41 : X1.1 4 = nI b := by rw [hw.1 4 rfl]; exact a2
        refine ⟨up X1 53 (400 * b + q) (X1.1 72), ?_, RI_up e2 (by decide)⟩
        refine wst 400 q hL1 h41 a3 (by decide) rfl (by decide) hq4 rfl (by decide) rfl ?_
        rw [ri_nextF (RI_up e2 (by decide))]
        rfl
      · rw [r4]
        generalize (hd ts).1 = s at h3'
        unfold kdO
        intro z
        repeat (split at z; first | exact absurd z (by decide) | omega)
        exact absurd z (by decide)
/-- begins, ends, holds -/
theorem ts_txt {k : Nat} {l2 : Int32} (hk : 6 ≤ k ∧ k ≤ 8) (h : TS0 X b m fm cb S D p q k s0 c w) (hR : RI X T fk (.inr ts)) (hn : 6002 ≤ n) : ∃ X1, (if (X.1 69) = 3 then gb217_172 n (nI (400 * b + q)) l2 1 X else gb217_172 n (nI (400 * b + q)) l2 0 X) = some ((), X1) ∧ TsP X X1 b m fm cb S D q T fk (rb (sTake 4 ts) fun o => .inr (dTest (k + 32) w (thg o.1), o.2, p)) := by
  obtain ⟨h1, h2, h3, h4, h5, h6, h7, h8, h9, h10, h11⟩ := h
  have hq4 : q < 400 := opn_lt h1 (by simp)
  have h1' := h1
  obtain ⟨⟨a1, a2, a3⟩, _⟩ := h1
  have hqm : 400 * b + q < 800 := by omega
  -- where a fault stands
  have hfl : ∀ {X2 : zX} {e : Er}, LN X2 → X2.1 4 = nI b → RI X2 T fk (.inl e) → ∃ X1, (zgd (bkO (X2.1 4) 52 (nI (400 * b + q))) ((wr X2 52 (nI (400 * b + q)) (1 &&& 1)).bind fun X4 => if (X4.1 73) = (-1) then (g206 n X4).bind fun p9 => gb217_203 n (nI (400 * b + q)) l2 p9.1 (nI (400 * b + q)) p9.2 else gb217_203 n (nI (400 * b + q)) l2 (-1) (nI (400 * b + q)) X4)) = some ((), X1) ∧ RI X1 T fk (.inl e) := by
    intro X2 e hL hb4 h2
    have hr1 : RI (up X2 52 (400 * b + q) (1 &&& 1)) T fk (.inl e) := RI_up h2 (by decide)
    refine ⟨up (up X2 52 (400 * b + q) (1 &&& 1)) 54 (400 * b + q) (-1), ?_, RI_up hr1 (by decide)⟩
    refine wst 400 q hL hb4 a3 (by decide) rfl (by decide) hq4 rfl (by decide) rfl ?_
    rw [if_neg (ri_flt hr1)]
    unfold gb217_203
    refine wst 400 q (LN_up hL) hb4 a3 (by decide) rfl (by decide) hq4 rfl (by decide) rfl ?_
    rw [ri_nextF (RI_up hr1 (by decide))]
    rfl
  unfold sTake
  by_cases hbr : (hd ts).1 = 1
  · have h' := ri_of_brk hR hbr (k := 2)
    rw [if_neg (show ¬ (hd ts).1 = 4 by omega), rb_inl]
    have hall : ∀ v : Int32, ∃ X1, gb217_172 n (nI (400 * b + q)) l2 v X = some ((), X1) ∧ RI X1 T fk (.inl (sErr 2 (hd ts))) := by
      intro v
      unfold gb217_172
      rw [ri_needF h']
      exact hfl a1 a2 h'
    split
    · exact hall 1
    · exact hall 0
  · obtain ⟨r1, r2, r3, r4, r5, r6, r7⟩ := ri_hd hR hbr
    by_cases h4' : (hd ts).1 = 4
    · rw [if_pos h4', rb_inr, if_pos (by rw [r4, h4']; rfl)]
      unfold gb217_172
      rw [need_1]
      dsimp only [Option.bind_some]
      have hI1 := Inv_ow (i := 52) (v := 1 &&& 1) (by omega) h1'
      have hR1 : RI (up X 52 (400 * b + q) (1 &&& 1)) T fk (.inr ts) := RI_up hR (by decide)
      obtain ⟨X3, s1, s2, s3, s4, s5, s6, s7, s8, s9⟩ := inv_slot (n := n) hI1 hR1 (Or.inr h4') (c := c) (by rw [cv_ne (by omega)]; exact h10) h11 hn
      have hI3 := Inv_ow (i := 54) (v := nI (1500 * b + c)) (by omega) s5
      obtain ⟨X1, e1, e2⟩ := ri_next (RI_up (i := 54) (j := 400 * b + q) (v := nI (1500 * b + c)) s2 (by decide)) hn
      have hsk3 : SKa b X3 X1 := SKa_tr (SKa_up (by decide) (by decide) (by decide)) (SKa_nx e1)
      have hsk : SKa b X X1 := SKa_tr (SKa_up (by decide) (by decide) (by decide)) (SKa_tr s8 hsk3)
      have hcell : ∀ i x, (i ≠ 52 ∧ i ≠ 54) ∨ x ≠ q → 4 ≤ i → pv X1 b i x = pv X b i x := by
        intro i x hx hi
        unfold pv
        rw [cv_of (X := up X3 54 (400 * b + q) (nI (1500 * b + c))) (by rw [nx_arr e1]), cv_ne (by omega), cv_of (X := up X 52 (400 * b + q) (1 &&& 1)) (s9 i (by omega) (by omega) (by omega)), cv_ne (by omega)]
      have h52 : pv X1 b 52 q = 1 &&& 1 := by
        unfold pv
        rw [cv_of (X := up X3 54 (400 * b + q) (nI (1500 * b + c))) (by rw [nx_arr e1]), cv_ne (by omega), cv_of (X := up X 52 (400 * b + q) (1 &&& 1)) (s9 52 (by omega) (by omega) (by omega)), cv_eq a1 (by decide) hqm]
      have h54 : pv X1 b 54 q = nI (1500 * b + c) := by
        unfold pv
        rw [cv_of (X := up X3 54 (400 * b + q) (nI (1500 * b + c))) (by rw [nx_arr e1]), cv_eq s5.1.1 (by decide) hqm]
      refine ⟨X1, ?_, e2, fun _ => False, Inv_nx hI3 e1, fun U => ⟨w, s0, (hsk _ _ h4 h5).1, by rw [hcell 51 q (by omega) (by omega)]; exact h3, (hsk _ _ h4 h5).2, Or.inl ⟨k, thg (hd ts), Or.inr (Or.inr ⟨hk.1, hk.2, by show ((hd ts).1 == 4) = true; rw [h4']; rfl⟩), by rw [hcell 50 q (by omega) (by omega)]; exact h2, ⟨?_, fun z => ?_, fun _ => ⟨1500 * b + c, (hsk3 _ _ s4 s3).1, h54, (hsk3 _ _ s4 s3).2⟩⟩, rfl⟩⟩, fun u hu => hu.elim, hsk, by rw [hcell 56 q (by omega) (by omega)]; exact h9⟩
      · refine wst 400 q a1 a2 a3 (by decide) rfl (by decide) hq4 rfl (by decide) rfl ?_
        rw [if_pos (show (up X 52 (400 * b + q) (1 &&& 1)).1 73 = -1 from r1), s1]
        dsimp only [Option.bind_some]
        unfold gb217_203
        refine wst 400 q s5.1.1 s5.1.2.1 a3 (by decide) rfl (by decide) hq4 rfl (by decide) rfl ?_
        rw [e1]
        rfl
      · rw [h52]
        show (1 &&& 1 : Int32) = b2 ((hd ts).1 == 4)
        rw [h4']
        decide
      · have z : ((hd ts).1 == 4) = false := z
        rw [h4'] at z
        exact absurd z (by decide)
    · rw [if_neg h4', rb_inl, if_neg]
      · obtain ⟨X1, e1, e2⟩ := ri_need (n := n) (b := false) hR hbr
        rw [if_neg (by decide)] at e2
        have hw := w200 e1
        unfold gb217_172
        rw [show g200 n 0 X = some ((), X1) from e1]
        dsimp only [Option.bind_some]
        exact hfl (LN_of a1 hw) (by rw [hw.1 4 rfl]; exact a2) e2
      · rw [r4]
        generalize (hd ts).1 = s at h4'
        unfold kdO
        intro z
        repeat (split at z; first | exact absurd z (by decide) | omega)
        exact absurd z (by decide)
/-- among -/
theorem ts_am (h : TS0 X b m fm cb S D p q 9 s0 c w) (hR : RI X T fk (.inr ts)) (hg : gdT ts) (hl : ts.length ≤ 6001) (hn : 6002 ≤ n) : ∃ X1, g219 n (nI (400 * b + q)) X = some ((), X1) ∧ TsP X X1 b m fm cb S D q T fk (rb (sEat 7 ts) fun ts => rb (sOne ts) fun o => rb (sAmgL 401 [thg o.1] o.2 p) fun x => rb (sEat 8 x.2.1) fun ts => .inr (dAmong w x.1, ts, x.2.2)) := by
  obtain ⟨h1, h2, h3, h4, h5, h6, h7, h8, h9, h10, h11⟩ := h
  have h1' := h1
  obtain ⟨⟨a1, a2, a3⟩, _⟩ := h1
  obtain ⟨X2, e1, e2⟩ := ri_eat (n := n) (c := 40) (s := 7) rfl (by decide) hR hn
  rw [show rb (.inr ts) (sEat 7) = sEat 7 ts from rfl] at e2
  have hw := w208 e1
  have ha : X2.2.2 = X.2.2 := funext fun i => hw.2.2.1 i (by simp)
  have hI2 := Inv_tok h1' ha (hw.1 4 rfl)
  have hq4 : q < 400 := opn_lt h1' (by simp)
  unfold g219
  rw [e1]
  dsimp only [Option.bind_some]
  -- a fault stands
  have hflt : ∀ {X3 : zX} {e : Er}, RI X3 T fk (.inl e) → ∃ X1, gf219_13 n n (nI (400 * b + q)) (-1) X3 = some ((), X1) ∧ RI X1 T fk (.inl e) := fun h3 => am_flt h3 hn (by omega)
  cases hs : sEat 7 ts with
  | inl e =>
    rw [hs] at e2
    rw [rb_inl]
    -- readOne with a fault
    have h18 : g218 n (nI (400 * b + q)) X2 = some ((), X2) := by
      have hall : ∀ v : Int32, gb218_22 n (nI (400 * b + q)) v X2 = some ((), X2) := by
        intro v
        unfold gb218_22
        rw [ri_needF e2]
        dsimp only [Option.bind_some]
        rw [if_neg (ri_flt e2)]
        unfold gb218_84
        rw [ri_nextF e2]
        rfl
      unfold g218 gb218_17
      split
      · exact hall 1
      · split
        · exact hall 1
        · exact hall 0
    rw [h18]
    exact hflt e2
  | inr ts2 =>
    rw [hs] at e2
    rw [rb_inr]
    have hl2 := eat_less hg (by decide) hs
    obtain ⟨X3, f1, f2⟩ := one_ok (n := n) hI2 e2 (c := c) (by rw [cv_of (X := X) (by rw [ha])]; exact h10) h11 hn
    rw [f1]
    dsimp only [Option.bind_some]
    cases ho : sOne ts2 with
    | inl e =>
      rw [ho] at f2
      rw [rb_inl]
      exact hflt f2
    | inr o =>
      rw [ho] at f2
      rw [rb_inr]
      obtain ⟨f2, f3, f4, f5, f7, f8⟩ := f2
      have hl3 := one_less hl2.1 ho
      have h55 : pv X3 b 55 q = -1 := by
        rw [f8 55 q (by omega) (by omega), show pv X2 b 55 q = pv X b 55 q from cv_of (by rw [ha])]
        exact h8
      obtain ⟨X1, w1, w2⟩ := am_l (o0 := thg o.1) hn n 401 [] [] o.2 p (X := X3) f3 f2 ⟨Or.inl ⟨rfl, h55⟩, rfl, fun i x o' hx => by simp at hx⟩ hl3.1 (by have := hl2.2; have := hl3.2; omega) (by omega)
      refine ⟨X1, w1, ?_⟩
      have hq : (rb (sAmgL 401 [thg o.1] o.2 p) fun x => rb (sEat 8 x.2.1) fun ts => (.inr (dAmong w x.1, ts, x.2.2) : RR (Den × List Tk × Nat))) = rb (rb (sAmgL 401 [thg o.1] o.2 p) fun x => rb (sEat 8 x.2.1) fun ts => .inr (x.1, ts, x.2.2)) fun y => .inr (dAmong w y.1, y.2.1, y.2.2) := by
        rw [rb_assoc]
        congr 1
        funext x
        rw [rb_assoc]
        rfl
      rw [hq]
      revert w2
      generalize (rb (sAmgL 401 [thg o.1] o.2 p) fun x => rb (sEat 8 x.2.1) fun ts => .inr (x.1, ts, x.2.2)) = rr
      intro w2
      cases rr with
      | inl e => exact w2
      | inr x =>
        obtain ⟨y1, l, th, y2, y3, y4, y5, y6, y7⟩ := w2
        have hsk : SKa b X X1 := SKa_tr (SKa_of (by rw [ha]) (by rw [ha]) (by rw [ha])) (SKa_tr f7 y5)
        have h2X : ∀ i, pv X2 b i q = pv X b i q := fun i => cv_of (by rw [ha])
        have hlV : ∀ u ∈ l, u < x.2.2 ∧ (∀ z ∈ kids S, z.1 ≠ u) ∧ u ≠ q ∧ u ∉ [] ++ opn S := by
          intro u hu
          have huQ : u ∈ q :: l.reverse := by simp [hu]
          have hD := opn_D y3 (q := u) (List.mem_append_left _ huQ)
          have y3' := y3
          obtain ⟨_, _, _, _, _, _, U, u1, u2, u3, u4, u5, u6, u7, u8⟩ := y3'
          rw [List.nodup_append] at u5
          have u9 := u5.2.1
          refine ⟨(u7 u (List.mem_append_left _ huQ)).1, fun z hz => hD z (u3 z (by simpa using hz)).1, fun e => ?_, fun hm => ?_⟩
          · rw [List.cons_append, List.nodup_cons] at u9
            exact u9.1 (by rw [← e]; simp [hu])
          · rw [List.nodup_append] at u9
            exact u9.2.2 u huQ u (by simpa using hm) rfl
        refine ⟨y1, fun u => u ∈ l, Inv_dr y3 (List.Sublist.cons₂ _ (List.nil_sublist _)), fun U => ⟨w, s0, (hsk _ _ h4 h5).1, ?_, (hsk _ _ h4 h5).2, Or.inr ⟨?_, thg o.1, th, l, ?_, ?_, fun z hz => Or.inr (Or.inl hz), y4.2.1, y4.2.2, ?_⟩⟩, hlV, hsk, ?_⟩
        · rw [y6 51 (by omega) (by omega), f8 51 q (by omega) (by omega), h2X]; exact h3
        · rw [y6 50 (by omega) (by omega), f8 50 q (by omega) (by omega), h2X]; exact h2
        · exact THG_of f4 (fun i z1 z2 => y6 i (by omega) (by omega)) y5
        · exact y4.1
        · show dAmong w x.1 = _
          rw [y2]
        · rw [y7, f8 56 q (by omega) (by omega), h2X]; exact h9
end
end ZRT2

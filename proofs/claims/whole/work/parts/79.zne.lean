/-! THE REFERENCE'S NEEDS: a need -/
section ZNE
section
variable {n : Nat} {X X1 X2 : zX} {b f c m : Nat} {T : List Int32} {fk : Int32} {ts : List Tk} {ns : List (Tk × Tk)} {l1 l2 l3 : Int32} {r : RR (List Tk)}
def ndT (n : Nat) (l1 l2 : Int32) (X : zX) : Option (Unit × zX) :=
  (g213 n 83 X).bind fun p25 =>
    if p25.1 = 0 then
      (g213 n 85 p25.2).bind fun p28 =>
      if p28.1 = 0 then
        gb233_102 n  l1 l2 0 p28.2
      else
        gb233_97 n  l1 l2 p28.2
    else
      gb233_97 n  l1 l2 p25.2
theorem ndTF {e : Er} (h : RI X T fk (.inl e)) (hn : 6002 ≤ n) : ndT n l1 l2 X = some ((), X) := by
  unfold ndT gb233_97
  obtain ⟨b1, e1⟩ := isw_any wk_83 h hn
  obtain ⟨b3, e2⟩ := isw_any wk_85 h hn
  rw [e1]
  dsimp only [Option.bind_some]
  rw [e2]
  dsimp only [Option.bind_some]
  rw [nd102F h hn, nd102F h hn, ite_self, ite_self]
theorem nd97 : gb233_97 n l1 l2 X = gb233_128 n l1 l2 1 1 X := by
  unfold gb233_97 gb233_102 gb233_123
  rw [if_neg (show ¬ (1 : Int32) = 0 by decide), ite_self]
theorem ndT_ok (hR : RI X T fk (.inr ts)) (hb1 : (hd ts).1 ≠ 1) (h : (hd ts).1 = 33 ∨ (hd ts).1 = 34 ∨ (hd ts).1 = 2 ∨ (hd ts).1 = 3) (hn : 6002 ≤ n) : ∃ l3, (l3 = 1 ∧ ((hd ts).1 = 33 ∨ (hd ts).1 = 34) ∨ l3 = 0 ∧ ((hd ts).1 = 3 ∨ (hd ts).1 = 2)) ∧ ndT n l1 l2 X = gb233_128 n l1 l2 l3 1 X := by
  obtain ⟨a1, a2, a3, a4, a5, a6, a7⟩ := ri_hd hR hb1
  unfold ndT
  rw [isw_tok wk_83 hR hb1 hn]
  dsimp only [Option.bind_some]
  rw [isw_tok wk_85 hR hb1 hn]
  dsimp only [Option.bind_some]
  by_cases h33 : (hd ts).1 = 33
  · refine ⟨1, Or.inl ⟨rfl, Or.inl h33⟩, ?_⟩
    rw [show ((hd ts).1 == 33) = true by simpa using h33, if_neg (by decide), nd97]
  · rw [show ((hd ts).1 == 33) = false by simpa using h33, if_pos b2_f]
    by_cases h34 : (hd ts).1 = 34
    · refine ⟨1, Or.inl ⟨rfl, Or.inr h34⟩, ?_⟩
      rw [show ((hd ts).1 == 34) = true by simpa using h34, if_neg (by decide), nd97]
    · rw [show ((hd ts).1 == 34) = false by simpa using h34, if_pos b2_f]
      unfold gb233_102 gb233_123
      by_cases h3 : (hd ts).1 = 3
      · refine ⟨0, Or.inr ⟨rfl, Or.inl h3⟩, ?_⟩
        rw [if_pos (by rw [a4, h3]; decide)]
      · have h2 : (hd ts).1 = 2 := by omega
        refine ⟨0, Or.inr ⟨rfl, Or.inr h2⟩, ?_⟩
        rw [if_neg (by rw [a4]; exact kd_num h3), if_pos rfl, name_tok hR hb1 hn]
        dsimp only [Option.bind_some]
        rw [show ((hd ts).1 == 2) = true by simpa using h2, if_neg (by decide)]
theorem ndT_bad (hR : RI X T fk (.inr ts)) (hb1 : (hd ts).1 ≠ 1) (h : ¬ ((hd ts).1 = 33 ∨ (hd ts).1 = 34 ∨ (hd ts).1 = 2 ∨ (hd ts).1 = 3)) (hn : 6002 ≤ n) : ∃ X1, ndT n l1 l2 X = some ((), X1) ∧ RI X1 T fk (.inl (sErr 2 (hd ts))) := by
  obtain ⟨a1, a2, a3, a4, a5, a6, a7⟩ := ri_hd hR hb1
  obtain ⟨X1, e1, e2⟩ := ri_need (n := n) (b := false) hR hb1
  rw [if_neg (by decide)] at e2
  refine ⟨X1, ?_, e2⟩
  unfold ndT
  rw [isw_tok wk_83 hR hb1 hn]
  dsimp only [Option.bind_some]
  rw [isw_tok wk_85 hR hb1 hn]
  dsimp only [Option.bind_some]
  rw [show ((hd ts).1 == 33) = false by simp; omega, if_pos b2_f, show ((hd ts).1 == 34) = false by simp; omega, if_pos b2_f]
  unfold gb233_102
  rw [if_neg (by rw [a4]; exact kd_num (by omega)), if_pos rfl, name_tok hR hb1 hn]
  dsimp only [Option.bind_some]
  rw [show ((hd ts).1 == 2) = false by simp; omega, if_pos b2_f]
  unfold gb233_128
  rw [show (0 : Int32) = b2 false from rfl, e1]
  dsimp only [Option.bind_some]
  rw [if_neg (ri_flt e2)]
/-- what a need leaves -/
def NdQ (X X1 : zX) (b f c : Nat) (ns : List (Tk × Tk)) (x : List (Tk × Tk) × List Tk) : Prop := NDS X1 b f x.1 ∧ x.1.length = ns.length + 1 ∧ (∃ c1, cv X1 1 b = nI c1 ∧ c1 ≤ c + 2) ∧ ns.length < 4 ∧ NdK X X1 b f ns.length
theorem ri_t2 (hR : RI X T fk (.inr ts)) (h2 : (hd ts).1 = 2) : (hd ts).2.1 ≤ 6000 := (ri_hd hR (by omega)).2.2.2.2.2.2
theorem nd15 (hL : LN X) (h4 : X.1 4 = nI b) (hb : b ≤ 1) (hf : f < 24) (hN : NDS X b f ns) (hm : ns.length < 4) (hc : cv X 1 b = nI c) (hc2 : c + 2 ≤ 1500) (hR : RI X T fk (.inr ts)) (hn : 6002 ≤ n) : ∃ X1, gb233_15 n (nI (24 * b + f)) X = some ((), X1) ∧ PO (fun x : List (Tk × Tk) × List Tk => x.2) X1 T fk (NdQ X X1 b f c ns) (rb (sTake 2 (adv ts)) fun w => rb (sEat 12 w.2) fun ts => if (hd ts).1 = 33 ∨ (hd ts).1 = 34 ∨ (hd ts).1 = 2 ∨ (hd ts).1 = 3 then rb (sEat 9 (adv ts)) fun ts' => .inr (ns ++ [(w.1, hd ts)], ts') else .inl (sErr 2 (hd ts))) := by
  obtain ⟨X1, n1, n2⟩ := ri_next hR hn
  unfold gb233_15
  rw [n1]
  dsimp only [Option.bind_some]
  have hk1 : NdK X X1 b f ns.length := NdK_nx hL n1
  have e1 : X1.2.2 = X.2.2 := nx_arr n1
  by_cases hb1 : (hd (adv ts)).1 = 1
  · have h' := (ri_brk n2 hb1).1
    obtain ⟨bb, eb⟩ := name_any h' hn
    rw [eb]
    dsimp only [Option.bind_some]
    rw [ri_needF h']
    dsimp only [Option.bind_some]
    rw [if_neg (ri_flt h'), sTake_brk (by decide) _ hb1]
    exact ⟨X1, rfl, h'⟩
  obtain ⟨a1, a2, a3, a4, a5, a6, a7⟩ := ri_hd n2 hb1
  rw [name_tok n2 hb1 hn]
  dsimp only [Option.bind_some]
  unfold sTake
  by_cases h2 : (hd (adv ts)).1 = 2
  · rw [show ((hd (adv ts)).1 == 2) = true by simpa using h2, need_t, if_pos h2]
    dsimp only [Option.bind_some]
    show ∃ X1, _ ∧ PO _ X1 T fk _ (rb (sEat 12 (adv (adv ts))) fun ts5 => if (hd ts5).1 = 33 ∨ (hd ts5).1 = 34 ∨ (hd ts5).1 = 2 ∨ (hd ts5).1 = 3 then rb (sEat 9 (adv ts5)) fun ts' => .inr (ns ++ [(hd (adv ts), hd ts5)], ts') else .inl (sErr 2 (hd ts5)))
    have h41 : X1.1 4 = nI b := hk1.2.1.trans h4
    obtain ⟨X3, x1, x2, x3, x4, x5, x6, x7, x8⟩ := slot2 (n := n) n2 (Or.inl ⟨hb1, by rw [h2]; rfl⟩) hk1.1 h41 hb (by rw [cv_of (show X1.2.2 1 = X.2.2 1 by rw [e1])]; exact hc) (by omega) hn
    have h43 : X3.1 4 = nI b := by rw [x7]; exact h41
    have hk3 : NdK X1 X3 b f ns.length := NdK_sl x6 x7 x4 x8
    obtain ⟨X5, hX5⟩ : ∃ X5, X5 = up (up X3 17 (4 * (24 * b + f) + ns.length) (nI (1500 * b + c))) 18 (4 * (24 * b + f) + ns.length) (nI (hd (adv ts)).2.1) := ⟨_, rfl⟩
    have hk5 : NdK X3 X5 b f ns.length := by rw [hX5]; exact NdK_T (NdK_u x6 (Or.inr ⟨by omega, rfl⟩)) (NdK_u (LN_up x6) (Or.inr ⟨by omega, rfl⟩))
    have hR5 : RI X5 T fk (.inr (adv ts)) := by rw [hX5]; exact RI_up (RI_up x2 (by decide)) (by decide)
    obtain ⟨X6, m1, m2⟩ := ri_next hR5 hn
    obtain ⟨X7, q1, q2⟩ := ri_eat (n := n) (c := 61) (s := 12) rfl (by decide) m2 hn
    have hw := w208 q1
    have e7 : X7.2.2 = X5.2.2 := (funext fun i => hw.2.2.1 i (by simp)).trans (nx_arr m1)
    have hk7 : NdK X5 X7 b f ns.length := NdK_T (NdK_nx hk5.1 m1) (NdK_arr (LN_of (LN_of hk5.1 (w190 m1)) hw) (hw.1 4 rfl) (funext fun i => hw.2.2.1 i (by simp)))
    have hkk := NdK_T (NdK_T hk1 hk3) (NdK_T hk5 hk7)
    have hch : ∀ R, ndT n (nI (24 * b + f)) (nI (4 * (24 * b + f) + ns.length)) X7 = R → ((rd (X1.2.2 16) (nI (24 * b + f))).bind fun x9 =>
      (g206 n  X1).bind fun p12 =>
      zgd (bkO (p12.2.1 4) 17 ((4 * nI (24 * b + f)) + x9)) <|
      (wr p12.2 17 ((4 * nI (24 * b + f)) + x9) p12.1).bind fun X14 =>
      zgd (bkO (X14.1 4) 18 ((4 * nI (24 * b + f)) + x9)) <|
      (wr X14 18 ((4 * nI (24 * b + f)) + x9) (X14.1 70)).bind fun X18 =>
      (g190 n  X18).bind fun p21 =>
      (g208 n 61 p21.2).bind fun p23 => ndT n (nI (24 * b + f)) ((4 * nI (24 * b + f)) + x9) p23.2) = R := by
      intro R hR
      refine rst (j := 24 * b + f) hk1.1 (by decide) (by show _ < 48; omega) (by omega) rfl ?_
      rw [cv_of (show X1.2.2 16 = X.2.2 16 by rw [e1]), hN.1, x1]
      refine wst4 (by omega) x6 h43 hb hf hm i4 ?_
      refine wst4 (by omega) (LN_up x6) h43 hb hf hm i4 ?_
      rw [show (up X3 17 (4 * (24 * b + f) + ns.length) (nI (1500 * b + c))).1 70 = nI (hd (adv ts)).2.1 by rw [up_1, x7]; exact a3, ← hX5, m1]
      dsimp only [Option.bind_some]
      rw [q1]
      dsimp only [Option.bind_some]
      rw [i4]
      exact hR
    rw [if_pos a1]
    have q2 : RI X7 T fk (sEat 12 (adv (adv ts))) := q2
    generalize sEat 12 (adv (adv ts)) = rr at q2
    cases rr with
    | inl e =>
      exact ⟨X7, hch _ (ndTF q2 hn), q2⟩
    | inr ts7 =>
      show ∃ X1, _ ∧ PO _ X1 T fk _ (if (hd ts7).1 = 33 ∨ (hd ts7).1 = 34 ∨ (hd ts7).1 = 2 ∨ (hd ts7).1 = 3 then rb (sEat 9 (adv ts7)) fun ts' => .inr (ns ++ [(hd (adv ts), hd ts7)], ts') else .inl (sErr 2 (hd ts7)))
      by_cases hb7 : (hd ts7).1 = 1
      · have h' := (ri_brk q2 hb7).1
        rw [if_neg (by omega), sErr_brk hb7]
        exact ⟨X7, hch _ (ndTF h' hn), h'⟩
      by_cases hs : (hd ts7).1 = 33 ∨ (hd ts7).1 = 34 ∨ (hd ts7).1 = 2 ∨ (hd ts7).1 = 3
      · rw [if_pos hs]
        obtain ⟨l3, l3h, l3e⟩ := ndT_ok (n := n) (l1 := nI (24 * b + f)) (l2 := nI (4 * (24 * b + f) + ns.length)) q2 hb7 hs hn
        have hcv : ∀ i j, 3 < i → cv X7 i j = cv (up (up X3 17 (4 * (24 * b + f) + ns.length) (nI (1500 * b + c))) 18 (4 * (24 * b + f) + ns.length) (nI (hd (adv ts)).2.1)) i j := fun i j _ => by rw [← hX5]; exact cv_of (by rw [e7])
        obtain ⟨X8, y1, y2, y3, y4, y5, y6, y7, y8, c1, y9, y10⟩ := nd128 (n := n) (tk := 0) (c := c + 1) (m := ns.length) (l3 := l3) hkk.1 (hkk.2.1.trans h4) hb hf hm (by rw [hcv 16 _ (by decide), cv_ne (Or.inl (by decide)), cv_ne (Or.inl (by decide)), cv_of (x8 16 (by decide) (by decide) (by decide)), cv_of (show X1.2.2 16 = X.2.2 16 by rw [e1])]; exact hN.1) (by rw [cv_of (show X7.2.2 1 = X5.2.2 1 by rw [e7]), hX5, cv_ne (Or.inl (by decide)), cv_ne (Or.inl (by decide))]; exact x5) (by omega) q2 hb7 l3h hn
        refine ⟨X8, hch _ (l3e.trans y1), ?_⟩
        have hkA := NdK_T hkk y3
        have hl : ∀ t : Tk × Tk, (ns ++ [t]).length = ns.length + 1 := fun t => by rw [List.length_append]; rfl
        generalize sEat 9 (adv ts7) = rs at y2
        cases rs with
        | inl e => exact y2
        | inr ts9 =>
          refine PO_inr (tl := fun x : List (Tk × Tk) × List Tk => x.2) (x := (ns ++ [(hd (adv ts), hd ts7)], ts9)) y2 ⟨⟨?_, ?_, ?_⟩, hl _, ⟨c1, y9, by omega⟩, hm, hkA⟩
          · show _ = nI (ns ++ [(hd (adv ts), hd ts7)]).length
            rw [hl]; exact y4
          · show (ns ++ [(hd (adv ts), hd ts7)]).length ≤ 4
            rw [hl]; omega
          · intro j w hj
            have hj : (ns ++ [(hd (adv ts), hd ts7)])[j]? = some w := hj
            rcases get_app hj with hj | ⟨hz, hj⟩
            · have := lt_of_get hj
              exact NDR_g (hN.2.2 j w hj) hkA.2.2.1 (fun r r1 r2 => hkA.2.2.2.2.2 r _ r1 r2 (by omega))
            · rw [hz, hj]
              refine ⟨h2, a7, (ri_hd q2 hb7).2.2.2.2.2.2, ?_, ?_, y7, y8⟩
              · rw [y5, hcv 17 _ (by decide), cv_ne (Or.inl (by decide)), cv_eq x6 (by decide) (by show _ < 192; omega)]
                exact SW_kp x3 (SKa_tr (NdK_T hk5 hk7).2.2.1 y3.2.2.1)
              · rw [y6, hcv 18 _ (by decide), cv_eq (LN_up x6) (by decide) (by show _ < 192; omega)]
      · rw [if_neg hs]
        obtain ⟨X8, y1, y2⟩ := ndT_bad (n := n) (l1 := nI (24 * b + f)) (l2 := nI (4 * (24 * b + f) + ns.length)) q2 hb7 hs hn
        exact ⟨X8, hch _ y1, y2⟩
  · rw [show ((hd (adv ts)).1 == 2) = false by simpa using h2, if_neg h2]
    obtain ⟨X2, x1, x2⟩ := ri_need (n := n) (b := false) n2 hb1
    rw [x1]
    dsimp only [Option.bind_some]
    rw [if_neg (by decide)] at x2
    rw [if_neg (ri_flt x2)]
    exact ⟨X2, rfl, x2⟩
theorem need_ok (hL : LN X) (h4 : X.1 4 = nI b) (hb : b ≤ 1) (hf : f < 24) (hN : NDS X b f ns) (hc : cv X 1 b = nI c) (hc2 : c + 2 ≤ 1500) (hR : RI X T fk (.inr ts)) (hb1 : (hd ts).1 ≠ 1) (hn : 6002 ≤ n) : ∃ X1, g233 n (nI (24 * b + f)) X = some ((), X1) ∧ PO (fun x : List (Tk × Tk) × List Tk => x.2) X1 T fk (NdQ X X1 b f c ns) (sNeed ns ts) := by
  unfold g233 sNeed sFirst
  rw [rd_cv (j := 24 * b + f) hL (by decide) (by show _ < 48; omega) (by omega), hN.1]
  dsimp only [Option.bind_some]
  have h4' := hN.2.1
  by_cases hm : ns.length = 4
  · rw [if_pos (by rw [hm]; rfl), if_pos (by omega)]
    obtain ⟨X1, x1, x2⟩ := ri_bad (n := n) (k := 5) hR hb1
    rw [x1]
    dsimp only [Option.bind_some]
    exact ⟨X1, nd15F x2 hn, x2⟩
  · rw [if_neg (show ¬ nI ns.length = 4 by rw [show (4 : Int32) = nI 4 from rfl, nI_eq (by omega) (by omega)]; exact hm), if_neg (by omega)]
    exact nd15 hL h4 hb hf hN (by omega) hc hc2 hR hn
end
end ZNE

/-! THE REFERENCE'S EXPRESSION: a NUMBER or a TEXT that a part tells -/
section ZRO2
section
variable {n : Nat} {X X1 : zX} {b m p q fm cb c : Nat} {S : List Fr} {D P L : List Pd} {Q : List Nat} {φ : Den} {U0 : List Nat} {T : List Int32} {fk : Int32} {ts : List Tk} {segs : List (List Int32)}
/-- slots alone have changed -/
theorem Inv_sl (h : Inv X b m fm cb S D p P L Q) (hL : LN X1) (h4 : X1.1 4 = X.1 4) (ha : ∀ i, i ≠ 1 → i ≠ 2 → i ≠ 3 → X1.2.2 i = X.2.2 i) (hs : SKa b X X1) (hc : ∃ c, cv X1 1 b = nI c ∧ c ≤ cb + 2 * p) : Inv X1 b m fm cb S D p P L Q := by
  have e : ∀ i j, i ≠ 1 → i ≠ 2 → i ≠ 3 → cv X1 i j = cv X i j := fun i j h1 h2 h3 => cv_of (ha i h1 h2 h3)
  have e2 : ∀ i w, 4 ≤ i → pv X1 b i w = pv X b i w := fun i w hi => e i _ (by omega) (by omega) (by omega)
  obtain ⟨⟨a1, a2, a3⟩, ⟨b1, b2'⟩, ⟨c1, c2⟩, ⟨d1, _⟩, f, g, U, u1, u2, u3, u4, u5, u6, u7, u8⟩ := h
  refine ⟨⟨hL, by rw [h4]; exact a2, a3⟩, ⟨by rw [e _ _ (by omega) (by omega) (by omega)]; exact b1, b2'⟩, ⟨by rw [e _ _ (by omega) (by omega) (by omega)]; exact c1, c2⟩, ⟨d1, hc⟩, FRS_of f (fun t i _ h1 _ => e i t (by omega) (by omega) (by omega)) (fun q _ => ⟨e2 50 q (by omega), e2 55 q (by omega)⟩) (fun x _ => e2 56 x.1 (by omega)), fun i x hx => by rw [e _ _ (by omega) (by omega) (by omega)]; exact g i x hx, U, fun i x hx => PMn_of (u1 i x hx) (fun i h1 _ => e2 i _ (by omega)) (fun u _ => ⟨e2 56 u (by omega), fun i h1 _ => e2 i u (by omega)⟩) hs (fun _ q => q) (fun _ q => q), u2, u3, u4, u5, fun x hx => by rw [e2 _ _ (by omega)]; exact u6 x hx, u7, fun q hq => by rw [e2 _ _ (by omega)]; exact u8 q hq⟩
theorem inv_slot (hI : Inv X b m fm cb S D p P L Q) (hR : RI X T fk (.inr ts)) (hk : (hd ts).1 ≠ 1 ∧ kdO (hd ts).1 = 1 ∨ (hd ts).1 = 4) (hc : cv X 1 b = nI c) (hc2 : c + 1 ≤ cb + 2 * p) (hn : 6002 ≤ n) : ∃ X1, g206 n X = some (nI (1500 * b + c), X1) ∧ RI X1 T fk (.inr ts) ∧ SLT X1 (1500 * b + c) (hd ts).2.2.1 ∧ sl X1 b (1500 * b + c) ∧ Inv X1 b m fm cb S D p P L Q ∧ cv X1 1 b = nI (c + 1) ∧ X1.1 = X.1 ∧ SKa b X X1 ∧ ∀ i, i ≠ 1 → i ≠ 2 → i ≠ 3 → X1.2.2 i = X.2.2 i := by
  have hI0 := hI
  obtain ⟨⟨a1, a2, a3⟩, ⟨b1, b2'⟩, _, ⟨d1, _⟩, _⟩ := hI
  have hce : ce X 1 b = some (nI c) := by rw [ce_cv a1 (by decide) (by show b < 2; omega), hc]
  obtain ⟨X1, e1, e2, e3, e4, e5, e6, e7⟩ := slot_ok (n := n) hR hk a1 a2 a3 hce (by omega) hn
  have hcv : cv X1 1 b = nI (c + 1) := by unfold cv; rw [e5]; rfl
  have hw := w206 e1
  have hf : X1.1 = X.1 := funext fun k => hw.1 k (by simp)
  have hsk : SKa b X X1 := by
    intro s w ⟨c', k1, k2, k3, k4⟩ hs
    have : c' = c := by
      rw [hc] at k1
      exact ((nI_eq (by omega) (by omega)).mp k1).symm
    exact ⟨⟨c + 1, hcv, by omega, k3, by omega⟩, e4 s w (by omega) hs⟩
  exact ⟨X1, e1, e2, e3, ⟨c + 1, hcv, by omega, by omega, by omega⟩, Inv_sl hI0 e6 (by rw [hf]) e7 hsk ⟨c + 1, hcv, hc2⟩, hcv, hf, hsk, e7⟩
/-- what readOne leaves -/
def OneP (X X1 : zX) (b m fm cb : Nat) (S : List Fr) (D : List Pd) (p : Nat) (P L : List Pd) (q : Nat) (Q : List Nat) (c : Nat) (T : List Int32) (fk : Int32) (r : RR (Tk × List Tk)) : Prop := match r with
  | .inl e => RI X1 T fk (.inl e)
  | .inr x => RI X1 T fk (.inr x.2) ∧ Inv X1 b m fm cb S D p P L (q :: Q) ∧ THG X1 b q (thg x.1) ∧ (∃ c', cv X1 1 b = nI c' ∧ c' ≤ c + 1) ∧ SKa b X X1 ∧ (∀ i w, w ≠ q ∨ i < 52 ∨ 54 < i → 50 ≤ i → pv X1 b i w = pv X b i w)
theorem need_1 : g200 n 1 X = some ((), X) := need_t
theorem one_end {l1 s0 : Int32} {X0 : zX} (hL : LN X) (h4 : X.1 4 = nI b) (hb : b ≤ 1) (hq : q < 400) (hl : l1 = nI (400 * b + q)) (hR : RI X T fk (.inr ts)) (hn : 6002 ≤ n) : ∃ X1, gb218_83 n l1 s0 l1 X = some ((), X1) ∧ RI X1 T fk (.inr (adv ts)) ∧ g190 n (up X 54 (400 * b + q) s0) = some ((), X1) := by
  obtain ⟨X1, e1, e2⟩ := ri_next (RI_up (i := 54) (j := 400 * b + q) (v := s0) hR (by decide)) hn
  refine ⟨X1, ?_, e2, e1⟩
  unfold gb218_83 gb218_84
  refine wst 400 q hL h4 hb (by decide) rfl (by decide) hq rfl (by decide) hl ?_
  rw [e1]
  rfl
theorem one_ok (hI : Inv X b m fm cb S D p P L (q :: Q)) (hR : RI X T fk (.inr ts)) (hc : cv X 1 b = nI c) (hc2 : c + 1 ≤ cb + 2 * p) (hn : 6002 ≤ n) : ∃ X1, g218 n (nI (400 * b + q)) X = some ((), X1) ∧ OneP X X1 b m fm cb S D p P L q Q c T fk (sOne ts) := by
  have hI0 := hI
  obtain ⟨⟨a1, a2, a3⟩, ⟨b1, b2'⟩, _, ⟨d1, _⟩, _⟩ := hI
  have hq4 : q < 400 := opn_lt hI0 (by simp)
  have h84 : ∀ {X2 : zX} {e : Er} {l : Int32}, RI X2 T fk (.inl e) → gb218_84 n l X2 = some ((), X2) := by
    intro X2 e l h
    unfold gb218_84
    rw [ri_nextF h]
    rfl
  unfold sOne sTake
  by_cases hbr : (hd ts).1 = 1
  · -- a fault stands
    have h' := ri_of_brk hR hbr (k := 2)
    rw [if_neg (by rw [hbr]; decide)]
    refine ⟨X, ?_, h'⟩
    unfold g218 gb218_17 gb218_22
    have hall : ∀ v : Int32, ((g200 n v X).bind fun p1 => if (p1.2.1 73) = (-1) then (if (p1.2.1 69) = 3 then gb218_51 n (nI (400 * b + q)) 1 (nI (400 * b + q)) p1.2 else gb218_51 n (nI (400 * b + q)) 0 (nI (400 * b + q)) p1.2) else gb218_84 n (nI (400 * b + q)) p1.2) = some ((), X) := by
      intro v
      rw [ri_needF h']
      dsimp only [Option.bind_some]
      rw [if_neg (ri_flt h'), h84 h']
    split
    · exact hall 1
    · split
      · exact hall 1
      · exact hall 0
  · obtain ⟨r1, r2, r3, r4, r5, r6, r7⟩ := ri_hd hR hbr
    by_cases h3 : (hd ts).1 = 3
    · rw [if_pos h3, if_pos h3]
      have h69 : X.1 69 = 2 := by rw [r4, h3]; rfl
      -- the cells, then the next token
      have hI1 := Inv_ow (i := 52) (v := 0 &&& 1) (by omega) hI0
      have hI2 := Inv_ow (i := 53) (v := X.1 72) (by omega) hI1
      have hI3 := Inv_ow (i := 54) (v := -1) (by omega) hI2
      have hR2 : RI (up (up X 52 (400 * b + q) (0 &&& 1)) 53 (400 * b + q) (X.1 72)) T fk (.inr ts) := RI_up (RI_up hR (by decide)) (by decide)
      obtain ⟨X1, e1, e2, e3⟩ := one_end (X0 := X) (s0 := -1) (l1 := nI (400 * b + q)) (LN_up (LN_up a1)) a2 a3 hq4 rfl hR2 hn
      have hcell : ∀ i w, pv X1 b i w = pv (up (up (up X 52 (400 * b + q) (0 &&& 1)) 53 (400 * b + q) (X.1 72)) 54 (400 * b + q) (-1)) b i w := fun i w => cv_of (by rw [nx_arr e3])
      have hqm : 400 * b + q < 800 := by omega
      refine ⟨X1, ?_, e2, Inv_nx hI3 e3, ⟨?_, fun _ => ?_, fun z => ?_⟩, ⟨c, ?_, by omega⟩, ?_, fun i w hw h50 => ?_⟩
      · unfold g218 gb218_17 gb218_22
        rw [if_pos h69, need_1]
        dsimp only [Option.bind_some]
        rw [if_pos r1, if_neg (by rw [h69]; decide)]
        unfold gb218_51
        refine wst 400 q a1 a2 a3 (by decide) rfl (by decide) hq4 rfl (by decide) rfl ?_
        refine wst 400 q (LN_up a1) a2 a3 (by decide) rfl (by decide) hq4 rfl (by decide) rfl ?_
        rw [if_neg (by show ¬ X.1 69 = 3; rw [h69]; decide)]
        exact e1
      · rw [hcell]
        unfold pv
        rw [cv_ne (by omega), cv_ne (by omega), cv_eq a1 (by decide) hqm]
        show (0 &&& 1 : Int32) = b2 ((hd ts).1 == 4)
        rw [h3]
        decide
      · rw [hcell]
        unfold pv
        rw [cv_ne (by omega), cv_eq (LN_up a1) (by decide) hqm]
        exact r5 h3
      · have z : ((hd ts).1 == 4) = true := z
        rw [h3] at z
        exact absurd z (by decide)
      · rw [cv_of (X := up (up (up X 52 (400 * b + q) (0 &&& 1)) 53 (400 * b + q) (X.1 72)) 54 (400 * b + q) (-1)) (by rw [nx_arr e3]), cv_ne (by omega), cv_ne (by omega), cv_ne (by omega)]
        exact hc
      · exact SKa_tr (SKa_up2 (by decide) (by decide)) (SKa_tr (SKa_up (by decide) (by decide) (by decide)) (SKa_nx e3))
      · rw [hcell]
        unfold pv
        rw [cv_ne (by omega), cv_ne (by omega), cv_ne (by omega)]
    · rw [if_neg h3]
      by_cases h4 : (hd ts).1 = 4
      · rw [if_pos h4]
        have h69 : X.1 69 = 3 := by rw [r4, h4]; rfl
        have hI1 := Inv_ow (i := 52) (v := 1 &&& 1) (by omega) hI0
        have hI2 := Inv_ow (i := 53) (v := X.1 72) (by omega) hI1
        have hR2 : RI (up (up X 52 (400 * b + q) (1 &&& 1)) 53 (400 * b + q) (X.1 72)) T fk (.inr ts) := RI_up (RI_up hR (by decide)) (by decide)
        obtain ⟨X3, s1, s2, s3, s4, s5, s6, s7, s8, s9⟩ := inv_slot (n := n) hI2 hR2 (Or.inr h4) (c := c) (by rw [cv_ne (by omega), cv_ne (by omega)]; exact hc) hc2 hn
        have hI3 := Inv_ow (i := 54) (v := nI (1500 * b + c)) (by omega) s5
        obtain ⟨X1, e1, e2, e3⟩ := one_end (X0 := X) (s0 := nI (1500 * b + c)) (l1 := nI (400 * b + q)) s5.1.1 s5.1.2.1 a3 hq4 rfl s2 hn
        have hsk3 : SKa b X3 X1 := SKa_tr (SKa_up (i := 54) (j := 400 * b + q) (v := nI (1500 * b + c)) (by decide) (by decide) (by decide)) (SKa_nx e3)
        have hcell : ∀ i w, pv X1 b i w = pv (up X3 54 (400 * b + q) (nI (1500 * b + c))) b i w := fun i w => cv_of (by rw [nx_arr e3])
        have hcl3 : ∀ i w, 4 ≤ i → pv X3 b i w = pv (up (up X 52 (400 * b + q) (1 &&& 1)) 53 (400 * b + q) (X.1 72)) b i w := fun i w hi => cv_of (s9 i (by omega) (by omega) (by omega))
        have hqm : 400 * b + q < 800 := by omega
        refine ⟨X1, ?_, e2, Inv_nx hI3 e3, ⟨?_, fun z => ?_, fun _ => ⟨1500 * b + c, (hsk3 _ _ s4 s3).1, ?_, (hsk3 _ _ s4 s3).2⟩⟩, ⟨c + 1, ?_, by omega⟩, ?_, fun i w hw h50 => ?_⟩
        · unfold g218 gb218_17 gb218_22
          rw [if_neg (by rw [h69]; decide), if_pos h69, need_1]
          dsimp only [Option.bind_some]
          rw [if_pos r1, if_pos h69]
          unfold gb218_51
          refine wst 400 q a1 a2 a3 (by decide) rfl (by decide) hq4 rfl (by decide) rfl ?_
          refine wst 400 q (LN_up a1) a2 a3 (by decide) rfl (by decide) hq4 rfl (by decide) rfl ?_
          refine (if_pos h69).trans ?_
          rw [show (up (up X 52 (400 * b + q) (1 &&& 1)) 53 (400 * b + q) ((up X 52 (400 * b + q) (1 &&& 1)).1 72)) = up (up X 52 (400 * b + q) (1 &&& 1)) 53 (400 * b + q) (X.1 72) from rfl, s1]
          exact e1
        · rw [hcell]
          unfold pv at hcl3 ⊢
          rw [cv_ne (by omega), hcl3 52 q (by omega), cv_ne (by omega), cv_eq a1 (by decide) hqm]
          show (1 &&& 1 : Int32) = b2 ((hd ts).1 == 4)
          rw [h4]
          decide
        · have z : ((hd ts).1 == 4) = false := z
          rw [h4] at z
          exact absurd z (by decide)
        · rw [hcell]
          exact cv_eq s5.1.1 (by decide) hqm
        · rw [cv_of (X := up X3 54 (400 * b + q) (nI (1500 * b + c))) (by rw [nx_arr e3]), cv_ne (by omega)]
          exact s6
        · exact SKa_tr (SKa_up2 (by decide) (by decide)) (SKa_tr s8 hsk3)
        · rw [hcell]
          unfold pv at hcl3 ⊢
          rw [cv_ne (by omega), hcl3 i w (by omega), cv_ne (by omega), cv_ne (by omega)]
      · rw [if_neg h4]
        obtain ⟨X1, e1, e2⟩ := ri_need (n := n) (b := false) hR hbr
        rw [if_neg (by decide)] at e2
        refine ⟨X1, ?_, e2⟩
        have hk2 : X.1 69 ≠ 2 ∧ X.1 69 ≠ 3 := by
          rw [r4]
          unfold kdO
          constructor
          · intro z
            repeat (split at z; first | exact absurd z (by decide) | contradiction)
            exact absurd z (by decide)
          · intro z
            repeat (split at z; first | exact absurd z (by decide) | contradiction)
            exact absurd z (by decide)
        unfold g218 gb218_22
        rw [if_neg hk2.1, if_neg hk2.2, show (0 : Int32) = b2 false from rfl, e1]
        dsimp only [Option.bind_some]
        rw [if_neg (ri_flt e2), h84 e2]
end
end ZRO2

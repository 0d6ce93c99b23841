/-! THE REFERENCE'S EXPRESSIONS, all that were read -/
section ZEX
section
variable {n : Nat} {X X1 : zX} {b m p q fm cb c : Nat} {S : List Fr} {D D0 P L : List Pd} {Q : List Nat} {φ : Den} {T : List Int32} {fk : Int32} {ts : List Tk} {segs : List (List Int32)}
theorem agv_sh2 : ∀ (S : List Fr) (D : List Pd) (U : List Nat) (x : Pd), agv S (D0 ++ D) U x = ((agv S D U x).1, D0 ++ (agv S D U x).2.1, (agv S D U x).2.2)
  | [], D, U, _ => rfl
  | .inl q :: S, D, U, x => by
    unfold agv
    rw [List.append_assoc, agv_sh2 S]
  | .inr (o, some (p, l), _) :: S, D, U, x => rfl
  | .inr (o, none, _) :: S, D, U, x => rfl
theorem eAnd_sh (f : Nf) (D : List Pd) (U : List Nat) : eAnd f (D0 ++ D) U = ((eAnd f D U).1, D0 ++ (eAnd f D U).2.1, (eAnd f D U).2.2) := by
  unfold eAnd
  split
  · rw [List.append_assoc]
  · split <;> rfl
theorem eOr_sh (f : Nf) (D : List Pd) (U : List Nat) : eOr f (D0 ++ D) U = ((eOr f D U).1, D0 ++ (eOr f D U).2.1, (eOr f D U).2.2) := by
  unfold eOr
  rw [eAnd_sh]
  split
  · simp only [List.append_assoc]
  · rfl
def shR (D0 : List Pd) (r : RR (Pd × List Pd × List Nat × Nat × List Tk)) : RR (Pd × List Pd × List Nat × Nat × List Tk) := rb r fun x => .inr (x.1, D0 ++ x.2.1, x.2.2)
theorem rb_shR {α : Type} {r : RR α} {f : α → RR (Pd × List Pd × List Nat × Nat × List Tk)} : shR D0 (rb r f) = rb r (fun x => shR D0 (f x)) := by cases r <;> rfl
theorem aRun_sh : ∀ (k : Nat) (w : Bool) (S : List Fr) (D : List Pd) (U : List Nat) (p : Nat) (ts : List Tk), aRun segs k w S (D0 ++ D) U p ts = shR D0 (aRun segs k w S D U p ts)
  | 0, _, _, _, _, _, _ => rfl
  | k + 1, true, S, D, U, p, ts => by
    unfold aRun
    by_cases h1 : (hd ts).1 = 1
    · rw [if_pos h1, if_pos h1]; rfl
    rw [if_neg h1, if_neg h1]
    by_cases h2 : (hd ts).1 = 30
    · rw [if_pos h2, if_pos h2]
      by_cases h3 : 21 ≤ S.length
      · rw [if_pos h3, if_pos h3]; rfl
      · rw [if_neg h3, if_neg h3, rb_shR]
        congr 1
        funext p'
        exact aRun_sh k true _ D U p' _
    rw [if_neg h2, if_neg h2]
    by_cases h4 : (hd ts).1 = 7
    · rw [if_pos h4, if_pos h4]
      by_cases h3 : 21 ≤ S.length
      · rw [if_pos h3, if_pos h3]; rfl
      · rw [if_neg h3, if_neg h3]
        exact aRun_sh k true _ D U p _
    rw [if_neg h4, if_neg h4, rb_shR]
    congr 1
    funext x
    rw [List.append_assoc, agv_sh2]
    exact aRun_sh k false _ _ _ _ _
  | k + 1, false, S, D, U, p, ts => by
    unfold aRun
    rw [eAnd_sh, eOr_sh, agv_sh2]
    by_cases h1 : (hd ts).1 = 1
    · rw [if_pos h1, if_pos h1]; rfl
    rw [if_neg h1, if_neg h1]
    by_cases h2 : (hd ts).1 = 32
    · rw [if_pos h2, if_pos h2]
      split
      · rw [rb_shR]
        congr 1
        funext p'
        exact aRun_sh k true _ D U p' _
      · exact aRun_sh k true S D U p _
    rw [if_neg h2, if_neg h2]
    by_cases h4 : (hd ts).1 = 31
    · rw [if_pos h4, if_pos h4]
      split
      · rw [rb_shR]
        congr 1
        funext p'
        exact aRun_sh k true _ _ _ p' _
      · exact aRun_sh k true _ _ _ p _
    rw [if_neg h4, if_neg h4]
    by_cases h5 : 2 ≤ S.length
    · rw [if_pos h5, if_pos h5]
      by_cases h6 : (hd ts).1 = 8
      · rw [if_pos h6, if_pos h6]
        exact aRun_sh k false _ _ _ p _
      · rw [if_neg h6, if_neg h6]; rfl
    · rw [if_neg h5, if_neg h5]; rfl
/-! tokens -/
theorem tksP_gd : ∀ (k p : Nat), p ≤ T.length → T.length - p < k → gdT (tksF T k p) ∧ (tksF T k p).length ≤ T.length - p + 1
  | 0, p, _, h => by omega
  | k + 1, p, hp, h => by
    unfold tksF
    by_cases c : (tokB T p).1.1 ≤ 1
    · rw [if_pos c]
      exact ⟨⟨[], _, rfl, c, fun t ht => by cases ht⟩, by show 1 ≤ _; omega⟩
    · rw [if_neg c]
      obtain ⟨e1, e2, e3⟩ := tokB_end hp (by omega)
      have e2 := e2 (by omega)
      obtain ⟨⟨i, l, g1, g2, g3⟩, g4⟩ := tksP_gd k (tokB T p).2 e1 (by omega)
      refine ⟨⟨(tokB T p).1 :: i, l, by rw [g1]; rfl, g2, fun t ht => ?_⟩, by rw [List.length_cons]; omega⟩
      rcases List.mem_cons.mp ht with rfl | ht
      · omega
      · exact g3 t ht
theorem ri_gd (h : RI X T fk (.inr ts)) : gdT ts ∧ ts.length ≤ 6001 := by
  obtain ⟨hT, h70, p, hp, e, hK⟩ := h
  have h6 := hT.2.1
  rw [e]
  have := tksP_gd (T := T) (T.length + 1 - p) p hp (by omega)
  exact ⟨this.1, by show (tksF T (T.length + 1 - p) p).length ≤ 6001; omega⟩
/-! what is kept of the parts -/
theorem PMn_m {m' : Nat} {DD : List Pd} {U : Nat → Prop} {x : Nat} (h : PMn X b m DD U x φ) (hm : m ≤ m') : PMn X b m' DD U x φ := by
  rcases h with h | h | h | h
  · exact Or.inl h
  · exact Or.inr (Or.inl h)
  · obtain ⟨h1, j, h2, h3⟩ := h
    exact Or.inr (Or.inr (Or.inl ⟨h1, j, by omega, h3⟩))
  · exact Or.inr (Or.inr (Or.inr h))
theorem Inv_tr {m' cb' : Nat} (h : Inv X b m fm cb [] D p P [] []) (hL : LN X1) (h4 : X1.1 4 = X.1 4) (hr : ∀ i, 49 ≤ i → i ≤ 58 → X1.2.2 i = X.2.2 i) (hs : SKa b X X1) (hc : ∃ c, cv X1 1 b = nI c ∧ c ≤ cb' + 2 * p) (hcb : cb' ≤ 640) (hm : m ≤ m') : Inv X1 b m' fm cb' [] D p [] [] [] := by
  have e : ∀ i j, 49 ≤ i → i ≤ 58 → cv X1 i j = cv X i j := fun i j h1 h2 => cv_of (hr i h1 h2)
  have e2 : ∀ i w, 50 ≤ i → i ≤ 56 → pv X1 b i w = pv X b i w := fun i w h1 h2 => e i _ (by omega) (by omega)
  obtain ⟨⟨a1, a2, a3⟩, ⟨b1, b2'⟩, ⟨c1, c2⟩, ⟨d1, _⟩, f, g, U, u1, u2, u3, u4, u5, u6, u7, u8⟩ := h
  exact ⟨⟨hL, by rw [h4]; exact a2, a3⟩, ⟨by rw [e _ _ (by omega) (by omega)]; exact b1, b2'⟩, ⟨by rw [e _ _ (by omega) (by omega)]; exact c1, c2⟩, ⟨hcb, hc⟩, trivial, fun i x hx => by rw [e _ _ (by omega) (by omega)]; exact g i x hx, U, fun i x hx => PMn_m (PMn_of (u1 i x hx) (fun i h1 h2 => e2 i _ h1 (by omega)) (fun u _ => ⟨e2 56 u (by omega) (by omega), fun i h1 h2 => e2 i u (by omega) (by omega)⟩) hs (fun _ q => q) (fun _ q => q)) hm, u2, fun x hx => (by cases hx), List.nodup_nil, u5, fun x hx => (by cases hx), u7, fun q hq => (by cases hq)⟩
theorem Inv_all (h : Inv X b m fm cb [] D p P L []) : Inv X b m (fm + D.length) cb [] [] p [] [] [] := by
  obtain ⟨⟨a1, a2, a3⟩, ⟨b1, b2'⟩, ⟨c1, c2⟩, ⟨d1, d2⟩, f, g, U, u1, u2, u3, u4, u5, u6, u7, u8⟩ := h
  exact ⟨⟨a1, a2, a3⟩, ⟨b1, b2'⟩, ⟨c1, c2⟩, ⟨d1, d2⟩, trivial, fun i x hx => (by cases hx), fun _ => False, fun i x hx => (by cases hx), fun u hu => hu.elim, fun x hx => (by cases hx), List.nodup_nil, List.nodup_nil, fun x hx => (by cases hx), fun q hq => (by cases hq), fun q hq => (by cases hq)⟩
/-- what readExpression leaves of all expressions -/
def ExA (X X1 : zX) (b m cb p : Nat) (segs : List (List Int32)) (v : Int32) (x : Den × List Tk × Nat) : Prop := ∃ c D, v = nI c ∧ (∀ fm D0, Inv X b m fm cb [] D0 p [] [] [] → Inv X1 b m fm cb [] (D0 ++ D) x.2.2 [(c, x.1)] [] []) ∧ SKa b X X1 ∧ CX X1 b segs ∧ p < x.2.2
theorem exp_all (hI0 : Inv X b m fm cb [] D p [] [] []) (hm : m = segs.length) (hR : RI X T fk (.inr ts)) (hC : CX X b segs) (hn : 6002 ≤ n) : ∃ v X1, g210 n X = some (v, X1) ∧ PO (fun x : Den × List Tk × Nat => x.2.1) X1 T fk (ExA X X1 b m cb p segs v) (sExp segs ts p) := by
  obtain ⟨hg, hl⟩ := ri_gd hR
  have hp4 : p ≤ 400 := hI0.2.1.2
  have hL : LN X := hI0.1.1
  obtain ⟨X2, hX2⟩ : ∃ X2, X2 = xF (xF X 75 0) 76 0 := ⟨_, rfl⟩
  have hL2 : LN X2 := by rw [hX2]; exact hL
  have hR2 : RI X2 T fk (.inr ts) := by rw [hX2]; exact RI_75 (RI_75 hR (Or.inl rfl)) (Or.inr rfl)
  have h75 : X2.1 75 = nI 0 := by rw [hX2, xF_1, if_neg (by decide), xF_1, if_pos rfl]; rfl
  have h76 : X2.1 76 = nI 0 := by rw [hX2, xF_1, if_pos rfl]; rfl
  have hpl := pile_ok (n := n) (X := X2) (q := -1) (t := 0) hL2 h75 (by omega)
  have hH3 : HT (nL X2 0 (-1)) [.inr (none, none, none)] := ⟨by show (xF _ 75 (nI (0 + 1))).1 75 = _; rw [xF_1, if_pos rfl]; rfl, by show (xF _ 75 (nI (0 + 1))).1 76 = _; rw [xF_1, if_neg (by decide)]; exact h76, by show 1 ≤ 21; omega⟩
  have hsk3 : SKa b X (nL X2 0 (-1)) := SKa_tr (SKa_of (X1 := X2) (by rw [hX2]; rfl) (by rw [hX2]; rfl) (by rw [hX2]; rfl)) nL_SK
  have hC3 : CX (nL X2 0 (-1)) b segs := CX_of hC (by rw [hX2]; rfl) (by rw [hX2]; rfl) hsk3
  have key : ∀ fm D0, Inv X b m fm cb [] D0 p [] [] [] → ∃ v X1, g210 n X = some (v, X1) ∧ LpP (nL X2 0 (-1)) X1 b m fm cb T fk segs v (shR D0 (aRun segs n true [.inr (none, none, none)] [] [] p ts)) := by
    intro fm D0 hI
    have hI2 : Inv X2 b m fm cb [] D0 p [] [] [] := Inv_tok hI (by rw [hX2]; rfl) (by rw [hX2]; rfl)
    have hI3 := Inv_par hI2 (by show 0 < 24; omega)
    obtain ⟨v, X1, z1, z2⟩ := loop_ok (fm := fm) (cb := cb) hm hn n true [.inr (none, none, none)] D0 [] p ts hI3 hH3 ⟨[], _, rfl⟩ (RI_nL hR2) hC3 hg hl (fun _ f hf => by rw [List.mem_singleton] at hf; cases hf; exact fun _ => rfl) (fun z => by cases z) (by omega)
    refine ⟨v, X1, ?_, ?_⟩
    · unfold g210 zlet
      dsimp only
      rw [← hX2, hpl]
      exact z1
    · rw [← aRun_sh, List.append_nil]
      exact z2
  obtain ⟨v, X1, e1, e2⟩ := key fm D hI0
  refine ⟨v, X1, e1, ?_⟩
  obtain ⟨q1, q2⟩ := aRun_exp (segs := segs) hg hp4
  cases hs : sExp segs ts p with
  | inl e =>
    rw [q1 e hs n (by omega)] at e2
    exact e2
  | inr x =>
    show if (hd x.2.1).1 = 1 then _ else _
    by_cases hb2 : (hd x.2.1).1 = 1
    · rw [if_pos hb2]
      rw [aRun_brk hg hp4 hs hb2 (by omega)] at e2
      have e2 : RI X1 T fk (.inl (sErr 2 (hd x.2.1))) := e2
      rw [sErr_brk hb2] at e2
      exact e2
    · rw [if_neg hb2]
      obtain ⟨_, q5, _, q3⟩ := q2 x hs
      obtain ⟨cc, D', U, q4⟩ := q3 n (by omega) hb2
      rw [q4] at e2
      obtain ⟨w1, w2, w3, w4, w5⟩ := e2
      refine ⟨w2, cc, D', w1, fun fm' D0 hI => ?_, SKa_tr hsk3 w4, w5, q5⟩
      obtain ⟨v', X1', y1, y2⟩ := key fm' D0 hI
      rw [e1] at y1
      cases y1
      rw [q4] at y2
      exact y2.2.2.1
end
end ZEX

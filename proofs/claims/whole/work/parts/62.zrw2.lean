/-! THE REFERENCE'S EXPRESSION: rows begin and end -/
section ZRW2
section
variable {n : Nat} {X X1 : zX} {b m p q fm cb : Nat} {S : List Fr} {D P L : List Pd} {Q : List Nat} {φ : Den} {U0 : List Nat}
theorem HT_lt {f : Fr} (h : HT X (f :: S)) : S.length < 24 := by
  have := h.2.2
  rw [List.length_cons] at this
  omega
theorem FRo_up {i t : Nat} {v : Int32} {o : Option (Nat × List Pd)} (h : FRo X b S.length o) (hi : 66 ≤ i ∧ i ≤ 67) : FRo (up X i t v) b S.length o := by
  cases o with
  | none =>
    show cv _ 64 _ = -1
    rw [cv_ne (by omega)]
    exact h
  | some w =>
    obtain ⟨q, lo⟩ := w
    obtain ⟨g1, g2, g3, g4⟩ := h
    exact ⟨by rw [cv_ne (by omega)]; exact g1, by rw [show pv (up X i t v) b 50 q = pv X b 50 q from cv_ne (by omega)]; exact g2, CHN_of g3 (cv_ne (by omega)) (fun w _ => cv_ne (by omega)), by rw [cv_ne (by omega)]; exact g4⟩
theorem FRS_pl {i t : Nat} {v : Int32} (f : FRS X b S) (hi : 63 ≤ i ∧ i ≤ 67) (ht : S.length ≤ t) : FRS (up X i t v) b S := FRS_of f (fun t' i' ht' _ _ => cv_ne (by omega)) (fun q _ => ⟨cv_ne (by omega), cv_ne (by omega)⟩) (fun x _ => cv_ne (by omega))
theorem endAnd_ok {o a : Option (Nat × List Pd)} {y : Option Pd} (h : Inv X b m fm cb (.inr (o, a, y) :: S) D p [] [] Q) (hH : HT X (.inr (o, a, y) :: S)) (hop : a ≠ none ∨ y ≠ none) : ∃ X1, g224 n X = some (nI (eAnd (o, a, y) D U0).1.1, X1) ∧ Inv X1 b m fm cb (.inr (o, none, none) :: S) (eAnd (o, a, y) D U0).2.1 p [(eAnd (o, a, y) D U0).1] [] Q ∧ X1.1 = X.1 ∧ ∀ i w, 50 ≤ i → i ≤ 56 → pv X1 b i w = pv X b i w := by
  have h0 := h
  obtain ⟨⟨a1, a2, a3⟩, ⟨b1, b2'⟩, ⟨c1, c2⟩, _, f, g, U, u1, u2, u3, u4, u5, u6, u7, u8⟩ := h
  obtain ⟨⟨f63, fo, fa⟩, fS⟩ := f
  have ht := HT_lt hH
  have hi := i75 hH
  have hF2 : ∀ {X : zX}, LN X → cv X 63 S.length = -1 → FRo X b S.length o → FRM (up (up X 66 S.length (-1)) 67 S.length (-1)) b S.length (.inr (o, none, none)) := by
    intro X hL h63 ho
    refine ⟨by rw [cv_ne (by omega), cv_ne (by omega)]; exact h63, FRo_up (FRo_up ho (by omega)) (by omega), by rw [cv_ne (by omega), cv_eq hL (by decide) ht], cv_eq (LN_up hL) (by decide) ht⟩
  have hpv : ∀ i w, i ≤ 56 → pv (up (up X 66 S.length (-1)) 67 S.length (-1)) b i w = pv X b i w := by
    intro i w hi
    unfold pv
    rw [cv_ne (by omega), cv_ne (by omega)]
  cases a with
  | some z =>
    obtain ⟨q, l⟩ := z
    obtain ⟨fy, f66, f50, fch, f67⟩ := fa
    subst fy
    have hmv := Inv_mv h0 (X1 := up (up X 66 S.length (-1)) 67 S.length (-1)) (S1 := .inr (o, none, none) :: S) (P1 := []) (L1 := l) (Q1 := q :: Q) (LN_up (LN_up a1)) rfl (fun i j hi => by rw [cv_ne (by omega), cv_ne (by omega)]) (SKa_up2 (by decide) (by decide)) ⟨hF2 a1 f63 fo, FRS_pl (FRS_pl fS (by omega) (Nat.le_refl _)) (by omega) (Nat.le_refl _)⟩ (List.perm_middle (l₁ := Q) (a := q) (l₂ := (o.map (·.1)).toList ++ opn S)).symm (by show ([] ++ (l ++ ((rowK none ++ ([] ++ rowK o)) ++ kids S))).Perm ([] ++ ([] ++ ((l ++ ([] ++ rowK o)) ++ kids S))); simp only [rowK, List.nil_append, List.append_assoc]; exact List.Perm.refl _) (fun x hx => by cases hx) (fun q' hq' => u8 q' (List.mem_append_right _ hq'))
    have hc := Inv_cmp (φ := dAnd (l.map (·.2))) (V := fun _ => False) hmv (by rw [hpv 56 q (by omega)]; exact u8 q (by simp [opn])) (fun U' hU' => Or.inr (Or.inr (Or.inr (Or.inr (Or.inr (Or.inl ⟨by rw [hpv 50 q (by omega)]; exact f50, l, CHN_of fch (hpv 55 q (by omega)) (fun w _ => hpv 56 w (by omega)), fun x hx => ⟨(u3 x (by show x ∈ [] ++ ([] ++ ((l ++ _) ++ _)); simp [hx])).1, Or.inr (Or.inr (List.mem_map.mpr ⟨x, by simpa using hx, rfl⟩))⟩, rfl⟩)))))) (fun u hu => hu.elim)
    have hcm : cP (up (up X 66 S.length (-1)) 67 S.length (-1)) b (fm + D.length) q = up (up (cP X b (fm + D.length) q) 66 S.length (-1)) 67 S.length (-1) := by
      unfold cP
      rw [up_comm (i := 67) (i' := 57) (by decide), up_comm (i := 66) (i' := 57) (by decide), up_comm (i := 67) (i' := 58) (by decide), up_comm (i := 66) (i' := 58) (by decide)]
    have c2' : fm + D.length < 400 := by
      have : (Q ++ opn (.inr (o, some (q, l), none) :: S)).length ≥ 1 := by
        rw [List.length_append]
        show _ + (q :: _).length ≥ 1
        rw [List.length_cons]
        omega
      omega
    have hq4 : q < 400 := opn_lt h0 (List.mem_append_right _ (by simp [opn]))
    refine ⟨_, ?_, hc, rfl, fun i w _ hi6 => ?_⟩
    · unfold g224
      refine rst (j := S.length) a1 (by decide) ht (by omega) hi ?_
      refine rst (j := S.length) a1 (by decide) ht (by omega) hi ?_
      rw [f66, if_neg (nI_m1 (by omega))]
      refine rst (j := S.length) a1 (by decide) ht (by omega) hi ?_
      rw [f66, compl a1 a2 a3 c1 c2']
      dsimp only [Option.bind_some]
      unfold gb224_36
      refine wst0 (j := S.length) (LN_up (LN_up a1)) (by decide) ht (by omega) hi ?_
      refine wst0 (j := S.length) (LN_up (LN_up (LN_up a1))) (by decide) ht (by omega) hi ?_
      rw [hcm]
      rfl
    · rw [hcm]
      unfold pv cP
      rw [cv_ne (by omega), cv_ne (by omega), cv_ne (by omega), cv_ne (by omega)]
  | none =>
    obtain ⟨f66, fy⟩ := fa
    cases y with
    | none => rcases hop with z | z <;> exact absurd rfl z
    | some x =>
      obtain ⟨f67, f56⟩ := fy
      have hmv := Inv_mv h0 (X1 := up (up X 66 S.length (-1)) 67 S.length (-1)) (S1 := .inr (o, none, none) :: S) (P1 := [x]) (L1 := []) (Q1 := Q) (LN_up (LN_up a1)) rfl (fun i j hi => by rw [cv_ne (by omega), cv_ne (by omega)]) (SKa_up2 (by decide) (by decide)) ⟨hF2 a1 f63 fo, FRS_pl (FRS_pl fS (by omega) (Nat.le_refl _)) (by omega) (Nat.le_refl _)⟩ (List.Perm.refl _) (by show ([x] ++ ([] ++ ((rowK none ++ ([] ++ rowK o)) ++ kids S))).Perm ([] ++ ([] ++ ((rowK none ++ ([x] ++ rowK o)) ++ kids S))); simp only [rowK, List.nil_append, List.append_assoc]; exact List.Perm.refl _) (fun z hz => by rw [List.mem_singleton] at hz; rw [hz]; exact f56) (fun q' hq' => u8 q' hq')
      refine ⟨_, ?_, hmv, rfl, fun i w _ hi6 => hpv i w hi6⟩
      unfold g224
      refine rst (j := S.length) a1 (by decide) ht (by omega) hi ?_
      refine rst (j := S.length) a1 (by decide) ht (by omega) hi ?_
      rw [f66, f67, if_pos rfl]
      unfold gb224_36
      refine wst0 (j := S.length) a1 (by decide) ht (by omega) hi ?_
      exact wst0 (j := S.length) (LN_up a1) (by decide) ht (by omega) hi rfl
theorem endOr_ok {o a : Option (Nat × List Pd)} {y : Option Pd} (h : Inv X b m fm cb (.inr (o, a, y) :: S) D p [] [] []) (hH : HT X (.inr (o, a, y) :: S)) (hop : a ≠ none ∨ y ≠ none) : ∃ X1, g225 n X = some (nI (eOr (o, a, y) D U0).1.1, X1) ∧ Inv X1 b m fm cb S (eOr (o, a, y) D U0).2.1 p [(eOr (o, a, y) D U0).1] [] [] ∧ X1.1 = X.1 := by
  have ht := HT_lt hH
  have hi := i75 hH
  obtain ⟨X1, e1, e2, e3, e4⟩ := endAnd_ok (n := n) (U0 := U0) h hH hop
  obtain ⟨x, hx⟩ : ∃ x, x = eAnd (o, a, y) D U0 := ⟨_, rfl⟩
  rw [← hx] at e1 e2
  have e2' := e2
  obtain ⟨⟨a1, a2, a3⟩, ⟨b1, b2'⟩, ⟨c1, c2⟩, _, f, g, U, u1, u2, u3, u4, u5, u6, u7, u8⟩ := e2
  obtain ⟨⟨f63, fo, fa⟩, fS⟩ := f
  unfold g225
  rw [e1]
  dsimp only [Option.bind_some]
  cases o with
  | none =>
    refine ⟨X1, ?_, ?_, e3⟩
    · refine rst (j := S.length) a1 (by decide) ht (by omega) hi ?_
      rw [show cv X1 64 S.length = -1 from fo, if_pos rfl, hx]
      rfl
    · have := Inv_re e2' (S1 := S) (P1 := [x.1]) (L1 := []) (Q1 := []) fS (List.Perm.refl _) (List.Perm.refl _) u6 (fun q' hq' => u8 q' hq')
      rw [hx] at this
      exact this
  | some z =>
    obtain ⟨q, l⟩ := z
    obtain ⟨g64, g50, gch, g65⟩ := fo
    obtain ⟨l0, w, hl, hw⟩ := lst_eq (chn_ne gch)
    rw [hw] at g65
    have hq4 : q < 400 := opn_lt e2' (by simp [opn])
    have hpop := Inv_re e2' (S1 := S) (Q1 := [q]) (P1 := [x.1]) (L1 := l) fS (List.Perm.refl _) (by show ([x.1] ++ (l ++ kids S)).Perm ([x.1] ++ ([] ++ ((rowK none ++ ([] ++ l)) ++ kids S))); simp only [rowK, List.nil_append]; exact List.Perm.refl _) u6 (fun q' hq' => u8 q' (List.mem_append_right _ (List.mem_append_right _ hq')))
    have hwD := (u3 w (by show w ∈ [x.1] ++ ([] ++ ((rowK none ++ ([] ++ l)) ++ kids S)); rw [hl]; simp)).1
    obtain ⟨iw, hiw⟩ := List.getElem?_of_mem hwD
    have hwp := (g iw w hiw).2
    obtain ⟨r1, r2⟩ := row_ext (q := q) hpop hl (List.Sublist.refl _) (fun _ z => z) gch
    have hc := Inv_cmp (φ := dOr ((l ++ [x.1]).map (·.2))) (V := fun _ => False) r1 (by rw [show pv (up X1 56 (400 * b + w.1) (nI x.1.1)) b 56 q = pv X1 b 56 q from cv_ne (by have := opn_D e2' (q := q) (by simp [opn]) w hwD; omega)]; exact u8 q (by simp [opn])) (fun U' hU' => Or.inr (Or.inr (Or.inr (Or.inr (Or.inl ⟨by rw [show pv (up X1 56 (400 * b + w.1) (nI x.1.1)) b 50 q = pv X1 b 50 q from cv_ne (by omega)]; exact g50, l ++ [x.1], r2, fun z hz => ⟨?_, Or.inr (Or.inr (List.mem_map.mpr ⟨z, by simpa using hz, rfl⟩))⟩, rfl⟩))))) (fun u hu => hu.elim)
    · have c2' : fm + x.2.1.length < 400 := by
        have : ([] ++ opn (.inr (some (q, l), none, none) :: S)).length = (opn S).length + 1 := rfl
        omega
      refine ⟨cP (up X1 56 (400 * b + w.1) (nI x.1.1)) b (fm + x.2.1.length) q, ?_, ?_, ?_⟩
      · refine rst (j := S.length) a1 (by decide) ht (by omega) hi ?_
        rw [g64, if_neg (nI_m1 (by omega))]
        refine rst (j := S.length) a1 (by decide) ht (by omega) hi ?_
        refine rst (j := S.length) a1 (by decide) ht (by omega) hi ?_
        rw [g64, g65, join1 a1 a2 a3 (by omega)]
        dsimp only [Option.bind_some]
        refine rst (j := S.length) (LN_up a1) (by decide) ht (by omega) hi ?_
        rw [cv_ne (by omega), g64, compl (LN_up a1) a2 a3 (by rw [cv_ne (by omega)]; exact c1) c2']
        rfl
      · show Inv _ b m fm cb S ((eAnd (some (q, l), a, y) D U0).2.1 ++ [(q, dOr ((l ++ [(eAnd (some (q, l), a, y) D U0).1]).map (·.2)))]) p [(q, dOr ((l ++ [(eAnd (some (q, l), a, y) D U0).1]).map (·.2)))] [] []
        rw [← hx]
        exact hc
      · exact e3
    · rcases List.mem_append.mp hz with hz | hz
      · exact (u3 z (by show z ∈ [x.1] ++ ([] ++ ((rowK none ++ ([] ++ l)) ++ kids S)); simp [hz])).1
      · rw [List.mem_singleton] at hz
        rw [hz]
        exact (u3 x.1 (by simp)).1
/-- a row of and begins -/
theorem begAnd_ok {o : Option (Nat × List Pd)} {x : Pd} (h : Inv X b m fm cb (.inr (o, none, some x) :: S) D p [] [] []) (hH : HT X (.inr (o, none, some x) :: S)) (h73 : X.1 73 = -1) (hp : p < 400) : ∃ X1, g223 n 0 X = some ((), X1) ∧ Inv X1 b m fm cb (.inr (o, some (p, [x]), none) :: S) D (p + 1) [] [] [] ∧ X1.1 = X.1 := by
  have ht := HT_lt hH
  have hi := i75 hH
  have h0 := h
  obtain ⟨⟨a1, a2, a3⟩, ⟨b1, b2'⟩, _⟩ := h
  have hn := Inv_new (k := 14) h0 hp
  have own := nP_own (k := (14 : Int32)) a1 a3 hp
  have hj := Inv_j0 (v := nI x.1) hn
  have hj' := hj
  obtain ⟨⟨d1, d2, d3⟩, _, _, _, f, _⟩ := hj
  obtain ⟨⟨f63, fo, f66, f67, f56⟩, fS⟩ := f
  have hF : FRM (up (up (nP X b p 14) 55 (400 * b + p) (nI x.1)) 66 S.length (nI p)) b S.length (.inr (o, some (p, [x]), none)) := by
    refine ⟨by rw [cv_ne (by omega)]; exact f63, FRo_up fo (by omega), rfl, cv_eq d1 (by decide) ht, ?_, ⟨by simp, ?_, ?_⟩, by rw [cv_ne (by omega)]; exact f67⟩
    · unfold pv
      rw [cv_ne (by omega), cv_ne (by omega)]
      exact own.1
    · show pv _ b 55 p = nI x.1
      unfold pv
      rw [cv_ne (by omega), cv_eq (LN_nP a1) (by decide) (by show 400 * b + p < 800; omega)]
    · show pv _ b 56 x.1 = -1
      unfold pv at f56 ⊢
      rw [cv_ne (by omega)]
      exact f56
  have hmv := Inv_mv hj' (X1 := up (up (nP X b p 14) 55 (400 * b + p) (nI x.1)) 66 S.length (nI p)) (S1 := .inr (o, some (p, [x]), none) :: S) (P1 := []) (L1 := []) (Q1 := []) (LN_up d1) rfl (fun i j hi => cv_ne (by omega)) (SKa_up (by decide) (by decide) (by decide)) ⟨hF, FRS_pl fS (by omega) (Nat.le_refl _)⟩ (List.Perm.refl _) (List.Perm.refl _) (fun x hx => by cases hx) (fun q' hq' => by
    rcases List.mem_cons.mp hq' with e | e
    · rw [e, show pv (up (nP X b p 14) 55 (400 * b + p) (nI x.1)) b 56 p = pv (nP X b p 14) b 56 p from cv_ne (by omega)]
      exact own.2.2.2.2.2.2.1
    · exact Inv_o hj' q' e)
  refine ⟨_, ?_, hmv, rfl⟩
  unfold g223 gb223_19
  rw [if_pos rfl, newP a1 a2 a3 h73 b1 hp]
  dsimp only [Option.bind_some]
  rw [if_pos (show (nP X b p 14).1 73 = -1 from h73), if_pos rfl]
  refine rst (j := S.length) (LN_nP a1) (by decide) ht (by omega) hi ?_
  have e67 : cv (nP X b p 14) 67 S.length = nI x.1 := by
    rw [cv_ne (by omega)] at f67
    exact f67
  rw [e67, join0 (LN_nP a1) a2 a3 hp]
  dsimp only [Option.bind_some]
  exact wst0 (j := S.length) d1 (by decide) ht (by omega) hi rfl
/-- a row of or begins -/
theorem begOr_ok {a : Option (Nat × List Pd)} {y : Option Pd} (h : Inv X b m fm cb (.inr (none, a, y) :: S) D p [] [] []) (hH : HT X (.inr (none, a, y) :: S)) (hop : a ≠ none ∨ y ≠ none) (h73 : X.1 73 = -1) (hp : p < 400) : ∃ X1, g223 n 1 X = some ((), X1) ∧ Inv X1 b m fm cb (.inr (some (p, [(eAnd (none, a, y) D U0).1]), none, none) :: S) (eAnd (none, a, y) D U0).2.1 (p + 1) [] [] [] ∧ X1.1 = X.1 := by
  have ht := HT_lt hH
  have hi := i75 hH
  have h0 := h
  obtain ⟨⟨a1, a2, a3⟩, ⟨b1, b2'⟩, _⟩ := h
  have hn := Inv_new (k := 13) h0 hp
  have own := nP_own (k := (13 : Int32)) a1 a3 hp
  obtain ⟨X2, e1, e2, e3, e4⟩ := endAnd_ok (n := n) (U0 := U0) hn hH hop
  obtain ⟨x, hx⟩ : ∃ x, x = eAnd (none, a, y) D U0 := ⟨_, rfl⟩
  rw [← hx] at e1 e2
  have hj := Inv_j0 (v := nI x.1.1) e2
  have hj' := hj
  obtain ⟨⟨d1, d2, d3⟩, _, _, _, f, _, U, u1, u2, u3, u4, u5, u6, u7, u8⟩ := hj
  obtain ⟨⟨f63, fo, f66, f67⟩, fS⟩ := f
  have hL2 : LN X2 := e2.1.1
  have hF : FRM (up (up (up X2 55 (400 * b + p) (nI x.1.1)) 64 S.length (nI p)) 65 S.length (nI x.1.1)) b S.length (.inr (some (p, [x.1]), none, none)) := by
    refine ⟨by rw [cv_ne (by omega), cv_ne (by omega)]; exact f63, ⟨by rw [cv_ne (by omega), cv_eq d1 (by decide) ht], ?_, ⟨by simp, ?_, ?_⟩, cv_eq (LN_up d1) (by decide) ht⟩, by rw [cv_ne (by omega), cv_ne (by omega)]; exact f66, by rw [cv_ne (by omega), cv_ne (by omega)]; exact f67⟩
    · have := e4 50 p (by omega) (by omega)
      unfold pv at this ⊢
      rw [cv_ne (by omega), cv_ne (by omega), cv_ne (by omega), this]
      exact own.1
    · show pv _ b 55 p = nI x.1.1
      unfold pv
      rw [cv_ne (by omega), cv_ne (by omega), cv_eq hL2 (by decide) (by show 400 * b + p < 800; omega)]
    · show pv _ b 56 x.1.1 = -1
      have := u6 x.1 (by simp)
      unfold pv at this ⊢
      rw [cv_ne (by omega), cv_ne (by omega)]
      exact this
  have hmv := Inv_mv hj' (X1 := up (up (up X2 55 (400 * b + p) (nI x.1.1)) 64 S.length (nI p)) 65 S.length (nI x.1.1)) (S1 := .inr (some (p, [x.1]), none, none) :: S) (P1 := []) (L1 := []) (Q1 := []) (LN_up (LN_up d1)) rfl (fun i j hi => by rw [cv_ne (by omega), cv_ne (by omega)]) (SKa_up2 (by decide) (by decide)) ⟨hF, FRS_pl (FRS_pl fS (by omega) (Nat.le_refl _)) (by omega) (Nat.le_refl _)⟩ (List.Perm.refl _) (List.Perm.refl _) (fun x hx => by cases hx) (fun q' hq' => by
    rcases List.mem_cons.mp hq' with e | e
    · rw [e, show pv (up X2 55 (400 * b + p) (nI x.1.1)) b 56 p = pv X2 b 56 p from cv_ne (by omega), e4 56 p (by omega) (by omega)]
      exact own.2.2.2.2.2.2.1
    · exact u8 q' e)
  rw [← hx]
  refine ⟨_, ?_, hmv, e3⟩
  have e3' : X2.1 = X.1 := e3
  unfold g223 gb223_19
  rw [if_neg (by decide), newP a1 a2 a3 h73 b1 hp]
  dsimp only [Option.bind_some]
  rw [if_pos (show (nP X b p 13).1 73 = -1 from h73), if_neg (by decide), e1]
  dsimp only [Option.bind_some]
  rw [join0 hL2 e2.1.2.1 a3 hp]
  dsimp only [Option.bind_some]
  refine wst0 (j := S.length) d1 (by decide) ht (by omega) hi ?_
  exact wst0 (j := S.length) (LN_up d1) (by decide) ht (by omega) hi rfl
/-- a row of or goes on -/
theorem conOr_ok {l : List Pd} {a : Option (Nat × List Pd)} {y : Option Pd} (h : Inv X b m fm cb (.inr (some (q, l), a, y) :: S) D p [] [] []) (hH : HT X (.inr (some (q, l), a, y) :: S)) (hop : a ≠ none ∨ y ≠ none) : ∃ X1, (∀ {α : Type} {F : zX → Option α} {R : Option α}, ((F X1 = R) → ((g224 n X).bind fun p33 => (rd (p33.2.2.2 64) (nI S.length)).bind fun x36 => (rd (p33.2.2.2 65) (nI S.length)).bind fun x39 => (g220 n x36 x39 p33.1 p33.2).bind fun p41 => (wr p41.2 65 (nI S.length) p33.1).bind F) = R)) ∧ Inv X1 b m fm cb (.inr (some (q, l ++ [(eAnd (some (q, l), a, y) D U0).1]), none, none) :: S) (eAnd (some (q, l), a, y) D U0).2.1 p [] [] [] ∧ X1.1 = X.1 ∧ X1.2.2 0 = X.2.2 0 ∧ X1.2.2 1 = X.2.2 1 ∧ X1.2.2 2 = X.2.2 2 ∧ X1.2.2 3 = X.2.2 3 ∧ X1.2.2 4 = X.2.2 4 ∧ X1.2.2 5 = X.2.2 5 := by
  have ht := HT_lt hH
  obtain ⟨X2, e1, e2, e3, e4⟩ := endAnd_ok (n := n) (U0 := U0) h hH hop
  have hw24 := w224 e1
  obtain ⟨x, hx⟩ : ∃ x, x = eAnd (some (q, l), a, y) D U0 := ⟨_, rfl⟩
  rw [← hx] at e1 e2
  have e2' := e2
  obtain ⟨⟨a1, a2, a3⟩, ⟨b1, b2'⟩, _, _, f, g, U, u1, u2, u3, u4, u5, u6, u7, u8⟩ := e2
  obtain ⟨⟨f63, ⟨g64, g50, gch, g65⟩, f66, f67⟩, fS⟩ := f
  obtain ⟨l0, w, hl, hw⟩ := lst_eq (chn_ne gch)
  rw [hw] at g65
  have hq4 : q < 400 := opn_lt e2' (by simp [opn])
  have hpop := Inv_re e2' (S1 := S) (Q1 := [q]) (P1 := [x.1]) (L1 := l) fS (List.Perm.refl _) (by show ([x.1] ++ (l ++ kids S)).Perm ([x.1] ++ ([] ++ ((rowK none ++ ([] ++ l)) ++ kids S))); simp only [rowK, List.nil_append]; exact List.Perm.refl _) u6 (fun q' hq' => u8 q' (List.mem_append_right _ (List.mem_append_right _ hq')))
  have hwD := (u3 w (by show w ∈ [x.1] ++ ([] ++ ((rowK none ++ ([] ++ l)) ++ kids S)); rw [hl]; simp)).1
  obtain ⟨iw, hiw⟩ := List.getElem?_of_mem hwD
  have hwp := (g iw w hiw).2
  obtain ⟨r1, r2⟩ := row_ext (q := q) hpop hl (List.Sublist.refl _) (fun _ z => z) gch
  have r3 := Inv_pl (i := 65) (t := S.length) (v := nI x.1.1) r1 (by omega) (Nat.le_refl _)
  have hF : FRM (up (up X2 56 (400 * b + w.1) (nI x.1.1)) 65 S.length (nI x.1.1)) b S.length (.inr (some (q, l ++ [x.1]), none, none)) := by
    refine ⟨by rw [cv_ne (by omega), cv_ne (by omega)]; exact f63, ⟨by rw [cv_ne (by omega), cv_ne (by omega)]; exact g64, ?_, CHN_of r2 (cv_ne (by omega)) (fun w _ => cv_ne (by omega)), ?_⟩, by rw [cv_ne (by omega), cv_ne (by omega)]; exact f66, by rw [cv_ne (by omega), cv_ne (by omega)]; exact f67⟩
    · unfold pv at g50 ⊢
      rw [cv_ne (by omega), cv_ne (by omega)]
      exact g50
    · rw [cv_eq (LN_up a1) (by decide) ht, List.map_append, List.map_singleton, List.getLastD_concat]
  rw [← hx]
  refine ⟨up (up X2 56 (400 * b + w.1) (nI x.1.1)) 65 S.length (nI x.1.1), fun hFX => ?_, Inv_re r3 ⟨hF, r3.2.2.2.2.1⟩ (List.Perm.refl _) ?_ (fun w hw => by cases hw) (fun q' hq' => by rw [show pv (up (up X2 56 (400 * b + w.1) (nI x.1.1)) 65 S.length (nI x.1.1)) b 56 q' = pv X2 b 56 q' from by unfold pv; rw [cv_ne (by omega), cv_ne (by have := opn_D e2' (q := q') hq' w hwD; omega)]]; exact u8 q' hq'), e3, hw24.2.2.1 0 rfl, hw24.2.2.1 1 rfl, hw24.2.2.1 2 rfl, hw24.2.2.1 3 rfl, hw24.2.2.1 4 rfl, hw24.2.2.1 5 rfl⟩
  · rw [e1]
    dsimp only [Option.bind_some]
    refine rst (j := S.length) a1 (by decide) ht (by omega) rfl ?_
    refine rst (j := S.length) a1 (by decide) ht (by omega) rfl ?_
    rw [g64, g65, join1 a1 a2 a3 (by omega)]
    dsimp only [Option.bind_some]
    exact wst0 (j := S.length) (LN_up a1) (by decide) ht (by omega) rfl hFX
  · show ([] ++ ([] ++ ((rowK none ++ ([] ++ (l ++ [x.1]))) ++ kids S))).Perm ([] ++ (l ++ [x.1] ++ kids S))
    simp only [rowK, List.nil_append]
    exact List.Perm.refl _
end
end ZRW2

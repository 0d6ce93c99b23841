/-! THE REFERENCE'S EXPRESSION: its steps -/
section ZRQ
section
variable {n : Nat} {X X1 : zX} {b m p q fm cb : Nat} {S : List Fr} {D P L : List Pd} {Q : List Nat} {φ : Den}
theorem nL_cv {t : Nat} {w : Int32} {i j : Nat} (h : ¬ (63 ≤ i ∧ i ≤ 67 ∧ j = t)) : cv (nL X t w) i j = cv X i j := by
  unfold nL
  rw [cv_xF, cv_ne (by omega), cv_ne (by omega), cv_ne (by omega), cv_ne (by omega), cv_ne (by omega)]
theorem nL_own {t : Nat} {w : Int32} (hL : LN X) (ht : t < 24) : cv (nL X t w) 63 t = w ∧ cv (nL X t w) 64 t = -1 ∧ cv (nL X t w) 66 t = -1 ∧ cv (nL X t w) 67 t = -1 := by
  unfold nL
  refine ⟨?_, ?_, ?_, ?_⟩
  · rw [cv_xF, cv_ne (by omega), cv_ne (by omega), cv_ne (by omega), cv_ne (by omega), cv_eq hL (by decide) ht]
  · rw [cv_xF, cv_ne (by omega), cv_ne (by omega), cv_ne (by omega), cv_eq (LN_up hL) (by decide) ht]
  · rw [cv_xF, cv_ne (by omega), cv_eq (LN_up (LN_up (LN_up hL))) (by decide) ht]
  · rw [cv_xF, cv_eq (LN_up (LN_up (LN_up (LN_up hL)))) (by decide) ht]
theorem nL_LN {t : Nat} {w : Int32} (hL : LN X) : LN (nL X t w) := LN_xF (LN_up (LN_up (LN_up (LN_up (LN_up hL)))))
theorem nL_SK {t : Nat} {w : Int32} : SKa b X (nL X t w) := SKa_tr (SKa_up2 (i := 63) (i' := 64) (j := t) (j' := t) (v := w) (v' := -1) (by decide) (by decide)) (SKa_tr (SKa_up2 (i := 65) (i' := 66) (j := t) (j' := t) (v := -1) (v' := -1) (by decide) (by decide)) (SKa_tr (SKa_up (i := 67) (j := t) (v := -1) (by decide) (by decide) (by decide)) (SKa_of rfl rfl rfl)))
/-- a step that leaves parts as they are, and of the pile what S needs -/
theorem Inv_mv {S1 : List Fr} {Q1 : List Nat} {P1 L1 : List Pd} (h : Inv X b m fm cb S D p P L Q) (hL : LN X1) (h4 : X1.1 4 = X.1 4) (hcv : ∀ i j, ¬ (63 ≤ i ∧ i ≤ 67) → cv X1 i j = cv X i j) (hs : SKa b X X1) (hF : FRS X1 b S1) (hq : (Q1 ++ opn S1).Perm (Q ++ opn S)) (hk : (P1 ++ (L1 ++ kids S1)).Perm (P ++ (L ++ kids S))) (hP : ∀ x ∈ P1, pv X b 56 x.1 = -1) (hO : ∀ q ∈ opn S1, pv X b 56 q = -1) : Inv X1 b m fm cb S1 D p P1 L1 Q1 := by
  obtain ⟨⟨a1, a2, a3⟩, ⟨b1, b2'⟩, ⟨c1, c2⟩, ⟨d1, c, d2, d3⟩, f, g, U, u1, u2, u3, u4, u5, u6, u7, u8⟩ := h
  have hp : ∀ i x, i ≤ 56 → pv X1 b i x = pv X b i x := fun i x hi => hcv i _ (by omega)
  refine ⟨⟨hL, by rw [h4]; exact a2, a3⟩, ⟨by rw [hcv _ _ (by omega)]; exact b1, b2'⟩, ⟨by rw [hcv _ _ (by omega)]; exact c1, by rw [hq.length_eq]; exact c2⟩, ⟨d1, c, by rw [hcv _ _ (by omega)]; exact d2, d3⟩, hF, fun i x hx => by rw [hcv _ _ (by omega)]; exact g i x hx, U, fun i x hx => PMn_of (u1 i x hx) (fun i _ h2 => hp i _ (by omega)) (fun u _ => ⟨hp 56 u (by omega), fun i _ h2 => hp i u (by omega)⟩) hs (fun _ q => q) (fun _ q => q), u2, fun x hx => u3 x (hk.mem_iff.mp hx), (hk.map _).nodup_iff.mpr u4, (List.Perm.append_left _ hq).nodup_iff.mpr u5, fun x hx => by rw [hp 56 _ (by omega)]; exact hP x hx, fun q hq' => u7 q (hq.mem_iff.mp hq'), fun q hq' => by rw [hp 56 _ (by omega)]; exact hO q hq'⟩
theorem SKa_refl : SKa b X X := fun _ _ a h => ⟨a, h⟩
/-- the same state, looked at otherwise -/
theorem Inv_re {S1 : List Fr} {Q1 : List Nat} {P1 L1 : List Pd} (h : Inv X b m fm cb S D p P L Q) (hF : FRS X b S1) (hq : (Q1 ++ opn S1).Perm (Q ++ opn S)) (hk : (P1 ++ (L1 ++ kids S1)).Perm (P ++ (L ++ kids S))) (hP : ∀ x ∈ P1, pv X b 56 x.1 = -1) (hO : ∀ q ∈ opn S1, pv X b 56 q = -1) : Inv X b m fm cb S1 D p P1 L1 Q1 := Inv_mv h h.1.1 rfl (fun _ _ _ => rfl) SKa_refl hF hq hk hP hO
theorem Inv_o (h : Inv X b m fm cb S D p P L Q) : ∀ q ∈ opn S, pv X b 56 q = -1 := by
  obtain ⟨_, _, _, _, _, _, U, u1, u2, u3, u4, u5, u6, u7, u8⟩ := h
  exact u8
theorem FRS_nL {w : Int32} (h : FRS X b S) : FRS (nL X S.length w) b S := FRS_of h (fun t i ht _ _ => nL_cv (by omega)) (fun q _ => ⟨nL_cv (by omega), nL_cv (by omega)⟩) (fun x _ => nL_cv (by omega))
/-- a not is laid on the pile -/
theorem Inv_not (h : Inv X b m fm cb S D p [] [] [q]) (hk : pv X b 50 q = 12) (h56 : pv X b 56 q = -1) (ht : S.length < 24) : Inv (nL X S.length (nI q)) b m fm cb (.inl q :: S) D p [] [] [] := by
  have h' := h
  obtain ⟨⟨a1, a2, a3⟩, _, _, _, f, _⟩ := h
  have own := nL_own (w := nI q) a1 ht
  exact Inv_mv h' (nL_LN a1) rfl (fun i j hi => nL_cv (by omega)) nL_SK ⟨⟨own.1, by show pv _ b 50 q = 12; unfold pv; rw [nL_cv (by omega)]; exact hk⟩, FRS_nL f⟩ (List.Perm.refl _) (List.Perm.refl _) (fun x hx => by cases hx) (fun q' hq' => by rcases List.mem_cons.mp hq' with e | e; rw [e]; exact h56; exact Inv_o h' q' e)
/-- an open bracket -/
theorem Inv_par (h : Inv X b m fm cb S D p [] [] []) (ht : S.length < 24) : Inv (nL X S.length (-1)) b m fm cb (.inr (none, none, none) :: S) D p [] [] [] := by
  have h' := h
  obtain ⟨⟨a1, a2, a3⟩, _, _, _, f, _⟩ := h
  have own := nL_own (w := (-1 : Int32)) a1 ht
  exact Inv_mv h' (nL_LN a1) rfl (fun i j hi => nL_cv (by omega)) nL_SK ⟨⟨own.1, own.2.1, own.2.2.1, own.2.2.2⟩, FRS_nL f⟩ (List.Perm.refl _) (List.Perm.refl _) (fun x hx => by cases hx) (fun q' hq' => Inv_o h' q' hq')
/-- a cell of the pile at or above the top -/
theorem Inv_pl {i t : Nat} {v : Int32} (h : Inv X b m fm cb S D p P L Q) (hi : 63 ≤ i ∧ i ≤ 67) (ht : S.length ≤ t) : Inv (up X i t v) b m fm cb S D p P L Q := by
  have h' := h
  obtain ⟨⟨a1, a2, a3⟩, _, _, _, f, _, U, u1, u2, u3, u4, u5, u6, u7, u8⟩ := h
  refine Inv_mv h' (LN_up a1) rfl (fun i' j hi' => cv_ne (by omega)) (SKa_up (by omega) (by omega) (by omega)) (FRS_of f (fun t' i' ht' _ _ => cv_ne (by omega)) (fun q _ => ⟨cv_ne (by omega), cv_ne (by omega)⟩) (fun x _ => cv_ne (by omega))) (List.Perm.refl _) (List.Perm.refl _) u6 u8
theorem opn_D (h : Inv X b m fm cb S D p P L Q) {q : Nat} (hq : q ∈ Q ++ opn S) : ∀ x ∈ D, x.1 ≠ q := by
  obtain ⟨_, _, _, _, _, _, U, u1, u2, u3, u4, u5, u6, u7, u8⟩ := h
  intro x hx e
  rw [List.nodup_append] at u5
  exact u5.2.2 x.1 (List.mem_map.mpr ⟨x, hx, rfl⟩) q hq e
/-- first of a part in hand -/
theorem Inv_j0 {v : Int32} (h : Inv X b m fm cb S D p P L (q :: Q)) : Inv (up X 55 (400 * b + q) v) b m fm cb S D p P L (q :: Q) := by
  have h' := h
  have hqD := opn_D h (q := q) (by simp)
  obtain ⟨⟨a1, a2, a3⟩, ⟨b1, b2'⟩, ⟨c1, c2⟩, ⟨d1, c, d2, d3⟩, f, g, U, u1, u2, u3, u4, u5, u6, u7, u8⟩ := h
  have hqo : ∀ q' ∈ opn S, q' ≠ q := by
    intro q' hq' e
    rw [List.nodup_append] at u5
    have := u5.2.1
    rw [List.cons_append, List.nodup_cons] at this
    exact this.1 (by rw [← e]; exact List.mem_append_right _ hq')
  have hp : ∀ i x, i ≠ 55 ∨ x ≠ q → pv (up X 55 (400 * b + q) v) b i x = pv X b i x := fun i x hx => cv_ne (by omega)
  have hs : SKa b X (up X 55 (400 * b + q) v) := SKa_up (by decide) (by decide) (by decide)
  refine ⟨⟨LN_up a1, a2, a3⟩, ⟨by rw [cv_ne (by omega)]; exact b1, b2'⟩, ⟨by rw [cv_ne (by omega)]; exact c1, c2⟩, ⟨d1, c, by rw [cv_ne (by omega)]; exact d2, d3⟩, FRS_of f (fun t i _ _ _ => cv_ne (by omega)) (fun q' hq' => ⟨hp 50 q' (by omega), hp 55 q' (Or.inr (hqo q' hq'))⟩) (fun x _ => hp 56 _ (by omega)), fun i x hx => by rw [cv_ne (by omega)]; exact g i x hx, U, fun i x hx => PMn_of (u1 i x hx) (fun i' _ _ => hp i' _ (Or.inr (hqD x (List.mem_of_getElem? hx)))) (fun u _ => ⟨hp 56 u (by omega), fun i _ h2 => hp i u (by omega)⟩) hs (fun _ q => q) (fun _ q => q), u2, u3, u4, u5, fun x hx => by rw [hp 56 _ (by omega)]; exact u6 x hx, u7, fun q' hq' => by rw [hp 56 _ (by omega)]; exact u8 q' hq'⟩
/-- next of a part that hangs on a row in hand: the part in hand -/
theorem Inv_j1 {x y : Pd} {v : Int32} (h : Inv X b m fm cb S D p [x] L Q) (hy : y ∈ L) : Inv (up X 56 (400 * b + y.1) v) b m fm cb S D p [] (L ++ [x]) Q := by
  have hyo : ∀ q ∈ Q ++ opn S, y.1 ≠ q := fun q hq => by
    have h0 := h
    obtain ⟨_, _, _, _, _, _, U, u1, u2, u3, u4, u5, u6, u7, u8⟩ := h
    exact opn_D h0 hq y (u3 y (List.mem_append_right _ (List.mem_append_left _ hy))).1
  obtain ⟨⟨a1, a2, a3⟩, ⟨b1, b2'⟩, ⟨c1, c2⟩, ⟨d1, c, d2, d3⟩, f, g, U, u1, u2, u3, u4, u5, u6, u7, u8⟩ := h
  have hp : ∀ i z, i ≠ 56 ∨ z ≠ y.1 → pv (up X 56 (400 * b + y.1) v) b i z = pv X b i z := fun i z hz => cv_ne (by omega)
  have hs : SKa b X (up X 56 (400 * b + y.1) v) := SKa_up (by decide) (by decide) (by decide)
  have hU : ∀ u, U u → u ≠ y.1 := fun u hu e => (u3 y (List.mem_append_right _ (List.mem_append_left _ hy))).2 (by rw [← e]; exact hu)
  have hkd : ∀ z ∈ kids S, z.1 ≠ y.1 := by
    intro z hz e
    rw [List.map_append, List.map_append, List.nodup_append] at u4
    have := u4.2.1
    rw [List.nodup_append] at this
    exact this.2.2 y.1 (List.mem_map.mpr ⟨y, hy, rfl⟩) z.1 (List.mem_map.mpr ⟨z, hz, rfl⟩) e.symm
  have hk : ([] ++ (L ++ [x] ++ kids S)).Perm ([x] ++ (L ++ kids S)) := by
    rw [List.nil_append, List.append_assoc, List.singleton_append]
    exact List.perm_middle
  refine ⟨⟨LN_up a1, a2, a3⟩, ⟨by rw [cv_ne (by omega)]; exact b1, b2'⟩, ⟨by rw [cv_ne (by omega)]; exact c1, c2⟩, ⟨d1, c, by rw [cv_ne (by omega)]; exact d2, d3⟩, FRS_of f (fun t i _ _ _ => cv_ne (by omega)) (fun q' hq' => ⟨hp 50 q' (by omega), hp 55 q' (by omega)⟩) (fun z hz => hp 56 _ (Or.inr (hkd z hz))), fun i x hx => by rw [cv_ne (by omega)]; exact g i x hx, U, fun i x hx => PMn_of (u1 i x hx) (fun i' _ _ => hp i' _ (by omega)) (fun u hu => ⟨hp 56 u (Or.inr (hU u hu)), fun i _ h2 => hp i u (by omega)⟩) hs (fun _ q => q) (fun _ q => q), u2, fun z hz => u3 z (hk.mem_iff.mp hz), (hk.map _).nodup_iff.mpr u4, u5, fun x hx => (by cases hx), u7, fun q' hq' => by rw [hp 56 _ (Or.inr (fun e => hyo q' (List.mem_append_right _ hq') e.symm))]; exact u8 q' hq'⟩
/-- a part is completed -/
def cP (X : zX) (b c q : Nat) : zX := up (up X 57 (400 * b + c) (nI q)) 58 b (nI (c + 1))
theorem cP_cv {c : Nat} {i j : Nat} (h : ¬ (i = 57 ∧ j = 400 * b + c)) (h2 : ¬ (i = 58 ∧ j = b)) : cv (cP X b c q) i j = cv X i j := by
  unfold cP
  rw [cv_ne (by omega), cv_ne (by omega)]
theorem cP_SK {c : Nat} : SKa b X (cP X b c q) := SKa_up2 (by decide) (by decide)
/-- completing the part q that is in hand: its meaning is known; parts of V are used up -/
theorem Inv_cmp {V : Nat → Prop} (h : Inv X b m fm cb S D p P L (q :: Q)) (h56 : pv X b 56 q = -1) (hU : ∀ U : Nat → Prop, (∀ u, U u → u < p) → PMn X b m D (fun u => U u ∨ V u ∨ u ∈ (P ++ L).map (·.1)) q φ) (hV : ∀ u, V u → u < p ∧ (∀ x ∈ kids S, x.1 ≠ u) ∧ u ≠ q ∧ u ∉ Q ++ opn S) : Inv (cP X b (fm + D.length) q) b m fm cb S (D ++ [(q, φ)]) p [(q, φ)] [] Q := by
  obtain ⟨⟨a1, a2, a3⟩, ⟨b1, b2'⟩, ⟨c1, c2⟩, ⟨d1, c, d2, d3⟩, f, g, U, u1, u2, u3, u4, u5, u6, u7, u8⟩ := h
  rw [List.cons_append, List.length_cons] at c2
  have hc4 : fm + D.length < 400 := by omega
  have hqp := u7 q (by simp)
  have hpv : ∀ i x, i ≤ 56 → pv (cP X b (fm + D.length) q) b i x = pv X b i x := fun i x hi => cP_cv (by omega) (by omega)
  have hqD : ∀ x ∈ D, x.1 ≠ q := by
    intro x hx e
    rw [List.nodup_append] at u5
    exact u5.2.2 x.1 (List.mem_map.mpr ⟨x, hx, rfl⟩) q (by simp) e
  have hV' : ∀ u, (V u ∨ u ∈ (P ++ L).map (·.1)) → u < p ∧ (∀ x ∈ kids S, x.1 ≠ u) ∧ u ≠ q ∧ u ∉ Q ++ opn S := by
    intro u hu
    rcases hu with hu | hu
    · exact hV u hu
    · obtain ⟨x, hx, rfl⟩ := List.mem_map.mp hu
      have hxD := (u3 x (by rw [← List.append_assoc]; exact List.mem_append_left _ hx)).1
      obtain ⟨i, hi⟩ := List.getElem?_of_mem hxD
      refine ⟨(g i x hi).2, fun z hz e => ?_, hqD x hxD, fun hm => ?_⟩
      · rw [← List.append_assoc, List.map_append, List.nodup_append] at u4
        exact u4.2.2 x.1 (List.mem_map.mpr ⟨x, hx, rfl⟩) z.1 (List.mem_map.mpr ⟨z, hz, rfl⟩) e.symm
      · rw [List.nodup_append] at u5
        exact u5.2.2 x.1 (List.mem_map.mpr ⟨x, hxD, rfl⟩) x.1 (by rw [List.cons_append]; exact List.mem_cons_of_mem _ hm) rfl
  refine ⟨⟨LN_up (LN_up a1), a2, a3⟩, ⟨by rw [cP_cv (by omega) (by omega)]; exact b1, b2'⟩, ⟨?_, ?_⟩, ⟨d1, c, by rw [cP_cv (by omega) (by omega)]; exact d2, d3⟩, ?_, ?_, fun u => U u ∨ V u ∨ u ∈ (P ++ L).map (·.1), ?_, ?_, ?_, ?_, ?_, ?_, ?_, ?_⟩
  · rw [List.length_append]
    show cv (up (up X 57 _ _) 58 b _) 58 b = nI (fm + (D.length + 1))
    rw [cv_eq (LN_up a1) (by decide) (by show b < 2; omega)]
    congr 1
  · rw [List.length_append]
    show fm + (D.length + 1) + _ ≤ p
    omega
  · exact FRS_of f (fun t i _ _ _ => cP_cv (by omega) (by omega)) (fun q _ => ⟨hpv 50 q (by omega), hpv 55 q (by omega)⟩) (fun x _ => hpv 56 _ (by omega))
  · intro i x hx
    rcases Nat.lt_or_ge i D.length with hi | hi
    · rw [List.getElem?_append_left hi] at hx
      have := g i x hx
      rw [cP_cv (by omega) (by omega)]
      exact this
    · rw [List.getElem?_append_right hi] at hx
      have hi0 : i - D.length = 0 := by
        rcases Nat.eq_zero_or_pos (i - D.length) with z | z
        · exact z
        · rw [List.getElem?_eq_none (by show 1 ≤ _; omega)] at hx; cases hx
      rw [hi0] at hx
      cases hx
      have : i = D.length := by omega
      subst this
      refine ⟨?_, hqp.1⟩
      show cv (up (up X 57 _ _) 58 b _) 57 _ = _
      rw [cv_ne (by omega), cv_eq a1 (by decide) (by show 400 * b + (fm + D.length) < 800; omega)]
  · intro i x hx
    rcases Nat.lt_or_ge i D.length with hi | hi
    · rw [List.getElem?_append_left hi] at hx
      rw [List.take_append_of_le_length (by omega)]
      exact PMn_of (u1 i x hx) (fun i _ h2 => hpv i _ (by omega)) (fun u _ => ⟨hpv 56 u (by omega), fun i _ h2 => hpv i u (by omega)⟩) cP_SK (fun _ q => Or.inl q) (fun _ q => q)
    · rw [List.getElem?_append_right hi] at hx
      have hi0 : i - D.length = 0 := by
        rcases Nat.eq_zero_or_pos (i - D.length) with z | z
        · exact z
        · rw [List.getElem?_eq_none (by show 1 ≤ _; omega)] at hx; cases hx
      rw [hi0] at hx
      cases hx
      have : i = D.length := by omega
      subst this
      rw [List.take_left]
      exact PMn_of (hU U u2) (fun i _ h2 => hpv i _ (by omega)) (fun u _ => ⟨hpv 56 u (by omega), fun i _ h2 => hpv i u (by omega)⟩) cP_SK (fun _ q => q) (fun _ q => q)
  · intro u hu
    rcases hu with hu | hu
    · exact u2 u hu
    · exact (hV' u hu).1
  · intro x hx
    rcases List.mem_append.mp hx with hx | hx
    · rw [List.mem_singleton] at hx
      subst hx
      refine ⟨by simp, fun hu => ?_⟩
      rcases hu with hu | hu
      · exact hqp.2 hu
      · exact (hV' q hu).2.2.1 rfl
    · rw [List.nil_append] at hx
      have := u3 x (List.mem_append_right _ (List.mem_append_right _ hx))
      refine ⟨List.mem_append_left _ this.1, fun hu => ?_⟩
      rcases hu with hu | hu
      · exact this.2 hu
      · exact (hV' _ hu).2.1 x hx rfl
  · rw [List.nil_append, List.singleton_append, List.map_cons, List.nodup_cons]
    refine ⟨?_, ?_⟩
    · intro hm
      obtain ⟨x, hx, e⟩ := List.mem_map.mp hm
      exact hqD x (u3 x (List.mem_append_right _ (List.mem_append_right _ hx))).1 e
    · rw [← List.append_assoc, List.map_append, List.nodup_append] at u4
      exact u4.2.1
  · rw [List.map_append, List.append_assoc]
    exact u5
  · intro x hx
    rw [List.mem_singleton] at hx
    subst hx
    rw [hpv 56 _ (by omega)]
    exact h56
  · intro q' hq'
    have := u7 q' (by rw [List.cons_append]; exact List.mem_cons_of_mem _ hq')
    refine ⟨this.1, fun hu => ?_⟩
    rcases hu with hu | hu
    · exact this.2 hu
    · exact (hV' q' hu).2.2.2 hq'
  · intro q' hq'
    rw [hpv 56 _ (by omega)]
    exact u8 q' hq'
theorem up_comm {i i' j j' : Nat} {v v' : Int32} (h : i ≠ i') : up (up X i j v) i' j' v' = up (up X i' j' v') i j v := by
  unfold up xA
  refine Prod.ext rfl (Prod.ext rfl (funext fun k => ?_))
  show uA (uA X.2.2 i _) i' _ k = uA (uA X.2.2 i' _) i _ k
  by_cases h1 : k = i
  · subst h1
    rw [uA_ne h, uA_self, uA_self]
    dsimp only
    rw [uA_ne h]
  · by_cases h2 : k = i'
    · subst h2
      rw [uA_self, uA_ne h1, uA_self]
      dsimp only
      rw [uA_ne h1]
    · rw [uA_ne h2, uA_ne h1, uA_ne h1, uA_ne h2]
theorem nxC_app {l : List Nat} {y c : Nat} (h : nxC X b (l ++ [y])) (hn : (l ++ [y]).Nodup) (hc : pv X b 56 c = -1) (hcy : c ≠ y) (hcl : c ∉ l) (hL : LN X) (hy : 400 * b + y < 800) : nxC (up X 56 (400 * b + y) (nI c)) b (l ++ [y] ++ [c]) := by
  have hp : ∀ z, z ≠ y → pv (up X 56 (400 * b + y) (nI c)) b 56 z = pv X b 56 z := fun z hz => cv_ne (by omega)
  have hy' : pv (up X 56 (400 * b + y) (nI c)) b 56 y = nI c := cv_eq hL (by decide) hy
  induction l with
  | nil => exact ⟨hy', by show pv _ b 56 c = -1; rw [hp c hcy]; exact hc⟩
  | cons a l ih =>
    rw [List.cons_append, List.nodup_cons] at hn
    have hay : a ≠ y := fun e => hn.1 (by rw [e]; simp)
    cases l with
    | nil => exact ⟨by rw [hp a hay]; exact h.1, ih h.2 hn.2 (by simp)⟩
    | cons d l => exact ⟨by rw [hp a hay]; exact h.1, ih h.2 hn.2 (fun hm => hcl (List.mem_cons_of_mem _ hm))⟩
theorem CHN_app {l : List Nat} {y c : Nat} (h : CHN X b q (l ++ [y])) (hn : (l ++ [y]).Nodup) (hc : pv X b 56 c = -1) (hcy : c ≠ y) (hcl : c ∉ l) (hL : LN X) (hy : 400 * b + y < 800) : CHN (up X 56 (400 * b + y) (nI c)) b q (l ++ [y] ++ [c]) := by
  refine ⟨by simp, ?_, nxC_app h.2.2 hn hc hcy hcl hL hy⟩
  rw [show pv (up X 56 (400 * b + y) (nI c)) b 55 q = pv X b 55 q from cv_ne (by omega), h.2.1]
  cases l <;> rfl
/-- the heights of the pile -/
def HT (X : zX) (S : List Fr) : Prop := X.1 75 = nI S.length ∧ X.1 76 = nI (S.length - 1) ∧ S.length ≤ 21
/-- at the bottom of the pile stands no not -/
def okB (S : List Fr) : Prop := ∃ S0 f, S = S0 ++ [.inr f]
/-- places that wait for a part -/
def wnt (S : List Fr) : Prop := ∀ f : Nf, .inr f ∈ S → f.2.1 = none → f.2.2 = none
theorem okB_tl {f : Fr} {S : List Fr} (h : okB (f :: S)) (hS : S ≠ []) : okB S := by
  obtain ⟨S0, g, e⟩ := h
  cases S0 with
  | nil => exact absurd (List.cons.inj e).2 hS
  | cons a S0 => exact ⟨S0, g, (List.cons.inj e).2⟩
theorem okB_not {q : Nat} {S : List Fr} (h : okB (.inl q :: S)) : okB S ∧ S ≠ [] := by
  have hS : S ≠ [] := by
    intro e
    obtain ⟨S0, g, e2⟩ := h
    rw [e] at e2
    cases S0 with
    | nil => cases e2
    | cons a S0 => have := (List.cons.inj e2).2; simp at this
  exact ⟨okB_tl h hS, hS⟩
theorem lst_eq {l : List Pd} (h : l ≠ []) : ∃ l0 y, l = l0 ++ [y] ∧ (l.map (·.1)).getLastD 0 = y.1 := by
  refine ⟨l.dropLast, l.getLast h, (List.dropLast_concat_getLast h).symm, ?_⟩
  conv => lhs; rw [← List.dropLast_concat_getLast h]
  rw [List.map_append, List.map_singleton, List.getLastD_concat]
theorem chn_ne {l : List Pd} (h : CHN X b q (l.map (·.1))) : l ≠ [] := fun e => h.1 (by rw [e]; rfl)
theorem row_nd {l : List Pd} {x : Pd} (h : Inv X b m fm cb S D p [x] L Q) (hl : ∀ z ∈ l, z ∈ L) (hs : (l.map (·.1)).Sublist (L.map (·.1))) : (l.map (·.1)).Nodup ∧ x.1 ∉ l.map (·.1) := by
  obtain ⟨_, _, _, _, _, _, U, u1, u2, u3, u4, u5, u6, u7, u8⟩ := h
  rw [List.map_append, List.map_append, List.nodup_append] at u4
  have h2 := u4.2.1
  rw [List.nodup_append] at h2
  refine ⟨List.Nodup.sublist hs h2.1, fun hm => ?_⟩
  obtain ⟨z, hz, e⟩ := List.mem_map.mp hm
  exact u4.2.2 x.1 (by simp) z.1 (List.mem_append_left _ (List.mem_map.mpr ⟨z, hl z hz, rfl⟩)) e.symm
/-- a row in hand gets the part in hand -/
theorem row_ext {l l0 : List Pd} {x y : Pd} (h : Inv X b m fm cb S D p [x] L Q) (hl : l = l0 ++ [y]) (hs : (l.map (·.1)).Sublist (L.map (·.1))) (hl2 : ∀ z ∈ l, z ∈ L) (hc : CHN X b q (l.map (·.1))) : Inv (up X 56 (400 * b + y.1) (nI x.1)) b m fm cb S D p [] (L ++ [x]) Q ∧ CHN (up X 56 (400 * b + y.1) (nI x.1)) b q ((l ++ [x]).map (·.1)) := by
  have hyL : y ∈ L := hl2 y (by rw [hl]; simp)
  obtain ⟨n1, n2⟩ := row_nd h hl2 hs
  have h' := h
  obtain ⟨⟨a1, a2, a3⟩, ⟨b1, b2'⟩, _, _, _, g, U, u1, u2, u3, u4, u5, u6, u7, u8⟩ := h
  obtain ⟨i, hi⟩ := List.getElem?_of_mem (u3 y (List.mem_append_right _ (List.mem_append_left _ hyL))).1
  have hyp := (g i y hi).2
  refine ⟨Inv_j1 h' hyL, ?_⟩
  rw [hl, List.map_append] at hc n1 n2
  rw [hl, List.map_append, List.map_append]
  exact CHN_app hc n1 (u6 x (by simp)) (fun e => n2 (by rw [e]; simp)) (fun hm => n2 (List.mem_append_left _ hm)) a1 (by omega)
theorem i75 {S : List Fr} {f : Fr} (h : HT X (f :: S)) : X.1 75 - 1 = nI S.length := by
  rw [h.1, List.length_cons, nI_pred]
theorem opn_lt (h : Inv X b m fm cb S D p P L Q) {q : Nat} (hq : q ∈ Q ++ opn S) : q < 400 := by
  obtain ⟨_, ⟨_, b2'⟩, _, _, _, _, U, u1, u2, u3, u4, u5, u6, u7, u8⟩ := h
  have := (u7 q hq).1
  omega
/-- the part in hand is given to the pile -/
theorem give_ok : ∀ (k : Nat) (S : List Fr) (D : List Pd) (x : Pd) (U0 : List Nat) {X : zX} {l1 : Int32}, Inv X b m fm cb S D p [x] [] [] → HT X S → okB S → wnt S → S.length ≤ k → ∃ X1, gf222_2 n k l1 (nI x.1) X = some ((), X1) ∧ Inv X1 b m fm cb (agv S D U0 x).1 (agv S D U0 x).2.1 p [] [] [] ∧ HT X1 (agv S D U0 x).1
  | k, [], D, x, U0, X, l1, h, hH, hB, hw, hk => by
    obtain ⟨S0, f, e⟩ := hB
    simp at e
  | 0, f :: S, D, x, U0, X, l1, h, hH, hB, hw, hk => by rw [List.length_cons] at hk; omega
  | k + 1, .inl q :: S, D, x, U0, X, l1, h, hH, hB, hw, hk => by
    have h0 := h
    obtain ⟨⟨a1, a2, a3⟩, ⟨b1, b2'⟩, ⟨c1, c2⟩, _, f, g, U, u1, u2, u3, u4, u5, u6, u7, u8⟩ := h
    have hq4 : q < 400 := opn_lt h0 (by simp [opn])
    have ht : S.length < 24 := by have := hH.2.2; rw [List.length_cons] at this; omega
    obtain ⟨oB1, oB2⟩ := okB_not hB
    have hSl : 0 < S.length := Nat.pos_of_ne_zero (fun e => oB2 (List.eq_nil_of_length_eq_zero e))
    have hi := i75 hH
    have hj := Inv_j0 (v := nI x.1) (Inv_re h0 (S1 := S) (Q1 := [q]) (P1 := [x]) (L1 := []) f.2 (List.Perm.refl _) (List.Perm.refl _) u6 (fun q' hq' => u8 q' (List.mem_cons_of_mem _ hq')))
    have hx55 : pv (up X 55 (400 * b + q) (nI x.1)) b 55 q = nI x.1 := cv_eq a1 (by decide) (by show 400 * b + q < 800; omega)
    have hx50 : pv (up X 55 (400 * b + q) (nI x.1)) b 50 q = 12 := by
      rw [show pv (up X 55 (400 * b + q) (nI x.1)) b 50 q = pv X b 50 q from cv_ne (by omega)]
      exact f.1.2
    have hc := Inv_cmp (φ := fun E => !x.2 E) (V := fun _ => False) hj (by rw [show pv (up X 55 (400 * b + q) (nI x.1)) b 56 q = pv X b 56 q from cv_ne (by omega)]; exact u8 q List.mem_cons_self) (fun U' hU' => Or.inr (Or.inr (Or.inr (Or.inl ⟨hx50, x, (u3 x (by simp)).1, hx55, rfl⟩)))) (fun u hu => hu.elim)
    have c2' : fm + D.length < 400 := by
      have : (opn (.inl q :: S)).length = (opn S).length + 1 := rfl
      rw [List.nil_append, this] at c2
      omega
    obtain ⟨X4, hX4⟩ : ∃ X4, X4 = xF (xF (cP (up X 55 (400 * b + q) (nI x.1)) b (fm + D.length) q) 75 (nI S.length)) 76 (nI (S.length - 1)) := ⟨_, rfl⟩
    have hI4 : Inv X4 b m fm cb S (D ++ [(q, fun E => !x.2 E)]) p [(q, fun E => !x.2 E)] [] [] := by
      rw [hX4]
      exact Inv_tok hc rfl rfl
    have hH4 : HT X4 S := by
      rw [hX4]
      have := hH.2.2
      rw [List.length_cons] at this
      exact ⟨by simp [xF_1], by simp [xF_1], by omega⟩
    obtain ⟨X1, e1, e2, e3⟩ := give_ok k S (D ++ [(q, fun E => !x.2 E)]) (q, fun E => !x.2 E) (U0 ++ [x.1]) (l1 := l1) hI4 hH4 oB1 (fun f hf => hw f (List.mem_cons_of_mem _ hf)) (by rw [List.length_cons] at hk; omega)
    refine ⟨X1, ?_, e2, e3⟩
    show gb222_2 n (gf222_2 n k) l1 (nI x.1) X = _
    unfold gb222_2
    refine rst (j := S.length) a1 (by decide) ht (by omega) hi ?_
    rw [f.1.1, if_neg (nI_m1 (by omega))]
    refine rst (j := S.length) a1 (by decide) ht (by omega) hi ?_
    rw [f.1.1, join0 a1 a2 a3 hq4]
    dsimp only [Option.bind_some]
    have hcp := compl (n := n) (X := up X 55 (400 * b + q) (nI x.1)) (q := q) (LN_up a1) a2 a3 (c := fm + D.length) (by rw [cv_ne (by omega)]; exact c1) c2'
    rw [hcp]
    dsimp only [Option.bind_some]
    unfold zlet
    have e75 : (up (up (up X 55 (400 * b + q) (nI x.1)) 57 (400 * b + (fm + D.length)) (nI q)) 58 b (nI (fm + D.length + 1))).1 75 - 1 = nI S.length := hi
    have e76 : (xF (up (up (up X 55 (400 * b + q) (nI x.1)) 57 (400 * b + (fm + D.length)) (nI q)) 58 b (nI (fm + D.length + 1))) 75 (nI S.length)).1 76 - 1 = nI (S.length - 1) := by
      rw [xF_1, if_neg (by decide)]
      show X.1 76 - 1 = _
      rw [hH.2.1, List.length_cons, Nat.add_sub_cancel]
      obtain ⟨s, hs⟩ : ∃ s, S.length = s + 1 := ⟨S.length - 1, by omega⟩
      rw [hs, nI_pred, Nat.add_sub_cancel]
    dsimp only
    rw [e75, e76]
    rw [hX4] at e1
    exact e1
  | k + 1, .inr (o, some (a, l), y) :: S, D, x, U0, X, l1, h, hH, hB, hw, hk => by
    have h0 := h
    obtain ⟨⟨a1, a2, a3⟩, ⟨b1, b2'⟩, _, _, f, g, U, u1, u2, u3, u4, u5, u6, u7, u8⟩ := h
    obtain ⟨⟨f63, fo, fy, f66, f50, fch, f67⟩, fS⟩ := f
    subst fy
    have ha4 : a < 400 := opn_lt h0 (by simp [opn])
    have ht : S.length < 24 := by have := hH.2.2; rw [List.length_cons] at this; omega
    have hi := i75 hH
    obtain ⟨l0, z, hl, hz⟩ := lst_eq (chn_ne fch)
    have hzD := (u3 z (by rw [hl]; simp [kids, kidF, rowK])).1
    obtain ⟨iz, hiz⟩ := List.getElem?_of_mem hzD
    have hzp := (g iz z hiz).2
    rw [hz] at f67
    have hpop := Inv_re h0 (S1 := S) (Q1 := [a] ++ (o.map (·.1)).toList) (P1 := [x]) (L1 := l ++ rowK o) fS (by rw [List.append_assoc]; exact List.Perm.refl _) (by simp only [kids, kidF, rowK, Option.toList_none, List.nil_append, List.append_assoc]; exact List.Perm.refl _) u6 (fun q' hq' => u8 q' (List.mem_append_right _ (List.mem_append_right _ hq')))
    obtain ⟨r1, r2⟩ := row_ext (q := a) hpop hl (by rw [List.map_append]; exact List.sublist_append_left _ _) (fun w hw => List.mem_append_left _ hw) fch
    have r3 := Inv_pl (i := 67) (t := S.length) (v := nI x.1) r1 (by omega) (Nat.le_refl _)
    have hop : ∀ w ∈ rowK o, w.1 ≠ z.1 := by
      intro w hw e
      have hnd : ((l ++ rowK o).map (·.1)).Nodup := (row_nd (l := l ++ rowK o) hpop (fun _ q => q) (List.Sublist.refl _)).1
      rw [List.map_append, List.nodup_append] at hnd
      exact hnd.2.2 z.1 (List.mem_map.mpr ⟨z, by rw [hl]; simp, rfl⟩) w.1 (List.mem_map.mpr ⟨w, hw, rfl⟩) e.symm
    have hpv : ∀ i w, i ≠ 56 ∨ w ≠ z.1 → i ≤ 56 → pv (up (up X 56 (400 * b + z.1) (nI x.1)) 67 S.length (nI x.1)) b i w = pv X b i w := by
      intro i w hiw hi6
      unfold pv
      rw [cv_ne (by omega), cv_ne (by omega)]
    have hF : FRM (up (up X 56 (400 * b + z.1) (nI x.1)) 67 S.length (nI x.1)) b S.length (.inr (o, some (a, l ++ [x]), none)) := by
      refine ⟨by rw [cv_ne (by omega), cv_ne (by omega)]; exact f63, ?_, rfl, by rw [cv_ne (by omega), cv_ne (by omega)]; exact f66, by rw [hpv 50 a (by omega) (by omega)]; exact f50, CHN_of r2 (cv_ne (by omega)) (fun w _ => cv_ne (by omega)), ?_⟩
      · cases o with
        | none =>
          show cv _ 64 _ = -1
          rw [cv_ne (by omega), cv_ne (by omega)]
          exact fo
        | some w =>
          obtain ⟨q, lo⟩ := w
          obtain ⟨g1, g2, g3, g4⟩ := fo
          refine ⟨by rw [cv_ne (by omega), cv_ne (by omega)]; exact g1, by rw [hpv 50 q (by omega) (by omega)]; exact g2, CHN_of g3 (hpv 55 q (by omega) (by omega)) (fun w hw => ?_), by rw [cv_ne (by omega), cv_ne (by omega)]; exact g4⟩
          obtain ⟨w', hw', rfl⟩ := List.mem_map.mp hw
          exact hpv 56 _ (Or.inr (hop w' hw')) (by omega)
      · rw [cv_eq (LN_up a1) (by decide) ht, List.map_append, List.map_singleton, List.getLastD_concat]
    refine ⟨_, ?_, Inv_re r3 ⟨hF, r3.2.2.2.2.1⟩ (by rw [List.nil_append, List.append_assoc]; exact List.Perm.refl _) ?_ (fun w hw => by cases hw) (fun q' hq' => by rw [hpv 56 q' (Or.inr (fun e => opn_D h0 (q := q') hq' z hzD e.symm)) (by omega)]; exact u8 q' hq'), hH.1, hH.2.1, hH.2.2⟩
    · show gb222_2 n (gf222_2 n k) l1 (nI x.1) X = _
      unfold gb222_2
      refine rst (j := S.length) a1 (by decide) ht (by omega) hi ?_
      rw [f63, if_pos rfl]
      refine rst (j := S.length) a1 (by decide) ht (by omega) hi ?_
      rw [f66, if_neg (nI_m1 (by omega))]
      refine rst (j := S.length) a1 (by decide) ht (by omega) hi ?_
      refine rst (j := S.length) a1 (by decide) ht (by omega) hi ?_
      rw [f66, f67, join1 a1 a2 a3 (by omega)]
      dsimp only [Option.bind_some]
      unfold gb222_100
      exact wst0 (j := S.length) (LN_up a1) (by decide) ht (by omega) hi rfl
    · show ([] ++ ([] ++ ((l ++ [x]) ++ ([] ++ rowK o) ++ kids S))).Perm ([] ++ (l ++ rowK o ++ [x] ++ kids S))
      simp only [List.nil_append, List.append_assoc, List.singleton_append]
      exact List.Perm.append_left _ List.perm_middle.symm
  | k + 1, .inr (o, none, y) :: S, D, x, U0, X, l1, h, hH, hB, hw, hk => by
    have h0 := h
    obtain ⟨⟨a1, a2, a3⟩, ⟨b1, b2'⟩, _, _, f, g, U, u1, u2, u3, u4, u5, u6, u7, u8⟩ := h
    obtain ⟨⟨f63, fo, f66, fy⟩, fS⟩ := f
    have hy : y = none := hw (o, none, y) (by simp) rfl
    subst hy
    have ht : S.length < 24 := by have := hH.2.2; rw [List.length_cons] at this; omega
    have hi := i75 hH
    have hpop := Inv_re h0 (S1 := S) (Q1 := (o.map (·.1)).toList) (P1 := [x]) (L1 := rowK o) fS (List.Perm.refl _) (by simp only [kids, kidF, rowK, Option.toList_none, List.nil_append]; exact List.Perm.refl _) u6 (fun q' hq' => u8 q' (List.mem_append_right _ (List.mem_append_right _ hq')))
    have r3 := Inv_pl (i := 67) (t := S.length) (v := nI x.1) hpop (by omega) (Nat.le_refl _)
    have hF : FRM (up X 67 S.length (nI x.1)) b S.length (.inr (o, none, some x)) := by
      refine ⟨by rw [cv_ne (by omega)]; exact f63, ?_, by rw [cv_ne (by omega)]; exact f66, cv_eq a1 (by decide) ht, by rw [show pv (up X 67 S.length (nI x.1)) b 56 x.1 = pv X b 56 x.1 from cv_ne (by omega)]; exact u6 x (by simp)⟩
      cases o with
      | none =>
        show cv _ 64 _ = -1
        rw [cv_ne (by omega)]
        exact fo
      | some w =>
        obtain ⟨q, lo⟩ := w
        obtain ⟨g1, g2, g3, g4⟩ := fo
        exact ⟨by rw [cv_ne (by omega)]; exact g1, by rw [show pv (up X 67 S.length (nI x.1)) b 50 q = pv X b 50 q from cv_ne (by omega)]; exact g2, CHN_of g3 (cv_ne (by omega)) (fun w _ => cv_ne (by omega)), by rw [cv_ne (by omega)]; exact g4⟩
    refine ⟨_, ?_, Inv_re r3 ⟨hF, r3.2.2.2.2.1⟩ (List.Perm.refl _) ?_ (fun w hw => by cases hw) (fun q' hq' => by rw [show pv (up X 67 S.length (nI x.1)) b 56 q' = pv X b 56 q' from cv_ne (by omega)]; exact u8 q' hq'), hH.1, hH.2.1, hH.2.2⟩
    · show gb222_2 n (gf222_2 n k) l1 (nI x.1) X = _
      unfold gb222_2
      refine rst (j := S.length) a1 (by decide) ht (by omega) hi ?_
      rw [f63, if_pos rfl]
      refine rst (j := S.length) a1 (by decide) ht (by omega) hi ?_
      rw [f66, if_pos rfl]
      unfold gb222_100
      exact wst0 (j := S.length) a1 (by decide) ht (by omega) hi rfl
    · simp only [kids, kidF, rowK, List.nil_append]
      exact List.Perm.refl _
end
end ZRQ

/-! THE REFERENCE'S EXPRESSION: its steps -/
section ZRQ
section
variable {n : Nat} {X X1 : zX} {b m p q fm cb : Nat} {S : List Fr} {D P : List Pd} {Q : List Nat} {φ : Den}
theorem nL_cv {t : Nat} {w : Int32} {i j : Nat} (h : ¬ (63 ≤ i ∧ i ≤ 67 ∧ j = t)) : cv (nL X t w) i j = cv X i j := by
  unfold nL
  rw [cv_xF, cv_ne (by omega), cv_ne (by omega), cv_ne (by omega), cv_ne (by omega), cv_ne (by omega)]
theorem nL_own {t : Nat} {w : Int32} (hL : LN X) (ht : t < 24) : cv (nL X t w) 63 t = w ∧ cv (nL X t w) 64 t = -1 ∧ cv (nL X t w) 66 t = -1 ∧ cv (nL X t w) 67 t = -1 := by
  unfold nL
  refine ⟨?_, ?_, ?_, ?_⟩
  · rw [cv_xF, cv_ne (by omega), cv_ne (by omega), cv_ne (by omega), cv_ne (by omega), cv_eq hL (by decide) ht]
  · rw [cv_xF, cv_ne (by omega), cv_ne (by omega), cv_ne (by omega), cv_eq (LN_up hL) (by decide) ht]
  · rw [cv_xF, cv_ne (by omega), cv_eq (LN_up (LN_up (LN_up hL))) (by decide) ht]
  · rw [cv_xF, cv_eq (LN_up (LN_up (LN_up (LN_up hL)))) (by decide) ht]
theorem nL_LN {t : Nat} {w : Int32} (hL : LN X) : LN (nL X t w) := LN_xF (LN_up (LN_up (LN_up (LN_up (LN_up hL)))))
theorem nL_SK {t : Nat} {w : Int32} : SKa X (nL X t w) := fun s z _ h => SLT_of (SLT_up (SLT_up (SLT_up (SLT_up (SLT_up h (by decide) (by decide)) (by decide) (by decide)) (by decide) (by decide)) (by decide) (by decide)) (by decide) (by decide)) rfl rfl
/-- a step that leaves parts as they are, and of the pile what S needs -/
theorem Inv_mv {S1 : List Fr} {Q1 : List Nat} {P1 : List Pd} (h : Inv X b m fm cb S D p P Q) (hL : LN X1) (h4 : X1.1 4 = X.1 4) (hcv : ∀ i j, ¬ (63 ≤ i ∧ i ≤ 67) → cv X1 i j = cv X i j) (hs : SKa X X1) (hF : FRS X1 b S1) (hq : Q1 ++ opn S1 = Q ++ opn S) (hk : P1 ++ kids S1 = P ++ kids S) (hP : ∀ x ∈ P1, pv X b 56 x.1 = -1) : Inv X1 b m fm cb S1 D p P1 Q1 := by
  obtain ⟨⟨a1, a2, a3⟩, ⟨b1, b2'⟩, ⟨c1, c2⟩, ⟨d1, c, d2, d3⟩, f, g, U, u1, u2, u3, u4, u5, u6, u7⟩ := h
  have hp : ∀ i x, i ≤ 56 → pv X1 b i x = pv X b i x := fun i x hi => hcv i _ (by omega)
  refine ⟨⟨hL, by rw [h4]; exact a2, a3⟩, ⟨by rw [hcv _ _ (by omega)]; exact b1, b2'⟩, ⟨by rw [hcv _ _ (by omega)]; exact c1, by rw [hq]; exact c2⟩, ⟨d1, c, by rw [hcv _ _ (by omega)]; exact d2, d3⟩, hF, fun i x hx => by rw [hcv _ _ (by omega)]; exact g i x hx, U, fun i x hx => PMn_of (u1 i x hx) (fun i _ h2 => hp i _ (by omega)) (fun u _ => ⟨hp 56 u (by omega), fun i _ h2 => hp i u (by omega)⟩) hs (fun _ q => q) (fun _ q => q), u2, by rw [hk]; exact u3, by rw [hk]; exact u4, by rw [hq]; exact u5, fun x hx => by rw [hp 56 _ (by omega)]; exact hP x hx, fun q hq' => by rw [hq] at hq'; rw [hp 56 _ (by omega)]; exact u7 q hq'⟩
theorem FRS_nL {w : Int32} (h : FRS X b S) : FRS (nL X S.length w) b S := FRS_of h (fun t i ht _ _ => nL_cv (by omega)) (fun q _ => ⟨nL_cv (by omega), nL_cv (by omega)⟩) (fun x _ => nL_cv (by omega))
/-- a not is laid on the pile -/
theorem Inv_not (h : Inv X b m fm cb S D p [] [q]) (hk : pv X b 50 q = 12) (ht : S.length < 24) : Inv (nL X S.length (nI q)) b m fm cb (.inl q :: S) D p [] [] := by
  have h' := h
  obtain ⟨⟨a1, a2, a3⟩, _, _, _, f, _⟩ := h
  have own := nL_own (w := nI q) a1 ht
  exact Inv_mv h' (nL_LN a1) rfl (fun i j hi => nL_cv (by omega)) nL_SK ⟨⟨own.1, by show pv _ b 50 q = 12; unfold pv; rw [nL_cv (by omega)]; exact hk⟩, FRS_nL f⟩ rfl rfl (fun x hx => by cases hx)
/-- an open bracket -/
theorem Inv_par (h : Inv X b m fm cb S D p [] []) (ht : S.length < 24) : Inv (nL X S.length (-1)) b m fm cb (.inr (none, none, none) :: S) D p [] [] := by
  have h' := h
  obtain ⟨⟨a1, a2, a3⟩, _, _, _, f, _⟩ := h
  have own := nL_own (w := (-1 : Int32)) a1 ht
  exact Inv_mv h' (nL_LN a1) rfl (fun i j hi => nL_cv (by omega)) nL_SK ⟨⟨own.1, own.2.1, own.2.2.1, own.2.2.2⟩, FRS_nL f⟩ rfl rfl (fun x hx => by cases hx)
/-- a part is completed -/
def cP (X : zX) (b c q : Nat) : zX := up (up X 57 (400 * b + c) (nI q)) 58 b (nI (c + 1))
theorem cP_cv {c : Nat} {i j : Nat} (h : ¬ (i = 57 ∧ j = 400 * b + c)) (h2 : ¬ (i = 58 ∧ j = b)) : cv (cP X b c q) i j = cv X i j := by
  unfold cP
  rw [cv_ne (by omega), cv_ne (by omega)]
theorem cP_SK {c : Nat} : SKa X (cP X b c q) := fun s z _ h => SLT_up (SLT_up h (by decide) (by decide)) (by decide) (by decide)
/-- completing the part q that is in hand: its meaning is known; parts of V are used up -/
theorem Inv_cmp {V : Nat → Prop} (h : Inv X b m fm cb S D p P (q :: Q)) (hU : ∀ U : Nat → Prop, (∀ u, U u → u < p) → PMn X b m D (fun u => U u ∨ V u) q φ) (hV : ∀ u, V u → u < p ∧ (∀ x ∈ kids S, x.1 ≠ u) ∧ u ≠ q ∧ u ∉ Q ++ opn S) (hS : P = [] ∨ ∀ x ∈ P, V x.1) : Inv (cP X b (fm + D.length) q) b m fm cb S (D ++ [(q, φ)]) p [(q, φ)] Q := by
  obtain ⟨⟨a1, a2, a3⟩, ⟨b1, b2'⟩, ⟨c1, c2⟩, ⟨d1, c, d2, d3⟩, f, g, U, u1, u2, u3, u4, u5, u6, u7⟩ := h
  rw [List.cons_append, List.length_cons] at c2
  have hc4 : fm + D.length < 400 := by omega
  have hqp := u7 q (by simp)
  have hpv : ∀ i x, i ≤ 56 → pv (cP X b (fm + D.length) q) b i x = pv X b i x := fun i x hi => cP_cv (by omega) (by omega)
  have hqD : ∀ x ∈ D, x.1 ≠ q := by
    intro x hx e
    rw [List.nodup_append] at u5
    exact u5.2.2 x.1 (List.mem_map.mpr ⟨x, hx, rfl⟩) q (by simp) e
  refine ⟨⟨LN_up (LN_up a1), a2, a3⟩, ⟨by rw [cP_cv (by omega) (by omega)]; exact b1, b2'⟩, ⟨?_, ?_⟩, ⟨d1, c, by rw [cP_cv (by omega) (by omega)]; exact d2, d3⟩, ?_, ?_, fun u => U u ∨ V u, ?_, ?_, ?_, ?_, ?_, ?_, ?_⟩
  · rw [List.length_append]
    show cv (up (up X 57 _ _) 58 b _) 58 b = nI (fm + (D.length + 1))
    rw [cv_eq (LN_up a1) (by decide) (by show b < 2; omega)]
    congr 1
  · rw [List.length_append]
    show fm + (D.length + 1) + _ ≤ p
    omega
  · exact FRS_of f (fun t i _ _ _ => cP_cv (by omega) (by omega)) (fun q _ => ⟨hpv 50 q (by omega), hpv 55 q (by omega)⟩) (fun x _ => hpv 56 _ (by omega))
  · intro i x hx
    rcases Nat.lt_or_ge i D.length with hi | hi
    · rw [List.getElem?_append_left hi] at hx
      have := g i x hx
      rw [cP_cv (by omega) (by omega)]
      exact this
    · rw [List.getElem?_append_right hi] at hx
      have hi0 : i - D.length = 0 := by
        rcases Nat.eq_zero_or_pos (i - D.length) with z | z
        · exact z
        · rw [List.getElem?_eq_none (by show 1 ≤ _; omega)] at hx; cases hx
      rw [hi0] at hx
      cases hx
      have : i = D.length := by omega
      subst this
      refine ⟨?_, hqp.1⟩
      show cv (up (up X 57 _ _) 58 b _) 57 _ = _
      rw [cv_ne (by omega), cv_eq a1 (by decide) (by show 400 * b + (fm + D.length) < 800; omega)]
  · intro i x hx
    rcases Nat.lt_or_ge i D.length with hi | hi
    · rw [List.getElem?_append_left hi] at hx
      rw [List.take_append_of_le_length (by omega)]
      exact PMn_of (u1 i x hx) (fun i _ h2 => hpv i _ (by omega)) (fun u _ => ⟨hpv 56 u (by omega), fun i _ h2 => hpv i u (by omega)⟩) cP_SK (fun _ q => Or.inl q) (fun _ q => q)
    · rw [List.getElem?_append_right hi] at hx
      have hi0 : i - D.length = 0 := by
        rcases Nat.eq_zero_or_pos (i - D.length) with z | z
        · exact z
        · rw [List.getElem?_eq_none (by show 1 ≤ _; omega)] at hx; cases hx
      rw [hi0] at hx
      cases hx
      have : i = D.length := by omega
      subst this
      rw [List.take_left]
      exact PMn_of (hU U u2) (fun i _ h2 => hpv i _ (by omega)) (fun u _ => ⟨hpv 56 u (by omega), fun i _ h2 => hpv i u (by omega)⟩) cP_SK (fun _ q => q) (fun _ q => q)
  · intro u hu
    rcases hu with hu | hu
    · exact u2 u hu
    · exact (hV u hu).1
  · intro x hx
    rcases List.mem_append.mp hx with hx | hx
    · rw [List.mem_singleton] at hx
      subst hx
      refine ⟨by simp, fun hu => ?_⟩
      rcases hu with hu | hu
      · exact hqp.2.2 hu
      · exact (hV q hu).2.2.1 rfl
    · have := u3 x (List.mem_append_right _ hx)
      refine ⟨List.mem_append_left _ this.1, fun hu => ?_⟩
      rcases hu with hu | hu
      · exact this.2 hu
      · exact (hV _ hu).2.1 x hx rfl
  · rw [List.singleton_append, List.map_cons, List.nodup_cons]
    refine ⟨?_, ?_⟩
    · intro hm
      obtain ⟨x, hx, e⟩ := List.mem_map.mp hm
      exact hqD x (u3 x (List.mem_append_right _ hx)).1 e
    · rw [List.map_append, List.nodup_append] at u4
      exact u4.2.1
  · rw [List.map_append, List.append_assoc]
    exact u5
  · intro x hx
    rw [List.mem_singleton] at hx
    subst hx
    rw [hpv 56 _ (by omega)]
    exact hqp.2.1
  · intro q' hq'
    have := u7 q' (by rw [List.cons_append]; exact List.mem_cons_of_mem _ hq')
    rw [hpv 56 _ (by omega)]
    refine ⟨this.1, this.2.1, fun hu => ?_⟩
    rcases hu with hu | hu
    · exact this.2.2 hu
    · exact (hV q' hu).2.2.2 hq'
end
end ZRQ

/-! THE CLASS READS: flags -/
section ZKA
section
variable {n : Nat} {Y Y0 Y1 Y2 Y' : zY} {a b s p m e r q rd pl W W2 WE lo hi x c i : Nat} {S S1 : List Nat} {t : Tk} {ts : List Tk} {off : Int32} {l : Nat → Nat} {rc sq fl kd st fr er : Nat} {k : Nat × List (List Int32)} {xs xs' : Nat → List Nat} {P P' : Pln} {bd : Nat → Nat} {A : Nat → Nat} {X : Nat → List Nat} {v4 v5 : List Value} {w : List Int32} {g : Flg}
/-- a flag is being read -/
def FIP (Y Y' : zY) (rd pl : Nat) (l : Nat → Nat) (rc sq : Nat) (P P' : Pln) (xs xs' : Nat → List Nat) (w : List Int32) (fl : Nat) (A : Nat → Nat) : Prop :=
  FR Y Y' (PS rd pl l) ∧ PLK Y' pl l rc sq P' xs' (P.2.1.map (·.1) ++ [w]) (P.2.2.1.map (·.1)) ∧ P'.1 = P.1 ∧ P'.2.1 = P.2.1 ∧ P'.2.2.1 = P.2.2.1 ∧ P'.2.2.2.2.1 = P.2.2.2.2.1 ∧ (∃ rs, P'.2.2.2.1 = P.2.2.2.1 ++ rs ∧ ∀ r ∈ rs, r.1 = P.2.1.length ∧ r.2.1 = -1) ∧ (∃ more, P'.2.2.2.2.2.1 = P.2.2.2.2.2.1 ++ more) ∧ xs' 4 = xs 4 ++ [fl] ∧ xs' 5 = xs 5 ∧ Y.2.1 ≤ fl ∧ (∀ j, 1 ≤ j → j ≤ 5 → Y.2.1 ≤ A j) ∧ ∀ j k, 1 ≤ j → j ≤ 3 → k < 8 → A j ≠ l k
theorem FIP_t (h : FIP Y Y' rd pl l rc sq P P' xs xs' w fl A) (hR : RS rd pl W Y' ts) (hD : DM Y) (hf : FR Y' Y1 [rd]) : FIP Y Y1 rd pl l rc sq P P' xs xs' w fl A := by
  obtain ⟨h1, h2, h3⟩ := h
  exact ⟨FR_T h1 hf PS_rd hD, PLK_r1 h2 hR hf, h3⟩
/-- the flag's own cells are written -/
theorem FIP_c (h : FIP Y Y' rd pl l rc sq P P' xs xs' w fl A) (hR : RS rd pl W Y' ts) (hD : DM Y) (hX : FLX Y' fl A kd st off fr er X v4 v5) (hf : FR Y' Y1 S) (hS : ∀ a ∈ S, a = rd ∨ a = fl ∨ ∃ j, 1 ≤ j ∧ j ≤ 3 ∧ a = A j) : FIP Y Y1 rd pl l rc sq P P' xs xs' w fl A := by
  obtain ⟨h1, h2, h3, h4, h5, h6, h7, h8, h9, h10, h11, h12, h13⟩ := h
  obtain ⟨pr, lr⟩ := PLK_rd h2 hR
  have hpl : pl ∉ S := fun e => by
    rcases hS _ e with d | d | ⟨j, j1, j2, d⟩
    · exact pr d
    · exact cls_ne h2.1.1 hX.1 (by decide) d
    · obtain ⟨⟨cap, x1, _⟩, _⟩ := hX.2.2.1 j j1 j2
      rw [← d, h2.1.1] at x1; cases x1
  have hlk : ∀ j, j < 8 → l j ∉ S := fun k hk e => by
    obtain ⟨⟨cap, x1, _⟩, _⟩ := h2.2.1.1 k hk
    rcases hS _ e with d | d | ⟨j, j1, j2, d⟩
    · exact lr k hk d
    · have := hX.1
      rw [← d, x1] at this; cases this
    · exact h13 j k j1 j2 hk d.symm
  exact ⟨FR_T h1 hf (fun a ha => by
    rcases hS a ha with d | d | ⟨j, j1, j2, d⟩
    · exact Or.inl (PS_m.mpr (Or.inl d))
    · exact Or.inr (by rw [d]; exact h11)
    · exact Or.inr (by rw [d]; exact h12 j j1 (by omega))) hD, PLK_k h2 hf hpl hlk, h3, h4, h5, h6, h7, h8, h9, h10, h11, h12, h13⟩
theorem FLX_s (h : FIP Y Y' rd pl l rc sq P P' xs xs' w fl A) (hR : RS rd pl W Y' ts) (hX : FLX Y' fl A kd st off fr er X v4 v5) (hS : okS rd pl l Y' S) (hf : FR Y' Y1 S) : FLX Y1 fl A kd st off fr er X v4 v5 := by
  obtain ⟨q1, q2⟩ := FLX_ok hX h.2.2.2.2.2.2.2.2.2.2.2.2 h.2.1 hR hS
  exact FLX_k hX hf q1 q2
/-- the flag is told -/
theorem fl_end (hP : PLN Y pl l rc sq bd P xs) (hR0 : RS rd pl W2 Y ts) (h : FIP Y Y' rd pl l rc sq P P' xs xs' w fl A) (hB : BY Y') (hX : FLX Y' fl A kd st g.2.2.2.2 fr er X v4 v5) (h4 : v4.length = 4) (h5 : v5.length = 4) (hm : FLm Y' P'.2.2.2.2.2.1 X kd st g) (hr : RNG P'.2.2.2.1 (fun r => r.1 = P.2.1.length ∧ r.2.1 = -1) fr er) (hw : g.1 = w) (h24 : P.2.1.length < 24) : PLN Y' pl l rc sq (upL bd (P.2.1.length + 1) Y'.2.1) (P'.1, P.2.1 ++ [g], P'.2.2) xs' := by
  obtain ⟨h1, h2, h3, h4', h5', h6, ⟨rs, h7, h7'⟩, ⟨more, h8⟩, h9, h10, h11, h12, h13⟩ := h
  obtain ⟨g1, g2, g3, g4, ⟨vr, g5, g5'⟩, ⟨vq, g6, g6'⟩, g7, g8, g9, g10, g11, g12, g13⟩ := hP
  have hl8 : P.2.2.1.length ≤ 8 := by have := g1.2.2.2.2.2.2.2.2.2; rw [List.length_map] at this; exact this
  have hlen4 := g2.1
  have hlt : ∀ a o, Y'.1 a = some o → a < Y'.2.1 := hB.2.2
  have ho := FLs_k (more := more) (rs := rs) g2 g1 hR0 PS_ok h1 (fun r hr q => by have := (h7' r hr).1; omega)
  have hly := LYs_k (more := more) (rs := rs) (its := []) g3 g1 hR0 PS_ok h1 (fun r hr i hi e => by
    rw [(h7' r hr).2] at e
    exact nI_m1 (k := i) (by omega) e.symm) (fun I hI => by cases hI)
  refine ⟨?_, ⟨?_, ?_⟩, ?_, ⟨?_, ?_⟩, ⟨vr, FR_k h1 g5 (arr_ok g5 g1 hR0 PS_ok), g5'⟩, ⟨vq, FR_k h1 g6 (arr_ok g6 g1 hR0 PS_ok), g6'⟩, g7, g8, g9, ?_, ?_, ?_, ?_⟩
  · have : (P.2.1 ++ [g]).map (·.1) = P.2.1.map (·.1) ++ [w] := by rw [List.map_append, ← hw]; rfl
    show PLK Y' pl l rc sq (P'.1, P.2.1 ++ [g], P'.2.2) xs' ((P.2.1 ++ [g]).map (·.1)) (P'.2.2.1.map (·.1))
    rw [this, h5']
    exact h2
  · show (xs' 4).length = (P.2.1 ++ [g]).length
    rw [h9, List.length_append, List.length_append, hlen4]
    rfl
  · intro i fl' g' q1 q2
    show FLG Y' l P'.2.2.2.2.2.1 P'.2.2.2.1 _ _ i fl' g'
    have q2 : (P.2.1 ++ [g])[i]? = some g' := q2
    rw [h9] at q1
    rcases Nat.lt_or_ge i P.2.1.length with d | d
    · rw [List.getElem?_append_left (by omega)] at q1
      rw [List.getElem?_append_left d] at q2
      rw [h7, h8, upL_n (by omega), upL_n (by omega)]
      exact ho.2 i fl' g' q1 q2
    · rw [List.getElem?_append_right (by omega)] at q1
      rw [List.getElem?_append_right d] at q2
      have hi : i = P.2.1.length := by
        rcases Nat.eq_zero_or_pos (i - P.2.1.length) with e | e
        · omega
        · obtain ⟨z, hz⟩ : ∃ z, i - P.2.1.length = z + 1 := ⟨i - P.2.1.length - 1, by omega⟩
          rw [hz] at q2
          cases q2
      subst hi
      rw [Nat.sub_self] at q2
      rw [hlen4, Nat.sub_self] at q1
      cases q1
      cases q2
      rw [upL_n (by omega), upL_s]
      refine ⟨A, kd, st, fr, er, X, v4, v5, hX, h4, h5, hm, hr, h13, by omega, hlt _ _ hX.1, fun j j1 j2 => ⟨by have := h12 j j1 j2; omega, ?_⟩⟩
      rcases Nat.lt_or_ge j 4 with d | d
      · obtain ⟨⟨cap, x1, _⟩, _⟩ := hX.2.2.1 j j1 (by omega)
        exact hlt _ _ x1
      · rcases Nat.lt_or_ge j 5 with d' | d'
        · rw [show j = 4 by omega]; exact hlt _ _ hX.2.2.2.2.2.2.1
        · rw [show j = 5 by omega]; exact hlt _ _ hX.2.2.2.2.2.2.2.1
  · show LYs Y' P'.2.2.2.2.2.1 P'.2.2.2.1 P'.2.2.2.2.1 (xs' 5) P'.2.2.1
    rw [h5', h6, h7, h8, h10]
    rw [List.append_nil] at hly
    exact hly
  · intro r hr'
    show r.1 < (P.2.1 ++ [g]).length ∧ (r.2.1 = -1 ∨ ∃ j, j < P'.2.2.1.length ∧ r.2.1 = nI j)
    rw [h5', List.length_append]
    have hr' : r ∈ P'.2.2.2.1 := hr'
    rw [h7] at hr'
    rcases List.mem_append.mp hr' with d | d
    · have := g4.1 r d
      exact ⟨by show r.1 < P.2.1.length + 1; omega, this.2⟩
    · have := h7' r d
      exact ⟨by show r.1 < P.2.1.length + 1; omega, Or.inl this.2⟩
  · intro I hI
    show I.1 < P'.2.2.1.length ∧ I.2.1 < (P.2.1 ++ [g]).length
    have hI : I ∈ P'.2.2.2.2.1 := hI
    rw [h6] at hI
    rw [h5', List.length_append]
    have := g4.2 I hI
    exact ⟨this.1, by show I.2.1 < P.2.1.length + 1; omega⟩
  · rw [upL_n (by omega)]; exact g10
  · rw [upL_n (by omega)]; exact g11
  · intro i hi
    have hi : i < (P.2.1 ++ [g]).length := hi
    rw [List.length_append] at hi
    have hi : i < P.2.1.length + 1 := hi
    rcases Nat.lt_or_ge i P.2.1.length with d | d
    · rw [upL_n (by omega), upL_n (by omega)]; exact g12 i d
    · rw [upL_n (by omega), show i = P.2.1.length by omega, upL_s]
      have := h1.1
      omega
  · show upL bd (P.2.1.length + 1) Y'.2.1 (P.2.1 ++ [g]).length ≤ Y'.2.1
    rw [List.length_append]
    show upL bd (P.2.1.length + 1) Y'.2.1 (P.2.1.length + 1) ≤ Y'.2.1
    rw [upL_s]
    exact Nat.le_refl _
end
end ZKA

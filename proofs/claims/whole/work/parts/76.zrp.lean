/-! THE REFERENCE'S PLAN: the relation -/
section ZRP
/-- an expression that was read -/
def EX (X : zX) (b m cb p : Nat) (D : List Pd) (fr to c : Nat) (φ : Den) : Prop := fr ≤ to ∧ to ≤ D.length ∧ (c, φ) ∈ (D.drop fr).take (to - fr) ∧ Inv X b m fr cb [] (D.drop fr) p [] [] []
def SGR (X : zX) (b m cb p : Nat) (D : List Pd) (k : Nat) (s : List Int32 × Den) : Prop := SW X b (cv X 5 (12 * b + k)) s.1 ∧ ∃ c fr to, cv X 6 (12 * b + k) = nI c ∧ cv X 7 (12 * b + k) = nI fr ∧ cv X 8 (12 * b + k) = nI to ∧ EX X b m cb p D fr to c s.2
def RLR (X : zX) (b m cb p : Nat) (D : List Pd) (nv nq r : Nat) (R : Rul) : Prop := cv X 29 (100 * b + r) = nI R.1 ∧ R.1 < 24 ∧ cv X 30 (100 * b + r) = R.2.1 ∧ (∃ c fr to, cv X 31 (100 * b + r) = nI c ∧ cv X 32 (100 * b + r) = nI fr ∧ cv X 33 (100 * b + r) = nI to ∧ EX X b m cb p D fr to c R.2.2.1) ∧ SVR X b nq nv (cv X 34 (100 * b + r)) R.2.2.2
/-- the value's token of a need -/
def NDV (X : zX) (b i : Nat) (t : Tk) : Prop := (t.1 = 33 ∧ cv X 20 i = 0 ∧ cv X 21 i = 1) ∨ (t.1 = 34 ∧ cv X 20 i = 0 ∧ cv X 21 i = 0) ∨ (t.1 = 3 ∧ cv X 20 i = 1 ∧ cv X 21 i = t.2.2.2) ∨ (t.1 = 2 ∧ cv X 20 i = 2 ∧ SW X b (cv X 22 i) t.2.2.1)
def NDR (X : zX) (b f j : Nat) (w : Tk × Tk) : Prop := w.1.1 = 2 ∧ w.1.2.1 ≤ 6000 ∧ w.2.2.1 ≤ 6000 ∧ SW X b (cv X 17 (4 * (24 * b + f) + j)) w.1.2.2.1 ∧ cv X 18 (4 * (24 * b + f) + j) = nI w.1.2.1 ∧ cv X 23 (4 * (24 * b + f) + j) = nI w.2.2.1 ∧ NDV X b (4 * (24 * b + f) + j) w.2
def NDS (X : zX) (b f : Nat) (ns : List (Tk × Tk)) : Prop := cv X 16 (24 * b + f) = nI ns.length ∧ ns.length ≤ 4 ∧ ∀ j w, ns[j]? = some w → NDR X b f j w
def FLR (X : zX) (b nv nq f : Nat) (F : Flg) : Prop := SW X b (cv X 10 (24 * b + f)) F.1 ∧ KND X b f F.2.1 ∧ NDS X b f F.2.2.1 ∧ SVR X b nq nv (cv X 14 (24 * b + f)) F.2.2.2.1 ∧ cv X 15 (24 * b + f) = F.2.2.2.2
def LYR (X : zX) (b l : Nat) (L : List Int32 × Int32) : Prop := SW X b (cv X 26 (8 * b + l)) L.1 ∧ cv X 27 (8 * b + l) = L.2 ∧ (L.2 = -1 ∨ ∃ j, j < l ∧ L.2 = nI j)
def ITR (X : zX) (b nv nq i : Nat) (I : Itm) : Prop := cv X 36 (40 * b + i) = nI I.1 ∧ cv X 37 (40 * b + i) = nI I.2.1 ∧ I.2.1 < 24 ∧ (match I.2.2 with
  | none => cv X 38 (40 * b + i) = -1
  | some s => SVR X b nq nv (cv X 38 (40 * b + i)) s)
/-- the numbers of P in use -/
def cnP (P : Pln) (nv : Nat) : Nat → Nat := cn P.1.length P.2.1.length P.2.2.1.length P.2.2.2.1.length P.2.2.2.2.1.length nv P.2.2.2.2.2.1.length
/-- bank b holds the plan P; D: completed parts, nv: serves, cb: slots but those of parts -/
def RP (X : zX) (b : Nat) (P : Pln) (D : List Pd) (nv cb : Nat) : Prop :=
  (cv X 4 b = nI P.1.length ∧ P.1.length ≤ 12 ∧ ∀ k s, P.1[k]? = some s → SGR X b P.1.length cb P.2.2.2.2.2.2 D k s) ∧
  (cv X 9 b = nI P.2.1.length ∧ P.2.1.length ≤ 24 ∧ ∀ f F, P.2.1[f]? = some F → FLR X b nv P.2.2.2.2.2.1.length f F) ∧
  (cv X 25 b = nI P.2.2.1.length ∧ P.2.2.1.length ≤ 8 ∧ ∀ l L, P.2.2.1[l]? = some L → LYR X b l L) ∧
  (cv X 28 b = nI P.2.2.2.1.length ∧ P.2.2.2.1.length ≤ 100 ∧ ∀ r R, P.2.2.2.1[r]? = some R → RLR X b P.1.length cb P.2.2.2.2.2.2 D nv P.2.2.2.2.2.1.length r R) ∧
  (cv X 35 b = nI P.2.2.2.2.1.length ∧ P.2.2.2.2.1.length ≤ 40 ∧ ∀ i I, P.2.2.2.2.1[i]? = some I → ITR X b nv P.2.2.2.2.2.1.length i I) ∧
  cv X 39 b = nI nv ∧ SPS X b P.2.2.2.2.2.1 ∧ Inv X b P.1.length D.length cb [] [] P.2.2.2.2.2.2 [] [] []
section
variable {n : Nat} {X X1 : zX} {b m m' p p' cb cb' nv nv' nq nq' : Nat} {D D' : List Pd} {φ : Den} {ns nf nl nr ni : Nat}
theorem EX_g {fr to c : Nat} (h : EX X b m cb p D fr to c φ) (hI : ∀ fm D0, Inv X b m fm cb [] D0 p [] [] [] → Inv X1 b m' fm cb' [] (D0 ++ D') p' [] [] []) : EX X1 b m' cb' p' (D ++ D') fr to c φ := by
  obtain ⟨h1, h2, h3, h4⟩ := h
  have e : (D ++ D').drop fr = D.drop fr ++ D' := List.drop_append_of_le_length (by omega)
  refine ⟨h1, by rw [List.length_append]; omega, ?_, by rw [e]; exact hI fr _ h4⟩
  rw [e, List.take_append_of_le_length (by rw [List.length_drop]; omega)]
  exact h3
theorem SVR_g {v : Int32} {s : Srv} (h : SVR X b nq nv v s) (hk : KP X X1 b (cn ns nf nl nr ni nv nq)) (hv : nv ≤ nv') (hq : nq ≤ nq') : SVR X1 b nq' nv' v s := by
  obtain ⟨q, h1, h2, h3⟩ := h
  refine ⟨q, by omega, h2, ?_⟩
  cases s with
  | inl a => exact ⟨by rw [hk.2 40 _ (by show 240 * b ≤ _; omega) (by show _ < 240 * b + nv; omega)]; exact h3.1, by rw [hk.2 41 _ (by show 240 * b ≤ _; omega) (by show _ < 240 * b + nv; omega)]; exact h3.2⟩
  | inr j => exact ⟨by have := h3.1; omega, by rw [hk.2 40 _ (by show 240 * b ≤ _; omega) (by show _ < 240 * b + nv; omega)]; exact h3.2⟩
theorem SGR_g {k : Nat} {s : List Int32 × Den} (h : SGR X b m cb p D k s) (hk : KP X X1 b (cn ns nf nl nr ni nv nq)) (hj : k < ns) (hI : ∀ fm D0, Inv X b m fm cb [] D0 p [] [] [] → Inv X1 b m' fm cb' [] (D0 ++ D') p' [] [] []) : SGR X1 b m' cb' p' (D ++ D') k s := by
  obtain ⟨h1, c, fr, to, h2, h3, h4, h5⟩ := h
  have e : ∀ i, 5 ≤ i → i ≤ 8 → cv X1 i (12 * b + k) = cv X i (12 * b + k) := by
    intro i a1 a2
    have : i = 5 ∨ i = 6 ∨ i = 7 ∨ i = 8 := by omega
    rcases this with rfl | rfl | rfl | rfl <;> exact hk.2 _ _ (by show 12 * b ≤ _; omega) (by show _ < 12 * b + ns; omega)
  exact ⟨by rw [e 5 (by omega) (by omega)]; exact SW_kp h1 hk.1, c, fr, to, by rw [e 6 (by omega) (by omega)]; exact h2, by rw [e 7 (by omega) (by omega)]; exact h3, by rw [e 8 (by omega) (by omega)]; exact h4, EX_g h5 hI⟩
theorem RLR_g {r : Nat} {R : Rul} (h : RLR X b m cb p D nv nq r R) (hk : KP X X1 b (cn ns nf nl nr ni nv nq)) (hj : r < nr) (hv : nv ≤ nv') (hq : nq ≤ nq') (hI : ∀ fm D0, Inv X b m fm cb [] D0 p [] [] [] → Inv X1 b m' fm cb' [] (D0 ++ D') p' [] [] []) : RLR X1 b m' cb' p' (D ++ D') nv' nq' r R := by
  obtain ⟨h1, h2, h3, ⟨c, fr, to, h4, h5, h6, h7⟩, h8⟩ := h
  have e : ∀ i, 29 ≤ i → i ≤ 34 → cv X1 i (100 * b + r) = cv X i (100 * b + r) := by
    intro i a1 a2
    have : i = 29 ∨ i = 30 ∨ i = 31 ∨ i = 32 ∨ i = 33 ∨ i = 34 := by omega
    rcases this with rfl | rfl | rfl | rfl | rfl | rfl <;> exact hk.2 _ _ (by show 100 * b ≤ _; omega) (by show _ < 100 * b + nr; omega)
  refine ⟨by rw [e 29 (by omega) (by omega)]; exact h1, h2, by rw [e 30 (by omega) (by omega)]; exact h3, ⟨c, fr, to, by rw [e 31 (by omega) (by omega)]; exact h4, by rw [e 32 (by omega) (by omega)]; exact h5, by rw [e 33 (by omega) (by omega)]; exact h6, EX_g h7 hI⟩, ?_⟩
  rw [e 34 (by omega) (by omega)]
  exact SVR_g h8 hk hv hq
theorem NDV_g {i : Nat} {t : Tk} (h : NDV X b i t) (hs : SKa b X X1) (e : ∀ r, 20 ≤ r → r ≤ 22 → cv X1 r i = cv X r i) : NDV X1 b i t := by
  have e0 := e 20 (by omega) (by omega)
  have e1 := e 21 (by omega) (by omega)
  have e2 := e 22 (by omega) (by omega)
  unfold NDV
  rw [e0, e1, e2]
  rcases h with h | h | h | h
  · exact Or.inl h
  · exact Or.inr (Or.inl h)
  · exact Or.inr (Or.inr (Or.inl h))
  · exact Or.inr (Or.inr (Or.inr ⟨h.1, h.2.1, SW_kp h.2.2 hs⟩))
theorem NDR_g {f j : Nat} {w : Tk × Tk} (h : NDR X b f j w) (hs : SKa b X X1) (e : ∀ r, 17 ≤ r → r ≤ 23 → cv X1 r (4 * (24 * b + f) + j) = cv X r (4 * (24 * b + f) + j)) : NDR X1 b f j w := by
  obtain ⟨h1, h2, h3, h4, h5, h6, h7⟩ := h
  exact ⟨h1, h2, h3, by rw [e 17 (by omega) (by omega)]; exact SW_kp h4 hs, by rw [e 18 (by omega) (by omega)]; exact h5, by rw [e 23 (by omega) (by omega)]; exact h6, NDV_g h7 hs (fun r a1 a2 => e r (by omega) (by omega))⟩
theorem NDS_g {f : Nat} {w : List (Tk × Tk)} (h : NDS X b f w) (hk : KP X X1 b (cn ns nf nl nr ni nv nq)) (hf : f < nf) : NDS X1 b f w := by
  refine ⟨?_, h.2.1, fun j y hj => NDR_g (h.2.2 j y hj) hk.1 (fun r a1 a2 => ?_)⟩
  · rw [hk.2 16 _ (by show 24 * b ≤ _; omega) (by show _ < 24 * b + nf; omega)]; exact h.1
  · have hl := (List.getElem?_eq_some_iff.mp hj).1
    have h4 := h.2.1
    have : r = 17 ∨ r = 18 ∨ r = 19 ∨ r = 20 ∨ r = 21 ∨ r = 22 ∨ r = 23 := by omega
    rcases this with rfl | rfl | rfl | rfl | rfl | rfl | rfl <;> exact hk.2 _ _ (by show 96 * b ≤ _; omega) (by show _ < 96 * b + 4 * nf; omega)
theorem FLR_g {f : Nat} {F : Flg} (h : FLR X b nv nq f F) (hk : KP X X1 b (cn ns nf nl nr ni nv nq)) (hf : f < nf) (hv : nv ≤ nv') (hq : nq ≤ nq') : FLR X1 b nv' nq' f F := by
  obtain ⟨h1, h2, h3, h4, h5⟩ := h
  have e : ∀ i, i = 10 ∨ i = 14 ∨ i = 15 → cv X1 i (24 * b + f) = cv X i (24 * b + f) := by
    intro i this
    rcases this with rfl | rfl | rfl <;> exact hk.2 _ _ (by show 24 * b ≤ _; omega) (by show _ < 24 * b + nf; omega)
  refine ⟨by rw [e 10 (by omega)]; exact SW_kp h1 hk.1, KND_kp h2 hk hf, NDS_g h3 hk hf, ?_, by rw [e 15 (by omega)]; exact h5⟩
  rw [e 14 (by omega)]
  exact SVR_g h4 hk hv hq
theorem LYR_g {l : Nat} {L : List Int32 × Int32} (h : LYR X b l L) (hk : KP X X1 b (cn ns nf nl nr ni nv nq)) (hl : l < nl) : LYR X1 b l L := by
  refine ⟨?_, ?_, h.2.2⟩
  · rw [hk.2 26 _ (by show 8 * b ≤ _; omega) (by show _ < 8 * b + nl; omega)]; exact SW_kp h.1 hk.1
  · rw [hk.2 27 _ (by show 8 * b ≤ _; omega) (by show _ < 8 * b + nl; omega)]; exact h.2.1
theorem ITR_g {i : Nat} {I : Itm} (h : ITR X b nv nq i I) (hk : KP X X1 b (cn ns nf nl nr ni nv nq)) (hl : i < ni) (hv : nv ≤ nv') (hq : nq ≤ nq') : ITR X1 b nv' nq' i I := by
  obtain ⟨a, f, s⟩ := I
  refine ⟨?_, ?_, h.2.2.1, ?_⟩
  · rw [hk.2 36 _ (by show 40 * b ≤ _; omega) (by show _ < 40 * b + ni; omega)]; exact h.1
  · rw [hk.2 37 _ (by show 40 * b ≤ _; omega) (by show _ < 40 * b + ni; omega)]; exact h.2.1
  · have h4 := h.2.2.2
    cases s with
    | none => show cv X1 38 _ = _; rw [hk.2 38 _ (by show 40 * b ≤ _; omega) (by show _ < 40 * b + ni; omega)]; exact h4
    | some s => show SVR X1 b nq' nv' (cv X1 38 _) s; rw [hk.2 38 _ (by show 40 * b ≤ _; omega) (by show _ < 40 * b + ni; omega)]; exact SVR_g h4 hk hv hq
theorem lt_of_get {α : Type} {l : List α} {k : Nat} {x : α} (h : l[k]? = some x) : k < l.length := (List.getElem?_eq_some_iff.mp h).1
/-- the plan grows -/
theorem RP_g {P P' : Pln} (h : RP X b P D nv cb) (hk : KP X X1 b (cnP P nv))
    (h1 : cv X1 4 b = nI P'.1.length ∧ P'.1.length ≤ 12 ∧ ∀ k s, P'.1[k]? = some s → P.1[k]? = some s ∨ SGR X1 b P'.1.length cb' P'.2.2.2.2.2.2 (D ++ D') k s)
    (h2 : cv X1 9 b = nI P'.2.1.length ∧ P'.2.1.length ≤ 24 ∧ ∀ k s, P'.2.1[k]? = some s → P.2.1[k]? = some s ∨ FLR X1 b nv' P'.2.2.2.2.2.1.length k s)
    (h3 : cv X1 25 b = nI P'.2.2.1.length ∧ P'.2.2.1.length ≤ 8 ∧ ∀ k s, P'.2.2.1[k]? = some s → P.2.2.1[k]? = some s ∨ LYR X1 b k s)
    (h4 : cv X1 28 b = nI P'.2.2.2.1.length ∧ P'.2.2.2.1.length ≤ 100 ∧ ∀ k s, P'.2.2.2.1[k]? = some s → P.2.2.2.1[k]? = some s ∨ RLR X1 b P'.1.length cb' P'.2.2.2.2.2.2 (D ++ D') nv' P'.2.2.2.2.2.1.length k s)
    (h5 : cv X1 35 b = nI P'.2.2.2.2.1.length ∧ P'.2.2.2.2.1.length ≤ 40 ∧ ∀ k s, P'.2.2.2.2.1[k]? = some s → P.2.2.2.2.1[k]? = some s ∨ ITR X1 b nv' P'.2.2.2.2.2.1.length k s)
    (h6 : cv X1 39 b = nI nv' ∧ nv ≤ nv') (h7 : SPS X1 b P'.2.2.2.2.2.1 ∧ P.2.2.2.2.2.1.length ≤ P'.2.2.2.2.2.1.length)
    (hI : ∀ fm D0, Inv X b P.1.length fm cb [] D0 P.2.2.2.2.2.2 [] [] [] → Inv X1 b P'.1.length fm cb' [] (D0 ++ D') P'.2.2.2.2.2.2 [] [] []) : RP X1 b P' (D ++ D') nv' cb' := by
  obtain ⟨g1, g2, g3, g4, g5, g6, g7, g8⟩ := h
  unfold cnP at hk
  refine ⟨⟨h1.1, h1.2.1, fun k s hs => ?_⟩, ⟨h2.1, h2.2.1, fun k s hs => ?_⟩, ⟨h3.1, h3.2.1, fun k s hs => ?_⟩, ⟨h4.1, h4.2.1, fun k s hs => ?_⟩, ⟨h5.1, h5.2.1, fun k s hs => ?_⟩, h6.1, h7.1, ?_⟩
  · rcases h1.2.2 k s hs with q | q
    · exact SGR_g (g1.2.2 k s q) hk (lt_of_get q) hI
    · exact q
  · rcases h2.2.2 k s hs with q | q
    · exact FLR_g (g2.2.2 k s q) hk (lt_of_get q) h6.2 h7.2
    · exact q
  · rcases h3.2.2 k s hs with q | q
    · exact LYR_g (g3.2.2 k s q) hk (lt_of_get q)
    · exact q
  · rcases h4.2.2 k s hs with q | q
    · exact RLR_g (g4.2.2 k s q) hk (lt_of_get q) h6.2 h7.2 hI
    · exact q
  · rcases h5.2.2 k s hs with q | q
    · exact ITR_g (g5.2.2 k s q) hk (lt_of_get q) h6.2 h7.2
    · exact q
  · have := Inv_all (hI _ _ g8)
    rw [List.nil_append, ← List.length_append] at this
    exact this
end
end ZRP

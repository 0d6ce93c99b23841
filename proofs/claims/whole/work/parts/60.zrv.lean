/-! THE REFERENCE'S EXPRESSION: what its parts mean, what its pile holds -/
section ZRV
/-- the slot s of bank b is taken -/
def sl (X : zX) (b s : Nat) : Prop := ∃ c, cv X 1 b = nI c ∧ c ≤ 1500 ∧ 1500 * b ≤ s ∧ s < 1500 * b + c
/-- a chain of parts by next -/
def nxC (X : zX) (b : Nat) : List Nat → Prop
  | [] => True
  | [x] => pv X b 56 x = -1
  | x :: y :: r => pv X b 56 x = nI y ∧ nxC X b (y :: r)
def CHN (X : zX) (b q : Nat) (l : List Nat) : Prop := l ≠ [] ∧ pv X b 55 q = nI (l.headD 0) ∧ nxC X b l
/-- a number or a text that a part tells -/
def THG (X : zX) (b p : Nat) (o : Thg) : Prop := pv X b 52 p = b2 o.1 ∧ (o.1 = false → pv X b 53 p = o.2.1) ∧ (o.1 = true → ∃ s, sl X b s ∧ pv X b 54 p = nI s ∧ SLT X s o.2.2)
/-- which kinds of tests have what -/
def tkd (k : Nat) (o : Thg) : Prop := (k = 3 ∨ k = 10) ∨ ((k = 4 ∨ k = 5) ∧ o.1 = false) ∨ (6 ≤ k ∧ k ≤ 8 ∧ o.1 = true)
def TSTn (X : zX) (b : Nat) (U : Nat → Prop) (p : Nat) (φ : Den) : Prop := ∃ w s, sl X b s ∧ pv X b 51 p = nI s ∧ SLT X s w ∧
  ((∃ k o, tkd k o ∧ pv X b 50 p = nI k ∧ THG X b p o ∧ φ = dTest (k + 32) w o) ∨
   (pv X b 50 p = 9 ∧ ∃ (o : Thg) (os : List Thg) (l : List Nat), THG X b p o ∧ (l = [] ∧ pv X b 55 p = -1 ∨ CHN X b p l) ∧ (∀ x ∈ l, U x) ∧ l.length = os.length ∧ (∀ (i x : Nat) (o' : Thg), l[i]? = some x → os[i]? = some o' → THG X b x o') ∧ φ = dAmong w (o :: os)))
/-- the part p means φ, by the parts of DD -/
def PMn (X : zX) (b m : Nat) (DD : List Pd) (U : Nat → Prop) (p : Nat) (φ : Den) : Prop :=
  (pv X b 50 p = 0 ∧ φ = fun _ => true) ∨ (pv X b 50 p = 1 ∧ φ = fun _ => false) ∨
  (pv X b 50 p = 2 ∧ ∃ j, j < m ∧ pv X b 51 p = nI j ∧ φ = fun E => E.2.getD j false) ∨
  (pv X b 50 p = 12 ∧ ∃ x, x ∈ DD ∧ pv X b 55 p = nI x.1 ∧ φ = fun E => !x.2 E) ∨
  (pv X b 50 p = 13 ∧ ∃ l : List Pd, CHN X b p (l.map (·.1)) ∧ (∀ x ∈ l, x ∈ DD ∧ U x.1) ∧ φ = dOr (l.map (·.2))) ∨
  (pv X b 50 p = 14 ∧ ∃ l : List Pd, CHN X b p (l.map (·.1)) ∧ (∀ x ∈ l, x ∈ DD ∧ U x.1) ∧ φ = dAnd (l.map (·.2))) ∨
  TSTn X b U p φ
section
variable {n : Nat} {X X1 : zX} {b m p q : Nat} {U U1 : Nat → Prop} {φ : Den} {DD : List Pd} {l : List Nat}
/-- slots that are taken are kept -/
def SKa (b : Nat) (X X1 : zX) : Prop := ∀ s w, sl X b s → SLT X s w → sl X1 b s ∧ SLT X1 s w
theorem SKa_of (h1 : X1.2.2 1 = X.2.2 1) (h2 : X1.2.2 2 = X.2.2 2) (h3 : X1.2.2 3 = X.2.2 3) : SKa b X X1 := by
  intro s w ⟨c, k1, k2⟩ hw
  exact ⟨⟨c, by rw [cv_of h1]; exact k1, k2⟩, SLT_of hw h2 h3⟩
theorem SKa_up {i j : Nat} {v : Int32} (h1 : 1 ≠ i) (h2 : 2 ≠ i) (h3 : 3 ≠ i) : SKa b X (up X i j v) := SKa_of (by show (xA X i _).2.2 1 = _; rw [xA_3, if_neg h1]) (by show (xA X i _).2.2 2 = _; rw [xA_3, if_neg h2]) (by show (xA X i _).2.2 3 = _; rw [xA_3, if_neg h3])
theorem SKa_tr {X2 : zX} (h1 : SKa b X X1) (h2 : SKa b X1 X2) : SKa b X X2 := fun s w a c => h2 s w (h1 s w a c).1 (h1 s w a c).2
theorem SKa_up2 {i j i' j' : Nat} {v v' : Int32} (h : 1 ≠ i ∧ 2 ≠ i ∧ 3 ≠ i) (h' : 1 ≠ i' ∧ 2 ≠ i' ∧ 3 ≠ i') : SKa b X (up (up X i j v) i' j' v') := SKa_tr (SKa_up h.1 h.2.1 h.2.2) (SKa_up h'.1 h'.2.1 h'.2.2)
theorem nxC_of (h : nxC X b l) (hk : ∀ x ∈ l, pv X1 b 56 x = pv X b 56 x) : nxC X1 b l := by
  induction l with
  | nil => trivial
  | cons x r ih =>
    cases r with
    | nil =>
      show pv X1 b 56 x = -1
      rw [hk x List.mem_cons_self]
      exact h
    | cons y r => exact ⟨by rw [hk x List.mem_cons_self]; exact h.1, ih h.2 (fun z hz => hk z (List.mem_cons_of_mem _ hz))⟩
theorem CHN_of (h : CHN X b q l) (h5 : pv X1 b 55 q = pv X b 55 q) (hk : ∀ x ∈ l, pv X1 b 56 x = pv X b 56 x) : CHN X1 b q l := ⟨h.1, by rw [h5]; exact h.2.1, nxC_of h.2.2 hk⟩
theorem THG_of {o : Thg} (h : THG X b p o) (hk : ∀ i, 52 ≤ i → i ≤ 54 → pv X1 b i p = pv X b i p) (hs : SKa b X X1) : THG X1 b p o := by
  obtain ⟨h1, h2, h3⟩ := h
  refine ⟨by rw [hk 52 (by omega) (by omega)]; exact h1, fun q => by rw [hk 53 (by omega) (by omega)]; exact h2 q, fun q => ?_⟩
  obtain ⟨s, s1, s2, s3⟩ := h3 q
  exact ⟨s, (hs s _ s1 s3).1, by rw [hk 54 (by omega) (by omega)]; exact s2, (hs s _ s1 s3).2⟩
theorem PMn_of {DD' : List Pd} (h : PMn X b m DD U p φ) (k5 : ∀ i, 50 ≤ i → i ≤ 55 → pv X1 b i p = pv X b i p) (k6 : ∀ u, U u → pv X1 b 56 u = pv X b 56 u ∧ ∀ i, 52 ≤ i → i ≤ 54 → pv X1 b i u = pv X b i u) (hs : SKa b X X1) (hU : ∀ u, U u → U1 u) (hD : ∀ x ∈ DD, x ∈ DD') : PMn X1 b m DD' U1 p φ := by
  have e0 := k5 50 (by omega) (by omega)
  rcases h with h | h | h | h | h | h | h
  · exact Or.inl ⟨by rw [e0]; exact h.1, h.2⟩
  · exact Or.inr (Or.inl ⟨by rw [e0]; exact h.1, h.2⟩)
  · obtain ⟨h1, j, h2, h3, h4⟩ := h
    exact Or.inr (Or.inr (Or.inl ⟨by rw [e0]; exact h1, j, h2, by rw [k5 51 (by omega) (by omega)]; exact h3, h4⟩))
  · obtain ⟨h1, x, h2, h3, h4⟩ := h
    exact Or.inr (Or.inr (Or.inr (Or.inl ⟨by rw [e0]; exact h1, x, hD x h2, by rw [k5 55 (by omega) (by omega)]; exact h3, h4⟩)))
  · obtain ⟨h1, l, h2, h3, h4⟩ := h
    refine Or.inr (Or.inr (Or.inr (Or.inr (Or.inl ⟨by rw [e0]; exact h1, l, CHN_of h2 (k5 55 (by omega) (by omega)) (fun x hx => ?_), fun x hx => ⟨hD x (h3 x hx).1, hU _ (h3 x hx).2⟩, h4⟩))))
    obtain ⟨z, hz, rfl⟩ := List.mem_map.mp hx
    exact (k6 _ (h3 z hz).2).1
  · obtain ⟨h1, l, h2, h3, h4⟩ := h
    refine Or.inr (Or.inr (Or.inr (Or.inr (Or.inr (Or.inl ⟨by rw [e0]; exact h1, l, CHN_of h2 (k5 55 (by omega) (by omega)) (fun x hx => ?_), fun x hx => ⟨hD x (h3 x hx).1, hU _ (h3 x hx).2⟩, h4⟩)))))
    obtain ⟨z, hz, rfl⟩ := List.mem_map.mp hx
    exact (k6 _ (h3 z hz).2).1
  · obtain ⟨w, s, s1, s2, s3, h⟩ := h
    refine Or.inr (Or.inr (Or.inr (Or.inr (Or.inr (Or.inr ⟨w, s, (hs s w s1 s3).1, by rw [k5 51 (by omega) (by omega)]; exact s2, (hs s w s1 s3).2, ?_⟩)))))
    rcases h with ⟨k, o, h1, h2, h3, h4⟩ | ⟨h1, o, os, l, h2, h3, h4, h5, h6, h7⟩
    · exact Or.inl ⟨k, o, h1, by rw [e0]; exact h2, THG_of h3 (fun i a1 a2 => k5 i (by omega) (by omega)) hs, h4⟩
    · refine Or.inr ⟨by rw [e0]; exact h1, o, os, l, THG_of h2 (fun i a1 a2 => k5 i (by omega) (by omega)) hs, ?_, fun x hx => hU x (h4 x hx), h5, fun i x o' hx ho => THG_of (h6 i x o' hx ho) (k6 x (h4 x (List.mem_of_getElem? hx))).2 hs, h7⟩
      rcases h3 with h3 | h3
      · exact Or.inl ⟨h3.1, by rw [k5 55 (by omega) (by omega)]; exact h3.2⟩
      · exact Or.inr (CHN_of h3 (k5 55 (by omega) (by omega)) (fun x hx => (k6 x (h4 x hx)).1))
/-- open parts, parts that hang on them -/
def opn : List Fr → List Nat
  | [] => []
  | .inl q :: S => q :: opn S
  | .inr (o, a, _) :: S => (a.map (·.1)).toList ++ ((o.map (·.1)).toList ++ opn S)
def rowK (o : Option (Nat × List Pd)) : List Pd := match o with
  | some x => x.2
  | none => []
def kidF (f : Nf) : List Pd := rowK f.2.1 ++ (f.2.2.toList ++ rowK f.1)
def kids : List Fr → List Pd
  | [] => []
  | .inl _ :: S => kids S
  | .inr f :: S => kidF f ++ kids S
def FRo (X : zX) (b t : Nat) (o : Option (Nat × List Pd)) : Prop := match o with
  | none => cv X 64 t = -1
  | some (q, l) => cv X 64 t = nI q ∧ pv X b 50 q = 13 ∧ CHN X b q (l.map (·.1)) ∧ cv X 65 t = nI ((l.map (·.1)).getLastD 0)
def FRa (X : zX) (b t : Nat) (a : Option (Nat × List Pd)) (y : Option Pd) : Prop := match a with
  | none => cv X 66 t = -1 ∧ (match y with | none => cv X 67 t = -1 | some x => cv X 67 t = nI x.1 ∧ pv X b 56 x.1 = -1)
  | some (q, l) => y = none ∧ cv X 66 t = nI q ∧ pv X b 50 q = 14 ∧ CHN X b q (l.map (·.1)) ∧ cv X 67 t = nI ((l.map (·.1)).getLastD 0)
def FRM (X : zX) (b t : Nat) (f : Fr) : Prop := match f with
  | .inl q => cv X 63 t = nI q ∧ pv X b 50 q = 12
  | .inr (o, a, y) => cv X 63 t = -1 ∧ FRo X b t o ∧ FRa X b t a y
/-- the places of the pile, the top first -/
def FRS (X : zX) (b : Nat) : List Fr → Prop
  | [] => True
  | f :: S => FRM X b S.length f ∧ FRS X b S
/-- the state of reading an expression; P, L, Q: a completed part that hangs nowhere, parts that hang on rows in hand, new or open parts in hand -/
def Inv (X : zX) (b m fm cb : Nat) (S : List Fr) (D : List Pd) (p : Nat) (P L : List Pd) (Q : List Nat) : Prop :=
  (LN X ∧ X.1 4 = nI b ∧ b ≤ 1) ∧ (cv X 49 b = nI p ∧ p ≤ 400) ∧ (cv X 58 b = nI (fm + D.length) ∧ fm + D.length + (Q ++ opn S).length ≤ p) ∧
  (cb ≤ 640 ∧ ∃ c, cv X 1 b = nI c ∧ c ≤ cb + 2 * p) ∧ FRS X b S ∧
  (∀ i x, D[i]? = some x → cv X 57 (400 * b + (fm + i)) = nI x.1 ∧ x.1 < p) ∧
  ∃ U : Nat → Prop, (∀ i x, D[i]? = some x → PMn X b m (D.take i) U x.1 x.2) ∧ (∀ u, U u → u < p) ∧
    (∀ x ∈ P ++ (L ++ kids S), x ∈ D ∧ ¬ U x.1) ∧ ((P ++ (L ++ kids S)).map (·.1)).Nodup ∧ (D.map (·.1) ++ (Q ++ opn S)).Nodup ∧ (∀ x ∈ P, pv X b 56 x.1 = -1) ∧ (∀ q ∈ Q ++ opn S, q < p ∧ ¬ U q) ∧ ∀ q ∈ opn S, pv X b 56 q = -1
theorem FRo_of {t : Nat} {o : Option (Nat × List Pd)} (h : FRo X b t o) (hc : ∀ i, 63 ≤ i → i ≤ 67 → cv X1 i t = cv X i t) (ho : ∀ q ∈ (o.map (·.1)).toList, pv X1 b 50 q = pv X b 50 q ∧ pv X1 b 55 q = pv X b 55 q) (hk : ∀ x ∈ rowK o, pv X1 b 56 x.1 = pv X b 56 x.1) : FRo X1 b t o := by
  cases o with
  | none =>
    show cv X1 64 t = -1
    rw [hc 64 (by omega) (by omega)]
    exact h
  | some z =>
    obtain ⟨q, l⟩ := z
    obtain ⟨h1, h2, h3, h4⟩ := h
    have hq := ho q (by simp)
    refine ⟨by rw [hc 64 (by omega) (by omega)]; exact h1, by rw [hq.1]; exact h2, CHN_of h3 hq.2 (fun x hx => ?_), by rw [hc 65 (by omega) (by omega)]; exact h4⟩
    obtain ⟨z, hz, rfl⟩ := List.mem_map.mp hx
    exact hk z hz
theorem FRa_of {t : Nat} {o : Option (Nat × List Pd)} {y : Option Pd} (h : FRa X b t o y) (hc : ∀ i, 63 ≤ i → i ≤ 67 → cv X1 i t = cv X i t) (ho : ∀ q ∈ (o.map (·.1)).toList, pv X1 b 50 q = pv X b 50 q ∧ pv X1 b 55 q = pv X b 55 q) (hk : ∀ x ∈ rowK o ++ y.toList, pv X1 b 56 x.1 = pv X b 56 x.1) : FRa X1 b t o y := by
  cases o with
  | none =>
    refine ⟨by rw [hc 66 (by omega) (by omega)]; exact h.1, ?_⟩
    cases y with
    | none => show cv X1 67 t = -1; rw [hc 67 (by omega) (by omega)]; exact h.2
    | some x => exact ⟨by rw [hc 67 (by omega) (by omega)]; exact h.2.1, by rw [hk x (by simp)]; exact h.2.2⟩
  | some z =>
    obtain ⟨q, l⟩ := z
    obtain ⟨h0, h1, h2, h3, h4⟩ := h
    have hq := ho q (by simp)
    refine ⟨h0, by rw [hc 66 (by omega) (by omega)]; exact h1, by rw [hq.1]; exact h2, CHN_of h3 hq.2 (fun x hx => ?_), by rw [hc 67 (by omega) (by omega)]; exact h4⟩
    obtain ⟨z, hz, rfl⟩ := List.mem_map.mp hx
    exact hk z (List.mem_append_left _ hz)
theorem FRS_of : ∀ {S : List Fr}, FRS X b S → (∀ t i, t < S.length → 63 ≤ i → i ≤ 67 → cv X1 i t = cv X i t) → (∀ q ∈ opn S, pv X1 b 50 q = pv X b 50 q ∧ pv X1 b 55 q = pv X b 55 q) → (∀ x ∈ kids S, pv X1 b 56 x.1 = pv X b 56 x.1) → FRS X1 b S
  | [], _, _, _, _ => trivial
  | .inl q :: S, h, hc, ho, hk => by
    refine ⟨⟨by rw [hc S.length 63 (by simp) (by omega) (by omega)]; exact h.1.1, by rw [(ho q (by simp [opn])).1]; exact h.1.2⟩, FRS_of h.2 (fun t i ht => hc t i (by rw [List.length_cons]; omega)) (fun q' hq' => ho q' (by simp [opn, hq'])) hk⟩
  | .inr (o, a, y) :: S, h, hc, ho, hk => by
    have hc' : ∀ i, 63 ≤ i → i ≤ 67 → cv X1 i S.length = cv X i S.length := fun i => hc S.length i (by simp)
    refine ⟨⟨by rw [hc' 63 (by omega) (by omega)]; exact h.1.1, FRo_of h.1.2.1 hc' (fun q hq => ho q ?_) (fun x hx => hk x ?_), FRa_of h.1.2.2 hc' (fun q hq => ho q ?_) (fun x hx => hk x ?_)⟩, FRS_of h.2 (fun t i ht => hc t i (by rw [List.length_cons]; omega)) (fun q' hq' => ho q' ?_) (fun x hx => hk x ?_)⟩
    · exact List.mem_append_right _ (List.mem_append_left _ hq)
    · exact List.mem_append_left _ (List.mem_append_right _ (List.mem_append_right _ hx))
    · exact List.mem_append_left _ hq
    · rcases List.mem_append.mp hx with hx | hx
      · exact List.mem_append_left _ (List.mem_append_left _ hx)
      · exact List.mem_append_left _ (List.mem_append_right _ (List.mem_append_left _ hx))
    · exact List.mem_append_right _ (List.mem_append_right _ hq')
    · exact List.mem_append_right _ hx
variable {fm cb : Nat} {S : List Fr} {D P L : List Pd} {Q : List Nat}
theorem Inv_tok (h : Inv X b m fm cb S D p P L Q) (h1 : X1.2.2 = X.2.2) (h4 : X1.1 4 = X.1 4) : Inv X1 b m fm cb S D p P L Q := by
  have e : ∀ i j, cv X1 i j = cv X i j := fun i j => cv_of (by rw [h1])
  have e2 : ∀ i q, pv X1 b i q = pv X b i q := fun i q => e i _
  have hs : SKa b X X1 := SKa_of (by rw [h1]) (by rw [h1]) (by rw [h1])
  obtain ⟨⟨a1, a2, a3⟩, ⟨b1, b2'⟩, ⟨c1, c2⟩, ⟨d1, c, d2, d3⟩, f, g, U, u1, u2, u3, u4, u5, u6, u7, u8⟩ := h
  refine ⟨⟨fun i hi => by rw [h1]; exact a1 i hi, by rw [h4]; exact a2, a3⟩, ⟨by rw [e]; exact b1, b2'⟩, ⟨by rw [e]; exact c1, c2⟩, ⟨d1, c, by rw [e]; exact d2, d3⟩, FRS_of f (fun t i _ _ _ => e i t) (fun q _ => ⟨e2 50 q, e2 55 q⟩) (fun x _ => e2 56 x.1), fun i x hx => by rw [e]; exact g i x hx, U, fun i x hx => PMn_of (u1 i x hx) (fun i _ _ => e2 i _) (fun u _ => ⟨e2 56 u, fun i _ _ => e2 i u⟩) hs (fun _ q => q) (fun _ q => q), u2, u3, u4, u5, fun x hx => by rw [e2]; exact u6 x hx, u7, fun q hq => by rw [e2]; exact u8 q hq⟩
theorem nd_mid {l r : List Nat} {x : Nat} (h : (l ++ r).Nodup) (hx : x ∉ l ++ r) : (l ++ x :: r).Nodup := (List.perm_middle.nodup_iff).mpr (List.nodup_cons.mpr ⟨hx, h⟩)
theorem nP_cv {k : Int32} {i j : Nat} (h1 : ¬ (i = 49 ∧ j = b)) (h2 : ¬ (50 ≤ i ∧ i ≤ 56 ∧ j = 400 * b + p)) : cv (nP X b p k) i j = cv X i j := by
  unfold nP
  rw [cv_ne (by omega), cv_ne (by omega), cv_ne (by omega), cv_ne (by omega), cv_ne (by omega), cv_ne (by omega), cv_ne (by omega), cv_ne (by omega)]
theorem nP_pv {k : Int32} {i x : Nat} (hx : x ≠ p) (hi : 50 ≤ i) : pv (nP X b p k) b i x = pv X b i x := nP_cv (by omega) (by omega)
theorem nP_own {k : Int32} (hL : LN X) (hb : b ≤ 1) (hp : p < 400) : pv (nP X b p k) b 50 p = k ∧ pv (nP X b p k) b 51 p = -1 ∧ pv (nP X b p k) b 52 p = 0 ∧ pv (nP X b p k) b 53 p = 0 ∧ pv (nP X b p k) b 54 p = -1 ∧ pv (nP X b p k) b 55 p = -1 ∧ pv (nP X b p k) b 56 p = -1 ∧ cv (nP X b p k) 49 b = nI (p + 1) := by
  have hm : 400 * b + p < 800 := by omega
  unfold pv nP
  refine ⟨?_, ?_, ?_, ?_, ?_, ?_, ?_, ?_⟩
  · rw [cv_ne (by omega), cv_ne (by omega), cv_ne (by omega), cv_ne (by omega), cv_ne (by omega), cv_ne (by omega), cv_eq (LN_up hL) (by decide) hm]
  · rw [cv_ne (by omega), cv_ne (by omega), cv_ne (by omega), cv_ne (by omega), cv_ne (by omega), cv_eq (LN_up (LN_up hL)) (by decide) hm]
  · rw [cv_ne (by omega), cv_ne (by omega), cv_ne (by omega), cv_ne (by omega), cv_eq (LN_up (LN_up (LN_up hL))) (by decide) hm]
  · rw [cv_ne (by omega), cv_ne (by omega), cv_ne (by omega), cv_eq (LN_up (LN_up (LN_up (LN_up hL)))) (by decide) hm]
  · rw [cv_ne (by omega), cv_ne (by omega), cv_eq (LN_up (LN_up (LN_up (LN_up (LN_up hL))))) (by decide) hm]
  · rw [cv_ne (by omega), cv_eq (LN_up (LN_up (LN_up (LN_up (LN_up (LN_up hL)))))) (by decide) hm]
  · rw [cv_eq (LN_up (LN_up (LN_up (LN_up (LN_up (LN_up (LN_up hL))))))) (by decide) hm]
  · rw [cv_ne (by omega), cv_ne (by omega), cv_ne (by omega), cv_ne (by omega), cv_ne (by omega), cv_ne (by omega), cv_ne (by omega), cv_eq hL (by decide) (by show b < 2; omega)]
theorem nP_SK {k : Int32} : SKa b X (nP X b p k) := SKa_tr (SKa_up2 (by decide) (by decide)) (SKa_tr (SKa_up2 (by decide) (by decide)) (SKa_tr (SKa_up2 (by decide) (by decide)) (SKa_up2 (by decide) (by decide))))
/-- a new part, in hand -/
theorem Inv_new {k : Int32} (h : Inv X b m fm cb S D p P L Q) (hp : p < 400) : Inv (nP X b p k) b m fm cb S D (p + 1) P L (p :: Q) := by
  obtain ⟨⟨a1, a2, a3⟩, ⟨b1, b2'⟩, ⟨c1, c2⟩, ⟨d1, c, d2, d3⟩, f, g, U, u1, u2, u3, u4, u5, u6, u7, u8⟩ := h
  have hD : ∀ x ∈ D, x.1 < p := by
    intro x hx
    obtain ⟨i, hi⟩ := List.getElem?_of_mem hx
    exact (g i x hi).2
  have own := nP_own (k := k) a1 a3 hp
  refine ⟨⟨LN_nP a1, a2, a3⟩, ⟨own.2.2.2.2.2.2.2, by omega⟩, ⟨by rw [nP_cv (by omega) (by omega)]; exact c1, by rw [List.cons_append, List.length_cons]; omega⟩, ⟨d1, c, by rw [nP_cv (by omega) (by omega)]; exact d2, by omega⟩, ?_, ?_, U, ?_, ?_, u3, u4, ?_, ?_, ?_, ?_⟩
  · refine FRS_of f (fun t i _ h1 h2 => nP_cv (by omega) (by omega)) (fun q hq => ?_) (fun x hx => ?_)
    · have := (u7 q (List.mem_append_right _ hq)).1
      exact ⟨nP_pv (by omega) (by omega), nP_pv (by omega) (by omega)⟩
    · have := hD x (u3 x (List.mem_append_right _ (List.mem_append_right _ hx))).1
      exact nP_pv (by omega) (by omega)
  · intro i x hx
    have := g i x hx
    rw [nP_cv (by omega) (by omega)]
    exact ⟨this.1, by omega⟩
  · intro i x hx
    have hx' := (g i x hx).2
    exact PMn_of (u1 i x hx) (fun i h1 h2 => nP_pv (by omega) h1) (fun u hu => by have := u2 u hu; exact ⟨nP_pv (by omega) (by omega), fun i h1 h2 => nP_pv (by omega) (by omega)⟩) nP_SK (fun _ q => q) (fun _ q => q)
  · intro u hu
    have := u2 u hu
    omega
  · rw [List.cons_append]
    apply nd_mid u5
    intro hm
    rcases List.mem_append.mp hm with hm | hm
    · obtain ⟨x, hx, e⟩ := List.mem_map.mp hm
      have := hD x hx
      omega
    · have := (u7 p hm).1
      omega
  · intro x hx
    have := hD x (u3 x (List.mem_append_left _ hx)).1
    rw [nP_pv (by omega) (by omega)]
    exact u6 x hx
  · intro q hq
    rw [List.cons_append] at hq
    rcases List.mem_cons.mp hq with e | hq
    · rw [e]
      refine ⟨by omega, fun hu => ?_⟩
      have := u2 p hu
      omega
    · have := u7 q hq
      exact ⟨by omega, this.2⟩
  · intro q hq
    have := u7 q (List.mem_append_right _ hq)
    rw [nP_pv (by omega) (by omega)]
    exact u8 q hq
end
end ZRV

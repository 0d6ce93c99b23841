/-! THE REFERENCE: what a bank holds stays; value -/
section ZBK
section
variable {n : Nat} {X X1 X2 : zX} {b f nv cb p m fm : Nat} {K : KL} {P : Pln} {l : List Bool} {D Q : List Pd} {L : Ldd} {a : Int32}
/-- the cells of bank b are kept -/
def BKs (X X1 : zX) (b : Nat) : Prop := ∀ i j, i < 60 → mH i * b ≤ j → j < mH i * b + mH i → cv X1 i j = cv X i j
theorem Inv_trc (h : Inv X b m fm cb [] D p Q [] []) (hL : LN X1) (h4 : X1.1 4 = X.1 4) (hr : BKs X X1 b) (hs : SKa b X X1) : Inv X1 b m fm cb [] D p [] [] [] := by
  obtain ⟨⟨a1, a2, a3⟩, ⟨b1, b2'⟩, ⟨c1, c2⟩, ⟨d1, cc, d2, d3⟩, f, g, U, u1, u2, u3, u4, u5, u6, u7, u8⟩ := h
  simp only [List.append_nil, opn, List.length_nil, Nat.add_zero] at c2 u5
  have e1 : ∀ i, mH i = 1 → i < 60 → cv X1 i b = cv X i b := fun i hi h6 => hr i b h6 (by rw [hi]; omega) (by rw [hi]; omega)
  have e2 : ∀ i w, 50 ≤ i → i ≤ 56 → w < 400 → pv X1 b i w = pv X b i w := fun i w h1 h2 hw => by
    have : i = 50 ∨ i = 51 ∨ i = 52 ∨ i = 53 ∨ i = 54 ∨ i = 55 ∨ i = 56 := by omega
    rcases this with rfl | rfl | rfl | rfl | rfl | rfl | rfl <;> exact hr _ _ (by omega) (by show 400 * b ≤ _; omega) (by show _ < 400 * b + 400; omega)
  have hx4 : ∀ (i : Nat) (x : Pd), D[i]? = some x → x.1 < 400 := fun i x hx => by have := (g i x hx).2; omega
  have hu4 : ∀ u, U u → u < 400 := fun u hu => by have := u2 u hu; omega
  refine ⟨⟨hL, by rw [h4]; exact a2, a3⟩, ⟨by rw [e1 49 rfl (by omega)]; exact b1, b2'⟩, ⟨by rw [e1 58 rfl (by omega)]; exact c1, c2⟩, ⟨d1, cc, by rw [e1 1 rfl (by omega)]; exact d2, d3⟩, trivial, fun i x hx => ⟨?_, (g i x hx).2⟩, U, fun i x hx => PMn_of (u1 i x hx) (fun i h1 h2 => e2 i _ h1 (by omega) (hx4 _ x hx)) (fun u hu => ⟨e2 56 u (by omega) (by omega) (hu4 u hu), fun i h1 h2 => e2 i u (by omega) (by omega) (hu4 u hu)⟩) hs (fun _ q => q) (fun _ q => q), u2, fun x hx => (by cases hx), List.nodup_nil, by simpa [opn] using u5, fun x hx => (by cases hx), fun q hq => (by cases hq), fun q hq => (by cases hq)⟩
  have hi := lt_of_get hx
  rw [hr 57 _ (by omega) (by show 400 * b ≤ _; omega) (by show _ < 400 * b + 400; omega)]
  exact (g i x hx).1
theorem RP_bank (h : RP X b P D nv cb) (hL : LN X1) (h4 : X1.1 4 = X.1 4) (hr : BKs X X1 b) (hs : SKa b X X1) (hv : nv ≤ 240) : RP X1 b P D nv cb := by
  have hI : ∀ fm D0, Inv X b P.1.length fm cb [] D0 P.2.2.2.2.2.2 [] [] [] → Inv X1 b P.1.length fm cb [] (D0 ++ []) P.2.2.2.2.2.2 [] [] [] := fun fm D0 hI => by
    rw [List.append_nil]
    exact Inv_trc hI hL h4 hr hs
  obtain ⟨g1, g2, g3, g4, g5, g6, g7, g8⟩ := id h
  have e1 : ∀ i, mH i = 1 → i < 60 → cv X1 i b = cv X i b := fun i hi h6 => hr i b h6 (by rw [hi]; omega) (by rw [hi]; omega)
  have hk : KP X X1 b (cnP P nv) := by
    refine ⟨hs, fun i j h1 h2 => ?_⟩
    have n1 := g1.2.1
    have n2 := g2.2.1
    have n3 := g3.2.1
    have n4 := g4.2.1
    have n5 := g5.2.1
    have n7 := g7.2.1
    by_cases q : i < 49
    · refine hr i j (by omega) h1 (Nat.lt_of_lt_of_le h2 ?_)
      have : ∀ i : Fin 49, cn 12 24 8 100 40 240 100 i.1 ≤ mH i.1 := by decide
      have h3 := this ⟨i, q⟩
      have h4 := cn_le n1 n2 n3 n4 n5 hv n7 i
      unfold cnP
      dsimp only at h3
      omega
    · exfalso
      unfold cnP cn at h2
      rw [if_neg (by omega), if_neg (by omega), if_neg (by omega), if_neg (by omega), if_neg (by omega), if_neg (by omega), if_neg (by omega), if_neg (by omega), if_neg (by omega), if_neg (by omega), if_neg (by omega), if_neg (by omega), if_neg (by omega), if_neg (by omega), if_neg (by omega), if_neg (by omega), if_neg (by omega), if_neg (by omega)] at h2
      omega
  have := RP_g (X1 := X1) (cb' := cb) (nv' := nv) (D' := []) (P' := P) h hk ⟨by rw [e1 4 rfl (by omega)]; exact g1.1, g1.2.1, fun _ _ q => Or.inl q⟩ ⟨by rw [e1 9 rfl (by omega)]; exact g2.1, g2.2.1, fun _ _ q => Or.inl q⟩ ⟨by rw [e1 25 rfl (by omega)]; exact g3.1, g3.2.1, fun _ _ q => Or.inl q⟩ ⟨by rw [e1 28 rfl (by omega)]; exact g4.1, g4.2.1, fun _ _ q => Or.inl q⟩ ⟨by rw [e1 35 rfl (by omega)]; exact g5.1, g5.2.1, fun _ _ q => Or.inl q⟩ ⟨by rw [e1 39 rfl (by omega)]; exact g6, Nat.le_refl _⟩ ⟨SPS_kp g7 hk (e1 42 rfl (by omega)), Nat.le_refl _⟩ hI
  rw [List.append_nil] at this
  exact this
theorem LDX_bank (h : LDX X b L) (hL : LN X1) (hr : BKs X X1 b) (hs : SKa b X X1) : LDX X1 b L := by
  obtain ⟨⟨D, nv, cb, h1, h0⟩, ⟨n1, n2, n3, n4, n5, n6⟩, h3, h4, h5, h6⟩ := h
  have hb := n2
  have e1 : ∀ i, mH i = 1 → i < 60 → cv X1 i b = cv X i b := fun i hi h6 => hr i b h6 (by rw [hi]; omega) (by rw [hi]; omega)
  refine ⟨⟨D, nv, cb, RP_bank h1 hL (by rw [xF_1, if_pos rfl, xF_1, if_pos rfl]) hr hs h0, h0⟩, ⟨hL, n2, by rw [e1 9 rfl (by omega)]; exact n3, n4, n5, fun f l hl => ?_⟩, fun f l hl k x hx => ?_, h4, h5, fun i x hx => ⟨(h6 i x hx).1, ?_⟩⟩
  · have hf := lt_of_get hl
    obtain ⟨k1, k2, k3⟩ := n6 f l hl
    refine ⟨by rw [hr 16 _ (by omega) (by show 24 * b ≤ _; omega) (by show _ < 24 * b + 24; omega)]; exact k1, k2, fun k x hx => ?_⟩
    have := lt_of_get hx
    rw [hr 19 _ (by omega) (by show 96 * b ≤ _; omega) (by show _ < 96 * b + 96; omega)]
    exact k3 k x hx
  · have hf := lt_of_get hl
    have hk := lt_of_get hx
    have := (n6 f l hl).2.1
    rw [hr 19 _ (by omega) (by show 96 * b ≤ _; omega) (by show _ < 96 * b + 96; omega), hr 24 _ (by omega) (by show 96 * b ≤ _; omega) (by show _ < 96 * b + 96; omega)]
    exact h3 f l hl k x hx
  · have hi := lt_of_get hx
    rw [hr 59 _ (by omega) (by show 24 * b ≤ _; omega) (by show _ < 24 * b + 24; omega)]
    exact (h6 i x hx).2
/-- rows that no plan has -/
theorem LDX_same (h : LDX X b L) (hL : LN X1) (e : ∀ i, 1 ≤ i → i < 60 → X1.2.2 i = X.2.2 i) : LDX X1 b L := by
  have hc : BKs X X1 b := fun i j h1 h2 h3 => by
    by_cases q : i = 0
    · subst q
      have : j < 0 * b + 0 := h3
      omega
    · exact cv_of (e i (by omega) h1)
  exact LDX_bank h hL hc (SKa_of (e 1 (by omega) (by omega)) (e 2 (by omega) (by omega)) (e 3 (by omega) (by omega)))
/-- work -/
theorem wrk_ok {W : Nat → Int32} (hE : EVX X b L.1 K l) (hD : LDX X b L) (hok : LOK L) (hW : WX X W) (hf : f < L.1.2.1.length) (ha : a = -1 ∨ ∃ j, j < L.1.2.2.1.length ∧ a = nI j) (hn : 6002 ≤ n) : ∃ X1, g258 n (nI f) a X = some ((wrk L K W f a).1, X1) ∧ OW X X1 ∧ WHY X1 (wrk L K W f a).2 := by
  have hL := EVX_L hE
  obtain ⟨h1, h2, ⟨D, nv, cb, h3, h0⟩, _⟩ := id hE
  obtain ⟨_, hNR, hNX, hNl, _⟩ := hD
  have hfl := h3.2.1.2.1
  have hly := h3.2.2.1.2.1
  have hF : L.1.2.1[f]? = some (L.1.2.1.getD f fl0) := getD_get hf
  have h15 : cv X 15 (24 * b + f) = (L.1.2.1.getD f fl0).2.2.2.2 := (h3.2.1.2.2 f _ hF).2.2.2.2
  have hl := wk_l (n := n) (y2 := a) (off := (L.1.2.1.getD f fl0).2.2.2.2) hE hf rfl hok.1 hn 9 n a (Y := X) (by omega) (by
    rcases ha with ha | ⟨j, hj, ha⟩
    · exact Or.inl ⟨ha, by omega⟩
    · exact Or.inr ⟨j, hj, ha, by omega⟩) (OW_R hL)
  have e258 : g258 n (nI f) a X = gf258_18 n n (nI f) a (L.1.2.1.getD f fl0).2.2.2.2 a X := by
    unfold g258
    rw [j3 (a := 24) (k := 24) h2 rfl, rd_cv hL (by decide) (by show _ < 48; omega) (by omega), h15]
    rfl
  rw [e258]
  unfold wrk
  cases hb : byL K L.1 (K, ins K L.1) f 9 a with
  | some x =>
    rw [hb] at hl
    exact hl
  | none =>
    rw [hb] at hl
    obtain ⟨X1, e1, e2⟩ := hl
    rw [e1]
    have hns : L.2.1[f]? = some (L.2.1.getD f []) := getD_get (by omega)
    obtain ⟨q1, q2, q3, q4, q5, q6⟩ := hNR
    have e : ∀ i j, i ≠ 68 → cv X1 i j = cv X i j := fun i j hi => cv_of (e2.2.2 i hi)
    have hn4 := (q6 f _ hns).2.1
    obtain ⟨X2, k1, k2, k3⟩ := wk_n (n := n) (y2 := a) (N := L.2.1) (off := (L.1.2.1.getD f fl0).2.2.2.2) (EVX_O hE e2) hf rfl ⟨e2.1, q2, by rw [e 9 _ (by decide)]; exact q3, q4, q5, fun f l hl => ⟨by rw [e 16 _ (by decide)]; exact (q6 f l hl).1, (q6 f l hl).2.1, fun k x hx => by rw [e 19 _ (by decide)]; exact (q6 f l hl).2.2 k x hx⟩⟩ (fun f l hl k x hx => by rw [e 19 _ (by decide), e 24 _ (by decide)]; exact hNX f l hl k x hx) hns (W := W) (fun g hg => by rw [e 70 _ (by decide)]; exact hW g hg) hn n 0 (by omega) (by omega)
    rw [List.drop_zero] at k1 k3
    exact ⟨X2, k1, OW_T e2 k2, k3⟩
def OV (X X1 : zX) : Prop := LN X1 ∧ (∀ k, k < 85 → X1.1 k = X.1 k) ∧ ∀ i, i ≠ 68 → i ≠ 70 → X1.2.2 i = X.2.2 i
theorem OV_O (h : OW X X1) : OV X X1 := ⟨h.1, fun k hk => h.2.1 k (by omega), fun i hi _ => h.2.2 i hi⟩
theorem OV_T (h1 : OV X X1) (h2 : OV X1 X2) : OV X X2 := ⟨h2.1, fun k hk => (h2.2.1 k hk).trans (h1.2.1 k hk), fun i a c => (h2.2.2 i a c).trans (h1.2.2 i a c)⟩
theorem EVX_V (h : EVX X b P K l) (ho : OV X X1) : EVX X1 b P K l := by
  obtain ⟨h1, h2, ⟨D, nv, cb, h3, h0⟩, h4, h5, h6, h7, h8⟩ := h
  exact ⟨h1, (ho.2.1 3 (by omega)).trans h2, ⟨D, nv, cb, RP_same h3 (fun i q1 q2 _ _ => ho.2.2 i (by omega) (by omega)) ho.1 (by rw [xF_1, if_pos rfl, xF_1, if_pos rfl]), h0⟩, h4, KNX_of h5 (ho.2.1 65 (by omega)) (fun i hi => ho.2.2 i (by omega) (by omega)), h6, INS_of h7 (ho.2.2 69 (by decide) (by decide)), h8⟩
theorem val_l (hok : LOK L) (hf : f < L.1.2.1.length) (ha : a = -1 ∨ ∃ j, j < L.1.2.2.1.length ∧ a = nI j) (hn : 6002 ≤ n) : ∀ (fu k : Nat) (W : Nat → Int32) {X : zX}, k ≤ L.1.2.1.length → L.1.2.1.length - k < fu → EVX X b L.1 K l → LDX X b L → WX X W → ∃ X1, gf250_47 n fu (nI f) a (nI k) X = some ((wrk L K (wrth L K a (L.2.2.drop k) W) f a).1, X1) ∧ OV X X1 ∧ WHY X1 (wrk L K (wrth L K a (L.2.2.drop k) W) f a).2 ∧ X1.1 85 = 1
  | 0, k, W, X, _, h, _, _, _ => by omega
  | fu + 1, k, W, X, hk, hfu, hE, hD, hW => by
    have hL := EVX_L hE
    obtain ⟨h1, h2, ⟨D, nv, cb, h3, h0⟩, _⟩ := id hE
    have hfl := h3.2.1.2.1
    obtain ⟨_, hNR, hNX, hNl, hSl, hS⟩ := id hD
    have h9 : cv X 9 b = nI L.1.2.1.length := h3.2.1.1
    show ∃ X1, gb250_47 n (gf250_47 n fu) (nI f) a (nI k) X = _ ∧ _
    unfold gb250_47
    rw [show rd (X.2.2 9) (X.1 3) = some (nI L.1.2.1.length) by rw [h2, rd_cv hL (by decide) (by show _ < 2; omega) (by omega), h9]]
    dsimp only [Option.bind_some]
    by_cases hz : k = L.1.2.1.length
    · rw [if_pos (by rw [hz]; exact Int32.le_refl _), List.drop_eq_nil_of_le (by omega)]
      have hO : OV X (xF X 85 1) := ⟨hL, fun q hq => by rw [xF_1, if_neg (by omega)], fun _ _ _ => rfl⟩
      obtain ⟨X1, e1, e2, e3⟩ := wrk_ok (n := n) (X := xF X 85 1) (W := W) (EVX_V hE hO) (LDX_same hD hL (fun _ _ _ => rfl)) hok hW hf ha hn
      refine ⟨X1, ?_, OV_T hO (OV_O e2), e3, by rw [e2.2.1 85 (by omega), xF_1, if_pos rfl]⟩
      unfold zlet
      dsimp only
      rw [e1]
      rfl
    · have hlt : k < L.1.2.1.length := by omega
      obtain ⟨g, hg⟩ : ∃ g, L.2.2[k]? = some g := ⟨_, List.getElem?_eq_getElem (by omega)⟩
      obtain ⟨hgl, h59⟩ := hS k g hg
      obtain ⟨X1, e1, e2, e3⟩ := wrk_ok (n := n) hE hD hok hW hgl ha hn
      have hO1 : OV X (up X1 70 g (wrk L K W g a).1) := OV_T (OV_O e2) ⟨LN_up e2.1, fun _ _ => rfl, fun i _ hi => up_row hi⟩
      obtain ⟨X2, k1, k2, k3, k4⟩ := val_l hok hf ha hn fu (k + 1) (upW W g (wrk L K W g a).1) (X := up X1 70 g (wrk L K W g a).1) (by omega) (by omega) (EVX_V hE hO1) (LDX_same hD hO1.1 (fun i h1 h2 => hO1.2.2 i (by omega) (by omega))) (fun q hq => by
        unfold upW
        by_cases e : q = g
        · rw [if_pos e, e, cv_eq e2.1 (by decide) (by show _ < 24; omega)]
        · rw [if_neg e, cv_ne (Or.inr e), cv_of (e2.2.2 70 (by decide))]
          exact hW q hq)
      rw [drop_get hg]
      refine ⟨X2, ?_, OV_T hO1 k2, k3, k4⟩
      rw [if_neg (nI_ge hlt (by omega)), j3 (a := 24) (k := 24) h2 rfl, rd_cv hL (by decide) (by show _ < 48; omega) (by omega), h59]
      dsimp only [Option.bind_some]
      rw [e1]
      dsimp only [Option.bind_some]
      rw [nI_1]
      exact wst0 e2.1 (by decide) (by show _ < 24; omega) (by omega) rfl k1
end
end ZBK

/-! THE REFERENCE'S FLAGS: needs and rules -/
section ZFL
def fP (P : Pln) (Fs : List Flg) (F : Flg) : Pln := (P.1, Fs ++ [F], P.2.2)
section
variable {n : Nat} {X X1 X2 : zX} {b f c m nv nv' cb cb' nq nr E p l e0 : Nat} {T : List Int32} {fk : Int32} {ts : List Tk} {r : RR (List Tk)} {P : Pln} {D D1 : List Pd} {φ : Den} {k : Nat × List (List Int32)} {v l1 l2 l3 l4 l5 l6 s0 : Int32} {w : List Int32} {s d : Srv} {o : Int32} {Fs : List Flg} {F : Flg} {ns : List (Tk × Tk)}
theorem fl327 (h : RI X T fk r) (hn : 6002 ≤ n) : ∃ X1, gb226_327 n l1 l2 l3 l4 X = some ((), X1) ∧ RI X1 T fk (rb r (sEat 6)) ∧ X1.2.2 = X.2.2 ∧ X1.1 4 = X.1 4 := by
  obtain ⟨X1, e1, e2, e3, e4⟩ := ri_eat2 (n := n) (c := 125) (s := 6) rfl (by decide) h hn
  exact ⟨X1, by unfold gb226_327; rw [e1]; rfl, e2, e3, e4⟩
theorem fl306F {e : Er} (h : RI X T fk (.inl e)) (hn : 6002 ≤ n) : ∃ X1, gb226_306 n l1 l2 l3 l4 X = some ((), X1) ∧ RI X1 T fk (.inl e) := by
  obtain ⟨X1, e1, e2, _⟩ := fl327 (n := n) (l1 := l1) (l2 := l2) (l3 := l3) (l4 := l4) h hn
  exact ⟨X1, by unfold gb226_306; rw [if_neg (ri_flt h)]; exact e1, e2⟩
theorem fl271F {fu : Nat} {e : Er} (h : RI X T fk (.inl e)) (hf : 0 < fu) (hn : 6002 ≤ n) : ∃ X1, gf226_271 n fu l1 l2 l3 l4 X = some ((), X1) ∧ RI X1 T fk (.inl e) := by
  obtain ⟨fu, rfl⟩ : ∃ m, fu = m + 1 := ⟨fu - 1, by omega⟩
  obtain ⟨X1, e1, e2⟩ := fl306F (n := n) (l1 := l1) (l2 := l2) (l3 := l3) (l4 := l4) h hn
  refine ⟨X1, ?_, e2⟩
  show gb226_271 n (gf226_271 n fu) l1 l2 l3 l4 X = _
  unfold gb226_271
  rw [if_neg (ri_flt h)]
  exact e1
theorem fl245F {fu : Nat} {e : Er} (h : RI X T fk (.inl e)) (hf : 0 < fu) (hn : 6002 ≤ n) : ∃ X1, gf226_245 n fu l1 l2 l3 l4 X = some ((), X1) ∧ RI X1 T fk (.inl e) := by
  obtain ⟨fu, rfl⟩ : ∃ m, fu = m + 1 := ⟨fu - 1, by omega⟩
  obtain ⟨X1, e1, e2⟩ := fl271F (n := n) (fu := n) (l1 := l1) (l2 := l2) (l3 := l3) (l4 := l4) h (by omega) hn
  refine ⟨X1, ?_, e2⟩
  show gb226_245 n (gf226_245 n fu) l1 l2 l3 l4 X = _
  unfold gb226_245
  rw [if_neg (ri_flt h)]
  exact e1
theorem fX_fin (h : RP X b P D nv cb) (hF : P.2.1 = Fs) (hm : Fs.length < 24) (hx : FLR X b nv P.2.2.2.2.2.1.length Fs.length F) : RP (up X 9 b (nI (Fs.length + 1))) b (fP P Fs F) D nv cb := by
  subst hF
  obtain ⟨c1, c2, c3, c4, ⟨cc, c5, c6⟩, c7, c8, c9⟩ := RP_b h
  have hka : ∀ ns nf nl nr ni nv nq, KP X (up X 9 b (nI (P.2.1.length + 1))) b (cn ns nf nl nr ni nv nq) := fun _ _ _ _ _ _ _ => KP_up (by decide) (Or.inl (show 1 * b + 0 ≤ b by omega))
  have hk : KP X (up X 9 b (nI (P.2.1.length + 1))) b (cnP P nv) := hka _ _ _ _ _ _ _
  have hrow : ∀ i, i ≠ 9 → (up X 9 b (nI (P.2.1.length + 1))).2.2 i = X.2.2 i := fun i hi => up_row hi
  have hI : ∀ fm D0, Inv X b P.1.length fm cb [] D0 P.2.2.2.2.2.2 [] [] [] → Inv (up X 9 b (nI (P.2.1.length + 1))) b P.1.length fm cb [] (D0 ++ []) P.2.2.2.2.2.2 [] [] [] := fun fm D0 hI => by
    rw [List.append_nil]
    exact Inv_tr hI (LN_up c1) rfl (fun i h1 h2 => hrow i (by omega)) hk.1 ⟨cc, by rw [cv_of (hrow 1 (by omega))]; exact c5, c6⟩ c8 (Nat.le_refl _)
  have hl : (P.2.1 ++ [F]).length = P.2.1.length + 1 := by rw [List.length_append]; rfl
  have := RP_g (X1 := up X 9 b (nI (P.2.1.length + 1))) (cb' := cb) (nv' := nv) (D' := []) (P' := fP P P.2.1 F) h hk ⟨by rw [cv_of (hrow 4 (by omega))]; exact h.1.1, h.1.2.1, fun _ _ q => Or.inl q⟩ ⟨?_, ?_, ?_⟩ ⟨by rw [cv_of (hrow 25 (by omega))]; exact h.2.2.1.1, h.2.2.1.2.1, fun _ _ q => Or.inl q⟩ ⟨by rw [cv_of (hrow 28 (by omega))]; exact h.2.2.2.1.1, h.2.2.2.1.2.1, fun _ _ q => Or.inl q⟩ ⟨by rw [cv_of (hrow 35 (by omega))]; exact h.2.2.2.2.1.1, h.2.2.2.2.1.2.1, fun _ _ q => Or.inl q⟩ ⟨by rw [cv_of (hrow 39 (by omega))]; exact h.2.2.2.2.2.1, Nat.le_refl _⟩ ⟨SPS_kp h.2.2.2.2.2.2.1 hk (cv_of (hrow 42 (by omega))), Nat.le_refl _⟩ hI
  · rw [List.append_nil] at this
    exact this
  · show cv _ 9 b = nI (P.2.1 ++ [F]).length
    rw [hl, cv_eq c1 (by decide) (by show _ < 2; omega)]
  · show (P.2.1 ++ [F]).length ≤ 24
    omega
  · intro j y hj
    rcases get_app hj with hj | ⟨hz, hj⟩
    · exact Or.inl hj
    · right
      rw [hz, hj]
      exact FLR_g (ns := 0) (nl := 0) (nr := 0) (ni := 0) hx (hka 0 (P.2.1.length + 1) 0 0 0 nv _) (by omega) (Nat.le_refl _) (Nat.le_refl _)
theorem fl306 (h : RP X b P D nv cb) (hF : P.2.1 = Fs) (hm : Fs.length < 24) (hx : FLR X b nv P.2.2.2.2.2.1.length Fs.length F) (hR : RI X T fk (.inr ts)) (hb1 : (hd ts).1 ≠ 1) (hn : 6002 ≤ n) : ∃ X1, gb226_306 n l1 l2 l3 l4 X = some ((), X1) ∧ RI X1 T fk (sEat 6 ts) ∧ RP X1 b (fP P Fs F) D nv cb := by
  obtain ⟨c1, c2, c3, _⟩ := RP_b h
  have hfin := fX_fin h hF hm hx
  obtain ⟨X1, e1, e2, e3, e4⟩ := fl327 (n := n) (l1 := l1) (l2 := l2) (l3 := l3) (l4 := l4) (RI_up (i := 9) (j := b) (v := nI (Fs.length + 1)) hR (by decide)) hn
  refine ⟨X1, ?_, e2, RP_arr hfin e3 e4⟩
  unfold gb226_306
  rw [if_pos (ri_hd hR hb1).1]
  refine rst (j := b) c1 (by decide) (by show _ < 2; omega) (by omega) c2 ?_
  rw [h.2.1.1, hF, nI_1]
  exact wst1 c1 c2 c3 (by decide) rfl rfl c2 e1
/-- the end of a flag -/
def flE (Fs : List Flg) (F : Flg) (x : Pln × List Tk) : RR (Pln × List Tk) := rb (sEat 6 x.2) fun ts => .inr ((x.1.1, Fs ++ [F], x.1.2.2), ts)
theorem flE_brk {x : Pln × List Tk} (h : (hd x.2).1 = 1) : flE Fs F x = .inl (1, (hd x.2).2.1) := by
  unfold flE
  rw [sEat_brk (by decide) _ h]
  rfl
theorem sRulL_brk {j : Nat} {x : Pln × List Tk} (h : (hd x.2).1 = 1) : rb (sRulL f k j x.1 x.2) (flE Fs F) = .inl (1, (hd x.2).2.1) := by
  cases j with
  | zero => exact flE_brk h
  | succ j =>
    show rb (if (hd x.2).1 = 21 then _ else _) (flE Fs F) = _
    rw [if_neg (by omega)]
    exact flE_brk h
def FlQ (X1 : zX) (b E : Nat) (P : Pln) (Fs : List Flg) (F : Flg) (x : Pln × List Tk) : Prop := RB X1 b x.1 E 0 ∧ x.1.1 = P.1 ∧ x.1.2.1 = Fs ++ [F] ∧ x.1.2.2.1 = P.2.2.1
theorem lp271 (hE : E ≤ 440) (hm : Fs.length < 24) (hn : 6002 ≤ n) : ∀ (j fu : Nat) (P : Pln) (ts : List Tk) (D : List Pd) (nv : Nat) {X : zX}, 101 ≤ P.2.2.2.1.length + j → 103 ≤ P.2.2.2.1.length + fu → RP X b P D nv (E + 2 * P.2.2.2.2.2.1.length) → nv ≤ P.2.1.length + P.2.2.2.1.length + P.2.2.2.2.1.length + 1 → P.2.1 = Fs → FLR X b nv P.2.2.2.2.2.1.length Fs.length F → RI X T fk (.inr ts) → ∃ X1, gf226_271 n fu l1 l2 l3 l4 X = some ((), X1) ∧ PO (fun x : Pln × List Tk => x.2) X1 T fk (FlQ X1 b E P Fs F) (rb (sRulL Fs.length F.2.1 j P ts) (flE Fs F))
  | 0, fu, P, ts, D, nv, X, hj, hfu, h, _, _, _, hR => by
    have h2 := h.2.2.2.1.2.1
    omega
  | j + 1, 0, P, ts, D, nv, X, hj, hfu, h, _, _, _, hR => by
    have h2 := h.2.2.2.1.2.1
    omega
  | j + 1, fu + 1, P, ts, D, nv, X, hj, hfu, h, hv, hF, hx, hR => by
    have hr2 := h.2.2.2.1.2.1
    by_cases hb1 : (hd ts).1 = 1
    · have h' := (ri_brk hR hb1).1
      obtain ⟨X1, f1, f2⟩ := fl271F (n := n) (fu := fu + 1) (l1 := l1) (l2 := l2) (l3 := l3) (l4 := l4) h' (by omega) hn
      refine ⟨X1, f1, ?_⟩
      rw [sRulL_brk (x := (P, ts)) hb1]
      exact f2
    have hv2 := RB_nv h hv (by omega)
    obtain ⟨c1, c2, c3, _⟩ := RP_b h
    show ∃ X1, gb226_271 n (gf226_271 n fu) l1 l2 l3 l4 X = some ((), X1) ∧ PO _ X1 T fk _ (rb (if (hd ts).1 = 21 then rb (sFirst P.2.2.2.1.length 100 ts) fun ts => rb (sRul P Fs.length (-1) F.2.1 ts) fun x => sRulL Fs.length F.2.1 j x.1 x.2 else .inr (P, ts)) (flE Fs F))
    unfold gb226_271
    rw [if_pos (ri_hd hR hb1).1, isw_tok wk_75 hR hb1 hn]
    dsimp only [Option.bind_some]
    by_cases h21 : (hd ts).1 = 21
    · rw [show ((hd ts).1 == 21) = true by simpa using h21, if_neg (show ¬ b2 true = 0 by decide), if_pos h21, ← rb_assoc, rb_assoc]
      obtain ⟨X1, f1, f2⟩ := rulF_ok (n := n) (f := Fs.length) h hE hv2 hx.2.1 hm hR hb1 hn
      rcases po_el f2 (f := fun x => rb (sRulL Fs.length F.2.1 j x.1 x.2) (flE Fs F)) (fun x hx => sRulL_brk hx) with ⟨e, q1, q2⟩ | ⟨x, q1, q2, q3, q4, q5⟩
      · obtain ⟨X2, g1, g2⟩ := fl271F (n := n) (fu := fu) (l1 := l1) (l2 := l2) (l3 := l3) (l4 := l4) q1 (by omega) hn
        refine ⟨X2, ?_, ?_⟩
        · refine rst (j := b) c1 (by decide) (by show _ < 2; omega) (by omega) c2 ?_
          rw [h.2.1.1, hF, f1]
          exact g1
        · rw [q2]
          exact g2
      · rw [q5]
        obtain ⟨⟨D2, y1⟩, y2, y3, y4, y5, y6, y7, y8⟩ := q4
        have hx2 : FLR X1 b (nv + 1) x.1.2.2.2.2.2.1.length Fs.length F := FLR_g hx (y2 0 (Fs.length + 1) 0 0) (by omega) (by omega) y8
        obtain ⟨X2, g1, g2⟩ := lp271 hE hm hn j fu x.1 x.2 D2 (nv + 1) (X := X1) (by rw [y6]; omega) (by rw [y6]; omega) y1 (by rw [y4, y6, y7]; omega) (y4.trans hF) hx2 q3
        refine ⟨X2, ?_, PO_imp g2 (fun z _ hz => ⟨hz.1, hz.2.1.trans y3, hz.2.2.1, hz.2.2.2.trans y5⟩)⟩
        refine rst (j := b) c1 (by decide) (by show _ < 2; omega) (by omega) c2 ?_
        rw [h.2.1.1, hF, f1]
        exact g1
    · rw [show ((hd ts).1 == 21) = false by simpa using h21, if_pos b2_f, if_neg h21, rb_inr]
      obtain ⟨X1, f1, f2, f3⟩ := fl306 (n := n) (l1 := l1) (l2 := l2) (l3 := l3) (l4 := l4) h hF hm hx hR hb1 hn
      refine ⟨X1, f1, ?_⟩
      unfold flE
      generalize sEat 6 ts = rs at f2
      cases rs with
      | inl e => exact f2
      | inr ts6 =>
        refine PO_inr (tl := fun x : Pln × List Tk => x.2) (x := ((P.1, Fs ++ [F], P.2.2), ts6)) f2 ⟨⟨D, nv, f3, ?_⟩, rfl, rfl, rfl⟩
        show nv ≤ (Fs ++ [F]).length + P.2.2.2.1.length + P.2.2.2.2.1.length + 0
        rw [List.length_append]
        rw [hF] at hv
        show nv ≤ Fs.length + 1 + _ + _ + 0
        omega
/-- the flag that is being read, but for its needs -/
def FL0 (X : zX) (b nv nq f : Nat) (w : List Int32) (k : Nat × List (List Int32)) (d : Srv) (o : Int32) : Prop := SW X b (cv X 10 (24 * b + f)) w ∧ KND X b f k ∧ SVR X b nq nv (cv X 14 (24 * b + f)) d ∧ cv X 15 (24 * b + f) = o
theorem FL0_nd (h : FL0 X b nv nq f w k d o) (hK : NdK X X1 b f m) : FL0 X1 b nv nq f w k d o := by
  obtain ⟨h1, h2, h3, h4⟩ := h
  have e : ∀ i j, 3 < i → i < 16 ∨ 23 < i → cv X1 i j = cv X i j := fun i j a c => cv_of (hK.2.2.2.1 i a c)
  obtain ⟨k1, k2, k3, k4, k5⟩ := h2
  refine ⟨by rw [e 10 _ (by omega) (by omega)]; exact SW_kp h1 hK.2.2.1, ⟨by rw [e 11 _ (by omega) (by omega)]; exact k1, k2, by rw [e 12 _ (by omega) (by omega)]; exact k3, k4, NML_kp k5 hK.2.2.1 (fun q _ => e 13 _ (by omega) (by omega))⟩, ?_, by rw [e 15 _ (by omega) (by omega)]; exact h4⟩
  rw [e 14 _ (by omega) (by omega)]
  obtain ⟨q, q1, q2, q3⟩ := h3
  refine ⟨q, q1, q2, ?_⟩
  cases d with
  | inl a => exact ⟨by rw [e 40 _ (by omega) (by omega)]; exact q3.1, by rw [e 41 _ (by omega) (by omega)]; exact q3.2⟩
  | inr j => exact ⟨q3.1, by rw [e 40 _ (by omega) (by omega)]; exact q3.2⟩
theorem NdK_KP {ns nl nr ni nv nq : Nat} (h : NdK X X1 b f m) (hf : f < 24) : KP X X1 b (cn ns f nl nr ni nv nq) := by
  refine ⟨h.2.2.1, fun i j h1 h2 => ?_⟩
  by_cases q1 : i < 5
  · unfold cn at h2
    rw [if_pos q1] at h2
    omega
  · by_cases q2 : i < 16 ∨ 23 < i
    · exact cv_of (h.2.2.2.1 i (by omega) q2)
    · have : i = 16 ∨ i = 17 ∨ i = 18 ∨ i = 19 ∨ i = 20 ∨ i = 21 ∨ i = 22 ∨ i = 23 := by omega
      rcases this with rfl | rfl | rfl | rfl | rfl | rfl | rfl | rfl
      · have h2 : j < 24 * b + f := h2
        exact h.2.2.2.2.1 j (by omega)
      all_goals
        have h2 : j < 96 * b + 4 * f := h2
        exact h.2.2.2.2.2 _ j (by omega) (by omega) (by omega)
theorem RP_nd (h : RP X b P D nv cb) (hK : NdK X X1 b P.2.1.length m) (hf : P.2.1.length < 24) (hc : ∃ c, cv X1 1 b = nI c ∧ c ≤ cb' + 2 * P.2.2.2.2.2.2) (h6 : cb' ≤ 640) : RP X1 b P D nv cb' :=
  RP_keep h (NdK_KP hK hf) (fun i hi => cv_of (hK.2.2.2.1 i (by omega) (by omega))) (fun i _ _ => hK.2.2.2.1 i (by omega) (by omega)) hK.1 hK.2.1 hc h6
def ndE (P : Pln) (Fs : List Flg) (w : List Int32) (k : Nat × List (List Int32)) (d : Srv) (o : Int32) (y : List (Tk × Tk) × List Tk) : RR (Pln × List Tk) := rb (sRulL Fs.length k 101 P y.2) (flE Fs (w, k, y.1, d, o))
theorem sNedL_brk {j : Nat} {y : List (Tk × Tk) × List Tk} (h : (hd y.2).1 = 1) : rb (sNedL j y.1 y.2) (ndE P Fs w k d o) = .inl (1, (hd y.2).2.1) := by
  have e : ndE P Fs w k d o y = .inl (1, (hd y.2).2.1) := sRulL_brk (x := (P, y.2)) h
  cases j with
  | zero => exact e
  | succ j =>
    show rb (if (hd y.2).1 = 20 then _ else _) _ = _
    rw [if_neg (by omega)]
    exact e
def FmQ (X1 : zX) (b E : Nat) (P : Pln) (Fs : List Flg) (x : Pln × List Tk) : Prop := RB X1 b x.1 E 0 ∧ x.1.1 = P.1 ∧ x.1.2.1.length = Fs.length + 1 ∧ x.1.2.2.1 = P.2.2.1
theorem lp245 (hE : E ≤ 432) (hm : Fs.length < 24) (hF : P.2.1 = Fs) (hv : nv ≤ P.2.1.length + P.2.2.2.1.length + P.2.2.2.2.1.length + 1) (hn : 6002 ≤ n) : ∀ (j fu : Nat) (ns : List (Tk × Tk)) (ts : List Tk) {X : zX}, 5 ≤ ns.length + j → 7 ≤ ns.length + fu → RP X b P D nv (E + 2 * ns.length + 2 * P.2.2.2.2.2.1.length) → FL0 X b nv P.2.2.2.2.2.1.length Fs.length w k d o → NDS X b Fs.length ns → RI X T fk (.inr ts) → ∃ X1, gf226_245 n fu l1 (nI (24 * b + Fs.length)) l3 l4 X = some ((), X1) ∧ PO (fun x : Pln × List Tk => x.2) X1 T fk (FmQ X1 b (E + 8) P Fs) (rb (sNedL j ns ts) (ndE P Fs w k d o))
  | 0, fu, ns, ts, X, hj, hfu, h, _, hN, hR => by
    have h2 := hN.2.1
    omega
  | j + 1, 0, ns, ts, X, hj, hfu, h, _, hN, hR => by
    have h2 := hN.2.1
    omega
  | j + 1, fu + 1, ns, ts, X, hj, hfu, h, h0, hN, hR => by
    have hn4 := hN.2.1
    by_cases hb1 : (hd ts).1 = 1
    · have h' := (ri_brk hR hb1).1
      obtain ⟨X1, f1, f2⟩ := fl245F (n := n) (fu := fu + 1) (l1 := l1) (l2 := nI (24 * b + Fs.length)) (l3 := l3) (l4 := l4) h' (by omega) hn
      refine ⟨X1, f1, ?_⟩
      rw [sNedL_brk (y := (ns, ts)) hb1]
      exact f2
    obtain ⟨c1, c2, c3, _, ⟨c, c5, c6⟩, c7, c8, _⟩ := RP_b h
    have h100 := h.2.2.2.2.2.2.1.2.1
    show ∃ X1, gb226_245 n (gf226_245 n fu) l1 (nI (24 * b + Fs.length)) l3 l4 X = some ((), X1) ∧ PO _ X1 T fk _ (rb (if (hd ts).1 = 20 then rb (sNeed ns ts) fun x => sNedL j x.1 x.2 else .inr (ns, ts)) (ndE P Fs w k d o))
    unfold gb226_245
    rw [if_pos (ri_hd hR hb1).1, isw_tok wk_73 hR hb1 hn]
    dsimp only [Option.bind_some]
    by_cases h20 : (hd ts).1 = 20
    · rw [show ((hd ts).1 == 20) = true by simpa using h20, if_neg (show ¬ b2 true = 0 by decide), if_pos h20, rb_assoc]
      obtain ⟨X1, f1, f2⟩ := need_ok (n := n) (f := Fs.length) c1 c2 c3 hm hN c5 (by omega) hR hb1 hn
      rw [f1]
      dsimp only [Option.bind_some]
      rcases po_el f2 (f := fun x => rb (sNedL j x.1 x.2) (ndE P Fs w k d o)) (fun x hx => sNedL_brk hx) with ⟨e, q1, q2⟩ | ⟨x, q1, q2, q3, q4, q5⟩
      · obtain ⟨X2, g1, g2⟩ := fl245F (n := n) (fu := fu) (l1 := l1) (l2 := nI (24 * b + Fs.length)) (l3 := l3) (l4 := l4) q1 (by omega) hn
        refine ⟨X2, g1, ?_⟩
        rw [q2]
        exact g2
      · rw [q5]
        obtain ⟨y1, y2, ⟨c', y3, y4⟩, y5, y6⟩ := q4
        have h1 : RP X1 b P D nv (E + 2 * x.1.length + 2 * P.2.2.2.2.2.1.length) := RP_nd (m := ns.length) h (by rw [hF]; exact y6) (by rw [hF]; exact hm) ⟨c', y3, by rw [y2]; omega⟩ (by rw [y2]; omega)
        exact lp245 hE hm hF hv hn j fu x.1 x.2 (X := X1) (by rw [y2]; omega) (by rw [y2]; omega) h1 (FL0_nd h0 y6) y1 q3
    · rw [show ((hd ts).1 == 20) = false by simpa using h20, if_pos b2_f, if_neg h20, rb_inr]
      unfold ndE
      obtain ⟨X1, f1, f2⟩ := lp271 (n := n) (E := E + 8) (Fs := Fs) (F := (w, k, ns, d, o)) (l1 := l1) (l2 := nI (24 * b + Fs.length)) (l3 := l3) (l4 := l4) (by omega) hm hn 101 n P ts D nv (X := X) (by omega) (by omega) (RP_mono h (by omega) (by omega)) hv hF ⟨h0.1, h0.2.1, hN, h0.2.2.1, h0.2.2.2⟩ hR
      refine ⟨X1, f1, PO_imp f2 (fun z _ hz => ⟨hz.1, hz.2.1, ?_, hz.2.2.2⟩)⟩
      rw [hz.2.2.1, List.length_append]
      rfl
end
end ZFL

/-! THE REFERENCE'S LAYERS -/
section ZLY
def lyX (X : zX) (b q : Nat) (v o : Int32) : zX := up (up (up X 26 (8 * b + q) v) 27 (8 * b + q) o) 25 b (nI (q + 1))
def lyP (P : Pln) (L : List Int32 × Int32) : Pln := (P.1, P.2.1, P.2.2.1 ++ [L], P.2.2.2)
/-- the plan in bank b, with room: E slots but those of splits and parts, e serves more than needed -/
def RB (X : zX) (b : Nat) (P : Pln) (E e : Nat) : Prop := ∃ D nv, RP X b P D nv (E + 2 * P.2.2.2.2.2.1.length) ∧ nv ≤ P.2.1.length + P.2.2.2.1.length + P.2.2.2.2.1.length + e
section
variable {n : Nat} {X X1 X2 : zX} {b f c m nv nv' cb cb' nq nr E p l e0 : Nat} {T : List Int32} {fk : Int32} {ts : List Tk} {r : RR (List Tk)} {P : Pln} {D D1 : List Pd} {φ : Den} {k : Nat × List (List Int32)} {v l1 l2 l3 l4 l5 l6 s0 : Int32} {w : List Int32} {s : Srv} {o : Int32}
theorem RB_nv (h : RP X b P D nv cb) (hv : nv ≤ P.2.1.length + P.2.2.2.1.length + P.2.2.2.2.1.length + e0) (he : e0 ≤ 1) : nv < 240 := by
  have h1 := h.2.1.2.1
  have h2 := h.2.2.2.1.2.1
  have h3 := h.2.2.2.2.1.2.1
  omega
/-- the end of a layer's items -/
def itE (x : Pln × List Tk) : RR (Pln × List Tk) := rb (sEat 6 x.2) fun ts => .inr (x.1, ts)
theorem itE_brk {x : Pln × List Tk} (h : (hd x.2).1 = 1) : itE x = .inl (1, (hd x.2).2.1) := by
  unfold itE
  rw [sEat_brk (by decide) _ h]
  rfl
theorem sItm_brk : Brk (sItm P l) := by
  intro ts h
  unfold sItm
  rw [h]
  show Sum.inl (sErr 2 (hd ts)) = _
  rw [sErr_brk h]
theorem sItmL_brk {j : Nat} {x : Pln × List Tk} (h : (hd x.2).1 = 1) : rb (sItmL l j x.1 x.2) itE = .inl (1, (hd x.2).2.1) := by
  cases j with
  | zero => exact itE_brk h
  | succ j =>
    show rb (if (hd x.2).1 = 6 then _ else _) itE = _
    rw [if_neg (by omega), sItm_brk _ h]
    rfl
theorem ly241 (h : RI X T fk r) (hn : 6002 ≤ n) : ∃ X1, gb235_241 n l1 l2 l3 l4 X = some ((), X1) ∧ RI X1 T fk (rb r (sEat 6)) ∧ X1.2.2 = X.2.2 ∧ X1.1 4 = X.1 4 := by
  obtain ⟨X1, e1, e2, e3, e4⟩ := ri_eat2 (n := n) (c := 125) (s := 6) rfl (by decide) h hn
  exact ⟨X1, by unfold gb235_241; rw [e1]; rfl, e2, e3, e4⟩
theorem ly168F {fu : Nat} {e : Er} (h : RI X T fk (.inl e)) (hf : 0 < fu) (hn : 6002 ≤ n) : ∃ X1, gf235_168 n fu l1 l2 l3 l4 X = some ((), X1) ∧ RI X1 T fk (.inl e) := by
  obtain ⟨fu, rfl⟩ : ∃ m, fu = m + 1 := ⟨fu - 1, by omega⟩
  obtain ⟨X1, e1, e2, _⟩ := ly241 (n := n) (l1 := l1) (l2 := l2) (l3 := l3) (l4 := l4) h hn
  refine ⟨X1, ?_, e2⟩
  show gb235_168 n (gf235_168 n fu) l1 l2 l3 l4 X = _
  unfold gb235_168
  rw [if_neg (ri_flt h), ite_self]
  exact e1
def LyQ (X1 : zX) (b E : Nat) (P : Pln) (x : Pln × List Tk) : Prop := RB X1 b x.1 E 0 ∧ x.1.1 = P.1 ∧ x.1.2.1 = P.2.1 ∧ x.1.2.2.1 = P.2.2.1
theorem lp168 (hE : E ≤ 440) (hl : l < 100) (hn : 6002 ≤ n) : ∀ (j fu : Nat) (P : Pln) (ts : List Tk) {X : zX}, 142 ≤ P.2.2.2.1.length + P.2.2.2.2.1.length + j → 144 ≤ P.2.2.2.1.length + P.2.2.2.2.1.length + fu → RB X b P E 0 → RI X T fk (.inr ts) → ∃ X1, gf235_168 n fu l1 l2 (nI l) 1 X = some ((), X1) ∧ PO (fun x : Pln × List Tk => x.2) X1 T fk (LyQ X1 b E P) (rb (sItmL l j P ts) itE)
  | 0, fu, P, ts, X, hj, hfu, h, hR => by
    exfalso
    obtain ⟨D, nv, h, hv⟩ := h
    have h2 := h.2.2.2.1.2.1
    have h3 := h.2.2.2.2.1.2.1
    omega
  | j + 1, 0, P, ts, X, hj, hfu, h, hR => by
    exfalso
    obtain ⟨D, nv, h, hv⟩ := h
    have h2 := h.2.2.2.1.2.1
    have h3 := h.2.2.2.2.1.2.1
    omega
  | j + 1, fu + 1, P, ts, X, hj, hfu, hB, hR => by
    obtain ⟨D, nv, h, hv⟩ := hB
    have hr2 := h.2.2.2.1.2.1
    have hr3 := h.2.2.2.2.1.2.1
    by_cases hb1 : (hd ts).1 = 1
    · have h' := (ri_brk hR hb1).1
      obtain ⟨X1, f1, f2⟩ := ly168F (n := n) (fu := fu + 1) (l1 := l1) (l2 := l2) (l3 := nI l) (l4 := 1) h' (by omega) hn
      refine ⟨X1, f1, ?_⟩
      rw [sItmL_brk (x := (P, ts)) hb1]
      exact f2
    have hv2 := RB_nv h hv (by omega)
    show ∃ X1, gb235_168 n (gf235_168 n fu) l1 l2 (nI l) 1 X = some ((), X1) ∧ PO _ X1 T fk _ (rb (if (hd ts).1 = 6 then .inr (P, ts) else rb (sItm P l ts) fun x => sItmL l j x.1 x.2) itE)
    unfold gb235_168
    rw [if_neg (by decide), if_pos (ri_hd hR hb1).1, isw_tok wk_75 hR hb1 hn]
    dsimp only [Option.bind_some]
    by_cases h21 : (hd ts).1 = 21
    · rw [show ((hd ts).1 == 21) = true by simpa using h21, if_neg (show ¬ b2 true = 0 by decide), if_neg (by omega), sItm_r h21, rb_assoc]
      obtain ⟨X1, f1, f2⟩ := rulL_ok (n := n) (l := l) h hE hv2 hl hR hb1 hn
      rw [f1]
      dsimp only [Option.bind_some]
      rcases po_el f2 (f := fun x => rb (sItmL l j x.1 x.2) itE) (fun x hx => sItmL_brk hx) with ⟨e, q1, q2⟩ | ⟨x, q1, q2, q3, q4, q5⟩
      · obtain ⟨X2, g1, g2⟩ := ly168F (n := n) (fu := fu) (l1 := l1) (l2 := l2) (l3 := nI l) (l4 := 1) q1 (by omega) hn
        refine ⟨X2, g1, ?_⟩
        rw [q2]
        exact g2
      · rw [q5]
        obtain ⟨⟨D2, y1⟩, y2, y3, y4, y5, y6, y7, y8⟩ := q4
        obtain ⟨X2, g1, g2⟩ := lp168 hE hl hn j fu x.1 x.2 (X := X1) (by rw [y6, y7]; omega) (by rw [y6, y7]; omega) ⟨D2, nv + 1, y1, by rw [y4, y6, y7]; omega⟩ q3
        exact ⟨X2, g1, PO_imp g2 (fun z _ hz => ⟨hz.1, hz.2.1.trans y3, hz.2.2.1.trans y4, hz.2.2.2.trans y5⟩)⟩
    · rw [show ((hd ts).1 == 21) = false by simpa using h21, if_pos b2_f, isw_tok wk_71 hR hb1 hn]
      dsimp only [Option.bind_some]
      have hitm : ∀ st : Bool, (hd ts).1 = (if st = true then 24 else 19) → ∃ X1, gb235_220 n (gf235_168 n fu) l1 l2 (nI l) 1 X = some ((), X1) ∧ PO (fun x : Pln × List Tk => x.2) X1 T fk (LyQ X1 b E P) (rb (rb (sItm P l ts) fun x => sItmL l j x.1 x.2) itE) := by
        intro st hst
        unfold gb235_220
        rw [isw_tok wk_89 hR hb1 hn]
        dsimp only [Option.bind_some]
        rw [show ((hd ts).1 == 24) = st by cases st <;> rw [hst] <;> rfl, sItm_i hst, rb_assoc]
        obtain ⟨X1, f1, f2⟩ := itm_ok (n := n) (l := l) (st := st) h hE hv2 hR hb1 hn
        rw [f1]
        dsimp only [Option.bind_some]
        rcases po_el f2 (f := fun x => rb (sItmL l j x.1 x.2) itE) (fun x hx => sItmL_brk hx) with ⟨e, q1, q2⟩ | ⟨x, q1, q2, q3, q4, q5⟩
        · obtain ⟨X2, g1, g2⟩ := ly168F (n := n) (fu := fu) (l1 := l1) (l2 := l2) (l3 := nI l) (l4 := 1) q1 (by omega) hn
          refine ⟨X2, g1, ?_⟩
          rw [q2]
          exact g2
        · rw [q5]
          obtain ⟨⟨D2, nv1, y1, y2⟩, y3, y4, y5, y6, y7⟩ := q4
          obtain ⟨X2, g1, g2⟩ := lp168 hE hl hn j fu x.1 x.2 (X := X1) (by rw [y6, y7]; omega) (by rw [y6, y7]; omega) ⟨D2, nv1, y1, by rw [y4, y6, y7]; omega⟩ q3
          exact ⟨X2, g1, PO_imp g2 (fun z _ hz => ⟨hz.1, hz.2.1.trans y3, hz.2.2.1.trans y4, hz.2.2.2.trans y5⟩)⟩
      by_cases h19 : (hd ts).1 = 19
      · rw [show ((hd ts).1 == 19) = true by simpa using h19, if_neg (show ¬ b2 true = 0 by decide), if_neg (by omega)]
        exact hitm false h19
      · rw [show ((hd ts).1 == 19) = false by simpa using h19, if_pos b2_f, isw_tok wk_89 hR hb1 hn]
        dsimp only [Option.bind_some]
        by_cases h24 : (hd ts).1 = 24
        · rw [show ((hd ts).1 == 24) = true by simpa using h24, if_neg (show ¬ b2 true = 0 by decide), if_neg (by omega)]
          exact hitm true h24
        · rw [show ((hd ts).1 == 24) = false by simpa using h24, if_pos b2_f]
          obtain ⟨fu, rfl⟩ : ∃ m, fu = m + 1 := ⟨fu - 1, by omega⟩
          obtain ⟨X1, f1, f2, f3, f4⟩ := ly241 (n := n) (l1 := l1) (l2 := l2) (l3 := nI l) (l4 := 0) hR hn
          refine ⟨X1, ?_, ?_⟩
          · show gb235_168 n (gf235_168 n fu) l1 l2 (nI l) 0 X = _
            unfold gb235_168
            rw [if_pos rfl]
            exact f1
          · have f2 : RI X1 T fk (sEat 6 ts) := f2
            by_cases h6 : (hd ts).1 = 6
            · rw [if_pos h6, rb_inr]
              unfold itE
              generalize sEat 6 ts = rs at f2
              cases rs with
              | inl e => exact f2
              | inr ts6 => exact PO_inr (tl := fun x : Pln × List Tk => x.2) (x := (P, ts6)) f2 ⟨⟨D, nv, RP_arr h f3 f4, hv⟩, rfl, rfl, rfl⟩
            · rw [if_neg h6]
              unfold sItm
              rw [if_neg h21, if_neg (by omega)]
              unfold sEat sTake at f2
              rw [if_neg h6] at f2
              exact f2
theorem lyX_KP {a c2 : Int32} {q : Nat} : KP X (lyX X b q a c2) b (cn m f q nr c nv nq) := by
  refine KP_T (KP_T (KP_up (by decide) ?_) (KP_up (by decide) ?_)) (KP_up (by decide) ?_)
  · exact Or.inl (Nat.le_refl _)
  · exact Or.inl (Nat.le_refl _)
  · exact Or.inl (show 1 * b + 0 ≤ b by omega)
theorem lyX_fin (h : RP X b P D nv cb) (hm : P.2.2.1.length < 8) (hw : SW X b v w) (ho : o = -1 ∨ ∃ j, j < P.2.2.1.length ∧ o = nI j) : RP (lyX X b P.2.2.1.length v o) b (lyP P (w, o)) D nv cb := by
  obtain ⟨c1, c2, c3, c4, ⟨cc, c5, c6⟩, c7, c8, c9⟩ := RP_b h
  have hk : KP X (lyX X b P.2.2.1.length v o) b (cnP P nv) := lyX_KP
  have hrow : ∀ i, i < 25 ∨ 27 < i → (lyX X b P.2.2.1.length v o).2.2 i = X.2.2 i := fun i hi => by
    unfold lyX
    rw [up_row (by omega), up_row (by omega), up_row (by omega)]
  have hI : ∀ fm D0, Inv X b P.1.length fm cb [] D0 P.2.2.2.2.2.2 [] [] [] → Inv (lyX X b P.2.2.1.length v o) b P.1.length fm cb [] (D0 ++ []) P.2.2.2.2.2.2 [] [] [] := fun fm D0 hI => by
    rw [List.append_nil]
    exact Inv_tr hI (LN_up (LN_up (LN_up c1))) rfl (fun i h1 h2 => hrow i (by omega)) hk.1 ⟨cc, by rw [cv_of (hrow 1 (by omega))]; exact c5, c6⟩ c8 (Nat.le_refl _)
  have hl : (P.2.2.1 ++ [(w, o)]).length = P.2.2.1.length + 1 := by rw [List.length_append]; rfl
  have := RP_g (X1 := lyX X b P.2.2.1.length v o) (cb' := cb) (nv' := nv) (D' := []) (P' := lyP P (w, o)) h hk ⟨by rw [cv_of (hrow 4 (by omega))]; exact h.1.1, h.1.2.1, fun _ _ q => Or.inl q⟩ ⟨by rw [cv_of (hrow 9 (by omega))]; exact h.2.1.1, h.2.1.2.1, fun _ _ q => Or.inl q⟩ ⟨?_, ?_, ?_⟩ ⟨by rw [cv_of (hrow 28 (by omega))]; exact h.2.2.2.1.1, h.2.2.2.1.2.1, fun _ _ q => Or.inl q⟩ ⟨by rw [cv_of (hrow 35 (by omega))]; exact h.2.2.2.2.1.1, h.2.2.2.2.1.2.1, fun _ _ q => Or.inl q⟩ ⟨by rw [cv_of (hrow 39 (by omega))]; exact h.2.2.2.2.2.1, Nat.le_refl _⟩ ⟨SPS_kp h.2.2.2.2.2.2.1 hk (cv_of (hrow 42 (by omega))), Nat.le_refl _⟩ hI
  · rw [List.append_nil] at this
    exact this
  · show cv _ 25 b = nI (P.2.2.1 ++ [(w, o)]).length
    rw [hl]
    unfold lyX
    rw [cv_eq (LN_up (LN_up c1)) (by decide) (by show _ < 2; omega)]
  · show (P.2.2.1 ++ [(w, o)]).length ≤ 8
    omega
  · intro j y hj
    rcases get_app hj with hj | ⟨hz, hj⟩
    · exact Or.inl hj
    · right
      rw [hz, hj]
      refine ⟨?_, ?_, ho⟩
      · unfold lyX
        rw [cv_ne (Or.inl (by decide)), cv_ne (Or.inl (by decide)), cv_eq c1 (by decide) (by show _ < 16; omega)]
        exact SW_kp hw hk.1
      · unfold lyX
        rw [cv_ne (Or.inl (by decide)), cv_eq (LN_up c1) (by decide) (by show _ < 16; omega)]
theorem ly97F {e : Er} (h : RI X T fk (.inl e)) (hn : 6002 ≤ n) : ∃ X1, gb235_97 n l1 l2 X = some ((), X1) ∧ RI X1 T fk (.inl e) := by
  obtain ⟨X1, e1, e2, _⟩ := ri_eat2 (n := n) (c := 123) (s := 5) rfl (by decide) h hn
  have e2 : RI X1 T fk (.inl e) := e2
  refine ⟨X1, ?_, e2⟩
  unfold gb235_97
  rw [e1]
  dsimp only [Option.bind_some]
  rw [if_neg (ri_flt e2)]
theorem ly97 (h : RP X b P D nv (E + 2 * P.2.2.2.2.2.1.length)) (hv : nv ≤ P.2.1.length + P.2.2.2.1.length + P.2.2.2.2.1.length) (hE : E ≤ 440) (hm : P.2.2.1.length < 8) (hw : SW X b v w) (ho : o = -1 ∨ ∃ j, j < P.2.2.1.length ∧ o = nI j) (hR : RI X T fk (.inr ts)) (hn : 6002 ≤ n) : ∃ X1, gb235_97 n v o X = some ((), X1) ∧ PO (fun x : Pln × List Tk => x.2) X1 T fk (LyQ X1 b E (lyP P (w, o))) (rb (sEat 5 ts) fun ts => rb (sItmL P.2.2.1.length 6000 (lyP P (w, o)) ts) itE) := by
  obtain ⟨X1, e1, e2, e3, e4⟩ := ri_eat2 (n := n) (c := 123) (s := 5) rfl (by decide) hR hn
  have h1 := RP_arr h e3 e4
  obtain ⟨c1, c2, c3, c4, _⟩ := RP_b h1
  have hw1 : SW X1 b v w := SW_kp hw (KA_arr (b := b) e3 0 0 0 0 0 0 0).1
  unfold gb235_97
  rw [e1]
  dsimp only [Option.bind_some]
  have e2 : RI X1 T fk (sEat 5 ts) := e2
  generalize sEat 5 ts = rs at e2
  cases rs with
  | inl e =>
    rw [if_neg (ri_flt e2)]
    exact ⟨X1, rfl, e2⟩
  | inr ts1 =>
    rw [rb_inr]
    by_cases hb1 : (hd ts1).1 = 1
    · have h' := (ri_brk e2 hb1).1
      rw [if_neg (ri_flt h'), sItmL_brk (x := (lyP P (w, o), ts1)) hb1]
      exact ⟨X1, rfl, h'⟩
    · rw [if_pos (ri_hd e2 hb1).1]
      have hfin := lyX_fin h1 hm hw1 ho
      obtain ⟨X5, hX5⟩ : ∃ X5, X5 = lyX X1 b P.2.2.1.length v o := ⟨_, rfl⟩
      have hR5 : RI X5 T fk (.inr ts1) := by rw [hX5]; exact RI_up (RI_up (RI_up e2 (by decide)) (by decide)) (by decide)
      rw [← hX5] at hfin
      obtain ⟨X6, g1, g2⟩ := lp168 (l1 := v) (l2 := o) (l := P.2.2.1.length) hE (by omega) hn 6000 n (lyP P (w, o)) ts1 (X := X5) (by omega) (by omega) ⟨D, nv, hfin, hv⟩ hR5
      refine ⟨X6, ?_, g2⟩
      refine rst (j := b) c1 (by decide) (by show _ < 2; omega) (by omega) c2 ?_
      rw [show cv X1 25 b = nI P.2.2.1.length from h1.2.2.1.1]
      refine wst 8 P.2.2.1.length c1 c2 c3 (by decide) rfl (by decide) hm rfl (by decide) (i12a c2 rfl) ?_
      refine wst 8 P.2.2.1.length (LN_up c1) c2 c3 (by decide) rfl (by decide) hm rfl (by decide) (i12a c2 rfl) ?_
      refine rst (j := b) (LN_up (LN_up c1)) (by decide) (by show _ < 2; omega) (by omega) c2 ?_
      rw [cv_ne (Or.inl (by decide)), cv_ne (Or.inl (by decide)), show cv X1 25 b = nI P.2.2.1.length from h1.2.2.1.1, nI_1]
      refine wst1 (LN_up (LN_up c1)) c2 c3 (by decide) rfl rfl c2 ?_
      rw [hX5] at g1
      exact g1
/-- behind layer -/
def sLayY (P : Pln) (ts : List Tk) : RR (Pln × List Tk) := rb (sNew (P.2.2.1.map (·.1)) ts) fun w =>
  rb (if (hd w.2).1 = 23 then rb (sKnw (P.2.2.1.map (·.1)) (adv w.2)) fun i => .inr (nI i.1, i.2) else .inr (-1, w.2)) fun o => rb (sEat 5 o.2) fun ts => rb (sItmL P.2.2.1.length 6000 (lyP P (w.1.2.2.1, o.1)) ts) itE
theorem ly19 (h : RP X b P D nv (E + 2 * P.2.2.2.2.2.1.length)) (hv : nv ≤ P.2.1.length + P.2.2.2.1.length + P.2.2.2.2.1.length) (hE : E < 440) (hm : (∃ e, r = .inl e) ∨ P.2.2.1.length < 8) (hR : RI X T fk r) (hn : 6002 ≤ n) : ∃ X1, gb235_19 n X = some ((), X1) ∧ PO (fun x : Pln × List Tk => x.2) X1 T fk (fun x => RB X1 b x.1 (E + 1) 0 ∧ x.1.1 = P.1 ∧ x.1.2.1 = P.2.1 ∧ x.1.2.2.1.length = P.2.2.1.length + 1) (rb r fun ts => sLayY P (adv ts)) := by
  obtain ⟨X1, n1, n2⟩ := ri_nextR hR hn
  have h1 := RP_arr h (nx_arr n1) ((w190 n1).1 4 rfl)
  obtain ⟨d1, d2, d3, _⟩ := RP_b h1
  have hfl := h.2.2.1.2.1
  have h100 := h.2.2.2.2.2.2.1.2.1
  obtain ⟨v, X2, e1, e2⟩ := rp_new (n := n) (i := 26) (base := 8 * b) (names := P.2.2.1.map (·.1)) h1 (by omega) (by decide) (by decide) (by rw [List.length_map]; exact ⟨by show _ ≤ 16; omega, by decide⟩) (RP_nmL h1) n2 hn
  have hch : ∀ R, (if (X2.1 73) = (-1) then
      (g213 n 87 X2).bind fun p10 =>
      if p10.1 = 0 then
        gb235_97 n  v (-1) p10.2
      else
        (g190 n  p10.2).bind fun p13 =>
        (rd (p13.2.2.2 25) (p13.2.1 4)).bind fun x17 =>
        (g216 n 26 (8 * (p13.2.1 4)) x17 p13.2).bind fun p19 =>
        gb235_97 n  v p19.1 p19.2
    else
      gb235_97 n  v (-1) X2) = R → gb235_19 n X = R := by
    intro R hh
    unfold gb235_19
    rw [n1]
    dsimp only [Option.bind_some]
    refine rst (j := b) d1 (by decide) (by show _ < 2; omega) (by omega) d2 ?_
    rw [show cv X1 25 b = nI P.2.2.1.length from h1.2.2.1.1, i12 (a := 8) (k := 8) d2 rfl]
    rw [List.length_map] at e1
    rw [e1]
    exact hh
  rw [rb_adv]
  unfold sLayY
  rw [← rb_assoc]
  have hF : ∀ e, RI X2 T fk (.inl e) → ∃ X1, gb235_19 n X = some ((), X1) ∧ RI X1 T fk (.inl e) := by
    intro e x2
    obtain ⟨X3, f1, f2⟩ := ly97F (n := n) (l1 := v) (l2 := -1) x2 hn
    exact ⟨X3, hch _ (by rw [if_neg (ri_flt x2)]; exact f1), f2⟩
  rcases e2 with ⟨e, x1, x2, x3, x4⟩ | ⟨x, x1, x2, x3, x4, x5, x6⟩
  · rw [x1]
    exact hF e x2
  · rw [x1, rb_inr]
    have hm2 : P.2.2.1.length < 8 := by
      rcases hm with ⟨e, he⟩ | hm
      · rw [he] at x1
        cases x1
      · exact hm
    obtain ⟨i1, i2, i3, _⟩ := RP_b x3
    rw [show E + 2 * P.2.2.2.2.2.1.length + 1 = (E + 1) + 2 * P.2.2.2.2.2.1.length by omega] at x3
    by_cases hb1 : (hd x.2).1 = 1
    · obtain ⟨X3, f1, f2⟩ := hF _ (ri_brk x2 hb1).1
      refine ⟨X3, f1, ?_⟩
      rw [if_neg (by omega), rb_inr, sEat_brk (by decide) _ hb1]
      exact f2
    have hfin : ∀ (o : Int32) (z : Pln × List Tk), LyQ X1 b (E + 1) (lyP P (x.1.2.2.1, o)) z → True := fun _ _ _ => trivial
    by_cases h23 : (hd x.2).1 = 23
    · rw [if_pos h23]
      obtain ⟨X3, m1, m2⟩ := ri_next x2 hn
      have h3 := RP_arr x3 (nx_arr m1) ((w190 m1).1 4 rfl)
      obtain ⟨o1, o2, o3, _⟩ := RP_b h3
      obtain ⟨u, X4, s1, s2, s3, s4⟩ := rp_knw (n := n) (i := 26) (base := 8 * b) (names := P.2.2.1.map (·.1)) o1 o3 (by decide) (by decide) (by rw [List.length_map]; exact ⟨by show _ ≤ 16; omega, by decide⟩) (RP_nmL h3) m2 hn
      have hch2 : ∀ R, gb235_97 n v u X4 = R → gb235_19 n X = R := by
        intro R hh
        refine hch R ?_
        rw [if_pos (ri_hd x2 hb1).1, isw_tok wk_87 x2 hb1 hn]
        dsimp only [Option.bind_some]
        rw [show ((hd x.2).1 == 23) = true by simpa using h23, if_neg (by decide), m1]
        dsimp only [Option.bind_some]
        refine rst (j := b) o1 (by decide) (by show _ < 2; omega) (by omega) o2 ?_
        rw [show cv X3 25 b = nI P.2.2.1.length from h3.2.2.1.1, i12 (a := 8) (k := 8) o2 rfl]
        rw [List.length_map] at s1
        rw [s1]
        exact hh
      rcases s2 with ⟨e, y1, y2⟩ | ⟨y, y1, y2, y3, y4⟩
      · have y1 : sKnw (P.2.2.1.map (·.1)) (adv x.2) = .inl e := y1
        rw [y1]
        obtain ⟨X5, g1, g2⟩ := ly97F (n := n) (l1 := v) (l2 := u) y2 hn
        exact ⟨X5, hch2 _ g1, g2⟩
      · have y1 : sKnw (P.2.2.1.map (·.1)) (adv x.2) = .inr y := y1
        rw [y1]
        show ∃ X1, _ ∧ PO _ X1 T fk _ (rb (sEat 5 y.2) fun ts => rb (sItmL P.2.2.1.length 6000 (lyP P (x.1.2.2.1, nI y.1)) ts) itE)
        have ka : KA X2 X4 b := KA_T (KA_arr (nx_arr m1)) (KA_arr s3)
        rw [List.length_map] at y4
        obtain ⟨X5, g1, g2⟩ := ly97 (n := n) (v := v) (w := x.1.2.2.1) (o := nI y.1) (E := E + 1) (RP_arr h3 s3 s4) hv (by omega) hm2 (SW_kp x4 (ka 0 0 0 0 0 0 0).1) (Or.inr ⟨y.1, y4, rfl⟩) y2 hn
        refine ⟨X5, hch2 _ (by rw [y3]; exact g1), PO_imp g2 (fun z _ hz => ⟨hz.1, hz.2.1, hz.2.2.1, ?_⟩)⟩
        rw [hz.2.2.2]
        show (P.2.2.1 ++ [_]).length = _
        rw [List.length_append]
        rfl
    · rw [if_neg h23, rb_inr]
      obtain ⟨X5, g1, g2⟩ := ly97 (n := n) (v := v) (w := x.1.2.2.1) (o := -1) (E := E + 1) x3 hv (by omega) hm2 x4 (Or.inl rfl) x2 hn
      refine ⟨X5, hch _ ?_, PO_imp g2 (fun z _ hz => ⟨hz.1, hz.2.1, hz.2.2.1, ?_⟩)⟩
      · rw [if_pos (ri_hd x2 hb1).1, isw_tok wk_87 x2 hb1 hn]
        dsimp only [Option.bind_some]
        rw [show ((hd x.2).1 == 23) = false by simpa using h23, if_pos b2_f]
        exact g1
      · rw [hz.2.2.2]
        show (P.2.2.1 ++ [_]).length = _
        rw [List.length_append]
        rfl
theorem lay_ok (h : RB X b P E 0) (hE : E < 440) (hR : RI X T fk (.inr ts)) (hb1 : (hd ts).1 ≠ 1) (hn : 6002 ≤ n) : ∃ X1, g235 n X = some ((), X1) ∧ PO (fun x : Pln × List Tk => x.2) X1 T fk (fun x => RB X1 b x.1 (E + 1) 0 ∧ x.1.1 = P.1 ∧ x.1.2.1 = P.2.1 ∧ x.1.2.2.1.length = P.2.2.1.length + 1) (sLay P ts) := by
  obtain ⟨D, nv, h, hv⟩ := h
  obtain ⟨d1, d2, d3, d4, _⟩ := RP_b h
  have hs : sLay P ts = rb (sFirst P.2.2.1.length 8 ts) fun ts => sLayY P ts := rfl
  rw [hs]
  unfold g235 sFirst
  rw [show rd (X.2.2 25) (X.1 4) = some (nI P.2.2.1.length) by rw [d2, rd_cv d1 (by decide) (by show _ < 2; omega) (by omega), h.2.2.1.1]]
  dsimp only [Option.bind_some]
  have h12 := h.2.2.1.2.1
  by_cases hm : P.2.2.1.length = 8
  · rw [if_pos (by rw [hm]; rfl), if_pos (by omega)]
    obtain ⟨X1, x1, x2⟩ := ri_bad (n := n) (k := 5) hR hb1
    rw [x1]
    dsimp only [Option.bind_some]
    exact ly19 (r := .inl (sErr 5 (hd ts))) (RP_fr h (w195 x1) ((w195 x1).1 4 rfl)) hv hE (Or.inl ⟨_, rfl⟩) x2 hn
  · rw [if_neg (nI100 (z := 8) (q := 8) rfl (by omega) (by omega) hm), if_neg (by omega)]
    exact ly19 (r := .inr ts) h hv hE (Or.inr (by omega)) hR hn
end
end ZLY

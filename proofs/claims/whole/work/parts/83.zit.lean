/-! THE REFERENCE'S RULES AND ITEMS -/
section ZIT
def iX (X : zX) (b i : Nat) (l f v : Int32) : zX := up (up (up (up X 36 (40 * b + i) l) 37 (40 * b + i) f) 38 (40 * b + i) v) 35 b (nI (i + 1))
def iP (P : Pln) (I : Itm) : Pln := (P.1, P.2.1, P.2.2.1, P.2.2.2.1, P.2.2.2.2.1 ++ [I], P.2.2.2.2.2)
def fl0 : Flg := ([], (0, []), [], .inl 0, 0)
section
variable {n : Nat} {X X1 X2 : zX} {b f c m nv nv' cb cb' nq nr E p l : Nat} {T : List Int32} {fk : Int32} {ts : List Tk} {r : RR (List Tk)} {P : Pln} {D D1 : List Pd} {φ : Den} {k : Nat × List (List Int32)} {v l1 l2 l3 l4 l5 l6 s0 : Int32} {w : List Int32} {s : Srv} {o : Option Srv}
theorem RuQ_tr {X0 : zX} {x : Pln × List Tk} (h : RuQ X X1 b nv E P x) (hk : KA X0 X b) : RuQ X0 X1 b nv E P x := ⟨h.1, KR_T (KS_R (KA_S hk)) h.2.1, h.2.2⟩
theorem sRul_brk {l : Int32} : Brk (sRul P f l k) := Brk_rb sExp_brk
theorem rb_adv {α : Type} {F : List Tk → RR α} : (rb r fun ts => F (adv ts)) = rb (rb r fun ts => .inr (adv ts)) F := by cases r <;> rfl
/-- a rule in a flag -/
theorem ru27a (h : RP X b P D nv (E + 2 * P.2.2.2.2.2.1.length)) (hE : E ≤ 440) (hv : nv < 240) (hK : KND X b f k) (hf : f < 24) (hm : (∃ e, r = .inl e) ∨ P.2.2.2.1.length < 100) (hR : RI X T fk r) (hn : 6002 ≤ n) : ∃ X1, gb234_27 n (nI f) (-1) X = some ((), X1) ∧ PO (fun x : Pln × List Tk => x.2) X1 T fk (RuQ X X1 b nv E P) (rb r fun ts => sRul P f (-1) k (adv ts)) := by
  obtain ⟨X1, n1, n2⟩ := ri_nextR hR hn
  have h1 := RP_arr h (nx_arr n1) ((w190 n1).1 4 rfl)
  obtain ⟨d1, d2, d3, _⟩ := RP_b h1
  have ka : KA X X1 b := KA_arr (nx_arr n1)
  unfold gb234_27
  rw [n1]
  dsimp only [Option.bind_some]
  rw [if_pos rfl]
  cases r with
  | inl e =>
    obtain ⟨X2, f1, f2⟩ := ru64F (n := n) (l1 := nI f) (l2 := -1) (s0 := nI f) (show RI X1 T fk (.inl e) from n2) d1 d2 d3 hn
    exact ⟨X2, f1, f2⟩
  | inr ts1 =>
    have hm2 : P.2.2.2.1.length < 100 := by
      rcases hm with ⟨e, he⟩ | hm
      · cases he
      · exact hm
    obtain ⟨X2, f1, f2⟩ := ru64 (n := n) (l1 := nI f) (l := -1) h1 hE hv (KND_A hK ka) hf hm2 (show RI X1 T fk (.inr (adv ts1)) from n2) hn
    exact ⟨X2, f1, PO_imp f2 (fun x _ hx => RuQ_tr hx ka)⟩
theorem g234_eq {y1 y2 : Int32} (h : RP X b P D nv cb) (h73 : X.1 73 = -1) : g234 n y1 y2 X = if nI P.2.2.2.1.length = 100 then (g195 n 5 X).bind fun p6 => gb234_27 n y1 y2 p6.2 else gb234_27 n y1 y2 X := by
  obtain ⟨d1, d2, d3, _⟩ := RP_b h
  unfold g234
  rw [if_pos h73, d2, rd_cv d1 (by decide) (by show _ < 2; omega) (by omega), h.2.2.2.1.1]
  rfl
theorem nI100 {a q : Nat} {z : Int32} (hz : z = nI q) (ha : a < 10000) (hq : q < 10000) (h : a ≠ q) : ¬ nI a = z := by rw [hz, nI_eq (by omega) (by omega)]; exact h
theorem rulF_ok (h : RP X b P D nv (E + 2 * P.2.2.2.2.2.1.length)) (hE : E ≤ 440) (hv : nv < 240) (hK : KND X b f k) (hf : f < 24) (hR : RI X T fk (.inr ts)) (hb1 : (hd ts).1 ≠ 1) (hn : 6002 ≤ n) : ∃ X1, g234 n (nI f) (-1) X = some ((), X1) ∧ PO (fun x : Pln × List Tk => x.2) X1 T fk (RuQ X X1 b nv E P) (rb (sFirst P.2.2.2.1.length 100 ts) fun ts => sRul P f (-1) k ts) := by
  rw [g234_eq h (ri_hd hR hb1).1]
  unfold sFirst
  have h12 := h.2.2.2.1.2.1
  by_cases hm : P.2.2.2.1.length = 100
  · rw [if_pos (by rw [hm]; rfl), if_pos (by omega)]
    obtain ⟨X1, x1, x2⟩ := ri_bad (n := n) (k := 5) hR hb1
    rw [x1]
    dsimp only [Option.bind_some]
    have ka : KA X X1 b := KA_fr (w195 x1)
    obtain ⟨X2, f1, f2⟩ := ru27a (r := .inl (sErr 5 (hd ts))) (RP_fr h (w195 x1) ((w195 x1).1 4 rfl)) hE hv (KND_A hK ka) hf (Or.inl ⟨_, rfl⟩) x2 hn
    exact ⟨X2, f1, f2⟩
  · rw [if_neg (nI100 (z := 100) (q := 100) rfl (by omega) (by omega) hm), if_neg (by omega)]
    exact ru27a (r := .inr ts) h hE hv hK hf (Or.inr (by omega)) hR hn
theorem RP_knd {F : Flg} (h : RP X b P D nv cb) (hf : P.2.1[f]? = some F) : KND X b f F.2.1 := (h.2.1.2.2 f F hf).2.1
theorem getD_get {α : Type} {l : List α} {i : Nat} {d : α} (h : i < l.length) : l[i]? = some (l.getD i d) := by
  rw [List.getD_eq_getElem?_getD, List.getElem?_eq_getElem h]
  rfl
/-- a rule in a layer -/
def sRulY (P : Pln) (l : Nat) (ts : List Tk) : RR (Pln × List Tk) := rb (sKnw (P.2.1.map (·.1)) ts) fun f => sRul P f.1 (nI l) (P.2.1.getD f.1 fl0).2.1 f.2
theorem ru27b (h : RP X b P D nv (E + 2 * P.2.2.2.2.2.1.length)) (hE : E ≤ 440) (hv : nv < 240) (hl : l < 100) (hm : (∃ e, r = .inl e) ∨ P.2.2.2.1.length < 100) (hR : RI X T fk r) (hn : 6002 ≤ n) : ∃ X1, gb234_27 n (-1) (nI l) X = some ((), X1) ∧ PO (fun x : Pln × List Tk => x.2) X1 T fk (RuQ X X1 b nv E P) (rb r fun ts => sRulY P l (adv ts)) := by
  obtain ⟨X1, n1, n2⟩ := ri_nextR hR hn
  have h1 := RP_arr h (nx_arr n1) ((w190 n1).1 4 rfl)
  obtain ⟨d1, d2, d3, _⟩ := RP_b h1
  have hfl := h.2.1.2.1
  obtain ⟨v, X2, e1, e2, e3, e4⟩ := rp_knw (n := n) (i := 10) (base := 24 * b) (names := P.2.1.map (·.1)) d1 d3 (by decide) (by decide) (by rw [List.length_map]; exact ⟨by show _ ≤ 48; omega, by decide⟩) (RP_nmF h1) n2 hn
  have h2 := RP_arr h1 e3 e4
  obtain ⟨i1, i2, i3, _⟩ := RP_b h2
  have ka : KA X X2 b := KA_T (KA_arr (nx_arr n1)) (KA_arr e3)
  have hch : gb234_27 n (-1) (nI l) X = gb234_64 n (-1) (nI l) v X2 := by
    unfold gb234_27
    rw [n1]
    dsimp only [Option.bind_some]
    rw [if_neg (nI_m1 (by omega))]
    refine rst (j := b) d1 (by decide) (by show _ < 2; omega) (by omega) d2 ?_
    rw [show cv X1 9 b = nI P.2.1.length from h1.2.1.1, i12 (a := 24) (k := 24) d2 rfl]
    rw [List.length_map] at e1
    rw [e1]
    rfl
  rw [hch, rb_adv]
  unfold sRulY
  rw [← rb_assoc]
  rcases e2 with ⟨e, x1, x2⟩ | ⟨x, x1, x2, x3, x4⟩
  · rw [x1]
    obtain ⟨X3, f1, f2⟩ := ru64F (n := n) (l1 := -1) (l2 := nI l) (s0 := v) x2 i1 i2 i3 hn
    exact ⟨X3, f1, f2⟩
  · rw [x1, rb_inr]
    have hm2 : P.2.2.2.1.length < 100 := by
      rcases hm with ⟨e, he⟩ | hm
      · rw [he] at x1
        cases x1
      · exact hm
    rw [List.length_map] at x4
    obtain ⟨X3, f1, f2⟩ := ru64 (n := n) (l1 := -1) (l := nI l) h2 hE hv (RP_knd h2 (getD_get (d := fl0) x4)) (by omega) hm2 x2 hn
    refine ⟨X3, by rw [x3]; exact f1, PO_imp f2 (fun x _ hx => RuQ_tr hx ka)⟩
theorem rulL_ok (h : RP X b P D nv (E + 2 * P.2.2.2.2.2.1.length)) (hE : E ≤ 440) (hv : nv < 240) (hl : l < 100) (hR : RI X T fk (.inr ts)) (hb1 : (hd ts).1 ≠ 1) (hn : 6002 ≤ n) : ∃ X1, g234 n (-1) (nI l) X = some ((), X1) ∧ PO (fun x : Pln × List Tk => x.2) X1 T fk (RuQ X X1 b nv E P) (rb (sFirst P.2.2.2.1.length 100 ts) fun ts => sRulY P l ts) := by
  rw [g234_eq h (ri_hd hR hb1).1]
  unfold sFirst
  have h12 := h.2.2.2.1.2.1
  by_cases hm : P.2.2.2.1.length = 100
  · rw [if_pos (by rw [hm]; rfl), if_pos (by omega)]
    obtain ⟨X1, x1, x2⟩ := ri_bad (n := n) (k := 5) hR hb1
    rw [x1]
    dsimp only [Option.bind_some]
    obtain ⟨X2, f1, f2⟩ := ru27b (r := .inl (sErr 5 (hd ts))) (RP_fr h (w195 x1) ((w195 x1).1 4 rfl)) hE hv hl (Or.inl ⟨_, rfl⟩) x2 hn
    exact ⟨X2, f1, f2⟩
  · rw [if_neg (nI100 (z := 100) (q := 100) rfl (by omega) (by omega) hm), if_neg (by omega)]
    exact ru27b (r := .inr ts) h hE hv hl (Or.inr (by omega)) hR hn
/-! items -/
theorem it153 (h : RI X T fk r) (hn : 6002 ≤ n) : ∃ X1, gb236_153 n l1 l2 l3 l4 X = some ((), X1) ∧ RI X1 T fk (rb r (sEat 9)) ∧ X1.2.2 = X.2.2 ∧ X1.1 4 = X.1 4 := by
  obtain ⟨X1, e1, e2, e3, e4⟩ := ri_eat2 (n := n) (c := 59) (s := 9) rfl (by decide) h hn
  exact ⟨X1, by unfold gb236_153; rw [e1]; rfl, e2, e3, e4⟩
theorem it88F {e : Er} (h : RI X T fk (.inl e)) (hn : 6002 ≤ n) : ∃ X1, gb236_88 n l1 l2 l3 l4 X = some ((), X1) ∧ RI X1 T fk (.inl e) := by
  obtain ⟨X1, e1, e2, _⟩ := it153 (n := n) (l1 := l1) (l2 := l2) (l3 := l3) (l4 := l4) h hn
  exact ⟨X1, by unfold gb236_88; rw [if_neg (ri_flt h)]; exact e1, e2⟩
theorem iX_KR {a c2 c3 : Int32} {q : Nat} : KP X (iX X b q a c2 c3) b (cn m f c nr q nv nq) := by
  refine KP_T (KP_T (KP_T (KP_up (by decide) ?_) (KP_up (by decide) ?_)) (KP_up (by decide) ?_)) (KP_up (by decide) ?_)
  · exact Or.inl (Nat.le_refl _)
  · exact Or.inl (Nat.le_refl _)
  · exact Or.inl (Nat.le_refl _)
  · exact Or.inl (show 1 * b + 0 ≤ b by omega)
theorem iX_RI {a c2 c3 : Int32} {q : Nat} (h : RI X T fk r) : RI (iX X b q a c2 c3) T fk r := RI_up (RI_up (RI_up (RI_up h (by decide)) (by decide)) (by decide)) (by decide)
def SVO (X : zX) (b nq nv : Nat) (v : Int32) (o : Option Srv) : Prop := match o with
  | none => v = -1
  | some s => SVR X b nq nv v s
theorem iX_fin (h : RP X b P D nv cb) (hm : P.2.2.2.2.1.length < 40) (hf : f < 24) (hs : SVO X b P.2.2.2.2.2.1.length nv v o) : RP (iX X b P.2.2.2.2.1.length (nI l) (nI f) v) b (iP P (l, f, o)) D nv cb := by
  obtain ⟨c1, c2, c3, c4, ⟨cc, c5, c6⟩, c7, c8, c9⟩ := RP_b h
  have hk : KP X (iX X b P.2.2.2.2.1.length (nI l) (nI f) v) b (cnP P nv) := iX_KR
  have hrow : ∀ i, i < 35 ∨ 38 < i → (iX X b P.2.2.2.2.1.length (nI l) (nI f) v).2.2 i = X.2.2 i := fun i hi => by
    unfold iX
    rw [up_row (by omega), up_row (by omega), up_row (by omega), up_row (by omega)]
  have hI : ∀ fm D0, Inv X b P.1.length fm cb [] D0 P.2.2.2.2.2.2 [] [] [] → Inv (iX X b P.2.2.2.2.1.length (nI l) (nI f) v) b P.1.length fm cb [] (D0 ++ []) P.2.2.2.2.2.2 [] [] [] := fun fm D0 hI => by
    rw [List.append_nil]
    exact Inv_tr hI (LN_up (LN_up (LN_up (LN_up c1)))) rfl (fun i h1 h2 => hrow i (by omega)) hk.1 ⟨cc, by rw [cv_of (hrow 1 (by omega))]; exact c5, c6⟩ c8 (Nat.le_refl _)
  have hl : (P.2.2.2.2.1 ++ [(l, f, o)]).length = P.2.2.2.2.1.length + 1 := by rw [List.length_append]; rfl
  have := RP_g (X1 := iX X b P.2.2.2.2.1.length (nI l) (nI f) v) (cb' := cb) (nv' := nv) (D' := []) (P' := iP P (l, f, o)) h hk ⟨by rw [cv_of (hrow 4 (by omega))]; exact h.1.1, h.1.2.1, fun _ _ q => Or.inl q⟩ ⟨by rw [cv_of (hrow 9 (by omega))]; exact h.2.1.1, h.2.1.2.1, fun _ _ q => Or.inl q⟩ ⟨by rw [cv_of (hrow 25 (by omega))]; exact h.2.2.1.1, h.2.2.1.2.1, fun _ _ q => Or.inl q⟩ ⟨by rw [cv_of (hrow 28 (by omega))]; exact h.2.2.2.1.1, h.2.2.2.1.2.1, fun _ _ q => Or.inl q⟩ ⟨?_, ?_, ?_⟩ ⟨by rw [cv_of (hrow 39 (by omega))]; exact h.2.2.2.2.2.1, Nat.le_refl _⟩ ⟨SPS_kp h.2.2.2.2.2.2.1 hk (cv_of (hrow 42 (by omega))), Nat.le_refl _⟩ hI
  · rw [List.append_nil] at this
    exact this
  · show cv _ 35 b = nI (P.2.2.2.2.1 ++ [(l, f, o)]).length
    rw [hl]
    unfold iX
    rw [cv_eq (LN_up (LN_up (LN_up c1))) (by decide) (by show _ < 2; omega)]
  · show (P.2.2.2.2.1 ++ [(l, f, o)]).length ≤ 40
    omega
  · intro j y hj
    rcases get_app hj with hj | ⟨hz, hj⟩
    · exact Or.inl hj
    · right
      rw [hz, hj]
      have e : cv (iX X b P.2.2.2.2.1.length (nI l) (nI f) v) 38 (40 * b + P.2.2.2.2.1.length) = v := by
        unfold iX
        rw [cv_ne (Or.inl (by decide)), cv_eq (LN_up (LN_up c1)) (by decide) (by show _ < 80; omega)]
      refine ⟨?_, ?_, hf, ?_⟩
      · unfold iX
        rw [cv_ne (Or.inl (by decide)), cv_ne (Or.inl (by decide)), cv_ne (Or.inl (by decide)), cv_eq c1 (by decide) (by show _ < 80; omega)]
      · unfold iX
        rw [cv_ne (Or.inl (by decide)), cv_ne (Or.inl (by decide)), cv_eq (LN_up c1) (by decide) (by show _ < 80; omega)]
      · cases o with
        | none => show cv _ 38 _ = -1; rw [e]; exact hs
        | some s => show SVR _ b _ _ (cv _ 38 _) s; rw [e]; exact SVR_g hs hk (Nat.le_refl _) (Nat.le_refl _)
theorem it88 (h : RP X b P D nv cb) (hm : P.2.2.2.2.1.length < 40) (hf : f < 24) (hs : SVO X b P.2.2.2.2.2.1.length nv v o) (hR : RI X T fk (.inr ts)) (hb1 : (hd ts).1 ≠ 1) (hn : 6002 ≤ n) : ∃ X1, gb236_88 n (nI l) l2 (nI f) v X = some ((), X1) ∧ RI X1 T fk (sEat 9 ts) ∧ RP X1 b (iP P (l, f, o)) D nv cb := by
  obtain ⟨c1, c2, c3, c4, ⟨cc, c5, c6⟩, c7, c8, c9⟩ := RP_b h
  have hfin := iX_fin (l := l) h hm hf hs
  obtain ⟨X5, hX5⟩ : ∃ X5, X5 = iX X b P.2.2.2.2.1.length (nI l) (nI f) v := ⟨_, rfl⟩
  have hR5 : RI X5 T fk (.inr ts) := by rw [hX5]; exact iX_RI hR
  obtain ⟨X6, g1, g2, g3, g4⟩ := it153 (n := n) (l1 := nI l) (l2 := l2) (l3 := nI f) (l4 := v) hR5 hn
  refine ⟨X6, ?_, g2, RP_arr (by rw [hX5]; exact hfin) g3 g4⟩
  unfold gb236_88
  rw [if_pos (ri_hd hR hb1).1]
  refine rst (j := b) c1 (by decide) (by show _ < 2; omega) (by omega) c2 ?_
  rw [h.2.2.2.2.1.1]
  refine wst 40 P.2.2.2.2.1.length c1 c2 c3 (by decide) rfl (by decide) hm rfl (by decide) (i12a c2 rfl) ?_
  refine wst 40 P.2.2.2.2.1.length (LN_up c1) c2 c3 (by decide) rfl (by decide) hm rfl (by decide) (i12a c2 rfl) ?_
  refine wst 40 P.2.2.2.2.1.length (LN_up (LN_up c1)) c2 c3 (by decide) rfl (by decide) hm rfl (by decide) (i12a c2 rfl) ?_
  refine rst (j := b) (LN_up (LN_up (LN_up c1))) (by decide) (by show _ < 2; omega) (by omega) c2 ?_
  rw [cv_ne (Or.inl (by decide)), cv_ne (Or.inl (by decide)), cv_ne (Or.inl (by decide)), h.2.2.2.2.1.1, nI_1]
  refine wst1 (LN_up (LN_up (LN_up c1))) c2 c3 (by decide) rfl rfl c2 ?_
  rw [hX5] at g1
  exact g1
def ItQ (X1 : zX) (b nv E : Nat) (P : Pln) (x : Pln × List Tk) : Prop := (∃ D1 nv1, RP X1 b x.1 D1 nv1 (E + 2 * x.1.2.2.2.2.2.1.length) ∧ nv1 ≤ nv + 1) ∧ x.1.1 = P.1 ∧ x.1.2.1 = P.2.1 ∧ x.1.2.2.1 = P.2.2.1 ∧ x.1.2.2.2.1 = P.2.2.2.1 ∧ x.1.2.2.2.2.1.length = P.2.2.2.2.1.length + 1
def sItmY (P : Pln) (l : Nat) (st : Bool) (ts : List Tk) : RR (Pln × List Tk) := rb (sKnw (P.2.1.map (·.1)) ts) fun f =>
    if st = false then rb (sEat 9 f.2) fun ts => .inr ((P.1, P.2.1, P.2.2.1, P.2.2.2.1, P.2.2.2.2.1 ++ [(l, f.1, none)], P.2.2.2.2.2), ts)
    else rb (sEat 12 f.2) fun ts => rb (sSrv (P.2.1.getD f.1 fl0).2.1 P.2.2.2.2.2.1 ts) fun y => .inr ((P.1, P.2.1, P.2.2.1, P.2.2.2.1, P.2.2.2.2.1 ++ [(l, f.1, some y.1)], y.2.1, P.2.2.2.2.2.2), y.2.2)
theorem it19 {st : Bool} (h : RP X b P D nv (E + 2 * P.2.2.2.2.2.1.length)) (hE : E ≤ 440) (hv : nv < 240) (hm : (∃ e, r = .inl e) ∨ P.2.2.2.2.1.length < 40) (hR : RI X T fk r) (hn : 6002 ≤ n) : ∃ X1, gb236_19 n (nI l) (b2 st) X = some ((), X1) ∧ PO (fun x : Pln × List Tk => x.2) X1 T fk (ItQ X1 b nv E P) (rb r fun ts => sItmY P l st (adv ts)) := by
  obtain ⟨X1, n1, n2⟩ := ri_nextR hR hn
  have h1 := RP_arr h (nx_arr n1) ((w190 n1).1 4 rfl)
  obtain ⟨d1, d2, d3, _⟩ := RP_b h1
  have hfl := h.2.1.2.1
  obtain ⟨v, X2, e1, e2, e3, e4⟩ := rp_knw (n := n) (i := 10) (base := 24 * b) (names := P.2.1.map (·.1)) d1 d3 (by decide) (by decide) (by rw [List.length_map]; exact ⟨by show _ ≤ 48; omega, by decide⟩) (RP_nmF h1) n2 hn
  have h2 := RP_arr h1 e3 e4
  obtain ⟨i1, i2, i3, _⟩ := RP_b h2
  have hch : ∀ R, (if b2 st = 0 then
      gb236_88 n  (nI l) (b2 st) v (-1) X2
    else
      (g208 n 61 X2).bind fun p10 =>
      if (p10.2.1 73) = (-1) then
        (g229 n ((24 * (p10.2.1 4)) + v) p10.2).bind fun p13 =>
        gb236_86 n  (nI l) (b2 st) v (-1) p13.1 p13.2
      else
        gb236_86 n  (nI l) (b2 st) v (-1) (-1) p10.2) = R → gb236_19 n (nI l) (b2 st) X = R := by
    intro R hh
    unfold gb236_19
    rw [n1]
    dsimp only [Option.bind_some]
    refine rst (j := b) d1 (by decide) (by show _ < 2; omega) (by omega) d2 ?_
    rw [show cv X1 9 b = nI P.2.1.length from h1.2.1.1, i12 (a := 24) (k := 24) d2 rfl]
    rw [List.length_map] at e1
    rw [e1]
    exact hh
  rw [rb_adv]
  unfold sItmY
  rw [← rb_assoc]
  rcases e2 with ⟨e, x1, x2⟩ | ⟨x, x1, x2, x3, x4⟩
  · rw [x1]
    cases st with
    | false =>
      obtain ⟨X3, f1, f2⟩ := it88F (n := n) (l1 := nI l) (l2 := b2 false) (l3 := v) (l4 := -1) x2 hn
      exact ⟨X3, hch _ (by rw [if_pos b2_f]; exact f1), f2⟩
    | true =>
      obtain ⟨X3, f1, f2, _⟩ := ri_eat2 (n := n) (c := 61) (s := 12) rfl (by decide) x2 hn
      have f2 : RI X3 T fk (.inl e) := f2
      obtain ⟨X4, g1, g2⟩ := it88F (n := n) (l1 := nI l) (l2 := b2 true) (l3 := v) (l4 := -1) f2 hn
      refine ⟨X4, hch _ ?_, g2⟩
      rw [if_neg (by decide), f1]
      dsimp only [Option.bind_some]
      rw [if_neg (ri_flt f2)]
      exact g1
  · rw [x1, rb_inr]
    have hm2 : P.2.2.2.2.1.length < 40 := by
      rcases hm with ⟨e, he⟩ | hm
      · rw [he] at x1
        cases x1
      · exact hm
    rw [List.length_map] at x4
    have hl : ∀ o, (P.2.2.2.2.1 ++ [(l, x.1, o)]).length = P.2.2.2.2.1.length + 1 := fun o => by rw [List.length_append]; rfl
    cases st with
    | false =>
      rw [if_pos rfl]
      by_cases hb2 : (hd x.2).1 = 1
      · have h' := (ri_brk x2 hb2).1
        obtain ⟨X3, f1, f2⟩ := it88F (n := n) (l1 := nI l) (l2 := b2 false) (l3 := v) (l4 := -1) h' hn
        refine ⟨X3, hch _ (by rw [if_pos b2_f]; exact f1), ?_⟩
        rw [sEat_brk (by decide) _ hb2]
        exact f2
      · obtain ⟨X3, g1, g2, g3⟩ := it88 (n := n) (l := l) (l2 := b2 false) (v := -1) (f := x.1) (o := none) h2 hm2 (by omega) rfl x2 hb2 hn
        refine ⟨X3, hch _ (by rw [if_pos b2_f, x3]; exact g1), ?_⟩
        generalize sEat 9 x.2 = rs at g2
        cases rs with
        | inl e => exact g2
        | inr ts6 => exact PO_inr (tl := fun x : Pln × List Tk => x.2) (x := ((P.1, P.2.1, P.2.2.1, P.2.2.2.1, P.2.2.2.2.1 ++ [(l, x.1, none)], P.2.2.2.2.2), ts6)) g2 ⟨⟨D, nv, g3, by omega⟩, rfl, rfl, rfl, rfl, hl _⟩
    | true =>
      rw [if_neg (by decide)]
      obtain ⟨X3, f1, f2, f3, f4⟩ := ri_eat2 (n := n) (c := 61) (s := 12) rfl (by decide) x2 hn
      have f2 : RI X3 T fk (sEat 12 x.2) := f2
      have h3 := RP_arr h2 f3 f4
      obtain ⟨o1, o2, o3, _⟩ := RP_b h3
      generalize sEat 12 x.2 = rs at f2
      have hF : ∀ e, RI X3 T fk (.inl e) → ∃ X1, gb236_19 n (nI l) (b2 true) X = some ((), X1) ∧ RI X1 T fk (.inl e) := by
        intro e f2
        obtain ⟨X4, g1, g2⟩ := it88F (n := n) (l1 := nI l) (l2 := b2 true) (l3 := v) (l4 := -1) f2 hn
        refine ⟨X4, hch _ ?_, g2⟩
        rw [if_neg (by decide), f1]
        dsimp only [Option.bind_some]
        rw [if_neg (ri_flt f2)]
        exact g1
      cases rs with
      | inl e => exact hF e f2
      | inr ts3 =>
        rw [rb_inr]
        by_cases hb3 : (hd ts3).1 = 1
        · rw [sSrv_brk _ hb3]
          exact hF _ (ri_brk f2 hb3).1
        · obtain ⟨u, X4, s1, s2⟩ := rp_srv (n := n) h3 hE (RP_knd h3 (getD_get (d := fl0) x4)) (by omega) hv f2 hb3 hn
          unfold sSrv
          rw [rb_assoc]
          have hch2 : ∀ R, gb236_88 n (nI l) (b2 true) v u X4 = R → gb236_19 n (nI l) (b2 true) X = R := by
            intro R hh
            refine hch R ?_
            rw [if_neg (by decide), f1]
            dsimp only [Option.bind_some]
            rw [if_pos (ri_hd f2 hb3).1, x3, i12a (a := 24) (k := 24) o2 rfl, s1]
            dsimp only [Option.bind_some]
            unfold gb236_86
            rw [← x3]
            exact hh
          rcases po_el s2 (f := fun y => rb (rb (sEat 9 y.2.2) fun ts => .inr (y.1, y.2.1, ts)) fun y => .inr ((P.1, P.2.1, P.2.2.1, P.2.2.2.1, P.2.2.2.2.1 ++ [(l, x.1, some y.1)], y.2.1, P.2.2.2.2.2.2), y.2.2)) (fun y hy => by rw [sEat_brk (by decide) _ hy]; rfl) with ⟨e, t1, t2⟩ | ⟨y, t1, t2, t3, t4, t5⟩
          · obtain ⟨X5, g1, g2⟩ := it88F (n := n) (l1 := nI l) (l2 := b2 true) (l3 := v) (l4 := u) t1 hn
            refine ⟨X5, hch2 _ g1, ?_⟩
            rw [t2]
            exact g2
          · obtain ⟨w1, w2, w3, w4, w5⟩ := t4
            rw [t5]
            obtain ⟨X5, g1, g2, g3⟩ := it88 (n := n) (l := l) (l2 := b2 true) (v := u) (f := x.1) (o := some y.1) (P := qP P y.2.1) w1 hm2 (by omega) w2 t3 t2 hn
            refine ⟨X5, hch2 _ (by rw [x3]; exact g1), ?_⟩
            generalize sEat 9 y.2.2 = rs at g2
            cases rs with
            | inl e => exact g2
            | inr ts6 => exact PO_inr (tl := fun x : Pln × List Tk => x.2) (x := ((P.1, P.2.1, P.2.2.1, P.2.2.2.1, P.2.2.2.2.1 ++ [(l, x.1, some y.1)], y.2.1, P.2.2.2.2.2.2), ts6)) g2 ⟨⟨D, nv + 1, g3, by omega⟩, rfl, rfl, rfl, rfl, hl _⟩
theorem itm_ok {st : Bool} (h : RP X b P D nv (E + 2 * P.2.2.2.2.2.1.length)) (hE : E ≤ 440) (hv : nv < 240) (hR : RI X T fk (.inr ts)) (hb1 : (hd ts).1 ≠ 1) (hn : 6002 ≤ n) : ∃ X1, g236 n (nI l) (b2 st) X = some ((), X1) ∧ PO (fun x : Pln × List Tk => x.2) X1 T fk (ItQ X1 b nv E P) (rb (sFirst P.2.2.2.2.1.length 40 ts) fun ts => sItmY P l st ts) := by
  obtain ⟨d1, d2, d3, d4, _⟩ := RP_b h
  unfold g236 sFirst
  rw [show rd (X.2.2 35) (X.1 4) = some (nI P.2.2.2.2.1.length) by rw [d2, rd_cv d1 (by decide) (by show _ < 2; omega) (by omega), h.2.2.2.2.1.1]]
  dsimp only [Option.bind_some]
  have h12 := h.2.2.2.2.1.2.1
  by_cases hm : P.2.2.2.2.1.length = 40
  · rw [if_pos (by rw [hm]; rfl), if_pos (by omega)]
    obtain ⟨X1, x1, x2⟩ := ri_bad (n := n) (k := 5) hR hb1
    rw [x1]
    dsimp only [Option.bind_some]
    exact it19 (r := .inl (sErr 5 (hd ts))) (RP_fr h (w195 x1) ((w195 x1).1 4 rfl)) hE hv (Or.inl ⟨_, rfl⟩) x2 hn
  · rw [if_neg (nI100 (z := 40) (q := 40) rfl (by omega) (by omega) hm), if_neg (by omega)]
    exact it19 (r := .inr ts) h hE hv (Or.inr (by omega)) hR hn
theorem sItm_r (h : (hd ts).1 = 21) : sItm P l ts = rb (sFirst P.2.2.2.1.length 100 ts) fun ts => sRulY P l ts := by
  unfold sItm
  rw [if_pos h]
  rfl
theorem sItm_i {st : Bool} (h : (hd ts).1 = if st = true then 24 else 19) : sItm P l ts = rb (sFirst P.2.2.2.2.1.length 40 ts) fun ts => sItmY P l st ts := by
  unfold sItm
  cases st with
  | false =>
    have h : (hd ts).1 = 19 := h
    rw [h]
    rfl
  | true =>
    have h : (hd ts).1 = 24 := h
    rw [h]
    rfl
end
end ZIT

/-! THE REFERENCE'S FLAGS: a flag -/
section ZFM
def FI (X : zX) (b f : Nat) (w : List Int32) (k : Nat × List (List Int32)) : Prop := SW X b (cv X 10 (24 * b + f)) w ∧ KND X b f k ∧ cv X 16 (24 * b + f) = 0
def offG (P : Pln) (Fs : List Flg) (w : List Int32) (k : Nat × List (List Int32)) (d : Srv) (ts : List Tk) : RR (Pln × List Tk) := rb (sVal k ts) fun o => rb (sEat 9 o.2) fun ts => rb (sNedL 5 [] ts) (ndE P Fs w k d o.1)
/-- behind the kind -/
def flG (P : Pln) (Fs : List Flg) (w : List Int32) (k : (Nat × List (List Int32)) × List Tk) : RR (Pln × List Tk) := rb (sEat 5 k.2) fun ts => rb (sEat 18 ts) fun ts => rb (sSrv k.1 P.2.2.2.2.2.1 ts) fun d => rb (sEat 19 d.2.2) fun ts => offG (qP P d.2.1) Fs w k.1 d.1 ts
def flY (P : Pln) (ts : List Tk) : RR (Pln × List Tk) := rb (sNew (P.2.1.map (·.1)) ts) fun w => rb (sEat 11 w.2) fun ts => rb (sKind ts) (flG P P.2.1 w.1.2.2.1)
section
variable {n : Nat} {X X1 X2 : zX} {b f c m nv nv' cb cb' nq nr E p l e0 : Nat} {T : List Int32} {fk : Int32} {ts : List Tk} {r : RR (List Tk)} {P : Pln} {D D1 : List Pd} {φ : Den} {k : Nat × List (List Int32)} {v l1 l2 l3 l4 l5 l6 s0 : Int32} {w : List Int32} {s d : Srv} {o : Int32} {Fs : List Flg} {F : Flg} {ns : List (Tk × Tk)}
theorem sFlg_eq : sFlg P ts = rb (sFirst P.2.1.length 24 ts) fun ts => flY P ts := rfl
theorem ri_eatW2 {a s : Nat} (hw : wk a [s]) (h : RI X T fk r) (hn : 6002 ≤ n) : ∃ X1, g228 n a X = some ((), X1) ∧ RI X1 T fk (rb r (sEat s)) ∧ X1.2.2 = X.2.2 ∧ X1.1 4 = X.1 4 := by
  obtain ⟨X1, e1, e2⟩ := ri_eatW (n := n) hw h hn
  exact ⟨X1, e1, e2, funext fun i => (w228 e1).2.2.1 i (by simp), (w228 e1).1 4 rfl⟩
theorem FI_kp (h : FI X b f w k) (hk : KP X X1 b (cn 0 (f + 1) 0 0 0 0 0)) : FI X1 b f w k := by
  obtain ⟨h1, h2, h3⟩ := h
  have e : ∀ i, i = 10 ∨ i = 16 → cv X1 i (24 * b + f) = cv X i (24 * b + f) := by
    intro i this
    rcases this with rfl | rfl <;> exact hk.2 _ _ (by show 24 * b ≤ _; omega) (by show _ < 24 * b + (f + 1); omega)
  exact ⟨by rw [e 10 (by omega)]; exact SW_kp h1 hk.1, KND_kp h2 hk (by omega), by rw [e 16 (by omega)]; exact h3⟩
theorem RP_fu {i : Nat} (h : RP X b P D nv cb) (hf : P.2.1.length = f) (hi : i = 10 ∨ i = 11 ∨ i = 12 ∨ i = 14 ∨ i = 15 ∨ i = 16) : RP (up X i (24 * b + f) v) b P D nv cb := by
  obtain ⟨c1, c2, c3, _, ⟨c, c5, c6⟩, c7, c8, _⟩ := RP_b h
  refine RP_keep h (KP_up (by omega) ?_) (fun q hq => cv_ne (by omega)) (fun q _ _ => up_row (by omega)) (LN_up c1) rfl ⟨c, by rw [cv_ne (by omega)]; exact c5, c6⟩ c8
  subst hf
  rcases hi with rfl | rfl | rfl | rfl | rfl | rfl <;> exact Or.inl (Nat.le_refl _)
theorem KF_up {i ns nl nr ni nv nq : Nat} (hi : i = 10 ∨ i = 11 ∨ i = 12 ∨ i = 14 ∨ i = 15 ∨ i = 16) : KP X (up X i (24 * b + f) v) b (cn ns f nl nr ni nv nq) := by
  refine KP_up (by omega) ?_
  rcases hi with rfl | rfl | rfl | rfl | rfl | rfl <;> exact Or.inl (Nat.le_refl _)
def flW (n : Nat) (l1 l2 l3 s0 : Int32) (X : zX) : Option (Unit × zX) :=
  zgd (bkO (X.1 4) 14 l2) <|
  (wr X 14 l2 l3).bind fun X4 =>
  zgd (bkO (X4.1 4) 15 l2) <|
  (wr X4 15 l2 s0).bind fun X8 =>
  gf226_245 n  n l1 l2 l3 s0 X8
theorem flW_eq (hL : LN X) (h4 : X.1 4 = nI b) (hb : b ≤ 1) (hf : f < 24) : flW n l1 (nI (24 * b + f)) l3 s0 X = gf226_245 n n l1 (nI (24 * b + f)) l3 s0 (up (up X 14 (24 * b + f) l3) 15 (24 * b + f) s0) := by
  unfold flW
  refine wst 24 f hL h4 hb (by decide) rfl (by decide) hf rfl (by decide) rfl ?_
  exact wst 24 f (LN_up hL) h4 hb (by decide) rfl (by decide) hf rfl (by decide) rfl rfl
theorem flWF {e : Er} (h : RI X T fk (.inl e)) (hL : LN X) (h4 : X.1 4 = nI b) (hb : b ≤ 1) (hf : f < 24) (hn : 6002 ≤ n) : ∃ X1, flW n l1 (nI (24 * b + f)) l3 s0 X = some ((), X1) ∧ RI X1 T fk (.inl e) := by
  rw [flW_eq hL h4 hb hf]
  exact fl245F (RI_up (RI_up h (by decide)) (by decide)) (by omega) hn
theorem fl222F {e : Er} (h : RI X T fk (.inl e)) (hL : LN X) (h4 : X.1 4 = nI b) (hb : b ≤ 1) (hf : f < 24) (hn : 6002 ≤ n) : ∃ X1, gb226_222 n l1 (nI (24 * b + f)) l3 s0 X = some ((), X1) ∧ RI X1 T fk (.inl e) := by
  obtain ⟨X1, e1, e2, e3, e4⟩ := ri_eat2 (n := n) (c := 59) (s := 9) rfl (by decide) h hn
  obtain ⟨X2, f1, f2⟩ := flWF (n := n) (l1 := l1) (l3 := l3) (s0 := s0) (f := f) (show RI X1 T fk (.inl e) from e2) (fun i hi => by rw [e3]; exact hL i hi) (e4.trans h4) hb hf hn
  refine ⟨X2, ?_, f2⟩
  unfold gb226_222
  rw [e1]
  exact f1
theorem fl222 (hE : E ≤ 432) (h : RP X b P D nv (E + 2 * P.2.2.2.2.2.1.length)) (hF : P.2.1 = Fs) (hm : Fs.length < 24) (hv : nv ≤ P.2.1.length + P.2.2.2.1.length + P.2.2.2.2.1.length + 1) (hI : FI X b Fs.length w k) (hs : SVR X b P.2.2.2.2.2.1.length nv l3 d) (hR : RI X T fk (.inr ts)) (hn : 6002 ≤ n) : ∃ X1, gb226_222 n l1 (nI (24 * b + Fs.length)) l3 o X = some ((), X1) ∧ PO (fun x : Pln × List Tk => x.2) X1 T fk (FmQ X1 b (E + 8) P Fs) (rb (sEat 9 ts) fun ts => rb (sNedL 5 [] ts) (ndE P Fs w k d o)) := by
  obtain ⟨X1, e1, e2, e3, e4⟩ := ri_eat2 (n := n) (c := 59) (s := 9) rfl (by decide) hR hn
  have h1 := RP_arr h e3 e4
  obtain ⟨c1, c2, c3, _⟩ := RP_b h1
  have ka : KA X X1 b := KA_arr e3
  have e2 : RI X1 T fk (sEat 9 ts) := e2
  have hch : gb226_222 n l1 (nI (24 * b + Fs.length)) l3 o X = flW n l1 (nI (24 * b + Fs.length)) l3 o X1 := by
    unfold gb226_222
    rw [e1]
    rfl
  rw [hch]
  generalize sEat 9 ts = rs at e2
  cases rs with
  | inl e => exact flWF e2 c1 c2 c3 hm hn
  | inr ts1 =>
    rw [rb_inr, flW_eq c1 c2 c3 hm]
    have hI1 := FI_kp hI (ka 0 (Fs.length + 1) 0 0 0 0 0)
    have hs1 : SVR X1 b P.2.2.2.2.2.1.length nv l3 d := SVR_g hs (ka 0 0 0 0 0 nv _) (Nat.le_refl _) (Nat.le_refl _)
    obtain ⟨Y, hY⟩ : ∃ Y, Y = up (up X1 14 (24 * b + Fs.length) l3) 15 (24 * b + Fs.length) o := ⟨_, rfl⟩
    have hk : ∀ ns nl nr ni nv nq, KP X1 Y b (cn ns Fs.length nl nr ni nv nq) := fun _ _ _ _ _ _ => by rw [hY]; exact KP_T (KF_up (by omega)) (KF_up (by omega))
    have hrow : ∀ i, i ≠ 14 → i ≠ 15 → Y.2.2 i = X1.2.2 i := fun i h1 h2 => by rw [hY, up_row h2, up_row h1]
    have h14 : cv Y 14 (24 * b + Fs.length) = l3 := by rw [hY, cv_ne (Or.inl (by decide)), cv_eq c1 (by decide) (by show _ < 48; omega)]
    have h15 : cv Y 15 (24 * b + Fs.length) = o := by rw [hY, cv_eq (LN_up c1) (by decide) (by show _ < 48; omega)]
    have hRP : RP Y b P D nv (E + 2 * P.2.2.2.2.2.1.length) := by rw [hY]; exact RP_fu (RP_fu h1 (by rw [hF]) (by omega)) (by rw [hF]) (by omega)
    obtain ⟨k1, k2, k3, k4, k5⟩ := hI1.2.1
    have hsk := (hk 0 0 0 0 0 0).1
    have h0 : FL0 Y b nv P.2.2.2.2.2.1.length Fs.length w k d o := by
      refine ⟨?_, ⟨?_, k2, ?_, k4, NML_kp k5 hsk (fun q _ => cv_of (hrow 13 (by omega) (by omega)))⟩, ?_, h15⟩
      · rw [cv_of (hrow 10 (by omega) (by omega))]; exact SW_kp hI1.1 hsk
      · rw [cv_of (hrow 11 (by omega) (by omega))]; exact k1
      · rw [cv_of (hrow 12 (by omega) (by omega))]; exact k3
      · rw [h14]
        exact SVR_g hs1 (hk 0 0 0 0 nv _) (Nat.le_refl _) (Nat.le_refl _)
    have hN : NDS Y b Fs.length [] := ⟨by rw [cv_of (hrow 16 (by omega) (by omega))]; exact hI1.2.2, by show 0 ≤ 4; omega, fun j y hj => (by cases hj)⟩
    have hRY : RI Y T fk (.inr ts1) := by rw [hY]; exact RI_up (RI_up e2 (by decide)) (by decide)
    rw [← hY]
    exact lp245 hE hm hF hv hn 5 n [] ts1 (X := Y) (by show 5 ≤ 0 + 5; omega) (by show 7 ≤ 0 + n; omega) hRP h0 hN hRY
theorem offG_brk : Brk (offG P Fs w k d) := Brk_rb sVal_brk
theorem fl191F {e : Er} (h : RI X T fk (.inl e)) (hL : LN X) (h4 : X.1 4 = nI b) (hb : b ≤ 1) (hf : f < 24) (hn : 6002 ≤ n) : ∃ X1, gb226_191 n l1 (nI (24 * b + f)) s0 X = some ((), X1) ∧ RI X1 T fk (.inl e) := by
  obtain ⟨X1, e1, e2, e3, e4⟩ := ri_eat2 (n := n) (c := 59) (s := 9) rfl (by decide) h hn
  obtain ⟨X2, f1, f2, f3, f4⟩ := ri_eatW2 (n := n) wk_71 e2 hn
  have f2 : RI X2 T fk (.inl e) := f2
  obtain ⟨X3, g1, g2⟩ := fl222F (n := n) (l1 := l1) (l3 := s0) (s0 := 0) (f := f) f2 (fun i hi => by rw [f3, e3]; exact hL i hi) (f4.trans (e4.trans h4)) hb hf hn
  refine ⟨X3, ?_, g2⟩
  unfold gb226_191
  rw [e1]
  dsimp only [Option.bind_some]
  rw [f1]
  dsimp only [Option.bind_some]
  rw [if_neg (ri_flt f2)]
  exact g1
theorem fl191 (hE : E ≤ 432) (h : RP X b P D nv (E + 2 * P.2.2.2.2.2.1.length)) (hF : P.2.1 = Fs) (hm : Fs.length < 24) (hv : nv ≤ P.2.1.length + P.2.2.2.1.length + P.2.2.2.2.1.length + 1) (hI : FI X b Fs.length w k) (hs : SVR X b P.2.2.2.2.2.1.length nv s0 d) (hR : RI X T fk (.inr ts)) (hn : 6002 ≤ n) : ∃ X1, gb226_191 n l1 (nI (24 * b + Fs.length)) s0 X = some ((), X1) ∧ PO (fun x : Pln × List Tk => x.2) X1 T fk (FmQ X1 b (E + 8) P Fs) (rb (rb (sEat 9 ts) (sEat 19)) (offG P Fs w k d)) := by
  obtain ⟨X1, e1, e2, e3, e4⟩ := ri_eat2 (n := n) (c := 59) (s := 9) rfl (by decide) hR hn
  obtain ⟨X2, f1, f2, f3, f4⟩ := ri_eatW2 (n := n) wk_71 e2 hn
  have h2 := RP_arr (RP_arr h e3 e4) f3 f4
  obtain ⟨c1, c2, c3, _⟩ := RP_b h2
  have ka : KA X X2 b := KA_T (KA_arr e3) (KA_arr f3)
  have f2 : RI X2 T fk (rb (sEat 9 ts) (sEat 19)) := f2
  generalize rb (sEat 9 ts) (sEat 19) = rs at f2
  have hch : ∀ R, (if (X2.1 73) = (-1) then
      (g232 n (nI (24 * b + Fs.length)) X2).bind fun p6 =>
      gb226_222 n  l1 (nI (24 * b + Fs.length)) s0 p6.1 p6.2
    else
      gb226_222 n  l1 (nI (24 * b + Fs.length)) s0 0 X2) = R → gb226_191 n l1 (nI (24 * b + Fs.length)) s0 X = R := by
    intro R hh
    unfold gb226_191
    rw [e1]
    dsimp only [Option.bind_some]
    rw [f1]
    exact hh
  have hFF : ∀ e, RI X2 T fk (.inl e) → ∃ X1, gb226_191 n l1 (nI (24 * b + Fs.length)) s0 X = some ((), X1) ∧ RI X1 T fk (.inl e) := by
    intro e q
    obtain ⟨X3, g1, g2⟩ := fl222F (n := n) (l1 := l1) (l3 := s0) (s0 := 0) (f := Fs.length) q c1 c2 c3 hm hn
    exact ⟨X3, hch _ (by rw [if_neg (ri_flt q)]; exact g1), g2⟩
  cases rs with
  | inl e => exact hFF e f2
  | inr ts2 =>
    rw [rb_inr]
    by_cases hb1 : (hd ts2).1 = 1
    · rw [offG_brk _ hb1]
      exact hFF _ (ri_brk f2 hb1).1
    · have hI2 := FI_kp hI (ka 0 (Fs.length + 1) 0 0 0 0 0)
      obtain ⟨v, X3, s1, s2⟩ := val_ok (n := n) f2 hb1 c1 c3 hm hI2.2.1 hn
      have e3' : X3.2.2 = X2.2.2 := funext fun i => (w232 s1).2.2.1 i (by simp)
      have e4' : X3.1 4 = X2.1 4 := (w232 s1).1 4 rfl
      have h3 := RP_arr h2 e3' e4'
      obtain ⟨i1, i2, i3, _⟩ := RP_b h3
      have ka3 : KA X X3 b := KA_T ka (KA_arr e3')
      unfold offG
      rcases po_el s2 (f := fun o => rb (sEat 9 o.2) fun ts => rb (sNedL 5 [] ts) (ndE P Fs w k d o.1)) (fun x hx => by rw [sEat_brk (by decide) _ hx]; rfl) with ⟨e, q1, q2⟩ | ⟨x, q1, q2, q3, q4, q5⟩
      · obtain ⟨X4, g1, g2⟩ := fl222F (n := n) (l1 := l1) (l3 := s0) (s0 := v) (f := Fs.length) q1 i1 i2 i3 hm hn
        refine ⟨X4, hch _ ?_, ?_⟩
        · rw [if_pos (ri_hd f2 hb1).1, s1]
          exact g1
        · rw [q2]
          exact g2
      · rw [q5]
        obtain ⟨X4, g1, g2⟩ := fl222 (n := n) (l1 := l1) (l3 := s0) (o := v) hE h3 hF hm hv (FI_kp hI (ka3 0 (Fs.length + 1) 0 0 0 0 0)) (SVR_g hs (ka3 0 0 0 0 0 nv _) (Nat.le_refl _) (Nat.le_refl _)) q3 hn
        refine ⟨X4, hch _ ?_, ?_⟩
        · rw [if_pos (ri_hd f2 hb1).1, s1]
          exact g1
        · rw [← q4]
          exact g2
theorem fl161F {e : Er} (h : RI X T fk (.inl e)) (hL : LN X) (h4 : X.1 4 = nI b) (hb : b ≤ 1) (hf : f < 24) (hn : 6002 ≤ n) : ∃ X1, gb226_161 n l1 (nI (24 * b + f)) X = some ((), X1) ∧ RI X1 T fk (.inl e) := by
  obtain ⟨X1, e1, e2, e3, e4⟩ := ri_eat2 (n := n) (c := 123) (s := 5) rfl (by decide) h hn
  obtain ⟨X2, f1, f2, f3, f4⟩ := ri_eatW2 (n := n) wk_69 e2 hn
  have f2 : RI X2 T fk (.inl e) := f2
  obtain ⟨X3, g1, g2⟩ := fl191F (n := n) (l1 := l1) (s0 := 0) (f := f) f2 (fun i hi => by rw [f3, e3]; exact hL i hi) (f4.trans (e4.trans h4)) hb hf hn
  refine ⟨X3, ?_, g2⟩
  unfold gb226_161
  rw [e1]
  dsimp only [Option.bind_some]
  rw [f1]
  dsimp only [Option.bind_some]
  rw [if_neg (ri_flt f2)]
  exact g1
theorem fl161 (hE : E ≤ 432) (h : RP X b P D nv (E + 2 * P.2.2.2.2.2.1.length)) (hF : P.2.1 = Fs) (hm : Fs.length < 24) (hv : nv ≤ P.2.1.length + P.2.2.2.1.length + P.2.2.2.2.1.length) (hI : FI X b Fs.length w k) (hR : RI X T fk (.inr ts)) (hn : 6002 ≤ n) : ∃ X1, gb226_161 n l1 (nI (24 * b + Fs.length)) X = some ((), X1) ∧ PO (fun x : Pln × List Tk => x.2) X1 T fk (FmQ X1 b (E + 8) P Fs) (flG P Fs w (k, ts)) := by
  obtain ⟨X1, e1, e2, e3, e4⟩ := ri_eat2 (n := n) (c := 123) (s := 5) rfl (by decide) hR hn
  obtain ⟨X2, f1, f2, f3, f4⟩ := ri_eatW2 (n := n) wk_69 e2 hn
  have h2 := RP_arr (RP_arr h e3 e4) f3 f4
  obtain ⟨c1, c2, c3, _⟩ := RP_b h2
  have ka : KA X X2 b := KA_T (KA_arr e3) (KA_arr f3)
  unfold flG
  have f2 : RI X2 T fk (rb (sEat 5 ts) (sEat 18)) := f2
  show ∃ X1, _ ∧ PO _ X1 T fk _ (rb (sEat 5 ts) fun ts => rb (sEat 18 ts) fun ts => rb (sSrv k P.2.2.2.2.2.1 ts) fun d => rb (sEat 19 d.2.2) fun ts => offG (qP P d.2.1) Fs w k d.1 ts)
  rw [← rb_assoc]
  generalize rb (sEat 5 ts) (sEat 18) = rs at f2
  have hch : ∀ R, (if (X2.1 73) = (-1) then
      (g229 n (nI (24 * b + Fs.length)) X2).bind fun p6 =>
      gb226_191 n  l1 (nI (24 * b + Fs.length)) p6.1 p6.2
    else
      gb226_191 n  l1 (nI (24 * b + Fs.length)) 0 X2) = R → gb226_161 n l1 (nI (24 * b + Fs.length)) X = R := by
    intro R hh
    unfold gb226_161
    rw [e1]
    dsimp only [Option.bind_some]
    rw [f1]
    exact hh
  have hFF : ∀ e, RI X2 T fk (.inl e) → ∃ X1, gb226_161 n l1 (nI (24 * b + Fs.length)) X = some ((), X1) ∧ RI X1 T fk (.inl e) := by
    intro e q
    obtain ⟨X3, g1, g2⟩ := fl191F (n := n) (l1 := l1) (s0 := 0) (f := Fs.length) q c1 c2 c3 hm hn
    exact ⟨X3, hch _ (by rw [if_neg (ri_flt q)]; exact g1), g2⟩
  cases rs with
  | inl e => exact hFF e f2
  | inr ts2 =>
    rw [rb_inr]
    by_cases hb1 : (hd ts2).1 = 1
    · rw [sSrv_brk _ hb1]
      exact hFF _ (ri_brk f2 hb1).1
    · have hI2 := FI_kp hI (ka 0 (Fs.length + 1) 0 0 0 0 0)
      obtain ⟨v, X3, s1, s2⟩ := rp_srv (n := n) h2 (by omega) hI2.2.1 hm (RB_nv (e0 := 0) h hv (by omega)) f2 hb1 hn
      have e4' : X3.1 4 = nI b := ((w229 s1).1 4 rfl).trans c2
      have hL3 : LN X3 := LN_of c1 (w229 s1)
      unfold sSrv
      rw [rb_assoc]
      rcases po_el s2 (f := fun x => rb (rb (sEat 9 x.2.2) fun ts => .inr (x.1, x.2.1, ts)) fun d => rb (sEat 19 d.2.2) fun ts => offG (qP P d.2.1) Fs w k d.1 ts) (fun x hx => by rw [sEat_brk (by decide) _ hx]; rfl) with ⟨e, q1, q2⟩ | ⟨x, q1, q2, q3, q4, q5⟩
      · obtain ⟨X4, g1, g2⟩ := fl191F (n := n) (l1 := l1) (s0 := v) (f := Fs.length) q1 hL3 e4' c3 hm hn
        refine ⟨X4, hch _ ?_, ?_⟩
        · rw [if_pos (ri_hd f2 hb1).1, s1]
          exact g1
        · rw [q2]
          exact g2
      · rw [q5]
        obtain ⟨w1, w2, w3, w4, w5⟩ := q4
        obtain ⟨X4, g1, g2⟩ := fl191 (n := n) (l1 := l1) (P := qP P x.2.1) (s0 := v) (d := x.1) hE w1 hF hm (show nv + 1 ≤ P.2.1.length + P.2.2.2.1.length + P.2.2.2.2.1.length + 1 by omega) (FI_kp hI2 (KP_M (w5 0 (Fs.length + 1) 0 0 0) (cn_le (Nat.le_refl _) (Nat.le_refl _) (Nat.le_refl _) (Nat.le_refl _) (Nat.le_refl _) (Nat.zero_le _) (Nat.zero_le _)))) w2 q3 hn
        refine ⟨X4, hch _ ?_, ?_⟩
        · rw [if_pos (ri_hd f2 hb1).1, s1]
          exact g1
        · rw [rb_assoc]
          show PO _ X4 T fk _ (rb (sEat 9 x.2.2) fun ts => rb (sEat 19 ts) fun ts => offG (qP P x.2.1) Fs w k x.1 ts)
          rw [← rb_assoc]
          exact g2
end
end ZFM

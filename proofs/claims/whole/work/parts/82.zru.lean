/-! THE REFERENCE'S RULES -/
section ZRU
def rX (X : zX) (b r : Nat) (f l c fr to v : Int32) : zX := up (up (up (up (up (up (up X 29 (100 * b + r) f) 30 (100 * b + r) l) 31 (100 * b + r) c) 32 (100 * b + r) fr) 33 (100 * b + r) to) 34 (100 * b + r) v) 28 b (nI (r + 1))
def rP (P : Pln) (R : Rul) : Pln := (P.1, P.2.1, P.2.2.1, P.2.2.2.1 ++ [R], P.2.2.2.2)
section
variable {n : Nat} {X X1 X2 : zX} {b f c m nv nv' cb cb' nq nr E p : Nat} {T : List Int32} {fk : Int32} {ts : List Tk} {r : RR (List Tk)} {P : Pln} {D D1 : List Pd} {φ : Den} {k : Nat × List (List Int32)} {v l1 l2 l3 l4 l5 l6 l s0 : Int32} {w : List Int32} {s : Srv}
theorem ru242 (h : RI X T fk r) (hn : 6002 ≤ n) : ∃ X1, gb234_242 n l1 l2 l3 l4 l5 l6 X = some ((), X1) ∧ RI X1 T fk (rb r (sEat 9)) ∧ X1.2.2 = X.2.2 ∧ X1.1 4 = X.1 4 := by
  obtain ⟨X1, e1, e2, e3, e4⟩ := ri_eat2 (n := n) (c := 59) (s := 9) rfl (by decide) h hn
  exact ⟨X1, by unfold gb234_242; rw [e1]; rfl, e2, e3, e4⟩
theorem ru141F {e : Er} (h : RI X T fk (.inl e)) (hn : 6002 ≤ n) : ∃ X1, gb234_141 n l1 l2 l3 l4 l5 s0 X = some ((), X1) ∧ RI X1 T fk (.inl e) := by
  obtain ⟨X1, e1, e2, _⟩ := ru242 (n := n) (l1 := l1) (l2 := l2) (l3 := l3) (l4 := l4) (l5 := l5) (l6 := s0) h hn
  exact ⟨X1, by unfold gb234_141; rw [if_neg (ri_flt h)]; exact e1, e2⟩
theorem ru109F {e : Er} (h : RI X T fk (.inl e)) (hn : 6002 ≤ n) : ∃ X1, gb234_109 n l1 l2 l3 l4 l5 s0 X = some ((), X1) ∧ RI X1 T fk (.inl e) := by
  obtain ⟨X1, e1, e2⟩ := ru141F (n := n) (l1 := l1) (l2 := l2) (l3 := l3) (l4 := l4) (l5 := l5) (s0 := 0) h hn
  refine ⟨X1, ?_, e2⟩
  unfold gb234_109
  rw [ri_needF h]
  dsimp only [Option.bind_some]
  rw [ri_nextF h]
  dsimp only [Option.bind_some]
  rw [if_neg (ri_flt h)]
  exact e1
theorem ru92F {e : Er} (h : RI X T fk (.inl e)) (hn : 6002 ≤ n) : ∃ X1, gb234_92 n l1 l2 l3 l4 s0 X = some ((), X1) ∧ RI X1 T fk (.inl e) := by
  unfold gb234_92
  split
  · exact ru109F h hn
  · exact ru109F h hn
theorem ru64F {e : Er} (h : RI X T fk (.inl e)) (hL : LN X) (h4 : X.1 4 = nI b) (hb : b ≤ 1) (hn : 6002 ≤ n) : ∃ X1, gb234_64 n l1 l2 s0 X = some ((), X1) ∧ RI X1 T fk (.inl e) := by
  obtain ⟨X1, e1, e2⟩ := ru92F (n := n) (l1 := l1) (l2 := l2) (l3 := s0) (l4 := cv X 58 b) (s0 := 0) h hn
  refine ⟨X1, ?_, e2⟩
  unfold gb234_64
  refine rst (j := b) hL (by decide) (by show _ < 2; omega) (by omega) h4 ?_
  rw [if_neg (ri_flt h)]
  exact e1
theorem rX_KR {a c2 c3 c4 c5 c6 : Int32} : KP X (rX X b nr a c2 c3 c4 c5 c6) b (cn m f c nr E nv nq) := by
  refine KP_T (KP_T (KP_T (KP_T (KP_T (KP_T (KP_up (by decide) ?_) (KP_up (by decide) ?_)) (KP_up (by decide) ?_)) (KP_up (by decide) ?_)) (KP_up (by decide) ?_)) (KP_up (by decide) ?_)) (KP_up (by decide) ?_)
  · exact Or.inl (Nat.le_refl _)
  · exact Or.inl (Nat.le_refl _)
  · exact Or.inl (Nat.le_refl _)
  · exact Or.inl (Nat.le_refl _)
  · exact Or.inl (Nat.le_refl _)
  · exact Or.inl (Nat.le_refl _)
  · exact Or.inl (show 1 * b + 0 ≤ b by omega)
theorem rX_RI {a c2 c3 c4 c5 c6 : Int32} (h : RI X T fk r) : RI (rX X b nr a c2 c3 c4 c5 c6) T fk r := RI_up (RI_up (RI_up (RI_up (RI_up (RI_up (RI_up h (by decide)) (by decide)) (by decide)) (by decide)) (by decide)) (by decide)) (by decide)
theorem rX_fin {fr to : Nat} (h : RP X b P D nv cb) (hm : P.2.2.2.1.length < 100) (hf : f < 24) (hx : EX X b P.1.length cb P.2.2.2.2.2.2 D fr to c φ) (hs : SVR X b P.2.2.2.2.2.1.length nv v s) : RP (rX X b P.2.2.2.1.length (nI f) l (nI c) (nI fr) (nI to) v) b (rP P (f, l, φ, s)) D nv cb := by
  obtain ⟨c1, c2, c3, c4, ⟨cc, c5, c6⟩, c7, c8, c9⟩ := RP_b h
  have hk : KP X (rX X b P.2.2.2.1.length (nI f) l (nI c) (nI fr) (nI to) v) b (cnP P nv) := rX_KR
  have hrow : ∀ i, i < 28 ∨ 34 < i → (rX X b P.2.2.2.1.length (nI f) l (nI c) (nI fr) (nI to) v).2.2 i = X.2.2 i := fun i hi => by
    unfold rX
    rw [up_row (by omega), up_row (by omega), up_row (by omega), up_row (by omega), up_row (by omega), up_row (by omega), up_row (by omega)]
  have l1 : LN (up X 29 (100 * b + P.2.2.2.1.length) (nI f)) := LN_up c1
  have l2 : LN (up (up X 29 (100 * b + P.2.2.2.1.length) (nI f)) 30 (100 * b + P.2.2.2.1.length) l) := LN_up l1
  have hI : ∀ fm D0, Inv X b P.1.length fm cb [] D0 P.2.2.2.2.2.2 [] [] [] → Inv (rX X b P.2.2.2.1.length (nI f) l (nI c) (nI fr) (nI to) v) b P.1.length fm cb [] (D0 ++ []) P.2.2.2.2.2.2 [] [] [] := fun fm D0 hI => by
    rw [List.append_nil]
    exact Inv_tr hI (LN_up (LN_up (LN_up (LN_up (LN_up l2))))) rfl (fun i h1 h2 => hrow i (by omega)) hk.1 ⟨cc, by rw [cv_of (hrow 1 (by omega))]; exact c5, c6⟩ c8 (Nat.le_refl _)
  have hl : (P.2.2.2.1 ++ [(f, l, φ, s)]).length = P.2.2.2.1.length + 1 := by rw [List.length_append]; rfl
  have := RP_g (X1 := rX X b P.2.2.2.1.length (nI f) l (nI c) (nI fr) (nI to) v) (cb' := cb) (nv' := nv) (D' := []) (P' := rP P (f, l, φ, s)) h hk ⟨by rw [cv_of (hrow 4 (by omega))]; exact h.1.1, h.1.2.1, fun _ _ q => Or.inl q⟩ ⟨by rw [cv_of (hrow 9 (by omega))]; exact h.2.1.1, h.2.1.2.1, fun _ _ q => Or.inl q⟩ ⟨by rw [cv_of (hrow 25 (by omega))]; exact h.2.2.1.1, h.2.2.1.2.1, fun _ _ q => Or.inl q⟩ ⟨?_, ?_, ?_⟩ ⟨by rw [cv_of (hrow 35 (by omega))]; exact h.2.2.2.2.1.1, h.2.2.2.2.1.2.1, fun _ _ q => Or.inl q⟩ ⟨by rw [cv_of (hrow 39 (by omega))]; exact h.2.2.2.2.2.1, Nat.le_refl _⟩ ⟨SPS_kp h.2.2.2.2.2.2.1 hk (cv_of (hrow 42 (by omega))), Nat.le_refl _⟩ hI
  · rw [List.append_nil] at this
    exact this
  · show cv _ 28 b = nI (P.2.2.2.1 ++ [(f, l, φ, s)]).length
    rw [hl]
    unfold rX
    rw [cv_eq (LN_up (LN_up (LN_up (LN_up l2)))) (by decide) (by show _ < 2; omega)]
  · show (P.2.2.2.1 ++ [(f, l, φ, s)]).length ≤ 100
    omega
  · intro j y hj
    rcases get_app hj with hj | ⟨hz, hj⟩
    · exact Or.inl hj
    · right
      rw [hz, hj]
      refine ⟨?_, hf, ?_, ⟨c, fr, to, ?_, ?_, ?_, EX_g hx hI⟩, ?_⟩
      · unfold rX
        rw [cv_ne (Or.inl (by decide)), cv_ne (Or.inl (by decide)), cv_ne (Or.inl (by decide)), cv_ne (Or.inl (by decide)), cv_ne (Or.inl (by decide)), cv_ne (Or.inl (by decide)), cv_eq c1 (by decide) (by show _ < 200; omega)]
      · unfold rX
        rw [cv_ne (Or.inl (by decide)), cv_ne (Or.inl (by decide)), cv_ne (Or.inl (by decide)), cv_ne (Or.inl (by decide)), cv_ne (Or.inl (by decide)), cv_eq l1 (by decide) (by show _ < 200; omega)]
      · unfold rX
        rw [cv_ne (Or.inl (by decide)), cv_ne (Or.inl (by decide)), cv_ne (Or.inl (by decide)), cv_ne (Or.inl (by decide)), cv_eq l2 (by decide) (by show _ < 200; omega)]
      · unfold rX
        rw [cv_ne (Or.inl (by decide)), cv_ne (Or.inl (by decide)), cv_ne (Or.inl (by decide)), cv_eq (LN_up l2) (by decide) (by show _ < 200; omega)]
      · unfold rX
        rw [cv_ne (Or.inl (by decide)), cv_ne (Or.inl (by decide)), cv_eq (LN_up (LN_up l2)) (by decide) (by show _ < 200; omega)]
      · have e : cv (rX X b P.2.2.2.1.length (nI f) l (nI c) (nI fr) (nI to) v) 34 (100 * b + P.2.2.2.1.length) = v := by
          unfold rX
          rw [cv_ne (Or.inl (by decide)), cv_eq (LN_up (LN_up (LN_up l2))) (by decide) (by show _ < 200; omega)]
        rw [e]
        exact SVR_g hs hk (Nat.le_refl _) (Nat.le_refl _)
/-- what a rule leaves -/
def RuQ (X X1 : zX) (b nv E : Nat) (P : Pln) (x : Pln × List Tk) : Prop := (∃ D1, RP X1 b x.1 D1 (nv + 1) (E + 2 * x.1.2.2.2.2.2.1.length)) ∧ KR X X1 b P.2.2.2.1.length nv P.2.2.2.2.2.1.length ∧ x.1.1 = P.1 ∧ x.1.2.1 = P.2.1 ∧ x.1.2.2.1 = P.2.2.1 ∧ x.1.2.2.2.1.length = P.2.2.2.1.length + 1 ∧ x.1.2.2.2.2.1 = P.2.2.2.2.1 ∧ P.2.2.2.2.2.1.length ≤ x.1.2.2.2.2.2.1.length
theorem ru141 {fr to : Nat} {q : Nat} (h : RP X b P D nv cb) (hm : P.2.2.2.1.length < 100) (hf : f < 24) (hx : EX X b P.1.length cb P.2.2.2.2.2.2 D fr to c φ) (hs : SVR X b P.2.2.2.2.2.1.length nv v s) (h58 : cv X 58 b = nI to) (hR : RI X T fk (.inr ts)) (hb1 : (hd ts).1 ≠ 1) (hn : 6002 ≤ n) : ∃ X1, gb234_141 n l1 l (nI f) (nI fr) (nI c) v X = some ((), X1) ∧ RI X1 T fk (sEat 9 ts) ∧ RP X1 b (rP P (f, l, φ, s)) D nv cb ∧ KR X X1 b P.2.2.2.1.length nv' q := by
  obtain ⟨c1, c2, c3, c4, ⟨cc, c5, c6⟩, c7, c8, c9⟩ := RP_b h
  have hfin := rX_fin (l := l) h hm hf hx hs
  obtain ⟨X5, hX5⟩ : ∃ X5, X5 = rX X b P.2.2.2.1.length (nI f) l (nI c) (nI fr) (nI to) v := ⟨_, rfl⟩
  have hR5 : RI X5 T fk (.inr ts) := by rw [hX5]; exact rX_RI hR
  obtain ⟨X6, g1, g2, g3, g4⟩ := ru242 (n := n) (l1 := l1) (l2 := l) (l3 := nI f) (l4 := nI fr) (l5 := nI c) (l6 := v) hR5 hn
  refine ⟨X6, ?_, g2, RP_arr (by rw [hX5]; exact hfin) g3 g4, fun _ _ _ _ => KP_T (by rw [hX5]; exact rX_KR) (KP_arr g3)⟩
  have k1 : LN (up X 29 (100 * b + P.2.2.2.1.length) (nI f)) := LN_up c1
  have k2 : LN (up (up X 29 (100 * b + P.2.2.2.1.length) (nI f)) 30 (100 * b + P.2.2.2.1.length) l) := LN_up k1
  have k3 : LN (up (up (up X 29 (100 * b + P.2.2.2.1.length) (nI f)) 30 (100 * b + P.2.2.2.1.length) l) 31 (100 * b + P.2.2.2.1.length) (nI c)) := LN_up k2
  have k4 : LN (up (up (up (up X 29 (100 * b + P.2.2.2.1.length) (nI f)) 30 (100 * b + P.2.2.2.1.length) l) 31 (100 * b + P.2.2.2.1.length) (nI c)) 32 (100 * b + P.2.2.2.1.length) (nI fr)) := LN_up k3
  unfold gb234_141
  rw [if_pos (ri_hd hR hb1).1]
  refine rst (j := b) c1 (by decide) (by show _ < 2; omega) (by omega) c2 ?_
  rw [h.2.2.2.1.1]
  refine wst 100 P.2.2.2.1.length c1 c2 c3 (by decide) rfl (by decide) hm rfl (by decide) (i12a c2 rfl) ?_
  refine wst 100 P.2.2.2.1.length k1 c2 c3 (by decide) rfl (by decide) hm rfl (by decide) (i12a c2 rfl) ?_
  refine wst 100 P.2.2.2.1.length k2 c2 c3 (by decide) rfl (by decide) hm rfl (by decide) (i12a c2 rfl) ?_
  refine wst 100 P.2.2.2.1.length k3 c2 c3 (by decide) rfl (by decide) hm rfl (by decide) (i12a c2 rfl) ?_
  refine rst (j := b) k4 (by decide) (by show _ < 2; omega) (by omega) c2 ?_
  rw [cv_ne (Or.inl (by decide)), cv_ne (Or.inl (by decide)), cv_ne (Or.inl (by decide)), cv_ne (Or.inl (by decide)), h58]
  refine wst 100 P.2.2.2.1.length k4 c2 c3 (by decide) rfl (by decide) hm rfl (by decide) (i12a c2 rfl) ?_
  refine wst 100 P.2.2.2.1.length (LN_up k4) c2 c3 (by decide) rfl (by decide) hm rfl (by decide) (i12a c2 rfl) ?_
  refine rst (j := b) (LN_up (LN_up k4)) (by decide) (by show _ < 2; omega) (by omega) c2 ?_
  rw [cv_ne (Or.inl (by decide)), cv_ne (Or.inl (by decide)), cv_ne (Or.inl (by decide)), cv_ne (Or.inl (by decide)), cv_ne (Or.inl (by decide)), cv_ne (Or.inl (by decide)), h.2.2.2.1.1, nI_1]
  refine wst1 (LN_up (LN_up k4)) c2 c3 (by decide) rfl rfl c2 ?_
  rw [hX5] at g1
  exact g1
theorem KND_A (h : KND X b f k) (hk : KA X X1 b) : KND X1 b f k := KND_kp h (hk 0 (f + 1) 0 0 0 0 0) (by omega)
theorem ru64 (h : RP X b P D nv (E + 2 * P.2.2.2.2.2.1.length)) (hE : E ≤ 440) (hv : nv < 240) (hK : KND X b f k) (hf : f < 24) (hm : P.2.2.2.1.length < 100) (hR : RI X T fk (.inr ts)) (hn : 6002 ≤ n) : ∃ X1, gb234_64 n l1 l (nI f) X = some ((), X1) ∧ PO (fun x : Pln × List Tk => x.2) X1 T fk (RuQ X X1 b nv E P) (sRul P f l k ts) := by
  obtain ⟨d1, d2, d3, d4, _, _, _, d5⟩ := RP_b h
  unfold sRul
  by_cases hb1 : (hd ts).1 = 1
  · have h' := (ri_brk hR hb1).1
    obtain ⟨X1, f1, f2⟩ := ru64F (n := n) (l1 := l1) (l2 := l) (s0 := nI f) h' d1 d2 d3 hn
    refine ⟨X1, f1, ?_⟩
    rw [show sExp (P.1.map (·.1)) ts P.2.2.2.2.2.2 = .inl (1, (hd ts).2.1) from sExp_brk ts hb1]
    exact f2
  obtain ⟨u, X2, f1, f2⟩ := rp_exp h hR hn
  have hch : ∀ R, gb234_92 n l1 l (nI f) (nI D.length) u X2 = R → gb234_64 n l1 l (nI f) X = R := by
    intro R hh
    unfold gb234_64
    refine rst (j := b) d1 (by decide) (by show _ < 2; omega) (by omega) d2 ?_
    rw [if_pos (ri_hd hR hb1).1, d4, f1]
    exact hh
  rcases po_el f2 (f := fun x => rb (sEat 13 x.2.1) fun ts => rb (sSrv k P.2.2.2.2.2.1 ts) fun y => .inr ((P.1, P.2.1, P.2.2.1, P.2.2.2.1 ++ [(f, l, x.1, y.1)], P.2.2.2.2.1, y.2.1, x.2.2), y.2.2)) (fun x hx => by rw [sEat_brk (by decide) _ hx]; rfl) with ⟨e, q1, q2⟩ | ⟨x, q1, q2, q3, q4, q5⟩
  · obtain ⟨X3, g1, g2⟩ := ru92F (n := n) (l1 := l1) (l2 := l) (l3 := nI f) (l4 := nI D.length) (s0 := u) q1 hn
    refine ⟨X3, hch _ g1, ?_⟩
    rw [q2]
    exact g2
  rw [q5]
  obtain ⟨cc, D1, z1, z2, z3, z4, z5⟩ := q4
  obtain ⟨i1, i2, i3, i4, _⟩ := RP_b z2
  obtain ⟨a1, a2, a3, a4, a5, a6, a7⟩ := ri_hd q3 q2
  unfold sEat sTake
  by_cases h13 : (hd x.2.1).1 = 13
  · rw [if_pos h13]
    show ∃ X1, _ ∧ PO _ X1 T fk _ (rb (sSrv k P.2.2.2.2.2.1 (adv x.2.1)) fun y => .inr ((P.1, P.2.1, P.2.2.1, P.2.2.2.1 ++ [(f, l, x.1, y.1)], P.2.2.2.2.1, y.2.1, x.2.2), y.2.2))
    obtain ⟨X3, n1, n2⟩ := ri_next q3 hn
    have hch2 : ∀ R, (if (X3.1 73) = (-1) then
        (g229 n ((24 * (X3.1 4)) + nI f) X3).bind fun p6 =>
        gb234_141 n  l1 l (nI f) (nI D.length) u p6.1 p6.2
      else
        gb234_141 n  l1 l (nI f) (nI D.length) u 0 X3) = R → gb234_64 n l1 l (nI f) X = R := by
      intro R hh
      refine hch R ?_
      unfold gb234_92
      rw [if_pos (by rw [a4, h13]; decide)]
      unfold gb234_109
      rw [need_1]
      dsimp only [Option.bind_some]
      rw [n1]
      exact hh
    by_cases hb3 : (hd (adv x.2.1)).1 = 1
    · have h' := (ri_brk n2 hb3).1
      obtain ⟨X4, g1, g2⟩ := ru141F (n := n) (l1 := l1) (l2 := l) (l3 := nI f) (l4 := nI D.length) (l5 := u) (s0 := 0) h' hn
      refine ⟨X4, hch2 _ ?_, ?_⟩
      · rw [if_neg (ri_flt h')]
        exact g1
      · rw [sSrv_brk _ hb3]
        exact g2
    have z3' : RP X3 b (pP P x.2.2) (D ++ D1) nv (E + 2 * P.2.2.2.2.2.1.length) := RP_arr z2 (nx_arr n1) ((w190 n1).1 4 rfl)
    have ka3 : KA X X3 b := KA_T z5 (KA_arr (nx_arr n1))
    obtain ⟨o1, o2, o3, o4, _⟩ := RP_b z3'
    obtain ⟨v, X4, s1, s2⟩ := rp_srv (n := n) (P := pP P x.2.2) z3' hE (KND_A hK ka3) hf hv n2 hb3 hn
    have s2 : PO (fun x : Srv × List Spl × List Tk => x.2.2) X4 T fk (RsQ X3 X4 b nv E (pP P x.2.2) (D ++ D1) v) (sSrv0 k P.2.2.2.2.2.1 (adv x.2.1)) := s2
    unfold sSrv
    rw [rb_assoc]
    rcases po_el s2 (f := fun y => rb (rb (sEat 9 y.2.2) fun ts => .inr (y.1, y.2.1, ts)) fun y => .inr ((P.1, P.2.1, P.2.2.1, P.2.2.2.1 ++ [(f, l, x.1, y.1)], P.2.2.2.2.1, y.2.1, x.2.2), y.2.2)) (fun y hy => by rw [sEat_brk (by decide) _ hy]; rfl) with ⟨e, t1, t2⟩ | ⟨y, t1, t2, t3, t4, t5⟩
    · obtain ⟨X5, g1, g2⟩ := ru141F (n := n) (l1 := l1) (l2 := l) (l3 := nI f) (l4 := nI D.length) (l5 := u) (s0 := v) t1 hn
      refine ⟨X5, hch2 _ ?_, ?_⟩
      · rw [if_pos (ri_hd n2 hb3).1, i12a (a := 24) (k := 24) o2 rfl, s1]
        exact g1
      · rw [t2]
        exact g2
    · obtain ⟨w1, w2, w3, w4, w5⟩ := t4
      rw [t5]
      have hx4 : EX X4 b P.1.length (E + 2 * y.2.1.length) x.2.2 (D ++ D1) D.length (D.length + D1.length) cc x.1 := by
        have hex : EX X3 b P.1.length (E + 2 * P.2.2.2.2.2.1.length) x.2.2 (D ++ D1) D.length (D.length + D1.length) cc x.1 := by
          have := EX_g (X1 := X3) (m' := P.1.length) (cb' := E + 2 * P.2.2.2.2.2.1.length) (p' := x.2.2) (D' := []) z3 (fun fm D0 hI => by rw [List.append_nil]; exact Inv_tok hI (nx_arr n1) ((w190 n1).1 4 rfl))
          rw [List.append_nil] at this
          exact this
        obtain ⟨r1, _, _, _, r5, _, r7, _⟩ := RP_b w1
        have := EX_g (X1 := X4) (m' := P.1.length) (cb' := E + 2 * y.2.1.length) (p' := x.2.2) (D' := []) hex (fun fm D0 hI => by rw [List.append_nil]; exact Inv_tr hI r1 ((RP_b w1).2.1.trans o2.symm) (fun i h1 h2 => w4 i (by omega) (by omega)) (w5 0 0 0 0 0).1 r5 r7 (Nat.le_refl _))
        rw [List.append_nil] at this
        exact this
      have h58 : cv X4 58 b = nI (D.length + D1.length) := by
        rw [cv_of (w4 58 (by omega) (by omega)), cv_of (show X3.2.2 58 = X2.2.2 58 by rw [nx_arr n1])]
        exact z4
      obtain ⟨X5, g1, g2, g3, g4⟩ := ru141 (n := n) (P := qP (pP P x.2.2) y.2.1) (l1 := l1) (l := l) (nv' := nv) (q := P.2.2.2.2.2.1.length) w1 hm hf hx4 w2 h58 t3 t2 hn
      refine ⟨X5, hch2 _ ?_, ?_⟩
      · rw [if_pos (ri_hd n2 hb3).1, i12a (a := 24) (k := 24) o2 rfl, s1, z1]
        exact g1
      · generalize sEat 9 y.2.2 = rs at g2
        cases rs with
        | inl e => exact g2
        | inr ts6 =>
          refine PO_inr (tl := fun x : Pln × List Tk => x.2) (x := ((P.1, P.2.1, P.2.2.1, P.2.2.2.1 ++ [(f, l, x.1, y.1)], P.2.2.2.2.1, y.2.1, x.2.2), ts6)) g2 ⟨⟨D ++ D1, g3⟩, KR_T (KS_R (KS_T (KA_S ka3) w5)) g4, rfl, rfl, rfl, ?_, rfl, w3⟩
          show (P.2.2.2.1 ++ [(f, l, x.1, y.1)]).length = _
          rw [List.length_append]
          rfl
  · rw [if_neg h13]
    obtain ⟨X3, m1, m2⟩ := ri_need (n := n) (b := false) q3 q2
    rw [if_neg (by decide)] at m2
    obtain ⟨X4, g1, g2⟩ := ru141F (n := n) (l1 := l1) (l2 := l) (l3 := nI f) (l4 := nI D.length) (l5 := u) (s0 := 0) m2 hn
    refine ⟨X4, hch _ ?_, g2⟩
    unfold gb234_92
    rw [if_neg (by rw [a4]; exact kd_arr h13)]
    unfold gb234_109
    rw [show (0 : Int32) = b2 false from rfl, m1]
    dsimp only [Option.bind_some]
    rw [ri_nextF m2]
    dsimp only [Option.bind_some]
    rw [if_neg (ri_flt m2)]
    exact g1
end
end ZRU

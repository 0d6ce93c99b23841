/-! THE REFERENCE'S FLAGS: the head of a flag -/
section ZFN
section
variable {n : Nat} {X X1 X2 : zX} {b f c m nv nv' cb cb' nq nr E p l e0 : Nat} {T : List Int32} {fk : Int32} {ts : List Tk} {r : RR (List Tk)} {P : Pln} {D D1 : List Pd} {φ : Den} {k : Nat × List (List Int32)} {v l1 l2 l3 l4 l5 l6 s0 : Int32} {w : List Int32} {s d : Srv} {o : Int32} {Fs : List Flg} {F : Flg} {ns : List (Tk × Tk)}
theorem fl131F {e : Er} (h : RI X T fk (.inl e)) (hL : LN X) (h4 : X.1 4 = nI b) (hb : b ≤ 1) (hf : f < 24) (hn : 6002 ≤ n) : ∃ X1, gb226_131 n l1 (nI (24 * b + f)) s0 X = some ((), X1) ∧ RI X1 T fk (.inl e) := by
  obtain ⟨X3, g1, g2⟩ := fl161F (n := n) (l1 := l1) (f := f) h hL h4 hb hf hn
  refine ⟨X3, ?_, g2⟩
  unfold gb226_131
  rw [ri_needF h]
  dsimp only [Option.bind_some]
  rw [ri_nextF h]
  dsimp only [Option.bind_some]
  rw [if_neg (ri_flt h)]
  exact g1
theorem sKind_17 (h : (hd ts).1 = 17) : sKind ts = rb (rb (sEat 7 (adv ts)) fun ts => rb (chB 8 [] ts) chE) fun y => .inr ((2, y.1), y.2) := by
  unfold sKind
  have e17 : sEat 17 ts = .inr (adv ts) := by
    unfold sEat sTake
    rw [if_pos h]
    rfl
  rw [if_neg (by omega), if_neg (by omega), e17, rb_inr]
  unfold chB chE
  simp only [rb_assoc, rb_inr]
  rfl
theorem sKind_brk : Brk sKind := by
  intro ts h
  unfold sKind
  rw [if_neg (by omega), if_neg (by omega), sEat_brk (by decide) _ h]
  rfl
theorem flG_brk {y : (Nat × List (List Int32)) × List Tk} (h : (hd y.2).1 = 1) : flG P Fs w y = .inl (1, (hd y.2).2.1) := by
  unfold flG
  rw [sEat_brk (by decide) _ h]
  rfl
theorem ChK_KP {ns nl nr ni nv nq : Nat} (h : ChK X X1 b f) : KP X X1 b (cn ns f nl nr ni nv nq) := by
  refine ⟨h.2.2.1, fun i j h1 h2 => ?_⟩
  by_cases q1 : i < 5
  · unfold cn at h2
    rw [if_pos q1] at h2
    omega
  · by_cases q2 : i = 12
    · subst q2
      have h2 : j < 24 * b + f := h2
      exact h.2.2.2.2.1 j (by omega)
    · by_cases q3 : i = 13
      · subst q3
        have h2 : j < 192 * b + 8 * f := h2
        exact h.2.2.2.2.2 j (by omega)
      · exact cv_of (h.2.2.2.1 i (by omega) q2 q3)
theorem RP_ch (h : RP X b P D nv cb) (hK : ChK X X1 b P.2.1.length) (hc : ∃ c, cv X1 1 b = nI c ∧ c ≤ cb' + 2 * P.2.2.2.2.2.2) (h6 : cb' ≤ 640) : RP X1 b P D nv cb' :=
  RP_keep h (ChK_KP hK) (fun i hi => cv_of (hK.2.2.2.1 i (by omega) (by omega) (by omega))) (fun i _ _ => hK.2.2.2.1 i (by omega) (by omega) (by omega)) hK.1 hK.2.1 hc h6
theorem fl131 (hE : E ≤ 423) (h : RP X b P D nv (E + 1 + 2 * P.2.2.2.2.2.1.length)) (hF : P.2.1 = Fs) (hm : Fs.length < 24) (hv : nv ≤ P.2.1.length + P.2.2.2.1.length + P.2.2.2.2.1.length) (h10 : SW X b (cv X 10 (24 * b + Fs.length)) w) (h11 : cv X 11 (24 * b + Fs.length) = match [15, 16, 17].findIdx? (fun s => s == (hd ts).1) with | some i => nI i | none => -1) (h12 : cv X 12 (24 * b + Fs.length) = 0) (h16 : cv X 16 (24 * b + Fs.length) = 0) (hR : RI X T fk (.inr ts)) (hb1 : (hd ts).1 ≠ 1) (hn : 6002 ≤ n) : ∃ X1, gb226_131 n l1 (nI (24 * b + Fs.length)) (if cv X 11 (24 * b + Fs.length) = -1 then 0 else 1) X = some ((), X1) ∧ PO (fun x : Pln × List Tk => x.2) X1 T fk (FmQ X1 b (E + 17) P Fs) (rb (sKind ts) (flG P Fs w)) := by
  obtain ⟨c1, c2, c3, _, ⟨c, c5, c6⟩, c7, c8, _⟩ := RP_b h
  have h100 := h.2.2.2.2.2.2.1.2.1
  obtain ⟨X1, n1, n2⟩ := ri_next hR hn
  have h1 := RP_arr h (nx_arr n1) ((w190 n1).1 4 rfl)
  obtain ⟨d1, d2, d3, _⟩ := RP_b h1
  have ka : KA X X1 b := KA_arr (nx_arr n1)
  have e1 : ∀ i j, cv X1 i j = cv X i j := fun i j => cv_of (by rw [nx_arr n1])
  -- the good start
  have hch : ∀ i : Nat, i ≤ 2 → cv X 11 (24 * b + Fs.length) = nI i → ∀ R, (if (X1.1 73) = (-1) then
      if nI i = 2 then
        (g227 n (nI (24 * b + Fs.length)) X1).bind fun p10 =>
        gb226_161 n  l1 (nI (24 * b + Fs.length)) p10.2
      else
        gb226_161 n  l1 (nI (24 * b + Fs.length)) X1
    else
      gb226_161 n  l1 (nI (24 * b + Fs.length)) X1) = R → gb226_131 n l1 (nI (24 * b + Fs.length)) (if cv X 11 (24 * b + Fs.length) = -1 then 0 else 1) X = R := by
    intro i hi h11 R hh
    unfold gb226_131
    rw [h11, if_neg (nI_m1 (by omega)), need_1]
    dsimp only [Option.bind_some]
    rw [n1]
    dsimp only [Option.bind_some]
    rw [rd_cv d1 (by decide) (by show _ < 48; omega) (by omega), e1, h11]
    exact hh
  have hflt : ∀ i : Nat, i ≤ 2 → cv X 11 (24 * b + Fs.length) = nI i → ∀ e, RI X1 T fk (.inl e) → ∃ X2, gb226_131 n l1 (nI (24 * b + Fs.length)) (if cv X 11 (24 * b + Fs.length) = -1 then 0 else 1) X = some ((), X2) ∧ RI X2 T fk (.inl e) := by
    intro i hi h11 e q
    obtain ⟨X3, g1, g2⟩ := fl161F (n := n) (l1 := l1) (f := Fs.length) q d1 d2 d3 hm hn
    exact ⟨X3, hch i hi h11 _ (by rw [if_neg (ri_flt q)]; exact g1), g2⟩
  have simple : ∀ i : Nat, i ≤ 1 → cv X 11 (24 * b + Fs.length) = nI i → sKind ts = .inr ((i, []), adv ts) → ∃ X1, gb226_131 n l1 (nI (24 * b + Fs.length)) (if cv X 11 (24 * b + Fs.length) = -1 then 0 else 1) X = some ((), X1) ∧ PO (fun x : Pln × List Tk => x.2) X1 T fk (FmQ X1 b (E + 17) P Fs) (rb (sKind ts) (flG P Fs w)) := by
    intro i hi h11 hs
    rw [hs, rb_inr]
    by_cases hb2 : (hd (adv ts)).1 = 1
    · rw [flG_brk (y := ((i, []), adv ts)) hb2]
      exact hflt i (by omega) h11 _ (ri_brk n2 hb2).1
    · have hI1 : FI X1 b Fs.length w (i, []) := ⟨by rw [e1]; exact SW_kp h10 (ka 0 0 0 0 0 0 0).1, ⟨by rw [e1]; exact h11, by show i ≤ 2; omega, by rw [e1]; exact h12, by show 0 ≤ 8; omega, fun j y hj => (by cases hj)⟩, by rw [e1]; exact h16⟩
      obtain ⟨X2, f1, f2⟩ := fl161 (n := n) (l1 := l1) (E := E + 9) (by omega) (RP_mono h1 (by omega) (by omega)) hF hm hv hI1 n2 hn
      refine ⟨X2, hch i (by omega) h11 _ ?_, f2⟩
      rw [if_pos (ri_hd n2 hb2).1, if_neg (nI100 (z := 2) (q := 2) rfl (by omega) (by omega) (by omega))]
      exact f1
  by_cases h15 : (hd ts).1 = 15
  · rw [h15] at h11
    refine simple 0 (by omega) h11 ?_
    unfold sKind
    rw [if_pos h15]
  by_cases h16' : (hd ts).1 = 16
  · rw [h16'] at h11
    refine simple 1 (by omega) h11 ?_
    unfold sKind
    rw [if_neg h15, if_pos h16']
  by_cases h17 : (hd ts).1 = 17
  · rw [h17] at h11
    have h11 : cv X 11 (24 * b + Fs.length) = nI 2 := h11
    rw [sKind_17 h17]
    by_cases hb2 : (hd (adv ts)).1 = 1
    · rw [sEat_brk (by decide) _ hb2]
      exact hflt 2 (by omega) h11 _ (ri_brk n2 hb2).1
    · obtain ⟨X2, f1, f2, f3, f4⟩ := ri_eat2 (n := n) (c := 40) (s := 7) rfl (by decide) n2 hn
      have h2 := RP_arr h1 f3 f4
      obtain ⟨i1, i2, i3, _⟩ := RP_b h2
      have ka2 : KA X X2 b := KA_T ka (KA_arr f3)
      have e2 : ∀ i j, cv X2 i j = cv X i j := fun i j => (cv_of (by rw [f3])).trans (e1 i j)
      have hch2 : ∀ R, ((gf227_8 n n (nI (24 * b + Fs.length)) 1 X2).bind fun p10 => gb226_161 n  l1 (nI (24 * b + Fs.length)) p10.2) = R → gb226_131 n l1 (nI (24 * b + Fs.length)) (if cv X 11 (24 * b + Fs.length) = -1 then 0 else 1) X = R := by
        intro R hh
        refine hch 2 (by omega) h11 R ?_
        rw [if_pos (ri_hd n2 hb2).1, if_pos (show nI 2 = 2 from rfl)]
        unfold g227
        rw [f1]
        exact hh
      have f2 : RI X2 T fk (sEat 7 (adv ts)) := f2
      generalize sEat 7 (adv ts) = rs at f2
      cases rs with
      | inl e =>
        obtain ⟨X3, g1, g2⟩ := clF (n := n) (fu := n) (l1 := nI (24 * b + Fs.length)) (l2 := 1) f2 (by omega) hn
        have hg : g227 n (nI (24 * b + Fs.length)) X1 = some ((), X3) := by
          unfold g227
          rw [f1]
          exact g1
        obtain ⟨X4, s1, s2⟩ := fl161F (n := n) (l1 := l1) (f := Fs.length) g2 (LN_of d1 (w227 hg)) (((w227 hg).1 4 rfl).trans d2) d3 hm hn
        refine ⟨X4, hch2 _ ?_, s2⟩
        rw [g1]
        exact s1
      | inr ts2 =>
        rw [rb_inr]
        obtain ⟨X3, g1, g2⟩ := lp227 (T := T) (fk := fk) (b := b) (f := Fs.length) i3 hm hn 8 n [] ts2 c (X := X2) (by show 8 + 0 = 8; omega) (by omega) i1 i2 ⟨by rw [e2]; exact h12, fun j y hj => (by cases hj)⟩ (by rw [e2]; exact c5) (by omega) f2
        have hg : g227 n (nI (24 * b + Fs.length)) X1 = some ((), X3) := by
          unfold g227
          rw [f1]
          exact g1
        rw [rb_assoc]
        show ∃ X1, _ ∧ PO _ X1 T fk _ (rb (rb (chB 8 [] ts2) chE) fun y => flG P Fs w ((2, y.1), y.2))
        rcases po_el g2 (f := fun y : List (List Int32) × List Tk => flG P Fs w ((2, y.1), y.2)) (fun y hy => flG_brk (y := ((2, y.1), y.2)) hy) with ⟨e, q1, q2⟩ | ⟨x, q1, q2, q3, q4, q5⟩
        · obtain ⟨X4, s1, s2⟩ := fl161F (n := n) (l1 := l1) (f := Fs.length) q1 (LN_of d1 (w227 hg)) (((w227 hg).1 4 rfl).trans d2) d3 hm hn
          refine ⟨X4, hch2 _ ?_, ?_⟩
          · rw [g1]
            exact s1
          · rw [q2]
            exact s2
        · rw [q5]
          obtain ⟨y1, y2, ⟨c', y3, y4⟩, y5⟩ := q4
          have y4 : c' + 0 ≤ c + x.1.length := y4
          have h3 : RP X3 b P D nv (E + 9 + 2 * P.2.2.2.2.2.1.length) := RP_ch h2 (by rw [hF]; exact y5) ⟨c', y3, by omega⟩ (by omega)
          have e3 : ∀ i j, 3 < i → i ≠ 12 → i ≠ 13 → cv X3 i j = cv X i j := fun i j q1 q2 q3 => (cv_of (y5.2.2.2.1 i q1 q2 q3)).trans (e2 i j)
          have hI3 : FI X3 b Fs.length w (2, x.1) := ⟨by rw [e3 10 _ (by omega) (by omega) (by omega)]; exact SW_kp h10 (SKa_tr (ka2 0 0 0 0 0 0 0).1 y5.2.2.1), ⟨by rw [e3 11 _ (by omega) (by omega) (by omega)]; exact h11, by show 2 ≤ 2; omega, y1.1, y2, y1.2⟩, by rw [e3 16 _ (by omega) (by omega) (by omega)]; exact h16⟩
          obtain ⟨X4, s1, s2⟩ := fl161 (n := n) (l1 := l1) (E := E + 9) (by omega) h3 hF hm hv hI3 q3 hn
          refine ⟨X4, hch2 _ ?_, s2⟩
          rw [g1]
          exact s1
  · have h11 : cv X 11 (24 * b + Fs.length) = -1 := by
      rw [h11]
      have : [15, 16, 17].findIdx? (fun s => s == (hd ts).1) = none := fidx_no (by
        intro s hs
        simp at hs
        omega)
      rw [this]
    obtain ⟨X2, m1, m2⟩ := ri_need (n := n) (b := false) hR hb1
    rw [if_neg (by decide)] at m2
    have hw := w200 m1
    obtain ⟨X3, g1, g2⟩ := fl161F (n := n) (l1 := l1) (f := Fs.length) m2 (LN_of c1 hw) ((hw.1 4 rfl).trans c2) c3 hm hn
    refine ⟨X3, ?_, ?_⟩
    · rw [h11, if_pos rfl]
      unfold gb226_131
      rw [show (0 : Int32) = b2 false from rfl, m1]
      dsimp only [Option.bind_some]
      rw [ri_nextF m2]
      dsimp only [Option.bind_some]
      rw [if_neg (ri_flt m2)]
      exact g1
    · unfold sKind sEat sTake
      rw [if_neg h15, if_neg h16', if_neg h17]
      exact g2
theorem fl19 (h : RP X b P D nv (E + 2 * P.2.2.2.2.2.1.length)) (hE : E < 440) (hv : nv ≤ P.2.1.length + P.2.2.2.1.length + P.2.2.2.2.1.length) (hm : (∃ e, r = .inl e) ∨ P.2.1.length < 24 ∧ E ≤ 423) (hR : RI X T fk r) (hn : 6002 ≤ n) : ∃ X1, gb226_19 n X = some ((), X1) ∧ PO (fun x : Pln × List Tk => x.2) X1 T fk (FmQ X1 b (E + 17) P P.2.1) (rb r fun ts => flY P (adv ts)) := by
  obtain ⟨X1, n1, n2⟩ := ri_nextR hR hn
  have h1 := RP_arr h (nx_arr n1) ((w190 n1).1 4 rfl)
  obtain ⟨d1, d2, d3, _⟩ := RP_b h1
  have hfl := h.2.1.2.1
  have h100 := h.2.2.2.2.2.2.1.2.1
  obtain ⟨v, X2, e1, e2⟩ := rp_new (n := n) (i := 10) (base := 24 * b) (names := P.2.1.map (·.1)) h1 (by omega) (by decide) (by decide) (by rw [List.length_map]; exact ⟨by show _ ≤ 48; omega, by decide⟩) (RP_nmF h1) n2 hn
  have hch : ∀ R, ((g208 n 58 X2).bind fun p9 =>
      if (p9.2.1 73) = (-1) then
        (rd (p9.2.2.2 9) (p9.2.1 4)).bind fun x13 =>
        zgd (bkO (p9.2.1 4) 10 ((24 * (p9.2.1 4)) + x13)) <|
        (wr p9.2 10 ((24 * (p9.2.1 4)) + x13) v).bind fun X16 =>
        (g199 n 67 X16).bind fun p20 =>
        zgd (bkO (p20.2.1 4) 11 ((24 * (p9.2.1 4)) + x13)) <|
        (wr p20.2 11 ((24 * (p9.2.1 4)) + x13) p20.1).bind fun X22 =>
        zgd (bkO (X22.1 4) 12 ((24 * (p9.2.1 4)) + x13)) <|
        (wr X22 12 ((24 * (p9.2.1 4)) + x13) 0).bind fun X26 =>
        zgd (bkO (X26.1 4) 16 ((24 * (p9.2.1 4)) + x13)) <|
        (wr X26 16 ((24 * (p9.2.1 4)) + x13) 0).bind fun X30 =>
        (rd (X30.2.2 11) ((24 * (p9.2.1 4)) + x13)).bind fun x34 =>
        if x34 = (-1) then
          gb226_131 n  v ((24 * (p9.2.1 4)) + x13) 0 X30
        else
          gb226_131 n  v ((24 * (p9.2.1 4)) + x13) 1 X30
      else
        some ((), p9.2)) = R → gb226_19 n X = R := by
    intro R hh
    unfold gb226_19
    rw [n1]
    dsimp only [Option.bind_some]
    refine rst (j := b) d1 (by decide) (by show _ < 2; omega) (by omega) d2 ?_
    rw [show cv X1 9 b = nI P.2.1.length from h1.2.1.1, i12 (a := 24) (k := 24) d2 rfl]
    rw [List.length_map] at e1
    rw [e1]
    exact hh
  rw [rb_adv]
  unfold flY
  rw [← rb_assoc]
  rcases e2 with ⟨e, x1, x2, x3, x4⟩ | ⟨x, x1, x2, x3, x4, x5, x6⟩
  · rw [x1]
    obtain ⟨X3, f1, f2, f3, f4⟩ := ri_eat2 (n := n) (c := 58) (s := 11) rfl (by decide) x2 hn
    have f2 : RI X3 T fk (.inl e) := f2
    refine ⟨X3, hch _ ?_, f2⟩
    rw [f1]
    dsimp only [Option.bind_some]
    rw [if_neg (ri_flt f2)]
  · rw [x1, rb_inr]
    have hm2 : P.2.1.length < 24 ∧ E ≤ 423 := by
      rcases hm with ⟨e, he⟩ | hm
      · rw [he] at x1
        cases x1
      · exact hm
    obtain ⟨X3, f1, f2, f3, f4⟩ := ri_eat2 (n := n) (c := 58) (s := 11) rfl (by decide) x2 hn
    rw [show E + 2 * P.2.2.2.2.2.1.length + 1 = (E + 1) + 2 * P.2.2.2.2.2.1.length by omega] at x3
    have h3 := RP_arr x3 f3 f4
    obtain ⟨c1, c2, c3, _⟩ := RP_b h3
    have ka3 : KA X2 X3 b := KA_arr f3
    have f2 : RI X3 T fk (sEat 11 x.2) := f2
    generalize sEat 11 x.2 = rs at f2
    have hF : ∀ e, RI X3 T fk (.inl e) → ∃ X1, gb226_19 n X = some ((), X1) ∧ RI X1 T fk (.inl e) := by
      intro e q
      refine ⟨X3, hch _ ?_, q⟩
      rw [f1]
      dsimp only [Option.bind_some]
      rw [if_neg (ri_flt q)]
    cases rs with
    | inl e => exact hF e f2
    | inr ts3 =>
      rw [rb_inr]
      by_cases hb1 : (hd ts3).1 = 1
      · rw [sKind_brk _ hb1]
        exact hF _ (ri_brk f2 hb1).1
      · obtain ⟨u, hu⟩ : ∃ u : Int32, u = match [15, 16, 17].findIdx? (fun s => s == (hd ts3).1) with | some i => nI i | none => -1 := ⟨_, rfl⟩
        have hR4 : RI (up X3 10 (24 * b + P.2.1.length) v) T fk (.inr ts3) := RI_up f2 (by decide)
        have ham : g199 n 67 (up X3 10 (24 * b + P.2.1.length) v) = some (u, up X3 10 (24 * b + P.2.1.length) v) := by rw [hu]; exact amg_tok wk_67 hR4 hb1 hn
        obtain ⟨Y, hY⟩ : ∃ Y, Y = up (up (up (up X3 10 (24 * b + P.2.1.length) v) 11 (24 * b + P.2.1.length) u) 12 (24 * b + P.2.1.length) 0) 16 (24 * b + P.2.1.length) 0 := ⟨_, rfl⟩
        have hRP : RP Y b P D nv (E + 1 + 2 * P.2.2.2.2.2.1.length) := by rw [hY]; exact RP_fu (RP_fu (RP_fu (RP_fu h3 rfl (by omega)) rfl (by omega)) rfl (by omega)) rfl (by omega)
        have hRY : RI Y T fk (.inr ts3) := by rw [hY]; exact RI_up (RI_up (RI_up hR4 (by decide)) (by decide)) (by decide)
        have k1 : LN (up X3 10 (24 * b + P.2.1.length) v) := LN_up c1
        have k2 : LN (up (up X3 10 (24 * b + P.2.1.length) v) 11 (24 * b + P.2.1.length) u) := LN_up k1
        have k3 : LN (up (up (up X3 10 (24 * b + P.2.1.length) v) 11 (24 * b + P.2.1.length) u) 12 (24 * b + P.2.1.length) 0) := LN_up k2
        have hsk : SKa b X3 Y := by rw [hY]; exact SKa_tr (SKa_up2 (by decide) (by decide)) (SKa_up2 (by decide) (by decide))
        have y10 : cv Y 10 (24 * b + P.2.1.length) = v := by rw [hY, cv_ne (Or.inl (by decide)), cv_ne (Or.inl (by decide)), cv_ne (Or.inl (by decide)), cv_eq c1 (by decide) (by show _ < 48; omega)]
        have y11 : cv Y 11 (24 * b + P.2.1.length) = u := by rw [hY, cv_ne (Or.inl (by decide)), cv_ne (Or.inl (by decide)), cv_eq k1 (by decide) (by show _ < 48; omega)]
        have y12 : cv Y 12 (24 * b + P.2.1.length) = 0 := by rw [hY, cv_ne (Or.inl (by decide)), cv_eq k2 (by decide) (by show _ < 48; omega)]
        have y16 : cv Y 16 (24 * b + P.2.1.length) = 0 := by rw [hY, cv_eq k3 (by decide) (by show _ < 48; omega)]
        obtain ⟨X5, g1, g2⟩ := fl131 (n := n) (l1 := v) (w := x.1.2.2.1) (E := E) hm2.2 hRP rfl hm2.1 hv (by rw [y10]; exact SW_kp x4 (SKa_tr (ka3 0 0 0 0 0 0 0).1 hsk)) (by rw [y11]; exact hu) y12 y16 hRY hb1 hn
        refine ⟨X5, hch _ ?_, g2⟩
        rw [f1]
        dsimp only [Option.bind_some]
        rw [if_pos (ri_hd f2 hb1).1]
        refine rst (j := b) c1 (by decide) (by show _ < 2; omega) (by omega) c2 ?_
        rw [show cv X3 9 b = nI P.2.1.length from h3.2.1.1]
        refine wst 24 P.2.1.length c1 c2 c3 (by decide) rfl (by decide) hm2.1 rfl (by decide) (i12a c2 rfl) ?_
        rw [ham]
        dsimp only [Option.bind_some]
        refine wst 24 P.2.1.length k1 c2 c3 (by decide) rfl (by decide) hm2.1 rfl (by decide) (i12a c2 rfl) ?_
        refine wst 24 P.2.1.length k2 c2 c3 (by decide) rfl (by decide) hm2.1 rfl (by decide) (i12a c2 rfl) ?_
        refine wst 24 P.2.1.length k3 c2 c3 (by decide) rfl (by decide) hm2.1 rfl (by decide) (i12a c2 rfl) ?_
        rw [← hY, i12a (a := 24) (k := 24) c2 rfl]
        refine rst (j := 24 * b + P.2.1.length) (by rw [hY]; exact LN_up k3) (by decide) (by show _ < 48; omega) (by omega) rfl ?_
        by_cases hq : cv Y 11 (24 * b + P.2.1.length) = -1
        · rw [if_pos hq]
          rw [if_pos hq] at g1
          exact g1
        · rw [if_neg hq]
          rw [if_neg hq] at g1
          exact g1
theorem flg_ok (h : RB X b P E 0) (hE : E < 440) (hE2 : P.2.1.length < 24 → E ≤ 423) (hR : RI X T fk (.inr ts)) (hb1 : (hd ts).1 ≠ 1) (hn : 6002 ≤ n) : ∃ X1, g226 n X = some ((), X1) ∧ PO (fun x : Pln × List Tk => x.2) X1 T fk (FmQ X1 b (E + 17) P P.2.1) (sFlg P ts) := by
  obtain ⟨D, nv, h, hv⟩ := h
  obtain ⟨d1, d2, d3, d4, _⟩ := RP_b h
  rw [sFlg_eq]
  unfold g226 sFirst
  rw [show rd (X.2.2 9) (X.1 4) = some (nI P.2.1.length) by rw [d2, rd_cv d1 (by decide) (by show _ < 2; omega) (by omega), h.2.1.1]]
  dsimp only [Option.bind_some]
  have h12 := h.2.1.2.1
  by_cases hm : P.2.1.length = 24
  · rw [if_pos (by rw [hm]; rfl), if_pos (by omega)]
    obtain ⟨X1, x1, x2⟩ := ri_bad (n := n) (k := 5) hR hb1
    rw [x1]
    dsimp only [Option.bind_some]
    exact fl19 (r := .inl (sErr 5 (hd ts))) (RP_fr h (w195 x1) ((w195 x1).1 4 rfl)) hE hv (Or.inl ⟨_, rfl⟩) x2 hn
  · rw [if_neg (nI100 (z := 24) (q := 24) rfl (by omega) (by omega) hm), if_neg (by omega)]
    exact fl19 (r := .inr ts) h hE hv (Or.inr ⟨by omega, hE2 (by omega)⟩) hR hn
end
end ZFN

/-! THE REFERENCE'S CHOICES -/
section ZCH
def ChK (X X1 : zX) (b f : Nat) : Prop := LN X1 ∧ X1.1 4 = X.1 4 ∧ SKa b X X1 ∧ (∀ i, 3 < i → i ≠ 12 → i ≠ 13 → X1.2.2 i = X.2.2 i) ∧ (∀ j, j ≠ 24 * b + f → cv X1 12 j = cv X 12 j) ∧ ∀ j, j < 8 * (24 * b + f) ∨ 8 * (24 * b + f) + 8 ≤ j → cv X1 13 j = cv X 13 j
def CHc (X : zX) (b f : Nat) (cs : List (List Int32)) : Prop := cv X 12 (24 * b + f) = nI cs.length ∧ NML X b 13 (8 * (24 * b + f)) cs
def chB (j : Nat) (cs : List (List Int32)) (ts : List Tk) : RR (List (List Int32) × List Tk) := rb (sNew cs ts) fun x => if 8 ≤ cs.length then .inl (sErr 5 x.1) else sChoL 8 j (cs ++ [x.1.2.2.1]) x.2
def chE (y : List (List Int32) × List Tk) : RR (List (List Int32) × List Tk) := rb (sEat 8 y.2) fun ts => .inr (y.1, ts)
section
variable {n : Nat} {X X1 X2 : zX} {b f c : Nat} {T : List Int32} {fk : Int32} {ts : List Tk} {cs : List (List Int32)} {l1 l2 : Int32}
theorem ChK_R (hL : LN X) : ChK X X b f := ⟨hL, rfl, fun _ _ a c => ⟨a, c⟩, fun _ _ _ _ => rfl, fun _ _ => rfl, fun _ _ => rfl⟩
theorem ChK_T (h1 : ChK X X1 b f) (h2 : ChK X1 X2 b f) : ChK X X2 b f := ⟨h2.1, h2.2.1.trans h1.2.1, SKa_tr h1.2.2.1 h2.2.2.1, fun i a c d => (h2.2.2.2.1 i a c d).trans (h1.2.2.2.1 i a c d), fun j a => (h2.2.2.2.2.1 j a).trans (h1.2.2.2.2.1 j a), fun j a => (h2.2.2.2.2.2 j a).trans (h1.2.2.2.2.2 j a)⟩
theorem ChK_arr (hL : LN X1) (h4 : X1.1 4 = X.1 4) (e : X1.2.2 = X.2.2) : ChK X X1 b f := ⟨hL, h4, SKa_of (by rw [e]) (by rw [e]) (by rw [e]), fun _ _ _ _ => by rw [e], fun _ _ => cv_of (by rw [e]), fun _ _ => cv_of (by rw [e])⟩
theorem ChK_nx (hL : LN X) (e : g190 n X = some ((), X1)) : ChK X X1 b f := ChK_arr (LN_of hL (w190 e)) ((w190 e).1 4 rfl) (nx_arr e)
theorem wst13 {α : Type} {F : zX → Option α} {R : Option α} {J v : Int32} {j : Nat} (hL : LN X) (h4 : X.1 4 = nI b) (hb : b ≤ 1) (hf : f < 24) (hj : j < 8) (hJ : J = nI (8 * (24 * b + f) + j)) (nx : F (up X 13 (8 * (24 * b + f) + j) v) = R) : (zgd (bkO (X.1 4) 13 J) ((wr X 13 J v).bind F)) = R := by
  have e : 192 * b + (8 * f + j) = 8 * (24 * b + f) + j := by omega
  exact wst 192 (8 * f + j) hL h4 hb (by decide) rfl (by decide) (by omega) rfl (by decide) (by rw [hJ, e]) (by rw [e]; exact nx)
theorem sChoL_s {j : Nat} : sChoL 8 (j + 1) cs ts = if (hd ts).1 = 10 then chB j cs (adv ts) else .inr (cs, ts) := rfl
theorem chE_brk {y : List (List Int32) × List Tk} (h : (hd y.2).1 = 1) : chE y = .inl (1, (hd y.2).2.1) := by
  unfold chE
  rw [sEat_brk (by decide) _ h]
  rfl
theorem ch171 {r : RR (List Tk)} (h : RI X T fk r) (hn : 6002 ≤ n) : ∃ X1, gb227_171 n l1 l2 X = some ((), X1) ∧ RI X1 T fk (rb r (sEat 8)) ∧ g208 n 41 X = some ((), X1) := by
  obtain ⟨X1, e1, e2⟩ := ri_eat (n := n) (c := 41) (s := 8) rfl (by decide) h hn
  exact ⟨X1, by unfold gb227_171; rw [e1]; rfl, e2, e1⟩
theorem clF {fu : Nat} {e : Er} (h : RI X T fk (.inl e)) (hf : 0 < fu) (hn : 6002 ≤ n) : ∃ X1, gf227_8 n fu l1 l2 X = some ((), X1) ∧ RI X1 T fk (.inl e) := by
  obtain ⟨fu, rfl⟩ : ∃ m, fu = m + 1 := ⟨fu - 1, by omega⟩
  obtain ⟨X1, e1, e2, _⟩ := ch171 (n := n) (l1 := l1) (l2 := l2) h hn
  refine ⟨X1, ?_, e2⟩
  show gb227_8 n (gf227_8 n fu) l1 l2 X = _
  unfold gb227_8
  split
  · exact e1
  · rw [if_neg (ri_flt h)]
    exact e1
theorem ch133F {fu : Nat} {e : Er} (h : RI X T fk (.inl e)) (hf : 0 < fu) (hn : 6002 ≤ n) : ∃ X1, gb227_133 n (gf227_8 n fu) l1 l2 X = some ((), X1) ∧ RI X1 T fk (.inl e) := by
  obtain ⟨X1, e1, e2⟩ := clF (n := n) (l1 := l1) (l2 := 0) h hf hn
  refine ⟨X1, ?_, e2⟩
  unfold gb227_133 gb227_158 gb227_159
  rw [ri_nextF h]
  dsimp only [Option.bind_some]
  rw [if_neg (ri_flt h), if_pos rfl]
  exact e1
theorem ch71F {fu : Nat} {e : Er} (h : RI X T fk (.inl e)) (hf : 0 < fu) (hn : 6002 ≤ n) : ∃ X1, gb227_71 n (gf227_8 n fu) l1 l2 X = some ((), X1) ∧ RI X1 T fk (.inl e) := by
  obtain ⟨X1, e1, e2⟩ := ch133F (n := n) (l1 := l1) (l2 := l2) h hf hn
  refine ⟨X1, ?_, e2⟩
  unfold gb227_71 gb227_95
  rw [if_neg (ri_flt h), if_neg (ri_flt h)]
  exact e1
theorem ch95F {fu : Nat} {e : Er} (h : RI X T fk (.inl e)) (hf : 0 < fu) (hn : 6002 ≤ n) : ∃ X1, gb227_95 n (gf227_8 n fu) l1 l2 X = some ((), X1) ∧ RI X1 T fk (.inl e) := by
  obtain ⟨X1, e1, e2⟩ := ch133F (n := n) (l1 := l1) (l2 := l2) h hf hn
  refine ⟨X1, ?_, e2⟩
  unfold gb227_95
  rw [if_neg (ri_flt h)]
  exact e1
theorem CHc_add {w : List Int32} {v : Int32} (hL : LN X) (hb : b ≤ 1) (hf : f < 24) (h : NML X b 13 (8 * (24 * b + f)) cs) (h8 : cs.length < 8) (hw : SW X b v w) : CHc (up (up X 13 (8 * (24 * b + f) + cs.length) v) 12 (24 * b + f) (nI (cs.length + 1))) b f (cs ++ [w]) := by
  have hs : SKa b X (up (up X 13 (8 * (24 * b + f) + cs.length) v) 12 (24 * b + f) (nI (cs.length + 1))) := SKa_up2 (by decide) (by decide)
  refine ⟨?_, fun i y hy => ?_⟩
  · rw [cv_eq (LN_up hL) (by decide) (by show _ < 48; omega), List.length_append]
    rfl
  · rw [cv_ne (Or.inl (by decide))]
    rcases get_app hy with hy | ⟨hz, hy⟩
    · have hi := lt_of_get hy
      rw [cv_ne (by omega)]
      exact SW_kp (h i y hy) hs
    · rw [hz, hy, cv_eq hL (by decide) (by show _ < 384; omega)]
      exact SW_kp hw hs
theorem ChK_u {i j : Nat} {v : Int32} (hL : LN X) (h : i = 12 ∧ j = 24 * b + f ∨ i = 13 ∧ 8 * (24 * b + f) ≤ j ∧ j < 8 * (24 * b + f) + 8) : ChK X (up X i j v) b f :=
  ⟨LN_up hL, rfl, SKa_up (by omega) (by omega) (by omega), fun i' h1 h2 h3 => up_row (by omega), fun j' hj => cv_ne (by omega), fun j' hj => cv_ne (by omega)⟩
theorem CHc_of (h : CHc X b f cs) (hs : SKa b X X1) (h12 : X1.2.2 12 = X.2.2 12) (h13 : X1.2.2 13 = X.2.2 13) : CHc X1 b f cs := ⟨by rw [cv_of h12]; exact h.1, NML_kp h.2 hs (fun k _ => cv_of h13)⟩
/-- what is left behind the choices -/
def ChQ (X X1 : zX) (b f c : Nat) (k0 : Nat) (x : List (List Int32) × List Tk) : Prop := CHc X1 b f x.1 ∧ x.1.length ≤ 8 ∧ (∃ c1, cv X1 1 b = nI c1 ∧ c1 + k0 ≤ c + x.1.length) ∧ ChK X X1 b f
theorem lp227 (hb : b ≤ 1) (hf : f < 24) (hn : 6002 ≤ n) : ∀ (j fu : Nat) (cs : List (List Int32)) (ts : List Tk) (c : Nat) {X : zX}, j + cs.length = 8 → j + 2 < fu → LN X → X.1 4 = nI b → CHc X b f cs → cv X 1 b = nI c → c + j < 1500 → RI X T fk (.inr ts) → ∃ X1, gf227_8 n fu (nI (24 * b + f)) 1 X = some ((), X1) ∧ PO (fun x : List (List Int32) × List Tk => x.2) X1 T fk (ChQ X X1 b f c cs.length) (rb (chB j cs ts) chE)
  | _, 0, cs, ts, c, X, _, h, _, _, _, _, _, _ => by omega
  | j, fu + 1, cs, ts, c, X, hj, hfu, hL, h4, hC, hc, hc2, hR => by
    show ∃ X1, gb227_8 n (gf227_8 n fu) (nI (24 * b + f)) 1 X = some ((), X1) ∧ _
    unfold gb227_8
    rw [if_neg (show ¬ (1 : Int32) = 0 by decide)]
    by_cases hb1 : (hd ts).1 = 1
    · have h' := (ri_brk hR hb1).1
      obtain ⟨X1, e1, e2, _⟩ := ch171 (n := n) (l1 := nI (24 * b + f)) (l2 := 1) h' hn
      rw [if_neg (ri_flt h')]
      refine ⟨X1, e1, ?_⟩
      unfold chB
      rw [sNew_brk ts hb1]
      exact e2
    · obtain ⟨a1, a2, a3, a4, a5, a6, a7⟩ := ri_hd hR hb1
      rw [if_pos a1, name_tok hR hb1 hn]
      dsimp only [Option.bind_some]
      unfold chB sNew sTake
      by_cases h2 : (hd ts).1 = 2
      · rw [show ((hd ts).1 == 2) = true by simpa using h2, need_t, if_pos h2]
        dsimp only [Option.bind_some]
        have hk : kdO (hd ts).1 = 1 := by rw [h2]; rfl
        obtain ⟨e1, e2, e3, e4⟩ := ri_word hR hb1 hk
        rw [if_pos a1, rd_cv (j := 24 * b + f) hL (by decide) (by show _ < 48; omega) (by omega), hC.1]
        dsimp only [Option.bind_some]
        rw [show (8 : Int32) * nI (24 * b + f) = nI (8 * (24 * b + f)) from by rw [show (8 : Int32) = nI 8 from rfl, nI_mul], a3, a6 (Or.inl hk), fnd_ok (NML_NMS hC.2 hL hb (by decide) (by show _ ≤ 384; omega)) (by decide) (by omega) (by omega) hR.1 e3 hn, ← e2]
        dsimp only [Option.bind_some]
        show ∃ X1, _ ∧ PO _ X1 T fk _ (rb (rb (if (fnd cs (hd ts).2.2.1).isSome = true then .inl (sErr 3 (hd ts)) else .inr (hd ts, adv ts)) fun x => if 8 ≤ cs.length then .inl (sErr 5 x.1) else sChoL 8 j (cs ++ [x.1.2.2.1]) x.2) chE)
        cases hfn : fnd cs (hd ts).2.2.1 with
        | some i =>
          have hi : i < cs.length := by
            unfold fnd at hfn
            exact (List.findIdx?_eq_some_iff_getElem.mp hfn).1
          dsimp only
          rw [if_neg (nI_m1 (by omega)), if_pos (show (some i).isSome = true from rfl)]
          obtain ⟨X1, x1, x2⟩ := ri_bad (n := n) (k := 3) hR hb1
          rw [x1]
          dsimp only [Option.bind_some]
          obtain ⟨X2, y1, y2⟩ := ch71F (n := n) (fu := fu) (l1 := nI (24 * b + f)) (l2 := 1) x2 (by omega) hn
          exact ⟨X2, y1, y2⟩
        | none =>
          dsimp only
          rw [if_pos rfl, if_neg (by decide)]
          unfold gb227_71
          rw [if_pos a1, rd_cv (j := 24 * b + f) hL (by decide) (by show _ < 48; omega) (by omega), hC.1]
          dsimp only [Option.bind_some]
          show ∃ X1, _ ∧ PO _ X1 T fk _ (rb (if 8 ≤ cs.length then .inl (sErr 5 (hd ts)) else sChoL 8 j (cs ++ [(hd ts).2.2.1]) (adv ts)) chE)
          by_cases h8 : cs.length = 8
          · rw [if_pos (by rw [h8]; rfl), if_pos (by omega)]
            obtain ⟨X1, x1, x2⟩ := ri_bad (n := n) (k := 5) hR hb1
            rw [x1]
            dsimp only [Option.bind_some]
            obtain ⟨X2, y1, y2⟩ := ch95F (n := n) (fu := fu) (l1 := nI (24 * b + f)) (l2 := 1) x2 (by omega) hn
            exact ⟨X2, y1, y2⟩
          · rw [if_neg (show ¬ nI cs.length = 8 by rw [show (8 : Int32) = nI 8 from rfl, nI_eq (by omega) (by omega)]; exact h8), if_neg (by omega)]
            obtain ⟨X1, x1, x2, x3, x4, x5, x6, x7, x8⟩ := slot2 (n := n) hR (Or.inl ⟨hb1, hk⟩) hL h4 hb hc (by omega) hn
            have h41 : X1.1 4 = nI b := by rw [x7]; exact h4
            have hC1 : CHc X1 b f cs := CHc_of hC x4 (x8 12 (by decide) (by decide) (by decide)) (x8 13 (by decide) (by decide) (by decide))
            have hk1 : ChK X X1 b f := ⟨x6, by rw [x7], x4, fun i q1 q2 q3 => x8 i (by omega) (by omega) (by omega), fun _ _ => cv_of (x8 12 (by decide) (by decide) (by decide)), fun _ _ => cv_of (x8 13 (by decide) (by decide) (by decide))⟩
            obtain ⟨X2, hX2⟩ : ∃ X2, X2 = up (up X1 13 (8 * (24 * b + f) + cs.length) (nI (1500 * b + c))) 12 (24 * b + f) (nI (cs.length + 1)) := ⟨_, rfl⟩
            have hk2 : ChK X1 X2 b f := by rw [hX2]; exact ChK_T (ChK_u x6 (Or.inr ⟨rfl, by omega, by omega⟩)) (ChK_u (LN_up x6) (Or.inl ⟨rfl, rfl⟩))
            have hC2 : CHc X2 b f (cs ++ [(hd ts).2.2.1]) := by rw [hX2]; exact CHc_add x6 hb hf hC1.2 (by omega) x3
            have hR2 : RI X2 T fk (.inr ts) := by rw [hX2]; exact RI_up (RI_up x2 (by decide)) (by decide)
            have hc2' : cv X2 1 b = nI (c + 1) := by rw [hX2, cv_ne (Or.inl (by decide)), cv_ne (Or.inl (by decide))]; exact x5
            have hch : gb227_95 n (gf227_8 n fu) (nI (24 * b + f)) 1 X = gb227_133 n (gf227_8 n fu) (nI (24 * b + f)) 1 X2 := by
              unfold gb227_95
              rw [if_pos a1]
              refine rst (j := 24 * b + f) hL (by decide) (by show _ < 48; omega) (by omega) rfl ?_
              rw [hC.1, x1]
              refine wst13 x6 h41 hb hf (by omega) i8 ?_
              refine rst (j := 24 * b + f) (LN_up x6) (by decide) (by show _ < 48; omega) (by omega) rfl ?_
              rw [cv_ne (Or.inl (by decide)), hC1.1, nI_1]
              refine wst 24 f (LN_up x6) h41 hb (by decide) rfl (by decide) hf rfl (by decide) rfl ?_
              rw [← hX2]
            rw [hch]
            unfold gb227_133
            obtain ⟨X3, n1, n2⟩ := ri_next hR2 hn
            rw [n1]
            dsimp only [Option.bind_some]
            have hk3 : ChK X2 X3 b f := ChK_nx hk2.1 n1
            have hC3 : CHc X3 b f (cs ++ [(hd ts).2.2.1]) := CHc_of hC2 hk3.2.2.1 (by rw [nx_arr n1]) (by rw [nx_arr n1])
            have hkk := ChK_T (ChK_T hk1 hk2) hk3
            have hc3 : cv X3 1 b = nI (c + 1) := by rw [cv_of (show X3.2.2 1 = X2.2.2 1 by rw [nx_arr n1])]; exact hc2'
            have hl : (cs ++ [(hd ts).2.2.1]).length = cs.length + 1 := by rw [List.length_append]; rfl
            obtain ⟨j, rfl⟩ : ∃ i, j = i + 1 := ⟨j - 1, by omega⟩
            rw [sChoL_s]
            by_cases hb2 : (hd (adv ts)).1 = 1
            · have h' := (ri_brk n2 hb2).1
              rw [if_neg (ri_flt h'), if_neg (by omega)]
              unfold gb227_158 gb227_159
              rw [if_pos rfl]
              obtain ⟨X4, m1, m2⟩ := clF (n := n) (fu := fu) (l1 := nI (24 * b + f)) (l2 := 0) h' (by omega) hn
              refine ⟨X4, m1, ?_⟩
              show PO _ X4 T fk _ (chE (cs ++ [(hd ts).2.2.1], adv ts))
              rw [chE_brk hb2]
              exact m2
            · rw [if_pos (ri_hd n2 hb2).1, is_tok (s := 10) rfl (by decide) n2 hb2]
              dsimp only [Option.bind_some]
              by_cases h10 : (hd (adv ts)).1 = 10
              · rw [show ((hd (adv ts)).1 == 10) = true by simpa using h10, if_neg (by decide), if_pos h10]
                unfold gb227_159
                rw [if_neg (by decide)]
                obtain ⟨X4, m1, m2⟩ := ri_next n2 hn
                rw [m1]
                dsimp only [Option.bind_some]
                have hk4 : ChK X3 X4 b f := ChK_nx hk3.1 m1
                obtain ⟨X5, g1, g2⟩ := lp227 hb hf hn j fu (cs ++ [(hd ts).2.2.1]) (adv (adv ts)) (c + 1) (X := X4) (by rw [hl]; omega) (by omega) hk4.1 (hk4.2.1.trans (hkk.2.1.trans h4)) (CHc_of hC3 hk4.2.2.1 (by rw [nx_arr m1]) (by rw [nx_arr m1])) (by rw [cv_of (show X4.2.2 1 = X3.2.2 1 by rw [nx_arr m1])]; exact hc3) (by omega) m2
                refine ⟨X5, g1, PO_imp g2 (fun x _ h => ⟨h.1, h.2.1, ?_, ChK_T (ChK_T hkk hk4) h.2.2.2⟩)⟩
                obtain ⟨c1, s1, s2⟩ := h.2.2.1
                exact ⟨c1, s1, by rw [hl] at s2; omega⟩
              · rw [show ((hd (adv ts)).1 == 10) = false by simpa using h10, if_pos b2_f, if_neg h10]
                unfold gb227_158 gb227_159
                rw [if_pos rfl]
                obtain ⟨fu, rfl⟩ : ∃ m, fu = m + 1 := ⟨fu - 1, by omega⟩
                show ∃ X1, gb227_8 n (gf227_8 n fu) (nI (24 * b + f)) 0 X3 = some ((), X1) ∧ _
                unfold gb227_8
                rw [if_pos rfl]
                obtain ⟨X4, m1, m2, m3⟩ := ch171 (n := n) (l1 := nI (24 * b + f)) (l2 := 0) n2 hn
                have hw := w208 m3
                have e5 : X4.2.2 = X3.2.2 := funext fun i => hw.2.2.1 i (by simp)
                have hk4 : ChK X3 X4 b f := ChK_arr (LN_of hk3.1 hw) (hw.1 4 rfl) e5
                refine ⟨X4, m1, ?_⟩
                show PO _ X4 T fk _ (chE (cs ++ [(hd ts).2.2.1], adv ts))
                unfold chE
                have m2 : RI X4 T fk (sEat 8 (adv ts)) := m2
                generalize sEat 8 (adv ts) = rr at m2
                cases rr with
                | inl e => exact m2
                | inr ts5 =>
                  refine PO_inr (tl := fun x : List (List Int32) × List Tk => x.2) (x := (cs ++ [(hd ts).2.2.1], ts5)) m2 ⟨CHc_of hC3 hk4.2.2.1 (by rw [e5]) (by rw [e5]), by show (cs ++ [(hd ts).2.2.1]).length ≤ 8; rw [hl]; omega, ⟨c + 1, by rw [cv_of (show X4.2.2 1 = X3.2.2 1 by rw [e5])]; exact hc3, by show _ ≤ c + (cs ++ [(hd ts).2.2.1]).length; rw [hl]; omega⟩, ChK_T hkk hk4⟩
      · rw [show ((hd ts).1 == 2) = false by simpa using h2, if_neg h2]
        obtain ⟨X1, x1, x2⟩ := ri_need (n := n) (b := false) hR hb1
        rw [x1]
        dsimp only [Option.bind_some]
        rw [if_neg (by decide)] at x2
        rw [if_neg (ri_flt x2)]
        obtain ⟨X2, y1, y2⟩ := ch71F (n := n) (fu := fu) (l1 := nI (24 * b + f)) (l2 := 1) x2 (by omega) hn
        exact ⟨X2, y1, y2⟩
end
end ZCH

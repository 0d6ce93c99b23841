/-! THE REFERENCE'S TEXT -/
section ZTX
def EP (P : Pln) : Nat := P.1.length + 17 * P.2.1.length + P.2.2.1.length
/-- the plan in bank b -/
def RT (X : zX) (b : Nat) (P : Pln) : Prop := RB X b P (EP P) 0
def pl0 : Pln := ([], [], [], [], [], [], 0)
section
variable {n : Nat} {X X1 X2 : zX} {b : Nat} {T : List Int32} {fk : Int32} {ts : List Tk} {r : RR (List Tk)} {P : Pln}
theorem lp119F {fu : Nat} {e : Er} (h : RI X T fk (.inl e)) (hf : 0 < fu) : gf189_119 n fu X = gb189_195 n X := by
  obtain ⟨fu, rfl⟩ : ∃ m, fu = m + 1 := ⟨fu - 1, by omega⟩
  show gb189_119 n (gf189_119 n fu) X = _
  unfold gb189_119
  rw [if_neg (ri_flt h)]
def sItem1 (P : Pln) (ts : List Tk) : RR (Pln × List Tk) := if (hd ts).1 = 25 then sSeg P ts else if (hd ts).1 = 14 then sFlg P ts else if (hd ts).1 = 22 then sLay P ts else .inl (sErr 2 (hd ts))
theorem sItem1_brk : Brk (sItem1 P) := by
  intro ts h
  unfold sItem1
  rw [if_neg (by omega), if_neg (by omega), if_neg (by omega), sErr_brk h]
theorem sTxtL_s {j : Nat} : sTxtL (j + 1) P ts = if (hd ts).1 = 0 then .inr (P, ts) else rb (sItem1 P ts) fun x => sTxtL j x.1 x.2 := rfl
theorem sTxtL_brk {j : Nat} {x : Pln × List Tk} (h : (hd x.2).1 = 1) : sTxtL (j + 1) x.1 x.2 = .inl (1, (hd x.2).2.1) := by
  rw [sTxtL_s, if_neg (by omega), sItem1_brk _ h]
  rfl
theorem rb_inr_el {α β : Type} {r : RR α} {f : α → RR β} {y : β} (h : rb r f = .inr y) : ∃ a, r = .inr a ∧ f a = .inr y := by
  cases r with
  | inl e => cases h
  | inr a => exact ⟨a, rfl, h⟩
theorem sSeg_len {x : Pln × List Tk} (h : sSeg P ts = .inr x) : x.1.1.length = P.1.length + 1 ∧ x.1.2.1 = P.2.1 ∧ x.1.2.2.1 = P.2.2.1 ∧ x.1.2.2.2.1 = P.2.2.2.1 ∧ x.1.2.2.2.2.1 = P.2.2.2.2.1 ∧ x.1.2.2.2.2.2.1 = P.2.2.2.2.2.1 := by
  unfold sSeg at h
  obtain ⟨_, _, h⟩ := rb_inr_el h
  obtain ⟨w, _, h⟩ := rb_inr_el h
  obtain ⟨_, _, h⟩ := rb_inr_el h
  obtain ⟨y, _, h⟩ := rb_inr_el h
  obtain ⟨_, _, h⟩ := rb_inr_el h
  have h := Sum.inr.inj h
  subst h
  refine ⟨?_, rfl, rfl, rfl, rfl, rfl⟩
  show (P.1 ++ [_]).length = _
  rw [List.length_append]
  rfl
def TxQ (X1 : zX) (b : Nat) (x : Pln × List Tk) : Prop := RT X1 b x.1
theorem lp119 (hn : 6002 ≤ n) : ∀ (j fu : Nat) (P : Pln) (ts : List Tk) {X : zX}, 47 ≤ P.1.length + P.2.1.length + P.2.2.1.length + j → 47 ≤ P.1.length + P.2.1.length + P.2.2.1.length + fu → RT X b P → RI X T fk (.inr ts) → ∃ X1, gf189_119 n fu X = gb189_195 n X1 ∧ PO (fun x : Pln × List Tk => x.2) X1 T fk (TxQ X1 b) (sTxtL j P ts)
  | 0, fu, P, ts, X, hj, hfu, h, hR => by
    exfalso
    obtain ⟨D, nv, h, hv⟩ := h
    have h1 := h.1.2.1
    have h2 := h.2.1.2.1
    have h3 := h.2.2.1.2.1
    omega
  | j + 1, 0, P, ts, X, hj, hfu, h, hR => by
    exfalso
    obtain ⟨D, nv, h, hv⟩ := h
    have h1 := h.1.2.1
    have h2 := h.2.1.2.1
    have h3 := h.2.2.1.2.1
    omega
  | j + 1, fu + 1, P, ts, X, hj, hfu, h, hR => by
    by_cases hb1 : (hd ts).1 = 1
    · have h' := (ri_brk hR hb1).1
      refine ⟨X, lp119F h' (by omega), ?_⟩
      rw [sTxtL_brk (x := (P, ts)) hb1]
      exact h'
    have hRB := h
    obtain ⟨D, nv, h, hv⟩ := h
    have q1 := h.1.2.1
    have q2 := h.2.1.2.1
    have q3 := h.2.2.1.2.1
    have q100 := h.2.2.2.2.2.2.1.2.1
    have hEP : EP P = P.1.length + 17 * P.2.1.length + P.2.2.1.length := rfl
    obtain ⟨a1, a2, a3, a4, a5, a6, a7⟩ := ri_hd hR hb1
    rw [sTxtL_s]
    show ∃ X1, gb189_119 n (gf189_119 n fu) X = gb189_195 n X1 ∧ _
    unfold gb189_119
    rw [if_pos a1]
    by_cases h0 : (hd ts).1 = 0
    · rw [if_pos (by rw [a4, h0]; rfl), if_pos h0]
      exact ⟨X, rfl, PO_inr (tl := fun x : Pln × List Tk => x.2) (x := (P, ts)) hR hRB⟩
    rw [if_neg (by rw [a4]; exact kd_end h0), if_neg h0, amg_tok wk_53 hR hb1 hn]
    dsimp only [Option.bind_some]
    obtain ⟨j, rfl⟩ : ∃ i, j = i + 1 := ⟨j - 1, by omega⟩
    -- after an item
    have cont : ∀ (X1 : zX) (rr : RR (Pln × List Tk)) (Q : Pln × List Tk → Prop), PO (fun x : Pln × List Tk => x.2) X1 T fk Q rr → (∀ x, Q x → RT X1 b x.1 ∧ x.1.1.length + x.1.2.1.length + x.1.2.2.1.length = P.1.length + P.2.1.length + P.2.2.1.length + 1) → ∃ X2, gf189_119 n fu X1 = gb189_195 n X2 ∧ PO (fun x : Pln × List Tk => x.2) X2 T fk (TxQ X2 b) (rb rr fun x => sTxtL (j + 1) x.1 x.2) := by
      intro X1 rr Q hP hQ
      rcases po_el hP (f := fun x => sTxtL (j + 1) x.1 x.2) (fun x hx => sTxtL_brk hx) with ⟨e, y1, y2⟩ | ⟨x, y1, y2, y3, y4, y5⟩
      · rw [y2]
        exact ⟨X1, lp119F y1 (by omega), y1⟩
      · rw [y5]
        obtain ⟨z1, z2⟩ := hQ x y4
        exact lp119 hn (j + 1) fu x.1 x.2 (X := X1) (by omega) (by omega) z1 y3
    unfold sItem1
    by_cases h25 : (hd ts).1 = 25
    · rw [h25, if_pos (show 25 = 25 from rfl)]
      show ∃ X1, (if (nI 0 : Int32) = -1 then gb189_154 n (gf189_119 n fu) (nI 0) 0 X else gb189_154 n (gf189_119 n fu) (nI 0) 1 X) = gb189_195 n X1 ∧ _
      rw [if_neg (by decide)]
      unfold gb189_154 gb189_192
      rw [need_1]
      dsimp only [Option.bind_some]
      rw [if_pos a1, if_pos (show nI 0 = 0 from rfl)]
      obtain ⟨X1, f1, f2⟩ := seg_ok (n := n) h (by omega) hR hb1 hn
      rw [f1]
      refine cont X1 _ _ (PO_imp f2 (fun x hr hx => (⟨hx, sSeg_len hr⟩ : (∃ D1, RP X1 b x.1 (D ++ D1) nv (EP P + 2 * P.2.2.2.2.2.1.length + 1)) ∧ (x.1.1.length = P.1.length + 1 ∧ x.1.2.1 = P.2.1 ∧ x.1.2.2.1 = P.2.2.1 ∧ x.1.2.2.2.1 = P.2.2.2.1 ∧ x.1.2.2.2.2.1 = P.2.2.2.2.1 ∧ x.1.2.2.2.2.2.1 = P.2.2.2.2.2.1)))) ?_
      rintro x ⟨⟨D1, z1⟩, z2, z3, z4, z5, z6, z7⟩
      refine ⟨⟨D ++ D1, nv, ?_, ?_⟩, ?_⟩
      · rw [show EP x.1 + 2 * x.1.2.2.2.2.2.1.length = EP P + 2 * P.2.2.2.2.2.1.length + 1 by unfold EP; rw [z2, z3, z4, z7]; omega]
        exact z1
      · rw [z3, z5, z6]; exact hv
      · rw [z2, z3, z4]; omega
    by_cases h14 : (hd ts).1 = 14
    · rw [h14, if_neg (show ¬ 14 = 25 by decide), if_pos (show 14 = 14 from rfl)]
      show ∃ X1, (if (nI 1 : Int32) = -1 then gb189_154 n (gf189_119 n fu) (nI 1) 0 X else gb189_154 n (gf189_119 n fu) (nI 1) 1 X) = gb189_195 n X1 ∧ _
      rw [if_neg (by decide)]
      unfold gb189_154 gb189_192
      rw [need_1]
      dsimp only [Option.bind_some]
      rw [if_pos a1, if_neg (show ¬ nI 1 = 0 by decide), if_pos (show nI 1 = 1 from rfl)]
      obtain ⟨X1, f1, f2⟩ := flg_ok (n := n) hRB (by omega) (fun q => by omega) hR hb1 hn
      rw [f1]
      refine cont X1 _ _ f2 ?_
      rintro x ⟨z1, z2, z3, z4⟩
      refine ⟨?_, by rw [z2, z3, z4]; omega⟩
      show RB X1 b x.1 (EP x.1) 0
      rw [show EP x.1 = EP P + 17 by unfold EP; rw [z2, z3, z4]; omega]
      exact z1
    by_cases h22 : (hd ts).1 = 22
    · rw [h22, if_neg (show ¬ 22 = 25 by decide), if_neg (show ¬ 22 = 14 by decide), if_pos (show 22 = 22 from rfl)]
      show ∃ X1, (if (nI 2 : Int32) = -1 then gb189_154 n (gf189_119 n fu) (nI 2) 0 X else gb189_154 n (gf189_119 n fu) (nI 2) 1 X) = gb189_195 n X1 ∧ _
      rw [if_neg (by decide)]
      unfold gb189_154 gb189_192
      rw [need_1]
      dsimp only [Option.bind_some]
      rw [if_pos a1, if_neg (show ¬ nI 2 = 0 by decide), if_neg (show ¬ nI 2 = 1 by decide)]
      obtain ⟨X1, f1, f2⟩ := lay_ok (n := n) hRB (by omega) hR hb1 hn
      rw [f1]
      refine cont X1 _ _ f2 ?_
      rintro x ⟨z1, z2, z3, z4⟩
      refine ⟨?_, by rw [z2, z3, z4]; omega⟩
      show RB X1 b x.1 (EP x.1) 0
      rw [show EP x.1 = EP P + 1 by unfold EP; rw [z2, z3, z4]; omega]
      exact z1
    · rw [if_neg h25, if_neg h14, if_neg h22]
      have : [25, 14, 22].findIdx? (fun s => s == (hd ts).1) = none := fidx_no (by
        intro s hs
        simp at hs
        omega)
      rw [this]
      dsimp only
      rw [if_pos rfl]
      obtain ⟨X1, x1, x2⟩ := ri_need (n := n) (b := false) hR hb1
      rw [if_neg (by decide)] at x2
      unfold gb189_154 gb189_192
      rw [show (0 : Int32) = b2 false from rfl, x1]
      dsimp only [Option.bind_some]
      rw [if_neg (ri_flt x2), lp119F x2 (by omega)]
      exact ⟨X1, rfl, x2⟩
end
end ZTX

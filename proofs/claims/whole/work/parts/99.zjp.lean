/-! THE CLASS READS: parts, expressions -/
section ZJP
section
variable {n : Nat} {Y Y0 Y1 Y2 Z : zY} {a b s k p m e tp r q rd pl W W2 WE : Nat} {S S1 F F1 F2 : List Nat} {T : List Int32} {t : Tk} {ts : List Tk} {x v : Int32} {o' : yO} {nx nx' vv : Value} {φ ψ : Den} {l : Nat → Nat} {os rc sq : Nat}
theorem PE_w {segs : List (List Int32)} {fs : List Value} (h : PE Y pl l os rc sq p segs) (hq : Y.1 q = some (oB 3 fs)) : PE (yu Y q (some o')) pl l os rc sq p segs := by
  obtain ⟨g1, g2, g3, g4⟩ := h
  refine ⟨PLC_u g1 hq (by decide), g2, ?_, g4⟩
  obtain ⟨xs, cap, x1, x2, x3, x4⟩ := g3
  refine ⟨xs, cap, ?_, x2, AL_imp (fun x y => RNm_t (RTk_w hq rfl)) x3, x4⟩
  rw [yu_n]
  · exact x1
  · intro e; rw [e, hq] at x1; cases x1
/-- a part -/
theorem prc_ok {segs : List (List Int32)} {o hk : Nat} (hn : 6002 ≤ n) (hE : W ≤ WE + 200) (ho : o ≤ 20) (hk0 : 0 < hk)
    (hR : o < 20 → ∀ {Y : zY} {W : Nat} {ts : List Tk} {p : Nat}, RS rd pl W Y ts → W ≤ WE + 200 → PE Y pl l os rc sq p segs → CR rd pl Y [rd, pl] W WE ((cRP n k).1 rd (some 32) (nI (o + 1)) Y) (sE segs k 0 (o + 1) ts p) (fun x => x.2.1) (QE Y pl l os rc sq hk))
    (hN : o < 20 → ∀ {Y : zY} {W : Nat} {ts : List Tk} {p : Nat}, RS rd pl W Y ts → W ≤ WE + 200 → PE Y pl l os rc sq p segs → CR rd pl Y [rd, pl] W WE ((cRP n k).2 rd (nI (o + 1)) Y) (sE segs k 2 (o + 1) ts p) (fun x => x.2.1) (QE Y pl l os rc sq (hk - 1))) (h : RS rd pl W Y ts) (hP : PE Y pl l os rc sq p segs) :
    CR rd pl Y [rd, pl] W WE (cb78 n (cRP n k).1 (cRP n k).2 rd (nI o) Y) (sE segs (k + 1) 2 o ts p) (fun x => x.2.1) (QE Y pl l os rc sq hk) := by
  have hD := h.1.2
  have h231 := hD.1
  have hW := h.2.2
  have hlt := rdr_len h.2.1
  have hpr := pl_rd h hP.1
  have hs1 : ∀ a ∈ [rd], a ∈ [rd, pl] ∨ Y.2.1 ≤ a := fun a h => Or.inl (by rw [List.mem_singleton.mp h]; simp)
  have hs2 : ∀ a ∈ [rd, pl], a ∈ [rd, pl] ∨ Y.2.1 ≤ a := fun a h => Or.inl h
  obtain ⟨a, e, nx, k1, k2, k3, k4⟩ := rdr_t h.2.1
  show CR rd pl Y [rd, pl] W WE _ (if ((hd ts).1 = 7 ∨ (hd ts).1 = 30) ∧ 20 ≤ o then .inl (sErr 5 (hd ts))
    else if (hd ts).1 = 7 then rb (sE segs k 0 (o + 1) (adv ts) p) fun x => rb (sEat 8 x.2.1) fun ts => .inr (x.1, ts, x.2.2)
    else if (hd ts).1 = 30 then rb (sPrt p (hd ts)) fun p => rb (sE segs k 2 (o + 1) (adv ts) p) fun x => .inr (fun E => !x.1 E, x.2)
    else if (hd ts).1 = 33 ∨ (hd ts).1 = 34 then rb (sPrt p (hd ts)) fun p => .inr (fun _ => (hd ts).1 == 33, adv ts, p)
    else if (hd ts).1 = 29 then rb (sPrt p (hd ts)) fun p => rb (sKnw segs (adv ts)) fun i => .inr (fun E => E.2.getD i.1 false, i.2, p)
    else sTest ts p) _ _
  unfold cb78
  refine CR_y k1 (CR_y rfl (CR_y k4 (CR_y (rEq_s (by omega) (by omega)) ?_)))
  have h22 : (hd ts).1 = 7 ∨ (hd ts).1 = 30 → (o < 20 → CR rd pl Y [rd, pl] W WE (cb78_37 n (cRP n k).1 (cRP n k).2 rd (nI o) (some ((hd ts).1 + 1)) Y) (if (hd ts).1 = 7 then rb (sE segs k 0 (o + 1) (adv ts) p) fun x => rb (sEat 8 x.2.1) fun ts => .inr (x.1, ts, x.2.2)
    else if (hd ts).1 = 30 then rb (sPrt p (hd ts)) fun p => rb (sE segs k 2 (o + 1) (adv ts) p) fun x => .inr (fun E => !x.1 E, x.2)
    else if (hd ts).1 = 33 ∨ (hd ts).1 = 34 then rb (sPrt p (hd ts)) fun p => .inr (fun _ => (hd ts).1 == 33, adv ts, p)
    else if (hd ts).1 = 29 then rb (sPrt p (hd ts)) fun p => rb (sKnw segs (adv ts)) fun i => .inr (fun E => E.2.getD i.1 false, i.2, p)
    else sTest ts p) (fun x => x.2.1) (QE Y pl l os rc sq hk)) → CR rd pl Y [rd, pl] W WE (cb78_22 n (cRP n k).1 (cRP n k).2 rd (nI o) (some ((hd ts).1 + 1)) Y) (if ((hd ts).1 = 7 ∨ (hd ts).1 = 30) ∧ 20 ≤ o then .inl (sErr 5 (hd ts))
    else if (hd ts).1 = 7 then rb (sE segs k 0 (o + 1) (adv ts) p) fun x => rb (sEat 8 x.2.1) fun ts => .inr (x.1, ts, x.2.2)
    else if (hd ts).1 = 30 then rb (sPrt p (hd ts)) fun p => rb (sE segs k 2 (o + 1) (adv ts) p) fun x => .inr (fun E => !x.1 E, x.2)
    else if (hd ts).1 = 33 ∨ (hd ts).1 = 34 then rb (sPrt p (hd ts)) fun p => .inr (fun _ => (hd ts).1 == 33, adv ts, p)
    else if (hd ts).1 = 29 then rb (sPrt p (hd ts)) fun p => rb (sKnw segs (adv ts)) fun i => .inr (fun E => E.2.getD i.1 false, i.2, p)
    else sTest ts p) (fun x => x.2.1) (QE Y pl l os rc sq hk) := by
    intro c hgo
    unfold cb78_22
    by_cases c20 : 20 ≤ o
    · rw [if_pos (show ((hd ts).1 = 7 ∨ (hd ts).1 = 30) ∧ 20 ≤ o from ⟨c, c20⟩), if_neg (show ¬ nI o < 20 by rw [show (20 : Int32) = nI 20 from rfl, nI_ltI (by omega) (by omega)]; omega)]
      exact CR_y k1 (CR_g (rdr_o h.2.1) (cr_ref h.1 h.2.1 k2 FR_R (by simp) hD (by omega)))
    · rw [if_neg (show ¬ (((hd ts).1 = 7 ∨ (hd ts).1 = 30) ∧ 20 ≤ o) from fun q => c20 q.2), if_pos (show nI o < 20 by rw [show (20 : Int32) = nI 20 from rfl, nI_ltI (by omega) (by omega)]; omega)]
      exact hgo (by omega)
  by_cases c7 : (hd ts).1 = 7
  · rw [if_pos (decide_eq_true (by omega))]
    refine h22 (Or.inl c7) fun ho2 => ?_
    rw [if_pos c7]
    unfold cb78_37
    refine CR_y (rEq_s (by omega) (by omega)) ?_
    rw [if_pos (decide_eq_true (by omega))]
    refine CR_g (rdr_o h.2.1) ?_
    have ht := tk_any (n := n) (WE := WE) h (by omega) (by omega)
    rw [c7] at ht
    refine CR_i ht FR_R hs1 hD ?_
    rintro v Y1 hS1 hf1 hf01 ⟨q, e, nx, rfl, q2, q3, q4, q5⟩
    dsimp only at hS1 q2 q3 q4 q5
    have hP1 : PE Y1 pl l os rc sq p segs := PE_k hP h.2.1 hf01 (PLC_k hP.1 hf1 (by simpa using hpr)) hP.2.1
    refine CR_g (rdr_o hS1.2.1) ?_
    rw [nI_1]
    refine CR_b (hR ho2 hS1 (by omega) hP1) hf01 hs2 hD ?_
    rintro ⟨φ, ts2, p2⟩ v Y2 hS2 hf2 hf02 ⟨b, Fb, rfl, b1, b2, b3, b4⟩
    dsimp only at hS2 b1 b3 b4 ⊢
    rw [rb_eat]
    refine CR_g (rdr_o hS2.2.1) ?_
    refine CR_b (tk_ok (s := 8) hS2 (by omega) (by omega)) hf02 hs1 hD ?_
    rintro ⟨t3, ts3⟩ v Y3 hS3 hf3 hf03 ⟨_, _, _, rfl, _, _, _, q7, q8⟩
    dsimp only at hS3 q7 q8 ⊢
    exact CR_s (s := (φ, ts3, p2)) (RS_le hS3 (by omega)) hf03 ⟨b, Fb, rfl, PRT_k hf3.2.2 b1, fun c hc => by have := b2 c hc; have := hf01.1; omega, PLC_k b3 hf3 (by simpa using hpr), b4⟩
  rw [if_neg (by rw [decide_eq_false (by omega)]; decide)]
  refine CR_y (rEq_s (by omega) (by omega)) ?_
  by_cases c30 : (hd ts).1 = 30
  · rw [if_pos (decide_eq_true (by omega))]
    refine h22 (Or.inr c30) fun ho2 => ?_
    rw [if_neg c7, if_pos c30]
    unfold cb78_37
    refine CR_y (rEq_s (by omega) (by omega)) ?_
    rw [if_neg (by rw [decide_eq_false (by omega)]; decide)]
    refine CR_y (rEq_s (by omega) (by omega)) ?_
    rw [if_pos (decide_eq_true (by omega))]
    refine CR_g (rdr_o h.2.1) ?_
    have ht := tk_any (n := n) (WE := WE) h (by omega) (by omega)
    rw [c30] at ht
    refine CR_i ht FR_R hs1 hD ?_
    rintro v Y1 hS1 hf1 hf01 ⟨q, e, nx, rfl, q2, q3, q4, q5⟩
    dsimp only at hS1 q2 q3 q4 q5
    have hP1 : PE Y1 pl l os rc sq p segs := PE_k hP h.2.1 hf01 (PLC_k hP.1 hf1 (by simpa using hpr)) hP.2.1
    refine CR_g (rdr_o hS1.2.1) ?_
    refine CR_b (np_ok (s := 30) hS1 hP1.1.1 hP1.1.2 q2 (by have := hP.2.1; omega) (by omega)) hf01 hs2 hD ?_
    rintro p' v Y2 hS2 hf2 hf02 ⟨r, rfl, d1, d2, d3, d4, d5, d6, d7⟩
    have hP2 := PE_k hP1 hS1.2.1 hf2 ⟨d4, hP.1.2⟩ (by omega)
    refine CR_g (rdr_o hS2.2.1) ?_
    rw [nI_1]
    refine CR_b (hN ho2 (RS_le hS2 (show _ ≤ W by omega)) hE hP2) hf02 hs2 hD ?_
    rintro ⟨φ, ts3, p3⟩ v Y3 hS3 hf3 hf03 ⟨b, Fb, rfl, b1, b2, b3, b4⟩
    dsimp only at hS3 b1 b3 b4 ⊢
    have hr3 : Y3.1 r = some (oB 3 [.ref 31, .null, .null, .int (-1), .null, .null]) := hf3.2.2 _ _ d3 rfl
    have hr0 : Y.2.1 ≤ r := by have := hf01.1; omega
    have hrr : r ≠ rd := RS_ne hS3 hr3 (by decide)
    have hrFb : r ∉ Fb := fun e => by have := b2 r e; omega
    refine CR_y rfl (CR_y (yP_of hr3 (by omega) rfl rfl) ?_)
    refine CR_s (s := (fun E => !φ E, ts3, p3)) (RS_w hS3 hr3 rfl hrr (by omega)) (FR_n hf03 hD hr0) ⟨r, r :: Fb, rfl, ?_, ?_, PLC_u b3 hr3 (by decide), b4⟩
    · obtain ⟨hk1, hh⟩ : ∃ hk1, hk = hk1 + 1 := ⟨hk - 1, by omega⟩
      rw [hh] at b1 ⊢
      exact ⟨30, .null, .null, -1, .ref b, Fb, rfl, hrFb, by omega, yu_s, Or.inr (Or.inr (Or.inl ⟨rfl, b, φ, rfl, PRT_u b1 hr3 hrFb, rfl⟩))⟩
    · intro c hc
      rcases List.mem_cons.mp hc with e | e
      · rw [e]; exact hr0
      · have := b2 c e; have := hf02.1; omega
  rw [if_neg (by rw [decide_eq_false (by omega)]; decide), if_neg (fun q => q.1.elim c7 c30), if_neg c7, if_neg c30]
  unfold cb78_37
  refine CR_y (rEq_s (by omega) (by omega)) ?_
  rw [if_neg (by rw [decide_eq_false (by omega)]; decide)]
  refine CR_y (rEq_s (by omega) (by omega)) ?_
  rw [if_neg (by rw [decide_eq_false (by omega)]; decide)]
  refine CR_y (rEq_s (by omega) (by omega)) ?_
  have hcon : (hd ts).1 = 33 ∨ (hd ts).1 = 34 → CR rd pl Y [rd, pl] W WE (cb78_122 n (cRP n k).1 (cRP n k).2 rd (nI o) (some ((hd ts).1 + 1)) Y) (rb (sPrt p (hd ts)) fun p => .inr (fun _ => (hd ts).1 == 33, adv ts, p)) (fun x => x.2.1) (QE Y pl l os rc sq hk) := by
    intro c
    unfold cb78_122
    refine CR_g (rdr_o h.2.1) ?_
    refine CR_i (tk_any (n := n) (WE := WE) h (by omega) (by omega)) FR_R hs1 hD ?_
    rintro v Y1 hS1 hf1 hf01 ⟨q, e, nx, rfl, q2, q3, q4, q5⟩
    dsimp only at hS1 q2 q3 q4 q5
    have hP1 : PE Y1 pl l os rc sq p segs := PE_k hP h.2.1 hf01 (PLC_k hP.1 hf1 (by simpa using hpr)) hP.2.1
    refine CR_g (rdr_o hS1.2.1) ?_
    refine CR_b (np_ok (s := (hd ts).1) hS1 hP1.1.1 hP1.1.2 q2 (by have := hP.2.1; omega) (by omega)) hf01 hs2 hD ?_
    rintro p' v Y2 hS2 hf2 hf02 ⟨r, rfl, d1, d2, d3, d4, d5, d6, d7⟩
    have hr0 : Y.2.1 ≤ r := by have := hf01.1; omega
    refine CR_s (s := (fun _ => (hd ts).1 == 33, adv ts, p')) (RS_le hS2 (by omega)) hf02 ⟨r, [r], rfl, ?_, fun c hc => by rw [List.mem_singleton.mp hc]; exact hr0, ⟨d4, hP.1.2⟩, by show p' ≤ 400; omega⟩
    obtain ⟨hk1, hh⟩ : ∃ hk1, hk = hk1 + 1 := ⟨hk - 1, by omega⟩
    rw [hh]
    exact ⟨(hd ts).1, .null, .null, -1, .null, [], rfl, by simp, by omega, d3, Or.inl ⟨c, rfl, rfl⟩⟩
  by_cases c33 : (hd ts).1 = 33
  · rw [if_pos (decide_eq_true (by omega)), if_pos (Or.inl c33)]
    exact hcon (Or.inl c33)
  rw [if_neg (by rw [decide_eq_false (by omega)]; decide)]
  refine CR_y (rEq_s (by omega) (by omega)) ?_
  by_cases c34 : (hd ts).1 = 34
  · rw [if_pos (decide_eq_true (by omega)), if_pos (Or.inr c34)]
    exact hcon (Or.inr c34)
  rw [if_neg (by rw [decide_eq_false (by omega)]; decide), if_neg (fun q => q.elim c33 c34)]
  refine CR_y (rEq_s (by omega) (by omega)) ?_
  by_cases c29 : (hd ts).1 = 29
  · rw [if_pos (decide_eq_true (by omega)), if_pos c29]
    refine CR_g (rdr_o h.2.1) ?_
    have ht := tk_any (n := n) (WE := WE) h (by omega) (by omega)
    rw [c29] at ht
    refine CR_i ht FR_R hs1 hD ?_
    rintro v Y1 hS1 hf1 hf01 ⟨q, e, nx, rfl, q2, q3, q4, q5⟩
    dsimp only at hS1 q2 q3 q4 q5
    have hP1 : PE Y1 pl l os rc sq p segs := PE_k hP h.2.1 hf01 (PLC_k hP.1 hf1 (by simpa using hpr)) hP.2.1
    refine CR_g (rdr_o hS1.2.1) ?_
    refine CR_b (np_ok (s := 29) hS1 hP1.1.1 hP1.1.2 q2 (by have := hP.2.1; omega) (by omega)) hf01 hs2 hD ?_
    rintro p' v Y2 hS2 hf2 hf02 ⟨r, rfl, d1, d2, d3, d4, d5, d6, d7⟩
    have hP2 := PE_k hP1 hS1.2.1 hf2 ⟨d4, hP.1.2⟩ (by omega)
    refine CR_y (rdr_p hS2.2.1) (CR_y rfl (CR_y (yR_of (r := some (l 0)) d4 rfl) (CR_g (rdr_o hS2.2.1) ?_)))
    have hl0 : l 0 ≠ rd := fun c => by
      obtain ⟨xs, cap, g1, _⟩ := hP2.2.2.1
      obtain ⟨⟨_, _, _, j, _⟩, _⟩ := hS2.2.1
      rw [c, j] at g1
      cases g1
    refine CR_b (kw_ok hS2 hP2.2.2.1 hl0 (by have := hP.2.2.2; omega) hn (by omega)) hf02 hs1 hD ?_
    rintro ⟨i, ts3⟩ v Y3 hS3 hf3 hf03 ⟨rfl, i1, i2, i3⟩
    dsimp only at hS3 i1 i2 i3 ⊢
    have hr3 : Y3.1 r = some (oB 3 [.ref 30, .null, .null, .int (-1), .null, .null]) := hf3.2.2 _ _ d3 rfl
    have hr0 : Y.2.1 ≤ r := by have := hf01.1; omega
    have hrr : r ≠ rd := RS_ne hS3 hr3 (by decide)
    refine CR_y rfl (CR_y (yP_of hr3 (by omega) rfl rfl) ?_)
    refine CR_s (s := ((fun E => E.2.getD i false : Den), ts3, p')) (RS_le (RS_w hS3 hr3 rfl hrr (by omega)) (by omega)) (FR_n hf03 hD hr0) ⟨r, [r], rfl, ?_, fun c hc => by rw [List.mem_singleton.mp hc]; exact hr0, PLC_u (PLC_k hP2.1 hf3 (by simpa using hpr)) hr3 (by decide), by show p' ≤ 400; omega⟩
    obtain ⟨hk1, hh⟩ : ∃ hk1, hk = hk1 + 1 := ⟨hk - 1, by omega⟩
    rw [hh]
    exact ⟨29, .null, .null, nI i, .null, [], rfl, by simp, by omega, yu_s, Or.inr (Or.inl ⟨rfl, rfl, i, by have := hP.2.2.2; omega, rfl, rfl⟩)⟩
  rw [if_neg (by rw [decide_eq_false (by omega)]; decide), if_neg c29, sTest_eq]
  refine CR_g (rdr_o h.2.1) ?_
  refine CR_b (nt_ok h hP.1 hP.2.1 (by omega)) FR_R hs2 hD ?_
  rintro ⟨⟨t1, ts1⟩, p1⟩ v Y1 hS1 hf1 hf01 ⟨b, wt, rfl, b1, b2, b3, b4, b5⟩
  dsimp only at hS1 b2 b3 b4 b5 ⊢
  refine CR_y rfl (CR_y (yR_of (r := some ((hd ts1).1 + 1)) b2 rfl) (CR_y (rEq_s (by omega) (by omega)) ?_))
  have up : ∀ {F : List Nat} {φ : Den} {Y2 : zY}, PRT Y2 1 b φ .null F → PRT Y2 hk b φ .null F := fun q => PRT_m (by omega) q
  by_cases c41 : (hd ts1).1 = 41
  · rw [if_pos (decide_eq_true (by omega))]
    refine CR_g (rdr_o hS1.2.1) ?_
    rw [show sT2 t1.2.2.1 ts1 p1 = rb (sT2 t1.2.2.1 ts1 p1) (fun x => .inr x) by cases sT2 t1.2.2.1 ts1 p1 <;> rfl]
    refine CR_b (amc_ok (S := [rd, pl]) hS1 b4 b5 hf01 hD b1 b2 b3 c41 (by simp) (by simp) hn (by omega)) FR_R hs2 hD ?_
    rintro x v Y2 hS2 hf2 hf02 ⟨⟨F, g1, g2⟩, g3, g4⟩
    exact CR_s (RS_le hS2 (by omega)) hf02 ⟨b, F, rfl, up g1, g2, g3, g4⟩
  · rw [if_neg (by rw [decide_eq_false (by omega)]; decide)]
    refine CR_g (rdr_o hS1.2.1) ?_
    rw [show sT2 t1.2.2.1 ts1 p1 = rb (sT2 t1.2.2.1 ts1 p1) (fun x => .inr x) by cases sT2 t1.2.2.1 ts1 p1 <;> rfl]
    refine CR_b (rt_ok (S := [rd, pl]) hS1 b4 hf01 hD b1 b2 b3 c41 (by simp) (by omega)) FR_R hs2 hD ?_
    rintro x v Y2 hS2 hf2 hf02 ⟨g1, g3, g4⟩
    exact CR_s (RS_le hS2 (by omega)) hf02 ⟨b, [b], rfl, up g1, fun c hc => by rw [List.mem_singleton.mp hc]; exact b1, g3, by rw [g4]; exact b5⟩
/-- an expression -/
theorem ex_all {segs : List (List Int32)} (hn : 6002 ≤ n) : ∀ (k m o : Nat), m ≤ 2 → o ≤ 20 → 3 * (20 - o) + (3 - m) ≤ k → ∀ {Y : zY} {W : Nat} {ts : List Tk} {p : Nat}, RS rd pl W Y ts → W ≤ WE + 200 → PE Y pl l os rc sq p segs → CR rd pl Y [rd, pl] W WE (cE n k m rd (nI o) Y) (sE segs k m o ts p) (fun x => x.2.1) (QE Y pl l os rc sq (hE m o))
  | 0, m, o, hm, ho, hk => by omega
  | k + 1, 0, o, _, ho, hk => by
    intro h hE hP
    have := row_ok (n := n) (mf := cE n k 1 rd (nI o)) (ms := sE segs k 1 o) (g77 := (cRP n k).1) (g78 := (cRP n k).2) (j := 31) (l2 := nI o) (hk := 2 * (20 - o) + 3 - 1) hn hE (Or.inl rfl) (fun Y => by rw [if_pos rfl]; rfl) (fun h hE hP => ex_all hn k 1 o (by omega) ho (by omega) h hE hP) h hP
    rw [show 2 * (20 - o) + 3 - 1 + 1 = 2 * (20 - o) + 3 - 0 by omega] at this
    exact this
  | k + 1, 1, o, _, ho, hk => by
    intro h hE hP
    have := row_ok (n := n) (mf := cE n k 2 rd (nI o)) (ms := sE segs k 2 o) (g77 := (cRP n k).1) (g78 := (cRP n k).2) (j := 32) (l2 := nI o) (hk := 2 * (20 - o) + 3 - 2) hn hE (Or.inr rfl) (fun Y => by rw [if_neg (by omega)]; rfl) (fun h hE hP => ex_all hn k 2 o (by omega) ho (by omega) h hE hP) h hP
    rw [show 2 * (20 - o) + 3 - 2 + 1 = 2 * (20 - o) + 3 - 1 by omega] at this
    exact this
  | k + 1, 2, o, _, ho, hk => by
    intro h hE hP
    refine prc_ok (hk := 2 * (20 - o) + 3 - 2) hn hE ho (by omega) ?_ ?_ h hP
    · intro ho2 Y W ts p h hE hP
      have := ex_all hn k 0 (o + 1) (by omega) (by omega) (by omega) h hE hP
      rw [show 2 * (20 - o) + 3 - 2 = 2 * (20 - (o + 1)) + 3 - 0 by omega]
      exact this
    · intro ho2 Y W ts p h hE hP
      have := ex_all hn k 2 (o + 1) (by omega) (by omega) (by omega) h hE hP
      refine CR_r this FR_R (fun a h => Or.inl h) h.1.2 (Nat.le_refl _) ?_
      rintro Y1 x v _ _ ⟨a, F, g1, g2, g3⟩
      exact ⟨a, F, g1, PRT_m (by show 2 * (20 - (o + 1)) + 3 - 2 ≤ 2 * (20 - o) + 3 - 2 - 1; omega) g2, g3⟩
  | k + 1, m + 3, o, hm, ho, hk => by omega
end
end ZJP

/-! THE CLASS READS: the text -/
section ZKH
theorem CR_q {rd pl : Nat} {Y : zY} {S : List Nat} {W WE : Nat} {α σ : Type} {o : Option ((α ⊕ Nat) × zY)} {r : RR σ} {L : σ → List Tk} {Q : zY → σ → α → Prop} (h : CR rd pl Y S W WE o r L Q) : CR rd pl Y S W WE o r L (fun Y1 s v => Q Y1 s v ∧ r = .inr s) := by
  cases r with
  | inl e => exact h
  | inr s =>
    obtain ⟨v, Y1, h1, h2, h3, h4⟩ := h
    exact ⟨v, Y1, h1, h2, h3, h4, rfl⟩
/-- what a need speaks of is a word -/
def NW (P : Pln) : Prop := ∀ g ∈ P.2.1, ∀ nd ∈ g.2.2.1, nd.1.1 = 2
theorem sTake_1 {s : Nat} {ts : List Tk} {x : Tk × List Tk} (e : sTake s ts = .inr x) : x.1.1 = s := by
  unfold sTake at e
  by_cases q : (hd ts).1 = s
  · rw [if_pos q] at e; cases e; exact q
  · rw [if_neg q] at e; cases e
theorem sNedL_w : ∀ (k : Nat) (ns : List (Tk × Tk)) (ts : List Tk) {y : List (Tk × Tk) × List Tk}, (∀ nd ∈ ns, nd.1.1 = 2) → sNedL k ns ts = .inr y → ∀ nd ∈ y.1, nd.1.1 = 2
  | 0, ns, ts, y, h, e => by cases e; exact h
  | k + 1, ns, ts, y, h, e => by
    unfold sNedL at e
    by_cases q : (hd ts).1 = 20
    · rw [if_pos q] at e
      obtain ⟨x, hx, e⟩ := rb_inr_el e
      refine sNedL_w k x.1 x.2 ?_ e
      unfold sNeed at hx
      obtain ⟨_, _, hx⟩ := rb_inr_el hx
      obtain ⟨w, hw, hx⟩ := rb_inr_el hx
      obtain ⟨ts2, _, hx⟩ := rb_inr_el hx
      by_cases c : (hd ts2).1 = 33 ∨ (hd ts2).1 = 34 ∨ (hd ts2).1 = 2 ∨ (hd ts2).1 = 3
      · rw [if_pos c] at hx
        obtain ⟨_, _, hx⟩ := rb_inr_el hx
        cases hx
        intro nd hnd
        rcases List.mem_append.mp hnd with d | d
        · exact h nd d
        · rw [List.mem_singleton.mp d]; exact sTake_1 hw
      · rw [if_neg c] at hx; cases hx
    · rw [if_neg q] at e; cases e; exact h
theorem NW_flg {P : Pln} {ts : List Tk} {x : Pln × List Tk} (h : NW P) (e : sFlg P ts = .inr x) : NW x.1 := by
  unfold sFlg at e
  obtain ⟨_, _, e⟩ := rb_inr_el e
  obtain ⟨w, hw, e⟩ := rb_inr_el e
  obtain ⟨_, _, e⟩ := rb_inr_el e
  obtain ⟨k, hk, e⟩ := rb_inr_el e
  obtain ⟨_, _, e⟩ := rb_inr_el e
  obtain ⟨_, _, e⟩ := rb_inr_el e
  obtain ⟨d, _, e⟩ := rb_inr_el e
  obtain ⟨_, _, e⟩ := rb_inr_el e
  obtain ⟨o, _, e⟩ := rb_inr_el e
  obtain ⟨_, _, e⟩ := rb_inr_el e
  obtain ⟨ns, hns, e⟩ := rb_inr_el e
  obtain ⟨y, hy, e⟩ := rb_inr_el e
  obtain ⟨_, _, e⟩ := rb_inr_el e
  cases e
  intro g hg nd hnd
  rcases List.mem_append.mp hg with q | q
  · exact h g q nd hnd
  · rw [List.mem_singleton.mp q] at hnd
    exact sNedL_w _ _ _ (fun nd h => by cases h) hns nd hnd
theorem NW_seg {P : Pln} {ts : List Tk} {x : Pln × List Tk} (h : NW P) (e : sSeg P ts = .inr x) : NW x.1 := by
  obtain ⟨a1, a2, _⟩ := sSeg_len e
  unfold NW
  rw [a2]
  exact h
theorem NW_lay {P : Pln} {ts : List Tk} {x : Pln × List Tk} (h : NW P) (e : sLay P ts = .inr x) : NW x.1 := by
  obtain ⟨a1, a2, _⟩ := sLay_k e
  unfold NW
  rw [a2]
  exact h
section
variable {n : Nat} {Y Y0 Y1 Y2 Y' : zY} {a b s p m e r q rd pl W W2 WE lo hi x c i : Nat} {S S1 : List Nat} {t : Tk} {ts ts0 : List Tk} {l : Nat → Nat} {rc sq : Nat} {xs xs' : Nat → List Nat} {P P' : Pln} {bd : Nat → Nat}
/-- the loop of readText -/
theorem tx_l {σ : Type} {G : Pln × List Tk → RR σ} {L : σ → List Tk} {Q : zY → σ → Unit → Prop} (hD : DM Y0) (hr : rd ∈ S) (hS : ∀ a ∈ PS rd pl l, a ∈ S ∨ Y0.2.1 ≤ a) (hn : 6002 ≤ n) (hE : W ≤ WE + 50) (fin : ∀ (l1 : Int32) (Y2 : zY) (ts2 : List Tk) (P2 : Pln) (xs2 : Nat → List Nat) (bd2 : Nat → Nat), RS rd pl W Y2 ts2 → FR Y0 Y2 S → PLN Y2 pl l rc sq bd2 P2 xs2 → NW P2 → CR rd pl Y0 S W WE (cb65_100 n rd l1 Y2) (G (P2, ts2)) L Q) : ∀ (fu i : Nat) {Y' : zY} {ts : List Tk} {P' : Pln} {xs' : Nat → List Nat} {bd : Nat → Nat}, i ≤ 6000 → 6000 - i < fu → RS rd pl W Y' ts → FR Y0 Y' S → PLN Y' pl l rc sq bd P' xs' → NW P' → CR rd pl Y0 S W WE (cf65_2 n fu rd (nI i) Y') (rb (sTxtL (6000 - i) P' ts) G) L Q
  | 0, i, Y', ts, P', xs', bd, _, h, _, _, _, _ => by omega
  | fu + 1, i, Y', ts, P', xs', bd, hi, hfu, h, hf, hP, hN => by
    show CR rd pl Y0 S W WE (cb65_2 n (cf65_2 n fu) rd (nI i) Y') _ _ _
    unfold cb65_2
    by_cases hz : i = 6000
    · rw [if_pos (show (6000 : Int32) ≤ nI i by rw [hz]; decide), hz, show 6000 - 6000 = 0 from rfl]
      exact fin _ _ _ _ _ _ h hf hP hN
    rw [if_neg (show ¬ (6000 : Int32) ≤ nI i by rw [show (6000 : Int32) = nI 6000 from rfl, nI_leI (by omega) (by omega)]; omega)]
    refine cr_hd h.2.1 (by omega) fun _ => ?_
    rw [show 6000 - i = (6000 - (i + 1)) + 1 by omega]
    unfold sTxtL
    by_cases hc : (hd ts).1 = 0
    · rw [if_pos (decide_eq_true (by omega)), if_pos hc, rb_inr]
      exact fin _ _ _ _ _ _ h hf hP hN
    rw [if_neg (by rw [decide_eq_false (by omega)]; decide), if_neg hc, rb_assoc]
    obtain ⟨a, e, nx, k1, k2, k3, k4⟩ := rdr_t h.2.1
    have h43 : (hd ts).1 < 43 := by obtain ⟨_, _, _, _, _, g⟩ := k2; exact g.1
    have e66 : c66 n ((hd ts).1 + 1) Y' = some (nI (hd ts).1, Y') := by unfold c66; exact bnd_eq (yI_of (fx_sort h.1.1 h43) rfl) rfl
    refine CR_y k1 (CR_y rfl (CR_y k4 (CR_y rfl (CR_g (yisO_of (fx_sort h.1.1 h43)) (CR_y e66 (CR_y (fx_sw h.1.1 h43) ?_))))))
    dsimp only
    by_cases c25 : (hd ts).1 = 25
    · have e1 : swL.getD (hd ts).1 0 = 1 := by rw [c25]; rfl
      rw [e1, if_pos rfl, if_pos c25]
      refine CR_g (rdr_o h.2.1) ?_
      refine CR_b (CR_q (sg_ok2 h hP c25 hn hE)) hf hS hD ?_
      rintro ⟨P1, ts1⟩ v Y1 hS1 hf1 hf01 ⟨⟨xs1, hP1⟩, hq⟩
      unfold cb65_94
      rw [nI_1]
      exact tx_l hD hr hS hn hE fin fu (i + 1) (by omega) (by omega) hS1 hf01 hP1 (NW_seg hN hq)
    by_cases c14 : (hd ts).1 = 14
    · have e1 : swL.getD (hd ts).1 0 = 2 := by rw [c14]; rfl
      rw [e1, if_neg (by decide), if_pos rfl, if_neg c25, if_pos c14]
      refine CR_g (rdr_o h.2.1) ?_
      refine CR_b (CR_q (fg_ok h hP c14 hn hE)) hf hS hD ?_
      rintro ⟨P1, ts1⟩ v Y1 hS1 hf1 hf01 ⟨⟨xs1, bd1, hP1⟩, hq⟩
      unfold cb65_94
      rw [nI_1]
      exact tx_l hD hr hS hn hE fin fu (i + 1) (by omega) (by omega) hS1 hf01 hP1 (NW_flg hN hq)
    by_cases c22 : (hd ts).1 = 22
    · have e1 : swL.getD (hd ts).1 0 = 3 := by rw [c22]; rfl
      rw [e1, if_neg (by decide), if_neg (by decide), if_pos rfl, if_neg c25, if_neg c14, if_pos c22]
      refine CR_g (rdr_o h.2.1) ?_
      refine CR_b (CR_q (ly_ok h hP c22 hn hE)) hf hS hD ?_
      rintro ⟨P1, ts1⟩ v Y1 hS1 hf1 hf01 ⟨⟨xs1, hP1⟩, hq⟩
      unfold cb65_94
      rw [nI_1]
      exact tx_l hD hr hS hn hE fin fu (i + 1) (by omega) (by omega) hS1 hf01 hP1 (NW_lay hN hq)
    have hsw : ∀ s : Fin 43, s.1 ≠ 25 → s.1 ≠ 14 → s.1 ≠ 22 → swL.getD s.1 0 ≠ 1 ∧ swL.getD s.1 0 ≠ 2 ∧ swL.getD s.1 0 ≠ 3 := by decide
    obtain ⟨n1, n2, n3⟩ := hsw ⟨_, h43⟩ c25 c14 c22
    rw [if_neg n1, if_neg n2, if_neg n3, if_neg c25, if_neg c14, if_neg c22, rb_inl]
    refine CR_y k1 (CR_g (rdr_o h.2.1) (cr_ref h.1 h.2.1 k2 hf hr hD ?_))
    have := h.2.2
    omega
end
end ZKH

/-! THE CLASS READS: readServe -/
section ZJT
section
variable {n : Nat} {Y Y0 Y1 Y2 Ys Z : zY} {a b s p m e tp r q rd pl W W2 WE lo x : Nat} {S S1 F F1 F2 : List Nat} {T : List Int32} {t : Tk} {ts : List Tk} {v u : Int32} {o o' : yO} {nx nx' vv nm sa : Value} {l : Nat → Nat} {os rc sq fl c1 L : Nat} {k : Nat × List (List Int32)} {sh : List (Int32 × Int32)} {spl : List Spl} {xs : List Nat}
/-- where a serve is read -/
def SVP (Y : zY) (pl : Nat) (l : Nat → Nat) (os p rc sq fl c1 : Nat) (k : Nat × List (List Int32)) (xs : List Nat) (spl : List Spl) : Prop := PLC Y pl l os p rc sq ∧ KN Y fl c1 k ∧ LSX Y (l 7) xs ∧ AL (RSp Y) xs spl ∧ spl.length ≤ 100 ∧ c1 ≠ l 7
/-- a serve is made and put among the serves -/
theorem sv_put {o1 o2 : Option Nat} {y3 : Int32} {α σ : Type} {K : Int32 × zY → Option ((α ⊕ Nat) × zY)} {rr : RR σ} {LL : σ → List Tk} {Q : zY → σ → α → Prop} (h : RS rd pl W Y ts) (hf : FR Y0 Y [rd, l 7]) (hD : DM Y0) (hP : PLC Y0 pl l os p rc sq) (hx : LSX Y (l 7) xs) (hxl : xs.length ≤ 100) (hy : y3 = nI L) (hL : L = 1 ∨ L = 2 ∨ L = 8) (hpr : pl ∉ [rd, l 7])
    (k : ∀ Y2, RS rd pl (W + 295) Y2 ts → FR Y0 Y2 [rd, l 7] → SVX Y2 Y0.2.1 Y.2.1 (va_rf o1) (va_rf o2) [] L → LSX Y2 (l 7) (xs ++ [Y.2.1]) → (∀ x t, RTk Y x t → RTk Y2 x t) → CR rd pl Y0 S W2 WE (K (1, Y2)) rr LL Q) :
    CR rd pl Y0 S W2 WE ((c92 n Y.2.1 o1 o2 y3 (yN Y 7 5)).bind fun p29 => (yR p29.2 rd 5 0).bind fun x30 => x30.bind fun a32 => (yR p29.2 a32 4 7).bind fun x33 => x33.bind fun a35 => zgd (yisO p29.2 a35 14) <| (c86 n a35 (some Y.2.1) p29.2).bind K) rr LL Q := by
  obtain ⟨Y1, e1, e2, e3, e4, e5, e6⟩ := sv_new (n := n) (o1 := o1) (o2 := o2) h.1 hy hL
  have hP1 : PLC Y1 pl l os p rc sq := PLC_k (PLC_k hP hf hpr) e3 (by simp)
  have hx1 := LSX_k hx e3 (by simp)
  have hR1 := RDR_k h.2.1 e3 (by simp)
  have hl7r : l 7 ≠ rd := LSX_rd hx h.2.1
  refine CR_y e1 (CR_y (rdr_p hR1) (CR_y rfl (CR_y (yR_of (r := some (l 7)) hP1.1 rfl) (CR_y rfl (CR_g (lsx_o hx1) ?_)))))
  have e5' := e5
  obtain ⟨a1, a2, g1, _⟩ := e5'
  obtain ⟨Y2, d1, d2, d3, d4, d5⟩ := lsx_a (n := n) e2 hx1 g1 (by decide) (by omega)
  refine CR_y d1 ?_
  have hR2 := RDR_k hR1 d3 (by simpa using hl7r.symm)
  have hW := h.2.2
  have hf1 : FR Y0 Y1 [rd, l 7] := FR_T hf e3 (fun a h => by cases h) hD
  refine k Y2 ⟨d2, hR2, by omega⟩ (FR_T hf1 d3 (fun a h => Or.inl (by rw [List.mem_singleton.mp h]; simp)) hD) (SVX_lo hf.1 (SVX_k d3.2.2 e5)) d5 (fun x t q => RTk_k d3.2.2 (RTk_k e3.2.2 q))
theorem KN_l7 (h : KN Y fl c1 k) (hx : LSX Y (l 7) xs) : fl ≠ l 7 := fun c => by
  obtain ⟨⟨r, g1⟩, _⟩ := h
  obtain ⟨⟨cap, h1, _⟩, _⟩ := hx
  rw [c, h1] at g1
  cases g1
theorem PLC_l7 (h : PLC Y pl l os p rc sq) (hx : LSX Y (l 7) xs) : pl ≠ l 7 := fun c => by
  obtain ⟨⟨cap, h1, _⟩, _⟩ := hx
  have h2 := h.1
  rw [c, h1] at h2
  cases h2
/-- readSplit -/
theorem sp_ok (h : RS rd pl W Y ts) (hP : SVP Y pl l os p rc sq fl c1 k xs spl) (h26 : (hd ts).1 = 26) (hn : 6002 ≤ n) (hE : W ≤ WE + 100) : CR rd pl Y [rd, l 7] W WE (c96 n rd (some fl) Y) (sSpl k spl ts) (fun z => z.2) (fun Y1 z v => ∃ a, v = some a ∧ RSp Y1 a z.1 ∧ LSX Y1 (l 7) (xs ++ [a]) ∧ spl.length < 100) := by
  obtain ⟨hP1, hK, hx, hA, hs, hc7⟩ := hP
  have hD := h.1.2
  have hW := h.2.2
  have hlt := rdr_len h.2.1
  have hlen := AL_len hA
  have hpr : pl ∉ [rd, l 7] := by simpa using ⟨pl_rd h hP1, PLC_l7 hP1 hx⟩
  obtain ⟨hfr, hcr⟩ := KN_rd hK h
  have hfl : fl ∉ [rd, l 7] := by simpa using ⟨hfr, KN_l7 hK hx⟩
  have hc1 : c1 ∉ [rd, l 7] := by simpa using ⟨hcr, hc7⟩
  have hl7r : l 7 ≠ rd := LSX_rd hx h.2.1
  have hs1 : ∀ a ∈ [rd], a ∈ [rd, l 7] ∨ Y.2.1 ≤ a := fun a h => Or.inl (by rw [List.mem_singleton.mp h]; simp)
  unfold c96 sSpl
  refine CR_y (rdr_p h.2.1) (CR_y rfl (CR_y (yR_of (r := some (l 7)) hP1.1 rfl) (CR_y rfl (CR_g (lsx_o hx) (CR_y (lsx_n hx) (CR_g (rdr_o h.2.1) ?_))))))
  dsimp only
  refine CR_b (fw_ok (hv := spl.length) (mo := 100) h (by rw [hlen]) rfl (by omega) (by omega) (by omega) (by omega)) FR_R hs1 hD ?_
  rintro ts1 v Y1 hS1 hf1 hf01 ⟨i1, i2, i3⟩
  refine CR_g (rdr_o hS1.2.1) ?_
  refine CR_b (tk_ok (s := 2) hS1 (by omega) (by omega)) hf01 hs1 hD ?_
  rintro ⟨w, ts2⟩ v Y2 hS2 hf2 hf02 ⟨wa, we, wn, rfl, w1, w2, w3, w4, w5⟩
  dsimp only at hS2 w1 w2 w3 w4 w5 ⊢
  refine CR_g (rdr_o hS2.2.1) ?_
  refine CR_b (tk_ok (s := 4) hS2 (by omega) (by omega)) hf02 hs1 hD ?_
  rintro ⟨sl, ts3⟩ v Y3 hS3 hf3 hf03 ⟨za, ze, zn, rfl, z1, z2, z3, z4, z5⟩
  dsimp only at hS3 z1 z2 z3 z4 z5 ⊢
  have hx3 : LSX Y3 (l 7) xs := LSX_k (LSX_k (LSX_k hx hf1 (by simpa using hl7r)) hf2 (by simpa using hl7r)) hf3 (by simpa using hl7r)
  refine sv_put (S := [rd, l 7]) (y3 := 8) (L := 8) hS3 hf03 hD hP1 hx3 (by omega) rfl (Or.inr (Or.inr rfl)) hpr ?_
  intro Y4 hS4 hf04 hX4 hx4 hT4
  dsimp only
  refine CR_g (rdr_o hS4.2.1) ?_
  rw [rb_eat]
  refine CR_b (tk_ok (s := 7) (RS_le hS4 (show _ ≤ W by omega)) (by omega) (by omega)) hf04 hs1 hD ?_
  rintro ⟨t5, ts5⟩ v Y5 hS5 hf5 hf05 ⟨_, _, _, rfl, _, _, _, q7, q8⟩
  dsimp only at hS5 q7 q8 ⊢
  have hlp := shl_ok (n := n) (W := W) (WE := WE) (rd := rd) (pl := pl) (Ys := Y5) (x := Y3.2.1) (nm := .ref wa) (sa := .ref za) (w := w.2.2.1) (sw := sl.2.2.1) (l2 := some wa) (l3 := some za) hK hfl hc1 hD (by simp) hn (by omega) n 0 (sh := []) (by omega) (by omega) rfl (RS_le hS5 (by omega)) hf05 (SVX_k hf5.2.2 hX4) MK_R
  refine CR_r hlp FR_R (fun a h => Or.inl h) hD (Nat.le_refl _) ?_
  rintro Y6 ⟨⟨w', s', sh'⟩, ts6⟩ v hS6 hf6 ⟨rfl, g1, g2, g3, g4⟩
  dsimp only at g1 g3 g4 ⊢
  have hRw : RNm Y6 wa w.2.2.1 := ⟨w, g2.2 _ _ (RTk_k hf5.2.2 (hT4 _ _ (RTk_k hf3.2.2 ⟨we, wn, w1⟩))), by unfold ttx; rw [if_neg (by omega)]⟩
  have hRz : RNm Y6 za sl.2.2.1 := ⟨sl, g2.2 _ _ (RTk_k hf5.2.2 (hT4 _ _ ⟨ze, zn, z1⟩)), by unfold ttx; rw [if_neg (by omega)]⟩
  refine ⟨Y3.2.1, rfl, ⟨wa, za, 8, SVX_lo (Nat.zero_le _) g1, by rw [g3]; exact hRw, by rw [g4]; exact hRz⟩, LSX_m (LSX_k hx4 hf5 (by simpa using hl7r)) g2 hl7r, ?_⟩
  exact i3
/-- readRoll -/
theorem ro_ok (h : RS rd pl W Y ts) (hP : SVP Y pl l os p rc sq fl c1 k xs spl) (h27 : (hd ts).1 = 27) (hn : 6002 ≤ n) (hE : W ≤ WE + 100) : CR rd pl Y [rd, l 7] W WE (c104 n rd (some fl) Y) (sRol k spl ts) (fun z => z.2) (fun Y1 z v => ∃ a, v = some a ∧ RSp Y1 a z.1 ∧ LSX Y1 (l 7) (xs ++ [a]) ∧ spl.length < 100) := by
  obtain ⟨hP1, hK, hx, hA, hs, hc7⟩ := hP
  have hD := h.1.2
  have hW := h.2.2
  have hlt := rdr_len h.2.1
  have hlen := AL_len hA
  have hpr : pl ∉ [rd, l 7] := by simpa using ⟨pl_rd h hP1, PLC_l7 hP1 hx⟩
  obtain ⟨hfr, hcr⟩ := KN_rd hK h
  have hfl : fl ∉ [rd, l 7] := by simpa using ⟨hfr, KN_l7 hK hx⟩
  have hc1 : c1 ∉ [rd, l 7] := by simpa using ⟨hcr, hc7⟩
  have hl7r : l 7 ≠ rd := LSX_rd hx h.2.1
  have hs1 : ∀ a ∈ [rd], a ∈ [rd, l 7] ∨ Y.2.1 ≤ a := fun a h => Or.inl (by rw [List.mem_singleton.mp h]; simp)
  unfold c104 sRol
  refine CR_y (rdr_p h.2.1) (CR_y rfl (CR_y (yR_of (r := some (l 7)) hP1.1 rfl) (CR_y rfl (CR_g (lsx_o hx) (CR_y (lsx_n hx) (CR_g (rdr_o h.2.1) ?_))))))
  dsimp only
  refine CR_b (fw_ok (hv := spl.length) (mo := 100) h (by rw [hlen]) rfl (by omega) (by omega) (by omega) (by omega)) FR_R hs1 hD ?_
  rintro ts1 v Y1 hS1 hf1 hf01 ⟨i1, i2, i3⟩
  refine CR_g (rdr_o hS1.2.1) ?_
  refine CR_b (sr_ok (full := false) rfl hS1 (by omega)) hf01 hs1 hD ?_
  rintro ⟨_, ts1'⟩ u1 Y1' hS1' hf1' hf01' ⟨rfl, a2, a3, a4⟩
  dsimp only at hS1' a2 a3 ⊢
  refine CR_g (rdr_o hS1'.2.1) ?_
  refine CR_b (tk_ok (s := 2) hS1' (by omega) (by omega)) hf01' hs1 hD ?_
  rintro ⟨w, ts2⟩ v Y2 hS2 hf2 hf02 ⟨wa, we, wn, rfl, w1, w2, w3, w4, w5⟩
  dsimp only at hS2 w1 w2 w3 w4 w5 ⊢
  refine CR_g (rdr_o hS2.2.1) ?_
  refine CR_b (tk_ok (s := 4) hS2 (by omega) (by omega)) hf02 hs1 hD ?_
  rintro ⟨sl, ts3⟩ v Y3 hS3 hf3 hf03 ⟨za, ze, zn, rfl, z1, z2, z3, z4, z5⟩
  dsimp only at hS3 z1 z2 z3 z4 z5 ⊢
  have hx3 : LSX Y3 (l 7) xs := LSX_k (LSX_k (LSX_k (LSX_k hx hf1 (by simpa using hl7r)) hf1' (by simpa using hl7r)) hf2 (by simpa using hl7r)) hf3 (by simpa using hl7r)
  refine sv_put (S := [rd, l 7]) (y3 := 2) (L := 2) hS3 hf03 hD hP1 hx3 (by omega) rfl (Or.inr (Or.inl rfl)) hpr ?_
  intro Y4 hS4 hf04 hX4 hx4 hT4
  dsimp only
  refine CR_g (rdr_o hS4.2.1) ?_
  have hRS4 : RS rd pl (W - 300) Y4 ts3 := RS_le hS4 (by omega)
  have hE4 : W - 300 ≤ WE + 250 := by omega
  refine CR_b (vl_ok hRS4 (KN_k hK hf04 hfl hc1) hn hE4) hf04 hs1 hD ?_
  rintro ⟨_, ts5⟩ v5 Y5 hS5 hf5 hf05 ⟨rfl, d1, d2⟩
  dsimp only at hS5 d1 d2 ⊢
  have hX5 := SVX_k hf5.2.2 hX4
  obtain ⟨Y6, e1, e2, e3, e4, e5⟩ := sv_add (n := n) (p1 := u1) (v1 := v5) hS5 hf05 hD hX5 (by show 0 < 2; omega)
  refine CR_g (sv_o hX5) (CR_y e1 (CR_g (rdr_o e2.2.1) ?_))
  rw [rb_eat]
  have hE6 : W - 300 - 300 ≤ WE + 250 := Nat.le_trans (Nat.sub_le _ _) hE4
  refine CR_b (tk_ok (s := 28) e2 (by omega) hE6) e3 hs1 hD ?_
  rintro ⟨t7, ts7⟩ v Y7 hS7 hf7 hf07 ⟨_, _, _, rfl, _, _, _, q7, q8⟩
  dsimp only at hS7 q7 q8 ⊢
  refine CR_g (rdr_o hS7.2.1) ?_
  have hE7 : W - 300 - 300 - 300 ≤ WE + 250 := Nat.le_trans (Nat.sub_le _ _) hE6
  refine CR_b (vl_ok hS7 (KN_k hK hf07 hfl hc1) hn hE7) hf07 hs1 hD ?_
  rintro ⟨_, ts8⟩ v8 Y8 hS8 hf8 hf08 ⟨rfl, b1, b2⟩
  dsimp only at hS8 b1 b2 ⊢
  have hX8 := SVX_k hf8.2.2 (SVX_k hf7.2.2 e4)
  obtain ⟨Y9, g1, g2, g3, g4, g5⟩ := sv_add (n := n) (p1 := 10000 - u1) (v1 := v8) hS8 hf08 hD hX8 (by show 1 < 2; omega)
  refine CR_g (sv_o hX8) (CR_y g1 ?_)
  have hM : MK rd Y4 Y9 := MK_T (MK_f hf5) (MK_T (MK_s e5) (MK_T (MK_f hf7) (MK_T (MK_f hf8) (MK_s g5))))
  have hRw : RNm Y9 wa w.2.2.1 := ⟨w, hM.2 _ _ (hT4 _ _ (RTk_k hf3.2.2 ⟨we, wn, w1⟩)), by unfold ttx; rw [if_neg (by omega)]⟩
  have hRz : RNm Y9 za sl.2.2.1 := ⟨sl, hM.2 _ _ (hT4 _ _ ⟨ze, zn, z1⟩), by unfold ttx; rw [if_neg (by omega)]⟩
  refine CR_s (s := ((w.2.2.1, sl.2.2.1, [(u1, v5), (10000 - u1, v8)]), ts8)) (RS_le g2 (sub4 W)) g3 ⟨Y3.2.1, rfl, ⟨wa, za, 2, SVX_lo (Nat.zero_le _) g4, hRw, hRz⟩, LSX_m hx4 hM hl7r, i3⟩
/-- readServe -/
theorem se_ok (h : RS rd pl W Y ts) (hP : SVP Y pl l os p rc sq fl c1 k xs spl) (hn : 6002 ≤ n) (hE : W ≤ WE + 100) : CR rd pl Y [rd, l 7] (W - 300) WE (c95 n rd (some fl) Y) (sSrv k spl ts) (fun z => z.2.2) (fun Y1 z v => ∃ a xs' more, v = some a ∧ RSv Y1 z.2.1 a z.1 ∧ LSX Y1 (l 7) xs' ∧ AL (RSp Y1) xs' z.2.1 ∧ z.2.1 = spl ++ more ∧ z.2.1.length ≤ 100) := by
  have hP' := hP
  obtain ⟨hP1, hK, hx, hA, hs, hc7⟩ := hP'
  have hD := h.1.2
  have h231 := hD.1
  have hW := h.2.2
  have hlt := rdr_len h.2.1
  have hlen := AL_len hA
  obtain ⟨hfr, hcr⟩ := KN_rd hK h
  have hfl : fl ∉ [rd, l 7] := by simpa using ⟨hfr, KN_l7 hK hx⟩
  have hc1 : c1 ∉ [rd, l 7] := by simpa using ⟨hcr, hc7⟩
  have hl7r : l 7 ≠ rd := LSX_rd hx h.2.1
  have hs1 : ∀ a ∈ [rd], a ∈ [rd, l 7] ∨ Y.2.1 ≤ a := fun a h => Or.inl (by rw [List.mem_singleton.mp h]; simp)
  have fin : ∀ {Y1 : zY} {v : Option Nat} {z : Srv × List Spl × List Tk}, RS rd pl W Y1 z.2.2 → FR Y Y1 [rd, l 7] → (∃ a xs' more, v = some a ∧ RSv Y1 z.2.1 a z.1 ∧ LSX Y1 (l 7) xs' ∧ AL (RSp Y1) xs' z.2.1 ∧ z.2.1 = spl ++ more ∧ z.2.1.length ≤ 100) → CR rd pl Y [rd, l 7] (W - 300) WE (cb95_67 n rd (some fl) v Y1) (rb (sEat 9 z.2.2) fun ts => .inr (z.1, z.2.1, ts)) (fun z => z.2.2) (fun Y1 z v => ∃ a xs' more, v = some a ∧ RSv Y1 z.2.1 a z.1 ∧ LSX Y1 (l 7) xs' ∧ AL (RSp Y1) xs' z.2.1 ∧ z.2.1 = spl ++ more ∧ z.2.1.length ≤ 100) := by
    rintro Y1 v ⟨sv, sp, ts1⟩ hS1 hf1 ⟨a, xs', more, rfl, g1, g2, g3, g4, g5⟩
    dsimp only at hS1 g1 g3 g4 g5 ⊢
    unfold cb95_67
    rw [rb_eat]
    refine CR_g (rdr_o hS1.2.1) ?_
    refine CR_b (tk_ok (s := 9) hS1 (by omega) (by omega)) hf1 hs1 hD ?_
    rintro ⟨t2, ts2⟩ v Y2 hS2 hf2 hf02 _
    have hv : RSv Y2 sp a sv := by
      have := RSv_k (more := []) hf2.2.2 g1
      rw [List.append_nil] at this
      exact this
    exact CR_s (s := (sv, sp, ts2)) hS2 hf02 ⟨a, xs', more, rfl, hv, LSX_k g2 hf2 (by simpa using hl7r), AL_imp (fun x y => RSp_k hf2.2.2) g3, g4, g5⟩
  have fin2 : ∀ {Y1 : zY} {v : Option Nat} {z : Spl × List Tk}, RS rd pl W Y1 z.2 → FR Y Y1 [rd, l 7] → (∃ a, v = some a ∧ RSp Y1 a z.1 ∧ LSX Y1 (l 7) (xs ++ [a]) ∧ spl.length < 100) → CR rd pl Y [rd, l 7] (W - 300) WE (cb95_67 n rd (some fl) v Y1) (rb (sEat 9 z.2) fun ts => .inr (.inr spl.length, spl ++ [z.1], ts)) (fun z => z.2.2) (fun Y1 z v => ∃ a xs' more, v = some a ∧ RSv Y1 z.2.1 a z.1 ∧ LSX Y1 (l 7) xs' ∧ AL (RSp Y1) xs' z.2.1 ∧ z.2.1 = spl ++ more ∧ z.2.1.length ≤ 100) := by
    rintro Y1 v ⟨sp, ts1⟩ hS1 hf1 ⟨a, rfl, g1, g2, g3⟩
    exact fin (z := (.inr spl.length, spl ++ [sp], ts1)) hS1 hf1 ⟨a, xs ++ [a], [sp], rfl, ⟨sp, by rw [List.getElem?_append_right (Nat.le_refl _), Nat.sub_self]; rfl, g1⟩, g2, AL_app (AL_imp (fun x y => RSp_k hf1.2.2) hA) g1, rfl, by rw [List.length_append]; show spl.length + 1 ≤ 100; omega⟩
  unfold c95 sSrv sSrv0
  refine cr_hd h.2.1 (by omega) fun _ => ?_
  by_cases h26 : (hd ts).1 = 26
  · rw [if_pos (decide_eq_true (by omega)), if_pos h26, rb_assoc]
    refine CR_g (rdr_o h.2.1) ?_
    refine CR_b (sp_ok h hP h26 hn hE) FR_R (fun a h => Or.inl h) hD ?_
    intro z v Y1 hS1 hf1 hf01 hq
    exact fin2 hS1 hf01 hq
  rw [if_neg (by rw [decide_eq_false (by omega)]; decide), if_neg h26]
  refine cr_hd h.2.1 (by omega) fun _ => ?_
  by_cases h27 : (hd ts).1 = 27
  · rw [if_pos (decide_eq_true (by omega)), if_pos h27, rb_assoc]
    refine CR_g (rdr_o h.2.1) ?_
    refine CR_b (ro_ok h hP h27 hn hE) FR_R (fun a h => Or.inl h) hD ?_
    intro z v Y1 hS1 hf1 hf01 hq
    exact fin2 hS1 hf01 hq
  rw [if_neg (by rw [decide_eq_false (by omega)]; decide), if_neg h27, rb_assoc]
  obtain ⟨Y1, e1, e2, e3, e4, e5, e6⟩ := sv_new (n := n) (o1 := none) (o2 := none) (y3 := 1) (L := 1) h.1 rfl (Or.inl rfl)
  refine CR_y e1 ?_
  dsimp only
  have hS1 : RS rd pl (W + 55) Y1 ts := ⟨e2, RDR_k h.2.1 e3 (by simp), by omega⟩
  have hf01 : FR Y Y1 [rd, l 7] := FR_M e3 (fun a h => by cases h)
  refine CR_g (rdr_o hS1.2.1) ?_
  refine CR_b (vl_ok hS1 (KN_k hK hf01 hfl hc1) hn (by omega)) hf01 hs1 hD ?_
  rintro ⟨_, ts2⟩ v2 Y2 hS2 hf2 hf02 ⟨rfl, d1, d2⟩
  dsimp only at hS2 d1 d2 ⊢
  have hX2 := SVX_k hf2.2.2 e5
  obtain ⟨Y3, g1, g2, g3, g4, g5⟩ := sv_add (n := n) (p1 := 10000) (v1 := v2) hS2 hf02 hD hX2 (by show 0 < 1; omega)
  refine CR_g (sv_o hX2) (CR_y g1 ?_)
  have hM : MK rd Y1 Y3 := MK_T (MK_f hf2) (MK_s g5)
  have hx3 : LSX Y3 (l 7) xs := LSX_m (LSX_k hx e3 (by simp)) hM hl7r
  exact fin (z := (.inl v2, spl, ts2)) (RS_le g2 (by omega)) g3 ⟨Y.2.1, xs, [], rfl, SVX_lo (Nat.zero_le _) g4, hx3, AL_imp (fun x y => RSp_k g3.2.2) hA, by rw [List.append_nil], hs⟩
end
end ZJT

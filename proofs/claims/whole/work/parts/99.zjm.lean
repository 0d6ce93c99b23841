/-! THE CLASS READS: tests -/
section ZJM
def tkO (o : yO) : Bool := match o with
  | .inl (c, _) => Nat.beq c 9
  | .inr (.inr (.inr _)) => true
  | _ => false
section
variable {n : Nat} {Y Y0 Y1 Y2 Z : zY} {a b s k p m e tp r q rd pl W W2 WE : Nat} {S S1 F F1 F2 : List Nat} {T : List Int32} {t : Tk} {ts : List Tk} {x v : Int32} {o o' : yO} {nx nx' vv : Value} {φ ψ : Den}
theorem RTk_w (hq : Y.1 q = some o) (ho : tkO o = false) : ∀ x t, RTk Y x t → RTk (yu Y q (some o')) x t := by
  rintro x t ⟨e, nx, s, h1, h2, h3⟩
  refine ⟨e, nx, s, ?_, ?_, h3⟩
  · rw [yu_n]
    · exact h1
    · intro c; rw [c, hq] at h1; cases h1; cases ho
  · rw [yu_n]
    · exact h2
    · intro c; rw [c, hq] at h2; cases h2; cases ho
theorem TKC_w (hq : Y.1 q = some o) (ho : tkO o = false) : ∀ {ts : List Tk} {a : Nat}, TKC Y ts a → TKC (yu Y q (some o')) ts a
  | [], _, h => h
  | t :: ts, a, h => by
    obtain ⟨e, nx, ⟨s, h1, h3, h4⟩, h2⟩ := h
    refine ⟨e, nx, ⟨s, ?_, ?_, h4⟩, ?_⟩
    · rw [yu_n]
      · exact h1
      · intro c; rw [c, hq] at h1; cases h1; cases ho
    · rw [yu_n]
      · exact h3
      · intro c; rw [c, hq] at h3; cases h3; cases ho
    rcases h2 with c | ⟨c, b, d, g⟩
    · exact Or.inl c
    · exact Or.inr ⟨c, b, d, TKC_w hq ho g⟩
/-- another cell is written -/
theorem RS_w (h : RS rd pl W Y ts) (hq : Y.1 q = some o) (ho : tkO o = false) (hr : q ≠ rd) (h139 : 139 ≤ q) : RS rd pl W (yu Y q (some o')) ts := by
  obtain ⟨hB, ⟨⟨fk, fp, a, h1, h2⟩, h3⟩, hW⟩ := h
  exact ⟨BY_u hB h139 (hB.2.2 _ _ hq), ⟨⟨fk, fp, a, (yu_n hr.symm).trans h1, TKC_w hq ho h2⟩, h3⟩, hW⟩
theorem CR_i {α β σ τ : Type} {o : Option ((α ⊕ Nat) × zY)} {s : σ} {L : σ → List Tk} {Q : zY → σ → α → Prop} {f : α → zY → Option ((β ⊕ Nat) × zY)} {r : RR τ} {L2 : τ → List Tk} {Q2 : zY → τ → β → Prop} (h : CR rd pl Y S1 W WE o (.inr s) L Q) (hf : FR Y0 Y S) (hs : ∀ a ∈ S1, a ∈ S ∨ Y0.2.1 ≤ a) (hD : DM Y0) (k : ∀ v Y1, RS rd pl W Y1 (L s) → FR Y Y1 S1 → FR Y0 Y1 S → Q Y1 s v → CR rd pl Y0 S W2 WE (f v Y1) r L2 Q2) : CR rd pl Y0 S W2 WE (o.bind fun p => zth p f (fun x h => zgd (exOk x) <| some (.inr x, h))) r L2 Q2 := by
  obtain ⟨v, Y1, h1, h2, h3, h4⟩ := h
  rw [h1]
  exact k v Y1 h2 h3 (FR_T hf h3 hs hD) h4
theorem rb_eat {α : Type} {g : List Tk → RR α} : rb (sEat s ts) g = rb (sTake s ts) (fun x => g x.2) := by
  unfold sEat
  rw [rb_assoc]
  rfl
theorem RS_le (h : RS rd pl W Y ts) (hW : W ≤ W2) : RS rd pl W2 Y ts := ⟨h.1, h.2.1, Nat.le_trans h.2.2 hW⟩
theorem RS_ne (h : RS rd pl W Y ts) {fs : List Value} {c : Nat} (hq : Y.1 q = some (oB c fs)) (hc : c ≠ 5) : q ≠ rd := fun e => by
  obtain ⟨_, ⟨⟨fk, fp, a, h1, h2⟩, h3⟩, hW⟩ := h
  rw [e, h1] at hq
  exact hc (congrArg (fun o : Option yO => match o with | some (.inl (c, _)) => c | _ => 0) hq).symm
/-- a name, a part for it -/
def nt (ts : List Tk) (p : Nat) : RR ((Tk × List Tk) × Nat) := rb (sTake 2 ts) fun w => rb (sPrt p w.1) fun p' => .inr (w, p')
def sT2 (w : List Int32) (ts : List Tk) (p : Nat) : RR (Den × List Tk × Nat) :=
  if (hd ts).1 = 41 then rb (sEat 7 (adv ts)) fun ts => rb (sOne ts) fun o => rb (sAmgL 401 [thg o.1] o.2 p) fun x => rb (sEat 8 x.2.1) fun ts => .inr (dAmong w x.1, ts, x.2.2)
  else if (hd ts).1 = 42 then .inr (dTest 42 w (false, 0, []), adv ts, p)
  else if (hd ts).1 = 35 then rb (sOne (adv ts)) fun o => .inr (dTest 35 w (thg o.1), o.2, p)
  else if (hd ts).1 = 36 ∨ (hd ts).1 = 37 then rb (sTake 3 (adv ts)) fun o => .inr (dTest (hd ts).1 w (thg o.1), o.2, p)
  else if (hd ts).1 = 38 ∨ (hd ts).1 = 39 ∨ (hd ts).1 = 40 then rb (sTake 4 (adv ts)) fun o => .inr (dTest (hd ts).1 w (thg o.1), o.2, p)
  else .inl (sErr 2 (hd ts))
theorem sTest_eq : sTest ts p = rb (nt ts p) fun x => sT2 x.1.1.2.2.1 x.1.2 x.2 := by
  unfold sTest nt
  rw [rb_assoc]
  congr 1
  funext w
  rw [rb_assoc]
  rfl
/-- the plan's cell -/
def PLC (Y : zY) (pl : Nat) (l : Nat → Nat) (os pt rc sq : Nat) : Prop := Y.1 pl = some (oB 4 (plF l os pt rc sq)) ∧ 139 ≤ pl
variable {l : Nat → Nat} {os rc sq : Nat}
theorem PLC_k (h : PLC Y pl l os p rc sq) (hf : FR Y Y1 S) (hs : pl ∉ S) : PLC Y1 pl l os p rc sq := ⟨FR_k hf h.1 hs, h.2⟩
theorem PLC_u {c : Nat} {fs : List Value} (h : PLC Y pl l os p rc sq) (hq : Y.1 q = some (oB c fs)) (hc : c ≠ 4) : PLC (yu Y q (some o')) pl l os p rc sq := ⟨by
  rw [yu_n]
  · exact h.1
  · intro e
    rw [← e, h.1] at hq
    exact hc (congrArg (fun o : Option yO => match o with | some (.inl (c, _)) => c | _ => 0) hq).symm, h.2⟩
theorem pl_rd (h : RS rd pl W Y ts) (hP : PLC Y pl l os p rc sq) : pl ≠ rd := RS_ne h hP.1 (by decide)
theorem nt_ok (h : RS rd pl W Y ts) (hP : PLC Y pl l os p rc sq) (hp : p ≤ 400) (hE : W ≤ WE + 250) : CR rd pl Y [rd, pl] (W - 278) WE (c82 n rd Y) (nt ts p) (fun x => x.1.2) (fun Y1 x v => ∃ b wt, v = some b ∧ Y.2.1 ≤ b ∧ Y1.1 b = some (oB 3 [.ref ((hd x.1.2).1 + 1), .ref wt, .null, .int (-1), .null, .null]) ∧ RNm Y1 wt x.1.1.2.2.1 ∧ PLC Y1 pl l os x.2 rc sq ∧ x.2 ≤ 400) := by
  unfold c82 nt
  have hD := h.1.2
  have hpr := pl_rd h hP
  refine CR_g (rdr_o h.2.1) ?_
  refine CR_b (tk_ok (s := 2) h (by omega) hE) FR_R (fun a h => Or.inl (by rw [List.mem_singleton.mp h]; simp)) hD ?_
  rintro ⟨t, ts'⟩ v Y1 hS hf hf0 ⟨q, e, nx, rfl, q2, q3, q4, q5, q6⟩
  dsimp only at q2 q3 q4 q5 q6 hS ⊢
  obtain ⟨a, e', nx', j1, j2, j3, j4⟩ := rdr_t hS.2.1
  have hP1 := PLC_k hP hf (by simpa using hpr)
  have hW := h.2.2
  have hlt := rdr_len h.2.1
  refine CR_y j1 (CR_y rfl (CR_y j4 (CR_g (rdr_o hS.2.1) ?_)))
  refine CR_b (np_ok (s := (hd ts').1) hS hP1.1 hP1.2 q2 (by omega) (by omega)) hf0 (fun a h => Or.inl h) hD ?_
  rintro p' v Y2 hS2 hf2 hf02 ⟨b, rfl, b1, b2, b3, b4, b5, b6, b7⟩
  have h231 := hD.1
  have hY01 := hf0.1
  have hb139 : 139 ≤ b := by omega
  have hbr : b ≠ rd := RS_ne hS2 b3 (by decide)
  refine CR_y rfl (CR_y (yP_of b3 hb139 rfl rfl) ?_)
  have hRn : RNm Y2 q t.2.2.1 := ⟨t, RTk_k b7.2.2 ⟨e, nx, q2⟩, by unfold ttx; rw [if_neg (by omega)]⟩
  refine CR_s (s := ((t, ts'), p')) (RS_le (RS_w hS2 b3 rfl hbr hb139) (by omega)) (FR_n hf02 hD (by omega)) ⟨b, q, rfl, by omega, yu_s, RNm_t (RTk_w b3 rfl) hRn, ?_, ?_⟩
  · exact PLC_u ⟨b4, hP.2⟩ b3 (by decide)
  · show p' ≤ 400
    omega
/-- a test but among -/
theorem rt_ok {w : List Int32} {wt : Nat} (h : RS rd pl W Y ts) (hP : PLC Y pl l os p rc sq) (hf : FR Y0 Y S) (hD : DM Y0) (hb0 : Y0.2.1 ≤ b) (hb : Y.1 b = some (oB 3 [.ref ((hd ts).1 + 1), .ref wt, .null, .int (-1), .null, .null])) (hw : RNm Y wt w) (h41 : (hd ts).1 ≠ 41) (hr : rd ∈ S) (hE : W ≤ WE + 250) : CR rd pl Y0 S W WE (c85 n rd (some b) Y) (sT2 w ts p) (fun x => x.2.1) (fun Y1 x _ => PRT Y1 1 b x.1 .null [b] ∧ PLC Y1 pl l os x.2.2 rc sq ∧ x.2.2 = p) := by
  obtain ⟨a, e, nx, k1, k2, k3, k4⟩ := rdr_t h.2.1
  have hW := h.2.2
  have h43 : (hd ts).1 < 43 := by obtain ⟨_, _, _, _, _, g⟩ := k2; exact g.1
  have h231 := hD.1
  have hpr := pl_rd h hP
  have hbr : b ≠ rd := RS_ne h hb (by decide)
  have hs1 : ∀ a ∈ [rd], a ∈ S ∨ Y0.2.1 ≤ a := fun a h => Or.inl (by rw [List.mem_singleton.mp h]; exact hr)
  unfold c85
  refine CR_y rfl (CR_y (yR_of (r := some ((hd ts).1 + 1)) hb rfl) (CR_y rfl (CR_g (yisO_of (fx_sort h.1.1 h43)) ?_)))
  have e66 : c66 n ((hd ts).1 + 1) Y = some (nI (hd ts).1, Y) := by unfold c66; exact bnd_eq (yI_of (fx_sort h.1.1 h43) rfl) rfl
  refine CR_y e66 (CR_y (fx_sw h.1.1 h43) ?_)
  dsimp only
  unfold sT2
  rw [if_neg h41]
  -- the thing of a test is kept
  have one : ∀ {Y2 : zY} {ts2 : List Tk} {v : Option Nat} {o : Tk} {s : Nat}, RS rd pl W Y2 ts2 → FR Y0 Y2 S → Y2.1 b = some (oB 3 [.ref (s + 1), .ref wt, .null, .int (-1), .null, .null]) → RNm Y2 wt w → PLC Y2 pl l os p rc sq → (∃ a, v = some a ∧ RTk Y2 a o) → tsO s o → CR rd pl Y0 S W WE ((yP Y2 b 3 2 (va_rf v)).bind fun h => some ((.inl () : Unit ⊕ Nat), h)) (.inr (dTest s w (thg o), ts2, p)) (fun x => x.2.1) (fun Y1 x _ => PRT Y1 1 b x.1 .null [b] ∧ PLC Y1 pl l os x.2.2 rc sq ∧ x.2.2 = p) := by
    rintro Y2 ts2 v o s hS2 hf2 hb2 hw2 hP2 ⟨c, rfl, hc⟩ hto
    refine CR_y (yP_of hb2 (by omega) rfl rfl) ?_
    refine CR_s (s := (dTest s w (thg o), ts2, p)) (RS_w hS2 hb2 rfl hbr (by omega)) (FR_n hf2 hD hb0) ⟨⟨s, .ref wt, .ref c, -1, .null, [], rfl, by simp, by omega, yu_s, ?_⟩, PLC_u hP2 hb2 (by decide), rfl⟩
    exact Or.inr (Or.inr (Or.inr (Or.inr ⟨w, wt, rfl, RNm_t (RTk_w hb2 rfl) hw2, Or.inr (Or.inl ⟨rfl, c, o, rfl, RTk_w hb2 rfl _ _ hc, hto, rfl⟩)⟩)))
  have two : ∀ (j : Nat), 2 ≤ j → (∀ o : Tk, o.1 = j → tsO (hd ts).1 o) → 2 ≤ (hd ts).1 → CR rd pl Y0 S W WE ((yR Y b 3 0).bind fun x36 => zgd (yisO Y rd 5) <| (c71 n rd x36 Y).bind fun p43 => zth p43 (fun r40 h41 => zgd (yisO h41 rd 5) <| (c71 n rd (some (j + 1)) h41).bind fun p49 => zth p49 (fun r46 h47 => (yP h47 b 3 2 (va_rf r46)).bind fun h50 => some ((.inl () : Unit ⊕ Nat), h50)) (fun x48 h47 => zgd (exOk x48) <| some (.inr x48, h47))) (fun x42 h41 => zgd (exOk x42) <| some (.inr x42, h41))) (rb (sTake j (adv ts)) fun o => .inr (dTest (hd ts).1 w (thg o.1), o.2, p)) (fun x => x.2.1) (fun Y1 x _ => PRT Y1 1 b x.1 .null [b] ∧ PLC Y1 pl l os x.2.2 rc sq ∧ x.2.2 = p) := by
    intro j hj hto h2
    refine CR_y (yR_of (r := some ((hd ts).1 + 1)) hb rfl) (CR_g (rdr_o h.2.1) ?_)
    refine CR_i (tk_any h h2 hE) hf hs1 hD ?_
    rintro v Y1 hS1 hf1 hf01 ⟨q, e, nx, rfl, q2, q3, q4, q5⟩
    dsimp only at hS1 q2 q3 q4 q5
    refine CR_g (rdr_o hS1.2.1) ?_
    refine CR_b (tk_ok (s := j) hS1 hj (by omega)) hf01 hs1 hD ?_
    rintro ⟨o, ts2⟩ v Y2 hS2 hf2 hf02 ⟨c, e, nx, rfl, c2, c3, c4, c5, c6⟩
    exact one (RS_le hS2 (by omega)) hf02 (FR_k hf2 (FR_k hf1 hb (by simpa using hbr)) (by simpa using hbr)) (RNm_k hf2.2.2 (RNm_k hf1.2.2 hw)) (PLC_k (PLC_k hP hf1 (by simpa using hpr)) hf2 (by simpa using hpr)) ⟨c, rfl, e, nx, c2⟩ (hto o c4)
  by_cases c42 : (hd ts).1 = 42
  · rw [if_pos c42]
    have e4 : swL.getD (hd ts).1 0 = 4 := by rw [c42]; rfl
    rw [e4, if_pos (show (4 : Int32) = 4 from rfl)]
    refine CR_g (rdr_o h.2.1) ?_
    have ht := tk_any (n := n) h (by omega) hE
    rw [c42] at ht
    refine CR_i ht hf hs1 hD ?_
    rintro v Y1 hS1 hf1 hf01 ⟨q, e, nx, rfl, q2, q3, q4, q5⟩
    dsimp only at hS1 q2 q3 q4 q5
    refine CR_s (s := (dTest 42 w (false, 0, []), adv ts, p)) (RS_le hS1 (by omega)) hf01 ⟨⟨42, .ref wt, .null, -1, .null, [], rfl, by simp, by omega, ?_, ?_⟩, PLC_k hP hf1 (by simpa using hpr), rfl⟩
    · rw [← c42]; exact FR_k hf1 hb (by simpa using hbr)
    · exact Or.inr (Or.inr (Or.inr (Or.inr ⟨w, wt, rfl, RNm_k hf1.2.2 hw, Or.inl ⟨rfl, rfl, rfl⟩⟩)))
  rw [if_neg c42]
  by_cases c35 : (hd ts).1 = 35
  · rw [if_pos c35]
    have e4 : swL.getD (hd ts).1 0 = 5 := by rw [c35]; rfl
    rw [e4, if_neg (show ¬ (5 : Int32) = 4 by decide), if_pos (show (5 : Int32) = 5 from rfl)]
    refine CR_g (rdr_o h.2.1) ?_
    have ht := tk_any (n := n) h (by omega) hE
    rw [c35] at ht
    refine CR_i ht hf hs1 hD ?_
    rintro v Y1 hS1 hf1 hf01 ⟨q, e, nx, rfl, q2, q3, q4, q5⟩
    dsimp only at hS1 q2 q3 q4 q5
    obtain ⟨⟨g, g1, g2⟩, g3⟩ := on_ok (n := n) (WE := WE) hS1 (by omega)
    refine CR_g (rdr_o hS1.2.1) (CR_y g1 (CR_g (rdr_o hS1.2.1) ?_))
    refine CR_b (g3 g g2) hf01 hs1 hD ?_
    rintro ⟨o, ts2⟩ v Y2 hS2 hf2 hf02 ⟨c, rfl, c2, c3, c4, c5⟩
    exact one (RS_le hS2 (by omega)) hf02 (by have := FR_k hf2 (FR_k hf1 hb (by simpa using hbr)) (by simpa using hbr); rw [c35] at this; exact this) (RNm_k hf2.2.2 (RNm_k hf1.2.2 hw)) (PLC_k (PLC_k hP hf1 (by simpa using hpr)) hf2 (by simpa using hpr)) ⟨c, rfl, c2⟩ (Or.inl ⟨rfl, c3⟩)
  rw [if_neg c35]
  by_cases c36 : (hd ts).1 = 36 ∨ (hd ts).1 = 37
  · rw [if_pos c36]
    have ht := two 3 (by omega) (fun o ho => Or.inr (Or.inl ⟨c36, ho⟩)) (by omega)
    rcases c36 with c | c
    · rw [show swL.getD (hd ts).1 0 = 6 by rw [c]; rfl, if_neg (show ¬ (6 : Int32) = 4 by decide), if_neg (show ¬ (6 : Int32) = 5 by decide), if_pos (show (6 : Int32) = 6 from rfl)]
      exact ht
    · rw [show swL.getD (hd ts).1 0 = 7 by rw [c]; rfl, if_neg (show ¬ (7 : Int32) = 4 by decide), if_neg (show ¬ (7 : Int32) = 5 by decide), if_neg (show ¬ (7 : Int32) = 6 by decide), if_pos (show (7 : Int32) = 7 from rfl)]
      exact ht
  rw [if_neg c36]
  by_cases c38 : (hd ts).1 = 38 ∨ (hd ts).1 = 39 ∨ (hd ts).1 = 40
  · rw [if_pos c38]
    have ht := two 4 (by omega) (fun o ho => Or.inr (Or.inr ⟨c38, ho⟩)) (by omega)
    rcases c38 with c | c | c
    · rw [show swL.getD (hd ts).1 0 = 8 by rw [c]; rfl, if_neg (show ¬ (8 : Int32) = 4 by decide), if_neg (show ¬ (8 : Int32) = 5 by decide), if_neg (show ¬ (8 : Int32) = 6 by decide), if_neg (show ¬ (8 : Int32) = 7 by decide), if_pos (show (8 : Int32) = 8 from rfl)]
      exact ht
    · rw [show swL.getD (hd ts).1 0 = 9 by rw [c]; rfl, if_neg (show ¬ (9 : Int32) = 4 by decide), if_neg (show ¬ (9 : Int32) = 5 by decide), if_neg (show ¬ (9 : Int32) = 6 by decide), if_neg (show ¬ (9 : Int32) = 7 by decide), if_neg (show ¬ (9 : Int32) = 8 by decide), if_pos (show (9 : Int32) = 9 from rfl)]
      exact ht
    · rw [show swL.getD (hd ts).1 0 = 10 by rw [c]; rfl, if_neg (show ¬ (10 : Int32) = 4 by decide), if_neg (show ¬ (10 : Int32) = 5 by decide), if_neg (show ¬ (10 : Int32) = 6 by decide), if_neg (show ¬ (10 : Int32) = 7 by decide), if_neg (show ¬ (10 : Int32) = 8 by decide), if_neg (show ¬ (10 : Int32) = 9 by decide), if_pos (show (10 : Int32) = 10 from rfl)]
      exact ht
  rw [if_neg c38]
  have hz : ∀ k : Fin 43, k.1 ≠ 42 → k.1 ≠ 35 → ¬ (k.1 = 36 ∨ k.1 = 37) → ¬ (k.1 = 38 ∨ k.1 = 39 ∨ k.1 = 40) → swL.getD k.1 0 ≠ 4 ∧ swL.getD k.1 0 ≠ 5 ∧ swL.getD k.1 0 ≠ 6 ∧ swL.getD k.1 0 ≠ 7 ∧ swL.getD k.1 0 ≠ 8 ∧ swL.getD k.1 0 ≠ 9 ∧ swL.getD k.1 0 ≠ 10 := by decide
  obtain ⟨z1, z2, z3, z4, z5, z6, z7⟩ := hz ⟨(hd ts).1, h43⟩ c42 c35 c36 c38
  rw [if_neg z1, if_neg z2, if_neg z3, if_neg z4, if_neg z5, if_neg z6, if_neg z7]
  exact CR_y k1 (CR_g (rdr_o h.2.1) (cr_ref h.1 h.2.1 k2 hf hr hD (by omega)))
end
end ZJM

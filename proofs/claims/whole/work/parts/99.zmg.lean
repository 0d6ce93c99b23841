/-! THE CALLS OF THE CLASS: know, as a whole -/
section ZMG
section
variable {n : Nat} {Y Y0 Y1 Y2 : zY} {x tp ou : Nat} {s : St}
theorem knw_c (h : CSt Y x s) (hn : 6002 ≤ n) : ∃ ex, CIn Y x ou (842 + 420 * s.1.length) (c132 n x Y) (sKnow s) ex ∧ ((sKnow s).1 = 0 ∨ ((sKnow s).1 = 1 ∧ ex = 18) ∨ ((sKnow s).1 = 2 ∧ ex = 19)) := by
  obtain ⟨hB, h1, h2, h3, tp, jd, pl, hx, hT, A, vI, vW, vY, ans, l0, rc0, sq0, bd0, xs0, bs, W0, hJ, hr⟩ := id h
  obtain ⟨a0, Y2, Y3, l, rc, sq, bd, g0, g1, g2, g3, g4, g5, ⟨frd, g6⟩, g7, g8, g9, g10, g11, g12, g13⟩ := rd_go (n := n) (ou := ou) h hx hn
  have hxl := hB.2.2 _ _ hx
  have hxr : x ≠ Y.2.1 := by omega
  have hsd : ∀ q ∈ [Y.2.1], ∀ o, Y2.1 q = some o → o = oB 5 frd := fun q hq o ho => by rw [List.mem_singleton.mp hq, g6] at ho; cases ho; rfl
  have hkeep : ∀ {Y5 : zY}, FR Y2 Y5 [Y.2.1] → OF Y Y5 ∧ TAP Y5 tp [] ∧ Y5.1 x = some (oB 10 [.ref tp, .ref jd, .ref pl, .int s.2.2.2.1]) ∧ (∀ v, OUT Y ou v → OUT Y5 ou v) := by
    intro Y5 hf
    refine ⟨OF_T g1 (OF_of hf (fun q hq o ho => by rw [hsd q hq o ho]; rfl)), TAP_f g3 hf (fun q hq o ho => by rw [hsd q hq o ho]; rfl), FR_k hf g4 (by simpa using hxr), fun v hv => ⟨FR_k hf (g5 v hv).1 (fun q => ?_), hv.2⟩⟩
    have := (g5 v hv).1
    rw [List.mem_singleton.mp q, g6] at this; cases this
  have hfail : ∀ {Y5 : zY} {e : Er}, c132 n x Y = some (.inr 18, Y5) → BY Y5 → FR Y2 Y5 [Y.2.1] → wY Y5 ≤ wY Y + 842 + 420 * s.1.length → sKnT s.1 = .inl e → ∃ ex, CIn Y x ou (842 + 420 * s.1.length) (c132 n x Y) (sKnow s) ex ∧ ((sKnow s).1 = 0 ∨ ((sKnow s).1 = 1 ∧ ex = 18) ∨ ((sKnow s).1 = 2 ∧ ex = 19)) := by
    intro Y5 e hc hB5 hf hw hk
    have hs : sKnow s = (1, 0, ([], s.2)) := by unfold sKnow; rw [hk]
    obtain ⟨o1, o2, o3, o4⟩ := hkeep hf
    rw [hs]
    refine ⟨18, ⟨Y5, ⟨hB5, h1, h2, h3, tp, jd, pl, o3, o2, A, vI, vW, vY, ans, l0, rc0, sq0, bd0, xs0, bs, W0, JCX_of hJ hB5 o1, hr⟩, o4, by omega, o1.1, by rw [hc]; dsimp only; rw [if_neg (show ¬ ((1 : Int32) = 0) by decide)]⟩, Or.inr (Or.inl ⟨rfl, rfl⟩)⟩
  obtain ⟨F, hF⟩ : ∃ F : zY → Option ((Int32 ⊕ Nat) × zY), F = fun Z => (zgd (yisO Z Y.2.1 5) <|
  (c71 n Y.2.1 (some 3) Z).bind fun p14 => zth p14 (fun r11 h12 =>
    zgd (yisO h12 Y.2.1 5) <|
    (c71 n Y.2.1 (some 13) h12).bind fun p20 => zth p20 (fun r17 h18 =>
      zgd (yisO h18 Y.2.1 5) <|
      (c84 n Y.2.1 h18).bind fun p23 =>
      zgd (yisO p23.2 Y.2.1 5) <|
      (c71 n Y.2.1 p23.1 p23.2).bind fun p29 => zth p29 (fun r26 h27 =>
        zgd (yisO h27 Y.2.1 5) <|
        (c71 n Y.2.1 (some 1) h27).bind fun p35 => zth p35 (fun r32 h33 =>
          (yR h33 x 10 1).bind fun x36 =>
          r11.bind fun a38 =>
          (yR h33 a38 9 3).bind fun x39 =>
          x36.bind fun a41 =>
          zgd (yisO h33 a41 1) <|
          (c133 n a41 x39 h33).bind fun p44 =>
          if p44.1 = 0 then
            some (.inr 19, thY p44.2)
          else
            (yR p44.2 x 10 1).bind fun x46 =>
            x46.bind fun a48 =>
            zgd (yisO p44.2 a48 1) <|
            (c135 n a48 (some a38) r26 p44.2).bind fun p51 =>
            some (.inl 1, p51.2))
          (fun x34 h33 =>
          zgd (exOk x34) <| some (.inr x34, h33)))
        (fun x28 h27 =>
        zgd (exOk x28) <| some (.inr x28, h27)))
      (fun x19 h18 =>
      zgd (exOk x19) <| some (.inr x19, h18)))
    (fun x13 h12 =>
    zgd (exOk x13) <| some (.inr x13, h12))) := ⟨_, rfl⟩
  have e132 : c132 n x Y = F Y3 := by
    rw [hF]
    unfold c132
    exact g0
  obtain ⟨ts, hts⟩ : ∃ ts, ts = tks s.1 := ⟨_, rfl⟩
  rw [← hts] at g7
  have hkt : sKnT s.1 = rb (sTake 2 ts) fun w => rb (sEat 12 w.2) fun ts => rb (sOne ts) fun o => rb (sTake 0 o.2) fun _ => .inr (w.1, o.1) := by rw [hts]; rfl
  have hO3 := rdr_o g7.2.1
  have hW3 := g7.2.2
  -- the name
  by_cases c2 : (hd ts).1 = 2
  case neg =>
    obtain ⟨Y5, b1, b2, b3, b4⟩ := tk_bad (n := n) (q := 2) g7 c2
    refine hfail (Y5 := Y5) (e := sErr 2 (hd ts)) ?_ b2 (FR_T g8 b3 (fun q hq => Or.inl hq) g2.2) (by omega) (by rw [hkt]; unfold sTake; rw [if_neg c2]; rfl)
    rw [e132, hF]
    exact zgd_eq hO3 (bnd_eq b1 rfl)
  have k4 := tk_ok (n := n) (s := 2) (WE := wY Y + 820 + 420 * s.1.length) g7 (by omega) (by omega)
  rw [show sTake 2 ts = .inr (hd ts, adv ts) by unfold sTake; rw [if_pos c2]] at k4
  obtain ⟨v4, Y4, e4, r4, f4, aN, eN, nxN, rfl, tN, _, _, _, m4⟩ := k4
  have f24 : FR Y2 Y4 [Y.2.1] := FR_T g8 f4 (fun q hq => Or.inl hq) g2.2
  have hk1 : sKnT s.1 = rb (sEat 12 (adv ts)) fun ts2 => rb (sOne ts2) fun o => rb (sTake 0 o.2) fun _ => .inr (hd ts, o.1) := by
    rw [hkt]; unfold sTake; rw [if_pos c2]; rfl
  dsimp only at r4 m4
  by_cases c12 : (hd (adv ts)).1 = 12
  case neg =>
    obtain ⟨Y5, b1, b2, b3, b4⟩ := tk_bad (n := n) (q := 12) r4 c12
    have hW4 := r4.2.2
    refine hfail (Y5 := Y5) (e := sErr 2 (hd (adv ts))) ?_ b2 (FR_T f24 b3 (fun q hq => Or.inl hq) g2.2) (by omega) (by rw [hk1]; unfold sEat sTake; rw [if_neg c12]; rfl)
    rw [e132, hF]
    exact zgd_eq hO3 (bnd_eq e4 (zgd_eq (rdr_o r4.2.1) (bnd_eq b1 rfl)))
  have k5 := tk_ok (n := n) (s := 12) (WE := wY Y + 820 + 420 * s.1.length) r4 (by omega) (by omega)
  rw [show sTake 12 (adv ts) = .inr (hd (adv ts), adv (adv ts)) by unfold sTake; rw [if_pos c12]] at k5
  obtain ⟨v5, Y5, e5, r5, f5, _, _, _, _, _, _, _, _, m5⟩ := k5
  have f25 : FR Y2 Y5 [Y.2.1] := FR_T f24 f5 (fun q hq => Or.inl hq) g2.2
  obtain ⟨t2, ht2⟩ : ∃ t2, t2 = adv (adv ts) := ⟨_, rfl⟩
  have hk2 : sKnT s.1 = rb (sOne t2) fun o => rb (sTake 0 o.2) fun _ => .inr (hd ts, o.1) := by
    rw [hk1, ht2]; unfold sEat sTake; rw [if_pos c12]; rfl
  dsimp only at r5 m5
  rw [← ht2] at r5 m5
  obtain ⟨⟨q, hq1, hq2⟩, hq3⟩ := on_ok (n := n) (WE := wY Y + 820 + 420 * s.1.length) r5 (by omega)
  by_cases c34 : (hd t2).1 = 3 ∨ (hd t2).1 = 4
  case neg =>
    have hqn : (hd t2).1 ≠ q := by
      rw [hq2, if_neg (fun e => c34 (Or.inl e))]
      exact fun e => c34 (Or.inr e)
    obtain ⟨Y6, b1, b2, b3, b4⟩ := tk_bad (n := n) (q := q) r5 hqn
    have hW5 := r5.2.2
    refine hfail (Y5 := Y6) (e := sErr 2 (hd t2)) ?_ b2 (FR_T f25 b3 (fun q hq => Or.inl hq) g2.2) (by omega) (by rw [hk2]; unfold sOne sTake; rw [if_neg (fun e => c34 (Or.inl e)), if_neg (fun e => c34 (Or.inr e))]; rfl)
    rw [e132, hF]
    exact zgd_eq hO3 (bnd_eq e4 (zgd_eq (rdr_o r4.2.1) (bnd_eq e5 (zgd_eq (rdr_o r5.2.1) (bnd_eq hq1 (zgd_eq (rdr_o r5.2.1) (bnd_eq b1 rfl)))))))
  have hso : sOne t2 = .inr (hd t2, adv t2) := by
    unfold sOne
    rcases c34 with q | q
    · rw [if_pos q]; unfold sTake; rw [if_pos q]
    · rw [if_neg (by omega)]; unfold sTake; rw [if_pos q]
  have k6 := hq3 q hq2
  rw [hso] at k6
  obtain ⟨v6, Y6, e6, r6, f6, aT, rfl, tT, _, _, m6⟩ := k6
  have f26 : FR Y2 Y6 [Y.2.1] := FR_T f25 f6 (fun q hq => Or.inl hq) g2.2
  dsimp only at r6 m6 tT
  have hk3 : sKnT s.1 = rb (sTake 0 (adv t2)) fun _ => .inr (hd ts, hd t2) := by rw [hk2, hso]; rfl
  have hW6 := r6.2.2
  by_cases c0 : (hd (adv t2)).1 = 0
  case neg =>
    obtain ⟨Y7, b1, b2, b3, b4⟩ := tk_bad (n := n) (q := 0) r6 c0
    refine hfail (Y5 := Y7) (e := sErr 2 (hd (adv t2))) ?_ b2 (FR_T f26 b3 (fun q hq => Or.inl hq) g2.2) (by omega) (by rw [hk3]; unfold sTake; rw [if_neg c0]; rfl)
    rw [e132, hF]
    exact zgd_eq hO3 (bnd_eq e4 (zgd_eq (rdr_o r4.2.1) (bnd_eq e5 (zgd_eq (rdr_o r5.2.1) (bnd_eq hq1 (zgd_eq (rdr_o r5.2.1) (bnd_eq e6 (zgd_eq (rdr_o r6.2.1) (bnd_eq b1 rfl)))))))))
  obtain ⟨v7, e7⟩ := tk_end (n := n) r6 c0
  have hk4 : sKnT s.1 = .inr (hd ts, hd t2) := by rw [hk3]; unfold sTake; rw [if_pos c0]; rfl
  obtain ⟨o1, o2, o3, o4⟩ := hkeep f26
  have hJ6 := JCX_of hJ r6.1 o1
  have tN6 : RTk Y6 aN (hd ts) := RTk_k f6.2.2 (RTk_k f5.2.2 ⟨eN, nxN, tN⟩)
  obtain ⟨st, j1, j2, j3, j4, j5, j6, j7, j8⟩ := tk_txt tN6
  have hw : ttx (hd ts) = (hd ts).2.2.1 := by unfold ttx; rw [if_neg (by omega)]
  rw [hw] at j2
  have hroom := room_ok (n := n) hJ6.2.1 j2 j3 hn
  have hpre : ∀ {R : Option ((Int32 ⊕ Nat) × zY)}, (if (if knf s.2.2.1 (hd ts).2.2.1 = none ∧ 8 ≤ s.2.2.1.length then (0 : Int32) else 1) = 0 then some (.inr 19, thY Y6) else
            (yR Y6 x 10 1).bind fun x46 =>
            x46.bind fun a48 =>
            zgd (yisO Y6 a48 1) <|
            (c135 n a48 (some aN) (some aT) Y6).bind fun p51 =>
            some (.inl 1, p51.2)) = R → c132 n x Y = R := by
    intro R hR
    rw [e132, hF]
    refine zgd_eq hO3 (bnd_eq e4 (zgd_eq (rdr_o r4.2.1) (bnd_eq e5 (zgd_eq (rdr_o r5.2.1) (bnd_eq hq1 (zgd_eq (rdr_o r5.2.1) (bnd_eq e6 (zgd_eq (rdr_o r6.2.1) (bnd_eq e7 ?_)))))))))
    exact bnd_eq (yR_of (r := some jd) o3 rfl) (bnd_eq rfl (bnd_eq j1 (bnd_eq rfl (zgd_eq (jd_o hJ6.2.1) (bnd_eq hroom hR)))))
  by_cases cf : knf s.2.2.1 (hd ts).2.2.1 = none ∧ 8 ≤ s.2.2.1.length
  · have hs : sKnow s = (2, 0, ([], s.2)) := by unfold sKnow; rw [hk4]; dsimp only; rw [if_pos cf]
    have hc6 : CSt Y6 x ([], s.2) := ⟨r6.1, h1, h2, h3, tp, jd, pl, o3, o2, A, vI, vW, vY, ans, l0, rc0, sq0, bd0, xs0, bs, W0, hJ6, hr⟩
    rw [hs]
    refine ⟨19, ⟨thY Y6, CSt_th hc6, o4, ?_, o1.1, ?_⟩, Or.inr (Or.inr ⟨rfl, rfl⟩)⟩
    · show 16 * (Y6.2.2.1 + 1) + (Y6.2.2.2 + 6) ≤ _
      have : wY Y6 = 16 * Y6.2.2.1 + Y6.2.2.2 := rfl
      omega
    · rw [if_neg (show ¬ ((2 : Int32) = 0) by decide)]
      refine hpre ?_
      rw [if_pos cf, if_pos rfl]
  · have hs : sKnow s = (0, 1, ([], s.2.1, kset s.2.2.1 (hd ts).2.2.1 (thg (hd t2)), s.2.2.2)) := by unfold sKnow; rw [hk4]; dsimp only; rw [if_neg cf]
    obtain ⟨Y7, d1, d2, d3, d4, d5⟩ := lrn_ok (n := n) r6.1 hJ6.2.1 tN6 c2 tT c34 cf hn
    obtain ⟨q1, q2, ⟨w0, w1, y0, y1, _⟩, _⟩ := id hJ6.2.1
    have hkind : ∀ q ∈ [jd, A 0, A 1], ∀ o, Y6.1 q = some o → (∃ fs, o = oB 1 fs) ∨ ∃ vs, o = oA 14 vs := by
      intro q hq o ho
      simp only [List.mem_cons, List.mem_nil_iff, or_false] at hq
      rcases hq with rfl | rfl | rfl
      · rw [q1] at ho; cases ho; exact Or.inl ⟨_, rfl⟩
      · rw [y0] at ho; cases ho; exact Or.inr ⟨_, rfl⟩
      · rw [y1] at ho; cases ho; exact Or.inr ⟨_, rfl⟩
    have hno : ∀ {q : Nat} {o : yO}, Y6.1 q = some o → (∀ fs, o ≠ oB 1 fs) → (∀ vs, o ≠ oA 14 vs) → Y7.1 q = some o := fun {q o} h p1 p2 => FR_k d4 h (fun e => by
      rcases hkind q e o h with ⟨fs, e⟩ | ⟨vs, e⟩
      · exact p1 fs e
      · exact p2 vs e)
    have hx7 : Y7.1 x = some (oB 10 [.ref tp, .ref jd, .ref pl, .int s.2.2.2.1]) := hno o3 (fun fs e => by cases e) (fun vs e => by cases e)
    obtain ⟨_, _, _, _, ⟨vr, p5, _⟩, ⟨vq, p6, _⟩, _⟩ := hJ6.2.2.1.1.1
    have hkp : KPY rc0 sq0 Y6 Y7 := KPY_of d4 (fun q hq => ⟨fun e => (by
      rcases hkind q hq _ (by rw [e]; exact p5) with ⟨fs, e⟩ | ⟨vs, e⟩ <;> cases e), fun e => (by
      rcases hkind q hq _ (by rw [e]; exact p6) with ⟨fs, e⟩ | ⟨vs, e⟩ <;> cases e), fun o ho => (by
      rcases hkind q hq o ho with ⟨fs, rfl⟩ | ⟨vs, rfl⟩ <;> rfl)⟩)
    have hT7 : TAP Y7 tp [] := TAP_f o2 d4 (fun q hq o ho => by
      rcases hkind q hq o ho with ⟨fs, rfl⟩ | ⟨vs, rfl⟩ <;> rfl)
    rw [hs]
    refine ⟨0, ⟨Y7, ⟨d3, h1, h2, h3, tp, jd, pl, hx7, hT7, A, vI, vW, vY, ans, l0, rc0, sq0, bd0, xs0, bs, W0, ⟨d3, d2, LDP_p hJ6.2.2.1 hkp, hJ6.2.2.2⟩, hr⟩, fun v hv => ⟨hno (o4 v hv).1 (fun fs e => by cases e) (fun vs e => by cases e), hv.2⟩, ?_, ?_, ?_⟩, Or.inl rfl⟩
    · have : wY Y7 = wY Y6 := by unfold wY; rw [d5]
      omega
    · have := o1.1
      rw [d5]; exact this
    · rw [if_pos rfl]
      refine hpre ?_
      rw [if_neg cf, if_neg (show ¬ ((1 : Int32) = 0) by decide)]
      exact bnd_eq (yR_of (r := some jd) o3 rfl) (bnd_eq rfl (zgd_eq (jd_o hJ6.2.1) (bnd_eq d1 rfl)))
end
end ZMG

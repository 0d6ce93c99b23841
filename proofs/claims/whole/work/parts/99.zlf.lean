/-! THE CALLS OF THE REFERENCE: know -/
section ZLF
theorem kdO_2 : ∀ s : Fin 64, kdO s.1 = 2 ↔ s.1 = 3 := by decide +kernel
theorem kdO_3 : ∀ s : Fin 64, kdO s.1 = 3 ↔ s.1 = 4 := by decide +kernel
theorem kdO_5 : ∀ s : Fin 64, kdO s.1 = 5 ↔ s.1 = 0 := by decide +kernel
section
variable {n : Nat} {X X1 X2 : zX} {S : St} {v y l1 l4 l5 l6 l7 : Int32} {T w : List Int32} {L : Ldd} {K : KL} {b j f0 m : Nat} {ts : List Tk} {fk0 : Int32}
theorem kd_eq {s : Nat} : (kdO s = 2 ↔ s = 3) ∧ (kdO s = 3 ↔ s = 4) ∧ (kdO s = 5 ↔ s = 0) := by
  by_cases h : s < 64
  · exact ⟨kdO_2 ⟨s, h⟩, kdO_3 ⟨s, h⟩, kdO_5 ⟨s, h⟩⟩
  · have : kdO s = 1 := by
      unfold kdO
      rw [if_neg (by omega), if_neg (by omega), if_neg (by omega), if_neg (by omega), if_neg (by omega)]
    rw [this]
    refine ⟨⟨fun q => absurd q (by decide), fun q => by omega⟩, ⟨fun q => absurd q (by decide), fun q => by omega⟩, ⟨fun q => absurd q (by decide), fun q => by omega⟩⟩
theorem kn_ix {w : List Int32} : ixN ((K.drop 0).findIdx? (fun x => x.1 == w)) 0 K.length = ixN (knf K w) 0 K.length := by
  rw [List.drop_zero]
  rfl
theorem kset_p {w : List Int32} {t : Thg} : kset K w t = kpn K (ixN (knf K w) 0 K.length) (w, t) := by
  unfold kset kpn ixN
  cases hk : knf K w with
  | none => dsimp only; rw [if_pos rfl]
  | some j =>
    obtain ⟨x, hx, _⟩ := knf_lt hk
    have := lt_of_get hx
    dsimp only
    rw [if_neg (by omega), Nat.zero_add]
theorem kno_r (h : RSt X S) (hn : 6002 ≤ n) : RGv (g243 n X) (sKnow S) := by
  obtain ⟨b, q1, q2, q3, q4, q5, q6, q7, q8, ⟨l, q10⟩, q11, q12⟩ := id h
  have h6 := q5.2.1
  have hb4 : X.1 4 = nI (1 - b) := by
    rw [q4]
    rcases (show b = 0 ∨ b = 1 by omega) with e | e <;> rw [e] <;> rfl
  obtain ⟨X3, hX3⟩ : ∃ X3, X3 = xF (xF X 68 0) 73 (-1) := ⟨_, rfl⟩
  have N3 : NFX X X3 := by rw [hX3]; exact NFX_T (NFX_F (by omega)) (NFX_F (by omega))
  have h64 : X3.1 64 = S.2.2.2.1 := by rw [hX3, xF_1, if_neg (by decide), xF_1, if_neg (by decide)]; exact q11
  obtain ⟨X5, e5, t5⟩ := next_ok (n := n) (X := X3) (T := S.1) (fk := S.2.2.2.1) (p := 0) (NFX_TP N3 q5) (by rw [hX3, xF_1, if_pos rfl]) h64 (by rw [hX3, xF_1, if_neg (by decide), xF_1, if_pos rfl]; rfl) (by omega) hn
  have N5 := NFX_T N3 (NFX_190 e5)
  obtain ⟨ts, hts⟩ : ∃ ts, ts = tks S.1 := ⟨_, rfl⟩
  have R5 : RI X5 S.1 S.2.2.2.1 (.inr ts) := ⟨NFX_TP N5 q5, TOKs_70 (by omega) h6 t5, ⟨0, by omega, by rw [hts]; exact (tks_P h6).symm, t5⟩⟩
  obtain ⟨vn, ev, hv⟩ : ∃ vn : Bool, g203 n X5 = some (b2 vn, X5) ∧ ((hd ts).1 ≠ 1 → vn = ((hd ts).1 == 2)) := by
    by_cases hb : (hd ts).1 = 1
    · obtain ⟨vn, ev⟩ := name_any (n := n) R5 hn
      exact ⟨vn, ev, fun q => absurd hb q⟩
    · exact ⟨_, name_tok R5 hb hn, fun _ => rfl⟩
  obtain ⟨X7, e7, R7⟩ := nd_any (n := n) (v := b2 vn) (cc := fun ts => (hd ts).1 == 2) R5 (fun t ht hb => by cases ht; rw [hv hb]) (fun t ht hb => by cases ht; rw [hb]; rfl)
  have N7 := NFX_T N5 (NFX_200 e7)
  obtain ⟨X11, e11, R11⟩ := ri_nextR R7 hn
  have N11 := NFX_T N7 (NFX_190 e11)
  obtain ⟨X13, e13, R13⟩ := ri_eat (n := n) (c := 61) (s := 12) (by decide) (by decide) R11 hn
  have N13 := NFX_T N11 (NFX_208 e13)
  obtain ⟨X15, e15, R15⟩ := nd_any (n := n) (v := b2 (decide (X13.1 69 = 2 ∨ X13.1 69 = 3))) (cc := fun ts => (hd ts).1 == 3 || (hd ts).1 == 4) R13 (fun t ht hb => by
      rw [ht] at R13
      rw [(ri_hd R13 hb).2.2.2.1]
      congr 1
      obtain ⟨k2, k3, _⟩ := kd_eq (s := (hd t).1)
      by_cases c3 : (hd t).1 = 3
      · rw [decide_eq_true (Or.inl (k2.mpr c3)), c3]; rfl
      · by_cases c4 : (hd t).1 = 4
        · rw [decide_eq_true (Or.inr (k3.mpr c4)), c4]; rfl
        · rw [decide_eq_false (fun q => q.elim (fun q => c3 (k2.mp q)) (fun q => c4 (k3.mp q)))]
          simp [c3, c4]) (fun t ht hb => by show ((hd t).1 == 3 || (hd t).1 == 4) = false; rw [hb]; rfl)
  have N15 := NFX_T N13 (NFX_200 e15)
  obtain ⟨X17, e17, R17⟩ := ri_nextR R15 hn
  have N17 := NFX_T N15 (NFX_190 e17)
  obtain ⟨X19, e19, R19⟩ := nd_any (n := n) (v := b2 (decide (X17.1 69 = 5))) (cc := fun ts => (hd ts).1 == 0) R17 (fun t ht hb => by
      rw [ht] at R17
      rw [(ri_hd R17 hb).2.2.2.1]
      congr 1
      obtain ⟨_, _, k5⟩ := kd_eq (s := (hd t).1)
      by_cases c0 : (hd t).1 = 0
      · rw [decide_eq_true (k5.mpr c0), c0]; rfl
      · rw [decide_eq_false (fun q => c0 (k5.mp q))]
        simp [c0]) (fun t ht hb => by show ((hd t).1 == 0) = false; rw [hb]; rfl)
  have N19 := NFX_T N17 (NFX_200 e19)
  obtain ⟨X20, hX20⟩ : ∃ X20, X20 = xF X19 64 S.2.2.2.1 := ⟨_, rfl⟩
  have N20 : NFX X X20 := by rw [hX20]; exact NFX_T N19 (NFX_F (by omega))
  have hE : g243 n X = (if X20.1 73 = -1 then gf243_156 n n S.2.2.2.1 (X7.1 70) (X7.1 71) (b2 (decide (X15.1 69 = 3))) (X15.1 72) (X15.1 70 + 1) (X15.1 71) 0 X20 else some (0, xF (xF X20 2 0) 0 1)) := by
    have h125 : ∀ l4, gb243_85 n S.2.2.2.1 (X7.1 70) (X7.1 71) l4 X15 = (if X20.1 73 = -1 then gf243_156 n n S.2.2.2.1 (X7.1 70) (X7.1 71) l4 (X15.1 72) (X15.1 70 + 1) (X15.1 71) 0 X20 else some (0, xF (xF X20 2 0) 0 1)) := by
      intro l4
      have h1 : ∀ s0, s0 = b2 (decide (X17.1 69 = 5)) → gb243_125 n S.2.2.2.1 (X7.1 70) (X7.1 71) l4 (X15.1 72) (X15.1 70 + 1) (X15.1 71) s0 X17 = (if X20.1 73 = -1 then gf243_156 n n S.2.2.2.1 (X7.1 70) (X7.1 71) l4 (X15.1 72) (X15.1 70 + 1) (X15.1 71) 0 X20 else some (0, xF (xF X20 2 0) 0 1)) := by
        intro s0 hs
        unfold gb243_125 zlet
        rw [hs, e19]
        dsimp only [Option.bind_some]
        rw [← hX20]
      unfold gb243_85
      rw [e17]
      dsimp only [Option.bind_some]
      by_cases c : X17.1 69 = 5
      · rw [if_pos c]; exact h1 _ (by rw [decide_eq_true c]; rfl)
      · rw [if_neg c]; exact h1 _ (by rw [decide_eq_false c]; rfl)
    have h69 : ∀ s0, s0 = b2 (decide (X13.1 69 = 2 ∨ X13.1 69 = 3)) → gb243_69 n S.2.2.2.1 (X7.1 70) (X7.1 71) s0 X13 = gb243_85 n S.2.2.2.1 (X7.1 70) (X7.1 71) (b2 (decide (X15.1 69 = 3))) X15 := by
      intro s0 hs
      unfold gb243_69
      rw [hs, e15]
      dsimp only [Option.bind_some]
      by_cases c : X15.1 69 = 3
      · rw [if_pos c, decide_eq_true c]; rfl
      · rw [if_neg c, decide_eq_false c]; rfl
    rw [← h125]
    unfold g243 zlet
    dsimp only
    rw [← hX3, e5]
    dsimp only [Option.bind_some]
    rw [ev]
    dsimp only [Option.bind_some]
    rw [e7]
    dsimp only [Option.bind_some]
    rw [e11]
    dsimp only [Option.bind_some]
    rw [e13]
    dsimp only [Option.bind_some]
    rw [h64]
    unfold gb243_64
    by_cases c2 : X13.1 69 = 2
    · rw [if_pos c2]; exact h69 _ (by rw [decide_eq_true (Or.inl c2)]; rfl)
    · rw [if_neg c2]
      by_cases c3 : X13.1 69 = 3
      · rw [if_pos c3]; exact h69 _ (by rw [decide_eq_true (Or.inr c3)]; rfl)
      · rw [if_neg c3]; exact h69 _ (by rw [decide_eq_false (fun q => q.elim c2 c3)]; rfl)
  have hLD : ∀ {X' : zX}, (∀ r, 1 ≤ r → r < 60 → X'.2.2 r = X.2.2 r) → LN X' → LDX X' b S.2.1 := fun hr hL => LDX_same q6 hL hr
  have hfail : ∀ {er er' : Er}, RI X19 S.1 S.2.2.2.1 (.inl er) → sKnT S.1 = .inl er' → RGv (g243 n X) (sKnow S) := by
    intro er er' hR hS
    have h73 : X20.1 73 ≠ -1 := by
      rw [hX20, xF_1, if_neg (by decide)]
      exact ri_flt hR
    rw [hE, if_neg h73]
    unfold sKnow
    rw [hS]
    have hL20 : LN X20 := fun i hi => by rw [N20.1]; exact q2 i hi
    have hx : ∀ k, k ≠ 0 → k ≠ 2 → (xF (xF X20 2 0) 0 1).1 k = X20.1 k := fun k p q => by rw [xF_1, if_neg p, xF_1, if_neg q]
    refine ⟨_, rfl, by rw [xF_1, if_pos rfl], b, q1, hL20, ?_, ?_, TP_0 (NFX_TP N20 q5) (by rw [xF_1, if_neg (by decide), xF_1, if_pos rfl]) rfl, hLD (fun r _ _ => by show X20.2.2 r = _; rw [N20.1]) hL20, q7, KNX_of (X := X) q8 (by rw [hx 65 (by omega) (by omega)]; exact N20.2 65 (by omega)) (fun i _ => by show X20.2.2 i = _; rw [N20.1]), ⟨l, INS_of (X := X) q10 (by show X20.2.2 69 = _; rw [N20.1])⟩, ?_, RWH_of (X := X) q12 (fun k p q => by rw [hx k (by omega) (by omega)]; exact N20.2 k (by omega))⟩
    · rw [hx 3 (by omega) (by omega)]; exact (N20.2 3 (by omega)).trans q3
    · rw [hx 4 (by omega) (by omega)]; exact (N20.2 4 (by omega)).trans q4
    · rw [hx 64 (by omega) (by omega), hX20, xF_1, if_pos rfl]
  have hkt : sKnT S.1 = rb (sTake 2 ts) fun w => rb (sEat 12 w.2) fun ts => rb (sOne ts) fun o => rb (sTake 0 o.2) fun _ => .inr (w.1, o.1) := by rw [hts]; rfl
  -- the first token
  by_cases c2 : (hd ts).1 = 2
  case neg =>
    have hz : (rb (Sum.inr ts : RR (List Tk)) fun ts => if ((hd ts).1 == 2) = true then .inr ts else .inl (sErr 2 (hd ts))) = .inl (sErr 2 (hd ts)) := by
      rw [rb_inr, if_neg (by simpa using c2)]
    rw [hz] at R7 R11 R13 R15 R17 R19
    exact hfail R19 (er' := sErr 2 (hd ts)) (by rw [hkt]; unfold sTake; rw [if_neg c2]; rfl)
  have hz : (rb (Sum.inr ts : RR (List Tk)) fun ts => if ((hd ts).1 == 2) = true then .inr ts else .inl (sErr 2 (hd ts))) = .inr ts := by
    rw [rb_inr, if_pos (by simpa using c2)]
  rw [hz] at R7 R11 R13 R15 R17 R19
  simp only [rb_inr] at R11 R13 R15 R17 R19
  have hk1 : sKnT S.1 = rb (sEat 12 (adv ts)) fun ts2 => rb (sOne ts2) fun o => rb (sTake 0 o.2) fun _ => .inr (hd ts, o.1) := by
    rw [hkt]; unfold sTake; rw [if_pos c2]; rfl
  by_cases c12 : (hd (adv ts)).1 = 12
  case neg =>
    have hz : sEat 12 (adv ts) = .inl (sErr 2 (hd (adv ts))) := by unfold sEat sTake; rw [if_neg c12]; rfl
    rw [hz] at R13 R15 R17 R19
    exact hfail R19 (er' := sErr 2 (hd (adv ts))) (by rw [hk1, hz]; rfl)
  have hz : sEat 12 (adv ts) = .inr (adv (adv ts)) := by unfold sEat sTake; rw [if_pos c12]; rfl
  rw [hz] at R13 R15 R17 R19 hk1
  simp only [rb_inr] at R15 R17 R19
  rw [rb_inr] at hk1
  obtain ⟨t2, ht2⟩ : ∃ t2, t2 = adv (adv ts) := ⟨_, rfl⟩
  rw [← ht2] at R13 R15 R17 R19 hk1
  by_cases c34 : (hd t2).1 = 3 ∨ (hd t2).1 = 4
  case neg =>
    have hz : ((hd t2).1 == 3 || (hd t2).1 == 4) = false := by
      rw [Bool.or_eq_false_iff]
      exact ⟨by simpa using fun q => c34 (Or.inl q), by simpa using fun q => c34 (Or.inr q)⟩
    rw [hz, if_neg (by decide)] at R15 R17 R19
    refine hfail R19 (er' := sErr 2 (hd t2)) ?_
    rw [hk1]
    unfold sOne sTake
    rw [if_neg (fun q => c34 (Or.inl q)), if_neg (fun q => c34 (Or.inr q))]
    rfl
  have hz : ((hd t2).1 == 3 || (hd t2).1 == 4) = true := by
    rw [Bool.or_eq_true]
    exact c34.imp (fun q => by simpa using q) (fun q => by simpa using q)
  rw [hz, if_pos rfl] at R15 R17 R19
  simp only [rb_inr] at R17 R19
  have hk2 : sKnT S.1 = rb (sTake 0 (adv t2)) fun _ => .inr (hd ts, hd t2) := by
    rw [hk1]
    unfold sOne
    rcases c34 with q | q
    · rw [if_pos q]; unfold sTake; rw [if_pos q]; rfl
    · rw [if_neg (by omega)]; unfold sTake; rw [if_pos q]; rfl
  by_cases c0 : (hd (adv t2)).1 = 0
  case neg =>
    rw [if_neg (by simpa using c0)] at R19
    refine hfail R19 (er' := sErr 2 (hd (adv t2))) ?_
    rw [hk2]
    unfold sTake
    rw [if_neg c0]
    rfl
  rw [if_pos (by simpa using c0)] at R19
  have hk3 : sKnT S.1 = .inr (hd ts, hd t2) := by
    rw [hk2]
    unfold sTake
    rw [if_pos c0]
    rfl
  have h73 : X20.1 73 = -1 := by
    rw [hX20, xF_1, if_neg (by decide)]
    exact (ri_hd R19 (by omega)).1
  have hw1 : kdO (hd ts).1 = 1 := by rw [c2]; rfl
  obtain ⟨_, w2, w3, w4⟩ := ri_word R7 (by omega) hw1
  obtain ⟨_, _, a70, _, _, a71, _⟩ := ri_hd R7 (by omega)
  have a71 := a71 (Or.inl hw1)
  obtain ⟨_, _, d70, d69, d72, d71, _⟩ := ri_hd R15 (by omega)
  have hTX : TXT S.1 (thg (hd t2)) (X15.1 72) (X15.1 70 + 1) (X15.1 71) := by
    refine ⟨fun q => ?_, fun q => ?_⟩
    · have : (hd t2).1 = 3 := by
        rcases c34 with r | r
        · exact r
        · exfalso
          have q : ((hd t2).1 == 4) = false := q
          rw [r] at q; cases q
      exact d72 this
    · have q4 : (hd t2).1 = 4 := by have q : ((hd t2).1 == 4) = true := q; simpa using q
      obtain ⟨t1, t2', t3, t4⟩ := ri_text R15 q4
      refine ⟨(hd t2).2.1 + 1, (hd t2).2.2.1.length, by rw [d70, nI_1], d71 (Or.inr q4), t3, by omega, t1, t4⟩
  have hT20 := NFX_TP N20 q5
  have hK20 : KNX X20 S.2.2.1 := KNX_of q8 (N20.2 65 (by omega)) (fun i _ => by rw [N20.1])
  have hL20 : LN X20 := fun i hi => by rw [N20.1]; exact q2 i hi
  have h69 : b2 (decide (X15.1 69 = 3)) = b2 (thg (hd t2)).1 := by
    rw [d69]
    congr 1
    show decide (kdO (hd t2).1 = 3) = ((hd t2).1 == 4)
    obtain ⟨_, k3, _⟩ := kd_eq (s := (hd t2).1)
    by_cases c4 : (hd t2).1 = 4
    · rw [decide_eq_true (k3.mpr c4), c4]; rfl
    · rw [decide_eq_false (fun q => c4 (k3.mp q))]; exact (by simp [c4])
  have hl := kn_l (n := n) (l1 := S.2.2.2.1) (l4 := b2 (decide (X15.1 69 = 3))) (l5 := X15.1 72) (l6 := X15.1 70 + 1) (l7 := X15.1 71) (f0 := (hd ts).2.1) (m := (hd ts).2.2.1.length) hK20 hT20 w3 hn n 0 (by omega) (by have := hK20.2.1; omega)
  rw [kn_ix, ← w2] at hl
  rw [hE, if_pos h73, a70, a71, show (0 : Int32) = nI 0 from rfl, hl]
  unfold sKnow
  rw [hk3]
  dsimp only
  have h8 := hK20.2.1
  by_cases cf : knf S.2.2.1 (hd ts).2.2.1 = none ∧ 8 ≤ S.2.2.1.length
  · rw [if_pos cf, cf.1]
    show RGv (gb243_186 n _ _ _ _ _ _ _ (nI S.2.2.1.length) X20) _
    unfold gb243_186 zlet
    dsimp only
    rw [if_pos (show nI S.2.2.1.length = (8 : Int32) by rw [show S.2.2.1.length = 8 by omega]; rfl)]
    have hx : ∀ k, k ≠ 0 → k ≠ 2 → (xF (xF X20 2 0) 0 2).1 k = X20.1 k := fun k p q => by rw [xF_1, if_neg p, xF_1, if_neg q]
    refine ⟨_, rfl, by rw [xF_1, if_pos rfl], b, q1, hL20, ?_, ?_, TP_0 hT20 (by rw [xF_1, if_neg (by decide), xF_1, if_pos rfl]) rfl, hLD (fun r _ _ => by show X20.2.2 r = _; rw [N20.1]) hL20, q7, KNX_of (X := X20) hK20 (by rw [hx 65 (by omega) (by omega)]) (fun i _ => rfl), ⟨l, INS_of (X := X) q10 (by show X20.2.2 69 = _; rw [N20.1])⟩, ?_, RWH_of (X := X) q12 (fun k p q => by rw [hx k (by omega) (by omega)]; exact N20.2 k (by omega))⟩
    · rw [hx 3 (by omega) (by omega)]; exact (N20.2 3 (by omega)).trans q3
    · rw [hx 4 (by omega) (by omega)]; exact (N20.2 4 (by omega)).trans q4
    · rw [hx 64 (by omega) (by omega), hX20, xF_1, if_pos rfl]
  · rw [if_neg cf]
    obtain ⟨j, hj⟩ : ∃ j, j = ixN (knf S.2.2.1 (hd ts).2.2.1) 0 S.2.2.1.length := ⟨_, rfl⟩
    have hjl : j ≤ S.2.2.1.length ∧ j < 8 := by
      cases hk : knf S.2.2.1 (hd ts).2.2.1 with
      | none =>
        rw [hk] at hj
        have hj : j = S.2.2.1.length := hj
        exact ⟨by omega, Nat.lt_of_not_le (fun q => cf ⟨hk, by omega⟩)⟩
      | some j' =>
        rw [hk] at hj
        obtain ⟨x, hx, _⟩ := knf_lt hk
        have := lt_of_get hx
        have hj : j = 0 + j' := hj
        omega
    rw [← hj]
    obtain ⟨X1, s1, s2, s3, s4, s5, s6, s7, s8⟩ := kst (n := n) (X := X20) (T := S.1) (K := S.2.2.1) (b := 1 - b) (j := j) (f0 := (hd ts).2.1) (m := (hd ts).2.2.1.length) (l1 := S.2.2.2.1) (l4 := b2 (decide (X15.1 69 = 3))) (t := thg (hd t2)) hL20 hT20 hK20 (by omega) ((N20.2 4 (by omega)).trans hb4) hjl.1 hjl.2 w4 w3 h69 hTX hn
    refine ⟨X1, s1, s2, b, q1, s5, (s6 3 (by omega) (by omega) (by omega)).trans ((N20.2 3 (by omega)).trans q3), (s6 4 (by omega) (by omega) (by omega)).trans ((N20.2 4 (by omega)).trans q4), TP_0 hT20 s3 (s7 0 (by omega) (by omega) (by omega) (by omega)), ?_, q7, ?_, ⟨l, INS_of (X := X) q10 ((s7 69 (by omega) (by omega) (by omega) (by omega)).trans (by rw [N20.1]))⟩, ?_, RWH_of (X := X) q12 (fun k p q => (s6 k (by omega) (by omega) (by omega)).trans (N20.2 k (by omega)))⟩
    · obtain ⟨k1, k2⟩ := fb_bk (b := b) q1 ((N20.2 4 (by omega)).trans hb4) s8
      exact LDX_bank (hLD (X' := X20) (fun r _ _ => by rw [N20.1]) hL20) s5 k1 k2
    · show KNX X1 (kset S.2.2.1 (hd ts).2.2.1 (thg (hd t2)))
      rw [kset_p, ← hj]
      rw [← w2] at s4
      exact s4
    · exact (s6 64 (by omega) (by omega) (by omega)).trans (by rw [hX20, xF_1, if_pos rfl])
end
end ZLF

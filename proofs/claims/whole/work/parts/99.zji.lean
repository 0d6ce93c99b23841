/-! THE CLASS: the chain of tokens -/
section ZJI
section
variable {n : Nat} {Y Y1 Z : zY} {a s k p m e tp r w : Nat} {T : List Int32} {t : Tk} {x v : Int32}
/-- the tokens ts stand from a on -/
def TKC (Y : zY) : List Tk → Nat → Prop
  | [], _ => False
  | t :: ts, a => ∃ e nx, TKO Y a t e nx ∧ ((ts = [] ∧ nx = .null ∧ t.1 ≤ 1) ∨ (2 ≤ t.1 ∧ ∃ b, nx = .ref b ∧ TKC Y ts b))
theorem TKO_s {e : Nat} {nx : Value} (h : TKO Y a t e nx) {S : List Nat} (hf : FRY Y Z S w) (ha : a ∉ S) (hS : ∀ q bs, Y.1 q = some (oS bs) → q ∉ S) : TKO Z a t e nx := by
  obtain ⟨s, h1, h2, h3⟩ := h
  exact ⟨s, (hf.2.2 _ _ h1).resolve_left ha, (hf.2.2 _ _ h2).resolve_left (hS _ _ h2), h3⟩
theorem TKO_lt {e : Nat} {nx : Value} (hD : DM Y) (h : TKO Y a t e nx) : a < Y.2.1 := by
  obtain ⟨s, h1, _⟩ := h
  exact hD.2 _ _ h1
/-- the tape is used up -/
theorem tap_0 (hT : TAP Y tp T) : ∃ Z, yP Y tp 8 1 (.int 0) = some Z ∧ FRY Y Z [tp] 0 ∧ TAP Z tp [] ∧ Z.2 = Y.2 ∧ (BY Y → BY Z) := by
  obtain ⟨ba, vs, h1, h2, h3, h4, h5, h6, h7, h8⟩ := hT
  have hne : ba ≠ tp := fun q => by rw [q, h1] at h2; cases h2
  refine ⟨_, yP_of h1 h7 rfl rfl, FRY_u [tp] (by simp), ⟨ba, vs, yu_s, by rw [yu_n hne]; exact h2, h3, by show 0 ≤ 6000; omega, fun i b q => (by cases q), fun b q => (by cases q), h7, h8⟩, rfl, fun hB => BY_u hB h7 (hB.2.2 _ _ h1)⟩
theorem tap_i {a : Nat} {c : Nat} {fs : List Value} {ob : yO} (hT : TAP Y tp T) (h : Y.1 a = some (oB c fs)) (hc : c ≠ 8) : TAP (yu Y a (some ob)) tp T := by
  obtain ⟨ba, vs, h1, h2, h3⟩ := hT
  have e1 : tp ≠ a := fun q => by
    rw [q, h] at h1
    exact hc (congrArg (fun o : Option yO => match o with | some (.inl (c, _)) => c | _ => 0) h1)
  have e2 : ba ≠ a := fun q => by
    rw [q, h] at h2
    cases h2
  exact ⟨ba, vs, (yu_n e1).trans h1, (yu_n e2).trans h2, h3⟩
theorem chn_l (hn : 6002 ≤ n) (l1 : Option Nat) : ∀ (fu k q i a : Nat) (Z : zY), q ≤ T.length → T.length - q < k → T.length - q < fu → BY Z → TAP Z tp T → TKO Z a (tokB T q).1 (tokB T q).2 .null → (2 ≤ (tokB T q).1.1 → i < (tokB T q).2) → ∃ Z1, cf10_10 n fu tp l1 (some a) (nI i) Z = some (l1, Z1) ∧ BY Z1 ∧ FRY Z Z1 [a, tp] (if (tokB T q).1.1 ≤ 1 then 0 else 120 * (T.length - (tokB T q).2 + 1)) ∧ TKC Z1 (tksF T k q) a ∧ TAP Z1 tp []
  | 0, k, q, i, a, Z, _, _, h, _, _, _, _ => by omega
  | fu + 1, 0, q, i, a, Z, _, h, _, _, _, _, _ => by omega
  | fu + 1, k + 1, q, i, a, Z, hq, hk, hfu, hB, hT, hK, hi => by
    have h6 := tap_6 hT
    have hpl := tokB_place hq
    show ∃ Z1, cb10_10 n (cf10_10 n fu) tp l1 (some a) (nI i) Z = _ ∧ _
    unfold tksF cb10_10
    have fin : (tokB T q).1.1 ≤ 1 → ∀ {l2 : Option Nat}, ∃ Z1, cb10_62 n tp l1 l2 (nI i) Z = some (l1, Z1) ∧ BY Z1 ∧ FRY Z Z1 [a, tp] 0 ∧ TKC Z1 [(tokB T q).1] a ∧ TAP Z1 tp [] := by
      intro hs l2
      obtain ⟨Z1, e1, e2, e3, e4, e5⟩ := tap_0 hT
      refine ⟨Z1, ?_, e5 hB, FRY_M e2 (by simp) (Nat.le_refl _), ⟨_, _, TKO_s hK e2 ?_ ?_, Or.inl ⟨rfl, rfl, hs⟩⟩, e3⟩
      · unfold cb10_62
        exact bnd_eq e1 rfl
      · obtain ⟨_, k1, _⟩ := hK
        obtain ⟨_, _, t1, _⟩ := hT
        intro c
        rw [List.mem_singleton.mp c, t1] at k1
        cases k1
      · intro c bs hc hm
        obtain ⟨_, _, t1, _⟩ := hT
        rw [List.mem_singleton.mp hm, t1] at hc
        cases hc
    have hK' := hK
    obtain ⟨st, k1, k2, k3, k4, k5⟩ := hK'
    by_cases hs : (tokB T q).1.1 ≤ 1
    · rw [if_pos hs, if_pos hs]
      by_cases h6i : (6000 : Int32) ≤ nI i
      · rw [if_pos h6i]
        exact fin hs
      · rw [if_neg h6i]
        dsimp only [Option.bind_some]
        rw [yR_of (r := some ((tokB T q).1.1 + 1)) k1 rfl]
        dsimp only [Option.bind_some]
        rw [rEq_s (by omega) (by omega)]
        dsimp only [Option.bind_some]
        by_cases h0 : (tokB T q).1.1 + 1 = 1
        · rw [if_pos (decide_eq_true h0)]
          exact fin hs
        · rw [if_neg (by rw [decide_eq_false h0]; decide)]
          rw [rEq_s (by omega) (by omega)]
          dsimp only [Option.bind_some]
          rw [if_pos (decide_eq_true (by omega))]
          exact fin hs
    · rw [if_neg hs, if_neg hs]
      have hi := hi (by omega)
      obtain ⟨t1, t2, t3⟩ := tokB_end hq (by omega)
      have t2 := t2 (by omega)
      rw [if_neg (by rw [show (6000 : Int32) = nI 6000 from rfl, nI_leI (by omega) (by omega)]; omega)]
      dsimp only [Option.bind_some]
      rw [yR_of (r := some ((tokB T q).1.1 + 1)) k1 rfl]
      dsimp only [Option.bind_some]
      rw [rEq_s (by omega) (by omega)]
      dsimp only [Option.bind_some]
      rw [if_neg (by rw [decide_eq_false (by omega)]; decide), rEq_s (by omega) (by omega)]
      dsimp only [Option.bind_some]
      rw [if_neg (by rw [decide_eq_false (by omega)]; decide), yI_of k1 rfl]
      dsimp only [Option.bind_some]
      rw [tap_o hT]
      obtain ⟨b, Y1, q1, q2, q3, q4, q5, q6⟩ := tkb_ok (n := n) (p := (tokB T q).2) hB hT t1 hn
      have haZ := hB.2.2 _ _ k1
      have k1' := FRY_0 q3 k1
      obtain ⟨Z2, hZ2⟩ : ∃ Z2, Z2 = yu Y1 a (some (oB 9 [.ref ((tokB T q).1.1 + 1), .int (nI (tokB T q).1.2.1), .int (nI (tokB T q).2), .ref st, .int (tokB T q).1.2.2.2, .ref b])) := ⟨_, rfl⟩
      have hT1 := TAP_F0 hT q3
      have hb2 : BY Z2 := by rw [hZ2]; exact BY_u q2 k4 (by have := q3.1; omega)
      have ht2 : TAP Z2 tp T := by rw [hZ2]; exact tap_i hT1 k1' (by decide)
      have hk2 : TKO Z2 b (tokB T (tokB T q).2).1 (tokB T (tokB T q).2).2 .null := by
        obtain ⟨s', j1, j2, j3⟩ := q4
        refine ⟨s', by rw [hZ2, yu_n (by omega)]; exact j1, ?_, j3⟩
        rw [hZ2, yu_n]
        · exact j2
        · intro c
          rw [c, k1'] at j2
          cases j2
      obtain ⟨Z1, z1, z2, z3, z4, z5⟩ := chn_l hn l1 fu k (tokB T q).2 (i + 1) b Z2 t1 (by omega) (by omega) hb2 ht2 hk2 (fun c => by
        obtain ⟨u1, u2, u3⟩ := tokB_end t1 (by omega)
        have := u2 (by omega)
        omega)
      have hzb : Z.2.1 ≤ b := q5
      have hf2 : FRY Z Z2 [a, tp] 120 := by
        refine ⟨by rw [hZ2]; exact q3.1, by rw [hZ2]; exact q3.2.1, fun c o hc => ?_⟩
        by_cases e : c = a
        · left; rw [e]; simp
        · right; rw [hZ2, yu_n e]; exact FRY_0 q3 hc
      have k1z : Z2.1 a = some (oB 9 [.ref ((tokB T q).1.1 + 1), .int (nI (tokB T q).1.2.1), .int (nI (tokB T q).2), .ref st, .int (tokB T q).1.2.2.2, .ref b]) := by rw [hZ2]; exact yu_s
      have hatp : a ≠ tp := fun c => by
        obtain ⟨_, _, t1, _⟩ := hT
        rw [← c, k1] at t1
        cases t1
      refine ⟨Z1, ?_, z2, ?_, ⟨(tokB T q).2, .ref b, ⟨st, ?_, ?_, k3, k4, k5⟩, Or.inr ⟨by omega, b, rfl, z4⟩⟩, z5⟩
      · show ((c11 n tp (nI (tokB T q).2) Z).bind _) = _
        refine bnd_eq q1 ?_
        dsimp only
        refine bnd_eq (yP_of k1' k4 rfl rfl) ?_
        rw [show (yu Y1 a (some (oB 9 (zs [.ref ((tokB T q).1.1 + 1), .int (nI (tokB T q).1.2.1), .int (nI (tokB T q).2), .ref st, .int (tokB T q).1.2.2.2, .null] 5 (va_rf (some b)))))) = Z2 by rw [hZ2]; rfl, nI_1]
        exact z1
      · refine ⟨Nat.le_trans hf2.1 z3.1, ?_, fun c o hc => ?_⟩
        · have h1 := hf2.2.1
          have h2 := z3.2.1
          by_cases hs' : (tokB T (tokB T q).2).1.1 ≤ 1
          · rw [if_pos hs'] at h2; omega
          · rw [if_neg hs'] at h2
            obtain ⟨u1, u2, u3⟩ := tokB_end t1 (by omega)
            have := u2 (by omega)
            omega
        · have hcl := hB.2.2 _ _ hc
          rcases hf2.2.2 c o hc with g | g
          · exact Or.inl g
          · rcases z3.2.2 c o g with g' | g'
            · rcases List.mem_cons.mp g' with e | e
              · omega
              · left; exact List.mem_cons_of_mem _ e
            · exact Or.inr g'
      · rcases z3.2.2 _ _ k1z with g | g
        · rcases List.mem_cons.mp g with e | e
          · omega
          · exact absurd (List.mem_singleton.mp e) hatp
        · exact g
      · have hst : Z2.1 st = some (oS (ttx (tokB T q).1)) := by
          rw [hZ2, yu_n]
          · exact FRY_0 q3 k2
          · intro c; rw [c, k1] at k2; cases k2
        rcases z3.2.2 _ _ hst with g | g
        · rcases List.mem_cons.mp g with e | e
          · obtain ⟨_, j1, _⟩ := hk2
            rw [← e, hst] at j1
            cases j1
          · obtain ⟨_, _, j1, _⟩ := ht2
            rw [← List.mem_singleton.mp e, hst] at j1
            cases j1
        · exact g
theorem tks_len : ∀ (k q : Nat), q ≤ T.length → T.length - q < k → (tksF T k q).length ≤ T.length - q + 1
  | 0, q, _, h => by omega
  | k + 1, q, hq, h => by
    unfold tksF
    by_cases c : (tokB T q).1.1 ≤ 1
    · rw [if_pos c]; show 1 ≤ _; omega
    · rw [if_neg c]
      obtain ⟨e1, e2, e3⟩ := tokB_end hq (by omega)
      have := e2 (by omega)
      have := tks_len k (tokB T q).2 e1 (by omega)
      show (tksF T k (tokB T q).2).length + 1 ≤ _
      omega
/-- takeTokens -/
theorem tkt_ok (hY : BY Y) (hT : TAP Y tp T) (hn : 6002 ≤ n) : ∃ a Y1, c10 n tp Y = some (some a, Y1) ∧ BY Y1 ∧ FRY Y Y1 [tp] (120 * (T.length + 2)) ∧ TKC Y1 (tks T) a ∧ TAP Y1 tp [] ∧ (tks T).length ≤ T.length + 1 := by
  have h6 := tap_6 hT
  obtain ⟨a, Y1, q1, q2, q3, q4, q5, q6⟩ := tkb_ok (n := n) (p := 0) hY hT (by omega) hn
  obtain ⟨Z1, z1, z2, z3, z4, z5⟩ := chn_l (tp := tp) hn (some a) n 6001 0 0 a Y1 (by omega) (by omega) (by omega) q2 (TAP_F0 hT q3) q4 (fun c => by
    obtain ⟨u1, u2, u3⟩ := tokB_end (T := T) (p := 0) (by omega) (by omega)
    have := u2 (by omega)
    omega)
  refine ⟨a, Z1, ?_, z2, ⟨Nat.le_trans q3.1 z3.1, ?_, fun c o hc => ?_⟩, z4, z5, ?_⟩
  · unfold c10
    refine zgd_eq (tap_o hT) ?_
    exact bnd_eq q1 z1
  · have h1 := q3.2.1
    have h2 := z3.2.1
    have : (if (tokB T 0).1.1 ≤ 1 then 0 else 120 * (T.length - (tokB T 0).2 + 1)) ≤ 120 * (T.length + 1) := by
      split
      · omega
      · exact Nat.mul_le_mul_left _ (by omega)
    omega
  · have hcl := hY.2.2 _ _ hc
    rcases z3.2.2 c o (FRY_0 q3 hc) with g | g
    · rcases List.mem_cons.mp g with e | e
      · omega
      · exact Or.inl e
    · exact Or.inr g
  · have := tks_len (T := T) 6001 0 (by omega) (by omega)
    exact this
end
end ZJI

/-! THE CLASS: numbers, signs, the chain of tokens -/
section ZJH
section
variable {n : Nat} {Y Y1 Z : zY} {a s k p m e tp r w : Nat} {T : List Int32} {t : Tk} {x v : Int32}
theorem dgn_b (hT : TAP Y tp T) : ∀ d, d ≤ spn dDig T s → d ≤ 9 → ∃ k, k < 10 ^ d ∧ dgn T s d = nI k
  | 0, _, _ => ⟨0, by decide, rfl⟩
  | d + 1, h, h9 => by
    obtain ⟨k, hk, e⟩ := dgn_b hT d (by omega) (by omega)
    obtain ⟨g1, g2⟩ := spn_in (T := T) (f := dDig) rfl d s (by omega)
    obtain ⟨_, _, _, _, _, _, _, hb, _⟩ := hT
    obtain ⟨q, hq, hqe⟩ := hb _ (List.getElem_mem g2)
    rw [tAt_lt g2, hqe] at g1
    have hr := dig_b ⟨q, hq⟩ g1
    have hr1 : 48 ≤ q := hr.1
    have hr2 : q ≤ 57 := hr.2
    refine ⟨10 * k + (q - 48), ?_, ?_⟩
    · rw [Nat.pow_succ]; omega
    · show 10 * dgn T s d + tAt T (s + d) - 48 = _
      rw [e, tAt_lt g2, hqe, show (10 : Int32) = nI 10 from rfl, nI_mul, nI_add, show (48 : Int32) = nI 48 from rfl, pk_sub (by omega)]
      congr 1
      omega
theorem dgn_n (hT : TAP Y tp T) {d : Nat} (h : d ≤ spn dDig T s) (h9 : d ≤ 9) : (dgn T s d).toInt.natAbs ≤ 999999999 ∧ (-(dgn T s d)).toInt.natAbs ≤ 999999999 := by
  obtain ⟨k, hk, e⟩ := dgn_b hT d h h9
  have : 10 ^ d ≤ 10 ^ 9 := Nat.pow_le_pow_right (by decide) h9
  have hk' : k ≤ 999999999 := by have : (10 : Nat) ^ 9 = 1000000000 := by decide
                                 omega
  rw [e]
  refine ⟨?_, ?_⟩
  · have := nI_toInt (n := k) (by omega)
    rw [this]; omega
  · rw [ng_i (by omega)]; omega
theorem num_l {l2 : Int32} (hT : TAP Y tp T) (hs : s ≤ T.length) : ∀ (fu d : Nat), d ≤ min 9 (spn dDig T s) → min 9 (spn dDig T s) - d < fu → cf33_34 n fu tp (nI a) l2 (nI s) (nI (s + d)) (dgn T s d) Y = cb33_87 n tp (nI a) l2 (nI s) (nI (s + min 9 (spn dDig T s))) (dgn T s (min 9 (spn dDig T s))) Y
  | 0, d, _, h => by omega
  | fu + 1, d, hd, hf => by
    have h6 := tap_6 hT
    have h7 : s + spn dDig T s ≤ T.length := spn_le hs
    show cb33_34 n (cf33_34 n fu) tp (nI a) l2 (nI s) (nI (s + d)) (dgn T s d) Y = _
    unfold cb33_34
    refine bnd_eq (tap_len hT) ?_
    by_cases hl : T.length ≤ s + d
    · rw [if_pos (nI_le hl (by omega)), show min 9 (spn dDig T s) = d by omega]
    · rw [if_neg (nI_ge (by omega) (by omega)), pk_sub (by omega), show s + d - s = d by omega]
      by_cases h9 : d = 9
      · rw [if_pos (by rw [h9]; decide), show min 9 (spn dDig T s) = d by omega]
      · rw [if_neg (by rw [show (9 : Int32) = nI 9 from rfl, nI_leI (by omega) (by omega)]; omega)]
        refine zgd_eq (tap_o hT) ?_
        refine bnd_eq (byt_at hT (by omega)) ?_
        refine bnd_eq isDig ?_
        by_cases hz : d = spn dDig T s
        · have : dDig (tAt T (s + d)) = false := by rw [hz]; exact spn_stop rfl
          rw [this, if_pos b2_f, show min 9 (spn dDig T s) = d by omega]
        · obtain ⟨g1, g2⟩ := spn_in (T := T) (f := dDig) rfl d s (by omega)
          rw [g1, if_neg (show ¬ b2 true = 0 by decide)]
          refine zgd_eq (tap_o hT) ?_
          refine bnd_eq (byt_at hT (by omega)) ?_
          dsimp only
          rw [nI_1, Int32.mul_comm, show (10 * dgn T s d + tAt T (s + d) - 48 : Int32) = dgn T s (d + 1) from rfl]
          exact num_l hT hs fu (d + 1) (by omega) (by omega)
theorem num_e (hY : BY Y) (hv : v.toInt.natAbs ≤ 999999999) (hn : 6002 ≤ n) {l2 l3 l5 : Int32} : TKR n Y (cb33_123 n tp (nI a) l2 l3 (nI e) l5 v Y) (3, a, [], v) e := by
  unfold cb33_123
  obtain ⟨st, Y1, q1, q2, q3, q4, q5, q6⟩ := num_str (n := n) hY hv hn
  obtain ⟨b1, b2, b3, b4⟩ := tk_n0 q2
  have h231 := hY.2.1
  obtain ⟨Z1, e1, e2, e3, e4, e5⟩ := tk_new (n := n) (t := (3, a, [], v)) (e := e) (s := st) hY b1 (FRY_T q3 b2) (a := Y1.2.1) (by have := q3.1; omega) (by rw [b4]; omega) b3 (FRY_0 b2 q4) (by omega) ⟨by show 3 < 43; omega, by show (dcI v).length ≤ 16; have := (dcI_l hv).1; omega, hv⟩
  refine ⟨Y1.2.1, Z1, ?_, e2, FRY_M e3 (fun _ q => q) (by omega), e4, by have := q3.1; omega, by rw [e5, b4]; omega⟩
  rw [q1]
  exact bnd_eq e1 rfl
theorem nmb_ok (hY : BY Y) (hT : TAP Y tp T) (ha : a < T.length) (hl : dLet (tAt T a) = false) (h39 : tAt T a ≠ 39) (hd : dDig (tAt T a) = true ∨ (tAt T a = 45 ∧ tAt T (a + 1) ≠ 62)) (hn : 6002 ≤ n) : TKR n Y (c33 n tp (nI a) Y) (tokA T a).1 (tokA T a).2 := by
  have h6 := tap_6 hT
  unfold c33 tokA
  dsimp only
  rw [if_neg (show ¬ T.length ≤ a by omega), hl, if_neg (by decide), if_neg h39, if_pos hd, tap_o hT, byt_at hT (by omega)]
  show TKR n Y (if tAt T a = 45 then _ else _) _ _
  have main : ∀ (l2 : Int32) (s : Nat), s ≤ T.length → TKR n Y (cb33_27 n tp (nI a) l2 (nI s) Y) (if min 9 (spn dDig T s) = 0 ∨ dWrd (tAt T (s + min 9 (spn dDig T s))) = true then ((1, a, [], 0), a) else ((3, a, [], if l2 = 0 then dgn T s (min 9 (spn dDig T s)) else -dgn T s (min 9 (spn dDig T s))), s + min 9 (spn dDig T s))).1 (if min 9 (spn dDig T s) = 0 ∨ dWrd (tAt T (s + min 9 (spn dDig T s))) = true then ((1, a, [], 0), a) else (((3, a, [], if l2 = 0 then dgn T s (min 9 (spn dDig T s)) else -dgn T s (min 9 (spn dDig T s))), s + min 9 (spn dDig T s)) : Tk × Nat)).2 := by
    intro l2 s hs
    have h7 : s + spn dDig T s ≤ T.length := spn_le hs
    unfold cb33_27
    have := num_l (n := n) (a := a) (l2 := l2) hT hs n 0 (by omega) (by omega)
    rw [Nat.add_zero] at this
    have this : cf33_34 n n tp (nI a) l2 (nI s) (nI s) 0 Y = _ := this
    rw [this]
    have hB : TKR n Y (cb33_105 n tp (nI a) l2 (nI s) (nI (s + min 9 (spn dDig T s))) (dgn T s (min 9 (spn dDig T s))) Y) (1, a, [], 0) a := by
      unfold cb33_105
      rw [tap_o hT]
      obtain ⟨b, Y1, q1, q2⟩ := brk_ok (n := n) (tp := tp) (a := a) hY
      exact ⟨b, Y1, bnd_eq q1 rfl, q2⟩
    unfold cb33_87
    by_cases h0 : min 9 (spn dDig T s) = 0
    · rw [if_pos (show nI (s + min 9 (spn dDig T s)) = nI s by rw [h0, Nat.add_zero]), if_pos (Or.inl h0)]
      exact hB
    · rw [if_neg (by rw [nI_eq (by omega) (by omega)]; omega), tap_o hT, byt_at hT (by omega)]
      show TKR n Y ((c18 n (tAt T (s + min 9 (spn dDig T s))) Y).bind _) _ _
      rw [isWrd]
      dsimp only [Option.bind_some]
      have hbd := dgn_n (s := s) hT (d := min 9 (spn dDig T s)) (by omega) (by omega)
      cases hw : dWrd (tAt T (s + min 9 (spn dDig T s))) with
      | true =>
        rw [if_neg (show ¬ b2 true = 0 by decide), if_pos (Or.inr rfl)]
        exact hB
      | false =>
        rw [if_pos b2_f, if_neg (show ¬ (min 9 (spn dDig T s) = 0 ∨ false = true) from fun q => q.elim h0 (fun c => by cases c))]
        by_cases h2 : l2 = 0
        · rw [if_pos h2, if_pos h2]
          exact num_e hY hbd.1 hn
        · rw [if_neg h2, if_neg h2]
          exact num_e hY hbd.2 hn
  by_cases h45 : tAt T a = 45
  · rw [if_pos h45, if_pos h45, if_pos h45]
    have := main 1 (a + 1) (by omega)
    unfold cb33_15
    rw [if_neg (show ¬ (1 : Int32) = 0 by decide), nI_1]
    rw [if_neg (show ¬ (1 : Int32) = 0 by decide)] at this
    exact this
  · rw [if_neg h45, if_neg h45, if_neg h45]
    have := main 0 a (by omega)
    unfold cb33_15
    rw [if_pos (show (0 : Int32) = 0 from rfl)]
    rw [if_pos (show (0 : Int32) = 0 from rfl)] at this
    exact this
theorem gsort_43 (c : Int32) : gsort c < 43 := by
  unfold gsort
  repeat' split
  all_goals omega
theorem sgn_ok (hY : BY Y) (hT : TAP Y tp T) (ha : a < T.length) (hl : dLet (tAt T a) = false) (h39 : tAt T a ≠ 39) (hd : ¬ (dDig (tAt T a) = true ∨ (tAt T a = 45 ∧ tAt T (a + 1) ≠ 62))) (hn : 6002 ≤ n) : TKR n Y (c57 n tp (nI a) Y) (tokA T a).1 (tokA T a).2 := by
  have h6 := tap_6 hT
  unfold c57 tokA
  dsimp only
  rw [if_neg (show ¬ T.length ≤ a by omega), hl, if_neg (by decide), if_neg h39, if_neg hd, tap_o hT, byt_at hT (by omega)]
  show TKR n Y (if tAt T a = 45 then _ else _) _ _
  by_cases h45 : tAt T a = 45
  · rw [if_pos h45, if_pos h45]
    have h62 : tAt T (a + 1) = 62 := Classical.byContradiction fun q => hd (Or.inr ⟨h45, q⟩)
    dsimp only
    rw [tap_o hT, nI_1, byt_at hT (by omega)]
    show TKR n Y (if tAt T (a + 1) = 62 then _ else _) _ _
    rw [if_pos h62, show (2 : Int32) = nI 2 from rfl, nI_add]
    exact sg_ok (t := (13, a, [], 0)) hY rfl rfl rfl rfl (by show 13 < 43; omega)
  · rw [if_neg h45, if_neg h45]
    unfold cb57_40
    obtain ⟨b1, b2, b3, b4⟩ := tk_n0 hY
    have hT1 := TAP_F0 hT b2
    rw [tap_o hT1, byt_at hT1 (by omega)]
    show TKR n Y ((c58 n (tAt T a) (yN Y 9 6)).bind _) _ _
    rw [ofs_ok b1.1 hn]
    dsimp only [Option.bind_some]
    rw [nI_1]
    refine sg_ok (t := (gsort (tAt T a), a, [], 0)) hY ?_ rfl rfl rfl (gsort_43 _)
    unfold ttx
    split
    · rename_i h
      exfalso
      have h : gsort (tAt T a) = 3 := h
      unfold gsort at h
      repeat (split at h; omega)
      omega
    · rfl
/-- the token behind p -/
theorem tkb_l (hT : TAP Y tp T) {l1 : Int32} (hp : p ≤ 6000) : ∀ (fu d : Nat), d ≤ spn dBlk T p → spn dBlk T p - d < fu → cf11_2 n fu tp l1 (nI (p + d)) Y = cb11_27 n tp l1 (nI (p + spn dBlk T p)) Y
  | 0, d, _, h => by omega
  | fu + 1, d, hd, hf => by
    have h6 := tap_6 hT
    have hb : p + spn dBlk T p ≤ 6000 := by
      rcases Nat.lt_or_ge T.length p with q | q
      · rw [spn_f rfl (by rw [tAt_ge (by omega)]; decide)]; omega
      · have := spn_le (T := T) (f := dBlk) q; omega
    show cb11_2 n (cf11_2 n fu) tp l1 (nI (p + d)) Y = _
    unfold cb11_2
    refine bnd_eq (tap_len hT) ?_
    by_cases hl : T.length ≤ p + d
    · rw [if_pos (nI_le hl (by omega))]
      have hz : spn dBlk T (p + d) = 0 := spn_f rfl (by rw [tAt_ge hl]; decide)
      have : d = spn dBlk T p := by
        rcases Nat.lt_or_ge d (spn dBlk T p) with q | q
        · have := (spn_in (T := T) (f := dBlk) rfl d p q).2; omega
        · omega
      rw [← this]
    · rw [if_neg (nI_ge (by omega) (by omega))]
      refine zgd_eq (tap_o hT) ?_
      refine bnd_eq (byt_at hT (by omega)) ?_
      refine bnd_eq isBlk ?_
      by_cases hz : d = spn dBlk T p
      · have : dBlk (tAt T (p + d)) = false := by rw [hz]; exact spn_stop rfl
        rw [this, if_pos b2_f, hz]
      · obtain ⟨g1, g2⟩ := spn_in (T := T) (f := dBlk) rfl d p (by omega)
        rw [g1, if_neg (show ¬ b2 true = 0 by decide), nI_1]
        exact tkb_l hT hp fu (d + 1) (by omega) (by omega)
theorem tkb_ok (hY : BY Y) (hT : TAP Y tp T) (hp : p ≤ T.length) (hn : 6002 ≤ n) : TKR n Y (c11 n tp (nI p) Y) (tokB T p).1 (tokB T p).2 := by
  have h6 := tap_6 hT
  have hb : p + spn dBlk T p ≤ T.length := spn_le hp
  unfold c11
  have := tkb_l (n := n) (l1 := nI p) hT (p := p) (by omega) n 0 (by omega) (by omega)
  rw [Nat.add_zero] at this
  rw [this]
  unfold tokB
  generalize p + spn dBlk T p = a at hb
  unfold cb11_27
  rw [tap_len hT]
  dsimp only [Option.bind_some]
  by_cases ha : a < T.length
  · rw [if_pos (nI_lt ha (by omega)), tap_o hT, byt_at hT (by omega)]
    show TKR n Y ((c16 n (tAt T a) Y).bind _) _ _
    rw [isLet]
    dsimp only [Option.bind_some]
    cases hl : dLet (tAt T a) with
    | true =>
      rw [if_neg (show ¬ b2 true = 0 by decide)]
      rw [tap_o hT]
      obtain ⟨b, Y1, q1, q2⟩ := wrd_ok (n := n) hY hT ha hl hn
      exact ⟨b, Y1, bnd_eq q1 rfl, q2⟩
    | false =>
      rw [if_pos b2_f]
      by_cases h39 : tAt T a = 39
      · rw [if_pos h39]
        rw [tap_o hT]
        obtain ⟨b, Y1, q1, q2⟩ := qtx_ok (n := n) hY hT ha h39 hn
        exact ⟨b, Y1, bnd_eq q1 rfl, q2⟩
      · rw [if_neg h39, isDig]
        dsimp only [Option.bind_some]
        have h107 : ∀ {l1 l3 : Int32}, (dDig (tAt T a) = true ∨ (tAt T a = 45 ∧ tAt T (a + 1) ≠ 62)) → TKR n Y (cb11_107 n tp l1 (nI a) l3 Y) (tokA T a).1 (tokA T a).2 := by
          intro l1 l3 hd
          unfold cb11_107
          rw [tap_o hT]
          obtain ⟨b, Y1, q1, q2⟩ := nmb_ok (n := n) hY hT ha hl h39 hd hn
          exact ⟨b, Y1, bnd_eq q1 rfl, q2⟩
        have h113 : ∀ {l1 l3 : Int32}, ¬ (dDig (tAt T a) = true ∨ (tAt T a = 45 ∧ tAt T (a + 1) ≠ 62)) → TKR n Y (cb11_113 n tp l1 (nI a) l3 Y) (tokA T a).1 (tokA T a).2 := by
          intro l1 l3 hd
          unfold cb11_113
          rw [tap_o hT]
          obtain ⟨b, Y1, q1, q2⟩ := sgn_ok (n := n) hY hT ha hl h39 hd hn
          exact ⟨b, Y1, bnd_eq q1 rfl, q2⟩
        cases hdg : dDig (tAt T a) with
        | true =>
          rw [if_neg (show ¬ b2 true = 0 by decide)]
          exact h107 (Or.inl hdg)
        | false =>
          rw [if_pos b2_f]
          by_cases h45 : tAt T a = 45
          · rw [if_pos h45, tap_o hT, nI_1, byt_at hT (by omega)]
            show TKR n Y (if tAt T (a + 1) = 62 then _ else _) _ _
            by_cases h62 : tAt T (a + 1) = 62
            · rw [if_pos h62]
              exact h113 (fun q => q.elim (fun c => by rw [hdg] at c; cases c) (fun c => c.2 h62))
            · rw [if_neg h62]
              exact h107 (Or.inr ⟨h45, h62⟩)
          · rw [if_neg h45]
            exact h113 (fun q => q.elim (fun c => by rw [hdg] at c; cases c) (fun c => h45 c.1))
  · rw [if_neg (by rw [nI_ltI (by omega) (by omega)]; omega)]
    have : tokA T a = ((0, a, [], 0), a) := by
      unfold tokA
      dsimp only
      rw [if_pos (by omega)]
    rw [this]
    exact sg_ok (t := (0, a, [], 0)) hY rfl rfl rfl rfl (by show 0 < 43; omega)
end
end ZJH

/-! THE CLASS: tokens -/
section ZJG
theorem dig_b : ∀ k : Fin 256, dDig (nI k.1) = true → 48 ≤ k.1 ∧ k.1 ≤ 57 := by decide +kernel
section
variable {n : Nat} {Y Y1 Z : zY} {a s k p m e tp r w : Nat} {T : List Int32} {t : Tk} {x v : Int32}
/-- a token of the tape -/
def TKG (t : Tk) : Prop := t.1 < 43 ∧ (ttx t).length ≤ 16 ∧ t.2.2.2.toInt.natAbs ≤ 999999999
/-- a token stands at a -/
def TKO (Y : zY) (a : Nat) (t : Tk) (e : Nat) (nx : Value) : Prop := ∃ s, Y.1 a = some (oB 9 [.ref (t.1 + 1), .int (nI t.2.1), .int (nI e), .ref s, .int t.2.2.2, nx]) ∧ Y.1 s = some (oS (ttx t)) ∧ 1 ≤ s ∧ 139 ≤ a ∧ TKG t
theorem FRY_n {ob : yO} (h : FRY Y Z [] w) (hD : DM Y) (ha : Y.2.1 ≤ a) : FRY Y (yu Z a (some ob)) [] w := ⟨h.1, h.2.1, fun q o hq => Or.inr (by
  have := hD.2 q o hq
  rw [yu_n (by omega)]
  rcases h.2.2 q o hq with c | c
  · cases c
  · exact c)⟩
theorem BY_u {ob : yO} (h : BY Y) (h1 : 139 ≤ a) (h2 : a < Y.2.1) : BY (yu Y a (some ob)) := ⟨FXY_u h.1 h1, DM_u h.2 h2⟩
theorem BY_a {ob : yO} {c : Nat} (h : BY Y) : BY (ya Y ob c) := ⟨FXY_F h.1 (FRY_a h.2) (fun a ha => by cases ha), DM_a h.2⟩
theorem FRY_0 {o : yO} (h : FRY Y Y1 [] w) (q : Y.1 a = some o) : Y1.1 a = some o := (h.2.2 a o q).resolve_left (fun c => by cases c)
/-- a new token's fields are set -/
theorem tk_new (hY : BY Y) (hZ : BY Z) (hf : FRY Y Z [] w) (ha : Y.2.1 ≤ a) (haZ : a < Z.2.1) (h : Z.1 a = some (oB 9 (zdf 9))) (hs : Z.1 s = some (oS (ttx t))) (h1 : 1 ≤ s) (hg : TKG t) : ∃ Z1, c15 n a (some (t.1 + 1)) (nI t.2.1) (nI e) (some s) t.2.2.2 Z = some ((), Z1) ∧ BY Z1 ∧ FRY Y Z1 [] w ∧ TKO Z1 a t e .null ∧ Z1.2.1 = Z.2.1 := by
  have h231 := hY.2.1
  have hne : s ≠ a := fun q => by rw [q, h] at hs; cases hs
  exact ⟨_, tok_ini h (by omega), BY_u hZ (by omega) haZ, FRY_n hf hY.2 ha, ⟨s, yu_s, by rw [yu_n hne]; exact hs, h1, by omega, hg⟩, rfl⟩
theorem tk_n0 (hY : BY Y) : BY (yN Y 9 6) ∧ FRY Y (yN Y 9 6) [] 22 ∧ (yN Y 9 6).1 Y.2.1 = some (oB 9 (zdf 9)) ∧ (yN Y 9 6).2.1 = Y.2.1 + 1 := ⟨BY_a hY, FRY_a hY.2, ya_s, rfl⟩
theorem tap_6 (h : TAP Y tp T) : T.length ≤ 6000 := by obtain ⟨_, _, _, _, _, h, _⟩ := h; exact h
/-- what a reading of a token gives -/
def TKR (n : Nat) (Y : zY) (o : Option (Option Nat × zY)) (t : Tk) (e : Nat) : Prop := ∃ a Y1, o = some (some a, Y1) ∧ BY Y1 ∧ FRY Y Y1 [] 120 ∧ TKO Y1 a t e .null ∧ Y.2.1 ≤ a ∧ a < Y1.2.1
theorem fx_E (hY : FXY Y) : Y.1 49 = some (oS []) := hY.2.2 49 (by decide)
theorem brk_ok (hY : BY Y) : TKR n Y (c20 n tp (nI a) Y) (1, a, [], 0) a := by
  unfold c20
  obtain ⟨b1, b2, b3, b4⟩ := tk_n0 hY
  obtain ⟨Z1, e1, e2, e3, e4, e5⟩ := tk_new (n := n) (t := (1, a, [], 0)) (e := a) (s := 49) hY b1 b2 (Nat.le_refl _) (by rw [b4]; omega) b3 (fx_E b1.1) (by omega) ⟨by show 1 < 43; omega, by show 0 ≤ 16; omega, by show (0 : Int32).toInt.natAbs ≤ 999999999; decide⟩
  exact ⟨Y.2.1, Z1, bnd_eq e1 rfl, e2, FRY_M e3 (fun _ q => q) (by omega), e4, Nat.le_refl _, by rw [e5, b4]; omega⟩
/-- an END, a sign, an arrow -/
theorem sg_ok (hY : BY Y) {t : Tk} (ht : ttx t = []) {K : Option Nat} (hK : K = some (t.1 + 1)) (hp : t.2.1 = p) (h4 : t.2.2.2 = 0) (h43 : t.1 < 43) : TKR n Y ((c15 n Y.2.1 K (nI p) (nI e) (some 49) 0 (yN Y 9 6)).bind fun q => some (some Y.2.1, q.2)) t e := by
  obtain ⟨b1, b2, b3, b4⟩ := tk_n0 hY
  obtain ⟨Z1, e1, e2, e3, e4, e5⟩ := tk_new (n := n) (t := t) (e := e) (s := 49) hY b1 b2 (Nat.le_refl _) (by rw [b4]; omega) b3 (by rw [ht]; exact fx_E b1.1) (by omega) ⟨h43, by rw [ht]; show 0 ≤ 16; omega, by rw [h4]; decide⟩
  rw [hp, h4, ← hK] at e1
  exact ⟨Y.2.1, Z1, bnd_eq e1 rfl, e2, FRY_M e3 (fun _ q => q) (by omega), e4, Nat.le_refl _, by rw [e5, b4]; omega⟩
theorem cut_hd {q : Nat} (h : a < T.length) (hq : a < q) : cut T a q ≠ [] ∧ (cut T a q).headD 0 = tAt T a := by
  unfold cut
  rw [List.drop_eq_getElem_cons h, show q - a = (q - a - 1) + 1 by omega, List.take_succ_cons, tAt_lt h]
  exact ⟨by simp, rfl⟩
/-- a word -/
theorem wrd_l (hT : TAP Y tp T) (hs : s + k ≤ T.length) (hw : spn dWrd T s = k) : ∀ (fu d : Nat), d ≤ k → k - d < fu → cf17_2 n fu tp (nI s) (nI (s + d)) Y = cb17_27 n tp (nI s) (nI (s + k)) Y
  | 0, d, _, h => by omega
  | fu + 1, d, hd, hf => by
    have h6 := tap_6 hT
    show cb17_2 n (cf17_2 n fu) tp (nI s) (nI (s + d)) Y = _
    unfold cb17_2
    refine bnd_eq (tap_len hT) ?_
    by_cases hl : T.length ≤ s + d
    · rw [if_pos (nI_le hl (by omega)), show d = k by omega]
    · rw [if_neg (nI_ge (by omega) (by omega))]
      refine zgd_eq (tap_o hT) ?_
      refine bnd_eq (byt_at hT (by omega)) ?_
      refine bnd_eq isWrd ?_
      by_cases hz : d = k
      · have : dWrd (tAt T (s + d)) = false := by rw [hz, ← hw]; exact spn_stop rfl
        rw [this, if_pos b2_f, hz]
      · obtain ⟨g1, g2⟩ := spn_in (T := T) (f := dWrd) rfl d s (by omega)
        rw [g1, if_neg (show ¬ b2 true = 0 by decide), nI_1]
        exact wrd_l hT hs hw fu (d + 1) (by omega) (by omega)
theorem wrd_ok (hY : BY Y) (hT : TAP Y tp T) (ha : a < T.length) (hl : dLet (tAt T a) = true) (hn : 6002 ≤ n) : TKR n Y (c17 n tp (nI a) Y) (tokA T a).1 (tokA T a).2 := by
  have h6 := tap_6 hT
  have hsp := spn_le (T := T) (p := a) (f := dWrd) (by omega)
  have hw1 : dWrd (tAt T a) = true := by unfold dWrd; rw [hl]; rfl
  have hpos : 0 < spn dWrd T a := by rw [(spn_t (f := dWrd) rfl hw1).1]; omega
  unfold c17
  have := wrd_l (n := n) hT hsp rfl n 0 (by omega) (by omega)
  rw [Nat.add_zero] at this
  rw [this]
  unfold cb17_27 tokA
  dsimp only
  rw [if_neg (show ¬ T.length ≤ a by omega), if_pos hl, pk_sub (by omega)]
  by_cases hL : 16 < a + spn dWrd T a - a
  · rw [if_pos hL, if_neg (by rw [show (16 : Int32) = nI 16 from rfl, nI_leI (by omega) (by omega)]; omega)]
    rw [tap_o hT]
    obtain ⟨b, Y1, q1, q2⟩ := brk_ok (n := n) (tp := tp) (a := a) hY
    exact ⟨b, Y1, bnd_eq q1 rfl, q2⟩
  · rw [if_neg hL, if_pos (by rw [show (16 : Int32) = nI 16 from rfl, nI_leI (by omega) (by omega)]; omega)]
    rw [tap_o hT]
    obtain ⟨st, Y1, q1, q2, q3, q4, q5, q6⟩ := txt_ok (n := n) (a := a) (m := spn dWrd T a) hY hT hsp hn
    obtain ⟨b1, b2, b3, b4⟩ := tk_n0 q2
    have h231 := hY.2.1
    have hst : (yN Y1 9 6).1 st = some (oS (cut T a (a + spn dWrd T a))) := FRY_0 b2 q4
    obtain ⟨ch1, ch2⟩ := cut_hd (T := T) (a := a) (q := a + spn dWrd T a) ha (by omega)
    have hof := ofw_ok (n := n) b1.1 hst (by omega) ch1 (by rw [ch2]; exact hl) hn
    have httx : ttx (wsort (cut T a (a + spn dWrd T a)), a, cut T a (a + spn dWrd T a), 0) = cut T a (a + spn dWrd T a) := by
      unfold ttx
      rw [if_neg (by show wsort _ ≠ 3; have := wsort_rng (cut T a (a + spn dWrd T a)); omega)]
    obtain ⟨Z1, e1, e2, e3, e4, e5⟩ := tk_new (n := n) (t := (wsort (cut T a (a + spn dWrd T a)), a, cut T a (a + spn dWrd T a), 0)) (e := a + spn dWrd T a) (s := st) hY b1 (FRY_T q3 b2) (a := Y1.2.1) (by have := q3.1; omega) (by rw [b4]; omega) b3 (by rw [httx]; exact hst) (by omega) ⟨by show wsort _ < 43; have := wsort_rng (cut T a (a + spn dWrd T a)); omega, by rw [httx]; unfold cut; rw [List.length_take]; omega, by show (0 : Int32).toInt.natAbs ≤ 999999999; decide⟩
    refine ⟨Y1.2.1, Z1, bnd_eq q1 (bnd_eq hof (bnd_eq e1 rfl)), e2, FRY_M e3 (fun _ q => q) (by omega), e4, by have := q3.1; omega, by rw [e5, b4]; omega⟩
/-- a text -/
theorem qtx_l (hT : TAP Y tp T) (ha : a < T.length) (hw : spn dTxt T (a + 1) = k) : ∀ (fu d : Nat), d ≤ k → k - d < fu → cf31_4 n fu tp (nI a) (nI (a + 1 + d)) Y = cb31_29 n tp (nI a) (nI (a + 1 + k)) Y
  | 0, d, _, h => by omega
  | fu + 1, d, hd, hf => by
    have h6 := tap_6 hT
    have hsp := spn_le (T := T) (p := a + 1) (f := dTxt) (by omega)
    show cb31_4 n (cf31_4 n fu) tp (nI a) (nI (a + 1 + d)) Y = _
    unfold cb31_4
    refine bnd_eq (tap_len hT) ?_
    by_cases hl : T.length ≤ a + 1 + d
    · rw [if_pos (nI_le hl (by omega)), show d = k by omega]
    · rw [if_neg (nI_ge (by omega) (by omega))]
      refine zgd_eq (tap_o hT) ?_
      refine bnd_eq (byt_at hT (by omega)) ?_
      refine bnd_eq isTxt ?_
      by_cases hz : d = k
      · have : dTxt (tAt T (a + 1 + d)) = false := by rw [hz, ← hw]; exact spn_stop rfl
        rw [this, if_pos b2_f, hz]
      · obtain ⟨g1, g2⟩ := spn_in (T := T) (f := dTxt) rfl d (a + 1) (by omega)
        rw [g1, if_neg (show ¬ b2 true = 0 by decide), nI_1]
        exact qtx_l hT ha hw fu (d + 1) (by omega) (by omega)
theorem qtx_ok (hY : BY Y) (hT : TAP Y tp T) (ha : a < T.length) (hl : tAt T a = 39) (hn : 6002 ≤ n) : TKR n Y (c31 n tp (nI a) Y) (tokA T a).1 (tokA T a).2 := by
  have h6 := tap_6 hT
  have hsp := spn_le (T := T) (p := a + 1) (f := dTxt) (by omega)
  have h49 : TKR n Y (cb31_49 n tp (nI a) (nI (a + 1 + spn dTxt T (a + 1))) Y) (1, a, [], 0) a := by
    unfold cb31_49
    rw [tap_o hT]
    obtain ⟨b, Y1, q1, q2⟩ := brk_ok (n := n) (tp := tp) (a := a) hY
    exact ⟨b, Y1, bnd_eq q1 rfl, q2⟩
  unfold c31
  have := qtx_l (n := n) hT ha rfl n 0 (by omega) (by omega)
  rw [Nat.add_zero] at this
  rw [nI_1, this]
  unfold cb31_29 tokA
  dsimp only
  rw [if_neg (show ¬ T.length ≤ a by omega), hl, if_neg (by decide), if_pos rfl, tap_o hT, byt_at hT (by omega)]
  show TKR n Y (if tAt T (a + 1 + spn dTxt T (a + 1)) = 39 then _ else _) _ _
  by_cases h39 : tAt T (a + 1 + spn dTxt T (a + 1)) = 39
  · rw [if_pos h39, pk_sub (by omega), show a + 1 + spn dTxt T (a + 1) - a = spn dTxt T (a + 1) + 1 by omega, nI_pred]
    have hlt : a + 1 + spn dTxt T (a + 1) < T.length := by
      rcases Nat.lt_or_ge (a + 1 + spn dTxt T (a + 1)) T.length with q | q
      · exact q
      · rw [tAt_ge q] at h39; exact absurd h39 (by decide)
    by_cases hL : spn dTxt T (a + 1) ≤ 16
    · rw [if_pos (by rw [show (16 : Int32) = nI 16 from rfl, nI_leI (by omega) (by omega)]; omega), if_pos ⟨h39, by omega⟩]
      obtain ⟨b1, b2, b3, b4⟩ := tk_n0 hY
      have hT1 := TAP_F0 hT b2
      rw [tap_o hT1]
      obtain ⟨st, Y1, q1, q2, q3, q4, q5, q6⟩ := txt_ok (n := n) (a := a + 1) (m := spn dTxt T (a + 1)) b1 hT1 hsp hn
      have h231 := hY.2.1
      have httx : ttx (4, a, cut T (a + 1) (a + 1 + spn dTxt T (a + 1)), 0) = cut T (a + 1) (a + 1 + spn dTxt T (a + 1)) := rfl
      obtain ⟨Z1, e1, e2, e3, e4, e5⟩ := tk_new (n := n) (t := (4, a, cut T (a + 1) (a + 1 + spn dTxt T (a + 1)), 0)) (e := a + 1 + spn dTxt T (a + 1) + 1) (s := st) hY q2 (FRY_T b2 q3) (a := Y.2.1) (Nat.le_refl _) (by have := q3.1; omega) (FRY_0 q3 b3) (by rw [httx]; exact q4) (by omega) ⟨by show 4 < 43; omega, by rw [httx]; unfold cut; rw [List.length_take]; omega, by show (0 : Int32).toInt.natAbs ≤ 999999999; decide⟩
      refine ⟨Y.2.1, Z1, ?_, e2, FRY_M e3 (fun _ q => q) (by omega), e4, Nat.le_refl _, by rw [e5]; have := q3.1; omega⟩
      show ((c21 n tp (nI a + 1) _ _).bind _) = _
      rw [nI_1]
      refine bnd_eq q1 ?_
      dsimp only
      rw [nI_1]
      exact bnd_eq e1 rfl
    · rw [if_neg (by rw [show (16 : Int32) = nI 16 from rfl, nI_leI (by omega) (by omega)]; omega), if_neg (fun q => by have := q.2; omega)]
      exact h49
  · rw [if_neg h39, if_neg (fun q => h39 q.1)]
    exact h49
end
end ZJG

/-! THE CLASS READS: a flag's kind and needs -/
section ZJU
section
variable {n : Nat} {Y Y0 Y1 Y2 Ys Z : zY} {a b s p m e tp r q rd pl W W2 WE lo x : Nat} {S S1 F F1 F2 : List Nat} {T : List Int32} {t : Tk} {ts : List Tk} {v u off : Int32} {o o' : yO} {l : Nat → Nat} {os rc sq fl : Nat} {k : Nat × List (List Int32)} {spl : List Spl} {xs : List Nat} {A : Nat → Nat} {kd st fr er : Nat} {X : Nat → List Nat} {v4 v5 : List Value}
def upL {α : Type} (xs : Nat → α) (j : Nat) (v : α) (i : Nat) : α := if i = j then v else xs i
theorem upL_s {α : Type} {xs : Nat → α} {j : Nat} {v : α} : upL xs j v j = v := if_pos rfl
theorem upL_n {α : Type} {xs : Nat → α} {i j : Nat} {v : α} (h : i ≠ j) : upL xs j v i = xs i := if_neg h
/-- a flag's cells -/
def FLX (Y : zY) (fl : Nat) (A : Nat → Nat) (kd st : Nat) (off : Int32) (fr er : Nat) (X : Nat → List Nat) (v4 v5 : List Value) : Prop :=
  Y.1 fl = some (oB 0 [.ref kd, .ref (A 1), .ref (A 2), .ref (A 3), .ref (A 4), .ref (A 5), .ref st, .int off, .int (nI fr), .int (nI er)]) ∧ 139 ≤ fl ∧ (∀ j, 1 ≤ j → j ≤ 3 → LSX Y (A j) (X j)) ∧ A 1 ≠ A 2 ∧ A 1 ≠ A 3 ∧ A 2 ≠ A 3 ∧ Y.1 (A 4) = some (oA 0 v4) ∧ Y.1 (A 5) = some (oA 0 v5) ∧ A 4 ≠ A 5 ∧ 139 ≤ A 4 ∧ 139 ≤ A 5
theorem FLX_k (h : FLX Y fl A kd st off fr er X v4 v5) (hf : FR Y Y1 S) (h1 : fl ∉ S) (h2 : ∀ j, 1 ≤ j → j ≤ 5 → A j ∉ S) : FLX Y1 fl A kd st off fr er X v4 v5 := by
  obtain ⟨g1, g2, g3, g4, g5, g6, g7, g8, g9, g10⟩ := h
  exact ⟨FR_k hf g1 h1, g2, fun j a b => LSX_k (g3 j a b) hf (h2 j a (by omega)), g4, g5, g6, FR_k hf g7 (h2 4 (by omega) (by omega)), FR_k hf g8 (h2 5 (by omega) (by omega)), g9, g10⟩
/-- the reader is none of them -/
theorem FLX_rd (h : FLX Y fl A kd st off fr er X v4 v5) (hR : RDR Y rd pl ts) : fl ≠ rd ∧ ∀ j, 1 ≤ j → j ≤ 5 → A j ≠ rd := by
  obtain ⟨g1, g2, g3, g4, g5, g6, g7, g8, g9, g10⟩ := h
  obtain ⟨⟨_, _, _, k1, _⟩, _⟩ := hR
  have e1 : ∀ j, 1 ≤ j → j ≤ 3 → A j ≠ rd := fun j a b c => by
    obtain ⟨⟨cap, h1, _⟩, _⟩ := g3 j a b
    rw [c, k1] at h1; cases h1
  refine ⟨fun c => (by rw [c, k1] at g1; cases g1), fun j a b c => ?_⟩
  rcases Nat.lt_or_ge j 4 with d | d
  · exact e1 j a (by omega) c
  · rcases Nat.lt_or_ge j 5 with d' | d'
    · rw [show j = 4 by omega, ] at c; rw [c, k1] at g7; cases g7
    · rw [show j = 5 by omega, ] at c; rw [c, k1] at g8; cases g8
theorem FLX_r1 (h : FLX Y fl A kd st off fr er X v4 v5) (hR : RDR Y rd pl ts) (hf : FR Y Y1 [rd]) : FLX Y1 fl A kd st off fr er X v4 v5 := by
  obtain ⟨g1, g2⟩ := FLX_rd h hR
  exact FLX_k h hf (by simpa using g1) (fun j a b => by simpa using g2 j a b)
/-- one of its lists has grown -/
theorem FLX_l {j0 : Nat} {v : List Nat} (h : FLX Y fl A kd st off fr er X v4 v5) (h1 : 1 ≤ j0) (h3 : j0 ≤ 3) (hf : FR Y Y1 [A j0]) (hx : LSX Y1 (A j0) v) : FLX Y1 fl A kd st off fr er (upL X j0 v) v4 v5 := by
  obtain ⟨g1, g2, g3, g4, g5, g6, g7, g8, g9, g10⟩ := h
  obtain ⟨⟨cap, k1, _⟩, _⟩ := g3 j0 h1 h3
  have hne : ∀ j, 1 ≤ j → j ≤ 3 → j ≠ j0 → A j ≠ A j0 := by
    intro j a b c d
    have : (j = 1 ∨ j = 2 ∨ j = 3) ∧ (j0 = 1 ∨ j0 = 2 ∨ j0 = 3) := by omega
    obtain ⟨e1 | e1 | e1, e2 | e2 | e2⟩ := this <;> subst e1 <;> subst e2 <;> first | exact c rfl | exact g4 d | exact g5 d | exact g6 d | exact g4 d.symm | exact g5 d.symm | exact g6 d.symm
  refine ⟨FR_k hf g1 (fun c => by rw [List.mem_singleton.mp c, k1] at g1; cases g1), g2, fun j a b => ?_, g4, g5, g6, FR_k hf g7 (fun c => by rw [List.mem_singleton.mp c, k1] at g7; cases g7), FR_k hf g8 (fun c => by rw [List.mem_singleton.mp c, k1] at g8; cases g8), g9, g10⟩
  by_cases c : j = j0
  · subst c; rw [upL_s]; exact hx
  · rw [upL_n c]; exact LSX_k (g3 j a b) hf (by simpa using hne j a b c)
/-- its own cell is written -/
theorem FLX_c {kd' st' fr' er' : Nat} {off' : Int32} (h : FLX Y fl A kd st off fr er X v4 v5) : FLX (yu Y fl (some (oB 0 [.ref kd', .ref (A 1), .ref (A 2), .ref (A 3), .ref (A 4), .ref (A 5), .ref st', .int off', .int (nI fr'), .int (nI er')]))) fl A kd' st' off' fr' er' X v4 v5 := by
  obtain ⟨g1, g2, g3, g4, g5, g6, g7, g8, g9, g10⟩ := h
  refine ⟨yu_s, g2, fun j a b => ?_, g4, g5, g6, ?_, ?_, g9, g10⟩
  · obtain ⟨⟨cap, k1, k2⟩, k3⟩ := g3 j a b
    refine ⟨⟨cap, ?_, k2⟩, k3⟩
    rw [yu_n]
    · exact k1
    · intro c; rw [c, g1] at k1; cases k1
  · rw [yu_n]
    · exact g7
    · intro c; rw [c, g1] at g7; cases g7
  · rw [yu_n]
    · exact g8
    · intro c; rw [c, g1] at g8; cases g8
theorem KN_of (h : FLX Y fl A kd st off fr er X v4 v5) (hk : kd = kdA k.1) (hA : AL (RNm Y) (X 1) k.2) (h8 : k.2.length ≤ 8) (h2 : k.1 ≤ 2) : KN Y fl (A 1) k := by
  obtain ⟨g1, g2, g3, _⟩ := h
  subst hk
  exact ⟨⟨_, g1⟩, LSY_of (g3 1 (by omega) (by omega)) hA, h8, h2⟩
/-- readChoice -/
theorem ch_ok {cs : List (List Int32)} (h : RS rd pl W Y ts) (hX : FLX Y fl A kd st off fr er X v4 v5) (hA : AL (RNm Y) (X 1) cs) (h8 : cs.length ≤ 8) (hn : 6002 ≤ n) (hE : W ≤ WE + 250) : CR rd pl Y [rd, A 1] W WE (c94 n rd (some fl) Y) (rb (sNew cs ts) fun x => if 8 ≤ cs.length then .inl (sErr 5 x.1) else .inr (cs ++ [x.1.2.2.1], x.2)) (fun z => z.2) (fun Y1 z _ => ∃ xs', FLX Y1 fl A kd st off fr er (upL X 1 xs') v4 v5 ∧ AL (RNm Y1) xs' z.1 ∧ z.1.length ≤ 8) := by
  have hD := h.1.2
  have hW := h.2.2
  have hlt := rdr_len h.2.1
  have hl := AL_len hA
  obtain ⟨r1, r2⟩ := FLX_rd hX h.2.1
  have hA1 := hX.2.2.1 1 (by omega) (by omega)
  have hs1 : ∀ a ∈ [rd], a ∈ [rd, A 1] ∨ Y.2.1 ≤ a := fun a h => Or.inl (by rw [List.mem_singleton.mp h]; simp)
  unfold c94
  refine CR_y rfl (CR_y (yR_of (r := some (A 1)) hX.1 rfl) (CR_g (rdr_o h.2.1) ?_))
  refine CR_b (nw_ok h (LSY_of hA1 hA) (r2 1 (by omega) (by omega)) (by omega) hn hE) FR_R hs1 hD ?_
  rintro ⟨t, ts1⟩ v Y1 hS1 hf1 hf01 ⟨q, rfl, q1, q2, q3, q4⟩
  dsimp only at hS1 q1 q2 q3 q4 ⊢
  have hX1 := FLX_r1 hX h.2.1 hf1
  have hA1' := hX1.2.2.1 1 (by omega) (by omega)
  refine CR_y (yR_of (r := some (A 1)) hX1.1 rfl) (CR_y rfl (CR_g (lsx_o hA1') (CR_y (lsx_n hA1') ?_)))
  dsimp only
  rw [hl]
  have q1' := q1
  obtain ⟨e, nx, q1'⟩ := q1'
  by_cases c : 8 ≤ cs.length
  · rw [if_neg (by rw [show (8 : Int32) = nI 8 from rfl, nI_ltI (by omega) (by omega)]; omega), if_pos c]
    exact CR_g (rdr_o hS1.2.1) (cr_ref hS1.1 hS1.2.1 q1' hf01 (by simp) hD (by have := hS1.2.2; have := rdr_len hS1.2.1; omega))
  · rw [if_pos (by rw [show (8 : Int32) = nI 8 from rfl, nI_ltI (by omega) (by omega)]; omega), if_neg c]
    unfold cb94_27
    obtain ⟨st', j1, j2, j3, j4, j5, j6, j7, fs, j8⟩ := tk_txt q1
    obtain ⟨Y2, d1, d2, d3, d4, d5⟩ := lsx_a (n := n) hS1.1 hA1' j8 (by decide) (by omega)
    refine CR_y rfl (CR_y (yR_of (r := some (A 1)) hX1.1 rfl) (CR_y rfl (CR_g (lsx_o hA1') (CR_y d1 ?_))))
    have hrA : rd ∉ [A 1] := by simpa using (r2 1 (by omega) (by omega)).symm
    refine CR_s (s := (cs ++ [t.2.2.1], ts1)) ⟨d2, RDR_k hS1.2.1 d3 hrA, ?_⟩ (FR_T hf01 d3 (fun a h => Or.inl (by rw [List.mem_singleton.mp h]; simp)) hD) ⟨X 1 ++ [q], FLX_l hX1 (by omega) (by omega) d3 d5, AL_app (AL_imp (fun x y z => RNm_k d3.2.2 (RNm_k hf1.2.2 z)) hA) ⟨t, RTk_k d3.2.2 q1, by unfold ttx; rw [if_neg (by omega)]⟩, ?_⟩
    · have := hS1.2.2
      show wY Y2 + 300 * ts1.length ≤ W
      omega
    · rw [List.length_append]; show cs.length + 1 ≤ 8; omega
theorem upL_upL {α : Type} {xs : Nat → α} {j : Nat} {v w : α} : upL (upL xs j v) j w = upL xs j w := by
  funext i
  unfold upL
  by_cases c : i = j
  · rw [if_pos c, if_pos c]
  · rw [if_neg c, if_neg c, if_neg c]
/-- further choices -/
theorem cl_ok (hn : 6002 ≤ n) (hE : W ≤ WE + 250) (hD : DM Y0) (hr : rd ∈ S) (ha : A 1 ∈ S) : ∀ (fu i : Nat) {Y : zY} {ts : List Tk} {cs : List (List Int32)} {X : Nat → List Nat}, i ≤ 8 → 8 - i < fu → RS rd pl W Y ts → FR Y0 Y S → FLX Y fl A kd st off fr er X v4 v5 → AL (RNm Y) (X 1) cs → cs.length ≤ 8 → CR rd pl Y0 S W WE (cf93_73 n fu rd (some fl) (nI i) Y) (rb (sChoL 8 (8 - i) cs ts) fun y => rb (sEat 8 y.2) fun ts => .inr ((2, y.1), ts)) (fun z : (Nat × List (List Int32)) × List Tk => z.2) (fun Y1 z _ => ∃ xs', FLX Y1 fl A kd st off fr er (upL X 1 xs') v4 v5 ∧ AL (RNm Y1) xs' z.1.2 ∧ z.1.2.length ≤ 8 ∧ z.1.1 = 2)
  | 0, i, Y, ts, cs, X, _, h, _, _, _, _, _ => by omega
  | fu + 1, i, Y, ts, cs, X, hi, hfu, h, hf, hX, hA, h8 => by
    have hs1 : ∀ a ∈ [rd], a ∈ S ∨ Y0.2.1 ≤ a := fun a h => Or.inl (by rw [List.mem_singleton.mp h]; exact hr)
    have hs2 : ∀ a ∈ [rd, A 1], a ∈ S ∨ Y0.2.1 ≤ a := fun a h => Or.inl (by
      rcases List.mem_cons.mp h with e | e
      · rw [e]; exact hr
      · rw [List.mem_singleton.mp e]; exact ha)
    have fin : CR rd pl Y0 S W WE (cb93_111 n rd (some fl) (nI i) Y) (rb (sEat 8 ts) fun ts => .inr ((2, cs), ts)) (fun z : (Nat × List (List Int32)) × List Tk => z.2) (fun Y1 z _ => ∃ xs', FLX Y1 fl A kd st off fr er (upL X 1 xs') v4 v5 ∧ AL (RNm Y1) xs' z.1.2 ∧ z.1.2.length ≤ 8 ∧ z.1.1 = 2) := by
      unfold cb93_111
      rw [rb_eat]
      refine CR_g (rdr_o h.2.1) ?_
      refine CR_b (tk_ok (s := 8) h (by omega) hE) hf hs1 hD ?_
      rintro ⟨t, ts'⟩ v Y1 hS1 hf1 hf01 _
      refine CR_s (s := ((2, cs), ts')) (RS_le hS1 (by omega)) hf01 ⟨X 1, ?_, AL_imp (fun x y z => RNm_k hf1.2.2 z) hA, h8, rfl⟩
      have : upL X 1 (X 1) = X := by
        funext i
        unfold upL
        by_cases c : i = 1
        · rw [if_pos c, c]
        · rw [if_neg c]
      rw [this]
      exact FLX_r1 hX h.2.1 hf1
    show CR rd pl Y0 S W WE (cb93_73 n (cf93_73 n fu) rd (some fl) (nI i) Y) _ _ _
    unfold cb93_73
    by_cases hz : i = 8
    · rw [if_pos (by rw [hz]; decide), hz, show 8 - 8 = 0 from rfl]
      rw [hz] at fin
      exact fin
    · rw [if_neg (by rw [show (8 : Int32) = nI 8 from rfl, nI_leI (by omega) (by omega)]; omega)]
      refine cr_hd h.2.1 (by omega) fun _ => ?_
      rw [show 8 - i = (8 - (i + 1)) + 1 by omega]
      unfold sChoL
      by_cases hc : (hd ts).1 = 10
      · rw [if_pos (decide_eq_true (by omega)), if_pos hc]
        refine CR_g (rdr_o h.2.1) ?_
        have ht := tk_any (n := n) h (by omega) hE
        rw [hc] at ht
        refine CR_i ht hf hs1 hD ?_
        rintro v Y1 hS1 hf1 hf01 ⟨q, e, nx, rfl, q2, q3, q4, q5⟩
        dsimp only at hS1 q2 q3 q4 q5
        have hX1 := FLX_r1 hX h.2.1 hf1
        refine CR_g (rdr_o hS1.2.1) ?_
        have hcc := ch_ok (n := n) (RS_le hS1 (show _ ≤ W by omega)) hX1 (AL_imp (fun x y z => RNm_k hf1.2.2 z) hA) h8 hn hE
        have hre : (rb (rb (sNew cs (adv ts)) fun x => if 8 ≤ cs.length then .inl (sErr 5 x.1) else sChoL 8 (8 - (i + 1)) (cs ++ [x.1.2.2.1]) x.2) fun y => rb (sEat 8 y.2) fun ts => .inr ((2, y.1), ts) : RR ((Nat × List (List Int32)) × List Tk)) = rb (rb (sNew cs (adv ts)) fun x => if 8 ≤ cs.length then .inl (sErr 5 x.1) else .inr (cs ++ [x.1.2.2.1], x.2)) fun z => rb (sChoL 8 (8 - (i + 1)) z.1 z.2) fun y => rb (sEat 8 y.2) fun ts => .inr ((2, y.1), ts) := by
          cases sNew cs (adv ts) with
          | inl e => rfl
          | inr x =>
            rw [rb_inr, rb_inr]
            by_cases c : 8 ≤ cs.length
            · rw [if_pos c, if_pos c]; rfl
            · rw [if_neg c, if_neg c]; rfl
        rw [hre]
        refine CR_b hcc hf01 hs2 hD ?_
        rintro ⟨cs', ts2⟩ v Y2 hS2 hf2 hf02 ⟨xs', g1, g2, g3⟩
        dsimp only at hS2 g2 g3 ⊢
        rw [nI_1]
        have := cl_ok hn hE hD hr ha fu (i + 1) (by omega) (by omega) hS2 hf02 g1 (by rw [upL_s]; exact g2) g3
        refine CR_r this FR_R (fun a h => Or.inl h) hD (Nat.le_refl _) ?_
        rintro Y3 z v _ _ ⟨xs2, k1, k2⟩
        rw [upL_upL] at k1
        exact ⟨xs2, k1, k2⟩
      · rw [if_neg (by rw [decide_eq_false (by omega)]; decide), if_neg hc, rb_inr]
        exact fin
/-- readKind -/
theorem kd_ok (h : RS rd pl W Y ts) (hX : FLX Y fl A kd st off fr er X v4 v5) (hA : X 1 = []) (hn : 6002 ≤ n) (hE : W ≤ WE + 250) : CR rd pl Y [rd, fl, A 1] W WE (c93 n rd (some fl) Y) (sKind ts) (fun z => z.2) (fun Y1 z _ => ∃ xs', FLX Y1 fl A (kdA z.1.1) st off fr er (upL X 1 xs') v4 v5 ∧ AL (RNm Y1) xs' z.1.2 ∧ z.1.2.length ≤ 8 ∧ z.1.1 ≤ 2) := by
  have hD := h.1.2
  have hW := h.2.2
  have hlt := rdr_len h.2.1
  obtain ⟨a, e, nx, k1, k2, k3, k4⟩ := rdr_t h.2.1
  obtain ⟨r1, r2⟩ := FLX_rd hX h.2.1
  unfold c93
  refine CR_y k1 (CR_y rfl (CR_y k4 (CR_y rfl (CR_y (yP_of hX.1 hX.2.1 rfl rfl) ?_))))
  obtain ⟨Y1, hY1⟩ : ∃ Y1, Y1 = yu Y fl (some (oB 0 [.ref ((hd ts).1 + 1), .ref (A 1), .ref (A 2), .ref (A 3), .ref (A 4), .ref (A 5), .ref st, .int off, .int (nI fr), .int (nI er)])) := ⟨_, rfl⟩
  rw [show yu Y fl (some (oB 0 (zs [.ref kd, .ref (A 1), .ref (A 2), .ref (A 3), .ref (A 4), .ref (A 5), .ref st, .int off, .int (nI fr), .int (nI er)] 0 (va_rf (some ((hd ts).1 + 1)))))) = Y1 by rw [hY1]; rfl]
  have hX1 : FLX Y1 fl A ((hd ts).1 + 1) st off fr er X v4 v5 := by rw [hY1]; exact FLX_c hX
  have hS1 : RS rd pl W Y1 ts := by rw [hY1]; exact RS_w h hX.1 rfl r1 hX.2.1
  have hf1 : FR Y Y1 [rd, fl, A 1] := by rw [hY1]; exact FR_M (FR_u hX.1 rfl) (by simp)
  have hs1 : ∀ a ∈ [rd], a ∈ [rd, fl, A 1] ∨ Y.2.1 ≤ a := fun a h => Or.inl (by rw [List.mem_singleton.mp h]; simp)
  have hup : upL X 1 [] = X := by
    funext i
    unfold upL
    by_cases c : i = 1
    · rw [if_pos c, c, hA]
    · rw [if_neg c]
  unfold sKind
  have h37 : ∀ {g : Nat}, 2 ≤ (hd ts).1 → (hd ts).1 + 1 = kdA g → g ≤ 2 → CR rd pl Y [rd, fl, A 1] W WE (cb93_37 n rd (some fl) Y1) (.inr ((g, []), adv ts)) (fun z : (Nat × List (List Int32)) × List Tk => z.2) (fun Y1 z _ => ∃ xs', FLX Y1 fl A (kdA z.1.1) st off fr er (upL X 1 xs') v4 v5 ∧ AL (RNm Y1) xs' z.1.2 ∧ z.1.2.length ≤ 8 ∧ z.1.1 ≤ 2) := by
    intro g h2 hg hg2
    unfold cb93_37
    obtain ⟨a, e, nx, k1, k2, k3, k4⟩ := rdr_t hS1.2.1
    refine CR_y k1 (CR_y rfl (CR_y k4 (CR_g (rdr_o hS1.2.1) ?_)))
    refine CR_i (tk_any hS1 h2 hE) hf1 hs1 hD ?_
    rintro v Y2 hS2 hf2 hf02 _
    exact CR_s (s := ((g, []), adv ts)) (RS_le hS2 (by omega)) hf02 ⟨[], by rw [hup]; show FLX Y2 fl A (kdA g) st off fr er X v4 v5; rw [← hg]; exact FLX_r1 hX1 hS1.2.1 hf2, trivial, by show 0 ≤ 8; omega, hg2⟩
  refine cr_hd hS1.2.1 (by omega) fun _ => ?_
  by_cases h15 : (hd ts).1 = 15
  · rw [if_pos (decide_eq_true (by omega)), if_pos h15]
    exact h37 (g := 0) (by omega) (by rw [h15]; rfl) (by omega)
  rw [if_neg (by rw [decide_eq_false (by omega)]; decide), if_neg h15]
  refine cr_hd hS1.2.1 (by omega) fun _ => ?_
  by_cases h16 : (hd ts).1 = 16
  · rw [if_pos (decide_eq_true (by omega)), if_pos h16]
    exact h37 (g := 1) (by omega) (by rw [h16]; rfl) (by omega)
  rw [if_neg (by rw [decide_eq_false (by omega)]; decide), if_neg h16, rb_eat]
  refine CR_g (rdr_o hS1.2.1) ?_
  refine CR_b (tk_ok (s := 17) hS1 (by omega) hE) hf1 hs1 hD ?_
  rintro ⟨t2, ts2⟩ v Y2 hS2 hf2 hf02 ⟨_, _, _, rfl, _, b1, b2, b3, b4⟩
  dsimp only at hS2 b1 b2 b3 b4 ⊢
  have h17 : (hd ts).1 = 17 := by rw [← b1]; exact b2
  have hX2 := FLX_r1 hX1 hS1.2.1 hf2
  rw [h17] at hX2
  rw [rb_eat]
  refine CR_g (rdr_o hS2.2.1) ?_
  refine CR_b (tk_ok (s := 7) hS2 (by omega) (by omega)) hf02 hs1 hD ?_
  rintro ⟨t3, ts3⟩ v Y3 hS3 hf3 hf03 ⟨_, _, _, rfl, _, d1, d2, d3, d4⟩
  dsimp only at hS3 d1 d2 d3 d4 ⊢
  have hX3 := FLX_r1 hX2 hS2.2.1 hf3
  refine CR_g (rdr_o hS3.2.1) ?_
  have hcc := ch_ok (n := n) (cs := []) (RS_le hS3 (show _ ≤ W by omega)) hX3 (by rw [hA]; trivial) (by show 0 ≤ 8; omega) hn hE
  have hre : (rb (sNew [] ts3) fun x => rb (sChoL 8 8 [x.1.2.2.1] x.2) fun y => rb (sEat 8 y.2) fun ts => .inr ((2, y.1), ts) : RR ((Nat × List (List Int32)) × List Tk)) = rb (rb (sNew [] ts3) fun x => if 8 ≤ ([] : List (List Int32)).length then .inl (sErr 5 x.1) else .inr ([] ++ [x.1.2.2.1], x.2)) fun z => rb (sChoL 8 (8 - 0) z.1 z.2) fun y => rb (sEat 8 y.2) fun ts => .inr ((2, y.1), ts) := by
    cases sNew [] ts3 with
    | inl e => rfl
    | inr x => rfl
  rw [hre]
  have hs2 : ∀ a ∈ [rd, A 1], a ∈ [rd, fl, A 1] ∨ Y.2.1 ≤ a := fun a h => Or.inl (by
    rcases List.mem_cons.mp h with e | e
    · rw [e]; simp
    · rw [List.mem_singleton.mp e]; simp)
  refine CR_b hcc hf03 hs2 hD ?_
  rintro ⟨cs', ts4⟩ v Y4 hS4 hf4 hf04 ⟨xs', g1, g2, g3⟩
  dsimp only at hS4 g2 g3 ⊢
  have := cl_ok (n := n) (rd := rd) (pl := pl) (W := W) (WE := WE) (S := [rd, fl, A 1]) (A := A) hn hE hD (by simp) (by simp) n 0 (by omega) (by omega) hS4 hf04 g1 (by rw [upL_s]; exact g2) g3
  refine CR_r this FR_R (fun a h => Or.inl h) hD (Nat.le_refl _) ?_
  rintro Y5 z v _ _ ⟨xs2, k1, k2, k3, k4⟩
  rw [upL_upL] at k1
  exact ⟨xs2, by rw [k4]; exact k1, k2, k3, by omega⟩
end
end ZJU

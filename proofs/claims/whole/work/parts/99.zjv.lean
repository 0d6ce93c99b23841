/-! THE CLASS READS: needs, rules -/
section ZJV
section
variable {n : Nat} {Y Y0 Y1 Y2 Ys Z : zY} {a b s p m e tp r q rd pl W W2 WE lo x : Nat} {S S1 F F1 F2 : List Nat} {T : List Int32} {t : Tk} {ts : List Tk} {v u off : Int32} {o o' : yO} {l : Nat → Nat} {os rc sq fl c1 : Nat} {k : Nat × List (List Int32)} {spl : List Spl} {A : Nat → Nat} {kd st fr er : Nat} {X : Nat → List Nat} {v4 v5 : List Value} {xs : Nat → List Nat} {P : Pln} {fn ln : List (List Int32)}
/-- readNeed -/
theorem nd_ok {ns : List (Tk × Tk)} (h : RS rd pl W Y ts) (hX : FLX Y fl A kd st off fr er X v4 v5) (hA2 : AL (RTk Y) (X 2) (ns.map (·.1))) (hA3 : AL (RTk Y) (X 3) (ns.map (·.2))) (hl : ns.length ≤ 4) (h20 : (hd ts).1 = 20) (hE : W ≤ WE + 100) : CR rd pl Y [rd, A 2, A 3] W WE (c105 n rd (some fl) Y) (sNeed ns ts) (fun z => z.2) (fun Y1 z _ => ∃ x2 x3, FLX Y1 fl A kd st off fr er (upL (upL X 2 x2) 3 x3) v4 v5 ∧ AL (RTk Y1) x2 (z.1.map (·.1)) ∧ AL (RTk Y1) x3 (z.1.map (·.2)) ∧ z.1.length ≤ 4) := by
  have hD := h.1.2
  have hW := h.2.2
  have hlt := rdr_len h.2.1
  have hl2 := AL_len hA2
  have hl3 := AL_len hA3
  rw [List.length_map] at hl2 hl3
  obtain ⟨r1, r2⟩ := FLX_rd hX h.2.1
  have hs1 : ∀ a ∈ [rd], a ∈ [rd, A 2, A 3] ∨ Y.2.1 ≤ a := fun a h => Or.inl (by rw [List.mem_singleton.mp h]; simp)
  have hA2x := hX.2.2.1 2 (by omega) (by omega)
  unfold c105 sNeed
  refine CR_y rfl (CR_y (yR_of (r := some (A 2)) hX.1 rfl) (CR_y rfl (CR_g (lsx_o hA2x) (CR_y (lsx_n hA2x) (CR_g (rdr_o h.2.1) ?_)))))
  dsimp only
  refine CR_b (fw_ok (hv := ns.length) (mo := 4) h (by rw [hl2]) rfl (by omega) (by omega) (by omega) (by omega)) FR_R hs1 hD ?_
  rintro ts1 v Y1 hS1 hf1 hf01 ⟨i1, i2, i3⟩
  have hX1 := FLX_r1 hX h.2.1 hf1
  refine CR_y (yR_of (r := some (A 2)) hX1.1 rfl) (CR_g (rdr_o hS1.2.1) ?_)
  refine CR_b (tk_ok (s := 2) hS1 (by omega) (by omega)) hf01 hs1 hD ?_
  rintro ⟨w, ts2⟩ v Y2 hS2 hf2 hf02 ⟨wa, we, wn, rfl, w1, w2, w3, w4, w5⟩
  dsimp only at hS2 w1 w2 w3 w4 w5 ⊢
  have hX2 := FLX_r1 hX1 hS1.2.1 hf2
  have hA2y := hX2.2.2.1 2 (by omega) (by omega)
  obtain ⟨_, _, _, _, _, _, _, _, fs, j8⟩ := tk_txt ⟨we, wn, w1⟩
  obtain ⟨Y3, d1, d2, d3, d4, d5⟩ := lsx_a (n := n) hS2.1 hA2y j8 (by decide) (by omega)
  refine CR_y rfl (CR_g (lsx_o hA2y) (CR_y d1 ?_))
  have hX3 := FLX_l hX2 (by omega) (by omega) d3 d5
  have hS3 : RS rd pl (W - 300) Y3 ts2 := ⟨d2, RDR_k hS2.2.1 d3 (by simpa using (r2 2 (by omega) (by omega)).symm), by have := hS2.2.2; omega⟩
  have hf03 : FR Y Y3 [rd, A 2, A 3] := FR_T hf02 d3 (fun a h => Or.inl (by rw [List.mem_singleton.mp h]; simp)) hD
  refine CR_g (rdr_o hS3.2.1) ?_
  rw [rb_eat]
  refine CR_b (tk_ok (s := 12) hS3 (by omega) (by omega)) hf03 hs1 hD ?_
  rintro ⟨t4, ts4⟩ v Y4 hS4 hf4 hf04 ⟨_, _, _, rfl, _, _, _, b3, b4⟩
  dsimp only at hS4 b3 b4 ⊢
  have hX4 := FLX_r1 hX3 hS3.2.1 hf4
  -- the value
  have hgo : (hd ts4).1 = 33 ∨ (hd ts4).1 = 34 ∨ (hd ts4).1 = 2 ∨ (hd ts4).1 = 3 → CR rd pl Y [rd, A 2, A 3] W WE (cb105_87 n rd (some fl) Y4) (rb (sEat 9 (adv ts4)) fun ts' => .inr (ns ++ [(w, hd ts4)], ts')) (fun z => z.2) (fun Y1 z _ => ∃ x2 x3, FLX Y1 fl A kd st off fr er (upL (upL X 2 x2) 3 x3) v4 v5 ∧ AL (RTk Y1) x2 (z.1.map (·.1)) ∧ AL (RTk Y1) x3 (z.1.map (·.2)) ∧ z.1.length ≤ 4) := by
    intro hc
    unfold cb105_87 cb105_92
    rw [if_neg (show ¬ (1 : Int32) = 0 by decide)]
    unfold cb105_106
    obtain ⟨a, e, nx, k1, k2, k3, k4⟩ := rdr_t hS4.2.1
    refine CR_y rfl (CR_y (yR_of (r := some (A 3)) hX4.1 rfl) (CR_y k1 (CR_y rfl (CR_y k4 (CR_g (rdr_o hS4.2.1) ?_)))))
    refine CR_i (tk_any hS4 (by omega) (by omega)) hf04 hs1 hD ?_
    rintro v Y5 hS5 hf5 hf05 ⟨va, ve, vn, rfl, q2, q3, q4, q5⟩
    dsimp only at hS5 q2 q3 q4 q5
    have hX5 := FLX_r1 hX4 hS4.2.1 hf5
    have hA3y := hX5.2.2.1 3 (by omega) (by omega)
    rw [upL_n (by omega)] at hA3y
    obtain ⟨_, _, _, _, _, _, _, _, fs5, j85⟩ := tk_txt ⟨ve, vn, q2⟩
    obtain ⟨Y6, g1, g2, g3, g4, g5⟩ := lsx_a (n := n) hS5.1 hA3y j85 (by decide) (by omega)
    refine CR_y rfl (CR_g (lsx_o hA3y) (CR_y g1 ?_))
    have hX6 := FLX_l hX5 (by omega) (by omega) g3 g5
    have hS6 : RS rd pl (W - 300) Y6 (adv ts4) := ⟨g2, RDR_k hS5.2.1 g3 (by simpa using (r2 3 (by omega) (by omega)).symm), by have := hS5.2.2; omega⟩
    have hf06 : FR Y Y6 [rd, A 2, A 3] := FR_T hf05 g3 (fun a h => Or.inl (by rw [List.mem_singleton.mp h]; simp)) hD
    refine CR_g (rdr_o hS6.2.1) ?_
    rw [rb_eat]
    refine CR_b (tk_ok (s := 9) hS6 (by omega) (by omega)) hf06 hs1 hD ?_
    rintro ⟨t7, ts7⟩ v Y7 hS7 hf7 hf07 _
    dsimp only at hS7 ⊢
    refine CR_s (s := (ns ++ [(w, hd ts4)], ts7)) (RS_le hS7 (by omega)) hf07 ⟨X 2 ++ [wa], X 3 ++ [va], FLX_r1 hX6 hS6.2.1 hf7, ?_, ?_, ?_⟩
    · rw [List.map_append]
      exact AL_app (AL_imp (fun x y => RTk_k hf07.2.2) hA2) (RTk_k (IMK_T d3.2.2 (IMK_T hf4.2.2 (IMK_T hf5.2.2 (IMK_T g3.2.2 hf7.2.2)))) ⟨we, wn, w1⟩)
    · rw [List.map_append]
      exact AL_app (AL_imp (fun x y => RTk_k hf07.2.2) hA3) (RTk_k (IMK_T g3.2.2 hf7.2.2) ⟨ve, vn, q2⟩)
    · rw [List.length_append]; show ns.length + 1 ≤ 4; omega
  refine cr_hd hS4.2.1 (by omega) fun _ => ?_
  by_cases c33 : (hd ts4).1 = 33
  · rw [if_pos (decide_eq_true (by omega)), if_pos (Or.inl c33)]
    exact hgo (Or.inl c33)
  rw [if_neg (by rw [decide_eq_false (by omega)]; decide)]
  refine cr_hd hS4.2.1 (by omega) fun _ => ?_
  by_cases c34 : (hd ts4).1 = 34
  · rw [if_pos (decide_eq_true (by omega)), if_pos (Or.inr (Or.inl c34))]
    exact hgo (Or.inr (Or.inl c34))
  rw [if_neg (by rw [decide_eq_false (by omega)]; decide)]
  refine cr_hd hS4.2.1 (by omega) fun _ => ?_
  by_cases c2 : (hd ts4).1 = 2
  · rw [if_pos (decide_eq_true (by omega)), if_pos (Or.inr (Or.inr (Or.inl c2)))]
    exact hgo (Or.inr (Or.inr (Or.inl c2)))
  rw [if_neg (by rw [decide_eq_false (by omega)]; decide)]
  refine cr_hd hS4.2.1 (by omega) fun _ => ?_
  by_cases c3 : (hd ts4).1 = 3
  · rw [if_pos (decide_eq_true (by omega)), if_pos (Or.inr (Or.inr (Or.inr c3)))]
    exact hgo (Or.inr (Or.inr (Or.inr c3)))
  rw [if_neg (by rw [decide_eq_false (by omega)]; decide), if_neg (fun q => q.elim c33 (fun q => q.elim c34 (fun q => q.elim c2 c3)))]
  unfold cb105_92
  rw [if_pos (show (0 : Int32) = 0 from rfl)]
  obtain ⟨a, e, nx, k1, k2, k3, k4⟩ := rdr_t hS4.2.1
  exact CR_y k1 (CR_g (rdr_o hS4.2.1) (cr_ref hS4.1 hS4.2.1 k2 hf04 (by simp) hD (by have := hS4.2.2; omega)))
/-! the plan's lists -/
def LLS (Y : zY) (l : Nat → Nat) (xs : Nat → List Nat) : Prop := (∀ j, j < 8 → LSX Y (l j) (xs j)) ∧ ∀ i j, i < 8 → j < 8 → l i = l j → i = j
theorem LLS_k (h : LLS Y l xs) (hf : FR Y Y1 S) (hs : ∀ j, j < 8 → l j ∉ S) : LLS Y1 l xs := ⟨fun j hj => LSX_k (h.1 j hj) hf (hs j hj), h.2⟩
theorem LLS_1 {j0 : Nat} {v : List Nat} (h : LLS Y l xs) (hf : FR Y Y1 S) (hs : ∀ j, j < 8 → j ≠ j0 → l j ∉ S) (hx : LSX Y1 (l j0) v) : LLS Y1 l (upL xs j0 v) := ⟨fun j hj => by
  by_cases c : j = j0
  · subst c; rw [upL_s]; exact hx
  · rw [upL_n c]; exact LSX_k (h.1 j hj) hf (hs j hj c), h.2⟩
theorem LLS_rd {j : Nat} (h : LLS Y l xs) (hR : RDR Y rd pl ts) (hj : j < 8) : l j ≠ rd := LSX_rd (h.1 j hj) hR
theorem LLS_pl {j : Nat} (h : LLS Y l xs) (hP : PLC Y pl l os p rc sq) (hj : j < 8) : l j ≠ pl := fun c => by
  obtain ⟨⟨cap, h1, _⟩, _⟩ := h.1 j hj
  have h2 := hP.1
  rw [← c, h1] at h2
  cases h2
/-- a segment, a rule -/
def RSg (Y : zY) (x : Nat) (φ : Den) : Prop := ∃ F, PRT Y 43 x φ .null F
def RRl (Y : zY) (spl : List Spl) (x : Nat) (R : Rul) : Prop := ∃ wa sa, Y.1 x = some (oB 6 [.int (nI R.1), .ref wa, .ref sa]) ∧ RSg Y wa R.2.2.1 ∧ RSv Y spl sa R.2.2.2 ∧ R.1 < 24
theorem RSg_k (hf : IMK Y Y1) {φ : Den} (h : RSg Y x φ) : RSg Y1 x φ := by
  obtain ⟨F, h⟩ := h
  exact ⟨F, PRT_k hf h⟩
theorem RRl_k (hf : IMK Y Y1) {R : Rul} {more : List Spl} (h : RRl Y spl x R) : RRl Y1 (spl ++ more) x R := by
  obtain ⟨wa, sa, h1, h2, h3, h4⟩ := h
  exact ⟨wa, sa, hf _ _ h1 rfl, RSg_k hf h2, RSv_k hf h3, h4⟩
/-- what was told so far, but flags and layers themselves -/
def SEM (Y : zY) (xs : Nat → List Nat) (P : Pln) (fn ln : List (List Int32)) : Prop := AL (RNm Y) (xs 0) (P.1.map (·.1)) ∧ AL (RSg Y) (xs 3) (P.1.map (·.2)) ∧ AL (RRl Y P.2.2.2.2.2.1) (xs 6) P.2.2.2.1 ∧ AL (RSp Y) (xs 7) P.2.2.2.2.2.1 ∧ AL (RNm Y) (xs 1) fn ∧ AL (RNm Y) (xs 2) ln
theorem SEM_k (hf : IMK Y Y1) (h : SEM Y xs P fn ln) : SEM Y1 xs P fn ln := by
  obtain ⟨h1, h2, h3, h4, h5, h6⟩ := h
  refine ⟨AL_imp (fun x y => RNm_k hf) h1, AL_imp (fun x y => RSg_k hf) h2, AL_imp (fun x y q => ?_) h3, AL_imp (fun x y => RSp_k hf) h4, AL_imp (fun x y => RNm_k hf) h5, AL_imp (fun x y => RNm_k hf) h6⟩
  have := RRl_k (more := []) hf q
  rw [List.append_nil] at this
  exact this
def PBN (P : Pln) (fn ln : List (List Int32)) : Prop := P.1.length ≤ 12 ∧ P.2.2.2.1.length ≤ 100 ∧ P.2.2.2.2.1.length ≤ 40 ∧ P.2.2.2.2.2.1.length ≤ 100 ∧ P.2.2.2.2.2.2 ≤ 400 ∧ fn.length ≤ 24 ∧ ln.length ≤ 8
def PLK (Y : zY) (pl : Nat) (l : Nat → Nat) (rc sq : Nat) (P : Pln) (xs : Nat → List Nat) (fn ln : List (List Int32)) : Prop := PLC Y pl l P.2.2.2.2.1.length P.2.2.2.2.2.2 rc sq ∧ LLS Y l xs ∧ SEM Y xs P fn ln ∧ PBN P fn ln
theorem PLK_k (h : PLK Y pl l rc sq P xs fn ln) (hf : FR Y Y1 S) (hp : pl ∉ S) (hs : ∀ j, j < 8 → l j ∉ S) : PLK Y1 pl l rc sq P xs fn ln := ⟨PLC_k h.1 hf hp, LLS_k h.2.1 hf hs, SEM_k hf.2.2 h.2.2.1, h.2.2.2⟩
theorem PLK_rd (h : PLK Y pl l rc sq P xs fn ln) (hR : RS rd pl W Y ts) : pl ≠ rd ∧ ∀ j, j < 8 → l j ≠ rd := ⟨pl_rd hR h.1, fun j hj => LLS_rd h.2.1 hR.2.1 hj⟩
theorem PLK_r1 (h : PLK Y pl l rc sq P xs fn ln) (hR : RS rd pl W Y ts) (hf : FR Y Y1 [rd]) : PLK Y1 pl l rc sq P xs fn ln := by
  obtain ⟨g1, g2⟩ := PLK_rd h hR
  exact PLK_k h hf (by simpa using g1) (fun j hj => by simpa using g2 j hj)
theorem PLK_PE (h : PLK Y pl l rc sq P xs fn ln) : PE Y pl l P.2.2.2.2.1.length rc sq P.2.2.2.2.2.2 (P.1.map (·.1)) := ⟨h.1, h.2.2.2.2.2.2.2.1, LSY_of (h.2.1.1 0 (by omega)) h.2.2.1.1, by rw [List.length_map]; exact h.2.2.2.1⟩
end
end ZJV

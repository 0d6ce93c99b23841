/-! THE CLASS READS: values, shares, serves in the making -/
section ZJQ
section
variable {n : Nat} {Y Y0 Y1 Y2 Z : zY} {a b s p m e tp r q rd pl W W2 WE lo : Nat} {S S1 F F1 F2 : List Nat} {T : List Int32} {t : Tk} {ts : List Tk} {x v : Int32} {o o' : yO} {nx nx' vv nm sa : Value} {l : Nat → Nat} {os rc sq fl c1 L : Nat} {k : Nat × List (List Int32)} {sh : List (Int32 × Int32)} {spl : List Spl}
/-- where a kind's word stands -/
def kdA (k : Nat) : Nat := if k = 0 then 16 else if k = 1 then 17 else 18
/-- the flag at fl is of kind k -/
def KN (Y : zY) (fl c1 : Nat) (k : Nat × List (List Int32)) : Prop := (∃ r, Y.1 fl = some (oB 0 (.ref (kdA k.1) :: .ref c1 :: r))) ∧ LSY Y c1 (RNm Y) k.2 ∧ k.2.length ≤ 8 ∧ k.1 ≤ 2
theorem KN_k (h : KN Y fl c1 k) (hf : FR Y Y1 S) (h1 : fl ∉ S) (h2 : c1 ∉ S) : KN Y1 fl c1 k := by
  obtain ⟨⟨r, g1⟩, g2, g3⟩ := h
  exact ⟨⟨r, FR_k hf g1 h1⟩, LSY_k g2 hf h2 (fun x y => RNm_k hf.2.2), g3⟩
theorem KN_rd (h : KN Y fl c1 k) (hR : RS rd pl W Y ts) : fl ≠ rd ∧ c1 ≠ rd := by
  obtain ⟨⟨r, g1⟩, ⟨xs, cap, g2, _⟩, g3⟩ := h
  refine ⟨RS_ne hR g1 (by decide), fun c => ?_⟩
  obtain ⟨_, ⟨⟨_, _, _, j, _⟩, _⟩, _⟩ := hR
  rw [c, j] at g2
  cases g2
theorem kn_o (h : KN Y fl c1 k) : yisO Y fl 0 = true := by
  obtain ⟨⟨r, g1⟩, g2, g3⟩ := h
  exact yisO_of g1
/-- canBe -/
theorem can_ok {z : Nat} (h : KN Y fl c1 k) (ht : RTk Y z t) (hn : 6002 ≤ n) : c100 n fl (some z) Y = some (b2 (wth k t).isSome, Y) := by
  obtain ⟨⟨r, g1⟩, g2, g3, g4⟩ := h
  obtain ⟨st, j1, j2, j3, j4, j5, j6, j7, j8⟩ := tk_txt ht
  unfold c100 wth
  refine bnd_eq (yR_of (r := some (kdA k.1)) g1 rfl) ?_
  have hk1 : 1 ≤ kdA k.1 := by unfold kdA; split; omega; split <;> omega
  refine bnd_eq (rEq_s hk1 (by omega)) ?_
  by_cases h0 : k.1 = 0
  · rw [if_pos (decide_eq_true (by rw [h0]; rfl)), if_pos h0]
    refine bnd_eq rfl (bnd_eq j4 (bnd_eq (rEq_s (by omega) (by omega)) ?_))
    by_cases h33 : t.1 = 33
    · rw [if_pos (decide_eq_true (by omega)), if_pos h33]; rfl
    · rw [if_neg (by rw [decide_eq_false (by omega)]; decide), if_neg h33]
      refine bnd_eq j4 (bnd_eq (rEq_s (by omega) (by omega)) ?_)
      by_cases h34 : t.1 = 34
      · rw [if_pos (decide_eq_true (by omega)), if_pos h34]; rfl
      · rw [if_neg (by rw [decide_eq_false (by omega)]; decide), if_neg h34]; rfl
  · have hne : kdA k.1 ≠ 16 := by unfold kdA; rw [if_neg h0]; split <;> omega
    rw [if_neg (by rw [decide_eq_false hne]; decide), if_neg h0]
    refine bnd_eq (yR_of (r := some (kdA k.1)) g1 rfl) (bnd_eq (rEq_s hk1 (by omega)) ?_)
    by_cases h1 : k.1 = 1
    · rw [if_pos (decide_eq_true (by rw [h1]; rfl)), if_pos h1]
      refine bnd_eq rfl (bnd_eq j4 (bnd_eq (rEq_s (by omega) (by omega)) ?_))
      by_cases h3 : t.1 = 3
      · rw [if_pos (decide_eq_true (by omega)), if_pos h3]; rfl
      · rw [if_neg (by rw [decide_eq_false (by omega)]; decide), if_neg h3]; rfl
    · have hne : kdA k.1 ≠ 17 := by unfold kdA; rw [if_neg h0, if_neg h1]; omega
      rw [if_neg (by rw [decide_eq_false hne]; decide), if_neg h1]
      refine bnd_eq rfl (bnd_eq j4 (bnd_eq (rEq_s (by omega) (by omega)) ?_))
      by_cases h2 : t.1 = 2
      · rw [if_pos (decide_eq_true (by omega)), if_pos h2]
        refine bnd_eq (yR_of (r := some c1) g1 rfl) (bnd_eq j1 (bnd_eq (ix_ok g2 j2 j3 hn (by omega)) ?_))
        dsimp only
        have httx : ttx t = t.2.2.1 := by unfold ttx; rw [if_neg (by omega)]
        rw [httx]
        cases hfd : fnd k.2 t.2.2.1 with
        | none => rw [if_pos (show ixI none = -1 from rfl)]; rfl
        | some i =>
          have := fnd_lt hfd
          rw [if_neg (fun c => by have := (ixI_m (o := some i) (fun j hj => by cases hj; omega)).mp c; cases this)]
          rfl
      · rw [if_neg (by rw [decide_eq_false (by omega)]; decide), if_neg h2]; rfl
/-- worthOf -/
theorem wor_ok {z : Nat} (h : KN Y fl c1 k) (ht : RTk Y z t) (hv : wth k t = some v) (hn : 6002 ≤ n) : c101 n fl (some z) Y = some (v, Y) := by
  obtain ⟨⟨r, g1⟩, g2, g3, g4⟩ := h
  obtain ⟨st, j1, j2, j3, j4, j5, j6, j7, j8⟩ := tk_txt ht
  unfold c101
  unfold wth at hv
  refine bnd_eq (yR_of (r := some (kdA k.1)) g1 rfl) ?_
  have hk1 : 1 ≤ kdA k.1 := by unfold kdA; split; omega; split <;> omega
  refine bnd_eq (rEq_s hk1 (by omega)) ?_
  by_cases h0 : k.1 = 0
  · rw [if_pos (decide_eq_true (by rw [h0]; rfl))]
    rw [if_pos h0] at hv
    refine bnd_eq rfl (bnd_eq j4 (bnd_eq (rEq_s (by omega) (by omega)) ?_))
    by_cases h33 : t.1 = 33
    · rw [if_pos (decide_eq_true (by omega))]
      rw [if_pos h33] at hv
      cases hv
      rfl
    · rw [if_neg (by rw [decide_eq_false (by omega)]; decide)]
      rw [if_neg h33] at hv
      by_cases h34 : t.1 = 34
      · rw [if_pos h34] at hv; cases hv; rfl
      · rw [if_neg h34] at hv; cases hv
  · have hne : kdA k.1 ≠ 16 := by unfold kdA; rw [if_neg h0]; split <;> omega
    rw [if_neg (by rw [decide_eq_false hne]; decide)]
    rw [if_neg h0] at hv
    refine bnd_eq (yR_of (r := some (kdA k.1)) g1 rfl) (bnd_eq (rEq_s hk1 (by omega)) ?_)
    by_cases h1 : k.1 = 1
    · rw [if_pos (decide_eq_true (by rw [h1]; rfl))]
      rw [if_pos h1] at hv
      refine bnd_eq rfl (bnd_eq j5 ?_)
      by_cases h3 : t.1 = 3
      · rw [if_pos h3] at hv; cases hv; rfl
      · rw [if_neg h3] at hv; cases hv
    · have hne : kdA k.1 ≠ 17 := by unfold kdA; rw [if_neg h0, if_neg h1]; omega
      rw [if_neg (by rw [decide_eq_false hne]; decide)]
      rw [if_neg h1] at hv
      by_cases h2 : t.1 = 2
      · rw [if_pos h2] at hv
        refine bnd_eq (yR_of (r := some c1) g1 rfl) (bnd_eq rfl (bnd_eq j1 (bnd_eq (ix_ok g2 j2 j3 hn (by omega)) ?_)))
        dsimp only
        have httx : ttx t = t.2.2.1 := by unfold ttx; rw [if_neg (by omega)]
        rw [httx]
        cases hfd : fnd k.2 t.2.2.1 with
        | none => rw [hfd] at hv; cases hv
        | some i => rw [hfd] at hv; cases hv; rfl
      · rw [if_neg h2] at hv; cases hv
theorem wth_2 (h : wth k t = some v) : 2 ≤ t.1 := by
  unfold wth at h
  by_cases h0 : k.1 = 0
  · rw [if_pos h0] at h
    by_cases h33 : t.1 = 33
    · omega
    · rw [if_neg h33] at h
      by_cases h34 : t.1 = 34
      · omega
      · rw [if_neg h34] at h; cases h
  · rw [if_neg h0] at h
    by_cases h1 : k.1 = 1
    · rw [if_pos h1] at h
      by_cases h3 : t.1 = 3
      · omega
      · rw [if_neg h3] at h; cases h
    · rw [if_neg h1] at h
      by_cases h2 : t.1 = 2
      · omega
      · rw [if_neg h2] at h; cases h
/-- readValue -/
theorem vl_ok (h : RS rd pl W Y ts) (hK : KN Y fl c1 k) (hn : 6002 ≤ n) (hE : W ≤ WE + 250) : CR rd pl Y [rd] (W - 300) WE (c99 n rd (some fl) Y) (sVal k ts) (fun x => x.2) (fun _ x v => v = x.1 ∧ x.2 = adv ts ∧ x.2.length + 1 = ts.length) := by
  obtain ⟨a, e, nx, k1, k2, k3, k4⟩ := rdr_t h.2.1
  have hRt : RTk Y a (hd ts) := ⟨e, nx, k2⟩
  obtain ⟨hfr, hcr⟩ := KN_rd hK h
  unfold c99 sVal
  refine CR_y k1 (CR_y rfl (CR_g (kn_o hK) (CR_y (can_ok hK hRt hn) ?_)))
  dsimp only
  cases hw : wth k (hd ts) with
  | none =>
    rw [if_pos (show b2 (none : Option Int32).isSome = 0 from rfl)]
    exact CR_y k1 (CR_g (rdr_o h.2.1) (cr_ref h.1 h.2.1 k2 FR_R (by simp) h.1.2 (by have := h.2.2; omega)))
  | some u =>
    rw [if_neg (show ¬ b2 (some u).isSome = 0 from (by decide : ¬ b2 true = 0))]
    unfold cb99_20
    refine CR_y k1 (CR_y rfl (CR_y k4 (CR_g (rdr_o h.2.1) ?_)))
    refine CR_i (tk_any h (wth_2 hw) hE) FR_R (fun a h => Or.inl h) h.1.2 ?_
    rintro v Y1 hS1 hf1 hf01 ⟨q, e, nx, rfl, q2, q3, q4, q5⟩
    dsimp only at hS1 q2 q3 q4 q5
    have hK1 := KN_k hK hf1 (by simpa using hfr) (by simpa using hcr)
    refine CR_y rfl (CR_g (kn_o hK1) (CR_y (wor_ok hK1 ⟨e, nx, q2⟩ hw hn) ?_))
    exact CR_s (s := (u, adv ts)) hS1 hf1 ⟨rfl, rfl, q5⟩
/-- takeShare -/
theorem sr_ok {full : Bool} {y : Int32} (hy : y = b2 full) (h : RS rd pl W Y ts) (hE : W ≤ WE + 250) : CR rd pl Y [rd] (W - 300) WE (c98 n rd y Y) (sShr full ts) (fun x => x.2) (fun _ x v => v = x.1 ∧ x.2 = adv ts ∧ x.2.length + 1 = ts.length ∧ full = false) := by
  unfold c98 sShr
  refine CR_g (rdr_o h.2.1) ?_
  refine CR_b (tk_ok (s := 3) h (by omega) hE) FR_R (fun a h => Or.inl h) h.1.2 ?_
  rintro ⟨t, ts'⟩ v Y1 hS hf hf0 ⟨q, e, nx, rfl, q2, q3, q4, q5, q6⟩
  dsimp only at q2 q3 q4 q5 q6 hS ⊢
  obtain ⟨st, j1, j2, j3, j4, j5, j6, j7, j8⟩ := tk_txt ⟨e, nx, q2⟩
  have hW : wY Y1 + 22 ≤ WE := by have := hS.2.2; have := rdr_len hS.2.1; have := h.2.2; have := rdr_len h.2.1; omega
  refine CR_y rfl (CR_y j5 ?_)
  have h25 : CR rd pl Y [rd] (W - 300) WE (cb98_25 n rd y (some q) Y1) (.inl (sErr 4 t)) (fun x : Int32 × List Tk => x.2) (fun _ x v => v = x.1 ∧ x.2 = adv ts ∧ x.2.length + 1 = ts.length ∧ full = false) := by
    unfold cb98_25
    exact CR_g (rdr_o hS.2.1) (cr_ref hS.1 hS.2.1 q2 hf (by simp) h.1.2 hW)
  by_cases h0 : t.2.2.2 < 0
  · rw [if_pos h0, if_pos (Or.inl h0)]
    exact h25
  · rw [if_neg h0]
    refine CR_y j5 ?_
    by_cases h1 : t.2.2.2 ≤ 10000
    · rw [if_pos h1, if_neg (fun c => c.elim h0 (fun d => absurd h1 (Int32.not_le.mpr d)))]
      unfold cb98_31
      cases full with
      | true =>
        rw [if_neg (by rw [hy]; decide), if_pos rfl]
        exact CR_g (rdr_o hS.2.1) (cr_ref hS.1 hS.2.1 q2 hf (by simp) h.1.2 hW)
      | false =>
        rw [if_pos (hy.trans b2_f), if_neg (by decide)]
        unfold cb98_41
        refine CR_y rfl (CR_y j5 ?_)
        exact CR_s (s := (t.2.2.2, ts')) hS hf ⟨rfl, q5, q6, rfl⟩
    · rw [if_neg h1, if_pos (Or.inr (Int32.not_le.mp h1))]
      exact h25
end
end ZJQ

/-! THE REFERENCE'S CELLS; slotHere, newName, knownName -/
section ZRN
/-- the cell j of row i -/
def ce (X : zX) (i j : Nat) : Option Int32 := zg (X.2.2 i) j
def up (X : zX) (i j : Nat) (v : Int32) : zX := xA X i (zs (X.2.2 i) j v)
section
variable {n : Nat} {X X1 : zX} {T : List Int32} {fk : Int32} {ts : List Tk} {r : RR (List Tk)} {i j : Nat} {v : Int32}
theorem up_1 : (up X i j v).1 = X.1 := rfl
theorem up_H : (up X i j v).2.1 = X.2.1 := rfl
theorem LN_up (hL : LN X) : LN (up X i j v) := by
  intro k hk
  unfold up
  rw [xA_3]
  split
  · rename_i q; rw [q, zs_length, ← q]; exact hL k hk
  · exact hL k hk
theorem ce_up {i' j' : Nat} (hL : LN X) (hi : i < 71) (hj : j < mln i) : ce (up X i j v) i' j' = if i' = i ∧ j' = j then some v else ce X i' j' := by
  unfold ce up
  rw [xA_3]
  by_cases q : i' = i
  · rw [if_pos q]
    by_cases q' : j' = j
    · rw [if_pos ⟨q, q'⟩, q', zg_zs_eq (by rw [hL i hi]; exact hj)]
    · rw [if_neg (fun z => q' z.2), zg_zs_ne (fun z => q' z.symm), q]
  · rw [if_neg q, if_neg (fun z => q z.1)]
theorem wr_up (hL : LN X) (hi : i < 71) (hj : j < mln i) (h31 : j < 2 ^ 31) : wr X i (nI j) v = some (up X i j v) := wr_nI h31 (by rw [hL i hi]; exact hj)
theorem rd_ce (h31 : j < 2 ^ 31) : rd (X.2.2 i) (nI j) = ce X i j := rd_nI h31
theorem TP_up (hT : TP X T) (hi : 0 ≠ i) : TP (up X i j v) T := TP_of hT rfl (by show (xA X i _).2.2 0 = _; rw [xA_3, if_neg hi])
theorem RI_up (h : RI X T fk r) (hi : 0 ≠ i) : RI (up X i j v) T fk r := RI_of h rfl (by show (xA X i _).2.2 0 = _; rw [xA_3, if_neg hi])
theorem SLT_of {s : Nat} {w : List Int32} (h : SLT X s w) (h2 : X1.2.2 2 = X.2.2 2) (h3 : X1.2.2 3 = X.2.2 3) : SLT X1 s w := by
  unfold SLT
  rw [h2, h3]
  exact h
theorem SLT_up {s : Nat} {w : List Int32} (h : SLT X s w) (h2 : 2 ≠ i) (h3 : 3 ≠ i) : SLT (up X i j v) s w := SLT_of h (by show (xA X i _).2.2 2 = _; rw [xA_3, if_neg h2]) (by show (xA X i _).2.2 3 = _; rw [xA_3, if_neg h3])
/-- slots are kept -/
def SK (X X1 : zX) (q : Nat) : Prop := ∀ s w, s ≠ q → SLT X s w → SLT X1 s w
/-- a slot for the word or the text that is looked at -/
theorem slot_ok {b c : Nat} (h : RI X T fk (.inr ts)) (hk : (hd ts).1 ≠ 1 ∧ kdO (hd ts).1 = 1 ∨ (hd ts).1 = 4) (hL : LN X) (h4 : X.1 4 = nI b) (hb : b ≤ 1) (hc : ce X 1 b = some (nI c)) (hc2 : c < 1500) (hn : 6002 ≤ n) : ∃ X1, g206 n X = some (nI (1500 * b + c), X1) ∧ RI X1 T fk (.inr ts) ∧ SLT X1 (1500 * b + c) (hd ts).2.2.1 ∧ SK X X1 (1500 * b + c) ∧ ce X1 1 b = some (nI (c + 1)) ∧ LN X1 ∧ ∀ i, i ≠ 1 → i ≠ 2 → i ≠ 3 → X1.2.2 i = X.2.2 i := by
  have hb1 : (hd ts).1 ≠ 1 := by rcases hk with q | q; exact q.1; omega
  obtain ⟨a1, a2, a3, a4, a5, a6, a7⟩ := ri_hd h hb1
  have hlen : mln 1 = 2 := rfl
  -- where the bytes stand
  obtain ⟨f, hf1, hf2, hf3, hf4⟩ : ∃ f, (if X.1 69 = 3 then X.1 70 + 1 else X.1 70) = nI f ∧ (hd ts).2.2.1 = cut T f (f + (hd ts).2.2.1.length) ∧ f + (hd ts).2.2.1.length ≤ T.length ∧ (hd ts).2.2.1.length ≤ 16 := by
    by_cases q : (hd ts).1 = 4
    · obtain ⟨e1, e2, e3, e4⟩ := ri_text h q
      refine ⟨(hd ts).2.1 + 1, ?_, e1, by omega, e3⟩
      rw [a4, q, if_pos (by decide), a3, nI_1]
    · have hw : kdO (hd ts).1 = 1 := by rcases hk with z | z; exact z.2; exact absurd z q
      obtain ⟨e1, e2, e3, e4⟩ := ri_word h hb1 hw
      refine ⟨(hd ts).2.1, ?_, e2, e3, e4⟩
      rw [a4, hw, if_neg (by decide), a3]
  have h71 : X.1 71 = nI (hd ts).2.2.1.length := a6 (by rcases hk with q | q; exact Or.inl q.2; exact Or.inr q)
  have hT2 : TP (up X 1 b (nI c + 1)) T := TP_up h.1 (by decide)
  obtain ⟨X1, e1, e2, e3⟩ := put_ok (n := n) (X := up X 1 b (nI c + 1)) (s := 1500 * b + c) (f := f) (m := (hd ts).2.2.1.length) (b := b) (by omega) (Or.inl (by omega)) hb hf4 hf3 h4 hT2 (LN_up hL) hn
  have hp : ptO (nI (1500 * b + c)) (nI (hd ts).2.2.1.length) = true := by
    unfold ptO
    rw [decide_eq_false (nI_pos (by omega)), nI_clamp (by omega), Nat.ble_eq_true_of_le (by omega), decide_eq_true (show nI (hd ts).2.2.1.length ≤ 16 from nI_le (b := 16) hf4 (by decide))]
    rfl
  have hg : g206 n X = some (nI (1500 * b + c), X1) := by
    unfold g206
    rw [h4, rd_ce (by omega), hc]
    dsimp only [Option.bind_some]
    rw [bk_of (by omega) (by rw [show mH 1 = 1 from rfl, Nat.div_one]; exact Or.inl rfl) (by omega)]
    show ((wr X 1 (nI b) _).bind _) = _
    rw [wr_up hL (by decide) (by rw [hlen]; omega) (by omega)]
    dsimp only [Option.bind_some]
    rw [show (1500 : Int32) = nI 1500 from rfl, nI_mul, nI_add]
    unfold gb206_55
    rw [up_1, h71, hp]
    have hif : ∀ {α : Type} (F : Int32 → α), (if X.1 69 = 3 then F (X.1 70 + 1) else F (X.1 70)) = F (nI f) := by
      intro α F
      rw [← hf1]
      split <;> rfl
    have := hif (fun z => zgd true ((g207 n (nI (1500 * b + c)) z (nI (hd ts).2.2.1.length) (up X 1 b (nI c + 1))).bind fun p1 => some (nI (1500 * b + c), p1.2)))
    refine this.trans ?_
    show ((g207 n (nI (1500 * b + c)) (nI f) (nI (hd ts).2.2.1.length) (up X 1 b (nI c + 1))).bind fun p1 => some (nI (1500 * b + c), p1.2)) = _
    rw [e1]
    rfl
  have hw := w206 hg
  have hu := w207 e1
  rw [← hf2] at e2
  refine ⟨X1, hg, RI_of h (funext fun k => hw.1 k (by simp)) (hw.2.2.1 0 rfl), e2, fun s w hne hs => e3 s w hne (SLT_up hs (by decide) (by decide)), ?_, LN_of hL hw, fun i h1 h2 h3 => ?_⟩
  · unfold ce
    rw [hu.2.2.1 1 rfl]
    have := ce_up (X := X) (i := 1) (j := b) (v := nI c + 1) (i' := 1) (j' := b) hL (by decide) (by rw [hlen]; omega)
    rw [if_pos ⟨rfl, rfl⟩] at this
    rw [← nI_1]
    exact this
  · apply hw.2.2.1 i
    rw [Nat.testBit_eq_decide_div_mod_eq]
    rcases Nat.lt_or_ge i 4 with q | q
    · have : i = 0 := by omega
      rw [this]; decide
    · rw [show (14 : Nat) / 2 ^ i = 0 from Nat.div_eq_of_lt (Nat.lt_of_lt_of_le (by decide : 14 < 2 ^ 4) (Nat.pow_le_pow_right (by decide) q))]
      decide
theorem need_t : g200 n (b2 true) X = some ((), X) := by
  unfold g200
  split
  · rw [if_neg (by decide)]
  · rfl
theorem ri_bad {k : Int32} (h : RI X T fk (.inr ts)) (hb : (hd ts).1 ≠ 1) : ∃ X1, g195 n k X = some ((), X1) ∧ RI X1 T fk (.inl (sErr k (hd ts))) := by
  obtain ⟨a1, a2, a3, a4, a5, a6, a7⟩ := ri_hd h hb
  rw [bad1 a1]
  refine ⟨_, rfl, TP_xF (TP_xF h.1 (by decide)) (by decide), ⟨_, a7, by simp [xF_1, a3]⟩, ?_⟩
  unfold sErr
  rw [if_neg hb]
  exact ⟨by simp [xF_1, a3], by simp [xF_1], a7⟩
theorem NMS_of {i base : Nat} {names : List (List Int32)} (h : NMS X i base names) (h1 : X1.2.2 i = X.2.2 i) (h2 : ∀ k s, k < names.length → zg (X.2.2 i) (base + k) = some (nI s) → s < 3016 → ∀ w, SLT X s w → SLT X1 s w) : NMS X1 i base names := by
  intro k w hk
  obtain ⟨s, s1, s2, s3⟩ := h k w hk
  have hkl : k < names.length := (List.getElem?_eq_some_iff.mp hk).1
  exact ⟨s, by rw [h1]; exact s1, s2, h2 k s hkl s1 s2 w s3⟩
/-- what newName leaves -/
def NewP (X X1 : zX) (T : List Int32) (fk : Int32) (b c : Nat) (v : Int32) (r : RR (Tk × List Tk)) : Prop := match r with
  | .inl e => RI X1 T fk (.inl e)
  | .inr x => RI X1 T fk (.inr x.2) ∧ v = nI (1500 * b + c) ∧ SLT X1 (1500 * b + c) x.1.2.2.1 ∧ SK X X1 (1500 * b + c) ∧ ce X1 1 b = some (nI (c + 1)) ∧ LN X1 ∧ ∀ i, i ≠ 1 → i ≠ 2 → i ≠ 3 → X1.2.2 i = X.2.2 i
theorem new_ok {i base b c : Nat} {names : List (List Int32)} (h : RI X T fk r) (hi : yOk i = true) (hbl : base + names.length ≤ 6000) (hL : LN X) (h4 : X.1 4 = nI b) (hb : b ≤ 1) (hN : ∀ ts, r = .inr ts → NMS X i base names ∧ ce X 1 b = some (nI c) ∧ c < 1500) (hn : 6002 ≤ n) : ∃ v X1, g202 n i (nI base) (nI names.length) X = some (v, X1) ∧ NewP X X1 T fk b c v (rb r (sNew names)) := by
  have hflt : ∀ {e : Er} {X2 : zX}, RI X2 T fk (.inl e) → gb202_40 n i (nI base) (nI names.length) X2 = some (0, X2) := by
    intro e X2 h2
    unfold gb202_40
    rw [if_neg (ri_flt h2)]
  have hany : ∀ {e : Er} {r2 : RR (List Tk)} {X2 : zX}, RI X2 T fk r2 → RI X2 T fk (.inl e) → g202 n i (nI base) (nI names.length) X2 = some (0, X2) := by
    intro e r2 X2 h2 h3
    unfold g202
    obtain ⟨bb, eb⟩ := name_any h2 hn
    rw [eb]
    dsimp only [Option.bind_some]
    rw [ri_needF h3]
    dsimp only [Option.bind_some]
    rw [if_neg (ri_flt h3), hflt h3]
  cases r with
  | inl e => exact ⟨0, X, hany h h, h⟩
  | inr ts =>
    obtain ⟨hNM, hc, hc2⟩ := hN ts rfl
    show ∃ v X1, _ ∧ NewP X X1 T fk b c v (sNew names ts)
    unfold sNew sTake
    by_cases hbr : (hd ts).1 = 1
    · have h' := ri_of_brk h hbr (k := 2)
      refine ⟨0, X, hany h h', ?_⟩
      rw [if_neg (by rw [hbr]; decide)]
      exact h'
    · obtain ⟨a1, a2, a3, a4, a5, a6, a7⟩ := ri_hd h hbr
      unfold g202
      rw [name_tok h hbr hn]
      dsimp only [Option.bind_some]
      by_cases h2 : (hd ts).1 = 2
      · rw [show ((hd ts).1 == 2) = true by simpa using h2, need_t]
        dsimp only [Option.bind_some]
        have hk : kdO (hd ts).1 = 1 := by rw [h2]; rfl
        obtain ⟨e1, e2, e3, e4⟩ := ri_word h hbr hk
        rw [if_pos a1, a3, a6 (Or.inl hk), fnd_ok hNM hi (by omega) (by omega) h.1 e3 hn, ← e2]
        dsimp only [Option.bind_some]
        rw [if_pos h2]
        show ∃ v X1, _ ∧ NewP X X1 T fk b c v (if (fnd names (hd ts).2.2.1).isSome = true then .inl (sErr 3 (hd ts)) else .inr (hd ts, adv ts))
        cases hf : fnd names (hd ts).2.2.1 with
        | some j =>
          have hj : j < names.length := by
            unfold fnd at hf
            exact (List.findIdx?_eq_some_iff_getElem.mp hf).1
          dsimp only
          rw [if_neg (nI_m1 (by omega)), if_pos (show (some j).isSome = true from rfl)]
          obtain ⟨X1, x1, x2⟩ := ri_bad (n := n) (k := 3) h hbr
          rw [x1]
          dsimp only [Option.bind_some]
          exact ⟨0, X1, hflt x2, x2⟩
        | none =>
          dsimp only
          rw [if_pos rfl, if_neg (by decide)]
          unfold gb202_40
          rw [if_pos a1]
          obtain ⟨X1, x1, x2, x3, x4, x5, x6, x7⟩ := slot_ok (n := n) h (Or.inl ⟨hbr, hk⟩) hL h4 hb hc hc2 hn
          rw [x1]
          dsimp only [Option.bind_some]
          obtain ⟨X2, y1, y2⟩ := ri_next x2 hn
          have hw := w190 y1
          rw [y1]
          refine ⟨_, X2, rfl, y2, rfl, SLT_of x3 (hw.2.2.1 2 rfl) (hw.2.2.1 3 rfl), fun s w hs hq => SLT_of (x4 s w hs hq) (hw.2.2.1 2 rfl) (hw.2.2.1 3 rfl), ?_, LN_of x6 hw, fun k h1 h2 h3 => by rw [hw.2.2.1 k (by simp), x7 k h1 h2 h3]⟩
          unfold ce at x5 ⊢
          rw [hw.2.2.1 1 rfl]
          exact x5
      · rw [show ((hd ts).1 == 2) = false by simpa using h2, if_neg h2]
        obtain ⟨X1, x1, x2⟩ := ri_need (n := n) (b := false) h hbr
        rw [x1]
        dsimp only [Option.bind_some]
        rw [if_neg (by decide)] at x2
        rw [if_neg (ri_flt x2), hflt x2]
        exact ⟨0, X1, rfl, x2⟩
/-- what knownName leaves -/
def KnwP (X1 : zX) (T : List Int32) (fk : Int32) (v : Int32) (r : RR (Nat × List Tk)) : Prop := match r with
  | .inl e => RI X1 T fk (.inl e)
  | .inr x => RI X1 T fk (.inr x.2) ∧ v = nI x.1
theorem knw_ok {i base : Nat} {names : List (List Int32)} (h : RI X T fk r) (hi : yOk i = true) (hbl : base + names.length ≤ 6000) (hN : ∀ ts, r = .inr ts → NMS X i base names) (hn : 6002 ≤ n) : ∃ v X1, g216 n i (nI base) (nI names.length) X = some (v, X1) ∧ KnwP X1 T fk v (rb r (sKnw names)) := by
  have hflt : ∀ {e : Er} {X2 : zX} {v : Int32}, RI X2 T fk (.inl e) → gb216_35 n i (nI base) (nI names.length) v X2 = some (v, X2) := by
    intro e X2 v h2
    unfold gb216_35 gb216_56
    rw [if_neg (ri_flt h2), ri_nextF h2]
    rfl
  have hany : ∀ {e : Er} {r2 : RR (List Tk)} {X2 : zX}, RI X2 T fk r2 → RI X2 T fk (.inl e) → g216 n i (nI base) (nI names.length) X2 = some (0, X2) := by
    intro e r2 X2 h2 h3
    unfold g216
    obtain ⟨bb, eb⟩ := name_any h2 hn
    rw [eb]
    dsimp only [Option.bind_some]
    rw [ri_needF h3]
    dsimp only [Option.bind_some]
    rw [if_neg (ri_flt h3), hflt h3]
  cases r with
  | inl e => exact ⟨0, X, hany h h, h⟩
  | inr ts =>
    have hNM := hN ts rfl
    show ∃ v X1, _ ∧ KnwP X1 T fk v (sKnw names ts)
    unfold sKnw sTake
    by_cases hbr : (hd ts).1 = 1
    · have h' := ri_of_brk h hbr (k := 2)
      refine ⟨0, X, hany h h', ?_⟩
      rw [if_neg (by rw [hbr]; decide)]
      exact h'
    · obtain ⟨a1, a2, a3, a4, a5, a6, a7⟩ := ri_hd h hbr
      unfold g216
      rw [name_tok h hbr hn]
      dsimp only [Option.bind_some]
      by_cases h2 : (hd ts).1 = 2
      · rw [show ((hd ts).1 == 2) = true by simpa using h2, need_t]
        dsimp only [Option.bind_some]
        have hk : kdO (hd ts).1 = 1 := by rw [h2]; rfl
        obtain ⟨e1, e2, e3, e4⟩ := ri_word h hbr hk
        rw [if_pos a1, a3, a6 (Or.inl hk), fnd_ok hNM hi (by omega) (by omega) h.1 e3 hn, ← e2]
        dsimp only [Option.bind_some]
        rw [if_pos h2]
        show ∃ v X1, _ ∧ KnwP X1 T fk v (match fnd names (hd ts).2.2.1 with | none => .inl (sErr 3 (hd ts)) | some i => .inr (i, adv ts))
        cases hf : fnd names (hd ts).2.2.1 with
        | some j =>
          have hj : j < names.length := by
            unfold fnd at hf
            exact (List.findIdx?_eq_some_iff_getElem.mp hf).1
          dsimp only
          unfold gb216_35 gb216_56
          rw [if_pos a1, if_neg (nI_m1 (by omega))]
          obtain ⟨X2, y1, y2⟩ := ri_next h hn
          rw [y1]
          exact ⟨_, X2, rfl, y2, rfl⟩
        | none =>
          dsimp only
          unfold gb216_35
          rw [if_pos a1, if_pos rfl]
          obtain ⟨X1, x1, x2⟩ := ri_bad (n := n) (k := 3) h hbr
          rw [x1]
          dsimp only [Option.bind_some]
          unfold gb216_56
          rw [ri_nextF x2]
          exact ⟨_, X1, rfl, x2⟩
      · rw [show ((hd ts).1 == 2) = false by simpa using h2, if_neg h2]
        obtain ⟨X1, x1, x2⟩ := ri_need (n := n) (b := false) h hbr
        rw [x1]
        dsimp only [Option.bind_some]
        rw [if_neg (by decide)] at x2
        rw [if_neg (ri_flt x2), hflt x2]
        exact ⟨0, X1, rfl, x2⟩
end
end ZRN

/-! WHAT THE REFERENCE LEAVES AS IT IS: the relations -/
section ZFRA
/-- numbers but those of wf, rows but those of wa are as they were -/
def fr (wf wa : Nat) (X X1 : zX) : Prop := (∀ k, wf.testBit k = false → X1.1 k = X.1 k) ∧ (wf.testBit 84 = false → X1.2.1 = X.2.1) ∧ (∀ i, wa.testBit i = false → X1.2.2 i = X.2.2 i) ∧ ∀ i, (X1.2.2 i).length = (X.2.2 i).length
section
variable {wf wa : Nat} {X X1 X2 : zX} {k i : Nat} {v j : Int32}
theorem fr_R : fr wf wa X X := ⟨fun _ _ => rfl, fun _ => rfl, fun _ _ => rfl, fun _ => rfl⟩
theorem fr_T (a : fr wf wa X X1) (b : fr wf wa X1 X2) : fr wf wa X X2 := ⟨fun k h => (b.1 k h).trans (a.1 k h), fun h => (b.2.1 h).trans (a.2.1 h), fun k h => (b.2.2.1 k h).trans (a.2.2.1 k h), fun k => (b.2.2.2 k).trans (a.2.2.2 k)⟩
theorem fr_bit {a b k : Nat} (h : a ||| b = b) (hk : b.testBit k = false) : a.testBit k = false := by
  rw [← h, Nat.testBit_or, Bool.or_eq_false_iff] at hk
  exact hk.1
theorem fr_M {wf' wa' : Nat} (h1 : wf' ||| wf = wf) (h2 : wa' ||| wa = wa) (a : fr wf' wa' X X1) : fr wf wa X X1 := ⟨fun k h => a.1 k (fr_bit h1 h), fun h => a.2.1 (fr_bit h1 h), fun k h => a.2.2.1 k (fr_bit h2 h), a.2.2.2⟩
theorem fr_F (a : fr wf wa X X1) (hk : wf.testBit k = true) (e : X2 = xF X1 k v) : fr wf wa X X2 := by
  subst e
  refine fr_T a ⟨fun j h => ?_, fun _ => rfl, fun _ _ => rfl, fun _ => rfl⟩
  rw [xF_1, if_neg]
  intro q
  rw [q, hk] at h
  cases h
theorem fr_H {v : Int64} (a : fr wf wa X X1) (hk : wf.testBit 84 = true) (e : X2 = xH X1 v) : fr wf wa X X2 := by
  subst e
  refine fr_T a ⟨fun j h => rfl, fun h => ?_, fun _ _ => rfl, fun _ => rfl⟩
  rw [hk] at h
  cases h
theorem fr_W (a : fr wf wa X X1) (hk : wa.testBit i = true) (e : wr X1 i j v = some X2) : fr wf wa X X2 := by
  obtain ⟨y, e1, e2⟩ := wr_some e
  subst e2
  refine fr_T a ⟨fun _ _ => rfl, fun _ => rfl, fun q h => ?_, fun q => ?_⟩
  · rw [xA_3, if_neg]
    intro z
    rw [z, hk] at h
    cases h
  · rw [xA_3]
    split
    · rename_i z; rw [z, zs_length]
    · rfl
/-- the other bank is as it was -/
def fb (X X1 : zX) : Prop := X1.1 4 = X.1 4 ∧ ∀ i j, j / mH i ≠ (X.1 4).toNatClampNeg → j < 2 * mH i → zg (X1.2.2 i) j = zg (X.2.2 i) j
theorem fb_R : fb X X := ⟨rfl, fun _ _ _ _ => rfl⟩
theorem fb_T (a : fb X X1) (b : fb X1 X2) : fb X X2 := ⟨b.1.trans a.1, fun i j h1 h2 => (b.2 i j (by rw [a.1]; exact h1) h2).trans (a.2 i j h1 h2)⟩
theorem fb_F (a : fb X X1) (hk : 4 ≠ k) (e : X2 = xF X1 k v) : fb X X2 := by
  subst e
  exact fb_T a ⟨by rw [xF_1, if_neg hk], fun _ _ _ _ => rfl⟩
theorem fb_H {v : Int64} (a : fb X X1) (e : X2 = xH X1 v) : fb X X2 := by
  subst e
  exact fb_T a ⟨rfl, fun _ _ _ _ => rfl⟩
theorem fb_W (a : fb X X1) (hb : bkO (X1.1 4) i j = true) (e : wr X1 i j v = some X2) : fb X X2 := by
  obtain ⟨y, e1, e2⟩ := wr_some e
  subst e2
  refine fb_T a ⟨rfl, fun q p h1 h2 => ?_⟩
  rw [xA_3]
  split
  · rename_i z
    subst z
    rw [zg_zs_ne]
    intro z
    subst z
    unfold bkO at hb
    rw [Bool.or_eq_true] at hb
    rcases hb with hb | hb
    · exact h1 (Nat.eq_of_beq_eq_true hb)
    · have := Nat.le_of_ble_eq_true hb
      omega
  · rfl
theorem fb_N (a : fb X X1) (hi : mH i = 0) (e : wr X1 i j v = some X2) : fb X X2 := by
  obtain ⟨y, e1, e2⟩ := wr_some e
  subst e2
  refine fb_T a ⟨rfl, fun q p h1 h2 => ?_⟩
  rw [xA_3]
  split
  · rename_i z
    rw [z, hi] at h2
    omega
  · rfl
/-- what is known is as it was -/
def fk (X X1 : zX) : Prop := X1.1 65 = X.1 65 ∧ X1.2.2 60 = X.2.2 60 ∧ X1.2.2 61 = X.2.2 61 ∧ (∀ j, 3000 ≤ j → zg (X1.2.2 2) j = zg (X.2.2 2) j) ∧ ∀ j, 48000 ≤ j → zg (X1.2.2 3) j = zg (X.2.2 3) j
theorem fk_R : fk X X := ⟨rfl, rfl, rfl, fun _ _ => rfl, fun _ _ => rfl⟩
theorem fk_T (a : fk X X1) (b : fk X1 X2) : fk X X2 := ⟨b.1.trans a.1, b.2.1.trans a.2.1, b.2.2.1.trans a.2.2.1, fun j h => (b.2.2.2.1 j h).trans (a.2.2.2.1 j h), fun j h => (b.2.2.2.2 j h).trans (a.2.2.2.2 j h)⟩
theorem fk_F (a : fk X X1) (hk : 65 ≠ k) (e : X2 = xF X1 k v) : fk X X2 := by
  subst e
  exact fk_T a ⟨by rw [xF_1, if_neg hk], rfl, rfl, fun _ _ => rfl, fun _ _ => rfl⟩
theorem fk_H {v : Int64} (a : fk X X1) (e : X2 = xH X1 v) : fk X X2 := by
  subst e
  exact fk_T a ⟨rfl, rfl, rfl, fun _ _ => rfl, fun _ _ => rfl⟩
theorem fk_W (a : fk X X1) (hi : 60 ≠ i ∧ 61 ≠ i ∧ 2 ≠ i ∧ 3 ≠ i) (e : wr X1 i j v = some X2) : fk X X2 := by
  obtain ⟨y, e1, e2⟩ := wr_some e
  subst e2
  refine fk_T a ⟨rfl, ?_, ?_, fun _ _ => ?_, fun _ _ => ?_⟩
  · rw [xA_3, if_neg hi.1]
  · rw [xA_3, if_neg hi.2.1]
  · rw [xA_3, if_neg hi.2.2.1]
  · rw [xA_3, if_neg hi.2.2.2]
theorem fk_putL {n : Nat} {s z f : Int32} (hs : ¬ s < 0) (hs2 : s.toNatClampNeg ≤ 2999) (hz : z ≤ 16) : ∀ (k c : Nat) {X : zX} {p : Unit × zX}, c ≤ 16 → gf207_10 n k s f z (nI c) X = some p → fk X p.2
  | 0, c, X, p, _, h => by cases h
  | k + 1, c, X, p, hc, h => by
    replace h : gb207_10 n (gf207_10 n k) s f z (nI c) X = some p := h
    unfold gb207_10 at h
    by_cases c1 : z ≤ nI c
    · rw [if_pos c1] at h
      cases h
      exact fk_R
    · rw [if_neg c1] at h
      replace h := zbnd h
      obtain ⟨x, e, h⟩ := h
      replace h := zgd_some h
      obtain ⟨g1, h⟩ := h
      replace h := zbnd h
      obtain ⟨X6, e2, h⟩ := h
      have hlt : c < 16 := by
        have h1 : nI c < z := Int32.not_le.mp c1
        have h2 : nI c < nI 16 := Int32.lt_of_lt_of_le h1 hz
        exact (nI_ltI (by omega) (by omega)).mp h2
      rw [nI_1] at h
      refine fk_T ?_ (fk_putL hs hs2 hz k (c + 1) (by omega) h)
      obtain ⟨y, e1, e3⟩ := wr_some e2
      subst e3
      obtain ⟨j, hj, rfl⟩ := nI_of hs
      rw [nI_clamp hj] at hs2
      refine ⟨rfl, rfl, rfl, fun _ _ => rfl, fun q hq => ?_⟩
      rw [xA_3, if_pos rfl, zg_zs_ne]
      have e5 : (16 * nI j + nI c : Int32) = nI (16 * j + c) := by
        rw [show (16 : Int32) = nI 16 from rfl, show nI 16 * nI j = nI (16 * j) from (Int32.ofNat_mul 16 j).symm, nI_add]
      rw [e5, nI_clamp (by omega)]
      omega
theorem fk_put {n : Nat} {s z f : Int32} {p : Unit × zX} (g : ptO s z = true) (h : g207 n s f z X = some p) : fk X p.2 := by
  unfold ptO at g
  simp only [Bool.and_eq_true, Bool.not_eq_true', decide_eq_false_iff_not, decide_eq_true_eq] at g
  unfold g207 at h
  replace h := zgd_some h
  obtain ⟨g1, h⟩ := h
  replace h := zbnd h
  obtain ⟨X6, e2, h⟩ := h
  have hs2 := Nat.le_of_ble_eq_true g.1.2
  refine fk_T ?_ (fk_putL g.1.1 hs2 g.2 n 0 (by omega) h)
  obtain ⟨y, e1, e3⟩ := wr_some e2
  subst e3
  refine ⟨rfl, rfl, rfl, fun q hq => ?_, fun _ _ => rfl⟩
  rw [xA_3, if_pos rfl, zg_zs_ne]
  omega
end
end ZFRA

/-! THE REFERENCE'S READER: what it looks at, what it eats -/
section ZRI
section
variable {n : Nat} {X : zX} {T : List Int32} {p a : Nat} {fk : Int32}
theorem tokA_place : (tokA T a).1.2.1 = a := by
  unfold tokA
  dsimp only
  split
  · rfl
  split
  · split <;> rfl
  split
  · split <;> rfl
  split
  · generalize (if tAt T a = 45 then a + 1 else a) = s
    split <;> rfl
  split <;> rfl
theorem tokA_end (ha : a ≤ T.length) (h1 : (tokA T a).1.1 ≠ 1) : (tokA T a).2 ≤ T.length ∧ ((tokA T a).1.1 ≠ 0 → a < (tokA T a).2) ∧ ((tokA T a).1.1 = 0 → a = T.length) := by
  unfold tokA at h1 ⊢
  dsimp only at h1 ⊢
  split
  · rename_i h
    exact ⟨ha, fun q => absurd rfl q, fun _ => by omega⟩
  rename_i hl
  rw [if_neg hl] at h1
  split
  · rename_i hc
    rw [if_pos hc] at h1
    have hsp : 1 ≤ spn dWrd T a := by
      have : dWrd (tAt T a) = true := by unfold dWrd; rw [hc]; rfl
      rw [(spn_t (f := dWrd) rfl this).1]
      omega
    have := spn_le (T := T) (f := dWrd) ha
    split
    · rename_i h; rw [if_pos h] at h1; exact absurd rfl h1
    · refine ⟨this, fun _ => ?_, fun q => ?_⟩
      · show a < a + spn dWrd T a
        omega
      · have := kdO_w (cut T a (a + spn dWrd T a))
        have e : wsort (cut T a (a + spn dWrd T a)) = 0 := q
        rw [e] at this
        exact absurd this.1 (by decide)
  rename_i hc
  rw [if_neg hc] at h1
  split
  · rename_i h39
    rw [if_pos h39] at h1
    have := spn_le (T := T) (f := dTxt) (p := a + 1) (by omega)
    split
    · rename_i h
      refine ⟨?_, fun _ => ?_, fun q => absurd (show (4 : Nat) = 0 from q) (by decide)⟩
      · show a + 1 + spn dTxt T (a + 1) + 1 ≤ T.length
        rcases Nat.lt_or_ge (a + 1 + spn dTxt T (a + 1)) T.length with q | q
        · omega
        · rw [tAt_ge q] at h; exact absurd h.1 (by decide)
      · show a < a + 1 + spn dTxt T (a + 1) + 1
        omega
    · rename_i h; rw [if_neg h] at h1; exact absurd rfl h1
  rename_i h39
  rw [if_neg h39] at h1
  split
  · rename_i hd
    rw [if_pos hd] at h1
    have hs : (if tAt T a = 45 then a + 1 else a) ≤ T.length ∧ a ≤ (if tAt T a = 45 then a + 1 else a) := by split <;> omega
    generalize (if tAt T a = 45 then a + 1 else a) = s at hs h1 ⊢
    have := spn_le (T := T) (f := dDig) hs.1
    split
    · rename_i h; rw [if_pos h] at h1; exact absurd rfl h1
    · rename_i h
      refine ⟨?_, fun _ => ?_, fun q => absurd (show (3 : Nat) = 0 from q) (by decide)⟩
      · show s + min 9 (spn dDig T s) ≤ T.length
        omega
      · show a < s + min 9 (spn dDig T s)
        omega
  rename_i hd
  split
  · rename_i h45
    refine ⟨?_, fun _ => ?_, fun q => absurd (show (13 : Nat) = 0 from q) (by decide)⟩
    · show a + 2 ≤ T.length
      rcases Nat.lt_or_ge (a + 1) T.length with q | q
      · omega
      · exfalso
        apply hd
        refine Or.inr ⟨h45, ?_⟩
        rw [tAt_ge q]
        decide
    · show a < a + 2
      omega
  · refine ⟨?_, fun _ => ?_, fun q => ?_⟩
    · show a + 1 ≤ T.length
      omega
    · show a < a + 1
      omega
    · have e : gsort (tAt T a) = 0 := q
      unfold gsort at e
      repeat (split at e; omega)
      omega
theorem tokB_end (hp : p ≤ T.length) (h1 : (tokB T p).1.1 ≠ 1) : (tokB T p).2 ≤ T.length ∧ ((tokB T p).1.1 ≠ 0 → p < (tokB T p).2) ∧ ((tokB T p).1.1 = 0 → (tokB T p) = ((0, T.length, [], 0), T.length)) := by
  have hb : p + spn dBlk T p ≤ T.length := spn_le hp
  obtain ⟨e1, e2, e3⟩ := tokA_end hb h1
  refine ⟨e1, fun q => by have := e2 q; show p < (tokA T (p + spn dBlk T p)).2; omega, fun q => ?_⟩
  have := e3 q
  unfold tokB
  rw [this]
  unfold tokA
  dsimp only
  rw [if_pos (Nat.le_refl _)]
theorem tokB_len : tokB T T.length = ((0, T.length, [], 0), T.length) := by
  unfold tokB
  have hb : T.length + spn dBlk T T.length ≤ T.length := spn_le (Nat.le_refl _)
  have : spn dBlk T T.length = 0 := by omega
  rw [this, Nat.add_zero]
  unfold tokA
  dsimp only
  rw [if_pos (Nat.le_refl _)]
theorem tokB_place (hp : p ≤ T.length) : (tokB T p).1.2.1 ≤ T.length := by
  unfold tokB
  rw [tokA_place]
  exact spn_le hp
theorem tksF_fuel : ∀ (k k' p : Nat), p ≤ T.length → T.length - p < k → T.length - p < k' → tksF T k p = tksF T k' p
  | 0, k', p, _, h, _ => by omega
  | k + 1, 0, p, _, _, h => by omega
  | k + 1, k' + 1, p, hp, h, h' => by
    unfold tksF
    by_cases c : (tokB T p).1.1 ≤ 1
    · rw [if_pos c, if_pos c]
    · rw [if_neg c, if_neg c]
      obtain ⟨e1, e2, e3⟩ := tokB_end hp (by omega)
      have := e2 (by omega)
      rw [tksF_fuel k k' (tokB T p).2 e1 (by omega) (by omega)]
/-- the tokens from p on -/
def tksP (T : List Int32) (p : Nat) : List Tk := tksF T (T.length + 1 - p) p
theorem tksP_eq (hp : p ≤ T.length) : tksP T p = if (tokB T p).1.1 ≤ 1 then [(tokB T p).1] else (tokB T p).1 :: tksP T (tokB T p).2 := by
  unfold tksP
  rw [show T.length + 1 - p = (T.length - p) + 1 by omega]
  conv => lhs; unfold tksF
  by_cases c : (tokB T p).1.1 ≤ 1
  · rw [if_pos c, if_pos c]
  · rw [if_neg c, if_neg c]
    obtain ⟨e1, e2, e3⟩ := tokB_end hp (by omega)
    have := e2 (by omega)
    rw [tksF_fuel (T.length - p) (T.length + 1 - (tokB T p).2) (tokB T p).2 e1 (by omega) (by omega)]
theorem tksP_hd (hp : p ≤ T.length) : hd (tksP T p) = (tokB T p).1 := by
  rw [tksP_eq hp]
  split <;> rfl
theorem tksP_ne (hp : p ≤ T.length) : tksP T p ≠ [] := by
  rw [tksP_eq hp]
  split <;> simp
theorem tksP_adv (hp : p ≤ T.length) : adv (tksP T p) = if (tokB T p).1.1 ≤ 1 then tksP T p else tksP T (tokB T p).2 := by
  rw [tksP_eq hp]
  by_cases c : (tokB T p).1.1 ≤ 1
  · rw [if_pos c, if_pos c]; rfl
  · rw [if_neg c, if_neg c]
    obtain ⟨e1, e2, e3⟩ := tokB_end hp (by omega)
    have := tksP_ne (T := T) e1
    cases h : tksP T (tokB T p).2 with
    | nil => exact absurd h this
    | cons b r => rfl
/-- the tokens ts are left, the first is looked at -/
def MT (X : zX) (T : List Int32) (fk : Int32) (ts : List Tk) : Prop := ∃ p, p ≤ T.length ∧ ts = tksP T p ∧ TOKs T p fk X
def RIm (X : zX) (T : List Int32) (fk : Int32) (r : RR (List Tk)) : Prop := match r with
  | .inl e => X.1 73 = nI e.2 ∧ X.1 64 = e.1 ∧ e.2 ≤ 6000
  | .inr ts => MT X T fk ts
def RI (X : zX) (T : List Int32) (fk : Int32) (r : RR (List Tk)) : Prop := TP X T ∧ (∃ q, q ≤ 6000 ∧ X.1 70 = nI q) ∧ RIm X T fk r
theorem nI_m1 {k : Nat} (h : k ≤ 6000) : nI k ≠ -1 := by
  intro q
  have h1 := congrArg (fun x : Int32 => decide (x < 0)) q
  have h2 : decide (nI k < 0) = false := decide_eq_false (nI_pos (by omega))
  rw [show decide ((-1 : Int32) < 0) = true by decide] at h1
  rw [h2] at h1
  cases h1
variable {ts : List Tk} {r : RR (List Tk)}
theorem TOKs_70 (hp : p ≤ T.length) (h6 : T.length ≤ 6000) (h : TOKs T p fk X) : ∃ q, q ≤ 6000 ∧ X.1 70 = nI q := by
  have hpl := tokB_place hp
  by_cases c : (tokB T p).1.1 = 1
  · exact ⟨_, by omega, (h.1 c).2.2⟩
  · exact ⟨_, by omega, (h.2 c).2.2.1⟩
/-- a fault was told: it stays -/
theorem ri_flt {e : Er} (h : RI X T fk (.inl e)) : X.1 73 ≠ -1 := by
  obtain ⟨_, _, h1, h2, h3⟩ := h
  rw [h1]
  exact nI_m1 h3
theorem ri_brk (h : RI X T fk (.inr ts)) (hb : (hd ts).1 = 1) : RI X T fk (.inl (1, (hd ts).2.1)) ∧ adv ts = ts := by
  obtain ⟨hT, h70, p, hp, e, hK⟩ := h
  rw [e, tksP_hd hp] at hb ⊢
  have h6 := hT.2.1
  have := tokB_place hp
  refine ⟨⟨hT, h70, (hK.1 hb).1, (hK.1 hb).2.1, by show (tokB T p).1.2.1 ≤ 6000; omega⟩, ?_⟩
  rw [tksP_adv hp, if_pos (by omega)]
theorem ri_of_brk (h : RI X T fk (.inr ts)) (hb : (hd ts).1 = 1) {k : Int32} : RI X T fk (.inl (sErr k (hd ts))) := by
  have := (ri_brk h hb).1
  unfold sErr
  rw [if_pos hb]
  exact this
/-- no fault, and the head's fields -/
theorem ri_hd (h : RI X T fk (.inr ts)) (hb : (hd ts).1 ≠ 1) : X.1 73 = -1 ∧ X.1 64 = fk ∧ X.1 70 = nI (hd ts).2.1 ∧ X.1 69 = kdO (hd ts).1 ∧ ((hd ts).1 = 3 → X.1 72 = (hd ts).2.2.2) ∧ (kdO (hd ts).1 = 1 ∨ (hd ts).1 = 4 → X.1 71 = nI (hd ts).2.2.1.length) ∧ (hd ts).2.1 ≤ 6000 := by
  obtain ⟨hT, h70, p, hp, e, hK⟩ := h
  have h6 := hT.2.1
  have := tokB_place hp
  rw [e, tksP_hd hp] at hb ⊢
  obtain ⟨a1, a2, a3, a4, a5, a6, a7⟩ := hK.2 hb
  exact ⟨a1, a2, a3, a5, a6, a7, by omega⟩
theorem ri_next (h : RI X T fk (.inr ts)) (hn : 6002 ≤ n) : ∃ X1, g190 n X = some ((), X1) ∧ RI X1 T fk (.inr (adv ts)) := by
  by_cases hb : (hd ts).1 = 1
  · have h1 := ri_brk h hb
    refine ⟨X, ?_, by rw [h1.2]; exact h⟩
    unfold g190
    rw [if_neg (ri_flt h1.1)]
  · obtain ⟨hT, h70, p, hp, e, hK⟩ := h
    have h6 := hT.2.1
    rw [e, tksP_hd hp] at hb
    obtain ⟨a1, a2, a3, a4, a5, a6, a7⟩ := hK.2 hb
    obtain ⟨e1, e2, e3⟩ := tokB_end hp hb
    obtain ⟨X1, x1, x2⟩ := next_ok (n := n) hT a1 a2 a4 e1 hn
    have hw := w190 x1
    refine ⟨X1, x1, TP_of hT (hw.1 2 rfl) (hw.2.2.1 0 rfl), TOKs_70 e1 h6 x2, (tokB T p).2, e1, ?_, x2⟩
    rw [e, tksP_adv hp]
    split
    · rename_i c
      have hz : (tokB T p).1.1 = 0 := by omega
      rw [tksP_eq hp, if_pos c, e3 hz]
      rw [tksP_eq (Nat.le_refl _), tokB_len, if_pos (show (0 : Nat) ≤ 1 by decide)]
    · rfl
theorem ri_nextF {e : Er} (h : RI X T fk (.inl e)) : g190 n X = some ((), X) := by
  unfold g190
  rw [if_neg (ri_flt h)]
theorem ri_need {b : Bool} (h : RI X T fk (.inr ts)) (hb : (hd ts).1 ≠ 1) : ∃ X1, g200 n (b2 b) X = some ((), X1) ∧ RI X1 T fk (if b = true then .inr ts else .inl (sErr 2 (hd ts))) := by
  obtain ⟨a1, a2, a3, a4, a5, a6, a7⟩ := ri_hd h hb
  unfold g200
  rw [if_pos a1]
  cases b with
  | true =>
    rw [if_neg (by decide), if_pos rfl]
    exact ⟨X, rfl, h⟩
  | false =>
    rw [if_pos b2_f, if_neg (by decide), bad1 a1]
    refine ⟨_, rfl, TP_xF (TP_xF h.1 (by decide)) (by decide), ⟨_, a7, by simp [xF_1, a3]⟩, ?_⟩
    unfold sErr
    rw [if_neg hb]
    exact ⟨by simp [xF_1, a3], by simp [xF_1], a7⟩
theorem ri_needF {e : Er} {v : Int32} (h : RI X T fk (.inl e)) : g200 n v X = some ((), X) := by
  unfold g200
  rw [if_neg (ri_flt h)]
end
end ZRI

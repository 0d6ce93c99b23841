/-! AN EXPRESSION READ WITH A PILE, and that it means the same as read by calls -/
section ZAM
abbrev Pd : Type := Nat × Den
/-- a normal place of the pile: the row of or, the row of and (with what they have), the last part -/
abbrev Nf : Type := Option (Nat × List Pd) × Option (Nat × List Pd) × Option Pd
/-- a not that waits, or a normal place -/
abbrev Fr : Type := Nat ⊕ Nf
def agv : List Fr → List Pd → List Nat → Pd → List Fr × List Pd × List Nat
  | [], D, U, _ => ([], D, U)
  | .inl q :: S, D, U, x => agv S (D ++ [(q, fun E => !x.2 E)]) (U ++ [x.1]) (q, fun E => !x.2 E)
  | .inr (o, some (p, l), _) :: S, D, U, x => (.inr (o, some (p, l ++ [x]), none) :: S, D, U)
  | .inr (o, none, _) :: S, D, U, x => (.inr (o, none, some x) :: S, D, U)
def eAnd (f : Nf) (D : List Pd) (U : List Nat) : Pd × List Pd × List Nat := match f.2.1 with
  | some (p, l) => ((p, dAnd (l.map (·.2))), D ++ [(p, dAnd (l.map (·.2)))], U ++ l.map (·.1))
  | none => match f.2.2 with
    | some x => (x, D, U)
    | none => ((0, fun _ => false), D, U)
def eOr (f : Nf) (D : List Pd) (U : List Nat) : Pd × List Pd × List Nat := match f.1 with
  | some (p, l) => ((p, dOr ((l ++ [(eAnd f D U).1]).map (·.2))), (eAnd f D U).2.1 ++ [(p, dOr ((l ++ [(eAnd f D U).1]).map (·.2)))], (eAnd f D U).2.2 ++ (l ++ [(eAnd f D U).1]).map (·.1))
  | none => eAnd f D U
/-- a part that is neither not nor in brackets -/
def sLeaf (segs : List (List Int32)) (ts : List Tk) (p : Nat) : RR (Den × List Tk × Nat) :=
  let s := (hd ts).1
  if s = 33 ∨ s = 34 then rb (sPrt p (hd ts)) fun p => .inr (fun _ => s == 33, adv ts, p)
  else if s = 29 then rb (sPrt p (hd ts)) fun p => rb (sKnw segs (adv ts)) fun i => .inr (fun E => E.2.getD i.1 false, i.2, p)
  else sTest ts p
def topF (S : List Fr) : Nf := match S with
  | .inr f :: _ => f
  | _ => (none, none, none)
def aRun (segs : List (List Int32)) : Nat → Bool → List Fr → List Pd → List Nat → Nat → List Tk → RR (Pd × List Pd × List Nat × Nat × List Tk)
  | 0, _, _, _, _, _, _ => .inl (0, 0)
  | k + 1, true, S, D, U, p, ts =>
    if (hd ts).1 = 1 then .inl (sErr 2 (hd ts))
    else if (hd ts).1 = 30 then (if 21 ≤ S.length then .inl (sErr 5 (hd ts)) else rb (sPrt p (hd ts)) fun p' => aRun segs k true (.inl p :: S) D U p' (adv ts))
    else if (hd ts).1 = 7 then (if 21 ≤ S.length then .inl (sErr 5 (hd ts)) else aRun segs k true (.inr (none, none, none) :: S) D U p (adv ts))
    else rb (sLeaf segs ts p) fun x => aRun segs k false (agv S (D ++ [(p, x.1)]) U (p, x.1)).1 (agv S (D ++ [(p, x.1)]) U (p, x.1)).2.1 (agv S (D ++ [(p, x.1)]) U (p, x.1)).2.2 x.2.2 x.2.1
  | k + 1, false, S, D, U, p, ts =>
    if (hd ts).1 = 1 then .inl (sErr 2 (hd ts))
    else if (hd ts).1 = 32 then (match (topF S).2.1 with
      | none => rb (sPrt p (hd ts)) fun p' => aRun segs k true (.inr ((topF S).1, some (p, [(eAnd (topF S) D U).1]), none) :: S.tail) D U p' (adv ts)
      | some _ => aRun segs k true S D U p (adv ts))
    else if (hd ts).1 = 31 then (match (topF S).1 with
      | none => rb (sPrt p (hd ts)) fun p' => aRun segs k true (.inr (some (p, [(eAnd (topF S) D U).1]), none, none) :: S.tail) (eAnd (topF S) D U).2.1 (eAnd (topF S) D U).2.2 p' (adv ts)
      | some (q, l) => aRun segs k true (.inr (some (q, l ++ [(eAnd (topF S) D U).1]), none, none) :: S.tail) (eAnd (topF S) D U).2.1 (eAnd (topF S) D U).2.2 p (adv ts))
    else if 2 ≤ S.length then (if (hd ts).1 = 8 then
        aRun segs k false (agv S.tail (eOr (topF S) D U).2.1 (eOr (topF S) D U).2.2 (eOr (topF S) D U).1).1 (agv S.tail (eOr (topF S) D U).2.1 (eOr (topF S) D U).2.2 (eOr (topF S) D U).1).2.1 (agv S.tail (eOr (topF S) D U).2.1 (eOr (topF S) D U).2.2 (eOr (topF S) D U).1).2.2 p (adv ts)
      else .inl (sErr 2 (hd ts)))
    else .inr ((eOr (topF S) D U).1, (eOr (topF S) D U).2.1, (eOr (topF S) D U).2.2, p, ts)
section
variable {segs : List (List Int32)}
/-- tokens: the last one is END or BROKEN, the others aren't -/
def okT (ts : List Tk) : Prop := ts ≠ [] ∧ ∀ k, k + 1 < ts.length → 2 ≤ (ts.getD k (0, 0, [], 0)).1
theorem adv_len {ts : List Tk} (h : okT ts) (h2 : 2 ≤ (hd ts).1) (hl : ∀ t, ts = [t] → t.1 ≤ 1) : (adv ts).length + 1 = ts.length := by
  match ts, h, h2, hl with
  | [], h, _, _ => exact absurd rfl h.1
  | [t], _, h2, hl => have := hl t rfl; exact absurd h2 (by show ¬ 2 ≤ t.1; omega)
  | a :: b :: r, _, _, _ => rfl
/-- ts is a tail of such tokens -/
def gdT (ts : List Tk) : Prop := ∃ i l, ts = i ++ [l] ∧ l.1 ≤ 1 ∧ ∀ t ∈ i, 2 ≤ t.1
theorem gd_adv {ts : List Tk} (h : gdT ts) : gdT (adv ts) ∧ (2 ≤ (hd ts).1 → (adv ts).length + 1 = ts.length) ∧ (adv ts).length ≤ ts.length ∧ 1 ≤ (adv ts).length := by
  obtain ⟨i, l, e, hl, hi⟩ := h
  cases i with
  | nil =>
    rw [List.nil_append] at e
    rw [e]
    exact ⟨⟨[], l, rfl, hl, fun t ht => by cases ht⟩, fun h => absurd h (by show ¬ 2 ≤ l.1; omega), Nat.le_refl _, Nat.le_refl _⟩
  | cons a i =>
    rw [List.cons_append] at e
    have ea : adv ts = i ++ [l] := by
      rw [e]
      cases i with
      | nil => rfl
      | cons b i => rfl
    rw [ea, e]
    refine ⟨⟨i, l, rfl, hl, fun t ht => hi t (List.mem_cons_of_mem _ ht)⟩, fun _ => rfl, by rw [List.length_cons]; omega, by rw [List.length_append]; show 1 ≤ i.length + 1; omega⟩
/-- what reading leaves: fewer tokens, good ones -/
def lessT (ts ts' : List Tk) : Prop := gdT ts' ∧ ts'.length < ts.length
theorem take_less {ts : List Tk} {s : Nat} {x : Tk × List Tk} (h : gdT ts) (hs : 2 ≤ s) (e : sTake s ts = .inr x) : lessT ts x.2 ∧ x.1 = hd ts ∧ (hd ts).1 = s ∧ x.2 = adv ts := by
  unfold sTake at e
  split at e
  · rename_i c
    cases e
    obtain ⟨g1, g2, g3, g4⟩ := gd_adv h
    have := g2 (by omega)
    exact ⟨⟨g1, by show (adv ts).length < _; omega⟩, rfl, c, rfl⟩
  · cases e
theorem rb_ok {α β : Type} {r : RR α} {f : α → RR β} {y : β} (e : rb r f = .inr y) : ∃ x, r = .inr x ∧ f x = .inr y := by
  cases r with
  | inl _ => cases e
  | inr x => exact ⟨x, rfl, e⟩
theorem eat_less {ts ts' : List Tk} {s : Nat} (h : gdT ts) (hs : 2 ≤ s) (e : sEat s ts = .inr ts') : lessT ts ts' := by
  unfold sEat at e
  obtain ⟨x, e1, e2⟩ := rb_ok e
  cases e2
  exact (take_less h hs e1).1
theorem prt_ok {p p' : Nat} {t : Tk} (e : sPrt p t = .inr p') : p' = p + 1 ∧ p < 400 := by
  unfold sPrt at e
  split at e
  · cases e
  · cases e; exact ⟨rfl, by omega⟩
theorem one_less {ts : List Tk} {x : Tk × List Tk} (h : gdT ts) (e : sOne ts = .inr x) : lessT ts x.2 := by
  unfold sOne at e
  exact (take_less h (by split <;> omega) e).1
theorem less_trans {a b c : List Tk} (h1 : lessT a b) (h2 : lessT b c) : lessT a c := ⟨h2.1, Nat.lt_trans h2.2 h1.2⟩
theorem knw_less {ts : List Tk} {names : List (List Int32)} {x : Nat × List Tk} (h : gdT ts) (e : sKnw names ts = .inr x) : lessT ts x.2 := by
  unfold sKnw at e
  obtain ⟨y, e1, e2⟩ := rb_ok e
  split at e2
  · cases e2
  · cases e2; exact (take_less h (by omega) e1).1
theorem amgL_less : ∀ (k : Nat) {os : List Thg} {ts : List Tk} {p : Nat} {x : List Thg × List Tk × Nat}, gdT ts → p ≤ 400 → sAmgL k os ts p = .inr x → gdT x.2.1 ∧ x.2.1.length ≤ ts.length ∧ p ≤ x.2.2 ∧ x.2.2 ≤ 400
  | 0, os, ts, p, x, h, hp, e => by
    cases e
    exact ⟨h, Nat.le_refl _, Nat.le_refl _, hp⟩
  | k + 1, os, ts, p, x, h, hp, e => by
    unfold sAmgL at e
    split at e
    · rename_i c
      obtain ⟨y, e1, e⟩ := rb_ok e
      obtain ⟨p', e2, e⟩ := rb_ok e
      obtain ⟨g1, g2, g3, g4⟩ := gd_adv h
      have h1 := one_less g1 e1
      obtain ⟨rfl, hp4⟩ := prt_ok e2
      obtain ⟨z1, z2, z3, z4⟩ := amgL_less k h1.1 (by omega) e
      have := h1.2
      exact ⟨z1, by omega, by omega, z4⟩
    · cases e
      exact ⟨h, Nat.le_refl _, Nat.le_refl _, hp⟩
theorem test_less {ts : List Tk} {p : Nat} {x : Den × List Tk × Nat} (h : gdT ts) (hp : p ≤ 400) (e : sTest ts p = .inr x) : lessT ts x.2.1 ∧ p < x.2.2 ∧ x.2.2 ≤ 400 := by
  unfold sTest at e
  obtain ⟨w, e1, e⟩ := rb_ok e
  obtain ⟨p', e2, e⟩ := rb_ok e
  have h1 := (take_less h (by omega) e1).1
  obtain ⟨rfl, hp4⟩ := prt_ok e2
  obtain ⟨g1, g2, g3, g4⟩ := gd_adv h1.1
  have hl := h1.2
  dsimp only at e
  split at e
  · obtain ⟨t1, f1, e⟩ := rb_ok e
    obtain ⟨o, f2, e⟩ := rb_ok e
    obtain ⟨y, f3, e⟩ := rb_ok e
    obtain ⟨t2, f4, e⟩ := rb_ok e
    cases e
    have k1 := eat_less g1 (by omega) f1
    have k2 := one_less k1.1 f2
    obtain ⟨k3, k4, k5, k6⟩ := amgL_less 401 k2.1 (by omega) f3
    have k7 := eat_less k3 (by omega) f4
    have := k1.2; have := k2.2; have := k7.2
    exact ⟨⟨k7.1, by show t2.length < _; omega⟩, by show p < y.2.2; omega, k6⟩
  split at e
  · cases e
    exact ⟨⟨g1, by show (adv w.2).length < _; omega⟩, by show p < p + 1; omega, by show p + 1 ≤ 400; omega⟩
  split at e
  · obtain ⟨o, f2, e⟩ := rb_ok e
    cases e
    have k2 := one_less g1 f2
    have := k2.2
    exact ⟨⟨k2.1, by show o.2.length < _; omega⟩, by show p < p + 1; omega, by show p + 1 ≤ 400; omega⟩
  split at e
  · obtain ⟨o, f2, e⟩ := rb_ok e
    cases e
    have k2 := (take_less g1 (by omega) f2).1
    have := k2.2
    exact ⟨⟨k2.1, by show o.2.length < _; omega⟩, by show p < p + 1; omega, by show p + 1 ≤ 400; omega⟩
  split at e
  · obtain ⟨o, f2, e⟩ := rb_ok e
    cases e
    have k2 := (take_less g1 (by omega) f2).1
    have := k2.2
    exact ⟨⟨k2.1, by show o.2.length < _; omega⟩, by show p < p + 1; omega, by show p + 1 ≤ 400; omega⟩
  · cases e
theorem leaf_less {ts : List Tk} {p : Nat} {x : Den × List Tk × Nat} (h : gdT ts) (hp : p ≤ 400) (e : sLeaf segs ts p = .inr x) : lessT ts x.2.1 ∧ p < x.2.2 ∧ x.2.2 ≤ 400 := by
  unfold sLeaf at e
  dsimp only at e
  obtain ⟨g1, g2, g3, g4⟩ := gd_adv h
  split at e
  · rename_i c
    obtain ⟨p', e2, e⟩ := rb_ok e
    obtain ⟨rfl, hp4⟩ := prt_ok e2
    cases e
    have := g2 (by omega)
    exact ⟨⟨g1, by show (adv ts).length < _; omega⟩, by show p < p + 1; omega, by show p + 1 ≤ 400; omega⟩
  split at e
  · rename_i c
    obtain ⟨p', e2, e⟩ := rb_ok e
    obtain ⟨rfl, hp4⟩ := prt_ok e2
    obtain ⟨i, f2, e⟩ := rb_ok e
    cases e
    have := g2 (by omega)
    have k2 := knw_less g1 f2
    have := k2.2
    exact ⟨⟨k2.1, by show i.2.length < _; omega⟩, by show p < p + 1; omega, by show p + 1 ≤ 400; omega⟩
  · exact test_less h hp e
end
end ZAM

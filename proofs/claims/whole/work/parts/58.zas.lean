/-! THE PILE DOES AS THE CALLS -/
section ZAS
section
variable {segs : List (List Int32)}
theorem sE_0 {k o p : Nat} {ts : List Tk} : sE segs (k + 1) 0 o ts p = sRow (sE segs k 1 o) 31 ts p := rfl
theorem sE_1 {k o p : Nat} {ts : List Tk} : sE segs (k + 1) 1 o ts p = sRow (sE segs k 2 o) 32 ts p := rfl
theorem sE_2 {k o p : Nat} {ts : List Tk} : sE segs (k + 1) 2 o ts p = if ((hd ts).1 = 7 ∨ (hd ts).1 = 30) ∧ 20 ≤ o then .inl (sErr 5 (hd ts)) else if (hd ts).1 = 7 then rb (sE segs k 0 (o + 1) (adv ts) p) (fun x => rb (sEat 8 x.2.1) fun ts => .inr (x.1, ts, x.2.2)) else if (hd ts).1 = 30 then rb (sPrt p (hd ts)) (fun p => rb (sE segs k 2 (o + 1) (adv ts) p) fun x => .inr (fun E => !x.1 E, x.2)) else sLeaf segs ts p := rfl
def Q2 (segs : List (List Int32)) (k : Nat) : Prop := ∀ (o : Nat) (S : List Fr) (D : List Pd) (U : List Nat) (ts : List Tk) (p : Nat), S.length = o + 1 → o ≤ 20 → 3 * (20 - o) + 1 ≤ k → gdT ts → p ≤ 400 →
  (∀ e, sE segs k 2 o ts p = .inl e → ∀ f, ts.length < f → aRun segs f true S D U p ts = .inl e) ∧
  (∀ x, sE segs k 2 o ts p = .inr x → lessT ts x.2.1 ∧ p < x.2.2 ∧ x.2.2 ≤ 400 ∧ ∃ c D' U' j, j + x.2.1.length ≤ ts.length ∧ ∀ f, aRun segs (f + j) true S D U p ts = aRun segs f false (agv S D' U' (c, x.1)).1 (agv S D' U' (c, x.1)).2.1 (agv S D' U' (c, x.1)).2.2 x.2.2 x.2.1)
def Q1 (segs : List (List Int32)) (k : Nat) : Prop := ∀ (o : Nat) (g : Option (Nat × List Pd)) (S : List Fr) (D : List Pd) (U : List Nat) (ts : List Tk) (p : Nat), S.length = o → o ≤ 20 → 3 * (20 - o) + 2 ≤ k → gdT ts → p ≤ 400 →
  (∀ e, sE segs k 1 o ts p = .inl e → ∀ f, ts.length < f → aRun segs f true (.inr (g, none, none) :: S) D U p ts = .inl e) ∧
  (∀ x, sE segs k 1 o ts p = .inr x → lessT ts x.2.1 ∧ p < x.2.2 ∧ x.2.2 ≤ 400 ∧ (hd x.2.1).1 ≠ 32 ∧ ∃ a l D' U' j, j + x.2.1.length ≤ ts.length ∧ (eAnd (g, a, l) D' U').1.2 = x.1 ∧ ∀ f, aRun segs (f + j) true (.inr (g, none, none) :: S) D U p ts = aRun segs f false (.inr (g, a, l) :: S) D' U' x.2.2 x.2.1)
def Q0 (segs : List (List Int32)) (k : Nat) : Prop := ∀ (o : Nat) (S : List Fr) (D : List Pd) (U : List Nat) (ts : List Tk) (p : Nat), S.length = o → o ≤ 20 → 3 * (20 - o) + 3 ≤ k → gdT ts → p ≤ 400 →
  (∀ e, sE segs k 0 o ts p = .inl e → ∀ f, ts.length < f → aRun segs f true (.inr (none, none, none) :: S) D U p ts = .inl e) ∧
  (∀ x, sE segs k 0 o ts p = .inr x → lessT ts x.2.1 ∧ p < x.2.2 ∧ x.2.2 ≤ 400 ∧ (hd x.2.1).1 ≠ 32 ∧ (hd x.2.1).1 ≠ 31 ∧ ∃ ff D' U' j, j + x.2.1.length ≤ ts.length ∧ (eOr ff D' U').1.2 = x.1 ∧ ∀ f, aRun segs (f + j) true (.inr (none, none, none) :: S) D U p ts = aRun segs f false (.inr ff :: S) D' U' x.2.2 x.2.1)
theorem aRun_and {k p q : Nat} {g : Option (Nat × List Pd)} {l : List Pd} {y : Option Pd} {S : List Fr} {D : List Pd} {U : List Nat} {ts : List Tk} (h : (hd ts).1 = 32) : aRun segs (k + 1) false (.inr (g, some (q, l), y) :: S) D U p ts = aRun segs k true (.inr (g, some (q, l), y) :: S) D U p (adv ts) := by
  conv => lhs; unfold aRun
  rw [if_neg (by omega), if_pos h]
  rfl
theorem RL1 {k o q : Nat} (hQ : Q2 segs k) {S : List Fr} {g : Option (Nat × List Pd)} (hS : S.length = o) (ho : o ≤ 20) (hk : 3 * (20 - o) + 1 ≤ k) : ∀ (kk : Nat) (l : List Pd) (D : List Pd) (U : List Nat) (ts : List Tk) (p : Nat), 400 < kk + p → p ≤ 400 → gdT ts →
    (∀ e, sRowL (sE segs k 2 o) 32 kk (l.map (·.2)) ts p = .inl e → ∀ f, ts.length < f → aRun segs f false (.inr (g, some (q, l), none) :: S) D U p ts = .inl e) ∧
    (∀ y, sRowL (sE segs k 2 o) 32 kk (l.map (·.2)) ts p = .inr y → gdT y.2.1 ∧ y.2.1.length ≤ ts.length ∧ p ≤ y.2.2 ∧ y.2.2 ≤ 400 ∧ (hd y.2.1).1 ≠ 32 ∧ ∃ l' D' U' j, l'.map (·.2) = y.1 ∧ j + y.2.1.length ≤ ts.length ∧ ∀ f, aRun segs (f + j) false (.inr (g, some (q, l), none) :: S) D U p ts = aRun segs f false (.inr (g, some (q, l'), none) :: S) D' U' y.2.2 y.2.1)
  | 0, l, D, U, ts, p, h, hp, _ => by omega
  | kk + 1, l, D, U, ts, p, h, hp, hg => by
    obtain ⟨g1, g2, g3, g4⟩ := gd_adv hg
    by_cases c : (hd ts).1 = 32
    · have hal := g2 (by omega)
      have hm := hQ o (.inr (g, some (q, l), none) :: S) D U (adv ts) p (by rw [List.length_cons, hS]) ho hk g1 hp
      have hun : sRowL (sE segs k 2 o) 32 (kk + 1) (l.map (·.2)) ts p = rb (sE segs k 2 o (adv ts) p) fun x => sRowL (sE segs k 2 o) 32 kk (l.map (·.2) ++ [x.1]) x.2.1 x.2.2 := by
        conv => lhs; unfold sRowL
        rw [if_pos c]
      rw [hun]
      cases hr : sE segs k 2 o (adv ts) p with
      | inl e0 =>
        refine ⟨fun e he f hf => ?_, fun y hy => by cases hy⟩
        cases he
        obtain ⟨f', rfl⟩ : ∃ f', f = f' + 1 := ⟨f - 1, by omega⟩
        rw [aRun_and c]
        exact hm.1 e0 hr f' (by omega)
      | inr x =>
        obtain ⟨m1, m2, m3, cc, D', U', j, m4, m5⟩ := hm.2 x hr
        rw [rb_inr]
        have ih := RL1 hQ (q := q) (g := g) hS ho hk kk (l ++ [(cc, x.1)]) D' U' x.2.1 x.2.2 (by omega) m3 m1.1
        rw [List.map_append] at ih
        have hml := m1.2
        have hst : ∀ f, aRun segs (f + j + 1) false (.inr (g, some (q, l), none) :: S) D U p ts = aRun segs f false (.inr (g, some (q, l ++ [(cc, x.1)]), none) :: S) D' U' x.2.2 x.2.1 := by
          intro f
          rw [aRun_and c, m5 f]
          rfl
        refine ⟨fun e he f hf => ?_, fun y hy => ?_⟩
        · obtain ⟨f', rfl⟩ : ∃ f', f = f' + j + 1 := ⟨f - 1 - j, by omega⟩
          rw [hst]
          exact ih.1 e he f' (by omega)
        · obtain ⟨n1, n2, n3, n4, n5, l', D2, U2, j2, n6, n7, n8⟩ := ih.2 y hy
          refine ⟨n1, by omega, by omega, n4, n5, l', D2, U2, j2 + j + 1, n6, by omega, fun f => ?_⟩
          rw [show f + (j2 + j + 1) = (f + j2) + j + 1 by omega, hst, n8]
    · have hun : sRowL (sE segs k 2 o) 32 (kk + 1) (l.map (·.2)) ts p = .inr (l.map (·.2), ts, p) := by
        conv => lhs; unfold sRowL
        rw [if_neg c]
      rw [hun]
      refine ⟨fun e he => (by cases he), fun y hy => ?_⟩
      cases hy
      exact ⟨hg, Nat.le_refl _, Nat.le_refl _, hp, c, l, D, U, 0, rfl, by show 0 + ts.length ≤ _; omega, fun f => rfl⟩
theorem Q1_of {k : Nat} (hQ : Q2 segs k) : Q1 segs (k + 1) := by
  intro o g S D U ts p hS ho hk hg hp
  rw [sE_1]
  unfold sRow
  have hm := hQ o (.inr (g, none, none) :: S) D U ts p (by rw [List.length_cons, hS]) ho (by omega) hg hp
  cases hr : sE segs k 2 o ts p with
  | inl e0 =>
    refine ⟨fun e he f hf => ?_, fun y hy => by cases hy⟩
    cases he
    exact hm.1 e0 hr f hf
  | inr x =>
    obtain ⟨m1, m2, m3, cc, D', U', j, m4, m5⟩ := hm.2 x hr
    rw [rb_inr]
    have hml := m1.2
    by_cases c : (hd x.2.1).1 = 32
    · rw [if_pos c]
      cases hp2 : sPrt x.2.2 (hd x.2.1) with
      | inl e0 =>
        refine ⟨fun e he f hf => ?_, fun y hy => by cases hy⟩
        cases he
        obtain ⟨f', rfl⟩ : ∃ f', f = f' + 1 + j := ⟨f - j - 1, by omega⟩
        rw [m5]
        conv => lhs; unfold aRun
        rw [if_neg (by omega), if_pos c]
        show rb (sPrt x.2.2 (hd x.2.1)) _ = _
        rw [hp2]
        rfl
      | inr p' =>
        obtain ⟨rfl, hp4⟩ := prt_ok hp2
        rw [rb_inr]
        have rl := RL1 hQ (q := x.2.2) (g := g) hS ho (by omega) 401 [(cc, x.1)] D' U' x.2.1 (x.2.2 + 1) (by omega) (by omega) m1.1
        have hst : ∀ f, aRun segs (f + 1 + j) true (.inr (g, none, none) :: S) D U p ts = aRun segs (f + 1) false (.inr (g, some (x.2.2, [(cc, x.1)]), none) :: S) D' U' (x.2.2 + 1) x.2.1 := by
          intro f
          rw [m5, aRun_and c]
          conv => lhs; unfold aRun
          rw [if_neg (by omega), if_pos c]
          show rb (sPrt x.2.2 (hd x.2.1)) _ = _
          rw [hp2]
          rfl
        rw [show [(cc, x.1)].map (·.2) = [x.1] from rfl] at rl
        cases hl : sRowL (sE segs k 2 o) 32 401 [x.1] x.2.1 (x.2.2 + 1) with
        | inl e0 =>
          refine ⟨fun e he f hf => ?_, fun y hy => by cases hy⟩
          cases he
          obtain ⟨f', rfl⟩ : ∃ f', f = f' + 1 + j := ⟨f - j - 1, by omega⟩
          rw [hst]
          exact rl.1 e0 hl (f' + 1) (by omega)
        | inr y =>
          obtain ⟨n1, n2, n3, n4, n5, l', D2, U2, j2, n6, n7, n8⟩ := rl.2 y hl
          rw [rb_inr]
          refine ⟨fun e he => (by cases he), fun z hz => ?_⟩
          cases hz
          refine ⟨⟨n1, by show y.2.1.length < _; omega⟩, by show p < y.2.2; omega, n4, n5, some (x.2.2, l'), none, D2, U2, j2 + j, by show j2 + j + y.2.1.length ≤ _; omega, ?_, fun f => ?_⟩
          · rw [if_neg (by decide), ← n6]
            rfl
          · rw [show f + (j2 + j) = (f + j2) + j by omega]
            have n8f := n8 f
            cases hfj : f + j2 with
            | zero =>
              obtain rfl : f = 0 := by omega
              have := m5 0
              rw [this]
              rfl
            | succ m =>
              rw [hst m, ← hfj, n8f]
    · rw [if_neg c]
      refine ⟨fun e he => (by cases he), fun z hz => ?_⟩
      cases hz
      exact ⟨m1, m2, m3, c, none, some (cc, x.1), D', U', j, m4, rfl, m5⟩
theorem aRun_or {k p q : Nat} {l : List Pd} {a : Option (Nat × List Pd)} {y : Option Pd} {S : List Fr} {D : List Pd} {U : List Nat} {ts : List Tk} (h : (hd ts).1 = 31) : aRun segs (k + 1) false (.inr (some (q, l), a, y) :: S) D U p ts = aRun segs k true (.inr (some (q, l ++ [(eAnd (some (q, l), a, y) D U).1]), none, none) :: S) (eAnd (some (q, l), a, y) D U).2.1 (eAnd (some (q, l), a, y) D U).2.2 p (adv ts) := by
  conv => lhs; unfold aRun
  rw [if_neg (by omega), if_neg (by omega), if_pos h]
  rfl
theorem RL0 {k o q : Nat} (hQ : Q1 segs k) {S : List Fr} (hS : S.length = o) (ho : o ≤ 20) (hk : 3 * (20 - o) + 2 ≤ k) : ∀ (kk : Nat) (l : List Pd) (a : Option (Nat × List Pd)) (y0 : Option Pd) (D : List Pd) (U : List Nat) (ts : List Tk) (p : Nat), 400 < kk + p → p ≤ 400 → gdT ts → (hd ts).1 ≠ 32 →
    (∀ e, sRowL (sE segs k 1 o) 31 kk (l.map (·.2) ++ [(eAnd (some (q, l), a, y0) D U).1.2]) ts p = .inl e → ∀ f, ts.length < f → aRun segs f false (.inr (some (q, l), a, y0) :: S) D U p ts = .inl e) ∧
    (∀ y, sRowL (sE segs k 1 o) 31 kk (l.map (·.2) ++ [(eAnd (some (q, l), a, y0) D U).1.2]) ts p = .inr y → gdT y.2.1 ∧ y.2.1.length ≤ ts.length ∧ p ≤ y.2.2 ∧ y.2.2 ≤ 400 ∧ (hd y.2.1).1 ≠ 32 ∧ (hd y.2.1).1 ≠ 31 ∧ ∃ l' a' y' D' U' j, l'.map (·.2) ++ [(eAnd (some (q, l'), a', y') D' U').1.2] = y.1 ∧ j + y.2.1.length ≤ ts.length ∧ ∀ f, aRun segs (f + j) false (.inr (some (q, l), a, y0) :: S) D U p ts = aRun segs f false (.inr (some (q, l'), a', y') :: S) D' U' y.2.2 y.2.1)
  | 0, l, a, y0, D, U, ts, p, h, hp, _, _ => by omega
  | kk + 1, l, a, y0, D, U, ts, p, h, hp, hg, h32 => by
    obtain ⟨g1, g2, g3, g4⟩ := gd_adv hg
    by_cases c : (hd ts).1 = 31
    · have hal := g2 (by omega)
      obtain ⟨z, hz⟩ : ∃ z, z = eAnd (some (q, l), a, y0) D U := ⟨_, rfl⟩
      have hm := hQ o (some (q, l ++ [z.1])) S z.2.1 z.2.2 (adv ts) p hS ho hk g1 hp
      have hun : sRowL (sE segs k 1 o) 31 (kk + 1) (l.map (·.2) ++ [(eAnd (some (q, l), a, y0) D U).1.2]) ts p = rb (sE segs k 1 o (adv ts) p) fun x => sRowL (sE segs k 1 o) 31 kk (l.map (·.2) ++ [(eAnd (some (q, l), a, y0) D U).1.2] ++ [x.1]) x.2.1 x.2.2 := by
        conv => lhs; unfold sRowL
        rw [if_pos c]
      rw [hun]
      cases hr : sE segs k 1 o (adv ts) p with
      | inl e0 =>
        refine ⟨fun e he f hf => ?_, fun y hy => by cases hy⟩
        cases he
        obtain ⟨f', rfl⟩ : ∃ f', f = f' + 1 := ⟨f - 1, by omega⟩
        rw [aRun_or c, ← hz]
        exact hm.1 e0 hr f' (by omega)
      | inr x =>
        obtain ⟨m1, m2, m3, m32, a', l', D', U', j, m4, m6, m5⟩ := hm.2 x hr
        rw [rb_inr]
        have ih := RL0 hQ (q := q) hS ho hk kk (l ++ [z.1]) a' l' D' U' x.2.1 x.2.2 (by omega) m3 m1.1 m32
        rw [m6, List.map_append] at ih
        rw [← hz]
        have hml := m1.2
        have hst : ∀ f, aRun segs (f + j + 1) false (.inr (some (q, l), a, y0) :: S) D U p ts = aRun segs f false (.inr (some (q, l ++ [z.1]), a', l') :: S) D' U' x.2.2 x.2.1 := by
          intro f
          rw [aRun_or c, ← hz, m5 f]
        refine ⟨fun e he f hf => ?_, fun y hy => ?_⟩
        · obtain ⟨f', rfl⟩ : ∃ f', f = f' + j + 1 := ⟨f - 1 - j, by omega⟩
          rw [hst]
          exact ih.1 e he f' (by omega)
        · obtain ⟨n1, n2, n3, n4, n5, n51, l2, a2, y2, D2, U2, j2, n6, n7, n8⟩ := ih.2 y hy
          refine ⟨n1, by omega, by omega, n4, n5, n51, l2, a2, y2, D2, U2, j2 + j + 1, n6, by omega, fun f => ?_⟩
          rw [show f + (j2 + j + 1) = (f + j2) + j + 1 by omega, hst, n8]
    · have hun : sRowL (sE segs k 1 o) 31 (kk + 1) (l.map (·.2) ++ [(eAnd (some (q, l), a, y0) D U).1.2]) ts p = .inr (l.map (·.2) ++ [(eAnd (some (q, l), a, y0) D U).1.2], ts, p) := by
        conv => lhs; unfold sRowL
        rw [if_neg c]
      rw [hun]
      refine ⟨fun e he => (by cases he), fun y hy => ?_⟩
      cases hy
      exact ⟨hg, Nat.le_refl _, Nat.le_refl _, hp, h32, c, l, a, y0, D, U, 0, rfl, by show 0 + ts.length ≤ _; omega, fun f => rfl⟩
theorem Q0_of {k : Nat} (hQ : Q1 segs k) : Q0 segs (k + 1) := by
  intro o S D U ts p hS ho hk hg hp
  rw [sE_0]
  unfold sRow
  have hm := hQ o none S D U ts p hS ho (by omega) hg hp
  cases hr : sE segs k 1 o ts p with
  | inl e0 =>
    refine ⟨fun e he f hf => ?_, fun y hy => by cases hy⟩
    cases he
    exact hm.1 e0 hr f hf
  | inr x =>
    obtain ⟨m1, m2, m3, m32, a, l, D', U', j, m4, m6, m5⟩ := hm.2 x hr
    rw [rb_inr]
    have hml := m1.2
    by_cases c : (hd x.2.1).1 = 31
    · rw [if_pos c]
      have hone : ∀ f, aRun segs (f + 1) false (.inr (none, a, l) :: S) D' U' x.2.2 x.2.1 = rb (sPrt x.2.2 (hd x.2.1)) fun p' => aRun segs f true (.inr (some (x.2.2, [(eAnd (none, a, l) D' U').1]), none, none) :: S) (eAnd (none, a, l) D' U').2.1 (eAnd (none, a, l) D' U').2.2 p' (adv x.2.1) := by
        intro f
        conv => lhs; unfold aRun
        rw [if_neg (by omega), if_neg m32, if_pos c]
        rfl
      cases hp2 : sPrt x.2.2 (hd x.2.1) with
      | inl e0 =>
        refine ⟨fun e he f hf => ?_, fun y hy => by cases hy⟩
        cases he
        obtain ⟨f', rfl⟩ : ∃ f', f = f' + 1 + j := ⟨f - j - 1, by omega⟩
        rw [m5, hone, hp2]
        rfl
      | inr p' =>
        obtain ⟨rfl, hp4⟩ := prt_ok hp2
        rw [rb_inr]
        obtain ⟨z, hz⟩ : ∃ z, z = eAnd (none, a, l) D' U' := ⟨_, rfl⟩
        obtain ⟨g1, g2, g3, g4⟩ := gd_adv m1.1
        have hal := g2 (by omega)
        -- the next row of and
        have hm2 := hQ o (some (x.2.2, [z.1])) S z.2.1 z.2.2 (adv x.2.1) (x.2.2 + 1) hS ho (by omega) g1 (by omega)
        have hst : ∀ f, aRun segs (f + 1 + j) true (.inr (none, none, none) :: S) D U p ts = aRun segs f true (.inr (some (x.2.2, [z.1]), none, none) :: S) z.2.1 z.2.2 (x.2.2 + 1) (adv x.2.1) := by
          intro f
          rw [m5, hone, hp2, ← hz]
          rfl
        have hzl : z.1.2 = x.1 := by rw [hz]; exact m6
        have hun : sRowL (sE segs k 1 o) 31 401 [x.1] x.2.1 (x.2.2 + 1) = rb (sE segs k 1 o (adv x.2.1) (x.2.2 + 1)) fun y => sRowL (sE segs k 1 o) 31 400 ([x.1] ++ [y.1]) y.2.1 y.2.2 := by
          conv => lhs; unfold sRowL
          rw [if_pos c]
        rw [hun]
        cases hr2 : sE segs k 1 o (adv x.2.1) (x.2.2 + 1) with
        | inl e0 =>
          refine ⟨fun e he f hf => ?_, fun y hy => by cases hy⟩
          cases he
          obtain ⟨f', rfl⟩ : ∃ f', f = f' + 1 + j := ⟨f - j - 1, by omega⟩
          rw [hst]
          exact hm2.1 e0 hr2 f' (by omega)
        | inr x2 =>
          obtain ⟨k1, k2, k3, k32, a2, l2, D2, U2, j2, k4, k6, k5⟩ := hm2.2 x2 hr2
          rw [rb_inr]
          have hkl := k1.2
          have rl := RL0 hQ (q := x.2.2) hS ho (by omega) 400 [z.1] a2 l2 D2 U2 x2.2.1 x2.2.2 (by omega) k3 k1.1 k32
          rw [k6, show [z.1].map (·.2) = [x.1] by rw [← hzl]; rfl] at rl
          have hst2 : ∀ f, aRun segs (f + j2 + 1 + j) true (.inr (none, none, none) :: S) D U p ts = aRun segs f false (.inr (some (x.2.2, [z.1]), a2, l2) :: S) D2 U2 x2.2.2 x2.2.1 := by
            intro f
            rw [hst, k5]
          cases hl : sRowL (sE segs k 1 o) 31 400 ([x.1] ++ [x2.1]) x2.2.1 x2.2.2 with
          | inl e0 =>
            refine ⟨fun e he f hf => ?_, fun y hy => by cases hy⟩
            cases he
            obtain ⟨f', rfl⟩ : ∃ f', f = f' + j2 + 1 + j := ⟨f - j - 1 - j2, by omega⟩
            rw [hst2]
            exact rl.1 e0 hl f' (by omega)
          | inr y =>
            obtain ⟨n1, n2, n3, n4, n5, n51, l', a', y', D3, U3, j3, n6, n7, n8⟩ := rl.2 y hl
            rw [rb_inr]
            refine ⟨fun e he => (by cases he), fun z' hz' => ?_⟩
            cases hz'
            refine ⟨⟨n1, by show y.2.1.length < _; omega⟩, by show p < y.2.2; omega, n4, n5, n51, (some (x.2.2, l'), a', y'), D3, U3, j3 + j2 + 1 + j, by show j3 + j2 + 1 + j + y.2.1.length ≤ _; omega, ?_, fun f => ?_⟩
            · rw [if_pos rfl, ← n6]
              show dOr ((l' ++ [(eAnd (some (x.2.2, l'), a', y') D3 U3).1]).map (·.2)) = _
              rw [List.map_append]
              rfl
            · rw [show f + (j3 + j2 + 1 + j) = (f + j3) + j2 + 1 + j by omega, hst2, n8]
    · rw [if_neg c]
      refine ⟨fun e he => (by cases he), fun z hz => ?_⟩
      cases hz
      exact ⟨m1, m2, m3, m32, c, (none, a, l), D', U', j, m4, m6, m5⟩
theorem sLeaf_brk {ts : List Tk} {p : Nat} (h : (hd ts).1 = 1) : sLeaf segs ts p = .inl (sErr 2 (hd ts)) := by
  unfold sLeaf
  dsimp only
  rw [if_neg (by omega), if_neg (by omega)]
  unfold sTest sTake
  rw [if_neg (by omega)]
  rfl
theorem Q2_of {k : Nat} (hQ0 : Q0 segs k) (hQ2 : Q2 segs k) : Q2 segs (k + 1) := by
  intro o S D U ts p hS ho hk hg hp
  rw [sE_2]
  obtain ⟨g1, g2, g3, g4⟩ := gd_adv hg
  by_cases c0 : ((hd ts).1 = 7 ∨ (hd ts).1 = 30) ∧ 20 ≤ o
  · rw [if_pos c0]
    refine ⟨fun e he f hf => ?_, fun y hy => by cases hy⟩
    cases he
    obtain ⟨f', rfl⟩ : ∃ f', f = f' + 1 := ⟨f - 1, by omega⟩
    conv => lhs; unfold aRun
    rw [if_neg (by rcases c0.1 with q | q <;> omega)]
    rcases c0.1 with q | q
    · rw [if_neg (by omega), if_pos q, if_pos (by omega)]
    · rw [if_pos q, if_pos (by omega)]
  rw [if_neg c0]
  by_cases c7 : (hd ts).1 = 7
  · rw [if_pos c7]
    have hal := g2 (by omega)
    have ho2 : o + 1 ≤ 20 := by
      rcases Nat.lt_or_ge o 20 with q | q
      · omega
      · exact absurd ⟨Or.inl c7, q⟩ c0
    have hm := hQ0 (o + 1) S D U (adv ts) p hS ho2 (by omega) g1 hp
    have hone : ∀ f, aRun segs (f + 1) true S D U p ts = aRun segs f true (.inr (none, none, none) :: S) D U p (adv ts) := by
      intro f
      conv => lhs; unfold aRun
      rw [if_neg (by omega), if_neg (by omega), if_pos c7, if_neg (by omega)]
    cases hr : sE segs k 0 (o + 1) (adv ts) p with
    | inl e0 =>
      refine ⟨fun e he f hf => ?_, fun y hy => by cases hy⟩
      cases he
      obtain ⟨f', rfl⟩ : ∃ f', f = f' + 1 := ⟨f - 1, by omega⟩
      rw [hone]
      exact hm.1 e0 hr f' (by omega)
    | inr x =>
      obtain ⟨m1, m2, m3, m32, m31, ff, D', U', j, m4, m6, m5⟩ := hm.2 x hr
      rw [rb_inr]
      have hml := m1.2
      obtain ⟨k1, k2, k3, k4⟩ := gd_adv m1.1
      have hst : ∀ f, aRun segs (f + j + 1) true S D U p ts = aRun segs f false (.inr ff :: S) D' U' x.2.2 x.2.1 := by
        intro f
        rw [hone, m5]
      unfold sEat sTake
      by_cases c8 : (hd x.2.1).1 = 8
      · rw [if_pos c8]
        have hal2 := k2 (by omega)
        refine ⟨fun e he => (by cases he), fun y hy => ?_⟩
        cases hy
        refine ⟨⟨k1, by show (adv x.2.1).length < _; omega⟩, m2, m3, (eOr ff D' U').1.1, (eOr ff D' U').2.1, (eOr ff D' U').2.2, j + 2, by show j + 2 + (adv x.2.1).length ≤ _; omega, fun f => ?_⟩
        rw [show f + (j + 2) = (f + 1) + j + 1 by omega, hst]
        conv => lhs; unfold aRun
        rw [if_neg (by omega), if_neg m32, if_neg m31, if_pos (by rw [List.length_cons]; omega), if_pos c8]
        show aRun segs f false (agv S (eOr ff D' U').2.1 (eOr ff D' U').2.2 (eOr ff D' U').1).1 (agv S (eOr ff D' U').2.1 (eOr ff D' U').2.2 (eOr ff D' U').1).2.1 (agv S (eOr ff D' U').2.1 (eOr ff D' U').2.2 (eOr ff D' U').1).2.2 x.2.2 (adv x.2.1) = _
        rw [show (eOr ff D' U').1 = ((eOr ff D' U').1.1, x.1) by rw [← m6]]
      · rw [if_neg c8]
        refine ⟨fun e he f hf => ?_, fun y hy => by cases hy⟩
        cases he
        obtain ⟨f', rfl⟩ : ∃ f', f = (f' + 1) + j + 1 := ⟨f - j - 2, by omega⟩
        rw [hst]
        conv => lhs; unfold aRun
        by_cases cb : (hd x.2.1).1 = 1
        · rw [if_pos cb]
        · rw [if_neg cb, if_neg m32, if_neg m31, if_pos (by rw [List.length_cons]; omega), if_neg c8]
  rw [if_neg c7]
  by_cases c30 : (hd ts).1 = 30
  · rw [if_pos c30]
    have hal := g2 (by omega)
    have ho2 : o + 1 ≤ 20 := by
      rcases Nat.lt_or_ge o 20 with q | q
      · omega
      · exact absurd ⟨Or.inr c30, q⟩ c0
    have hone : ∀ f, aRun segs (f + 1) true S D U p ts = rb (sPrt p (hd ts)) fun p' => aRun segs f true (.inl p :: S) D U p' (adv ts) := by
      intro f
      conv => lhs; unfold aRun
      rw [if_neg (by omega), if_pos c30, if_neg (by omega)]
    cases hp2 : sPrt p (hd ts) with
    | inl e0 =>
      refine ⟨fun e he f hf => ?_, fun y hy => by cases hy⟩
      cases he
      obtain ⟨f', rfl⟩ : ∃ f', f = f' + 1 := ⟨f - 1, by omega⟩
      rw [hone, hp2]
      rfl
    | inr p' =>
      obtain ⟨rfl, hp4⟩ := prt_ok hp2
      rw [rb_inr]
      have hm := hQ2 (o + 1) (.inl p :: S) D U (adv ts) (p + 1) (by rw [List.length_cons, hS]) ho2 (by omega) g1 (by omega)
      cases hr : sE segs k 2 (o + 1) (adv ts) (p + 1) with
      | inl e0 =>
        refine ⟨fun e he f hf => ?_, fun y hy => by cases hy⟩
        cases he
        obtain ⟨f', rfl⟩ : ∃ f', f = f' + 1 := ⟨f - 1, by omega⟩
        rw [hone, hp2]
        exact hm.1 e0 hr f' (by omega)
      | inr x =>
        obtain ⟨m1, m2, m3, cc, D', U', j, m4, m5⟩ := hm.2 x hr
        rw [rb_inr]
        have hml := m1.2
        refine ⟨fun e he => (by cases he), fun y hy => ?_⟩
        cases hy
        refine ⟨⟨m1.1, by show x.2.1.length < _; omega⟩, by show p < x.2.2; omega, m3, p, D' ++ [(p, fun E => !x.1 E)], U' ++ [cc], j + 1, by show j + 1 + x.2.1.length ≤ _; omega, fun f => ?_⟩
        rw [show f + (j + 1) = (f + j) + 1 by omega, hone, hp2, rb_inr, m5]
        rfl
  rw [if_neg c30]
  refine ⟨fun e he f hf => ?_, fun x hx => ?_⟩
  · obtain ⟨f', rfl⟩ : ∃ f', f = f' + 1 := ⟨f - 1, by omega⟩
    conv => lhs; unfold aRun
    by_cases cb : (hd ts).1 = 1
    · rw [if_pos cb]
      rw [sLeaf_brk cb] at he
      cases he
      rfl
    · rw [if_neg cb, if_neg c30, if_neg c7, he]
      rfl
  · obtain ⟨m1, m2, m3⟩ := leaf_less hg hp hx
    have hml := m1.2
    have cb : (hd ts).1 ≠ 1 := by
      intro q
      rw [sLeaf_brk q] at hx
      cases hx
    refine ⟨m1, m2, m3, p, D ++ [(p, x.1)], U, 1, by omega, fun f => ?_⟩
    conv => lhs; unfold aRun
    rw [if_neg cb, if_neg c30, if_neg c7, hx]
    rfl
theorem Q_all : ∀ k, Q2 segs k ∧ Q1 segs k ∧ Q0 segs k
  | 0 => ⟨fun o _ _ _ _ _ _ _ h => by omega, fun o _ _ _ _ _ _ _ _ h => by omega, fun o _ _ _ _ _ _ _ h => by omega⟩
  | k + 1 => ⟨Q2_of (Q_all k).2.2 (Q_all k).1, Q1_of (Q_all k).1, Q0_of (Q_all k).2.1⟩
/-- the whole expression -/
theorem aRun_exp {ts : List Tk} {p : Nat} (hg : gdT ts) (hp : p ≤ 400) : (∀ e, sExp segs ts p = .inl e → ∀ f, ts.length < f → aRun segs f true [.inr (none, none, none)] [] [] p ts = .inl e) ∧ (∀ x, sExp segs ts p = .inr x → lessT ts x.2.1 ∧ p < x.2.2 ∧ x.2.2 ≤ 400 ∧ ∀ f, ts.length < f → (hd x.2.1).1 ≠ 1 → ∃ c D U, aRun segs f true [.inr (none, none, none)] [] [] p ts = .inr ((c, x.1), D, U, x.2.2, x.2.1)) := by
  have h := (Q_all (segs := segs) 64).2.2 0 [] [] [] ts p rfl (by omega) (by omega) hg hp
  refine ⟨h.1, fun x hx => ?_⟩
  obtain ⟨m1, m2, m3, m32, m31, ff, D', U', j, m4, m6, m5⟩ := h.2 x hx
  refine ⟨m1, m2, m3, fun f hf hb => ?_⟩
  have hl := m1.2
  have := m1.1
  obtain ⟨i, l, e, _, _⟩ := this
  have hl1 : 1 ≤ x.2.1.length := by rw [e, List.length_append]; show 1 ≤ i.length + 1; omega
  obtain ⟨f', rfl⟩ : ∃ f', f = (f' + 1) + j := ⟨f - j - 1, by omega⟩
  refine ⟨(eOr ff D' U').1.1, (eOr ff D' U').2.1, (eOr ff D' U').2.2, ?_⟩
  rw [m5]
  conv => lhs; unfold aRun
  rw [if_neg hb, if_neg m32, if_neg m31, if_neg (by show ¬ 2 ≤ 1; omega)]
  show (Sum.inr ((eOr ff D' U').1, (eOr ff D' U').2.1, (eOr ff D' U').2.2, x.2.2, x.2.1) : RR _) = _
  rw [show (eOr ff D' U').1 = ((eOr ff D' U').1.1, x.1) by rw [← m6]]
end
end ZAS

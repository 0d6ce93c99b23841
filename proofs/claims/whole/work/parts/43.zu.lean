/-! WHAT THE REFERENCE LEAVES AS IT IS (fk; written by a program of the verifier's) -/
section ZFRM
set_option maxRecDepth 20000 in
theorem u187 {n : Nat} {y0 : Int32} {y1 : Int32} {y2 : Int32} {X : zX} {p : Int32 × zX} (hG : g187 n y0 y1 y2 X = some p) : fk X p.2 := by
  unfold g187 at hG
  have hX : fk X X := fk_R
  by_cases c1 : y0 < y1
  · rw [if_pos c1] at hG
    replace hG := Option.some.inj hG
    subst hG
    exact hX
  · rw [if_neg c1] at hG
    by_cases c2 : y2 < y0
    · rw [if_pos c2] at hG
      replace hG := Option.some.inj hG
      subst hG
      exact hX
    · rw [if_neg c2] at hG
      replace hG := Option.some.inj hG
      subst hG
      exact hX
set_option maxRecDepth 20000 in
theorem u191 {n : Nat} {y1 : Int32} {X : zX} {p : Int32 × zX} (hG : g191 n y1 X = some p) : fk X p.2 := by
  unfold g191 at hG
  have hX : fk X X := fk_R
  by_cases c1 : (X.1 2) ≤ y1
  · rw [if_pos c1] at hG
    replace hG := Option.some.inj hG
    subst hG
    exact hX
  · rw [if_neg c1] at hG
    replace hG := zbnd hG
    obtain ⟨x3, e4, hG⟩ := hG
    replace hG := Option.some.inj hG
    subst hG
    exact hX
set_option maxRecDepth 20000 in
theorem u192 {n : Nat} {y0 : Int32} {X : zX} {p : Int32 × zX} (hG : g192 n y0 X = some p) : fk X p.2 := by
  unfold g192 at hG
  have hX : fk X X := fk_R
  replace hG := zbnd hG
  obtain ⟨p1, e2, hG⟩ := hG
  replace hX := fk_T hX (u187 e2)
  by_cases c3 : p1.1 = 0
  · rw [if_pos c3] at hG
    replace hG := zbnd hG
    obtain ⟨p4, e5, hG⟩ := hG
    replace hX := fk_T hX (u187 e5)
    by_cases c6 : p4.1 = 0
    · rw [if_pos c6] at hG
      replace hG := Option.some.inj hG
      subst hG
      exact hX
    · rw [if_neg c6] at hG
      replace hG := Option.some.inj hG
      subst hG
      exact hX
  · rw [if_neg c3] at hG
    replace hG := Option.some.inj hG
    subst hG
    exact hX
set_option maxRecDepth 20000 in
theorem u194 {n : Nat} {y0 : Int32} {X : zX} {p : Int32 × zX} (hG : g194 n y0 X = some p) : fk X p.2 := by
  unfold g194 at hG
  have hX : fk X X := fk_R
  replace hG := zbnd hG
  obtain ⟨p1, e2, hG⟩ := hG
  replace hX := fk_T hX (u187 e2)
  replace hG := zgd_some hG
  obtain ⟨g3, hG⟩ := hG
  replace hG := Option.some.inj hG
  subst hG
  exact hX
set_option maxRecDepth 20000 in
theorem u193 {n : Nat} {y0 : Int32} {X : zX} {p : Int32 × zX} (hG : g193 n y0 X = some p) : fk X p.2 := by
  unfold g193 at hG
  have hX : fk X X := fk_R
  replace hG := zbnd hG
  obtain ⟨p1, e2, hG⟩ := hG
  replace hX := fk_T hX (u192 e2)
  by_cases c3 : p1.1 = 0
  · rw [if_pos c3] at hG
    replace hG := zbnd hG
    obtain ⟨p4, e5, hG⟩ := hG
    replace hX := fk_T hX (u194 e5)
    by_cases c6 : p4.1 = 0
    · rw [if_pos c6] at hG
      by_cases c7 : y0 = 95
      · rw [if_pos c7] at hG
        replace hG := Option.some.inj hG
        subst hG
        exact hX
      · rw [if_neg c7] at hG
        replace hG := Option.some.inj hG
        subst hG
        exact hX
    · rw [if_neg c6] at hG
      replace hG := Option.some.inj hG
      subst hG
      exact hX
  · rw [if_neg c3] at hG
    replace hG := Option.some.inj hG
    subst hG
    exact hX
set_option maxRecDepth 20000 in
theorem u196 {n : Nat} {y1 : Int32} {y2 : Int32} {X : zX} {p : Unit × zX} (hG : g196 n y1 y2 X = some p) : fk X p.2 := by
  unfold g196 at hG
  have hX : fk X X := fk_R
  by_cases c1 : (X.1 73) = (-1)
  · rw [if_pos c1] at hG
    replace hG := zlet_ex hG
    obtain ⟨X2, e3, hG⟩ := hG
    replace hX := fk_F hX (k := 73) (by decide) e3
    replace hG := zlet_ex hG
    obtain ⟨X4, e5, hG⟩ := hG
    replace hX := fk_F hX (k := 64) (by decide) e5
    replace hG := Option.some.inj hG
    subst hG
    exact hX
  · rw [if_neg c1] at hG
    replace hG := Option.some.inj hG
    subst hG
    exact hX
set_option maxRecDepth 20000 in
theorem u195 {n : Nat} {y1 : Int32} {X : zX} {p : Unit × zX} (hG : g195 n y1 X = some p) : fk X p.2 := by
  unfold g195 at hG
  have hX : fk X X := fk_R
  replace hG := zbnd hG
  obtain ⟨p1, e2, hG⟩ := hG
  replace hX := fk_T hX (u196 e2)
  replace hG := Option.some.inj hG
  subst hG
  exact hX
set_option maxRecDepth 20000 in
theorem ub197_114 {n : Nat}   {l1 : Int32} {l2 : Int32} {s0 : Int32} {X : zX} {p : Unit × zX} (hG : gb197_114 n  l1 l2 s0 X = some p) : fk X p.2 := by
  unfold gb197_114 at hG
  have hX : fk X X := fk_R
  replace hG := zlet_ex hG
  obtain ⟨X1, e2, hG⟩ := hG
  replace hX := fk_F hX (k := 72) (by decide) e2
  replace hG := zlet_ex hG
  obtain ⟨X3, e4, hG⟩ := hG
  replace hX := fk_F hX (k := 71) (by decide) e4
  replace hG := zbnd hG
  obtain ⟨p5, e6, hG⟩ := hG
  replace hX := fk_T hX (u191 e6)
  replace hG := zbnd hG
  obtain ⟨p7, e8, hG⟩ := hG
  replace hX := fk_T hX (u193 e8)
  by_cases c9 : p7.1 = 0
  · rw [if_pos c9] at hG
    replace hG := Option.some.inj hG
    subst hG
    exact hX
  · rw [if_neg c9] at hG
    replace hG := zbnd hG
    obtain ⟨p10, e11, hG⟩ := hG
    replace hX := fk_T hX (u195 e11)
    replace hG := Option.some.inj hG
    subst hG
    exact hX
set_option maxRecDepth 20000 in
theorem ub197_97 {n : Nat}   {l1 : Int32} {l2 : Int32} {X : zX} {p : Unit × zX} (hG : gb197_97 n  l1 l2 X = some p) : fk X p.2 := by
  unfold gb197_97 at hG
  have hX : fk X X := fk_R
  by_cases c1 : l1 = 0
  · rw [if_pos c1] at hG
    exact fk_T hX (ub197_114  hG)
  · rw [if_neg c1] at hG
    exact fk_T hX (ub197_114  hG)
set_option maxRecDepth 20000 in
theorem ub197_36 {n : Nat} {q36 : Int32 → Int32 → zX → Option (Unit × zX)} (hr36 : ∀ {l1 : Int32} {l2 : Int32} {X : zX} {p : Unit × zX}, q36 l1 l2 X = some p → fk X p.2) {l1 : Int32} {l2 : Int32} {X : zX} {p : Unit × zX} (hG : gb197_36 n q36 l1 l2 X = some p) : fk X p.2 := by
  unfold gb197_36 at hG
  have hX : fk X X := fk_R
  replace hG := zbnd hG
  obtain ⟨p1, e2, hG⟩ := hG
  replace hX := fk_T hX (u191 e2)
  replace hG := zbnd hG
  obtain ⟨p3, e4, hG⟩ := hG
  replace hX := fk_T hX (u194 e4)
  by_cases c5 : p3.1 = 0
  · rw [if_pos c5] at hG
    exact fk_T hX (ub197_97  hG)
  · rw [if_neg c5] at hG
    by_cases c6 : (9 : Int32) ≤ ((p3.2.1 68) - l2)
    · rw [if_pos c6] at hG
      exact fk_T hX (ub197_97  hG)
    · rw [if_neg c6] at hG
      replace hG := zbnd hG
      obtain ⟨p7, e8, hG⟩ := hG
      replace hX := fk_T hX (u191 e8)
      replace hG := zlet_ex hG
      obtain ⟨X9, e10, hG⟩ := hG
      replace hX := fk_F hX (k := 72) (by decide) e10
      replace hG := zlet_ex hG
      obtain ⟨X11, e12, hG⟩ := hG
      replace hX := fk_F hX (k := 68) (by decide) e12
      exact fk_T hX (hr36 hG)
theorem uf197_36 {n : Nat}   (k : Nat) : ∀ {l1 : Int32} {l2 : Int32} {X : zX} {p : Unit × zX}, gf197_36 n  k l1 l2 X = some p → fk X p.2 := by
  induction k with
  | zero => intros; rename_i hG; cases hG
  | succ k ih => intros; rename_i hG; exact ub197_36 (n := n) (q36 := gf197_36 n  k) ih hG
set_option maxRecDepth 20000 in
theorem ub197_23 {n : Nat}   {l1 : Int32} {s0 : Int32} {X : zX} {p : Unit × zX} (hG : gb197_23 n  l1 s0 X = some p) : fk X p.2 := by
  unfold gb197_23 at hG
  have hX : fk X X := fk_R
  replace hG := zlet_ex hG
  obtain ⟨X1, e2, hG⟩ := hG
  replace hX := fk_F hX (k := 68) (by decide) e2
  replace hG := zlet_ex hG
  obtain ⟨X3, e4, hG⟩ := hG
  replace hX := fk_F hX (k := 72) (by decide) e4
  exact fk_T hX (uf197_36  n hG)
set_option maxRecDepth 20000 in
theorem u197 {n : Nat} {y1 : Int32} {X : zX} {p : Unit × zX} (hG : g197 n y1 X = some p) : fk X p.2 := by
  unfold g197 at hG
  have hX : fk X X := fk_R
  replace hG := zlet_ex hG
  obtain ⟨X1, e2, hG⟩ := hG
  replace hX := fk_F hX (k := 69) (by decide) e2
  by_cases c3 : y1 = 0
  · rw [if_pos c3] at hG
    exact fk_T hX (ub197_23  hG)
  · rw [if_neg c3] at hG
    exact fk_T hX (ub197_23  hG)
set_option maxRecDepth 20000 in
theorem ub198_108 {n : Nat}    {X : zX} {p : Unit × zX} (hG : gb198_108 n   X = some p) : fk X p.2 := by
  unfold gb198_108 at hG
  have hX : fk X X := fk_R
  replace hG := zlet_ex hG
  obtain ⟨X1, e2, hG⟩ := hG
  replace hX := fk_F hX (k := 68) (by decide) e2
  replace hG := Option.some.inj hG
  subst hG
  exact hX
set_option maxRecDepth 20000 in
theorem ub198_75 {n : Nat}    {X : zX} {p : Unit × zX} (hG : gb198_75 n   X = some p) : fk X p.2 := by
  unfold gb198_75 at hG
  have hX : fk X X := fk_R
  replace hG := zlet_ex hG
  obtain ⟨X1, e2, hG⟩ := hG
  replace hX := fk_F hX (k := 71) (by decide) e2
  replace hG := zbnd hG
  obtain ⟨p3, e4, hG⟩ := hG
  replace hX := fk_T hX (u191 e4)
  by_cases c5 : p3.1 = 39
  · rw [if_pos c5] at hG
    exact fk_T hX (ub198_108  hG)
  · rw [if_neg c5] at hG
    replace hG := zbnd hG
    obtain ⟨p6, e7, hG⟩ := hG
    replace hX := fk_T hX (u195 e7)
    exact fk_T hX (ub198_108  hG)
set_option maxRecDepth 20000 in
theorem ub198_15 {n : Nat} {q15 : zX → Option (Unit × zX)} (hr15 : ∀  {X : zX} {p : Unit × zX}, q15  X = some p → fk X p.2)  {X : zX} {p : Unit × zX} (hG : gb198_15 n q15  X = some p) : fk X p.2 := by
  unfold gb198_15 at hG
  have hX : fk X X := fk_R
  replace hG := zbnd hG
  obtain ⟨p1, e2, hG⟩ := hG
  replace hX := fk_T hX (u191 e2)
  replace hG := zbnd hG
  obtain ⟨p3, e4, hG⟩ := hG
  replace hX := fk_T hX (u187 e4)
  by_cases c5 : p3.1 = 0
  · rw [if_pos c5] at hG
    exact fk_T hX (ub198_75  hG)
  · rw [if_neg c5] at hG
    replace hG := zbnd hG
    obtain ⟨p6, e7, hG⟩ := hG
    replace hX := fk_T hX (u191 e7)
    by_cases c8 : p6.1 = 39
    · rw [if_pos c8] at hG
      exact fk_T hX (ub198_75  hG)
    · rw [if_neg c8] at hG
      by_cases c9 : (16 : Int32) ≤ (((p6.2.1 68) - (p6.2.1 70)) - 1)
      · rw [if_pos c9] at hG
        exact fk_T hX (ub198_75  hG)
      · rw [if_neg c9] at hG
        replace hG := zlet_ex hG
        obtain ⟨X10, e11, hG⟩ := hG
        replace hX := fk_F hX (k := 68) (by decide) e11
        exact fk_T hX (hr15 hG)
theorem uf198_15 {n : Nat}   (k : Nat) : ∀  {X : zX} {p : Unit × zX}, gf198_15 n  k  X = some p → fk X p.2 := by
  induction k with
  | zero => intros; rename_i hG; cases hG
  | succ k ih => intros; rename_i hG; exact ub198_15 (n := n) (q15 := gf198_15 n  k) ih hG
set_option maxRecDepth 20000 in
theorem u198 {n : Nat}  {X : zX} {p : Unit × zX} (hG : g198 n  X = some p) : fk X p.2 := by
  unfold g198 at hG
  have hX : fk X X := fk_R
  replace hG := zlet_ex hG
  obtain ⟨X1, e2, hG⟩ := hG
  replace hX := fk_F hX (k := 69) (by decide) e2
  replace hG := zlet_ex hG
  obtain ⟨X3, e4, hG⟩ := hG
  replace hX := fk_F hX (k := 68) (by decide) e4
  exact fk_T hX (uf198_15  n hG)
set_option maxRecDepth 20000 in
theorem ub190_61 {n : Nat} {q9 : zX → Option (Unit × zX)} (hr9 : ∀  {X : zX} {p : Unit × zX}, q9  X = some p → fk X p.2)  {X : zX} {p : Unit × zX} (hG : gb190_61 n q9  X = some p) : fk X p.2 := by
  unfold gb190_61 at hG
  have hX : fk X X := fk_R
  replace hG := zlet_ex hG
  obtain ⟨X1, e2, hG⟩ := hG
  replace hX := fk_F hX (k := 68) (by decide) e2
  exact fk_T hX (hr9 hG)
set_option maxRecDepth 20000 in
theorem ub190_214 {n : Nat}   {l1 : Int32} {s0 : Int32} {X : zX} {p : Unit × zX} (hG : gb190_214 n  l1 s0 X = some p) : fk X p.2 := by
  unfold gb190_214 at hG
  have hX : fk X X := fk_R
  replace hG := zbnd hG
  obtain ⟨p1, e2, hG⟩ := hG
  replace hX := fk_T hX (u197 e2)
  replace hG := Option.some.inj hG
  subst hG
  exact hX
set_option maxRecDepth 20000 in
theorem ub190_202 {n : Nat}   {l1 : Int32} {X : zX} {p : Unit × zX} (hG : gb190_202 n  l1 X = some p) : fk X p.2 := by
  unfold gb190_202 at hG
  have hX : fk X X := fk_R
  by_cases c1 : l1 = 45
  · rw [if_pos c1] at hG
    exact fk_T hX (ub190_214  hG)
  · rw [if_neg c1] at hG
    exact fk_T hX (ub190_214  hG)
set_option maxRecDepth 20000 in
theorem ub190_321 {n : Nat}   {l1 : Int32} {X : zX} {p : Unit × zX} (hG : gb190_321 n  l1 X = some p) : fk X p.2 := by
  unfold gb190_321 at hG
  have hX : fk X X := fk_R
  replace hG := zlet_ex hG
  obtain ⟨X1, e2, hG⟩ := hG
  replace hX := fk_F hX (k := 69) (by decide) e2
  replace hG := zlet_ex hG
  obtain ⟨X3, e4, hG⟩ := hG
  replace hX := fk_F hX (k := 68) (by decide) e4
  replace hG := Option.some.inj hG
  subst hG
  exact hX
set_option maxRecDepth 20000 in
theorem ub190_273 {n : Nat}   {l1 : Int32} {X : zX} {p : Unit × zX} (hG : gb190_273 n  l1 X = some p) : fk X p.2 := by
  unfold gb190_273 at hG
  have hX : fk X X := fk_R
  by_cases c1 : l1 = 123
  · rw [if_pos c1] at hG
    exact fk_T hX (ub190_321  hG)
  · rw [if_neg c1] at hG
    by_cases c2 : l1 = 125
    · rw [if_pos c2] at hG
      exact fk_T hX (ub190_321  hG)
    · rw [if_neg c2] at hG
      by_cases c3 : l1 = 40
      · rw [if_pos c3] at hG
        exact fk_T hX (ub190_321  hG)
      · rw [if_neg c3] at hG
        by_cases c4 : l1 = 41
        · rw [if_pos c4] at hG
          exact fk_T hX (ub190_321  hG)
        · rw [if_neg c4] at hG
          by_cases c5 : l1 = 59
          · rw [if_pos c5] at hG
            exact fk_T hX (ub190_321  hG)
          · rw [if_neg c5] at hG
            by_cases c6 : l1 = 44
            · rw [if_pos c6] at hG
              exact fk_T hX (ub190_321  hG)
            · rw [if_neg c6] at hG
              by_cases c7 : l1 = 58
              · rw [if_pos c7] at hG
                exact fk_T hX (ub190_321  hG)
              · rw [if_neg c7] at hG
                by_cases c8 : l1 = 61
                · rw [if_pos c8] at hG
                  exact fk_T hX (ub190_321  hG)
                · rw [if_neg c8] at hG
                  replace hG := zbnd hG
                  obtain ⟨p9, e10, hG⟩ := hG
                  replace hX := fk_T hX (u195 e10)
                  replace hG := Option.some.inj hG
                  subst hG
                  exact hX
set_option maxRecDepth 20000 in
theorem ub190_220 {n : Nat}   {l1 : Int32} {X : zX} {p : Unit × zX} (hG : gb190_220 n  l1 X = some p) : fk X p.2 := by
  unfold gb190_220 at hG
  have hX : fk X X := fk_R
  by_cases c1 : l1 = 39
  · rw [if_pos c1] at hG
    replace hG := zbnd hG
    obtain ⟨p2, e3, hG⟩ := hG
    replace hX := fk_T hX (u198 e3)
    replace hG := Option.some.inj hG
    subst hG
    exact hX
  · rw [if_neg c1] at hG
    by_cases c4 : l1 = 45
    · rw [if_pos c4] at hG
      replace hG := zbnd hG
      obtain ⟨p5, e6, hG⟩ := hG
      replace hX := fk_T hX (u191 e6)
      by_cases c7 : p5.1 = 62
      · rw [if_pos c7] at hG
        replace hG := zlet_ex hG
        obtain ⟨X8, e9, hG⟩ := hG
        replace hX := fk_F hX (k := 69) (by decide) e9
        replace hG := zlet_ex hG
        obtain ⟨X10, e11, hG⟩ := hG
        replace hX := fk_F hX (k := 68) (by decide) e11
        replace hG := Option.some.inj hG
        subst hG
        exact hX
      · rw [if_neg c7] at hG
        exact fk_T hX (ub190_273  hG)
    · rw [if_neg c4] at hG
      exact fk_T hX (ub190_273  hG)
set_option maxRecDepth 20000 in
theorem ub190_116 {n : Nat} {q116 : Int32 → zX → Option (Unit × zX)} (hr116 : ∀ {l1 : Int32} {X : zX} {p : Unit × zX}, q116 l1 X = some p → fk X p.2) {l1 : Int32} {X : zX} {p : Unit × zX} (hG : gb190_116 n q116 l1 X = some p) : fk X p.2 := by
  unfold gb190_116 at hG
  have hX : fk X X := fk_R
  replace hG := zbnd hG
  obtain ⟨p1, e2, hG⟩ := hG
  replace hX := fk_T hX (u191 e2)
  replace hG := zbnd hG
  obtain ⟨p3, e4, hG⟩ := hG
  replace hX := fk_T hX (u193 e4)
  by_cases c5 : p3.1 = 0
  · rw [if_pos c5] at hG
    replace hG := zlet_ex hG
    obtain ⟨X6, e7, hG⟩ := hG
    replace hX := fk_F hX (k := 71) (by decide) e7
    by_cases c8 : (X6.1 71) ≤ 16
    · rw [if_pos c8] at hG
      replace hG := Option.some.inj hG
      subst hG
      exact hX
    · rw [if_neg c8] at hG
      replace hG := zbnd hG
      obtain ⟨p9, e10, hG⟩ := hG
      replace hX := fk_T hX (u195 e10)
      replace hG := Option.some.inj hG
      subst hG
      exact hX
  · rw [if_neg c5] at hG
    replace hG := zlet_ex hG
    obtain ⟨X11, e12, hG⟩ := hG
    replace hX := fk_F hX (k := 68) (by decide) e12
    exact fk_T hX (hr116 hG)
theorem uf190_116 {n : Nat}   (k : Nat) : ∀ {l1 : Int32} {X : zX} {p : Unit × zX}, gf190_116 n  k l1 X = some p → fk X p.2 := by
  induction k with
  | zero => intros; rename_i hG; cases hG
  | succ k ih => intros; rename_i hG; exact ub190_116 (n := n) (q116 := gf190_116 n  k) ih hG
set_option maxRecDepth 20000 in
theorem ub190_9 {n : Nat} {q9 : zX → Option (Unit × zX)} (hr9 : ∀  {X : zX} {p : Unit × zX}, q9  X = some p → fk X p.2)  {X : zX} {p : Unit × zX} (hG : gb190_9 n q9  X = some p) : fk X p.2 := by
  unfold gb190_9 at hG
  have hX : fk X X := fk_R
  replace hG := zbnd hG
  obtain ⟨p1, e2, hG⟩ := hG
  replace hX := fk_T hX (u191 e2)
  by_cases c3 : p1.1 = 9
  · rw [if_pos c3] at hG
    exact fk_T hX (ub190_61 hr9 hG)
  · rw [if_neg c3] at hG
    replace hG := zbnd hG
    obtain ⟨p4, e5, hG⟩ := hG
    replace hX := fk_T hX (u191 e5)
    by_cases c6 : p4.1 = 10
    · rw [if_pos c6] at hG
      exact fk_T hX (ub190_61 hr9 hG)
    · rw [if_neg c6] at hG
      replace hG := zbnd hG
      obtain ⟨p7, e8, hG⟩ := hG
      replace hX := fk_T hX (u191 e8)
      by_cases c9 : p7.1 = 13
      · rw [if_pos c9] at hG
        exact fk_T hX (ub190_61 hr9 hG)
      · rw [if_neg c9] at hG
        replace hG := zbnd hG
        obtain ⟨p10, e11, hG⟩ := hG
        replace hX := fk_T hX (u191 e11)
        by_cases c12 : p10.1 = 32
        · rw [if_pos c12] at hG
          exact fk_T hX (ub190_61 hr9 hG)
        · rw [if_neg c12] at hG
          replace hG := zlet_ex hG
          obtain ⟨X13, e14, hG⟩ := hG
          replace hX := fk_F hX (k := 70) (by decide) e14
          replace hG := zbnd hG
          obtain ⟨p15, e16, hG⟩ := hG
          replace hX := fk_T hX (u191 e16)
          by_cases c17 : p15.1 = (-1)
          · rw [if_pos c17] at hG
            replace hG := zlet_ex hG
            obtain ⟨X18, e19, hG⟩ := hG
            replace hX := fk_F hX (k := 69) (by decide) e19
            replace hG := Option.some.inj hG
            subst hG
            exact hX
          · rw [if_neg c17] at hG
            replace hG := zbnd hG
            obtain ⟨p20, e21, hG⟩ := hG
            replace hX := fk_T hX (u192 e21)
            by_cases c22 : p20.1 = 0
            · rw [if_pos c22] at hG
              replace hG := zbnd hG
              obtain ⟨p23, e24, hG⟩ := hG
              replace hX := fk_T hX (u194 e24)
              by_cases c25 : p23.1 = 0
              · rw [if_pos c25] at hG
                by_cases c26 : p15.1 = 45
                · rw [if_pos c26] at hG
                  replace hG := zbnd hG
                  obtain ⟨p27, e28, hG⟩ := hG
                  replace hX := fk_T hX (u191 e28)
                  replace hG := zbnd hG
                  obtain ⟨p29, e30, hG⟩ := hG
                  replace hX := fk_T hX (u194 e30)
                  by_cases c31 : p29.1 = 0
                  · rw [if_pos c31] at hG
                    exact fk_T hX (ub190_220  hG)
                  · rw [if_neg c31] at hG
                    exact fk_T hX (ub190_202  hG)
                · rw [if_neg c26] at hG
                  exact fk_T hX (ub190_220  hG)
              · rw [if_neg c25] at hG
                exact fk_T hX (ub190_202  hG)
            · rw [if_neg c22] at hG
              replace hG := zlet_ex hG
              obtain ⟨X32, e33, hG⟩ := hG
              replace hX := fk_F hX (k := 69) (by decide) e33
              exact fk_T hX (uf190_116  n hG)
theorem uf190_9 {n : Nat}   (k : Nat) : ∀  {X : zX} {p : Unit × zX}, gf190_9 n  k  X = some p → fk X p.2 := by
  induction k with
  | zero => intros; rename_i hG; cases hG
  | succ k ih => intros; rename_i hG; exact ub190_9 (n := n) (q9 := gf190_9 n  k) ih hG
set_option maxRecDepth 20000 in
theorem u190 {n : Nat}  {X : zX} {p : Unit × zX} (hG : g190 n  X = some p) : fk X p.2 := by
  unfold g190 at hG
  have hX : fk X X := fk_R
  by_cases c1 : (X.1 73) = (-1)
  · rw [if_pos c1] at hG
    exact fk_T hX (uf190_9  n hG)
  · rw [if_neg c1] at hG
    replace hG := Option.some.inj hG
    subst hG
    exact hX
set_option maxRecDepth 20000 in
theorem ub199_129 {n : Nat} {q7 : Nat → Int32 → Int32 → Int32 → zX → Option (Int32 × zX)} (hr7 : ∀ {l1 : Nat} {l2 : Int32} {l3 : Int32} {l4 : Int32} {X : zX} {p : Int32 × zX}, q7 l1 l2 l3 l4 X = some p → fk X p.2) {l1 : Nat} {l2 : Int32} {l3 : Int32} {l4 : Int32} {X : zX} {p : Int32 × zX} (hG : gb199_129 n q7 l1 l2 l3 l4 X = some p) : fk X p.2 := by
  unfold gb199_129 at hG
  have hX : fk X X := fk_R
  exact fk_T hX (hr7 hG)
set_option maxRecDepth 20000 in
theorem ub199_114 {n : Nat} {q7 : Nat → Int32 → Int32 → Int32 → zX → Option (Int32 × zX)} (hr7 : ∀ {l1 : Nat} {l2 : Int32} {l3 : Int32} {l4 : Int32} {X : zX} {p : Int32 × zX}, q7 l1 l2 l3 l4 X = some p → fk X p.2) {l1 : Nat} {l2 : Int32} {l3 : Int32} {l4 : Int32} {l5 : Int32} {l6 : Int32} {X : zX} {p : Int32 × zX} (hG : gb199_114 n q7 l1 l2 l3 l4 l5 l6 X = some p) : fk X p.2 := by
  unfold gb199_114 at hG
  have hX : fk X X := fk_R
  by_cases c1 : l5 = 0
  · rw [if_pos c1] at hG
    exact fk_T hX (ub199_129 hr7 hG)
  · rw [if_neg c1] at hG
    replace hG := Option.some.inj hG
    subst hG
    exact hX
set_option maxRecDepth 20000 in
theorem ub199_106 {n : Nat} {q7 : Nat → Int32 → Int32 → Int32 → zX → Option (Int32 × zX)} {q65 : Nat → Int32 → Int32 → Int32 → Int32 → Int32 → zX → Option (Int32 × zX)} (hr7 : ∀ {l1 : Nat} {l2 : Int32} {l3 : Int32} {l4 : Int32} {X : zX} {p : Int32 × zX}, q7 l1 l2 l3 l4 X = some p → fk X p.2) (hr65 : ∀ {l1 : Nat} {l2 : Int32} {l3 : Int32} {l4 : Int32} {l5 : Int32} {l6 : Int32} {X : zX} {p : Int32 × zX}, q65 l1 l2 l3 l4 l5 l6 X = some p → fk X p.2) {l1 : Nat} {l2 : Int32} {l3 : Int32} {l4 : Int32} {l5 : Int32} {l6 : Int32} {s0 : Int32} {X : zX} {p : Int32 × zX} (hG : gb199_106 n q7 q65 l1 l2 l3 l4 l5 l6 s0 X = some p) : fk X p.2 := by
  unfold gb199_106 at hG
  have hX : fk X X := fk_R
  exact fk_T hX (hr65 hG)
set_option maxRecDepth 20000 in
theorem ub199_65 {n : Nat} {q7 : Nat → Int32 → Int32 → Int32 → zX → Option (Int32 × zX)} {q65 : Nat → Int32 → Int32 → Int32 → Int32 → Int32 → zX → Option (Int32 × zX)} (hr7 : ∀ {l1 : Nat} {l2 : Int32} {l3 : Int32} {l4 : Int32} {X : zX} {p : Int32 × zX}, q7 l1 l2 l3 l4 X = some p → fk X p.2) (hr65 : ∀ {l1 : Nat} {l2 : Int32} {l3 : Int32} {l4 : Int32} {l5 : Int32} {l6 : Int32} {X : zX} {p : Int32 × zX}, q65 l1 l2 l3 l4 l5 l6 X = some p → fk X p.2) {l1 : Nat} {l2 : Int32} {l3 : Int32} {l4 : Int32} {l5 : Int32} {l6 : Int32} {X : zX} {p : Int32 × zX} (hG : gb199_65 n q7 q65 l1 l2 l3 l4 l5 l6 X = some p) : fk X p.2 := by
  unfold gb199_65 at hG
  have hX : fk X X := fk_R
  by_cases c1 : (X.1 71) ≤ l6
  · rw [if_pos c1] at hG
    exact fk_T hX (ub199_114 hr7 hG)
  · rw [if_neg c1] at hG
    by_cases c2 : l5 = 0
    · rw [if_pos c2] at hG
      exact fk_T hX (ub199_114 hr7 hG)
    · rw [if_neg c2] at hG
      replace hG := zbnd hG
      obtain ⟨p3, e4, hG⟩ := hG
      replace hX := fk_T hX (u191 e4)
      replace hG := zgd_some hG
      obtain ⟨g5, hG⟩ := hG
      replace hG := zbnd hG
      obtain ⟨x6, e7, hG⟩ := hG
      by_cases c8 : p3.1 = x6
      · rw [if_pos c8] at hG
        exact fk_T hX (ub199_106 hr7 hr65 hG)
      · rw [if_neg c8] at hG
        exact fk_T hX (ub199_106 hr7 hr65 hG)
theorem uf199_65 {n : Nat} {q7 : Nat → Int32 → Int32 → Int32 → zX → Option (Int32 × zX)} (hr7 : ∀ {l1 : Nat} {l2 : Int32} {l3 : Int32} {l4 : Int32} {X : zX} {p : Int32 × zX}, q7 l1 l2 l3 l4 X = some p → fk X p.2) (k : Nat) : ∀ {l1 : Nat} {l2 : Int32} {l3 : Int32} {l4 : Int32} {l5 : Int32} {l6 : Int32} {X : zX} {p : Int32 × zX}, gf199_65 n q7 k l1 l2 l3 l4 l5 l6 X = some p → fk X p.2 := by
  induction k with
  | zero => intros; rename_i hG; cases hG
  | succ k ih => intros; rename_i hG; exact ub199_65 (n := n) (q7 := q7) (q65 := gf199_65 n q7 k) hr7 ih hG
set_option maxRecDepth 20000 in
theorem ub199_60 {n : Nat} {q7 : Nat → Int32 → Int32 → Int32 → zX → Option (Int32 × zX)} (hr7 : ∀ {l1 : Nat} {l2 : Int32} {l3 : Int32} {l4 : Int32} {X : zX} {p : Int32 × zX}, q7 l1 l2 l3 l4 X = some p → fk X p.2) {l1 : Nat} {l2 : Int32} {l3 : Int32} {l4 : Int32} {s0 : Int32} {X : zX} {p : Int32 × zX} (hG : gb199_60 n q7 l1 l2 l3 l4 s0 X = some p) : fk X p.2 := by
  unfold gb199_60 at hG
  have hX : fk X X := fk_R
  exact fk_T hX (uf199_65 hr7 n hG)
set_option maxRecDepth 20000 in
theorem ub199_59 {n : Nat} {q7 : Nat → Int32 → Int32 → Int32 → zX → Option (Int32 × zX)} (hr7 : ∀ {l1 : Nat} {l2 : Int32} {l3 : Int32} {l4 : Int32} {X : zX} {p : Int32 × zX}, q7 l1 l2 l3 l4 X = some p → fk X p.2) {l1 : Nat} {l2 : Int32} {l3 : Int32} {l4 : Int32} {X : zX} {p : Int32 × zX} (hG : gb199_59 n q7 l1 l2 l3 l4 X = some p) : fk X p.2 := by
  unfold gb199_59 at hG
  have hX : fk X X := fk_R
  exact fk_T hX (ub199_60 hr7 hG)
set_option maxRecDepth 20000 in
theorem ub199_36 {n : Nat} {q7 : Nat → Int32 → Int32 → Int32 → zX → Option (Int32 × zX)} (hr7 : ∀ {l1 : Nat} {l2 : Int32} {l3 : Int32} {l4 : Int32} {X : zX} {p : Int32 × zX}, q7 l1 l2 l3 l4 X = some p → fk X p.2) {l1 : Nat} {l2 : Int32} {l3 : Int32} {l4 : Int32} {X : zX} {p : Int32 × zX} (hG : gb199_36 n q7 l1 l2 l3 l4 X = some p) : fk X p.2 := by
  unfold gb199_36 at hG
  have hX : fk X X := fk_R
  by_cases c1 : (X.1 69) = 1
  · rw [if_pos c1] at hG
    by_cases c2 : (X.1 71) = (l4 - l3)
    · rw [if_pos c2] at hG
      exact fk_T hX (ub199_60 hr7 hG)
    · rw [if_neg c2] at hG
      exact fk_T hX (ub199_59 hr7 hG)
  · rw [if_neg c1] at hG
    exact fk_T hX (ub199_59 hr7 hG)
set_option maxRecDepth 20000 in
theorem ub199_7 {n : Nat} {q7 : Nat → Int32 → Int32 → Int32 → zX → Option (Int32 × zX)} (hr7 : ∀ {l1 : Nat} {l2 : Int32} {l3 : Int32} {l4 : Int32} {X : zX} {p : Int32 × zX}, q7 l1 l2 l3 l4 X = some p → fk X p.2) {l1 : Nat} {l2 : Int32} {l3 : Int32} {l4 : Int32} {X : zX} {p : Int32 × zX} (hG : gb199_7 n q7 l1 l2 l3 l4 X = some p) : fk X p.2 := by
  unfold gb199_7 at hG
  have hX : fk X X := fk_R
  replace hG := zgd_some hG
  obtain ⟨g1, hG⟩ := hG
  by_cases c2 : (nI (cs l1).length) < l4
  · rw [if_pos c2] at hG
    replace hG := Option.some.inj hG
    subst hG
    exact hX
  · rw [if_neg c2] at hG
    replace hG := zgd_some hG
    obtain ⟨g3, hG⟩ := hG
    by_cases c4 : l4 = (nI (cs l1).length)
    · rw [if_pos c4] at hG
      exact fk_T hX (ub199_36 hr7 hG)
    · rw [if_neg c4] at hG
      replace hG := zgd_some hG
      obtain ⟨g5, hG⟩ := hG
      replace hG := zbnd hG
      obtain ⟨x6, e7, hG⟩ := hG
      by_cases c8 : x6 = 32
      · rw [if_pos c8] at hG
        exact fk_T hX (ub199_36 hr7 hG)
      · rw [if_neg c8] at hG
        exact fk_T hX (ub199_129 hr7 hG)
theorem uf199_7 {n : Nat}   (k : Nat) : ∀ {l1 : Nat} {l2 : Int32} {l3 : Int32} {l4 : Int32} {X : zX} {p : Int32 × zX}, gf199_7 n  k l1 l2 l3 l4 X = some p → fk X p.2 := by
  induction k with
  | zero => intros; rename_i hG; cases hG
  | succ k ih => intros; rename_i hG; exact ub199_7 (n := n) (q7 := gf199_7 n  k) ih hG
set_option maxRecDepth 20000 in
theorem u199 {n : Nat} {y1 : Nat} {X : zX} {p : Int32 × zX} (hG : g199 n y1 X = some p) : fk X p.2 := by
  unfold g199 at hG
  have hX : fk X X := fk_R
  exact fk_T hX (uf199_7  n hG)
set_option maxRecDepth 20000 in
theorem u200 {n : Nat} {y1 : Int32} {X : zX} {p : Unit × zX} (hG : g200 n y1 X = some p) : fk X p.2 := by
  unfold g200 at hG
  have hX : fk X X := fk_R
  by_cases c1 : (X.1 73) = (-1)
  · rw [if_pos c1] at hG
    by_cases c2 : y1 = 0
    · rw [if_pos c2] at hG
      replace hG := zbnd hG
      obtain ⟨p3, e4, hG⟩ := hG
      replace hX := fk_T hX (u195 e4)
      replace hG := Option.some.inj hG
      subst hG
      exact hX
    · rw [if_neg c2] at hG
      replace hG := Option.some.inj hG
      subst hG
      exact hX
  · rw [if_neg c1] at hG
    replace hG := Option.some.inj hG
    subst hG
    exact hX
set_option maxRecDepth 20000 in
theorem u203 {n : Nat}  {X : zX} {p : Int32 × zX} (hG : g203 n  X = some p) : fk X p.2 := by
  unfold g203 at hG
  have hX : fk X X := fk_R
  by_cases c1 : (X.1 69) = 1
  · rw [if_pos c1] at hG
    replace hG := zbnd hG
    obtain ⟨p2, e3, hG⟩ := hG
    replace hX := fk_T hX (u199 e3)
    by_cases c4 : p2.1 = (-1)
    · rw [if_pos c4] at hG
      replace hG := Option.some.inj hG
      subst hG
      exact hX
    · rw [if_neg c4] at hG
      replace hG := Option.some.inj hG
      subst hG
      exact hX
  · rw [if_neg c1] at hG
    replace hG := Option.some.inj hG
    subst hG
    exact hX
set_option maxRecDepth 20000 in
theorem ub205_60 {n : Nat} {q20 : Int32 → Int32 → Int32 → Int32 → Int32 → zX → Option (Int32 × zX)} (hr20 : ∀ {l1 : Int32} {l2 : Int32} {l3 : Int32} {l4 : Int32} {l5 : Int32} {X : zX} {p : Int32 × zX}, q20 l1 l2 l3 l4 l5 X = some p → fk X p.2) {l1 : Int32} {l2 : Int32} {l3 : Int32} {l4 : Int32} {l5 : Int32} {s0 : Int32} {X : zX} {p : Int32 × zX} (hG : gb205_60 n q20 l1 l2 l3 l4 l5 s0 X = some p) : fk X p.2 := by
  unfold gb205_60 at hG
  have hX : fk X X := fk_R
  exact fk_T hX (hr20 hG)
set_option maxRecDepth 20000 in
theorem ub205_20 {n : Nat} {q20 : Int32 → Int32 → Int32 → Int32 → Int32 → zX → Option (Int32 × zX)} (hr20 : ∀ {l1 : Int32} {l2 : Int32} {l3 : Int32} {l4 : Int32} {l5 : Int32} {X : zX} {p : Int32 × zX}, q20 l1 l2 l3 l4 l5 X = some p → fk X p.2) {l1 : Int32} {l2 : Int32} {l3 : Int32} {l4 : Int32} {l5 : Int32} {X : zX} {p : Int32 × zX} (hG : gb205_20 n q20 l1 l2 l3 l4 l5 X = some p) : fk X p.2 := by
  unfold gb205_20 at hG
  have hX : fk X X := fk_R
  by_cases c1 : l3 ≤ l5
  · rw [if_pos c1] at hG
    replace hG := zgd_some hG
    obtain ⟨g2, hG⟩ := hG
    replace hG := Option.some.inj hG
    subst hG
    exact hX
  · rw [if_neg c1] at hG
    by_cases c3 : l4 = 0
    · rw [if_pos c3] at hG
      replace hG := zgd_some hG
      obtain ⟨g4, hG⟩ := hG
      replace hG := Option.some.inj hG
      subst hG
      exact hX
    · rw [if_neg c3] at hG
      replace hG := zbnd hG
      obtain ⟨x6, e7, hG⟩ := hG
      replace hG := zbnd hG
      obtain ⟨x9, e10, hG⟩ := hG
      by_cases c11 : x6 = x9
      · rw [if_pos c11] at hG
        exact fk_T hX (ub205_60 hr20 hG)
      · rw [if_neg c11] at hG
        exact fk_T hX (ub205_60 hr20 hG)
theorem uf205_20 {n : Nat}   (k : Nat) : ∀ {l1 : Int32} {l2 : Int32} {l3 : Int32} {l4 : Int32} {l5 : Int32} {X : zX} {p : Int32 × zX}, gf205_20 n  k l1 l2 l3 l4 l5 X = some p → fk X p.2 := by
  induction k with
  | zero => intros; rename_i hG; cases hG
  | succ k ih => intros; rename_i hG; exact ub205_20 (n := n) (q20 := gf205_20 n  k) ih hG
set_option maxRecDepth 20000 in
theorem ub205_15 {n : Nat}   {l1 : Int32} {l2 : Int32} {l3 : Int32} {s0 : Int32} {X : zX} {p : Int32 × zX} (hG : gb205_15 n  l1 l2 l3 s0 X = some p) : fk X p.2 := by
  unfold gb205_15 at hG
  have hX : fk X X := fk_R
  exact fk_T hX (uf205_20  n hG)
set_option maxRecDepth 20000 in
theorem u205 {n : Nat} {y1 : Int32} {y2 : Int32} {y3 : Int32} {X : zX} {p : Int32 × zX} (hG : g205 n y1 y2 y3 X = some p) : fk X p.2 := by
  unfold g205 at hG
  have hX : fk X X := fk_R
  replace hG := zbnd hG
  obtain ⟨x2, e3, hG⟩ := hG
  by_cases c4 : x2 = y3
  · rw [if_pos c4] at hG
    exact fk_T hX (ub205_15  hG)
  · rw [if_neg c4] at hG
    exact fk_T hX (ub205_15  hG)
set_option maxRecDepth 20000 in
theorem ub204_3 {n : Nat} {q3 : Nat → Int32 → Int32 → Int32 → Int32 → Int32 → zX → Option (Int32 × zX)} (hr3 : ∀ {l1 : Nat} {l2 : Int32} {l3 : Int32} {l4 : Int32} {l5 : Int32} {l6 : Int32} {X : zX} {p : Int32 × zX}, q3 l1 l2 l3 l4 l5 l6 X = some p → fk X p.2) {l1 : Nat} {l2 : Int32} {l3 : Int32} {l4 : Int32} {l5 : Int32} {l6 : Int32} {X : zX} {p : Int32 × zX} (hG : gb204_3 n q3 l1 l2 l3 l4 l5 l6 X = some p) : fk X p.2 := by
  unfold gb204_3 at hG
  have hX : fk X X := fk_R
  by_cases c1 : l3 ≤ l6
  · rw [if_pos c1] at hG
    replace hG := Option.some.inj hG
    subst hG
    exact hX
  · rw [if_neg c1] at hG
    replace hG := zgd_some hG
    obtain ⟨g4, hG⟩ := hG
    replace hG := zbnd hG
    obtain ⟨x2, e3, hG⟩ := hG
    replace hG := zbnd hG
    obtain ⟨p5, e6, hG⟩ := hG
    replace hX := fk_T hX (u205 e6)
    by_cases c7 : p5.1 = 0
    · rw [if_pos c7] at hG
      exact fk_T hX (hr3 hG)
    · rw [if_neg c7] at hG
      replace hG := Option.some.inj hG
      subst hG
      exact hX
theorem uf204_3 {n : Nat}   (k : Nat) : ∀ {l1 : Nat} {l2 : Int32} {l3 : Int32} {l4 : Int32} {l5 : Int32} {l6 : Int32} {X : zX} {p : Int32 × zX}, gf204_3 n  k l1 l2 l3 l4 l5 l6 X = some p → fk X p.2 := by
  induction k with
  | zero => intros; rename_i hG; cases hG
  | succ k ih => intros; rename_i hG; exact ub204_3 (n := n) (q3 := gf204_3 n  k) ih hG
set_option maxRecDepth 20000 in
theorem u204 {n : Nat} {y1 : Nat} {y2 : Int32} {y3 : Int32} {y4 : Int32} {y5 : Int32} {X : zX} {p : Int32 × zX} (hG : g204 n y1 y2 y3 y4 y5 X = some p) : fk X p.2 := by
  unfold g204 at hG
  have hX : fk X X := fk_R
  exact fk_T hX (uf204_3  n hG)
set_option maxRecDepth 20000 in
theorem ub206_55 {n : Nat}   {l1 : Int32} {s0 : Int32} {s1 : Int32} {X : zX} {p : Int32 × zX} (hG : gb206_55 n  l1 s0 s1 X = some p) : fk X p.2 := by
  unfold gb206_55 at hG
  have hX : fk X X := fk_R
  replace hG := zgd_some hG
  obtain ⟨g3, hG⟩ := hG
  replace hG := zbnd hG
  obtain ⟨p1, e2, hG⟩ := hG
  replace hX := fk_T hX (fk_put g3 e2)
  replace hG := Option.some.inj hG
  subst hG
  exact hX
set_option maxRecDepth 20000 in
theorem u206 {n : Nat}  {X : zX} {p : Int32 × zX} (hG : g206 n  X = some p) : fk X p.2 := by
  unfold g206 at hG
  have hX : fk X X := fk_R
  replace hG := zbnd hG
  obtain ⟨x2, e3, hG⟩ := hG
  replace hG := zbnd hG
  obtain ⟨x5, e6, hG⟩ := hG
  replace hG := zgd_some hG
  obtain ⟨g9, hG⟩ := hG
  replace hG := zbnd hG
  obtain ⟨X7, e8, hG⟩ := hG
  replace hX := fk_W hX (i := 1) (by decide) e8
  by_cases c10 : (X7.1 69) = 3
  · rw [if_pos c10] at hG
    exact fk_T hX (ub206_55  hG)
  · rw [if_neg c10] at hG
    exact fk_T hX (ub206_55  hG)
set_option maxRecDepth 20000 in
theorem ub202_40 {n : Nat}   {l1 : Nat} {l2 : Int32} {l3 : Int32} {X : zX} {p : Int32 × zX} (hG : gb202_40 n  l1 l2 l3 X = some p) : fk X p.2 := by
  unfold gb202_40 at hG
  have hX : fk X X := fk_R
  by_cases c1 : (X.1 73) = (-1)
  · rw [if_pos c1] at hG
    replace hG := zbnd hG
    obtain ⟨p2, e3, hG⟩ := hG
    replace hX := fk_T hX (u206 e3)
    replace hG := zbnd hG
    obtain ⟨p4, e5, hG⟩ := hG
    replace hX := fk_T hX (u190 e5)
    replace hG := Option.some.inj hG
    subst hG
    exact hX
  · rw [if_neg c1] at hG
    replace hG := Option.some.inj hG
    subst hG
    exact hX
set_option maxRecDepth 20000 in
theorem u202 {n : Nat} {y1 : Nat} {y2 : Int32} {y3 : Int32} {X : zX} {p : Int32 × zX} (hG : g202 n y1 y2 y3 X = some p) : fk X p.2 := by
  unfold g202 at hG
  have hX : fk X X := fk_R
  replace hG := zbnd hG
  obtain ⟨p1, e2, hG⟩ := hG
  replace hX := fk_T hX (u203 e2)
  replace hG := zbnd hG
  obtain ⟨p3, e4, hG⟩ := hG
  replace hX := fk_T hX (u200 e4)
  by_cases c5 : (p3.2.1 73) = (-1)
  · rw [if_pos c5] at hG
    replace hG := zbnd hG
    obtain ⟨p6, e7, hG⟩ := hG
    replace hX := fk_T hX (u204 e7)
    by_cases c8 : p6.1 = (-1)
    · rw [if_pos c8] at hG
      exact fk_T hX (ub202_40  hG)
    · rw [if_neg c8] at hG
      replace hG := zbnd hG
      obtain ⟨p9, e10, hG⟩ := hG
      replace hX := fk_T hX (u195 e10)
      exact fk_T hX (ub202_40  hG)
  · rw [if_neg c5] at hG
    exact fk_T hX (ub202_40  hG)
set_option maxRecDepth 20000 in
theorem u209 {n : Nat} {y1 : Int32} {X : zX} {p : Int32 × zX} (hG : g209 n y1 X = some p) : fk X p.2 := by
  unfold g209 at hG
  have hX : fk X X := fk_R
  by_cases c1 : (X.1 69) = 4
  · rw [if_pos c1] at hG
    replace hG := zbnd hG
    obtain ⟨p2, e3, hG⟩ := hG
    replace hX := fk_T hX (u191 e3)
    by_cases c4 : p2.1 = y1
    · rw [if_pos c4] at hG
      replace hG := Option.some.inj hG
      subst hG
      exact hX
    · rw [if_neg c4] at hG
      replace hG := Option.some.inj hG
      subst hG
      exact hX
  · rw [if_neg c1] at hG
    replace hG := Option.some.inj hG
    subst hG
    exact hX
set_option maxRecDepth 20000 in
theorem u208 {n : Nat} {y1 : Int32} {X : zX} {p : Unit × zX} (hG : g208 n y1 X = some p) : fk X p.2 := by
  unfold g208 at hG
  have hX : fk X X := fk_R
  replace hG := zbnd hG
  obtain ⟨p1, e2, hG⟩ := hG
  replace hX := fk_T hX (u209 e2)
  replace hG := zbnd hG
  obtain ⟨p3, e4, hG⟩ := hG
  replace hX := fk_T hX (u200 e4)
  replace hG := zbnd hG
  obtain ⟨p5, e6, hG⟩ := hG
  replace hX := fk_T hX (u190 e6)
  replace hG := Option.some.inj hG
  subst hG
  exact hX
set_option maxRecDepth 20000 in
theorem u211 {n : Nat} {y1 : Int32} {X : zX} {p : Unit × zX} (hG : g211 n y1 X = some p) : fk X p.2 := by
  unfold g211 at hG
  have hX : fk X X := fk_R
  replace hG := zbnd hG
  obtain ⟨X2, e3, hG⟩ := hG
  replace hX := fk_W hX (i := 63) (by decide) e3
  replace hG := zbnd hG
  obtain ⟨X5, e6, hG⟩ := hG
  replace hX := fk_W hX (i := 64) (by decide) e6
  replace hG := zbnd hG
  obtain ⟨X8, e9, hG⟩ := hG
  replace hX := fk_W hX (i := 65) (by decide) e9
  replace hG := zbnd hG
  obtain ⟨X11, e12, hG⟩ := hG
  replace hX := fk_W hX (i := 66) (by decide) e12
  replace hG := zbnd hG
  obtain ⟨X14, e15, hG⟩ := hG
  replace hX := fk_W hX (i := 67) (by decide) e15
  replace hG := zlet_ex hG
  obtain ⟨X16, e17, hG⟩ := hG
  replace hX := fk_F hX (k := 75) (by decide) e17
  replace hG := Option.some.inj hG
  subst hG
  exact hX
set_option maxRecDepth 20000 in
theorem u213 {n : Nat} {y1 : Nat} {X : zX} {p : Int32 × zX} (hG : g213 n y1 X = some p) : fk X p.2 := by
  unfold g213 at hG
  have hX : fk X X := fk_R
  replace hG := zbnd hG
  obtain ⟨p1, e2, hG⟩ := hG
  replace hX := fk_T hX (u199 e2)
  by_cases c3 : p1.1 = 0
  · rw [if_pos c3] at hG
    replace hG := Option.some.inj hG
    subst hG
    exact hX
  · rw [if_neg c3] at hG
    replace hG := Option.some.inj hG
    subst hG
    exact hX
set_option maxRecDepth 20000 in
theorem ub214_22 {n : Nat}    {X : zX} {p : Unit × zX} (hG : gb214_22 n   X = some p) : fk X p.2 := by
  unfold gb214_22 at hG
  have hX : fk X X := fk_R
  replace hG := zlet_ex hG
  obtain ⟨X1, e2, hG⟩ := hG
  replace hX := fk_F hX (k := 76) (by decide) e2
  replace hG := Option.some.inj hG
  subst hG
  exact hX
set_option maxRecDepth 20000 in
theorem u214 {n : Nat}  {X : zX} {p : Unit × zX} (hG : g214 n  X = some p) : fk X p.2 := by
  unfold g214 at hG
  have hX : fk X X := fk_R
  by_cases c1 : (X.1 73) = (-1)
  · rw [if_pos c1] at hG
    by_cases c2 : (X.1 76) = 20
    · rw [if_pos c2] at hG
      replace hG := zbnd hG
      obtain ⟨p3, e4, hG⟩ := hG
      replace hX := fk_T hX (u195 e4)
      exact fk_T hX (ub214_22  hG)
    · rw [if_neg c2] at hG
      exact fk_T hX (ub214_22  hG)
  · rw [if_neg c1] at hG
    exact fk_T hX (ub214_22  hG)
set_option maxRecDepth 20000 in
theorem ub215_28 {n : Nat}   {l1 : Int32} {X : zX} {p : Int32 × zX} (hG : gb215_28 n  l1 X = some p) : fk X p.2 := by
  unfold gb215_28 at hG
  have hX : fk X X := fk_R
  by_cases c1 : (X.1 73) = (-1)
  · rw [if_pos c1] at hG
    replace hG := zbnd hG
    obtain ⟨x3, e4, hG⟩ := hG
    replace hG := zbnd hG
    obtain ⟨x6, e7, hG⟩ := hG
    replace hG := zgd_some hG
    obtain ⟨g10, hG⟩ := hG
    replace hG := zbnd hG
    obtain ⟨X8, e9, hG⟩ := hG
    replace hX := fk_W hX (i := 49) (by decide) e9
    replace hG := zgd_some hG
    obtain ⟨g14, hG⟩ := hG
    replace hG := zbnd hG
    obtain ⟨X12, e13, hG⟩ := hG
    replace hX := fk_W hX (i := 50) (by decide) e13
    replace hG := zgd_some hG
    obtain ⟨g18, hG⟩ := hG
    replace hG := zbnd hG
    obtain ⟨X16, e17, hG⟩ := hG
    replace hX := fk_W hX (i := 51) (by decide) e17
    replace hG := zgd_some hG
    obtain ⟨g22, hG⟩ := hG
    replace hG := zbnd hG
    obtain ⟨X20, e21, hG⟩ := hG
    replace hX := fk_W hX (i := 52) (by decide) e21
    replace hG := zgd_some hG
    obtain ⟨g26, hG⟩ := hG
    replace hG := zbnd hG
    obtain ⟨X24, e25, hG⟩ := hG
    replace hX := fk_W hX (i := 53) (by decide) e25
    replace hG := zgd_some hG
    obtain ⟨g30, hG⟩ := hG
    replace hG := zbnd hG
    obtain ⟨X28, e29, hG⟩ := hG
    replace hX := fk_W hX (i := 54) (by decide) e29
    replace hG := zgd_some hG
    obtain ⟨g34, hG⟩ := hG
    replace hG := zbnd hG
    obtain ⟨X32, e33, hG⟩ := hG
    replace hX := fk_W hX (i := 55) (by decide) e33
    replace hG := zgd_some hG
    obtain ⟨g38, hG⟩ := hG
    replace hG := zbnd hG
    obtain ⟨X36, e37, hG⟩ := hG
    replace hX := fk_W hX (i := 56) (by decide) e37
    replace hG := Option.some.inj hG
    subst hG
    exact hX
  · rw [if_neg c1] at hG
    replace hG := Option.some.inj hG
    subst hG
    exact hX
set_option maxRecDepth 20000 in
theorem u215 {n : Nat} {y1 : Int32} {X : zX} {p : Int32 × zX} (hG : g215 n y1 X = some p) : fk X p.2 := by
  unfold g215 at hG
  have hX : fk X X := fk_R
  by_cases c1 : (X.1 73) = (-1)
  · rw [if_pos c1] at hG
    replace hG := zbnd hG
    obtain ⟨x3, e4, hG⟩ := hG
    by_cases c5 : x3 = 400
    · rw [if_pos c5] at hG
      replace hG := zbnd hG
      obtain ⟨p6, e7, hG⟩ := hG
      replace hX := fk_T hX (u195 e7)
      exact fk_T hX (ub215_28  hG)
    · rw [if_neg c5] at hG
      exact fk_T hX (ub215_28  hG)
  · rw [if_neg c1] at hG
    exact fk_T hX (ub215_28  hG)
set_option maxRecDepth 20000 in
theorem ub216_56 {n : Nat}   {l1 : Nat} {l2 : Int32} {l3 : Int32} {l4 : Int32} {X : zX} {p : Int32 × zX} (hG : gb216_56 n  l1 l2 l3 l4 X = some p) : fk X p.2 := by
  unfold gb216_56 at hG
  have hX : fk X X := fk_R
  replace hG := zbnd hG
  obtain ⟨p1, e2, hG⟩ := hG
  replace hX := fk_T hX (u190 e2)
  replace hG := Option.some.inj hG
  subst hG
  exact hX
set_option maxRecDepth 20000 in
theorem ub216_35 {n : Nat}   {l1 : Nat} {l2 : Int32} {l3 : Int32} {s0 : Int32} {X : zX} {p : Int32 × zX} (hG : gb216_35 n  l1 l2 l3 s0 X = some p) : fk X p.2 := by
  unfold gb216_35 at hG
  have hX : fk X X := fk_R
  by_cases c1 : (X.1 73) = (-1)
  · rw [if_pos c1] at hG
    by_cases c2 : s0 = (-1)
    · rw [if_pos c2] at hG
      replace hG := zbnd hG
      obtain ⟨p3, e4, hG⟩ := hG
      replace hX := fk_T hX (u195 e4)
      exact fk_T hX (ub216_56  hG)
    · rw [if_neg c2] at hG
      exact fk_T hX (ub216_56  hG)
  · rw [if_neg c1] at hG
    exact fk_T hX (ub216_56  hG)
set_option maxRecDepth 20000 in
theorem u216 {n : Nat} {y1 : Nat} {y2 : Int32} {y3 : Int32} {X : zX} {p : Int32 × zX} (hG : g216 n y1 y2 y3 X = some p) : fk X p.2 := by
  unfold g216 at hG
  have hX : fk X X := fk_R
  replace hG := zbnd hG
  obtain ⟨p1, e2, hG⟩ := hG
  replace hX := fk_T hX (u203 e2)
  replace hG := zbnd hG
  obtain ⟨p3, e4, hG⟩ := hG
  replace hX := fk_T hX (u200 e4)
  by_cases c5 : (p3.2.1 73) = (-1)
  · rw [if_pos c5] at hG
    replace hG := zbnd hG
    obtain ⟨p6, e7, hG⟩ := hG
    replace hX := fk_T hX (u204 e7)
    exact fk_T hX (ub216_35  hG)
  · rw [if_neg c5] at hG
    exact fk_T hX (ub216_35  hG)
set_option maxRecDepth 20000 in
theorem ub218_84 {n : Nat}   {l1 : Int32} {X : zX} {p : Unit × zX} (hG : gb218_84 n  l1 X = some p) : fk X p.2 := by
  unfold gb218_84 at hG
  have hX : fk X X := fk_R
  replace hG := zbnd hG
  obtain ⟨p1, e2, hG⟩ := hG
  replace hX := fk_T hX (u190 e2)
  replace hG := Option.some.inj hG
  subst hG
  exact hX
set_option maxRecDepth 20000 in
theorem ub218_83 {n : Nat}   {l1 : Int32} {s0 : Int32} {s1 : Int32} {X : zX} {p : Unit × zX} (hG : gb218_83 n  l1 s0 s1 X = some p) : fk X p.2 := by
  unfold gb218_83 at hG
  have hX : fk X X := fk_R
  replace hG := zgd_some hG
  obtain ⟨g3, hG⟩ := hG
  replace hG := zbnd hG
  obtain ⟨X1, e2, hG⟩ := hG
  replace hX := fk_W hX (i := 54) (by decide) e2
  exact fk_T hX (ub218_84  hG)
set_option maxRecDepth 20000 in
theorem ub218_51 {n : Nat}   {l1 : Int32} {s0 : Int32} {s1 : Int32} {X : zX} {p : Unit × zX} (hG : gb218_51 n  l1 s0 s1 X = some p) : fk X p.2 := by
  unfold gb218_51 at hG
  have hX : fk X X := fk_R
  replace hG := zgd_some hG
  obtain ⟨g3, hG⟩ := hG
  replace hG := zbnd hG
  obtain ⟨X1, e2, hG⟩ := hG
  replace hX := fk_W hX (i := 52) (by decide) e2
  replace hG := zgd_some hG
  obtain ⟨g7, hG⟩ := hG
  replace hG := zbnd hG
  obtain ⟨X5, e6, hG⟩ := hG
  replace hX := fk_W hX (i := 53) (by decide) e6
  by_cases c9 : (X5.1 69) = 3
  · rw [if_pos c9] at hG
    replace hG := zbnd hG
    obtain ⟨p10, e11, hG⟩ := hG
    replace hX := fk_T hX (u206 e11)
    exact fk_T hX (ub218_83  hG)
  · rw [if_neg c9] at hG
    exact fk_T hX (ub218_83  hG)
set_option maxRecDepth 20000 in
theorem ub218_22 {n : Nat}   {l1 : Int32} {s0 : Int32} {X : zX} {p : Unit × zX} (hG : gb218_22 n  l1 s0 X = some p) : fk X p.2 := by
  unfold gb218_22 at hG
  have hX : fk X X := fk_R
  replace hG := zbnd hG
  obtain ⟨p1, e2, hG⟩ := hG
  replace hX := fk_T hX (u200 e2)
  by_cases c3 : (p1.2.1 73) = (-1)
  · rw [if_pos c3] at hG
    by_cases c5 : (p1.2.1 69) = 3
    · rw [if_pos c5] at hG
      exact fk_T hX (ub218_51  hG)
    · rw [if_neg c5] at hG
      exact fk_T hX (ub218_51  hG)
  · rw [if_neg c3] at hG
    exact fk_T hX (ub218_84  hG)
set_option maxRecDepth 20000 in
theorem ub218_17 {n : Nat}   {l1 : Int32} {X : zX} {p : Unit × zX} (hG : gb218_17 n  l1 X = some p) : fk X p.2 := by
  unfold gb218_17 at hG
  have hX : fk X X := fk_R
  exact fk_T hX (ub218_22  hG)
set_option maxRecDepth 20000 in
theorem u218 {n : Nat} {y1 : Int32} {X : zX} {p : Unit × zX} (hG : g218 n y1 X = some p) : fk X p.2 := by
  unfold g218 at hG
  have hX : fk X X := fk_R
  by_cases c1 : (X.1 69) = 2
  · rw [if_pos c1] at hG
    exact fk_T hX (ub218_17  hG)
  · rw [if_neg c1] at hG
    by_cases c2 : (X.1 69) = 3
    · rw [if_pos c2] at hG
      exact fk_T hX (ub218_17  hG)
    · rw [if_neg c2] at hG
      exact fk_T hX (ub218_22  hG)
set_option maxRecDepth 20000 in
theorem u220 {n : Nat} {y1 : Int32} {y2 : Int32} {y3 : Int32} {X : zX} {p : Unit × zX} (hG : g220 n y1 y2 y3 X = some p) : fk X p.2 := by
  unfold g220 at hG
  have hX : fk X X := fk_R
  by_cases c1 : y2 = (-1)
  · rw [if_pos c1] at hG
    replace hG := zgd_some hG
    obtain ⟨g5, hG⟩ := hG
    replace hG := zbnd hG
    obtain ⟨X3, e4, hG⟩ := hG
    replace hX := fk_W hX (i := 55) (by decide) e4
    replace hG := Option.some.inj hG
    subst hG
    exact hX
  · rw [if_neg c1] at hG
    replace hG := zgd_some hG
    obtain ⟨g9, hG⟩ := hG
    replace hG := zbnd hG
    obtain ⟨X7, e8, hG⟩ := hG
    replace hX := fk_W hX (i := 56) (by decide) e8
    replace hG := Option.some.inj hG
    subst hG
    exact hX
set_option maxRecDepth 20000 in
theorem ub219_109 {n : Nat}   {l1 : Int32} {l2 : Int32} {X : zX} {p : Unit × zX} (hG : gb219_109 n  l1 l2 X = some p) : fk X p.2 := by
  unfold gb219_109 at hG
  have hX : fk X X := fk_R
  replace hG := zbnd hG
  obtain ⟨p1, e2, hG⟩ := hG
  replace hX := fk_T hX (u208 e2)
  replace hG := Option.some.inj hG
  subst hG
  exact hX
set_option maxRecDepth 20000 in
theorem ub219_106 {n : Nat} {q13 : Int32 → Int32 → zX → Option (Unit × zX)} (hr13 : ∀ {l1 : Int32} {l2 : Int32} {X : zX} {p : Unit × zX}, q13 l1 l2 X = some p → fk X p.2) {l1 : Int32} {l2 : Int32} {l3 : Int32} {X : zX} {p : Unit × zX} (hG : gb219_106 n q13 l1 l2 l3 X = some p) : fk X p.2 := by
  unfold gb219_106 at hG
  have hX : fk X X := fk_R
  exact fk_T hX (hr13 hG)
set_option maxRecDepth 20000 in
theorem ub219_56 {n : Nat} {q13 : Int32 → Int32 → zX → Option (Unit × zX)} (hr13 : ∀ {l1 : Int32} {l2 : Int32} {X : zX} {p : Unit × zX}, q13 l1 l2 X = some p → fk X p.2) {l1 : Int32} {l2 : Int32} {s0 : Int32} {X : zX} {p : Unit × zX} (hG : gb219_56 n q13 l1 l2 s0 X = some p) : fk X p.2 := by
  unfold gb219_56 at hG
  have hX : fk X X := fk_R
  replace hG := zbnd hG
  obtain ⟨p1, e2, hG⟩ := hG
  replace hX := fk_T hX (u200 e2)
  replace hG := zbnd hG
  obtain ⟨p3, e4, hG⟩ := hG
  replace hX := fk_T hX (u215 e4)
  by_cases c5 : (p3.2.1 73) = (-1)
  · rw [if_pos c5] at hG
    replace hG := zbnd hG
    obtain ⟨p6, e7, hG⟩ := hG
    replace hX := fk_T hX (u218 e7)
    replace hG := zbnd hG
    obtain ⟨p8, e9, hG⟩ := hG
    replace hX := fk_T hX (u220 e9)
    exact fk_T hX (ub219_106 hr13 hG)
  · rw [if_neg c5] at hG
    exact fk_T hX (ub219_106 hr13 hG)
set_option maxRecDepth 20000 in
theorem ub219_51 {n : Nat} {q13 : Int32 → Int32 → zX → Option (Unit × zX)} (hr13 : ∀ {l1 : Int32} {l2 : Int32} {X : zX} {p : Unit × zX}, q13 l1 l2 X = some p → fk X p.2) {l1 : Int32} {l2 : Int32} {X : zX} {p : Unit × zX} (hG : gb219_51 n q13 l1 l2 X = some p) : fk X p.2 := by
  unfold gb219_51 at hG
  have hX : fk X X := fk_R
  exact fk_T hX (ub219_56 hr13 hG)
set_option maxRecDepth 20000 in
theorem ub219_13 {n : Nat} {q13 : Int32 → Int32 → zX → Option (Unit × zX)} (hr13 : ∀ {l1 : Int32} {l2 : Int32} {X : zX} {p : Unit × zX}, q13 l1 l2 X = some p → fk X p.2) {l1 : Int32} {l2 : Int32} {X : zX} {p : Unit × zX} (hG : gb219_13 n q13 l1 l2 X = some p) : fk X p.2 := by
  unfold gb219_13 at hG
  have hX : fk X X := fk_R
  by_cases c1 : (X.1 73) = (-1)
  · rw [if_pos c1] at hG
    replace hG := zbnd hG
    obtain ⟨p2, e3, hG⟩ := hG
    replace hX := fk_T hX (u209 e3)
    by_cases c4 : p2.1 = 0
    · rw [if_pos c4] at hG
      exact fk_T hX (ub219_109  hG)
    · rw [if_neg c4] at hG
      replace hG := zbnd hG
      obtain ⟨p5, e6, hG⟩ := hG
      replace hX := fk_T hX (u190 e6)
      by_cases c7 : (p5.2.1 69) = 2
      · rw [if_pos c7] at hG
        exact fk_T hX (ub219_51 hr13 hG)
      · rw [if_neg c7] at hG
        by_cases c8 : (p5.2.1 69) = 3
        · rw [if_pos c8] at hG
          exact fk_T hX (ub219_51 hr13 hG)
        · rw [if_neg c8] at hG
          exact fk_T hX (ub219_56 hr13 hG)
  · rw [if_neg c1] at hG
    exact fk_T hX (ub219_109  hG)
theorem uf219_13 {n : Nat}   (k : Nat) : ∀ {l1 : Int32} {l2 : Int32} {X : zX} {p : Unit × zX}, gf219_13 n  k l1 l2 X = some p → fk X p.2 := by
  induction k with
  | zero => intros; rename_i hG; cases hG
  | succ k ih => intros; rename_i hG; exact ub219_13 (n := n) (q13 := gf219_13 n  k) ih hG
set_option maxRecDepth 20000 in
theorem u219 {n : Nat} {y1 : Int32} {X : zX} {p : Unit × zX} (hG : g219 n y1 X = some p) : fk X p.2 := by
  unfold g219 at hG
  have hX : fk X X := fk_R
  replace hG := zbnd hG
  obtain ⟨p1, e2, hG⟩ := hG
  replace hX := fk_T hX (u208 e2)
  replace hG := zbnd hG
  obtain ⟨p3, e4, hG⟩ := hG
  replace hX := fk_T hX (u218 e4)
  exact fk_T hX (uf219_13  n hG)
set_option maxRecDepth 20000 in
theorem ub217_122 {n : Nat}   {l1 : Int32} {l2 : Int32} {s0 : Int32} {X : zX} {p : Unit × zX} (hG : gb217_122 n  l1 l2 s0 X = some p) : fk X p.2 := by
  unfold gb217_122 at hG
  have hX : fk X X := fk_R
  replace hG := zbnd hG
  obtain ⟨p1, e2, hG⟩ := hG
  replace hX := fk_T hX (u200 e2)
  replace hG := zgd_some hG
  obtain ⟨g6, hG⟩ := hG
  replace hG := zbnd hG
  obtain ⟨X4, e5, hG⟩ := hG
  replace hX := fk_W hX (i := 53) (by decide) e5
  replace hG := zbnd hG
  obtain ⟨p7, e8, hG⟩ := hG
  replace hX := fk_T hX (u190 e8)
  replace hG := Option.some.inj hG
  subst hG
  exact hX
set_option maxRecDepth 20000 in
theorem ub217_108 {n : Nat}   {l1 : Int32} {l2 : Int32} {X : zX} {p : Unit × zX} (hG : gb217_108 n  l1 l2 X = some p) : fk X p.2 := by
  unfold gb217_108 at hG
  have hX : fk X X := fk_R
  by_cases c1 : (X.1 69) = 2
  · rw [if_pos c1] at hG
    exact fk_T hX (ub217_122  hG)
  · rw [if_neg c1] at hG
    exact fk_T hX (ub217_122  hG)
set_option maxRecDepth 20000 in
theorem ub217_203 {n : Nat}   {l1 : Int32} {l2 : Int32} {s0 : Int32} {s1 : Int32} {X : zX} {p : Unit × zX} (hG : gb217_203 n  l1 l2 s0 s1 X = some p) : fk X p.2 := by
  unfold gb217_203 at hG
  have hX : fk X X := fk_R
  replace hG := zgd_some hG
  obtain ⟨g3, hG⟩ := hG
  replace hG := zbnd hG
  obtain ⟨X1, e2, hG⟩ := hG
  replace hX := fk_W hX (i := 54) (by decide) e2
  replace hG := zbnd hG
  obtain ⟨p4, e5, hG⟩ := hG
  replace hX := fk_T hX (u190 e5)
  replace hG := Option.some.inj hG
  subst hG
  exact hX
set_option maxRecDepth 20000 in
theorem ub217_172 {n : Nat}   {l1 : Int32} {l2 : Int32} {s0 : Int32} {X : zX} {p : Unit × zX} (hG : gb217_172 n  l1 l2 s0 X = some p) : fk X p.2 := by
  unfold gb217_172 at hG
  have hX : fk X X := fk_R
  replace hG := zbnd hG
  obtain ⟨p1, e2, hG⟩ := hG
  replace hX := fk_T hX (u200 e2)
  replace hG := zgd_some hG
  obtain ⟨g6, hG⟩ := hG
  replace hG := zbnd hG
  obtain ⟨X4, e5, hG⟩ := hG
  replace hX := fk_W hX (i := 52) (by decide) e5
  by_cases c8 : (X4.1 73) = (-1)
  · rw [if_pos c8] at hG
    replace hG := zbnd hG
    obtain ⟨p9, e10, hG⟩ := hG
    replace hX := fk_T hX (u206 e10)
    exact fk_T hX (ub217_203  hG)
  · rw [if_neg c8] at hG
    exact fk_T hX (ub217_203  hG)
set_option maxRecDepth 20000 in
theorem ub217_45 {n : Nat}   {l1 : Int32} {l2 : Int32} {s0 : Int32} {X : zX} {p : Unit × zX} (hG : gb217_45 n  l1 l2 s0 X = some p) : fk X p.2 := by
  unfold gb217_45 at hG
  have hX : fk X X := fk_R
  replace hG := zbnd hG
  obtain ⟨p1, e2, hG⟩ := hG
  replace hX := fk_T hX (u200 e2)
  by_cases c3 : (p1.2.1 73) = (-1)
  · rw [if_pos c3] at hG
    replace hG := zgd_some hG
    obtain ⟨g7, hG⟩ := hG
    replace hG := zbnd hG
    obtain ⟨X5, e6, hG⟩ := hG
    replace hX := fk_W hX (i := 50) (by decide) e6
    replace hG := zbnd hG
    obtain ⟨p8, e9, hG⟩ := hG
    replace hX := fk_T hX (u190 e9)
    replace hG := zbnd hG
    obtain ⟨x11, e12, hG⟩ := hG
    by_cases c13 : x11 = 3
    · rw [if_pos c13] at hG
      replace hG := zbnd hG
      obtain ⟨p14, e15, hG⟩ := hG
      replace hX := fk_T hX (u218 e15)
      replace hG := Option.some.inj hG
      subst hG
      exact hX
    · rw [if_neg c13] at hG
      replace hG := zbnd hG
      obtain ⟨x17, e18, hG⟩ := hG
      by_cases c19 : x17 = 4
      · rw [if_pos c19] at hG
        exact fk_T hX (ub217_108  hG)
      · rw [if_neg c19] at hG
        replace hG := zbnd hG
        obtain ⟨x21, e22, hG⟩ := hG
        by_cases c23 : x21 = 5
        · rw [if_pos c23] at hG
          exact fk_T hX (ub217_108  hG)
        · rw [if_neg c23] at hG
          replace hG := zbnd hG
          obtain ⟨x25, e26, hG⟩ := hG
          replace hG := zbnd hG
          obtain ⟨p27, e28, hG⟩ := hG
          replace hX := fk_T hX (u187 e28)
          by_cases c29 : p27.1 = 0
          · rw [if_pos c29] at hG
            replace hG := zbnd hG
            obtain ⟨x31, e32, hG⟩ := hG
            by_cases c33 : x31 = 9
            · rw [if_pos c33] at hG
              replace hG := zbnd hG
              obtain ⟨p34, e35, hG⟩ := hG
              replace hX := fk_T hX (u219 e35)
              replace hG := Option.some.inj hG
              subst hG
              exact hX
            · rw [if_neg c33] at hG
              replace hG := Option.some.inj hG
              subst hG
              exact hX
          · rw [if_neg c29] at hG
            by_cases c36 : (p27.2.1 69) = 3
            · rw [if_pos c36] at hG
              exact fk_T hX (ub217_172  hG)
            · rw [if_neg c36] at hG
              exact fk_T hX (ub217_172  hG)
  · rw [if_neg c3] at hG
    replace hG := Option.some.inj hG
    subst hG
    exact hX
set_option maxRecDepth 20000 in
theorem ub217_33 {n : Nat}   {l1 : Int32} {s0 : Int32} {X : zX} {p : Unit × zX} (hG : gb217_33 n  l1 s0 X = some p) : fk X p.2 := by
  unfold gb217_33 at hG
  have hX : fk X X := fk_R
  by_cases c1 : s0 = (-1)
  · rw [if_pos c1] at hG
    exact fk_T hX (ub217_45  hG)
  · rw [if_neg c1] at hG
    exact fk_T hX (ub217_45  hG)
set_option maxRecDepth 20000 in
theorem u217 {n : Nat} {y1 : Int32} {X : zX} {p : Unit × zX} (hG : g217 n y1 X = some p) : fk X p.2 := by
  unfold g217 at hG
  have hX : fk X X := fk_R
  replace hG := zbnd hG
  obtain ⟨p2, e3, hG⟩ := hG
  replace hX := fk_T hX (u206 e3)
  replace hG := zgd_some hG
  obtain ⟨g6, hG⟩ := hG
  replace hG := zbnd hG
  obtain ⟨X4, e5, hG⟩ := hG
  replace hX := fk_W hX (i := 51) (by decide) e5
  replace hG := zbnd hG
  obtain ⟨p7, e8, hG⟩ := hG
  replace hX := fk_T hX (u190 e8)
  by_cases c9 : (p7.2.1 73) = (-1)
  · rw [if_pos c9] at hG
    replace hG := zbnd hG
    obtain ⟨p10, e11, hG⟩ := hG
    replace hX := fk_T hX (u199 e11)
    exact fk_T hX (ub217_33  hG)
  · rw [if_neg c9] at hG
    exact fk_T hX (ub217_33  hG)
set_option maxRecDepth 20000 in
theorem u221 {n : Nat} {y1 : Int32} {X : zX} {p : Unit × zX} (hG : g221 n y1 X = some p) : fk X p.2 := by
  unfold g221 at hG
  have hX : fk X X := fk_R
  replace hG := zbnd hG
  obtain ⟨x3, e4, hG⟩ := hG
  replace hG := zgd_some hG
  obtain ⟨g7, hG⟩ := hG
  replace hG := zbnd hG
  obtain ⟨X5, e6, hG⟩ := hG
  replace hX := fk_W hX (i := 57) (by decide) e6
  replace hG := zbnd hG
  obtain ⟨x9, e10, hG⟩ := hG
  replace hG := zgd_some hG
  obtain ⟨g13, hG⟩ := hG
  replace hG := zbnd hG
  obtain ⟨X11, e12, hG⟩ := hG
  replace hX := fk_W hX (i := 58) (by decide) e12
  replace hG := Option.some.inj hG
  subst hG
  exact hX
set_option maxRecDepth 20000 in
theorem ub222_100 {n : Nat}   {l1 : Int32} {l2 : Int32} {l3 : Int32} {X : zX} {p : Unit × zX} (hG : gb222_100 n  l1 l2 l3 X = some p) : fk X p.2 := by
  unfold gb222_100 at hG
  have hX : fk X X := fk_R
  replace hG := zbnd hG
  obtain ⟨X2, e3, hG⟩ := hG
  replace hX := fk_W hX (i := 67) (by decide) e3
  replace hG := Option.some.inj hG
  subst hG
  exact hX
set_option maxRecDepth 20000 in
theorem ub222_2 {n : Nat} {q2 : Int32 → Int32 → zX → Option (Unit × zX)} (hr2 : ∀ {l1 : Int32} {l2 : Int32} {X : zX} {p : Unit × zX}, q2 l1 l2 X = some p → fk X p.2) {l1 : Int32} {l2 : Int32} {X : zX} {p : Unit × zX} (hG : gb222_2 n q2 l1 l2 X = some p) : fk X p.2 := by
  unfold gb222_2 at hG
  have hX : fk X X := fk_R
  replace hG := zbnd hG
  obtain ⟨x2, e3, hG⟩ := hG
  by_cases c4 : x2 = (-1)
  · rw [if_pos c4] at hG
    replace hG := zbnd hG
    obtain ⟨x6, e7, hG⟩ := hG
    by_cases c8 : x6 = (-1)
    · rw [if_pos c8] at hG
      exact fk_T hX (ub222_100  hG)
    · rw [if_neg c8] at hG
      replace hG := zbnd hG
      obtain ⟨x10, e11, hG⟩ := hG
      replace hG := zbnd hG
      obtain ⟨x13, e14, hG⟩ := hG
      replace hG := zbnd hG
      obtain ⟨p15, e16, hG⟩ := hG
      replace hX := fk_T hX (u220 e16)
      exact fk_T hX (ub222_100  hG)
  · rw [if_neg c4] at hG
    replace hG := zbnd hG
    obtain ⟨x18, e19, hG⟩ := hG
    replace hG := zbnd hG
    obtain ⟨p20, e21, hG⟩ := hG
    replace hX := fk_T hX (u220 e21)
    replace hG := zbnd hG
    obtain ⟨p22, e23, hG⟩ := hG
    replace hX := fk_T hX (u221 e23)
    replace hG := zlet_ex hG
    obtain ⟨X24, e25, hG⟩ := hG
    replace hX := fk_F hX (k := 75) (by decide) e25
    replace hG := zlet_ex hG
    obtain ⟨X26, e27, hG⟩ := hG
    replace hX := fk_F hX (k := 76) (by decide) e27
    exact fk_T hX (hr2 hG)
theorem uf222_2 {n : Nat}   (k : Nat) : ∀ {l1 : Int32} {l2 : Int32} {X : zX} {p : Unit × zX}, gf222_2 n  k l1 l2 X = some p → fk X p.2 := by
  induction k with
  | zero => intros; rename_i hG; cases hG
  | succ k ih => intros; rename_i hG; exact ub222_2 (n := n) (q2 := gf222_2 n  k) ih hG
set_option maxRecDepth 20000 in
theorem u222 {n : Nat} {y1 : Int32} {X : zX} {p : Unit × zX} (hG : g222 n y1 X = some p) : fk X p.2 := by
  unfold g222 at hG
  have hX : fk X X := fk_R
  exact fk_T hX (uf222_2  n hG)
set_option maxRecDepth 20000 in
theorem ub212_206 {n : Nat}   {l1 : Int32} {l2 : Int32} {X : zX} {p : Int32 × zX} (hG : gb212_206 n  l1 l2 X = some p) : fk X p.2 := by
  unfold gb212_206 at hG
  have hX : fk X X := fk_R
  by_cases c1 : (X.1 73) = (-1)
  · rw [if_pos c1] at hG
    replace hG := zbnd hG
    obtain ⟨p2, e3, hG⟩ := hG
    replace hX := fk_T hX (u221 e3)
    replace hG := zbnd hG
    obtain ⟨p4, e5, hG⟩ := hG
    replace hX := fk_T hX (u222 e5)
    replace hG := Option.some.inj hG
    subst hG
    exact hX
  · rw [if_neg c1] at hG
    replace hG := Option.some.inj hG
    subst hG
    exact hX
set_option maxRecDepth 20000 in
theorem ub212_164 {n : Nat}   {l1 : Int32} {l2 : Int32} {l3 : Int32} {s0 : Int32} {s1 : Int32} {X : zX} {p : Int32 × zX} (hG : gb212_164 n  l1 l2 l3 s0 s1 X = some p) : fk X p.2 := by
  unfold gb212_164 at hG
  have hX : fk X X := fk_R
  replace hG := zgd_some hG
  obtain ⟨g3, hG⟩ := hG
  replace hG := zbnd hG
  obtain ⟨X1, e2, hG⟩ := hG
  replace hX := fk_W hX (i := 51) (by decide) e2
  exact fk_T hX (ub212_206  hG)
set_option maxRecDepth 20000 in
theorem ub212_138 {n : Nat}   {l1 : Int32} {l2 : Int32} {s0 : Int32} {X : zX} {p : Int32 × zX} (hG : gb212_138 n  l1 l2 s0 X = some p) : fk X p.2 := by
  unfold gb212_138 at hG
  have hX : fk X X := fk_R
  by_cases c2 : (X.1 73) = (-1)
  · rw [if_pos c2] at hG
    exact fk_T hX (ub212_164  hG)
  · rw [if_neg c2] at hG
    exact fk_T hX (ub212_164  hG)
set_option maxRecDepth 20000 in
theorem ub212_66 {n : Nat}    {X : zX} {p : Int32 × zX} (hG : gb212_66 n   X = some p) : fk X p.2 := by
  unfold gb212_66 at hG
  have hX : fk X X := fk_R
  replace hG := zbnd hG
  obtain ⟨p1, e2, hG⟩ := hG
  replace hX := fk_T hX (u190 e2)
  replace hG := Option.some.inj hG
  subst hG
  exact hX
set_option maxRecDepth 20000 in
theorem ub212_34 {n : Nat}   {l1 : Int32} {X : zX} {p : Int32 × zX} (hG : gb212_34 n  l1 X = some p) : fk X p.2 := by
  unfold gb212_34 at hG
  have hX : fk X X := fk_R
  replace hG := zbnd hG
  obtain ⟨p1, e2, hG⟩ := hG
  replace hX := fk_T hX (u190 e2)
  replace hG := Option.some.inj hG
  subst hG
  exact hX
set_option maxRecDepth 20000 in
theorem u212 {n : Nat}  {X : zX} {p : Int32 × zX} (hG : g212 n  X = some p) : fk X p.2 := by
  unfold g212 at hG
  have hX : fk X X := fk_R
  replace hG := zbnd hG
  obtain ⟨p1, e2, hG⟩ := hG
  replace hX := fk_T hX (u213 e2)
  by_cases c3 : p1.1 = 0
  · rw [if_pos c3] at hG
    replace hG := zbnd hG
    obtain ⟨p4, e5, hG⟩ := hG
    replace hX := fk_T hX (u209 e5)
    by_cases c6 : p4.1 = 0
    · rw [if_pos c6] at hG
      replace hG := zbnd hG
      obtain ⟨p7, e8, hG⟩ := hG
      replace hX := fk_T hX (u199 e8)
      by_cases c9 : p7.1 = (-1)
      · rw [if_pos c9] at hG
        replace hG := zbnd hG
        obtain ⟨p10, e11, hG⟩ := hG
        replace hX := fk_T hX (u203 e11)
        replace hG := zbnd hG
        obtain ⟨p12, e13, hG⟩ := hG
        replace hX := fk_T hX (u200 e13)
        replace hG := zbnd hG
        obtain ⟨p14, e15, hG⟩ := hG
        replace hX := fk_T hX (u215 e15)
        by_cases c16 : (p14.2.1 73) = (-1)
        · rw [if_pos c16] at hG
          replace hG := zbnd hG
          obtain ⟨p17, e18, hG⟩ := hG
          replace hX := fk_T hX (u217 e18)
          exact fk_T hX (ub212_206  hG)
        · rw [if_neg c16] at hG
          exact fk_T hX (ub212_206  hG)
      · rw [if_neg c9] at hG
        replace hG := zbnd hG
        obtain ⟨p19, e20, hG⟩ := hG
        replace hX := fk_T hX (u215 e20)
        replace hG := zbnd hG
        obtain ⟨p21, e22, hG⟩ := hG
        replace hX := fk_T hX (u190 e22)
        by_cases c23 : p7.1 = 2
        · rw [if_pos c23] at hG
          by_cases c24 : (p21.2.1 73) = (-1)
          · rw [if_pos c24] at hG
            replace hG := zbnd hG
            obtain ⟨x27, e28, hG⟩ := hG
            replace hG := zbnd hG
            obtain ⟨p29, e30, hG⟩ := hG
            replace hX := fk_T hX (u216 e30)
            exact fk_T hX (ub212_138  hG)
          · rw [if_neg c24] at hG
            exact fk_T hX (ub212_138  hG)
        · rw [if_neg c23] at hG
          exact fk_T hX (ub212_206  hG)
    · rw [if_neg c6] at hG
      replace hG := zbnd hG
      obtain ⟨p31, e32, hG⟩ := hG
      replace hX := fk_T hX (u214 e32)
      by_cases c33 : (p31.2.1 73) = (-1)
      · rw [if_pos c33] at hG
        replace hG := zbnd hG
        obtain ⟨p34, e35, hG⟩ := hG
        replace hX := fk_T hX (u211 e35)
        exact fk_T hX (ub212_66  hG)
      · rw [if_neg c33] at hG
        exact fk_T hX (ub212_66  hG)
  · rw [if_neg c3] at hG
    replace hG := zbnd hG
    obtain ⟨p36, e37, hG⟩ := hG
    replace hX := fk_T hX (u214 e37)
    replace hG := zbnd hG
    obtain ⟨p38, e39, hG⟩ := hG
    replace hX := fk_T hX (u215 e39)
    by_cases c40 : (p38.2.1 73) = (-1)
    · rw [if_pos c40] at hG
      replace hG := zbnd hG
      obtain ⟨p41, e42, hG⟩ := hG
      replace hX := fk_T hX (u211 e42)
      exact fk_T hX (ub212_34  hG)
    · rw [if_neg c40] at hG
      exact fk_T hX (ub212_34  hG)
set_option maxRecDepth 20000 in
theorem ub224_36 {n : Nat}   {l1 : Int32} {l2 : Int32} {X : zX} {p : Int32 × zX} (hG : gb224_36 n  l1 l2 X = some p) : fk X p.2 := by
  unfold gb224_36 at hG
  have hX : fk X X := fk_R
  replace hG := zbnd hG
  obtain ⟨X2, e3, hG⟩ := hG
  replace hX := fk_W hX (i := 66) (by decide) e3
  replace hG := zbnd hG
  obtain ⟨X5, e6, hG⟩ := hG
  replace hX := fk_W hX (i := 67) (by decide) e6
  replace hG := Option.some.inj hG
  subst hG
  exact hX
set_option maxRecDepth 20000 in
theorem u224 {n : Nat}  {X : zX} {p : Int32 × zX} (hG : g224 n  X = some p) : fk X p.2 := by
  unfold g224 at hG
  have hX : fk X X := fk_R
  replace hG := zbnd hG
  obtain ⟨x2, e3, hG⟩ := hG
  replace hG := zbnd hG
  obtain ⟨x5, e6, hG⟩ := hG
  by_cases c7 : x5 = (-1)
  · rw [if_pos c7] at hG
    exact fk_T hX (ub224_36  hG)
  · rw [if_neg c7] at hG
    replace hG := zbnd hG
    obtain ⟨x9, e10, hG⟩ := hG
    replace hG := zbnd hG
    obtain ⟨p11, e12, hG⟩ := hG
    replace hX := fk_T hX (u221 e12)
    exact fk_T hX (ub224_36  hG)
set_option maxRecDepth 20000 in
theorem ub223_19 {n : Nat}   {l1 : Int32} {l2 : Int32} {s0 : Int32} {X : zX} {p : Unit × zX} (hG : gb223_19 n  l1 l2 s0 X = some p) : fk X p.2 := by
  unfold gb223_19 at hG
  have hX : fk X X := fk_R
  replace hG := zbnd hG
  obtain ⟨p1, e2, hG⟩ := hG
  replace hX := fk_T hX (u215 e2)
  by_cases c3 : (p1.2.1 73) = (-1)
  · rw [if_pos c3] at hG
    by_cases c4 : l1 = 0
    · rw [if_pos c4] at hG
      replace hG := zbnd hG
      obtain ⟨x6, e7, hG⟩ := hG
      replace hG := zbnd hG
      obtain ⟨p8, e9, hG⟩ := hG
      replace hX := fk_T hX (u220 e9)
      replace hG := zbnd hG
      obtain ⟨X11, e12, hG⟩ := hG
      replace hX := fk_W hX (i := 66) (by decide) e12
      replace hG := Option.some.inj hG
      subst hG
      exact hX
    · rw [if_neg c4] at hG
      replace hG := zbnd hG
      obtain ⟨p13, e14, hG⟩ := hG
      replace hX := fk_T hX (u224 e14)
      replace hG := zbnd hG
      obtain ⟨p15, e16, hG⟩ := hG
      replace hX := fk_T hX (u220 e16)
      replace hG := zbnd hG
      obtain ⟨X18, e19, hG⟩ := hG
      replace hX := fk_W hX (i := 64) (by decide) e19
      replace hG := zbnd hG
      obtain ⟨X21, e22, hG⟩ := hG
      replace hX := fk_W hX (i := 65) (by decide) e22
      replace hG := Option.some.inj hG
      subst hG
      exact hX
  · rw [if_neg c3] at hG
    replace hG := Option.some.inj hG
    subst hG
    exact hX
set_option maxRecDepth 20000 in
theorem u223 {n : Nat} {y1 : Int32} {X : zX} {p : Unit × zX} (hG : g223 n y1 X = some p) : fk X p.2 := by
  unfold g223 at hG
  have hX : fk X X := fk_R
  by_cases c1 : y1 = 0
  · rw [if_pos c1] at hG
    exact fk_T hX (ub223_19  hG)
  · rw [if_neg c1] at hG
    exact fk_T hX (ub223_19  hG)
set_option maxRecDepth 20000 in
theorem u225 {n : Nat}  {X : zX} {p : Int32 × zX} (hG : g225 n  X = some p) : fk X p.2 := by
  unfold g225 at hG
  have hX : fk X X := fk_R
  replace hG := zbnd hG
  obtain ⟨p1, e2, hG⟩ := hG
  replace hX := fk_T hX (u224 e2)
  replace hG := zbnd hG
  obtain ⟨x4, e5, hG⟩ := hG
  by_cases c6 : x4 = (-1)
  · rw [if_pos c6] at hG
    replace hG := Option.some.inj hG
    subst hG
    exact hX
  · rw [if_neg c6] at hG
    replace hG := zbnd hG
    obtain ⟨x8, e9, hG⟩ := hG
    replace hG := zbnd hG
    obtain ⟨x11, e12, hG⟩ := hG
    replace hG := zbnd hG
    obtain ⟨p13, e14, hG⟩ := hG
    replace hX := fk_T hX (u220 e14)
    replace hG := zbnd hG
    obtain ⟨x16, e17, hG⟩ := hG
    replace hG := zbnd hG
    obtain ⟨p18, e19, hG⟩ := hG
    replace hX := fk_T hX (u221 e19)
    replace hG := Option.some.inj hG
    subst hG
    exact hX
set_option maxRecDepth 20000 in
theorem ub210_212 {n : Nat} {q17 : Int32 → zX → Option (Int32 × zX)} (hr17 : ∀ {l1 : Int32} {X : zX} {p : Int32 × zX}, q17 l1 X = some p → fk X p.2) {l1 : Int32} {l2 : Int32} {X : zX} {p : Int32 × zX} (hG : gb210_212 n q17 l1 l2 X = some p) : fk X p.2 := by
  unfold gb210_212 at hG
  have hX : fk X X := fk_R
  exact fk_T hX (hr17 hG)
set_option maxRecDepth 20000 in
theorem ub210_135 {n : Nat} {q17 : Int32 → zX → Option (Int32 × zX)} (hr17 : ∀ {l1 : Int32} {X : zX} {p : Int32 × zX}, q17 l1 X = some p → fk X p.2) {l1 : Int32} {l2 : Int32} {X : zX} {p : Int32 × zX} (hG : gb210_135 n q17 l1 l2 X = some p) : fk X p.2 := by
  unfold gb210_135 at hG
  have hX : fk X X := fk_R
  replace hG := zbnd hG
  obtain ⟨p1, e2, hG⟩ := hG
  replace hX := fk_T hX (u190 e2)
  exact fk_T hX (ub210_212 hr17 hG)
set_option maxRecDepth 20000 in
theorem ub210_69 {n : Nat} {q17 : Int32 → zX → Option (Int32 × zX)} (hr17 : ∀ {l1 : Int32} {X : zX} {p : Int32 × zX}, q17 l1 X = some p → fk X p.2) {l1 : Int32} {l2 : Int32} {X : zX} {p : Int32 × zX} (hG : gb210_69 n q17 l1 l2 X = some p) : fk X p.2 := by
  unfold gb210_69 at hG
  have hX : fk X X := fk_R
  replace hG := zbnd hG
  obtain ⟨p1, e2, hG⟩ := hG
  replace hX := fk_T hX (u190 e2)
  exact fk_T hX (ub210_212 hr17 hG)
set_option maxRecDepth 20000 in
theorem ub210_17 {n : Nat} {q17 : Int32 → zX → Option (Int32 × zX)} (hr17 : ∀ {l1 : Int32} {X : zX} {p : Int32 × zX}, q17 l1 X = some p → fk X p.2) {l1 : Int32} {X : zX} {p : Int32 × zX} (hG : gb210_17 n q17 l1 X = some p) : fk X p.2 := by
  unfold gb210_17 at hG
  have hX : fk X X := fk_R
  by_cases c1 : (X.1 73) = (-1)
  · rw [if_pos c1] at hG
    by_cases c2 : l1 = 0
    · rw [if_pos c2] at hG
      replace hG := zbnd hG
      obtain ⟨p3, e4, hG⟩ := hG
      replace hX := fk_T hX (u213 e4)
      by_cases c5 : p3.1 = 0
      · rw [if_pos c5] at hG
        replace hG := zbnd hG
        obtain ⟨p6, e7, hG⟩ := hG
        replace hX := fk_T hX (u213 e7)
        by_cases c8 : p6.1 = 0
        · rw [if_pos c8] at hG
          by_cases c9 : (p6.2.1 75) ≤ 1
          · rw [if_pos c9] at hG
            replace hG := zbnd hG
            obtain ⟨p10, e11, hG⟩ := hG
            replace hX := fk_T hX (u225 e11)
            replace hG := Option.some.inj hG
            subst hG
            exact hX
          · rw [if_neg c9] at hG
            replace hG := zbnd hG
            obtain ⟨p12, e13, hG⟩ := hG
            replace hX := fk_T hX (u209 e13)
            replace hG := zbnd hG
            obtain ⟨p14, e15, hG⟩ := hG
            replace hX := fk_T hX (u200 e15)
            by_cases c16 : (p14.2.1 73) = (-1)
            · rw [if_pos c16] at hG
              replace hG := zbnd hG
              obtain ⟨p17, e18, hG⟩ := hG
              replace hX := fk_T hX (u225 e18)
              replace hG := zlet_ex hG
              obtain ⟨X19, e20, hG⟩ := hG
              replace hX := fk_F hX (k := 75) (by decide) e20
              replace hG := zlet_ex hG
              obtain ⟨X21, e22, hG⟩ := hG
              replace hX := fk_F hX (k := 76) (by decide) e22
              replace hG := zbnd hG
              obtain ⟨p23, e24, hG⟩ := hG
              replace hX := fk_T hX (u222 e24)
              replace hG := zbnd hG
              obtain ⟨p25, e26, hG⟩ := hG
              replace hX := fk_T hX (u190 e26)
              exact fk_T hX (ub210_212 hr17 hG)
            · rw [if_neg c16] at hG
              exact fk_T hX (ub210_212 hr17 hG)
        · rw [if_neg c8] at hG
          replace hG := zbnd hG
          obtain ⟨x28, e29, hG⟩ := hG
          by_cases c30 : x28 = (-1)
          · rw [if_pos c30] at hG
            replace hG := zbnd hG
            obtain ⟨p31, e32, hG⟩ := hG
            replace hX := fk_T hX (u223 e32)
            exact fk_T hX (ub210_135 hr17 hG)
          · rw [if_neg c30] at hG
            replace hG := zbnd hG
            obtain ⟨p33, e34, hG⟩ := hG
            replace hX := fk_T hX (u224 e34)
            replace hG := zbnd hG
            obtain ⟨x36, e37, hG⟩ := hG
            replace hG := zbnd hG
            obtain ⟨x39, e40, hG⟩ := hG
            replace hG := zbnd hG
            obtain ⟨p41, e42, hG⟩ := hG
            replace hX := fk_T hX (u220 e42)
            replace hG := zbnd hG
            obtain ⟨X44, e45, hG⟩ := hG
            replace hX := fk_W hX (i := 65) (by decide) e45
            exact fk_T hX (ub210_135 hr17 hG)
      · rw [if_neg c5] at hG
        replace hG := zbnd hG
        obtain ⟨x47, e48, hG⟩ := hG
        by_cases c49 : x47 = (-1)
        · rw [if_pos c49] at hG
          replace hG := zbnd hG
          obtain ⟨p50, e51, hG⟩ := hG
          replace hX := fk_T hX (u223 e51)
          exact fk_T hX (ub210_69 hr17 hG)
        · rw [if_neg c49] at hG
          exact fk_T hX (ub210_69 hr17 hG)
    · rw [if_neg c2] at hG
      replace hG := zbnd hG
      obtain ⟨p52, e53, hG⟩ := hG
      replace hX := fk_T hX (u212 e53)
      exact fk_T hX (ub210_212 hr17 hG)
  · rw [if_neg c1] at hG
    replace hG := Option.some.inj hG
    subst hG
    exact hX
theorem uf210_17 {n : Nat}   (k : Nat) : ∀ {l1 : Int32} {X : zX} {p : Int32 × zX}, gf210_17 n  k l1 X = some p → fk X p.2 := by
  induction k with
  | zero => intros; rename_i hG; cases hG
  | succ k ih => intros; rename_i hG; exact ub210_17 (n := n) (q17 := gf210_17 n  k) ih hG
set_option maxRecDepth 20000 in
theorem u210 {n : Nat}  {X : zX} {p : Int32 × zX} (hG : g210 n  X = some p) : fk X p.2 := by
  unfold g210 at hG
  have hX : fk X X := fk_R
  replace hG := zlet_ex hG
  obtain ⟨X1, e2, hG⟩ := hG
  replace hX := fk_F hX (k := 75) (by decide) e2
  replace hG := zlet_ex hG
  obtain ⟨X3, e4, hG⟩ := hG
  replace hX := fk_F hX (k := 76) (by decide) e4
  replace hG := zbnd hG
  obtain ⟨p5, e6, hG⟩ := hG
  replace hX := fk_T hX (u211 e6)
  exact fk_T hX (uf210_17  n hG)
set_option maxRecDepth 20000 in
theorem ub201_149 {n : Nat}   {l1 : Int32} {l2 : Int32} {l3 : Int32} {X : zX} {p : Unit × zX} (hG : gb201_149 n  l1 l2 l3 X = some p) : fk X p.2 := by
  unfold gb201_149 at hG
  have hX : fk X X := fk_R
  replace hG := zbnd hG
  obtain ⟨p1, e2, hG⟩ := hG
  replace hX := fk_T hX (u208 e2)
  replace hG := Option.some.inj hG
  subst hG
  exact hX
set_option maxRecDepth 20000 in
theorem ub201_19 {n : Nat}    {X : zX} {p : Unit × zX} (hG : gb201_19 n   X = some p) : fk X p.2 := by
  unfold gb201_19 at hG
  have hX : fk X X := fk_R
  replace hG := zbnd hG
  obtain ⟨p1, e2, hG⟩ := hG
  replace hX := fk_T hX (u190 e2)
  replace hG := zbnd hG
  obtain ⟨x5, e6, hG⟩ := hG
  replace hG := zbnd hG
  obtain ⟨p7, e8, hG⟩ := hG
  replace hX := fk_T hX (u202 e8)
  replace hG := zbnd hG
  obtain ⟨p9, e10, hG⟩ := hG
  replace hX := fk_T hX (u208 e10)
  replace hG := zbnd hG
  obtain ⟨x12, e13, hG⟩ := hG
  replace hG := zbnd hG
  obtain ⟨p14, e15, hG⟩ := hG
  replace hX := fk_T hX (u210 e15)
  by_cases c16 : (p14.2.1 73) = (-1)
  · rw [if_pos c16] at hG
    replace hG := zbnd hG
    obtain ⟨x18, e19, hG⟩ := hG
    replace hG := zgd_some hG
    obtain ⟨g23, hG⟩ := hG
    replace hG := zbnd hG
    obtain ⟨X21, e22, hG⟩ := hG
    replace hX := fk_W hX (i := 5) (by decide) e22
    replace hG := zgd_some hG
    obtain ⟨g27, hG⟩ := hG
    replace hG := zbnd hG
    obtain ⟨X25, e26, hG⟩ := hG
    replace hX := fk_W hX (i := 6) (by decide) e26
    replace hG := zgd_some hG
    obtain ⟨g31, hG⟩ := hG
    replace hG := zbnd hG
    obtain ⟨X29, e30, hG⟩ := hG
    replace hX := fk_W hX (i := 7) (by decide) e30
    replace hG := zbnd hG
    obtain ⟨x34, e35, hG⟩ := hG
    replace hG := zgd_some hG
    obtain ⟨g38, hG⟩ := hG
    replace hG := zbnd hG
    obtain ⟨X36, e37, hG⟩ := hG
    replace hX := fk_W hX (i := 8) (by decide) e37
    replace hG := zbnd hG
    obtain ⟨x40, e41, hG⟩ := hG
    replace hG := zgd_some hG
    obtain ⟨g44, hG⟩ := hG
    replace hG := zbnd hG
    obtain ⟨X42, e43, hG⟩ := hG
    replace hX := fk_W hX (i := 4) (by decide) e43
    exact fk_T hX (ub201_149  hG)
  · rw [if_neg c16] at hG
    exact fk_T hX (ub201_149  hG)
set_option maxRecDepth 20000 in
theorem u201 {n : Nat}  {X : zX} {p : Unit × zX} (hG : g201 n  X = some p) : fk X p.2 := by
  unfold g201 at hG
  have hX : fk X X := fk_R
  replace hG := zbnd hG
  obtain ⟨x2, e3, hG⟩ := hG
  by_cases c4 : x2 = 12
  · rw [if_pos c4] at hG
    replace hG := zbnd hG
    obtain ⟨p5, e6, hG⟩ := hG
    replace hX := fk_T hX (u195 e6)
    exact fk_T hX (ub201_19  hG)
  · rw [if_neg c4] at hG
    exact fk_T hX (ub201_19  hG)
set_option maxRecDepth 20000 in
theorem ub227_171 {n : Nat}   {l1 : Int32} {l2 : Int32} {X : zX} {p : Unit × zX} (hG : gb227_171 n  l1 l2 X = some p) : fk X p.2 := by
  unfold gb227_171 at hG
  have hX : fk X X := fk_R
  replace hG := zbnd hG
  obtain ⟨p1, e2, hG⟩ := hG
  replace hX := fk_T hX (u208 e2)
  replace hG := Option.some.inj hG
  subst hG
  exact hX
set_option maxRecDepth 20000 in
theorem ub227_159 {n : Nat} {q8 : Int32 → Int32 → zX → Option (Unit × zX)} (hr8 : ∀ {l1 : Int32} {l2 : Int32} {X : zX} {p : Unit × zX}, q8 l1 l2 X = some p → fk X p.2) {l1 : Int32} {l2 : Int32} {s0 : Int32} {X : zX} {p : Unit × zX} (hG : gb227_159 n q8 l1 l2 s0 X = some p) : fk X p.2 := by
  unfold gb227_159 at hG
  have hX : fk X X := fk_R
  by_cases c1 : s0 = 0
  · rw [if_pos c1] at hG
    exact fk_T hX (hr8 hG)
  · rw [if_neg c1] at hG
    replace hG := zbnd hG
    obtain ⟨p2, e3, hG⟩ := hG
    replace hX := fk_T hX (u190 e3)
    exact fk_T hX (hr8 hG)
set_option maxRecDepth 20000 in
theorem ub227_158 {n : Nat} {q8 : Int32 → Int32 → zX → Option (Unit × zX)} (hr8 : ∀ {l1 : Int32} {l2 : Int32} {X : zX} {p : Unit × zX}, q8 l1 l2 X = some p → fk X p.2) {l1 : Int32} {l2 : Int32} {X : zX} {p : Unit × zX} (hG : gb227_158 n q8 l1 l2 X = some p) : fk X p.2 := by
  unfold gb227_158 at hG
  have hX : fk X X := fk_R
  exact fk_T hX (ub227_159 hr8 hG)
set_option maxRecDepth 20000 in
theorem ub227_133 {n : Nat} {q8 : Int32 → Int32 → zX → Option (Unit × zX)} (hr8 : ∀ {l1 : Int32} {l2 : Int32} {X : zX} {p : Unit × zX}, q8 l1 l2 X = some p → fk X p.2) {l1 : Int32} {l2 : Int32} {X : zX} {p : Unit × zX} (hG : gb227_133 n q8 l1 l2 X = some p) : fk X p.2 := by
  unfold gb227_133 at hG
  have hX : fk X X := fk_R
  replace hG := zbnd hG
  obtain ⟨p1, e2, hG⟩ := hG
  replace hX := fk_T hX (u190 e2)
  by_cases c3 : (p1.2.1 73) = (-1)
  · rw [if_pos c3] at hG
    replace hG := zbnd hG
    obtain ⟨p4, e5, hG⟩ := hG
    replace hX := fk_T hX (u209 e5)
    by_cases c6 : p4.1 = 0
    · rw [if_pos c6] at hG
      exact fk_T hX (ub227_158 hr8 hG)
    · rw [if_neg c6] at hG
      exact fk_T hX (ub227_159 hr8 hG)
  · rw [if_neg c3] at hG
    exact fk_T hX (ub227_158 hr8 hG)
set_option maxRecDepth 20000 in
theorem ub227_95 {n : Nat} {q8 : Int32 → Int32 → zX → Option (Unit × zX)} (hr8 : ∀ {l1 : Int32} {l2 : Int32} {X : zX} {p : Unit × zX}, q8 l1 l2 X = some p → fk X p.2) {l1 : Int32} {l2 : Int32} {X : zX} {p : Unit × zX} (hG : gb227_95 n q8 l1 l2 X = some p) : fk X p.2 := by
  unfold gb227_95 at hG
  have hX : fk X X := fk_R
  by_cases c1 : (X.1 73) = (-1)
  · rw [if_pos c1] at hG
    replace hG := zbnd hG
    obtain ⟨x4, e5, hG⟩ := hG
    replace hG := zbnd hG
    obtain ⟨p6, e7, hG⟩ := hG
    replace hX := fk_T hX (u206 e7)
    replace hG := zgd_some hG
    obtain ⟨g10, hG⟩ := hG
    replace hG := zbnd hG
    obtain ⟨X8, e9, hG⟩ := hG
    replace hX := fk_W hX (i := 13) (by decide) e9
    replace hG := zbnd hG
    obtain ⟨x12, e13, hG⟩ := hG
    replace hG := zgd_some hG
    obtain ⟨g16, hG⟩ := hG
    replace hG := zbnd hG
    obtain ⟨X14, e15, hG⟩ := hG
    replace hX := fk_W hX (i := 12) (by decide) e15
    exact fk_T hX (ub227_133 hr8 hG)
  · rw [if_neg c1] at hG
    exact fk_T hX (ub227_133 hr8 hG)
set_option maxRecDepth 20000 in
theorem ub227_71 {n : Nat} {q8 : Int32 → Int32 → zX → Option (Unit × zX)} (hr8 : ∀ {l1 : Int32} {l2 : Int32} {X : zX} {p : Unit × zX}, q8 l1 l2 X = some p → fk X p.2) {l1 : Int32} {l2 : Int32} {X : zX} {p : Unit × zX} (hG : gb227_71 n q8 l1 l2 X = some p) : fk X p.2 := by
  unfold gb227_71 at hG
  have hX : fk X X := fk_R
  by_cases c1 : (X.1 73) = (-1)
  · rw [if_pos c1] at hG
    replace hG := zbnd hG
    obtain ⟨x3, e4, hG⟩ := hG
    by_cases c5 : x3 = 8
    · rw [if_pos c5] at hG
      replace hG := zbnd hG
      obtain ⟨p6, e7, hG⟩ := hG
      replace hX := fk_T hX (u195 e7)
      exact fk_T hX (ub227_95 hr8 hG)
    · rw [if_neg c5] at hG
      exact fk_T hX (ub227_95 hr8 hG)
  · rw [if_neg c1] at hG
    exact fk_T hX (ub227_95 hr8 hG)
set_option maxRecDepth 20000 in
theorem ub227_8 {n : Nat} {q8 : Int32 → Int32 → zX → Option (Unit × zX)} (hr8 : ∀ {l1 : Int32} {l2 : Int32} {X : zX} {p : Unit × zX}, q8 l1 l2 X = some p → fk X p.2) {l1 : Int32} {l2 : Int32} {X : zX} {p : Unit × zX} (hG : gb227_8 n q8 l1 l2 X = some p) : fk X p.2 := by
  unfold gb227_8 at hG
  have hX : fk X X := fk_R
  by_cases c1 : l2 = 0
  · rw [if_pos c1] at hG
    exact fk_T hX (ub227_171  hG)
  · rw [if_neg c1] at hG
    by_cases c2 : (X.1 73) = (-1)
    · rw [if_pos c2] at hG
      replace hG := zbnd hG
      obtain ⟨p3, e4, hG⟩ := hG
      replace hX := fk_T hX (u203 e4)
      replace hG := zbnd hG
      obtain ⟨p5, e6, hG⟩ := hG
      replace hX := fk_T hX (u200 e6)
      by_cases c7 : (p5.2.1 73) = (-1)
      · rw [if_pos c7] at hG
        replace hG := zbnd hG
        obtain ⟨x10, e11, hG⟩ := hG
        replace hG := zbnd hG
        obtain ⟨p12, e13, hG⟩ := hG
        replace hX := fk_T hX (u204 e13)
        by_cases c14 : p12.1 = (-1)
        · rw [if_pos c14] at hG
          exact fk_T hX (ub227_71 hr8 hG)
        · rw [if_neg c14] at hG
          replace hG := zbnd hG
          obtain ⟨p15, e16, hG⟩ := hG
          replace hX := fk_T hX (u195 e16)
          exact fk_T hX (ub227_71 hr8 hG)
      · rw [if_neg c7] at hG
        exact fk_T hX (ub227_71 hr8 hG)
    · rw [if_neg c2] at hG
      exact fk_T hX (ub227_171  hG)
theorem uf227_8 {n : Nat}   (k : Nat) : ∀ {l1 : Int32} {l2 : Int32} {X : zX} {p : Unit × zX}, gf227_8 n  k l1 l2 X = some p → fk X p.2 := by
  induction k with
  | zero => intros; rename_i hG; cases hG
  | succ k ih => intros; rename_i hG; exact ub227_8 (n := n) (q8 := gf227_8 n  k) ih hG
set_option maxRecDepth 20000 in
theorem u227 {n : Nat} {y1 : Int32} {X : zX} {p : Unit × zX} (hG : g227 n y1 X = some p) : fk X p.2 := by
  unfold g227 at hG
  have hX : fk X X := fk_R
  replace hG := zbnd hG
  obtain ⟨p1, e2, hG⟩ := hG
  replace hX := fk_T hX (u208 e2)
  exact fk_T hX (uf227_8  n hG)
set_option maxRecDepth 20000 in
theorem u228 {n : Nat} {y1 : Nat} {X : zX} {p : Unit × zX} (hG : g228 n y1 X = some p) : fk X p.2 := by
  unfold g228 at hG
  have hX : fk X X := fk_R
  replace hG := zbnd hG
  obtain ⟨p1, e2, hG⟩ := hG
  replace hX := fk_T hX (u213 e2)
  replace hG := zbnd hG
  obtain ⟨p3, e4, hG⟩ := hG
  replace hX := fk_T hX (u200 e4)
  replace hG := zbnd hG
  obtain ⟨p5, e6, hG⟩ := hG
  replace hX := fk_T hX (u190 e6)
  replace hG := Option.some.inj hG
  subst hG
  exact hX
set_option maxRecDepth 20000 in
theorem ub231_44 {n : Nat}    {X : zX} {p : Int32 × zX} (hG : gb231_44 n   X = some p) : fk X p.2 := by
  unfold gb231_44 at hG
  have hX : fk X X := fk_R
  replace hG := Option.some.inj hG
  subst hG
  exact hX
set_option maxRecDepth 20000 in
theorem ub231_14 {n : Nat}   {s0 : Int32} {X : zX} {p : Int32 × zX} (hG : gb231_14 n  s0 X = some p) : fk X p.2 := by
  unfold gb231_14 at hG
  have hX : fk X X := fk_R
  replace hG := zbnd hG
  obtain ⟨p1, e2, hG⟩ := hG
  replace hX := fk_T hX (u200 e2)
  by_cases c3 : (p1.2.1 73) = (-1)
  · rw [if_pos c3] at hG
    replace hG := zbnd hG
    obtain ⟨p4, e5, hG⟩ := hG
    replace hX := fk_T hX (u187 e5)
    by_cases c6 : p4.1 = 0
    · rw [if_pos c6] at hG
      replace hG := zbnd hG
      obtain ⟨p7, e8, hG⟩ := hG
      replace hX := fk_T hX (u195 e8)
      exact fk_T hX (ub231_44  hG)
    · rw [if_neg c6] at hG
      exact fk_T hX (ub231_44  hG)
  · rw [if_neg c3] at hG
    exact fk_T hX (ub231_44  hG)
set_option maxRecDepth 20000 in
theorem u231 {n : Nat}  {X : zX} {p : Int32 × zX} (hG : g231 n  X = some p) : fk X p.2 := by
  unfold g231 at hG
  have hX : fk X X := fk_R
  by_cases c1 : (X.1 69) = 2
  · rw [if_pos c1] at hG
    exact fk_T hX (ub231_14  hG)
  · rw [if_neg c1] at hG
    exact fk_T hX (ub231_14  hG)
set_option maxRecDepth 20000 in
theorem ub232_146 {n : Nat}   {l1 : Int32} {l2 : Int32} {X : zX} {p : Int32 × zX} (hG : gb232_146 n  l1 l2 X = some p) : fk X p.2 := by
  unfold gb232_146 at hG
  have hX : fk X X := fk_R
  replace hG := zbnd hG
  obtain ⟨p1, e2, hG⟩ := hG
  replace hX := fk_T hX (u190 e2)
  replace hG := Option.some.inj hG
  subst hG
  exact hX
set_option maxRecDepth 20000 in
theorem ub232_143 {n : Nat}   {l1 : Int32} {l2 : Int32} {s0 : Int32} {X : zX} {p : Int32 × zX} (hG : gb232_143 n  l1 l2 s0 X = some p) : fk X p.2 := by
  unfold gb232_143 at hG
  have hX : fk X X := fk_R
  replace hG := zbnd hG
  obtain ⟨p1, e2, hG⟩ := hG
  replace hX := fk_T hX (u200 e2)
  exact fk_T hX (ub232_146  hG)
set_option maxRecDepth 20000 in
theorem ub232_131 {n : Nat}   {l1 : Int32} {l2 : Int32} {s0 : Int32} {X : zX} {p : Int32 × zX} (hG : gb232_131 n  l1 l2 s0 X = some p) : fk X p.2 := by
  unfold gb232_131 at hG
  have hX : fk X X := fk_R
  by_cases c1 : s0 = (-1)
  · rw [if_pos c1] at hG
    exact fk_T hX (ub232_143  hG)
  · rw [if_neg c1] at hG
    exact fk_T hX (ub232_143  hG)
set_option maxRecDepth 20000 in
theorem ub232_83 {n : Nat}   {l1 : Int32} {l2 : Int32} {s0 : Int32} {X : zX} {p : Int32 × zX} (hG : gb232_83 n  l1 l2 s0 X = some p) : fk X p.2 := by
  unfold gb232_83 at hG
  have hX : fk X X := fk_R
  replace hG := zbnd hG
  obtain ⟨p1, e2, hG⟩ := hG
  replace hX := fk_T hX (u200 e2)
  exact fk_T hX (ub232_146  hG)
set_option maxRecDepth 20000 in
theorem ub232_55 {n : Nat}   {l1 : Int32} {l2 : Int32} {s0 : Int32} {X : zX} {p : Int32 × zX} (hG : gb232_55 n  l1 l2 s0 X = some p) : fk X p.2 := by
  unfold gb232_55 at hG
  have hX : fk X X := fk_R
  exact fk_T hX (ub232_146  hG)
set_option maxRecDepth 20000 in
theorem ub232_37 {n : Nat}   {l1 : Int32} {l2 : Int32} {s0 : Int32} {X : zX} {p : Int32 × zX} (hG : gb232_37 n  l1 l2 s0 X = some p) : fk X p.2 := by
  unfold gb232_37 at hG
  have hX : fk X X := fk_R
  replace hG := zbnd hG
  obtain ⟨p1, e2, hG⟩ := hG
  replace hX := fk_T hX (u200 e2)
  replace hG := zbnd hG
  obtain ⟨p3, e4, hG⟩ := hG
  replace hX := fk_T hX (u213 e4)
  by_cases c5 : p3.1 = 0
  · rw [if_pos c5] at hG
    exact fk_T hX (ub232_55  hG)
  · rw [if_neg c5] at hG
    exact fk_T hX (ub232_55  hG)
set_option maxRecDepth 20000 in
theorem ub232_32 {n : Nat}   {l1 : Int32} {l2 : Int32} {X : zX} {p : Int32 × zX} (hG : gb232_32 n  l1 l2 X = some p) : fk X p.2 := by
  unfold gb232_32 at hG
  have hX : fk X X := fk_R
  exact fk_T hX (ub232_37  hG)
set_option maxRecDepth 20000 in
theorem u232 {n : Nat} {y1 : Int32} {X : zX} {p : Int32 × zX} (hG : g232 n y1 X = some p) : fk X p.2 := by
  unfold g232 at hG
  have hX : fk X X := fk_R
  replace hG := zbnd hG
  obtain ⟨x2, e3, hG⟩ := hG
  by_cases c4 : x2 = 0
  · rw [if_pos c4] at hG
    replace hG := zbnd hG
    obtain ⟨p5, e6, hG⟩ := hG
    replace hX := fk_T hX (u213 e6)
    by_cases c7 : p5.1 = 0
    · rw [if_pos c7] at hG
      replace hG := zbnd hG
      obtain ⟨p8, e9, hG⟩ := hG
      replace hX := fk_T hX (u213 e9)
      by_cases c10 : p8.1 = 0
      · rw [if_pos c10] at hG
        exact fk_T hX (ub232_37  hG)
      · rw [if_neg c10] at hG
        exact fk_T hX (ub232_32  hG)
    · rw [if_neg c7] at hG
      exact fk_T hX (ub232_32  hG)
  · rw [if_neg c4] at hG
    replace hG := zbnd hG
    obtain ⟨x12, e13, hG⟩ := hG
    by_cases c14 : x12 = 1
    · rw [if_pos c14] at hG
      by_cases c15 : (X.1 69) = 2
      · rw [if_pos c15] at hG
        exact fk_T hX (ub232_83  hG)
      · rw [if_neg c15] at hG
        exact fk_T hX (ub232_83  hG)
    · rw [if_neg c14] at hG
      replace hG := zbnd hG
      obtain ⟨p16, e17, hG⟩ := hG
      replace hX := fk_T hX (u203 e17)
      by_cases c18 : p16.1 = 0
      · rw [if_pos c18] at hG
        exact fk_T hX (ub232_131  hG)
      · rw [if_neg c18] at hG
        replace hG := zbnd hG
        obtain ⟨x21, e22, hG⟩ := hG
        replace hG := zbnd hG
        obtain ⟨p23, e24, hG⟩ := hG
        replace hX := fk_T hX (u204 e24)
        exact fk_T hX (ub232_131  hG)
set_option maxRecDepth 20000 in
theorem ub230_507 {n : Nat}   {l1 : Int32} {l2 : Int32} {l3 : Int32} {l4 : Int32} {l5 : Int32} {l6 : Int32} {l7 : Int32} {l8 : Int32} {l9 : Int32} {X : zX} {p : Int32 × zX} (hG : gb230_507 n  l1 l2 l3 l4 l5 l6 l7 l8 l9 X = some p) : fk X p.2 := by
  unfold gb230_507 at hG
  have hX : fk X X := fk_R
  replace hG := zbnd hG
  obtain ⟨p1, e2, hG⟩ := hG
  replace hX := fk_T hX (u190 e2)
  replace hG := Option.some.inj hG
  subst hG
  exact hX
set_option maxRecDepth 20000 in
theorem ub230_476 {n : Nat}   {l1 : Int32} {l2 : Int32} {l3 : Int32} {l4 : Int32} {l5 : Int32} {l6 : Int32} {l7 : Int32} {l8 : Int32} {l9 : Int32} {X : zX} {p : Int32 × zX} (hG : gb230_476 n  l1 l2 l3 l4 l5 l6 l7 l8 l9 X = some p) : fk X p.2 := by
  unfold gb230_476 at hG
  have hX : fk X X := fk_R
  replace hG := zbnd hG
  obtain ⟨p1, e2, hG⟩ := hG
  replace hX := fk_T hX (u209 e2)
  replace hG := zbnd hG
  obtain ⟨p3, e4, hG⟩ := hG
  replace hX := fk_T hX (u200 e4)
  by_cases c5 : (p3.2.1 73) = (-1)
  · rw [if_pos c5] at hG
    by_cases c6 : l8 = 10000
    · rw [if_pos c6] at hG
      exact fk_T hX (ub230_507  hG)
    · rw [if_neg c6] at hG
      replace hG := zbnd hG
      obtain ⟨p7, e8, hG⟩ := hG
      replace hX := fk_T hX (u195 e8)
      exact fk_T hX (ub230_507  hG)
  · rw [if_neg c5] at hG
    exact fk_T hX (ub230_507  hG)
set_option maxRecDepth 20000 in
theorem ub230_473 {n : Nat} {q301 : Int32 → Int32 → Int32 → Int32 → Int32 → Int32 → Int32 → Int32 → Int32 → zX → Option (Int32 × zX)} (hr301 : ∀ {l1 : Int32} {l2 : Int32} {l3 : Int32} {l4 : Int32} {l5 : Int32} {l6 : Int32} {l7 : Int32} {l8 : Int32} {l9 : Int32} {X : zX} {p : Int32 × zX}, q301 l1 l2 l3 l4 l5 l6 l7 l8 l9 X = some p → fk X p.2) {l1 : Int32} {l2 : Int32} {l3 : Int32} {l4 : Int32} {l5 : Int32} {l6 : Int32} {l7 : Int32} {l8 : Int32} {l9 : Int32} {l10 : Int32} {l11 : Int32} {X : zX} {p : Int32 × zX} (hG : gb230_473 n q301 l1 l2 l3 l4 l5 l6 l7 l8 l9 l10 l11 X = some p) : fk X p.2 := by
  unfold gb230_473 at hG
  have hX : fk X X := fk_R
  exact fk_T hX (hr301 hG)
set_option maxRecDepth 20000 in
theorem ub230_462 {n : Nat} {q301 : Int32 → Int32 → Int32 → Int32 → Int32 → Int32 → Int32 → Int32 → Int32 → zX → Option (Int32 × zX)} (hr301 : ∀ {l1 : Int32} {l2 : Int32} {l3 : Int32} {l4 : Int32} {l5 : Int32} {l6 : Int32} {l7 : Int32} {l8 : Int32} {l9 : Int32} {X : zX} {p : Int32 × zX}, q301 l1 l2 l3 l4 l5 l6 l7 l8 l9 X = some p → fk X p.2) {l1 : Int32} {l2 : Int32} {l3 : Int32} {l4 : Int32} {l5 : Int32} {l6 : Int32} {l7 : Int32} {l8 : Int32} {l9 : Int32} {l10 : Int32} {l11 : Int32} {s0 : Int32} {X : zX} {p : Int32 × zX} (hG : gb230_462 n q301 l1 l2 l3 l4 l5 l6 l7 l8 l9 l10 l11 s0 X = some p) : fk X p.2 := by
  unfold gb230_462 at hG
  have hX : fk X X := fk_R
  by_cases c1 : s0 = 0
  · rw [if_pos c1] at hG
    exact fk_T hX (ub230_473 hr301 hG)
  · rw [if_neg c1] at hG
    replace hG := zbnd hG
    obtain ⟨p2, e3, hG⟩ := hG
    replace hX := fk_T hX (u190 e3)
    exact fk_T hX (ub230_473 hr301 hG)
set_option maxRecDepth 20000 in
theorem ub230_461 {n : Nat} {q301 : Int32 → Int32 → Int32 → Int32 → Int32 → Int32 → Int32 → Int32 → Int32 → zX → Option (Int32 × zX)} (hr301 : ∀ {l1 : Int32} {l2 : Int32} {l3 : Int32} {l4 : Int32} {l5 : Int32} {l6 : Int32} {l7 : Int32} {l8 : Int32} {l9 : Int32} {X : zX} {p : Int32 × zX}, q301 l1 l2 l3 l4 l5 l6 l7 l8 l9 X = some p → fk X p.2) {l1 : Int32} {l2 : Int32} {l3 : Int32} {l4 : Int32} {l5 : Int32} {l6 : Int32} {l7 : Int32} {l8 : Int32} {l9 : Int32} {l10 : Int32} {l11 : Int32} {X : zX} {p : Int32 × zX} (hG : gb230_461 n q301 l1 l2 l3 l4 l5 l6 l7 l8 l9 l10 l11 X = some p) : fk X p.2 := by
  unfold gb230_461 at hG
  have hX : fk X X := fk_R
  exact fk_T hX (ub230_462 hr301 hG)
set_option maxRecDepth 20000 in
theorem ub230_440 {n : Nat} {q301 : Int32 → Int32 → Int32 → Int32 → Int32 → Int32 → Int32 → Int32 → Int32 → zX → Option (Int32 × zX)} (hr301 : ∀ {l1 : Int32} {l2 : Int32} {l3 : Int32} {l4 : Int32} {l5 : Int32} {l6 : Int32} {l7 : Int32} {l8 : Int32} {l9 : Int32} {X : zX} {p : Int32 × zX}, q301 l1 l2 l3 l4 l5 l6 l7 l8 l9 X = some p → fk X p.2) {l1 : Int32} {l2 : Int32} {l3 : Int32} {l4 : Int32} {l5 : Int32} {l6 : Int32} {l7 : Int32} {l8 : Int32} {l9 : Int32} {l10 : Int32} {l11 : Int32} {X : zX} {p : Int32 × zX} (hG : gb230_440 n q301 l1 l2 l3 l4 l5 l6 l7 l8 l9 l10 l11 X = some p) : fk X p.2 := by
  unfold gb230_440 at hG
  have hX : fk X X := fk_R
  by_cases c1 : (X.1 73) = (-1)
  · rw [if_pos c1] at hG
    replace hG := zbnd hG
    obtain ⟨p2, e3, hG⟩ := hG
    replace hX := fk_T hX (u209 e3)
    by_cases c4 : p2.1 = 0
    · rw [if_pos c4] at hG
      exact fk_T hX (ub230_461 hr301 hG)
    · rw [if_neg c4] at hG
      exact fk_T hX (ub230_462 hr301 hG)
  · rw [if_neg c1] at hG
    exact fk_T hX (ub230_461 hr301 hG)
set_option maxRecDepth 20000 in
theorem ub230_372 {n : Nat} {q301 : Int32 → Int32 → Int32 → Int32 → Int32 → Int32 → Int32 → Int32 → Int32 → zX → Option (Int32 × zX)} (hr301 : ∀ {l1 : Int32} {l2 : Int32} {l3 : Int32} {l4 : Int32} {l5 : Int32} {l6 : Int32} {l7 : Int32} {l8 : Int32} {l9 : Int32} {X : zX} {p : Int32 × zX}, q301 l1 l2 l3 l4 l5 l6 l7 l8 l9 X = some p → fk X p.2) {l1 : Int32} {l2 : Int32} {l3 : Int32} {l4 : Int32} {l5 : Int32} {l6 : Int32} {l7 : Int32} {l8 : Int32} {l9 : Int32} {l10 : Int32} {s0 : Int32} {X : zX} {p : Int32 × zX} (hG : gb230_372 n q301 l1 l2 l3 l4 l5 l6 l7 l8 l9 l10 s0 X = some p) : fk X p.2 := by
  unfold gb230_372 at hG
  have hX : fk X X := fk_R
  by_cases c1 : (X.1 73) = (-1)
  · rw [if_pos c1] at hG
    replace hG := zbnd hG
    obtain ⟨x4, e5, hG⟩ := hG
    replace hG := zgd_some hG
    obtain ⟨g8, hG⟩ := hG
    replace hG := zbnd hG
    obtain ⟨X6, e7, hG⟩ := hG
    replace hX := fk_W hX (i := 47) (by decide) e7
    replace hG := zbnd hG
    obtain ⟨x11, e12, hG⟩ := hG
    replace hG := zgd_some hG
    obtain ⟨g15, hG⟩ := hG
    replace hG := zbnd hG
    obtain ⟨X13, e14, hG⟩ := hG
    replace hX := fk_W hX (i := 48) (by decide) e14
    replace hG := zbnd hG
    obtain ⟨x17, e18, hG⟩ := hG
    replace hG := zgd_some hG
    obtain ⟨g21, hG⟩ := hG
    replace hG := zbnd hG
    obtain ⟨X19, e20, hG⟩ := hG
    replace hX := fk_W hX (i := 46) (by decide) e20
    exact fk_T hX (ub230_440 hr301 hG)
  · rw [if_neg c1] at hG
    exact fk_T hX (ub230_440 hr301 hG)
set_option maxRecDepth 20000 in
theorem ub230_345 {n : Nat} {q301 : Int32 → Int32 → Int32 → Int32 → Int32 → Int32 → Int32 → Int32 → Int32 → zX → Option (Int32 × zX)} (hr301 : ∀ {l1 : Int32} {l2 : Int32} {l3 : Int32} {l4 : Int32} {l5 : Int32} {l6 : Int32} {l7 : Int32} {l8 : Int32} {l9 : Int32} {X : zX} {p : Int32 × zX}, q301 l1 l2 l3 l4 l5 l6 l7 l8 l9 X = some p → fk X p.2) {l1 : Int32} {l2 : Int32} {l3 : Int32} {l4 : Int32} {l5 : Int32} {l6 : Int32} {l7 : Int32} {l8 : Int32} {l9 : Int32} {l10 : Int32} {X : zX} {p : Int32 × zX} (hG : gb230_345 n q301 l1 l2 l3 l4 l5 l6 l7 l8 l9 l10 X = some p) : fk X p.2 := by
  unfold gb230_345 at hG
  have hX : fk X X := fk_R
  replace hG := zbnd hG
  obtain ⟨p1, e2, hG⟩ := hG
  replace hX := fk_T hX (u190 e2)
  replace hG := zbnd hG
  obtain ⟨p3, e4, hG⟩ := hG
  replace hX := fk_T hX (u208 e4)
  by_cases c5 : (p3.2.1 73) = (-1)
  · rw [if_pos c5] at hG
    replace hG := zbnd hG
    obtain ⟨p6, e7, hG⟩ := hG
    replace hX := fk_T hX (u232 e7)
    exact fk_T hX (ub230_372 hr301 hG)
  · rw [if_neg c5] at hG
    exact fk_T hX (ub230_372 hr301 hG)
set_option maxRecDepth 20000 in
theorem ub230_301 {n : Nat} {q301 : Int32 → Int32 → Int32 → Int32 → Int32 → Int32 → Int32 → Int32 → Int32 → zX → Option (Int32 × zX)} (hr301 : ∀ {l1 : Int32} {l2 : Int32} {l3 : Int32} {l4 : Int32} {l5 : Int32} {l6 : Int32} {l7 : Int32} {l8 : Int32} {l9 : Int32} {X : zX} {p : Int32 × zX}, q301 l1 l2 l3 l4 l5 l6 l7 l8 l9 X = some p → fk X p.2) {l1 : Int32} {l2 : Int32} {l3 : Int32} {l4 : Int32} {l5 : Int32} {l6 : Int32} {l7 : Int32} {l8 : Int32} {l9 : Int32} {X : zX} {p : Int32 × zX} (hG : gb230_301 n q301 l1 l2 l3 l4 l5 l6 l7 l8 l9 X = some p) : fk X p.2 := by
  unfold gb230_301 at hG
  have hX : fk X X := fk_R
  by_cases c1 : l9 = 0
  · rw [if_pos c1] at hG
    exact fk_T hX (ub230_476  hG)
  · rw [if_neg c1] at hG
    by_cases c2 : (X.1 73) = (-1)
    · rw [if_pos c2] at hG
      replace hG := zbnd hG
      obtain ⟨p3, e4, hG⟩ := hG
      replace hX := fk_T hX (u231 e4)
      by_cases c5 : (p3.2.1 73) = (-1)
      · rw [if_pos c5] at hG
        replace hG := zbnd hG
        obtain ⟨x7, e8, hG⟩ := hG
        by_cases c9 : x7 = 8
        · rw [if_pos c9] at hG
          replace hG := zbnd hG
          obtain ⟨p10, e11, hG⟩ := hG
          replace hX := fk_T hX (u195 e11)
          exact fk_T hX (ub230_345 hr301 hG)
        · rw [if_neg c9] at hG
          exact fk_T hX (ub230_345 hr301 hG)
      · rw [if_neg c5] at hG
        exact fk_T hX (ub230_345 hr301 hG)
    · rw [if_neg c2] at hG
      exact fk_T hX (ub230_476  hG)
theorem uf230_301 {n : Nat}   (k : Nat) : ∀ {l1 : Int32} {l2 : Int32} {l3 : Int32} {l4 : Int32} {l5 : Int32} {l6 : Int32} {l7 : Int32} {l8 : Int32} {l9 : Int32} {X : zX} {p : Int32 × zX}, gf230_301 n  k l1 l2 l3 l4 l5 l6 l7 l8 l9 X = some p → fk X p.2 := by
  induction k with
  | zero => intros; rename_i hG; cases hG
  | succ k ih => intros; rename_i hG; exact ub230_301 (n := n) (q301 := gf230_301 n  k) ih hG
set_option maxRecDepth 20000 in
theorem ub230_285 {n : Nat}   {l1 : Int32} {l2 : Int32} {l3 : Int32} {l4 : Int32} {l5 : Int32} {l6 : Int32} {l7 : Int32} {s0 : Int32} {s1 : Int32} {X : zX} {p : Int32 × zX} (hG : gb230_285 n  l1 l2 l3 l4 l5 l6 l7 s0 s1 X = some p) : fk X p.2 := by
  unfold gb230_285 at hG
  have hX : fk X X := fk_R
  replace hG := zgd_some hG
  obtain ⟨g3, hG⟩ := hG
  replace hG := zbnd hG
  obtain ⟨X1, e2, hG⟩ := hG
  replace hX := fk_W hX (i := 48) (by decide) e2
  replace hG := Option.some.inj hG
  subst hG
  exact hX
set_option maxRecDepth 20000 in
theorem ub230_109 {n : Nat}   {l1 : Int32} {l2 : Int32} {l3 : Int32} {l4 : Int32} {s0 : Int32} {X : zX} {p : Int32 × zX} (hG : gb230_109 n  l1 l2 l3 l4 s0 X = some p) : fk X p.2 := by
  unfold gb230_109 at hG
  have hX : fk X X := fk_R
  replace hG := zbnd hG
  obtain ⟨p1, e2, hG⟩ := hG
  replace hX := fk_T hX (u190 e2)
  by_cases c3 : (p1.2.1 73) = (-1)
  · rw [if_pos c3] at hG
    replace hG := zbnd hG
    obtain ⟨x5, e6, hG⟩ := hG
    replace hG := zbnd hG
    obtain ⟨x8, e9, hG⟩ := hG
    replace hG := zgd_some hG
    obtain ⟨g12, hG⟩ := hG
    replace hG := zbnd hG
    obtain ⟨X10, e11, hG⟩ := hG
    replace hX := fk_W hX (i := 42) (by decide) e11
    replace hG := zgd_some hG
    obtain ⟨g16, hG⟩ := hG
    replace hG := zbnd hG
    obtain ⟨X14, e15, hG⟩ := hG
    replace hX := fk_W hX (i := 43) (by decide) e15
    replace hG := zgd_some hG
    obtain ⟨g20, hG⟩ := hG
    replace hG := zbnd hG
    obtain ⟨X18, e19, hG⟩ := hG
    replace hX := fk_W hX (i := 44) (by decide) e19
    replace hG := zgd_some hG
    obtain ⟨g24, hG⟩ := hG
    replace hG := zbnd hG
    obtain ⟨X22, e23, hG⟩ := hG
    replace hX := fk_W hX (i := 45) (by decide) e23
    replace hG := zgd_some hG
    obtain ⟨g28, hG⟩ := hG
    replace hG := zbnd hG
    obtain ⟨X26, e27, hG⟩ := hG
    replace hX := fk_W hX (i := 46) (by decide) e27
    by_cases c29 : l2 = 0
    · rw [if_pos c29] at hG
      replace hG := zbnd hG
      obtain ⟨p30, e31, hG⟩ := hG
      replace hX := fk_T hX (u208 e31)
      exact fk_T hX (uf230_301  n hG)
    · rw [if_neg c29] at hG
      replace hG := zgd_some hG
      obtain ⟨g35, hG⟩ := hG
      replace hG := zbnd hG
      obtain ⟨X33, e34, hG⟩ := hG
      replace hX := fk_W hX (i := 46) (by decide) e34
      replace hG := zgd_some hG
      obtain ⟨g39, hG⟩ := hG
      replace hG := zbnd hG
      obtain ⟨X37, e38, hG⟩ := hG
      replace hX := fk_W hX (i := 47) (by decide) e38
      replace hG := zgd_some hG
      obtain ⟨g43, hG⟩ := hG
      replace hG := zbnd hG
      obtain ⟨X41, e42, hG⟩ := hG
      replace hX := fk_W hX (i := 47) (by decide) e42
      replace hG := zbnd hG
      obtain ⟨p45, e46, hG⟩ := hG
      replace hX := fk_T hX (u232 e46)
      replace hG := zgd_some hG
      obtain ⟨g49, hG⟩ := hG
      replace hG := zbnd hG
      obtain ⟨X47, e48, hG⟩ := hG
      replace hX := fk_W hX (i := 48) (by decide) e48
      replace hG := zbnd hG
      obtain ⟨p50, e51, hG⟩ := hG
      replace hX := fk_T hX (u228 e51)
      by_cases c53 : (p50.2.1 73) = (-1)
      · rw [if_pos c53] at hG
        replace hG := zbnd hG
        obtain ⟨p54, e55, hG⟩ := hG
        replace hX := fk_T hX (u232 e55)
        exact fk_T hX (ub230_285  hG)
      · rw [if_neg c53] at hG
        exact fk_T hX (ub230_285  hG)
  · rw [if_neg c3] at hG
    replace hG := Option.some.inj hG
    subst hG
    exact hX
set_option maxRecDepth 20000 in
theorem ub230_90 {n : Nat}   {l1 : Int32} {l2 : Int32} {l3 : Int32} {l4 : Int32} {s0 : Int32} {X : zX} {p : Int32 × zX} (hG : gb230_90 n  l1 l2 l3 l4 s0 X = some p) : fk X p.2 := by
  unfold gb230_90 at hG
  have hX : fk X X := fk_R
  replace hG := zbnd hG
  obtain ⟨p1, e2, hG⟩ := hG
  replace hX := fk_T hX (u200 e2)
  by_cases c3 : (p1.2.1 73) = (-1)
  · rw [if_pos c3] at hG
    replace hG := zbnd hG
    obtain ⟨p4, e5, hG⟩ := hG
    replace hX := fk_T hX (u206 e5)
    exact fk_T hX (ub230_109  hG)
  · rw [if_neg c3] at hG
    exact fk_T hX (ub230_109  hG)
set_option maxRecDepth 20000 in
theorem ub230_70 {n : Nat}   {l1 : Int32} {l2 : Int32} {l3 : Int32} {s0 : Int32} {X : zX} {p : Int32 × zX} (hG : gb230_70 n  l1 l2 l3 s0 X = some p) : fk X p.2 := by
  unfold gb230_70 at hG
  have hX : fk X X := fk_R
  replace hG := zbnd hG
  obtain ⟨p1, e2, hG⟩ := hG
  replace hX := fk_T hX (u190 e2)
  by_cases c3 : (p1.2.1 69) = 3
  · rw [if_pos c3] at hG
    exact fk_T hX (ub230_90  hG)
  · rw [if_neg c3] at hG
    exact fk_T hX (ub230_90  hG)
set_option maxRecDepth 20000 in
theorem ub230_46 {n : Nat}   {l1 : Int32} {l2 : Int32} {l3 : Int32} {X : zX} {p : Int32 × zX} (hG : gb230_46 n  l1 l2 l3 X = some p) : fk X p.2 := by
  unfold gb230_46 at hG
  have hX : fk X X := fk_R
  replace hG := zbnd hG
  obtain ⟨p1, e2, hG⟩ := hG
  replace hX := fk_T hX (u203 e2)
  replace hG := zbnd hG
  obtain ⟨p3, e4, hG⟩ := hG
  replace hX := fk_T hX (u200 e4)
  by_cases c5 : (p3.2.1 73) = (-1)
  · rw [if_pos c5] at hG
    replace hG := zbnd hG
    obtain ⟨p6, e7, hG⟩ := hG
    replace hX := fk_T hX (u206 e7)
    exact fk_T hX (ub230_70  hG)
  · rw [if_neg c5] at hG
    exact fk_T hX (ub230_70  hG)
set_option maxRecDepth 20000 in
theorem ub230_19 {n : Nat}   {l1 : Int32} {l2 : Int32} {X : zX} {p : Int32 × zX} (hG : gb230_19 n  l1 l2 X = some p) : fk X p.2 := by
  unfold gb230_19 at hG
  have hX : fk X X := fk_R
  replace hG := zbnd hG
  obtain ⟨p1, e2, hG⟩ := hG
  replace hX := fk_T hX (u190 e2)
  by_cases c3 : l2 = 0
  · rw [if_pos c3] at hG
    exact fk_T hX (ub230_46  hG)
  · rw [if_neg c3] at hG
    by_cases c4 : (p1.2.1 73) = (-1)
    · rw [if_pos c4] at hG
      replace hG := zbnd hG
      obtain ⟨p5, e6, hG⟩ := hG
      replace hX := fk_T hX (u231 e6)
      replace hG := zbnd hG
      obtain ⟨p7, e8, hG⟩ := hG
      replace hX := fk_T hX (u190 e8)
      exact fk_T hX (ub230_46  hG)
    · rw [if_neg c4] at hG
      exact fk_T hX (ub230_46  hG)
set_option maxRecDepth 20000 in
theorem u230 {n : Nat} {y1 : Int32} {y2 : Int32} {X : zX} {p : Int32 × zX} (hG : g230 n y1 y2 X = some p) : fk X p.2 := by
  unfold g230 at hG
  have hX : fk X X := fk_R
  replace hG := zbnd hG
  obtain ⟨x2, e3, hG⟩ := hG
  by_cases c4 : x2 = 100
  · rw [if_pos c4] at hG
    replace hG := zbnd hG
    obtain ⟨p5, e6, hG⟩ := hG
    replace hX := fk_T hX (u195 e6)
    exact fk_T hX (ub230_19  hG)
  · rw [if_neg c4] at hG
    exact fk_T hX (ub230_19  hG)
set_option maxRecDepth 20000 in
theorem ub229_44 {n : Nat}   {l1 : Int32} {l2 : Int32} {l3 : Int32} {l4 : Int32} {X : zX} {p : Int32 × zX} (hG : gb229_44 n  l1 l2 l3 l4 X = some p) : fk X p.2 := by
  unfold gb229_44 at hG
  have hX : fk X X := fk_R
  by_cases c1 : (X.1 73) = (-1)
  · rw [if_pos c1] at hG
    replace hG := zbnd hG
    obtain ⟨x3, e4, hG⟩ := hG
    replace hG := zgd_some hG
    obtain ⟨g8, hG⟩ := hG
    replace hG := zbnd hG
    obtain ⟨X6, e7, hG⟩ := hG
    replace hX := fk_W hX (i := 40) (by decide) e7
    replace hG := zgd_some hG
    obtain ⟨g12, hG⟩ := hG
    replace hG := zbnd hG
    obtain ⟨X10, e11, hG⟩ := hG
    replace hX := fk_W hX (i := 41) (by decide) e11
    replace hG := zbnd hG
    obtain ⟨x14, e15, hG⟩ := hG
    replace hG := zgd_some hG
    obtain ⟨g18, hG⟩ := hG
    replace hG := zbnd hG
    obtain ⟨X16, e17, hG⟩ := hG
    replace hX := fk_W hX (i := 39) (by decide) e17
    replace hG := zbnd hG
    obtain ⟨x20, e21, hG⟩ := hG
    replace hG := Option.some.inj hG
    subst hG
    exact hX
  · rw [if_neg c1] at hG
    replace hG := Option.some.inj hG
    subst hG
    exact hX
set_option maxRecDepth 20000 in
theorem ub229_27 {n : Nat}   {l1 : Int32} {l2 : Int32} {l3 : Int32} {l4 : Int32} {X : zX} {p : Int32 × zX} (hG : gb229_27 n  l1 l2 l3 l4 X = some p) : fk X p.2 := by
  unfold gb229_27 at hG
  have hX : fk X X := fk_R
  replace hG := zbnd hG
  obtain ⟨p1, e2, hG⟩ := hG
  replace hX := fk_T hX (u230 e2)
  exact fk_T hX (ub229_44  hG)
set_option maxRecDepth 20000 in
theorem u229 {n : Nat} {y1 : Int32} {X : zX} {p : Int32 × zX} (hG : g229 n y1 X = some p) : fk X p.2 := by
  unfold g229 at hG
  have hX : fk X X := fk_R
  replace hG := zbnd hG
  obtain ⟨p1, e2, hG⟩ := hG
  replace hX := fk_T hX (u213 e2)
  by_cases c3 : p1.1 = 0
  · rw [if_pos c3] at hG
    replace hG := zbnd hG
    obtain ⟨p4, e5, hG⟩ := hG
    replace hX := fk_T hX (u213 e5)
    by_cases c6 : p4.1 = 0
    · rw [if_pos c6] at hG
      replace hG := zbnd hG
      obtain ⟨p7, e8, hG⟩ := hG
      replace hX := fk_T hX (u232 e8)
      exact fk_T hX (ub229_44  hG)
    · rw [if_neg c6] at hG
      exact fk_T hX (ub229_27  hG)
  · rw [if_neg c3] at hG
    exact fk_T hX (ub229_27  hG)
set_option maxRecDepth 20000 in
theorem ub233_232 {n : Nat}   {l1 : Int32} {l2 : Int32} {l3 : Int32} {s0 : Int32} {s1 : Int32} {X : zX} {p : Unit × zX} (hG : gb233_232 n  l1 l2 l3 s0 s1 X = some p) : fk X p.2 := by
  unfold gb233_232 at hG
  have hX : fk X X := fk_R
  replace hG := zgd_some hG
  obtain ⟨g3, hG⟩ := hG
  replace hG := zbnd hG
  obtain ⟨X1, e2, hG⟩ := hG
  replace hX := fk_W hX (i := 22) (by decide) e2
  replace hG := zbnd hG
  obtain ⟨x5, e6, hG⟩ := hG
  replace hG := zgd_some hG
  obtain ⟨g9, hG⟩ := hG
  replace hG := zbnd hG
  obtain ⟨X7, e8, hG⟩ := hG
  replace hX := fk_W hX (i := 16) (by decide) e8
  replace hG := zbnd hG
  obtain ⟨p10, e11, hG⟩ := hG
  replace hX := fk_T hX (u190 e11)
  replace hG := zbnd hG
  obtain ⟨p12, e13, hG⟩ := hG
  replace hX := fk_T hX (u208 e13)
  replace hG := Option.some.inj hG
  subst hG
  exact hX
set_option maxRecDepth 20000 in
theorem ub233_208 {n : Nat}   {l1 : Int32} {l2 : Int32} {l3 : Int32} {s0 : Int32} {s1 : Int32} {X : zX} {p : Unit × zX} (hG : gb233_208 n  l1 l2 l3 s0 s1 X = some p) : fk X p.2 := by
  unfold gb233_208 at hG
  have hX : fk X X := fk_R
  replace hG := zgd_some hG
  obtain ⟨g3, hG⟩ := hG
  replace hG := zbnd hG
  obtain ⟨X1, e2, hG⟩ := hG
  replace hX := fk_W hX (i := 21) (by decide) e2
  replace hG := zbnd hG
  obtain ⟨x6, e7, hG⟩ := hG
  by_cases c8 : x6 = 2
  · rw [if_pos c8] at hG
    replace hG := zbnd hG
    obtain ⟨p9, e10, hG⟩ := hG
    replace hX := fk_T hX (u206 e10)
    exact fk_T hX (ub233_232  hG)
  · rw [if_neg c8] at hG
    exact fk_T hX (ub233_232  hG)
set_option maxRecDepth 20000 in
theorem ub233_176 {n : Nat}   {l1 : Int32} {l2 : Int32} {l3 : Int32} {s0 : Int32} {s1 : Int32} {X : zX} {p : Unit × zX} (hG : gb233_176 n  l1 l2 l3 s0 s1 X = some p) : fk X p.2 := by
  unfold gb233_176 at hG
  have hX : fk X X := fk_R
  replace hG := zgd_some hG
  obtain ⟨g3, hG⟩ := hG
  replace hG := zbnd hG
  obtain ⟨X1, e2, hG⟩ := hG
  replace hX := fk_W hX (i := 20) (by decide) e2
  by_cases c5 : l3 = 0
  · rw [if_pos c5] at hG
    exact fk_T hX (ub233_208  hG)
  · rw [if_neg c5] at hG
    replace hG := zbnd hG
    obtain ⟨p6, e7, hG⟩ := hG
    replace hX := fk_T hX (u213 e7)
    by_cases c8 : p6.1 = 0
    · rw [if_pos c8] at hG
      exact fk_T hX (ub233_208  hG)
    · rw [if_neg c8] at hG
      exact fk_T hX (ub233_208  hG)
set_option maxRecDepth 20000 in
theorem ub233_128 {n : Nat}   {l1 : Int32} {l2 : Int32} {l3 : Int32} {s0 : Int32} {X : zX} {p : Unit × zX} (hG : gb233_128 n  l1 l2 l3 s0 X = some p) : fk X p.2 := by
  unfold gb233_128 at hG
  have hX : fk X X := fk_R
  replace hG := zbnd hG
  obtain ⟨p1, e2, hG⟩ := hG
  replace hX := fk_T hX (u200 e2)
  by_cases c3 : (p1.2.1 73) = (-1)
  · rw [if_pos c3] at hG
    replace hG := zgd_some hG
    obtain ⟨g7, hG⟩ := hG
    replace hG := zbnd hG
    obtain ⟨X5, e6, hG⟩ := hG
    replace hX := fk_W hX (i := 23) (by decide) e6
    by_cases c9 : l3 = 0
    · rw [if_pos c9] at hG
      by_cases c10 : (X5.1 69) = 2
      · rw [if_pos c10] at hG
        exact fk_T hX (ub233_176  hG)
      · rw [if_neg c10] at hG
        exact fk_T hX (ub233_176  hG)
    · rw [if_neg c9] at hG
      exact fk_T hX (ub233_176  hG)
  · rw [if_neg c3] at hG
    replace hG := Option.some.inj hG
    subst hG
    exact hX
set_option maxRecDepth 20000 in
theorem ub233_123 {n : Nat}   {l1 : Int32} {l2 : Int32} {l3 : Int32} {X : zX} {p : Unit × zX} (hG : gb233_123 n  l1 l2 l3 X = some p) : fk X p.2 := by
  unfold gb233_123 at hG
  have hX : fk X X := fk_R
  exact fk_T hX (ub233_128  hG)
set_option maxRecDepth 20000 in
theorem ub233_102 {n : Nat}   {l1 : Int32} {l2 : Int32} {s0 : Int32} {X : zX} {p : Unit × zX} (hG : gb233_102 n  l1 l2 s0 X = some p) : fk X p.2 := by
  unfold gb233_102 at hG
  have hX : fk X X := fk_R
  by_cases c1 : (X.1 69) = 2
  · rw [if_pos c1] at hG
    exact fk_T hX (ub233_123  hG)
  · rw [if_neg c1] at hG
    by_cases c2 : s0 = 0
    · rw [if_pos c2] at hG
      replace hG := zbnd hG
      obtain ⟨p3, e4, hG⟩ := hG
      replace hX := fk_T hX (u203 e4)
      by_cases c5 : p3.1 = 0
      · rw [if_pos c5] at hG
        exact fk_T hX (ub233_128  hG)
      · rw [if_neg c5] at hG
        exact fk_T hX (ub233_123  hG)
    · rw [if_neg c2] at hG
      exact fk_T hX (ub233_123  hG)
set_option maxRecDepth 20000 in
theorem ub233_97 {n : Nat}   {l1 : Int32} {l2 : Int32} {X : zX} {p : Unit × zX} (hG : gb233_97 n  l1 l2 X = some p) : fk X p.2 := by
  unfold gb233_97 at hG
  have hX : fk X X := fk_R
  exact fk_T hX (ub233_102  hG)
set_option maxRecDepth 20000 in
theorem ub233_15 {n : Nat}   {l1 : Int32} {X : zX} {p : Unit × zX} (hG : gb233_15 n  l1 X = some p) : fk X p.2 := by
  unfold gb233_15 at hG
  have hX : fk X X := fk_R
  replace hG := zbnd hG
  obtain ⟨p1, e2, hG⟩ := hG
  replace hX := fk_T hX (u190 e2)
  replace hG := zbnd hG
  obtain ⟨p3, e4, hG⟩ := hG
  replace hX := fk_T hX (u203 e4)
  replace hG := zbnd hG
  obtain ⟨p5, e6, hG⟩ := hG
  replace hX := fk_T hX (u200 e6)
  by_cases c7 : (p5.2.1 73) = (-1)
  · rw [if_pos c7] at hG
    replace hG := zbnd hG
    obtain ⟨x9, e10, hG⟩ := hG
    replace hG := zbnd hG
    obtain ⟨p12, e13, hG⟩ := hG
    replace hX := fk_T hX (u206 e13)
    replace hG := zgd_some hG
    obtain ⟨g16, hG⟩ := hG
    replace hG := zbnd hG
    obtain ⟨X14, e15, hG⟩ := hG
    replace hX := fk_W hX (i := 17) (by decide) e15
    replace hG := zgd_some hG
    obtain ⟨g20, hG⟩ := hG
    replace hG := zbnd hG
    obtain ⟨X18, e19, hG⟩ := hG
    replace hX := fk_W hX (i := 18) (by decide) e19
    replace hG := zbnd hG
    obtain ⟨p21, e22, hG⟩ := hG
    replace hX := fk_T hX (u190 e22)
    replace hG := zbnd hG
    obtain ⟨p23, e24, hG⟩ := hG
    replace hX := fk_T hX (u208 e24)
    replace hG := zbnd hG
    obtain ⟨p25, e26, hG⟩ := hG
    replace hX := fk_T hX (u213 e26)
    by_cases c27 : p25.1 = 0
    · rw [if_pos c27] at hG
      replace hG := zbnd hG
      obtain ⟨p28, e29, hG⟩ := hG
      replace hX := fk_T hX (u213 e29)
      by_cases c30 : p28.1 = 0
      · rw [if_pos c30] at hG
        exact fk_T hX (ub233_102  hG)
      · rw [if_neg c30] at hG
        exact fk_T hX (ub233_97  hG)
    · rw [if_neg c27] at hG
      exact fk_T hX (ub233_97  hG)
  · rw [if_neg c7] at hG
    replace hG := Option.some.inj hG
    subst hG
    exact hX
set_option maxRecDepth 20000 in
theorem u233 {n : Nat} {y1 : Int32} {X : zX} {p : Unit × zX} (hG : g233 n y1 X = some p) : fk X p.2 := by
  unfold g233 at hG
  have hX : fk X X := fk_R
  replace hG := zbnd hG
  obtain ⟨x2, e3, hG⟩ := hG
  by_cases c4 : x2 = 4
  · rw [if_pos c4] at hG
    replace hG := zbnd hG
    obtain ⟨p5, e6, hG⟩ := hG
    replace hX := fk_T hX (u195 e6)
    exact fk_T hX (ub233_15  hG)
  · rw [if_neg c4] at hG
    exact fk_T hX (ub233_15  hG)
set_option maxRecDepth 20000 in
theorem ub234_242 {n : Nat}   {l1 : Int32} {l2 : Int32} {l3 : Int32} {l4 : Int32} {l5 : Int32} {l6 : Int32} {X : zX} {p : Unit × zX} (hG : gb234_242 n  l1 l2 l3 l4 l5 l6 X = some p) : fk X p.2 := by
  unfold gb234_242 at hG
  have hX : fk X X := fk_R
  replace hG := zbnd hG
  obtain ⟨p1, e2, hG⟩ := hG
  replace hX := fk_T hX (u208 e2)
  replace hG := Option.some.inj hG
  subst hG
  exact hX
set_option maxRecDepth 20000 in
theorem ub234_141 {n : Nat}   {l1 : Int32} {l2 : Int32} {l3 : Int32} {l4 : Int32} {l5 : Int32} {s0 : Int32} {X : zX} {p : Unit × zX} (hG : gb234_141 n  l1 l2 l3 l4 l5 s0 X = some p) : fk X p.2 := by
  unfold gb234_141 at hG
  have hX : fk X X := fk_R
  by_cases c1 : (X.1 73) = (-1)
  · rw [if_pos c1] at hG
    replace hG := zbnd hG
    obtain ⟨x3, e4, hG⟩ := hG
    replace hG := zgd_some hG
    obtain ⟨g8, hG⟩ := hG
    replace hG := zbnd hG
    obtain ⟨X6, e7, hG⟩ := hG
    replace hX := fk_W hX (i := 29) (by decide) e7
    replace hG := zgd_some hG
    obtain ⟨g12, hG⟩ := hG
    replace hG := zbnd hG
    obtain ⟨X10, e11, hG⟩ := hG
    replace hX := fk_W hX (i := 30) (by decide) e11
    replace hG := zgd_some hG
    obtain ⟨g16, hG⟩ := hG
    replace hG := zbnd hG
    obtain ⟨X14, e15, hG⟩ := hG
    replace hX := fk_W hX (i := 31) (by decide) e15
    replace hG := zgd_some hG
    obtain ⟨g20, hG⟩ := hG
    replace hG := zbnd hG
    obtain ⟨X18, e19, hG⟩ := hG
    replace hX := fk_W hX (i := 32) (by decide) e19
    replace hG := zbnd hG
    obtain ⟨x23, e24, hG⟩ := hG
    replace hG := zgd_some hG
    obtain ⟨g27, hG⟩ := hG
    replace hG := zbnd hG
    obtain ⟨X25, e26, hG⟩ := hG
    replace hX := fk_W hX (i := 33) (by decide) e26
    replace hG := zgd_some hG
    obtain ⟨g31, hG⟩ := hG
    replace hG := zbnd hG
    obtain ⟨X29, e30, hG⟩ := hG
    replace hX := fk_W hX (i := 34) (by decide) e30
    replace hG := zbnd hG
    obtain ⟨x33, e34, hG⟩ := hG
    replace hG := zgd_some hG
    obtain ⟨g37, hG⟩ := hG
    replace hG := zbnd hG
    obtain ⟨X35, e36, hG⟩ := hG
    replace hX := fk_W hX (i := 28) (by decide) e36
    exact fk_T hX (ub234_242  hG)
  · rw [if_neg c1] at hG
    exact fk_T hX (ub234_242  hG)
set_option maxRecDepth 20000 in
theorem ub234_109 {n : Nat}   {l1 : Int32} {l2 : Int32} {l3 : Int32} {l4 : Int32} {l5 : Int32} {s0 : Int32} {X : zX} {p : Unit × zX} (hG : gb234_109 n  l1 l2 l3 l4 l5 s0 X = some p) : fk X p.2 := by
  unfold gb234_109 at hG
  have hX : fk X X := fk_R
  replace hG := zbnd hG
  obtain ⟨p1, e2, hG⟩ := hG
  replace hX := fk_T hX (u200 e2)
  replace hG := zbnd hG
  obtain ⟨p3, e4, hG⟩ := hG
  replace hX := fk_T hX (u190 e4)
  by_cases c5 : (p3.2.1 73) = (-1)
  · rw [if_pos c5] at hG
    replace hG := zbnd hG
    obtain ⟨p6, e7, hG⟩ := hG
    replace hX := fk_T hX (u229 e7)
    exact fk_T hX (ub234_141  hG)
  · rw [if_neg c5] at hG
    exact fk_T hX (ub234_141  hG)
set_option maxRecDepth 20000 in
theorem ub234_92 {n : Nat}   {l1 : Int32} {l2 : Int32} {l3 : Int32} {l4 : Int32} {s0 : Int32} {X : zX} {p : Unit × zX} (hG : gb234_92 n  l1 l2 l3 l4 s0 X = some p) : fk X p.2 := by
  unfold gb234_92 at hG
  have hX : fk X X := fk_R
  by_cases c1 : (X.1 69) = 6
  · rw [if_pos c1] at hG
    exact fk_T hX (ub234_109  hG)
  · rw [if_neg c1] at hG
    exact fk_T hX (ub234_109  hG)
set_option maxRecDepth 20000 in
theorem ub234_64 {n : Nat}   {l1 : Int32} {l2 : Int32} {s0 : Int32} {X : zX} {p : Unit × zX} (hG : gb234_64 n  l1 l2 s0 X = some p) : fk X p.2 := by
  unfold gb234_64 at hG
  have hX : fk X X := fk_R
  replace hG := zbnd hG
  obtain ⟨x2, e3, hG⟩ := hG
  by_cases c4 : (X.1 73) = (-1)
  · rw [if_pos c4] at hG
    replace hG := zbnd hG
    obtain ⟨p5, e6, hG⟩ := hG
    replace hX := fk_T hX (u210 e6)
    exact fk_T hX (ub234_92  hG)
  · rw [if_neg c4] at hG
    exact fk_T hX (ub234_92  hG)
set_option maxRecDepth 20000 in
theorem ub234_27 {n : Nat}   {l1 : Int32} {l2 : Int32} {X : zX} {p : Unit × zX} (hG : gb234_27 n  l1 l2 X = some p) : fk X p.2 := by
  unfold gb234_27 at hG
  have hX : fk X X := fk_R
  replace hG := zbnd hG
  obtain ⟨p1, e2, hG⟩ := hG
  replace hX := fk_T hX (u190 e2)
  by_cases c3 : l2 = (-1)
  · rw [if_pos c3] at hG
    exact fk_T hX (ub234_64  hG)
  · rw [if_neg c3] at hG
    replace hG := zbnd hG
    obtain ⟨x6, e7, hG⟩ := hG
    replace hG := zbnd hG
    obtain ⟨p8, e9, hG⟩ := hG
    replace hX := fk_T hX (u216 e9)
    exact fk_T hX (ub234_64  hG)
set_option maxRecDepth 20000 in
theorem u234 {n : Nat} {y1 : Int32} {y2 : Int32} {X : zX} {p : Unit × zX} (hG : g234 n y1 y2 X = some p) : fk X p.2 := by
  unfold g234 at hG
  have hX : fk X X := fk_R
  by_cases c1 : (X.1 73) = (-1)
  · rw [if_pos c1] at hG
    replace hG := zbnd hG
    obtain ⟨x3, e4, hG⟩ := hG
    by_cases c5 : x3 = 100
    · rw [if_pos c5] at hG
      replace hG := zbnd hG
      obtain ⟨p6, e7, hG⟩ := hG
      replace hX := fk_T hX (u195 e7)
      exact fk_T hX (ub234_27  hG)
    · rw [if_neg c5] at hG
      exact fk_T hX (ub234_27  hG)
  · rw [if_neg c1] at hG
    exact fk_T hX (ub234_27  hG)
set_option maxRecDepth 20000 in
theorem ub226_327 {n : Nat}   {l1 : Int32} {l2 : Int32} {l3 : Int32} {l4 : Int32} {X : zX} {p : Unit × zX} (hG : gb226_327 n  l1 l2 l3 l4 X = some p) : fk X p.2 := by
  unfold gb226_327 at hG
  have hX : fk X X := fk_R
  replace hG := zbnd hG
  obtain ⟨p1, e2, hG⟩ := hG
  replace hX := fk_T hX (u208 e2)
  replace hG := Option.some.inj hG
  subst hG
  exact hX
set_option maxRecDepth 20000 in
theorem ub226_306 {n : Nat}   {l1 : Int32} {l2 : Int32} {l3 : Int32} {l4 : Int32} {X : zX} {p : Unit × zX} (hG : gb226_306 n  l1 l2 l3 l4 X = some p) : fk X p.2 := by
  unfold gb226_306 at hG
  have hX : fk X X := fk_R
  by_cases c1 : (X.1 73) = (-1)
  · rw [if_pos c1] at hG
    replace hG := zbnd hG
    obtain ⟨x3, e4, hG⟩ := hG
    replace hG := zgd_some hG
    obtain ⟨g7, hG⟩ := hG
    replace hG := zbnd hG
    obtain ⟨X5, e6, hG⟩ := hG
    replace hX := fk_W hX (i := 9) (by decide) e6
    exact fk_T hX (ub226_327  hG)
  · rw [if_neg c1] at hG
    exact fk_T hX (ub226_327  hG)
set_option maxRecDepth 20000 in
theorem ub226_271 {n : Nat} {q271 : Int32 → Int32 → Int32 → Int32 → zX → Option (Unit × zX)} (hr271 : ∀ {l1 : Int32} {l2 : Int32} {l3 : Int32} {l4 : Int32} {X : zX} {p : Unit × zX}, q271 l1 l2 l3 l4 X = some p → fk X p.2) {l1 : Int32} {l2 : Int32} {l3 : Int32} {l4 : Int32} {X : zX} {p : Unit × zX} (hG : gb226_271 n q271 l1 l2 l3 l4 X = some p) : fk X p.2 := by
  unfold gb226_271 at hG
  have hX : fk X X := fk_R
  by_cases c1 : (X.1 73) = (-1)
  · rw [if_pos c1] at hG
    replace hG := zbnd hG
    obtain ⟨p2, e3, hG⟩ := hG
    replace hX := fk_T hX (u213 e3)
    by_cases c4 : p2.1 = 0
    · rw [if_pos c4] at hG
      exact fk_T hX (ub226_306  hG)
    · rw [if_neg c4] at hG
      replace hG := zbnd hG
      obtain ⟨x6, e7, hG⟩ := hG
      replace hG := zbnd hG
      obtain ⟨p8, e9, hG⟩ := hG
      replace hX := fk_T hX (u234 e9)
      exact fk_T hX (hr271 hG)
  · rw [if_neg c1] at hG
    exact fk_T hX (ub226_306  hG)
theorem uf226_271 {n : Nat}   (k : Nat) : ∀ {l1 : Int32} {l2 : Int32} {l3 : Int32} {l4 : Int32} {X : zX} {p : Unit × zX}, gf226_271 n  k l1 l2 l3 l4 X = some p → fk X p.2 := by
  induction k with
  | zero => intros; rename_i hG; cases hG
  | succ k ih => intros; rename_i hG; exact ub226_271 (n := n) (q271 := gf226_271 n  k) ih hG
set_option maxRecDepth 20000 in
theorem ub226_245 {n : Nat} {q245 : Int32 → Int32 → Int32 → Int32 → zX → Option (Unit × zX)} (hr245 : ∀ {l1 : Int32} {l2 : Int32} {l3 : Int32} {l4 : Int32} {X : zX} {p : Unit × zX}, q245 l1 l2 l3 l4 X = some p → fk X p.2) {l1 : Int32} {l2 : Int32} {l3 : Int32} {l4 : Int32} {X : zX} {p : Unit × zX} (hG : gb226_245 n q245 l1 l2 l3 l4 X = some p) : fk X p.2 := by
  unfold gb226_245 at hG
  have hX : fk X X := fk_R
  by_cases c1 : (X.1 73) = (-1)
  · rw [if_pos c1] at hG
    replace hG := zbnd hG
    obtain ⟨p2, e3, hG⟩ := hG
    replace hX := fk_T hX (u213 e3)
    by_cases c4 : p2.1 = 0
    · rw [if_pos c4] at hG
      exact fk_T hX (uf226_271  n hG)
    · rw [if_neg c4] at hG
      replace hG := zbnd hG
      obtain ⟨p5, e6, hG⟩ := hG
      replace hX := fk_T hX (u233 e6)
      exact fk_T hX (hr245 hG)
  · rw [if_neg c1] at hG
    exact fk_T hX (uf226_271  n hG)
theorem uf226_245 {n : Nat}   (k : Nat) : ∀ {l1 : Int32} {l2 : Int32} {l3 : Int32} {l4 : Int32} {X : zX} {p : Unit × zX}, gf226_245 n  k l1 l2 l3 l4 X = some p → fk X p.2 := by
  induction k with
  | zero => intros; rename_i hG; cases hG
  | succ k ih => intros; rename_i hG; exact ub226_245 (n := n) (q245 := gf226_245 n  k) ih hG
set_option maxRecDepth 20000 in
theorem ub226_222 {n : Nat}   {l1 : Int32} {l2 : Int32} {l3 : Int32} {s0 : Int32} {X : zX} {p : Unit × zX} (hG : gb226_222 n  l1 l2 l3 s0 X = some p) : fk X p.2 := by
  unfold gb226_222 at hG
  have hX : fk X X := fk_R
  replace hG := zbnd hG
  obtain ⟨p1, e2, hG⟩ := hG
  replace hX := fk_T hX (u208 e2)
  replace hG := zgd_some hG
  obtain ⟨g6, hG⟩ := hG
  replace hG := zbnd hG
  obtain ⟨X4, e5, hG⟩ := hG
  replace hX := fk_W hX (i := 14) (by decide) e5
  replace hG := zgd_some hG
  obtain ⟨g10, hG⟩ := hG
  replace hG := zbnd hG
  obtain ⟨X8, e9, hG⟩ := hG
  replace hX := fk_W hX (i := 15) (by decide) e9
  exact fk_T hX (uf226_245  n hG)
set_option maxRecDepth 20000 in
theorem ub226_191 {n : Nat}   {l1 : Int32} {l2 : Int32} {s0 : Int32} {X : zX} {p : Unit × zX} (hG : gb226_191 n  l1 l2 s0 X = some p) : fk X p.2 := by
  unfold gb226_191 at hG
  have hX : fk X X := fk_R
  replace hG := zbnd hG
  obtain ⟨p1, e2, hG⟩ := hG
  replace hX := fk_T hX (u208 e2)
  replace hG := zbnd hG
  obtain ⟨p3, e4, hG⟩ := hG
  replace hX := fk_T hX (u228 e4)
  by_cases c5 : (p3.2.1 73) = (-1)
  · rw [if_pos c5] at hG
    replace hG := zbnd hG
    obtain ⟨p6, e7, hG⟩ := hG
    replace hX := fk_T hX (u232 e7)
    exact fk_T hX (ub226_222  hG)
  · rw [if_neg c5] at hG
    exact fk_T hX (ub226_222  hG)
set_option maxRecDepth 20000 in
theorem ub226_161 {n : Nat}   {l1 : Int32} {l2 : Int32} {X : zX} {p : Unit × zX} (hG : gb226_161 n  l1 l2 X = some p) : fk X p.2 := by
  unfold gb226_161 at hG
  have hX : fk X X := fk_R
  replace hG := zbnd hG
  obtain ⟨p1, e2, hG⟩ := hG
  replace hX := fk_T hX (u208 e2)
  replace hG := zbnd hG
  obtain ⟨p3, e4, hG⟩ := hG
  replace hX := fk_T hX (u228 e4)
  by_cases c5 : (p3.2.1 73) = (-1)
  · rw [if_pos c5] at hG
    replace hG := zbnd hG
    obtain ⟨p6, e7, hG⟩ := hG
    replace hX := fk_T hX (u229 e7)
    exact fk_T hX (ub226_191  hG)
  · rw [if_neg c5] at hG
    exact fk_T hX (ub226_191  hG)
set_option maxRecDepth 20000 in
theorem ub226_131 {n : Nat}   {l1 : Int32} {l2 : Int32} {s0 : Int32} {X : zX} {p : Unit × zX} (hG : gb226_131 n  l1 l2 s0 X = some p) : fk X p.2 := by
  unfold gb226_131 at hG
  have hX : fk X X := fk_R
  replace hG := zbnd hG
  obtain ⟨p1, e2, hG⟩ := hG
  replace hX := fk_T hX (u200 e2)
  replace hG := zbnd hG
  obtain ⟨p3, e4, hG⟩ := hG
  replace hX := fk_T hX (u190 e4)
  by_cases c5 : (p3.2.1 73) = (-1)
  · rw [if_pos c5] at hG
    replace hG := zbnd hG
    obtain ⟨x7, e8, hG⟩ := hG
    by_cases c9 : x7 = 2
    · rw [if_pos c9] at hG
      replace hG := zbnd hG
      obtain ⟨p10, e11, hG⟩ := hG
      replace hX := fk_T hX (u227 e11)
      exact fk_T hX (ub226_161  hG)
    · rw [if_neg c9] at hG
      exact fk_T hX (ub226_161  hG)
  · rw [if_neg c5] at hG
    exact fk_T hX (ub226_161  hG)
set_option maxRecDepth 20000 in
theorem ub226_19 {n : Nat}    {X : zX} {p : Unit × zX} (hG : gb226_19 n   X = some p) : fk X p.2 := by
  unfold gb226_19 at hG
  have hX : fk X X := fk_R
  replace hG := zbnd hG
  obtain ⟨p1, e2, hG⟩ := hG
  replace hX := fk_T hX (u190 e2)
  replace hG := zbnd hG
  obtain ⟨x5, e6, hG⟩ := hG
  replace hG := zbnd hG
  obtain ⟨p7, e8, hG⟩ := hG
  replace hX := fk_T hX (u202 e8)
  replace hG := zbnd hG
  obtain ⟨p9, e10, hG⟩ := hG
  replace hX := fk_T hX (u208 e10)
  by_cases c11 : (p9.2.1 73) = (-1)
  · rw [if_pos c11] at hG
    replace hG := zbnd hG
    obtain ⟨x13, e14, hG⟩ := hG
    replace hG := zgd_some hG
    obtain ⟨g18, hG⟩ := hG
    replace hG := zbnd hG
    obtain ⟨X16, e17, hG⟩ := hG
    replace hX := fk_W hX (i := 10) (by decide) e17
    replace hG := zbnd hG
    obtain ⟨p20, e21, hG⟩ := hG
    replace hX := fk_T hX (u199 e21)
    replace hG := zgd_some hG
    obtain ⟨g24, hG⟩ := hG
    replace hG := zbnd hG
    obtain ⟨X22, e23, hG⟩ := hG
    replace hX := fk_W hX (i := 11) (by decide) e23
    replace hG := zgd_some hG
    obtain ⟨g28, hG⟩ := hG
    replace hG := zbnd hG
    obtain ⟨X26, e27, hG⟩ := hG
    replace hX := fk_W hX (i := 12) (by decide) e27
    replace hG := zgd_some hG
    obtain ⟨g32, hG⟩ := hG
    replace hG := zbnd hG
    obtain ⟨X30, e31, hG⟩ := hG
    replace hX := fk_W hX (i := 16) (by decide) e31
    replace hG := zbnd hG
    obtain ⟨x34, e35, hG⟩ := hG
    by_cases c36 : x34 = (-1)
    · rw [if_pos c36] at hG
      exact fk_T hX (ub226_131  hG)
    · rw [if_neg c36] at hG
      exact fk_T hX (ub226_131  hG)
  · rw [if_neg c11] at hG
    replace hG := Option.some.inj hG
    subst hG
    exact hX
set_option maxRecDepth 20000 in
theorem u226 {n : Nat}  {X : zX} {p : Unit × zX} (hG : g226 n  X = some p) : fk X p.2 := by
  unfold g226 at hG
  have hX : fk X X := fk_R
  replace hG := zbnd hG
  obtain ⟨x2, e3, hG⟩ := hG
  by_cases c4 : x2 = 24
  · rw [if_pos c4] at hG
    replace hG := zbnd hG
    obtain ⟨p5, e6, hG⟩ := hG
    replace hX := fk_T hX (u195 e6)
    exact fk_T hX (ub226_19  hG)
  · rw [if_neg c4] at hG
    exact fk_T hX (ub226_19  hG)
set_option maxRecDepth 20000 in
theorem ub236_153 {n : Nat}   {l1 : Int32} {l2 : Int32} {l3 : Int32} {l4 : Int32} {X : zX} {p : Unit × zX} (hG : gb236_153 n  l1 l2 l3 l4 X = some p) : fk X p.2 := by
  unfold gb236_153 at hG
  have hX : fk X X := fk_R
  replace hG := zbnd hG
  obtain ⟨p1, e2, hG⟩ := hG
  replace hX := fk_T hX (u208 e2)
  replace hG := Option.some.inj hG
  subst hG
  exact hX
set_option maxRecDepth 20000 in
theorem ub236_88 {n : Nat}   {l1 : Int32} {l2 : Int32} {l3 : Int32} {l4 : Int32} {X : zX} {p : Unit × zX} (hG : gb236_88 n  l1 l2 l3 l4 X = some p) : fk X p.2 := by
  unfold gb236_88 at hG
  have hX : fk X X := fk_R
  by_cases c1 : (X.1 73) = (-1)
  · rw [if_pos c1] at hG
    replace hG := zbnd hG
    obtain ⟨x3, e4, hG⟩ := hG
    replace hG := zgd_some hG
    obtain ⟨g8, hG⟩ := hG
    replace hG := zbnd hG
    obtain ⟨X6, e7, hG⟩ := hG
    replace hX := fk_W hX (i := 36) (by decide) e7
    replace hG := zgd_some hG
    obtain ⟨g12, hG⟩ := hG
    replace hG := zbnd hG
    obtain ⟨X10, e11, hG⟩ := hG
    replace hX := fk_W hX (i := 37) (by decide) e11
    replace hG := zgd_some hG
    obtain ⟨g16, hG⟩ := hG
    replace hG := zbnd hG
    obtain ⟨X14, e15, hG⟩ := hG
    replace hX := fk_W hX (i := 38) (by decide) e15
    replace hG := zbnd hG
    obtain ⟨x18, e19, hG⟩ := hG
    replace hG := zgd_some hG
    obtain ⟨g22, hG⟩ := hG
    replace hG := zbnd hG
    obtain ⟨X20, e21, hG⟩ := hG
    replace hX := fk_W hX (i := 35) (by decide) e21
    exact fk_T hX (ub236_153  hG)
  · rw [if_neg c1] at hG
    exact fk_T hX (ub236_153  hG)
set_option maxRecDepth 20000 in
theorem ub236_86 {n : Nat}   {l1 : Int32} {l2 : Int32} {l3 : Int32} {l4 : Int32} {s0 : Int32} {X : zX} {p : Unit × zX} (hG : gb236_86 n  l1 l2 l3 l4 s0 X = some p) : fk X p.2 := by
  unfold gb236_86 at hG
  have hX : fk X X := fk_R
  exact fk_T hX (ub236_88  hG)
set_option maxRecDepth 20000 in
theorem ub236_19 {n : Nat}   {l1 : Int32} {l2 : Int32} {X : zX} {p : Unit × zX} (hG : gb236_19 n  l1 l2 X = some p) : fk X p.2 := by
  unfold gb236_19 at hG
  have hX : fk X X := fk_R
  replace hG := zbnd hG
  obtain ⟨p1, e2, hG⟩ := hG
  replace hX := fk_T hX (u190 e2)
  replace hG := zbnd hG
  obtain ⟨x5, e6, hG⟩ := hG
  replace hG := zbnd hG
  obtain ⟨p7, e8, hG⟩ := hG
  replace hX := fk_T hX (u216 e8)
  by_cases c9 : l2 = 0
  · rw [if_pos c9] at hG
    exact fk_T hX (ub236_88  hG)
  · rw [if_neg c9] at hG
    replace hG := zbnd hG
    obtain ⟨p10, e11, hG⟩ := hG
    replace hX := fk_T hX (u208 e11)
    by_cases c12 : (p10.2.1 73) = (-1)
    · rw [if_pos c12] at hG
      replace hG := zbnd hG
      obtain ⟨p13, e14, hG⟩ := hG
      replace hX := fk_T hX (u229 e14)
      exact fk_T hX (ub236_86  hG)
    · rw [if_neg c12] at hG
      exact fk_T hX (ub236_86  hG)
set_option maxRecDepth 20000 in
theorem u236 {n : Nat} {y1 : Int32} {y2 : Int32} {X : zX} {p : Unit × zX} (hG : g236 n y1 y2 X = some p) : fk X p.2 := by
  unfold g236 at hG
  have hX : fk X X := fk_R
  replace hG := zbnd hG
  obtain ⟨x2, e3, hG⟩ := hG
  by_cases c4 : x2 = 40
  · rw [if_pos c4] at hG
    replace hG := zbnd hG
    obtain ⟨p5, e6, hG⟩ := hG
    replace hX := fk_T hX (u195 e6)
    exact fk_T hX (ub236_19  hG)
  · rw [if_neg c4] at hG
    exact fk_T hX (ub236_19  hG)
set_option maxRecDepth 20000 in
theorem ub235_241 {n : Nat}   {l1 : Int32} {l2 : Int32} {l3 : Int32} {l4 : Int32} {X : zX} {p : Unit × zX} (hG : gb235_241 n  l1 l2 l3 l4 X = some p) : fk X p.2 := by
  unfold gb235_241 at hG
  have hX : fk X X := fk_R
  replace hG := zbnd hG
  obtain ⟨p1, e2, hG⟩ := hG
  replace hX := fk_T hX (u208 e2)
  replace hG := Option.some.inj hG
  subst hG
  exact hX
set_option maxRecDepth 20000 in
theorem ub235_220 {n : Nat} {q168 : Int32 → Int32 → Int32 → Int32 → zX → Option (Unit × zX)} (hr168 : ∀ {l1 : Int32} {l2 : Int32} {l3 : Int32} {l4 : Int32} {X : zX} {p : Unit × zX}, q168 l1 l2 l3 l4 X = some p → fk X p.2) {l1 : Int32} {l2 : Int32} {l3 : Int32} {l4 : Int32} {X : zX} {p : Unit × zX} (hG : gb235_220 n q168 l1 l2 l3 l4 X = some p) : fk X p.2 := by
  unfold gb235_220 at hG
  have hX : fk X X := fk_R
  replace hG := zbnd hG
  obtain ⟨p1, e2, hG⟩ := hG
  replace hX := fk_T hX (u213 e2)
  replace hG := zbnd hG
  obtain ⟨p3, e4, hG⟩ := hG
  replace hX := fk_T hX (u236 e4)
  exact fk_T hX (hr168 hG)
set_option maxRecDepth 20000 in
theorem ub235_168 {n : Nat} {q168 : Int32 → Int32 → Int32 → Int32 → zX → Option (Unit × zX)} (hr168 : ∀ {l1 : Int32} {l2 : Int32} {l3 : Int32} {l4 : Int32} {X : zX} {p : Unit × zX}, q168 l1 l2 l3 l4 X = some p → fk X p.2) {l1 : Int32} {l2 : Int32} {l3 : Int32} {l4 : Int32} {X : zX} {p : Unit × zX} (hG : gb235_168 n q168 l1 l2 l3 l4 X = some p) : fk X p.2 := by
  unfold gb235_168 at hG
  have hX : fk X X := fk_R
  by_cases c1 : l4 = 0
  · rw [if_pos c1] at hG
    exact fk_T hX (ub235_241  hG)
  · rw [if_neg c1] at hG
    by_cases c2 : (X.1 73) = (-1)
    · rw [if_pos c2] at hG
      replace hG := zbnd hG
      obtain ⟨p3, e4, hG⟩ := hG
      replace hX := fk_T hX (u213 e4)
      by_cases c5 : p3.1 = 0
      · rw [if_pos c5] at hG
        replace hG := zbnd hG
        obtain ⟨p6, e7, hG⟩ := hG
        replace hX := fk_T hX (u213 e7)
        by_cases c8 : p6.1 = 0
        · rw [if_pos c8] at hG
          replace hG := zbnd hG
          obtain ⟨p9, e10, hG⟩ := hG
          replace hX := fk_T hX (u213 e10)
          by_cases c11 : p9.1 = 0
          · rw [if_pos c11] at hG
            exact fk_T hX (hr168 hG)
          · rw [if_neg c11] at hG
            exact fk_T hX (ub235_220 hr168 hG)
        · rw [if_neg c8] at hG
          exact fk_T hX (ub235_220 hr168 hG)
      · rw [if_neg c5] at hG
        replace hG := zbnd hG
        obtain ⟨p12, e13, hG⟩ := hG
        replace hX := fk_T hX (u234 e13)
        exact fk_T hX (hr168 hG)
    · rw [if_neg c2] at hG
      exact fk_T hX (ub235_241  hG)
theorem uf235_168 {n : Nat}   (k : Nat) : ∀ {l1 : Int32} {l2 : Int32} {l3 : Int32} {l4 : Int32} {X : zX} {p : Unit × zX}, gf235_168 n  k l1 l2 l3 l4 X = some p → fk X p.2 := by
  induction k with
  | zero => intros; rename_i hG; cases hG
  | succ k ih => intros; rename_i hG; exact ub235_168 (n := n) (q168 := gf235_168 n  k) ih hG
set_option maxRecDepth 20000 in
theorem ub235_97 {n : Nat}   {l1 : Int32} {l2 : Int32} {X : zX} {p : Unit × zX} (hG : gb235_97 n  l1 l2 X = some p) : fk X p.2 := by
  unfold gb235_97 at hG
  have hX : fk X X := fk_R
  replace hG := zbnd hG
  obtain ⟨p1, e2, hG⟩ := hG
  replace hX := fk_T hX (u208 e2)
  by_cases c3 : (p1.2.1 73) = (-1)
  · rw [if_pos c3] at hG
    replace hG := zbnd hG
    obtain ⟨x5, e6, hG⟩ := hG
    replace hG := zgd_some hG
    obtain ⟨g10, hG⟩ := hG
    replace hG := zbnd hG
    obtain ⟨X8, e9, hG⟩ := hG
    replace hX := fk_W hX (i := 26) (by decide) e9
    replace hG := zgd_some hG
    obtain ⟨g14, hG⟩ := hG
    replace hG := zbnd hG
    obtain ⟨X12, e13, hG⟩ := hG
    replace hX := fk_W hX (i := 27) (by decide) e13
    replace hG := zbnd hG
    obtain ⟨x16, e17, hG⟩ := hG
    replace hG := zgd_some hG
    obtain ⟨g20, hG⟩ := hG
    replace hG := zbnd hG
    obtain ⟨X18, e19, hG⟩ := hG
    replace hX := fk_W hX (i := 25) (by decide) e19
    exact fk_T hX (uf235_168  n hG)
  · rw [if_neg c3] at hG
    replace hG := Option.some.inj hG
    subst hG
    exact hX
set_option maxRecDepth 20000 in
theorem ub235_19 {n : Nat}    {X : zX} {p : Unit × zX} (hG : gb235_19 n   X = some p) : fk X p.2 := by
  unfold gb235_19 at hG
  have hX : fk X X := fk_R
  replace hG := zbnd hG
  obtain ⟨p1, e2, hG⟩ := hG
  replace hX := fk_T hX (u190 e2)
  replace hG := zbnd hG
  obtain ⟨x5, e6, hG⟩ := hG
  replace hG := zbnd hG
  obtain ⟨p7, e8, hG⟩ := hG
  replace hX := fk_T hX (u202 e8)
  by_cases c9 : (p7.2.1 73) = (-1)
  · rw [if_pos c9] at hG
    replace hG := zbnd hG
    obtain ⟨p10, e11, hG⟩ := hG
    replace hX := fk_T hX (u213 e11)
    by_cases c12 : p10.1 = 0
    · rw [if_pos c12] at hG
      exact fk_T hX (ub235_97  hG)
    · rw [if_neg c12] at hG
      replace hG := zbnd hG
      obtain ⟨p13, e14, hG⟩ := hG
      replace hX := fk_T hX (u190 e14)
      replace hG := zbnd hG
      obtain ⟨x17, e18, hG⟩ := hG
      replace hG := zbnd hG
      obtain ⟨p19, e20, hG⟩ := hG
      replace hX := fk_T hX (u216 e20)
      exact fk_T hX (ub235_97  hG)
  · rw [if_neg c9] at hG
    exact fk_T hX (ub235_97  hG)
set_option maxRecDepth 20000 in
theorem u235 {n : Nat}  {X : zX} {p : Unit × zX} (hG : g235 n  X = some p) : fk X p.2 := by
  unfold g235 at hG
  have hX : fk X X := fk_R
  replace hG := zbnd hG
  obtain ⟨x2, e3, hG⟩ := hG
  by_cases c4 : x2 = 8
  · rw [if_pos c4] at hG
    replace hG := zbnd hG
    obtain ⟨p5, e6, hG⟩ := hG
    replace hX := fk_T hX (u195 e6)
    exact fk_T hX (ub235_19  hG)
  · rw [if_neg c4] at hG
    exact fk_T hX (ub235_19  hG)
set_option maxRecDepth 20000 in
theorem ub238_71 {n : Nat} {q24 : Int32 → Int32 → Int32 → Int32 → zX → Option (Int32 × zX)} (hr24 : ∀ {l1 : Int32} {l2 : Int32} {l3 : Int32} {l4 : Int32} {X : zX} {p : Int32 × zX}, q24 l1 l2 l3 l4 X = some p → fk X p.2) {l1 : Int32} {l2 : Int32} {l3 : Int32} {l4 : Int32} {s0 : Int32} {X : zX} {p : Int32 × zX} (hG : gb238_71 n q24 l1 l2 l3 l4 s0 X = some p) : fk X p.2 := by
  unfold gb238_71 at hG
  have hX : fk X X := fk_R
  exact fk_T hX (hr24 hG)
set_option maxRecDepth 20000 in
theorem ub238_24 {n : Nat} {q24 : Int32 → Int32 → Int32 → Int32 → zX → Option (Int32 × zX)} (hr24 : ∀ {l1 : Int32} {l2 : Int32} {l3 : Int32} {l4 : Int32} {X : zX} {p : Int32 × zX}, q24 l1 l2 l3 l4 X = some p → fk X p.2) {l1 : Int32} {l2 : Int32} {l3 : Int32} {l4 : Int32} {X : zX} {p : Int32 × zX} (hG : gb238_24 n q24 l1 l2 l3 l4 X = some p) : fk X p.2 := by
  unfold gb238_24 at hG
  have hX : fk X X := fk_R
  replace hG := zbnd hG
  obtain ⟨x2, e3, hG⟩ := hG
  by_cases c4 : x2 ≤ l4
  · rw [if_pos c4] at hG
    replace hG := zgd_some hG
    obtain ⟨g5, hG⟩ := hG
    replace hG := Option.some.inj hG
    subst hG
    exact hX
  · rw [if_neg c4] at hG
    by_cases c6 : l3 = 0
    · rw [if_pos c6] at hG
      replace hG := zgd_some hG
      obtain ⟨g7, hG⟩ := hG
      replace hG := Option.some.inj hG
      subst hG
      exact hX
    · rw [if_neg c6] at hG
      replace hG := zbnd hG
      obtain ⟨x9, e10, hG⟩ := hG
      replace hG := zbnd hG
      obtain ⟨x12, e13, hG⟩ := hG
      by_cases c14 : x9 = x12
      · rw [if_pos c14] at hG
        exact fk_T hX (ub238_71 hr24 hG)
      · rw [if_neg c14] at hG
        exact fk_T hX (ub238_71 hr24 hG)
theorem uf238_24 {n : Nat}   (k : Nat) : ∀ {l1 : Int32} {l2 : Int32} {l3 : Int32} {l4 : Int32} {X : zX} {p : Int32 × zX}, gf238_24 n  k l1 l2 l3 l4 X = some p → fk X p.2 := by
  induction k with
  | zero => intros; rename_i hG; cases hG
  | succ k ih => intros; rename_i hG; exact ub238_24 (n := n) (q24 := gf238_24 n  k) ih hG
set_option maxRecDepth 20000 in
theorem ub238_20 {n : Nat}   {l1 : Int32} {l2 : Int32} {s0 : Int32} {X : zX} {p : Int32 × zX} (hG : gb238_20 n  l1 l2 s0 X = some p) : fk X p.2 := by
  unfold gb238_20 at hG
  have hX : fk X X := fk_R
  exact fk_T hX (uf238_24  n hG)
set_option maxRecDepth 20000 in
theorem u238 {n : Nat} {y1 : Int32} {y2 : Int32} {X : zX} {p : Int32 × zX} (hG : g238 n y1 y2 X = some p) : fk X p.2 := by
  unfold g238 at hG
  have hX : fk X X := fk_R
  replace hG := zbnd hG
  obtain ⟨x2, e3, hG⟩ := hG
  replace hG := zbnd hG
  obtain ⟨x5, e6, hG⟩ := hG
  by_cases c7 : x2 = x5
  · rw [if_pos c7] at hG
    exact fk_T hX (ub238_20  hG)
  · rw [if_neg c7] at hG
    exact fk_T hX (ub238_20  hG)
set_option maxRecDepth 20000 in
theorem ub237_311 {n : Nat} {q2 : Int32 → zX → Option (Unit × zX)} (hr2 : ∀ {l1 : Int32} {X : zX} {p : Unit × zX}, q2 l1 X = some p → fk X p.2) {l1 : Int32} {l2 : Int32} {X : zX} {p : Unit × zX} (hG : gb237_311 n q2 l1 l2 X = some p) : fk X p.2 := by
  unfold gb237_311 at hG
  have hX : fk X X := fk_R
  exact fk_T hX (hr2 hG)
set_option maxRecDepth 20000 in
theorem ub237_140 {n : Nat}   {l1 : Int32} {l2 : Int32} {l3 : Int32} {l4 : Int32} {l5 : Int32} {X : zX} {p : Unit × zX} (hG : gb237_140 n  l1 l2 l3 l4 l5 X = some p) : fk X p.2 := by
  unfold gb237_140 at hG
  have hX : fk X X := fk_R
  replace hG := zbnd hG
  obtain ⟨x2, e3, hG⟩ := hG
  replace hG := zbnd hG
  obtain ⟨p4, e5, hG⟩ := hG
  replace hX := fk_T hX (u196 e5)
  replace hG := Option.some.inj hG
  subst hG
  exact hX
set_option maxRecDepth 20000 in
theorem ub237_285 {n : Nat}   {l1 : Int32} {l2 : Int32} {l3 : Int32} {l4 : Int32} {l5 : Int32} {X : zX} {p : Unit × zX} (hG : gb237_285 n  l1 l2 l3 l4 l5 X = some p) : fk X p.2 := by
  unfold gb237_285 at hG
  have hX : fk X X := fk_R
  replace hG := zbnd hG
  obtain ⟨x2, e3, hG⟩ := hG
  replace hG := zbnd hG
  obtain ⟨p4, e5, hG⟩ := hG
  replace hX := fk_T hX (u196 e5)
  replace hG := Option.some.inj hG
  subst hG
  exact hX
set_option maxRecDepth 20000 in
theorem ub237_297 {n : Nat} {q2 : Int32 → zX → Option (Unit × zX)} {q17 : Int32 → Int32 → zX → Option (Unit × zX)} (hr2 : ∀ {l1 : Int32} {X : zX} {p : Unit × zX}, q2 l1 X = some p → fk X p.2) (hr17 : ∀ {l1 : Int32} {l2 : Int32} {X : zX} {p : Unit × zX}, q17 l1 l2 X = some p → fk X p.2) {l1 : Int32} {l2 : Int32} {l3 : Int32} {l4 : Int32} {l5 : Int32} {X : zX} {p : Unit × zX} (hG : gb237_297 n q2 q17 l1 l2 l3 l4 l5 X = some p) : fk X p.2 := by
  unfold gb237_297 at hG
  have hX : fk X X := fk_R
  replace hG := zgd_some hG
  obtain ⟨g4, hG⟩ := hG
  replace hG := zbnd hG
  obtain ⟨X2, e3, hG⟩ := hG
  replace hX := fk_W hX (i := 24) (by decide) e3
  exact fk_T hX (hr17 hG)
set_option maxRecDepth 20000 in
theorem ub237_245 {n : Nat} {q2 : Int32 → zX → Option (Unit × zX)} {q17 : Int32 → Int32 → zX → Option (Unit × zX)} (hr2 : ∀ {l1 : Int32} {X : zX} {p : Unit × zX}, q2 l1 X = some p → fk X p.2) (hr17 : ∀ {l1 : Int32} {l2 : Int32} {X : zX} {p : Unit × zX}, q17 l1 l2 X = some p → fk X p.2) {l1 : Int32} {l2 : Int32} {l3 : Int32} {l4 : Int32} {l5 : Int32} {X : zX} {p : Unit × zX} (hG : gb237_245 n q2 q17 l1 l2 l3 l4 l5 X = some p) : fk X p.2 := by
  unfold gb237_245 at hG
  have hX : fk X X := fk_R
  replace hG := zbnd hG
  obtain ⟨x2, e3, hG⟩ := hG
  replace hG := zbnd hG
  obtain ⟨x5, e6, hG⟩ := hG
  by_cases c7 : x2 = x5
  · rw [if_pos c7] at hG
    replace hG := zbnd hG
    obtain ⟨x9, e10, hG⟩ := hG
    by_cases c11 : x9 = 2
    · rw [if_pos c11] at hG
      by_cases c12 : l5 = (-1)
      · rw [if_pos c12] at hG
        exact fk_T hX (ub237_285  hG)
      · rw [if_neg c12] at hG
        exact fk_T hX (ub237_297 hr2 hr17 hG)
    · rw [if_neg c11] at hG
      exact fk_T hX (ub237_297 hr2 hr17 hG)
  · rw [if_neg c7] at hG
    exact fk_T hX (ub237_285  hG)
set_option maxRecDepth 20000 in
theorem ub237_237 {n : Nat} {q2 : Int32 → zX → Option (Unit × zX)} {q17 : Int32 → Int32 → zX → Option (Unit × zX)} {q176 : Int32 → Int32 → Int32 → Int32 → Int32 → Int32 → zX → Option (Unit × zX)} (hr2 : ∀ {l1 : Int32} {X : zX} {p : Unit × zX}, q2 l1 X = some p → fk X p.2) (hr17 : ∀ {l1 : Int32} {l2 : Int32} {X : zX} {p : Unit × zX}, q17 l1 l2 X = some p → fk X p.2) (hr176 : ∀ {l1 : Int32} {l2 : Int32} {l3 : Int32} {l4 : Int32} {l5 : Int32} {l6 : Int32} {X : zX} {p : Unit × zX}, q176 l1 l2 l3 l4 l5 l6 X = some p → fk X p.2) {l1 : Int32} {l2 : Int32} {l3 : Int32} {l4 : Int32} {l5 : Int32} {l6 : Int32} {s0 : Int32} {X : zX} {p : Unit × zX} (hG : gb237_237 n q2 q17 q176 l1 l2 l3 l4 l5 l6 s0 X = some p) : fk X p.2 := by
  unfold gb237_237 at hG
  have hX : fk X X := fk_R
  exact fk_T hX (hr176 hG)
set_option maxRecDepth 20000 in
theorem ub237_176 {n : Nat} {q2 : Int32 → zX → Option (Unit × zX)} {q17 : Int32 → Int32 → zX → Option (Unit × zX)} {q176 : Int32 → Int32 → Int32 → Int32 → Int32 → Int32 → zX → Option (Unit × zX)} (hr2 : ∀ {l1 : Int32} {X : zX} {p : Unit × zX}, q2 l1 X = some p → fk X p.2) (hr17 : ∀ {l1 : Int32} {l2 : Int32} {X : zX} {p : Unit × zX}, q17 l1 l2 X = some p → fk X p.2) (hr176 : ∀ {l1 : Int32} {l2 : Int32} {l3 : Int32} {l4 : Int32} {l5 : Int32} {l6 : Int32} {X : zX} {p : Unit × zX}, q176 l1 l2 l3 l4 l5 l6 X = some p → fk X p.2) {l1 : Int32} {l2 : Int32} {l3 : Int32} {l4 : Int32} {l5 : Int32} {l6 : Int32} {X : zX} {p : Unit × zX} (hG : gb237_176 n q2 q17 q176 l1 l2 l3 l4 l5 l6 X = some p) : fk X p.2 := by
  unfold gb237_176 at hG
  have hX : fk X X := fk_R
  replace hG := zbnd hG
  obtain ⟨x2, e3, hG⟩ := hG
  by_cases c4 : x2 ≤ l6
  · rw [if_pos c4] at hG
    exact fk_T hX (ub237_245 hr2 hr17 hG)
  · rw [if_neg c4] at hG
    replace hG := zbnd hG
    obtain ⟨x6, e7, hG⟩ := hG
    replace hG := zbnd hG
    obtain ⟨x9, e10, hG⟩ := hG
    replace hG := zbnd hG
    obtain ⟨p11, e12, hG⟩ := hG
    replace hX := fk_T hX (u238 e12)
    by_cases c13 : p11.1 = 0
    · rw [if_pos c13] at hG
      exact fk_T hX (ub237_237 hr2 hr17 hr176 hG)
    · rw [if_neg c13] at hG
      exact fk_T hX (ub237_237 hr2 hr17 hr176 hG)
theorem uf237_176 {n : Nat} {q2 : Int32 → zX → Option (Unit × zX)} {q17 : Int32 → Int32 → zX → Option (Unit × zX)} (hr2 : ∀ {l1 : Int32} {X : zX} {p : Unit × zX}, q2 l1 X = some p → fk X p.2) (hr17 : ∀ {l1 : Int32} {l2 : Int32} {X : zX} {p : Unit × zX}, q17 l1 l2 X = some p → fk X p.2) (k : Nat) : ∀ {l1 : Int32} {l2 : Int32} {l3 : Int32} {l4 : Int32} {l5 : Int32} {l6 : Int32} {X : zX} {p : Unit × zX}, gf237_176 n q2 q17 k l1 l2 l3 l4 l5 l6 X = some p → fk X p.2 := by
  induction k with
  | zero => intros; rename_i hG; cases hG
  | succ k ih => intros; rename_i hG; exact ub237_176 (n := n) (q2 := q2) (q17 := q17) (q176 := gf237_176 n q2 q17 k) hr2 hr17 ih hG
set_option maxRecDepth 20000 in
theorem ub237_112 {n : Nat} {q2 : Int32 → zX → Option (Unit × zX)} {q17 : Int32 → Int32 → zX → Option (Unit × zX)} {q63 : Int32 → Int32 → Int32 → Int32 → Int32 → zX → Option (Unit × zX)} (hr2 : ∀ {l1 : Int32} {X : zX} {p : Unit × zX}, q2 l1 X = some p → fk X p.2) (hr17 : ∀ {l1 : Int32} {l2 : Int32} {X : zX} {p : Unit × zX}, q17 l1 l2 X = some p → fk X p.2) (hr63 : ∀ {l1 : Int32} {l2 : Int32} {l3 : Int32} {l4 : Int32} {l5 : Int32} {X : zX} {p : Unit × zX}, q63 l1 l2 l3 l4 l5 X = some p → fk X p.2) {l1 : Int32} {l2 : Int32} {l3 : Int32} {l4 : Int32} {l5 : Int32} {s0 : Int32} {X : zX} {p : Unit × zX} (hG : gb237_112 n q2 q17 q63 l1 l2 l3 l4 l5 s0 X = some p) : fk X p.2 := by
  unfold gb237_112 at hG
  have hX : fk X X := fk_R
  exact fk_T hX (hr63 hG)
set_option maxRecDepth 20000 in
theorem ub237_63 {n : Nat} {q2 : Int32 → zX → Option (Unit × zX)} {q17 : Int32 → Int32 → zX → Option (Unit × zX)} {q63 : Int32 → Int32 → Int32 → Int32 → Int32 → zX → Option (Unit × zX)} (hr2 : ∀ {l1 : Int32} {X : zX} {p : Unit × zX}, q2 l1 X = some p → fk X p.2) (hr17 : ∀ {l1 : Int32} {l2 : Int32} {X : zX} {p : Unit × zX}, q17 l1 l2 X = some p → fk X p.2) (hr63 : ∀ {l1 : Int32} {l2 : Int32} {l3 : Int32} {l4 : Int32} {l5 : Int32} {X : zX} {p : Unit × zX}, q63 l1 l2 l3 l4 l5 X = some p → fk X p.2) {l1 : Int32} {l2 : Int32} {l3 : Int32} {l4 : Int32} {l5 : Int32} {X : zX} {p : Unit × zX} (hG : gb237_63 n q2 q17 q63 l1 l2 l3 l4 l5 X = some p) : fk X p.2 := by
  unfold gb237_63 at hG
  have hX : fk X X := fk_R
  replace hG := zbnd hG
  obtain ⟨x2, e3, hG⟩ := hG
  by_cases c4 : x2 ≤ l5
  · rw [if_pos c4] at hG
    replace hG := zgd_some hG
    obtain ⟨g8, hG⟩ := hG
    replace hG := zbnd hG
    obtain ⟨X6, e7, hG⟩ := hG
    replace hX := fk_W hX (i := 19) (by decide) e7
    by_cases c9 : l4 = (-1)
    · rw [if_pos c9] at hG
      exact fk_T hX (ub237_140  hG)
    · rw [if_neg c9] at hG
      by_cases c10 : l4 = l1
      · rw [if_pos c10] at hG
        exact fk_T hX (ub237_140  hG)
      · rw [if_neg c10] at hG
        replace hG := zbnd hG
        obtain ⟨x12, e13, hG⟩ := hG
        replace hG := zbnd hG
        obtain ⟨x15, e16, hG⟩ := hG
        by_cases c17 : x15 = 2
        · rw [if_pos c17] at hG
          exact fk_T hX (uf237_176 hr2 hr17 n hG)
        · rw [if_neg c17] at hG
          exact fk_T hX (ub237_245 hr2 hr17 hG)
  · rw [if_neg c4] at hG
    replace hG := zbnd hG
    obtain ⟨x19, e20, hG⟩ := hG
    replace hG := zbnd hG
    obtain ⟨x22, e23, hG⟩ := hG
    replace hG := zbnd hG
    obtain ⟨p24, e25, hG⟩ := hG
    replace hX := fk_T hX (u238 e25)
    by_cases c26 : p24.1 = 0
    · rw [if_pos c26] at hG
      exact fk_T hX (ub237_112 hr2 hr17 hr63 hG)
    · rw [if_neg c26] at hG
      exact fk_T hX (ub237_112 hr2 hr17 hr63 hG)
theorem uf237_63 {n : Nat} {q2 : Int32 → zX → Option (Unit × zX)} {q17 : Int32 → Int32 → zX → Option (Unit × zX)} (hr2 : ∀ {l1 : Int32} {X : zX} {p : Unit × zX}, q2 l1 X = some p → fk X p.2) (hr17 : ∀ {l1 : Int32} {l2 : Int32} {X : zX} {p : Unit × zX}, q17 l1 l2 X = some p → fk X p.2) (k : Nat) : ∀ {l1 : Int32} {l2 : Int32} {l3 : Int32} {l4 : Int32} {l5 : Int32} {X : zX} {p : Unit × zX}, gf237_63 n q2 q17 k l1 l2 l3 l4 l5 X = some p → fk X p.2 := by
  induction k with
  | zero => intros; rename_i hG; cases hG
  | succ k ih => intros; rename_i hG; exact ub237_63 (n := n) (q2 := q2) (q17 := q17) (q63 := gf237_63 n q2 q17 k) hr2 hr17 ih hG
set_option maxRecDepth 20000 in
theorem ub237_17 {n : Nat} {q2 : Int32 → zX → Option (Unit × zX)} {q17 : Int32 → Int32 → zX → Option (Unit × zX)} (hr2 : ∀ {l1 : Int32} {X : zX} {p : Unit × zX}, q2 l1 X = some p → fk X p.2) (hr17 : ∀ {l1 : Int32} {l2 : Int32} {X : zX} {p : Unit × zX}, q17 l1 l2 X = some p → fk X p.2) {l1 : Int32} {l2 : Int32} {X : zX} {p : Unit × zX} (hG : gb237_17 n q2 q17 l1 l2 X = some p) : fk X p.2 := by
  unfold gb237_17 at hG
  have hX : fk X X := fk_R
  replace hG := zbnd hG
  obtain ⟨x2, e3, hG⟩ := hG
  by_cases c4 : x2 ≤ l2
  · rw [if_pos c4] at hG
    exact fk_T hX (ub237_311 hr2 hG)
  · rw [if_neg c4] at hG
    by_cases c5 : (X.1 73) = (-1)
    · rw [if_pos c5] at hG
      exact fk_T hX (uf237_63 hr2 hr17 n hG)
    · rw [if_neg c5] at hG
      exact fk_T hX (ub237_311 hr2 hG)
theorem uf237_17 {n : Nat} {q2 : Int32 → zX → Option (Unit × zX)} (hr2 : ∀ {l1 : Int32} {X : zX} {p : Unit × zX}, q2 l1 X = some p → fk X p.2) (k : Nat) : ∀ {l1 : Int32} {l2 : Int32} {X : zX} {p : Unit × zX}, gf237_17 n q2 k l1 l2 X = some p → fk X p.2 := by
  induction k with
  | zero => intros; rename_i hG; cases hG
  | succ k ih => intros; rename_i hG; exact ub237_17 (n := n) (q2 := q2) (q17 := gf237_17 n q2 k) hr2 ih hG
set_option maxRecDepth 20000 in
theorem ub237_2 {n : Nat} {q2 : Int32 → zX → Option (Unit × zX)} (hr2 : ∀ {l1 : Int32} {X : zX} {p : Unit × zX}, q2 l1 X = some p → fk X p.2) {l1 : Int32} {X : zX} {p : Unit × zX} (hG : gb237_2 n q2 l1 X = some p) : fk X p.2 := by
  unfold gb237_2 at hG
  have hX : fk X X := fk_R
  replace hG := zbnd hG
  obtain ⟨x2, e3, hG⟩ := hG
  by_cases c4 : x2 ≤ l1
  · rw [if_pos c4] at hG
    replace hG := Option.some.inj hG
    subst hG
    exact hX
  · rw [if_neg c4] at hG
    exact fk_T hX (uf237_17 hr2 n hG)
theorem uf237_2 {n : Nat}   (k : Nat) : ∀ {l1 : Int32} {X : zX} {p : Unit × zX}, gf237_2 n  k l1 X = some p → fk X p.2 := by
  induction k with
  | zero => intros; rename_i hG; cases hG
  | succ k ih => intros; rename_i hG; exact ub237_2 (n := n) (q2 := gf237_2 n  k) ih hG
set_option maxRecDepth 20000 in
theorem u237 {n : Nat}  {X : zX} {p : Unit × zX} (hG : g237 n  X = some p) : fk X p.2 := by
  unfold g237 at hG
  have hX : fk X X := fk_R
  exact fk_T hX (uf237_2  n hG)
set_option maxRecDepth 20000 in
theorem ub240_155 {n : Nat} {q80 : Int32 → Int32 → zX → Option (Unit × zX)} {q88 : Int32 → Int32 → Int32 → zX → Option (Unit × zX)} {q101 : Int32 → Int32 → Int32 → Int32 → zX → Option (Unit × zX)} (hr80 : ∀ {l1 : Int32} {l2 : Int32} {X : zX} {p : Unit × zX}, q80 l1 l2 X = some p → fk X p.2) (hr88 : ∀ {l1 : Int32} {l2 : Int32} {l3 : Int32} {X : zX} {p : Unit × zX}, q88 l1 l2 l3 X = some p → fk X p.2) (hr101 : ∀ {l1 : Int32} {l2 : Int32} {l3 : Int32} {l4 : Int32} {X : zX} {p : Unit × zX}, q101 l1 l2 l3 l4 X = some p → fk X p.2) {l1 : Int32} {l2 : Int32} {l3 : Int32} {l4 : Int32} {s0 : Int32} {s1 : Int32} {X : zX} {p : Unit × zX} (hG : gb240_155 n q80 q88 q101 l1 l2 l3 l4 s0 s1 X = some p) : fk X p.2 := by
  unfold gb240_155 at hG
  have hX : fk X X := fk_R
  replace hG := zbnd hG
  obtain ⟨X1, e2, hG⟩ := hG
  replace hX := fk_W hX (i := 62) (by decide) e2
  exact fk_T hX (hr101 hG)
set_option maxRecDepth 20000 in
theorem ub240_101 {n : Nat} {q80 : Int32 → Int32 → zX → Option (Unit × zX)} {q88 : Int32 → Int32 → Int32 → zX → Option (Unit × zX)} {q101 : Int32 → Int32 → Int32 → Int32 → zX → Option (Unit × zX)} (hr80 : ∀ {l1 : Int32} {l2 : Int32} {X : zX} {p : Unit × zX}, q80 l1 l2 X = some p → fk X p.2) (hr88 : ∀ {l1 : Int32} {l2 : Int32} {l3 : Int32} {X : zX} {p : Unit × zX}, q88 l1 l2 l3 X = some p → fk X p.2) (hr101 : ∀ {l1 : Int32} {l2 : Int32} {l3 : Int32} {l4 : Int32} {X : zX} {p : Unit × zX}, q101 l1 l2 l3 l4 X = some p → fk X p.2) {l1 : Int32} {l2 : Int32} {l3 : Int32} {l4 : Int32} {X : zX} {p : Unit × zX} (hG : gb240_101 n q80 q88 q101 l1 l2 l3 l4 X = some p) : fk X p.2 := by
  unfold gb240_101 at hG
  have hX : fk X X := fk_R
  replace hG := zbnd hG
  obtain ⟨x2, e3, hG⟩ := hG
  by_cases c4 : x2 ≤ l4
  · rw [if_pos c4] at hG
    exact fk_T hX (hr88 hG)
  · rw [if_neg c4] at hG
    replace hG := zbnd hG
    obtain ⟨x7, e8, hG⟩ := hG
    by_cases c9 : ((x7 >>> (l4 &&& 31)) &&& 1) = 1
    · rw [if_pos c9] at hG
      replace hG := zbnd hG
      obtain ⟨x11, e12, hG⟩ := hG
      replace hG := zbnd hG
      obtain ⟨x14, e15, hG⟩ := hG
      exact fk_T hX (ub240_155 hr80 hr88 hr101 hG)
    · rw [if_neg c9] at hG
      replace hG := zbnd hG
      obtain ⟨x17, e18, hG⟩ := hG
      exact fk_T hX (ub240_155 hr80 hr88 hr101 hG)
theorem uf240_101 {n : Nat} {q80 : Int32 → Int32 → zX → Option (Unit × zX)} {q88 : Int32 → Int32 → Int32 → zX → Option (Unit × zX)} (hr80 : ∀ {l1 : Int32} {l2 : Int32} {X : zX} {p : Unit × zX}, q80 l1 l2 X = some p → fk X p.2) (hr88 : ∀ {l1 : Int32} {l2 : Int32} {l3 : Int32} {X : zX} {p : Unit × zX}, q88 l1 l2 l3 X = some p → fk X p.2) (k : Nat) : ∀ {l1 : Int32} {l2 : Int32} {l3 : Int32} {l4 : Int32} {X : zX} {p : Unit × zX}, gf240_101 n q80 q88 k l1 l2 l3 l4 X = some p → fk X p.2 := by
  induction k with
  | zero => intros; rename_i hG; cases hG
  | succ k ih => intros; rename_i hG; exact ub240_101 (n := n) (q80 := q80) (q88 := q88) (q101 := gf240_101 n q80 q88 k) hr80 hr88 ih hG
set_option maxRecDepth 20000 in
theorem ub240_88 {n : Nat} {q80 : Int32 → Int32 → zX → Option (Unit × zX)} {q88 : Int32 → Int32 → Int32 → zX → Option (Unit × zX)} (hr80 : ∀ {l1 : Int32} {l2 : Int32} {X : zX} {p : Unit × zX}, q80 l1 l2 X = some p → fk X p.2) (hr88 : ∀ {l1 : Int32} {l2 : Int32} {l3 : Int32} {X : zX} {p : Unit × zX}, q88 l1 l2 l3 X = some p → fk X p.2) {l1 : Int32} {l2 : Int32} {l3 : Int32} {X : zX} {p : Unit × zX} (hG : gb240_88 n q80 q88 l1 l2 l3 X = some p) : fk X p.2 := by
  unfold gb240_88 at hG
  have hX : fk X X := fk_R
  replace hG := zbnd hG
  obtain ⟨x2, e3, hG⟩ := hG
  by_cases c4 : x2 ≤ l3
  · rw [if_pos c4] at hG
    exact fk_T hX (hr80 hG)
  · rw [if_neg c4] at hG
    exact fk_T hX (uf240_101 hr80 hr88 n hG)
theorem uf240_88 {n : Nat} {q80 : Int32 → Int32 → zX → Option (Unit × zX)} (hr80 : ∀ {l1 : Int32} {l2 : Int32} {X : zX} {p : Unit × zX}, q80 l1 l2 X = some p → fk X p.2) (k : Nat) : ∀ {l1 : Int32} {l2 : Int32} {l3 : Int32} {X : zX} {p : Unit × zX}, gf240_88 n q80 k l1 l2 l3 X = some p → fk X p.2 := by
  induction k with
  | zero => intros; rename_i hG; cases hG
  | succ k ih => intros; rename_i hG; exact ub240_88 (n := n) (q80 := q80) (q88 := gf240_88 n q80 k) hr80 ih hG
set_option maxRecDepth 20000 in
theorem ub240_80 {n : Nat} {q80 : Int32 → Int32 → zX → Option (Unit × zX)} (hr80 : ∀ {l1 : Int32} {l2 : Int32} {X : zX} {p : Unit × zX}, q80 l1 l2 X = some p → fk X p.2) {l1 : Int32} {l2 : Int32} {X : zX} {p : Unit × zX} (hG : gb240_80 n q80 l1 l2 X = some p) : fk X p.2 := by
  unfold gb240_80 at hG
  have hX : fk X X := fk_R
  by_cases c1 : (24 : Int32) ≤ l2
  · rw [if_pos c1] at hG
    replace hG := Option.some.inj hG
    subst hG
    exact hX
  · rw [if_neg c1] at hG
    exact fk_T hX (uf240_88 hr80 n hG)
theorem uf240_80 {n : Nat}   (k : Nat) : ∀ {l1 : Int32} {l2 : Int32} {X : zX} {p : Unit × zX}, gf240_80 n  k l1 l2 X = some p → fk X p.2 := by
  induction k with
  | zero => intros; rename_i hG; cases hG
  | succ k ih => intros; rename_i hG; exact ub240_80 (n := n) (q80 := gf240_80 n  k) ih hG
set_option maxRecDepth 20000 in
theorem ub240_21 {n : Nat} {q2 : Int32 → Int32 → zX → Option (Unit × zX)} {q21 : Int32 → Int32 → Int32 → zX → Option (Unit × zX)} (hr2 : ∀ {l1 : Int32} {l2 : Int32} {X : zX} {p : Unit × zX}, q2 l1 l2 X = some p → fk X p.2) (hr21 : ∀ {l1 : Int32} {l2 : Int32} {l3 : Int32} {X : zX} {p : Unit × zX}, q21 l1 l2 l3 X = some p → fk X p.2) {l1 : Int32} {l2 : Int32} {l3 : Int32} {X : zX} {p : Unit × zX} (hG : gb240_21 n q2 q21 l1 l2 l3 X = some p) : fk X p.2 := by
  unfold gb240_21 at hG
  have hX : fk X X := fk_R
  replace hG := zbnd hG
  obtain ⟨x2, e3, hG⟩ := hG
  by_cases c4 : x2 ≤ l3
  · rw [if_pos c4] at hG
    exact fk_T hX (hr2 hG)
  · rw [if_neg c4] at hG
    replace hG := zbnd hG
    obtain ⟨x7, e8, hG⟩ := hG
    replace hG := zbnd hG
    obtain ⟨x10, e11, hG⟩ := hG
    replace hG := zbnd hG
    obtain ⟨X12, e13, hG⟩ := hG
    replace hX := fk_W hX (i := 62) (by decide) e13
    exact fk_T hX (hr21 hG)
theorem uf240_21 {n : Nat} {q2 : Int32 → Int32 → zX → Option (Unit × zX)} (hr2 : ∀ {l1 : Int32} {l2 : Int32} {X : zX} {p : Unit × zX}, q2 l1 l2 X = some p → fk X p.2) (k : Nat) : ∀ {l1 : Int32} {l2 : Int32} {l3 : Int32} {X : zX} {p : Unit × zX}, gf240_21 n q2 k l1 l2 l3 X = some p → fk X p.2 := by
  induction k with
  | zero => intros; rename_i hG; cases hG
  | succ k ih => intros; rename_i hG; exact ub240_21 (n := n) (q2 := q2) (q21 := gf240_21 n q2 k) hr2 ih hG
set_option maxRecDepth 20000 in
theorem ub240_2 {n : Nat} {q2 : Int32 → Int32 → zX → Option (Unit × zX)} (hr2 : ∀ {l1 : Int32} {l2 : Int32} {X : zX} {p : Unit × zX}, q2 l1 l2 X = some p → fk X p.2) {l1 : Int32} {l2 : Int32} {X : zX} {p : Unit × zX} (hG : gb240_2 n q2 l1 l2 X = some p) : fk X p.2 := by
  unfold gb240_2 at hG
  have hX : fk X X := fk_R
  replace hG := zbnd hG
  obtain ⟨x2, e3, hG⟩ := hG
  by_cases c4 : x2 ≤ l2
  · rw [if_pos c4] at hG
    exact fk_T hX (uf240_80  n hG)
  · rw [if_neg c4] at hG
    replace hG := zbnd hG
    obtain ⟨X6, e7, hG⟩ := hG
    replace hX := fk_W hX (i := 62) (by decide) e7
    exact fk_T hX (uf240_21 hr2 n hG)
theorem uf240_2 {n : Nat}   (k : Nat) : ∀ {l1 : Int32} {l2 : Int32} {X : zX} {p : Unit × zX}, gf240_2 n  k l1 l2 X = some p → fk X p.2 := by
  induction k with
  | zero => intros; rename_i hG; cases hG
  | succ k ih => intros; rename_i hG; exact ub240_2 (n := n) (q2 := gf240_2 n  k) ih hG
set_option maxRecDepth 20000 in
theorem u240 {n : Nat} {y1 : Int32} {X : zX} {p : Unit × zX} (hG : g240 n y1 X = some p) : fk X p.2 := by
  unfold g240 at hG
  have hX : fk X X := fk_R
  exact fk_T hX (uf240_2  n hG)
set_option maxRecDepth 20000 in
theorem ub239_167 {n : Nat} {q105 : Int32 → Int32 → zX → Option (Unit × zX)} {q133 : Int32 → Int32 → Int32 → Int32 → zX → Option (Unit × zX)} (hr105 : ∀ {l1 : Int32} {l2 : Int32} {X : zX} {p : Unit × zX}, q105 l1 l2 X = some p → fk X p.2) (hr133 : ∀ {l1 : Int32} {l2 : Int32} {l3 : Int32} {l4 : Int32} {X : zX} {p : Unit × zX}, q133 l1 l2 l3 l4 X = some p → fk X p.2) {l1 : Int32} {l2 : Int32} {l3 : Int32} {l4 : Int32} {s0 : Int32} {X : zX} {p : Unit × zX} (hG : gb239_167 n q105 q133 l1 l2 l3 l4 s0 X = some p) : fk X p.2 := by
  unfold gb239_167 at hG
  have hX : fk X X := fk_R
  exact fk_T hX (hr133 hG)
set_option maxRecDepth 20000 in
theorem ub239_166 {n : Nat} {q105 : Int32 → Int32 → zX → Option (Unit × zX)} {q133 : Int32 → Int32 → Int32 → Int32 → zX → Option (Unit × zX)} (hr105 : ∀ {l1 : Int32} {l2 : Int32} {X : zX} {p : Unit × zX}, q105 l1 l2 X = some p → fk X p.2) (hr133 : ∀ {l1 : Int32} {l2 : Int32} {l3 : Int32} {l4 : Int32} {X : zX} {p : Unit × zX}, q133 l1 l2 l3 l4 X = some p → fk X p.2) {l1 : Int32} {l2 : Int32} {l3 : Int32} {l4 : Int32} {X : zX} {p : Unit × zX} (hG : gb239_166 n q105 q133 l1 l2 l3 l4 X = some p) : fk X p.2 := by
  unfold gb239_166 at hG
  have hX : fk X X := fk_R
  exact fk_T hX (ub239_167 hr105 hr133 hG)
set_option maxRecDepth 20000 in
theorem ub239_133 {n : Nat} {q105 : Int32 → Int32 → zX → Option (Unit × zX)} {q133 : Int32 → Int32 → Int32 → Int32 → zX → Option (Unit × zX)} (hr105 : ∀ {l1 : Int32} {l2 : Int32} {X : zX} {p : Unit × zX}, q105 l1 l2 X = some p → fk X p.2) (hr133 : ∀ {l1 : Int32} {l2 : Int32} {l3 : Int32} {l4 : Int32} {X : zX} {p : Unit × zX}, q133 l1 l2 l3 l4 X = some p → fk X p.2) {l1 : Int32} {l2 : Int32} {l3 : Int32} {l4 : Int32} {X : zX} {p : Unit × zX} (hG : gb239_133 n q105 q133 l1 l2 l3 l4 X = some p) : fk X p.2 := by
  unfold gb239_133 at hG
  have hX : fk X X := fk_R
  by_cases c1 : l4 < 0
  · rw [if_pos c1] at hG
    replace hG := zgd_some hG
    obtain ⟨g5, hG⟩ := hG
    replace hG := zbnd hG
    obtain ⟨X3, e4, hG⟩ := hG
    replace hX := fk_W hX (i := 59) (by decide) e4
    exact fk_T hX (hr105 hG)
  · rw [if_neg c1] at hG
    by_cases c6 : ((l1 >>> (l4 &&& 31)) &&& 1) = 0
    · rw [if_pos c6] at hG
      replace hG := zbnd hG
      obtain ⟨x8, e9, hG⟩ := hG
      by_cases c10 : (x8 &&& (l1 ^^^ (-1))) = 0
      · rw [if_pos c10] at hG
        exact fk_T hX (ub239_167 hr105 hr133 hG)
      · rw [if_neg c10] at hG
        exact fk_T hX (ub239_166 hr105 hr133 hG)
    · rw [if_neg c6] at hG
      exact fk_T hX (ub239_166 hr105 hr133 hG)
theorem uf239_133 {n : Nat} {q105 : Int32 → Int32 → zX → Option (Unit × zX)} (hr105 : ∀ {l1 : Int32} {l2 : Int32} {X : zX} {p : Unit × zX}, q105 l1 l2 X = some p → fk X p.2) (k : Nat) : ∀ {l1 : Int32} {l2 : Int32} {l3 : Int32} {l4 : Int32} {X : zX} {p : Unit × zX}, gf239_133 n q105 k l1 l2 l3 l4 X = some p → fk X p.2 := by
  induction k with
  | zero => intros; rename_i hG; cases hG
  | succ k ih => intros; rename_i hG; exact ub239_133 (n := n) (q105 := q105) (q133 := gf239_133 n q105 k) hr105 ih hG
set_option maxRecDepth 20000 in
theorem ub239_105 {n : Nat} {q105 : Int32 → Int32 → zX → Option (Unit × zX)} (hr105 : ∀ {l1 : Int32} {l2 : Int32} {X : zX} {p : Unit × zX}, q105 l1 l2 X = some p → fk X p.2) {l1 : Int32} {l2 : Int32} {X : zX} {p : Unit × zX} (hG : gb239_105 n q105 l1 l2 X = some p) : fk X p.2 := by
  unfold gb239_105 at hG
  have hX : fk X X := fk_R
  replace hG := zbnd hG
  obtain ⟨x2, e3, hG⟩ := hG
  by_cases c4 : x2 ≤ l2
  · rw [if_pos c4] at hG
    replace hG := Option.some.inj hG
    subst hG
    exact hX
  · rw [if_neg c4] at hG
    replace hG := zbnd hG
    obtain ⟨x6, e7, hG⟩ := hG
    exact fk_T hX (uf239_133 hr105 n hG)
theorem uf239_105 {n : Nat}   (k : Nat) : ∀ {l1 : Int32} {l2 : Int32} {X : zX} {p : Unit × zX}, gf239_105 n  k l1 l2 X = some p → fk X p.2 := by
  induction k with
  | zero => intros; rename_i hG; cases hG
  | succ k ih => intros; rename_i hG; exact ub239_105 (n := n) (q105 := gf239_105 n  k) ih hG
set_option maxRecDepth 20000 in
theorem ub239_25 {n : Nat} {q10 : Int32 → zX → Option (Unit × zX)} {q25 : Int32 → Int32 → zX → Option (Unit × zX)} (hr10 : ∀ {l1 : Int32} {X : zX} {p : Unit × zX}, q10 l1 X = some p → fk X p.2) (hr25 : ∀ {l1 : Int32} {l2 : Int32} {X : zX} {p : Unit × zX}, q25 l1 l2 X = some p → fk X p.2) {l1 : Int32} {l2 : Int32} {X : zX} {p : Unit × zX} (hG : gb239_25 n q10 q25 l1 l2 X = some p) : fk X p.2 := by
  unfold gb239_25 at hG
  have hX : fk X X := fk_R
  replace hG := zbnd hG
  obtain ⟨x2, e3, hG⟩ := hG
  by_cases c4 : x2 ≤ l2
  · rw [if_pos c4] at hG
    exact fk_T hX (hr10 hG)
  · rw [if_neg c4] at hG
    replace hG := zbnd hG
    obtain ⟨x7, e8, hG⟩ := hG
    replace hG := zbnd hG
    obtain ⟨x9, e10, hG⟩ := hG
    by_cases c11 : ((x9 >>> (l1 &&& 31)) &&& 1) = 1
    · rw [if_pos c11] at hG
      replace hG := zbnd hG
      obtain ⟨x13, e14, hG⟩ := hG
      replace hG := zbnd hG
      obtain ⟨p15, e16, hG⟩ := hG
      replace hX := fk_T hX (u196 e16)
      replace hG := Option.some.inj hG
      subst hG
      exact hX
    · rw [if_neg c11] at hG
      exact fk_T hX (hr25 hG)
theorem uf239_25 {n : Nat} {q10 : Int32 → zX → Option (Unit × zX)} (hr10 : ∀ {l1 : Int32} {X : zX} {p : Unit × zX}, q10 l1 X = some p → fk X p.2) (k : Nat) : ∀ {l1 : Int32} {l2 : Int32} {X : zX} {p : Unit × zX}, gf239_25 n q10 k l1 l2 X = some p → fk X p.2 := by
  induction k with
  | zero => intros; rename_i hG; cases hG
  | succ k ih => intros; rename_i hG; exact ub239_25 (n := n) (q10 := q10) (q25 := gf239_25 n q10 k) hr10 ih hG
set_option maxRecDepth 20000 in
theorem ub239_10 {n : Nat} {q10 : Int32 → zX → Option (Unit × zX)} (hr10 : ∀ {l1 : Int32} {X : zX} {p : Unit × zX}, q10 l1 X = some p → fk X p.2) {l1 : Int32} {X : zX} {p : Unit × zX} (hG : gb239_10 n q10 l1 X = some p) : fk X p.2 := by
  unfold gb239_10 at hG
  have hX : fk X X := fk_R
  replace hG := zbnd hG
  obtain ⟨x2, e3, hG⟩ := hG
  by_cases c4 : x2 ≤ l1
  · rw [if_pos c4] at hG
    exact fk_T hX (uf239_105  n hG)
  · rw [if_neg c4] at hG
    exact fk_T hX (uf239_25 hr10 n hG)
theorem uf239_10 {n : Nat}   (k : Nat) : ∀ {l1 : Int32} {X : zX} {p : Unit × zX}, gf239_10 n  k l1 X = some p → fk X p.2 := by
  induction k with
  | zero => intros; rename_i hG; cases hG
  | succ k ih => intros; rename_i hG; exact ub239_10 (n := n) (q10 := gf239_10 n  k) ih hG
set_option maxRecDepth 20000 in
theorem u239 {n : Nat}  {X : zX} {p : Unit × zX} (hG : g239 n  X = some p) : fk X p.2 := by
  unfold g239 at hG
  have hX : fk X X := fk_R
  replace hG := zbnd hG
  obtain ⟨p1, e2, hG⟩ := hG
  replace hX := fk_T hX (u240 e2)
  exact fk_T hX (uf239_10  n hG)
set_option maxRecDepth 20000 in
theorem ub189_207 {n : Nat}    {X : zX} {p : Unit × zX} (hG : gb189_207 n   X = some p) : fk X p.2 := by
  unfold gb189_207 at hG
  have hX : fk X X := fk_R
  by_cases c1 : (X.1 73) = (-1)
  · rw [if_pos c1] at hG
    replace hG := zbnd hG
    obtain ⟨p2, e3, hG⟩ := hG
    replace hX := fk_T hX (u239 e3)
    replace hG := Option.some.inj hG
    subst hG
    exact hX
  · rw [if_neg c1] at hG
    replace hG := Option.some.inj hG
    subst hG
    exact hX
set_option maxRecDepth 20000 in
theorem ub189_195 {n : Nat}    {X : zX} {p : Unit × zX} (hG : gb189_195 n   X = some p) : fk X p.2 := by
  unfold gb189_195 at hG
  have hX : fk X X := fk_R
  by_cases c1 : (X.1 73) = (-1)
  · rw [if_pos c1] at hG
    replace hG := zbnd hG
    obtain ⟨p2, e3, hG⟩ := hG
    replace hX := fk_T hX (u237 e3)
    exact fk_T hX (ub189_207  hG)
  · rw [if_neg c1] at hG
    exact fk_T hX (ub189_207  hG)
set_option maxRecDepth 20000 in
theorem ub189_192 {n : Nat} {q119 : zX → Option (Unit × zX)} (hr119 : ∀  {X : zX} {p : Unit × zX}, q119  X = some p → fk X p.2) {l1 : Int32} {X : zX} {p : Unit × zX} (hG : gb189_192 n q119 l1 X = some p) : fk X p.2 := by
  unfold gb189_192 at hG
  have hX : fk X X := fk_R
  exact fk_T hX (hr119 hG)
set_option maxRecDepth 20000 in
theorem ub189_154 {n : Nat} {q119 : zX → Option (Unit × zX)} (hr119 : ∀  {X : zX} {p : Unit × zX}, q119  X = some p → fk X p.2) {l1 : Int32} {s0 : Int32} {X : zX} {p : Unit × zX} (hG : gb189_154 n q119 l1 s0 X = some p) : fk X p.2 := by
  unfold gb189_154 at hG
  have hX : fk X X := fk_R
  replace hG := zbnd hG
  obtain ⟨p1, e2, hG⟩ := hG
  replace hX := fk_T hX (u200 e2)
  by_cases c3 : (p1.2.1 73) = (-1)
  · rw [if_pos c3] at hG
    by_cases c4 : l1 = 0
    · rw [if_pos c4] at hG
      replace hG := zbnd hG
      obtain ⟨p5, e6, hG⟩ := hG
      replace hX := fk_T hX (u201 e6)
      exact fk_T hX (ub189_192 hr119 hG)
    · rw [if_neg c4] at hG
      by_cases c7 : l1 = 1
      · rw [if_pos c7] at hG
        replace hG := zbnd hG
        obtain ⟨p8, e9, hG⟩ := hG
        replace hX := fk_T hX (u226 e9)
        exact fk_T hX (ub189_192 hr119 hG)
      · rw [if_neg c7] at hG
        replace hG := zbnd hG
        obtain ⟨p10, e11, hG⟩ := hG
        replace hX := fk_T hX (u235 e11)
        exact fk_T hX (ub189_192 hr119 hG)
  · rw [if_neg c3] at hG
    exact fk_T hX (ub189_192 hr119 hG)
set_option maxRecDepth 20000 in
theorem ub189_119 {n : Nat} {q119 : zX → Option (Unit × zX)} (hr119 : ∀  {X : zX} {p : Unit × zX}, q119  X = some p → fk X p.2)  {X : zX} {p : Unit × zX} (hG : gb189_119 n q119  X = some p) : fk X p.2 := by
  unfold gb189_119 at hG
  have hX : fk X X := fk_R
  by_cases c1 : (X.1 73) = (-1)
  · rw [if_pos c1] at hG
    by_cases c2 : (X.1 69) = 5
    · rw [if_pos c2] at hG
      exact fk_T hX (ub189_195  hG)
    · rw [if_neg c2] at hG
      replace hG := zbnd hG
      obtain ⟨p3, e4, hG⟩ := hG
      replace hX := fk_T hX (u199 e4)
      by_cases c5 : p3.1 = (-1)
      · rw [if_pos c5] at hG
        exact fk_T hX (ub189_154 hr119 hG)
      · rw [if_neg c5] at hG
        exact fk_T hX (ub189_154 hr119 hG)
  · rw [if_neg c1] at hG
    exact fk_T hX (ub189_195  hG)
theorem uf189_119 {n : Nat}   (k : Nat) : ∀  {X : zX} {p : Unit × zX}, gf189_119 n  k  X = some p → fk X p.2 := by
  induction k with
  | zero => intros; rename_i hG; cases hG
  | succ k ih => intros; rename_i hG; exact ub189_119 (n := n) (q119 := gf189_119 n  k) ih hG
set_option maxRecDepth 20000 in
theorem u189 {n : Nat}  {X : zX} {p : Unit × zX} (hG : g189 n  X = some p) : fk X p.2 := by
  unfold g189 at hG
  have hX : fk X X := fk_R
  replace hG := zgd_some hG
  obtain ⟨g4, hG⟩ := hG
  replace hG := zbnd hG
  obtain ⟨X2, e3, hG⟩ := hG
  replace hX := fk_W hX (i := 1) (by decide) e3
  replace hG := zgd_some hG
  obtain ⟨g8, hG⟩ := hG
  replace hG := zbnd hG
  obtain ⟨X6, e7, hG⟩ := hG
  replace hX := fk_W hX (i := 4) (by decide) e7
  replace hG := zgd_some hG
  obtain ⟨g12, hG⟩ := hG
  replace hG := zbnd hG
  obtain ⟨X10, e11, hG⟩ := hG
  replace hX := fk_W hX (i := 9) (by decide) e11
  replace hG := zgd_some hG
  obtain ⟨g16, hG⟩ := hG
  replace hG := zbnd hG
  obtain ⟨X14, e15, hG⟩ := hG
  replace hX := fk_W hX (i := 25) (by decide) e15
  replace hG := zgd_some hG
  obtain ⟨g20, hG⟩ := hG
  replace hG := zbnd hG
  obtain ⟨X18, e19, hG⟩ := hG
  replace hX := fk_W hX (i := 28) (by decide) e19
  replace hG := zgd_some hG
  obtain ⟨g24, hG⟩ := hG
  replace hG := zbnd hG
  obtain ⟨X22, e23, hG⟩ := hG
  replace hX := fk_W hX (i := 35) (by decide) e23
  replace hG := zgd_some hG
  obtain ⟨g28, hG⟩ := hG
  replace hG := zbnd hG
  obtain ⟨X26, e27, hG⟩ := hG
  replace hX := fk_W hX (i := 39) (by decide) e27
  replace hG := zgd_some hG
  obtain ⟨g32, hG⟩ := hG
  replace hG := zbnd hG
  obtain ⟨X30, e31, hG⟩ := hG
  replace hX := fk_W hX (i := 42) (by decide) e31
  replace hG := zgd_some hG
  obtain ⟨g36, hG⟩ := hG
  replace hG := zbnd hG
  obtain ⟨X34, e35, hG⟩ := hG
  replace hX := fk_W hX (i := 49) (by decide) e35
  replace hG := zgd_some hG
  obtain ⟨g40, hG⟩ := hG
  replace hG := zbnd hG
  obtain ⟨X38, e39, hG⟩ := hG
  replace hX := fk_W hX (i := 58) (by decide) e39
  replace hG := zlet_ex hG
  obtain ⟨X41, e42, hG⟩ := hG
  replace hX := fk_F hX (k := 68) (by decide) e42
  replace hG := zlet_ex hG
  obtain ⟨X43, e44, hG⟩ := hG
  replace hX := fk_F hX (k := 73) (by decide) e44
  replace hG := zlet_ex hG
  obtain ⟨X45, e46, hG⟩ := hG
  replace hX := fk_F hX (k := 64) (by decide) e46
  replace hG := zbnd hG
  obtain ⟨p47, e48, hG⟩ := hG
  replace hX := fk_T hX (u190 e48)
  exact fk_T hX (uf189_119  n hG)
end ZFRM

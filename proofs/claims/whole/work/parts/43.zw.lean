/-! WHAT THE REFERENCE LEAVES AS IT IS (fr; written by a program of the verifier's) -/
section ZFRM
set_option maxRecDepth 20000 in
theorem w183 {n : Nat}  {X : zX} {p : Int32 × zX} (hG : g183 n  X = some p) : fr 0 0 X p.2 := by
  unfold g183 at hG
  have hX : fr 0 0 X X := fr_R
  replace hG := Option.some.inj hG
  subst hG
  exact hX
set_option maxRecDepth 20000 in
theorem wb185_10 {n : Nat}   {l1 : Int32} {s0 : Int32} {X : zX} {p : Int32 × zX} (hG : gb185_10 n  l1 s0 X = some p) : fr 1 0 X p.2 := by
  unfold gb185_10 at hG
  have hX : fr 1 0 X X := fr_R
  replace hG := zlet_ex hG
  obtain ⟨X1, e2, hG⟩ := hG
  replace hX := fr_F hX (k := 0) rfl e2
  replace hG := zgd_some hG
  obtain ⟨g3, hG⟩ := hG
  replace hG := Option.some.inj hG
  subst hG
  exact hX
set_option maxRecDepth 20000 in
theorem w185 {n : Nat} {y1 : Int32} {X : zX} {p : Int32 × zX} (hG : g185 n y1 X = some p) : fr 1 0 X p.2 := by
  unfold g185 at hG
  have hX : fr 1 0 X X := fr_R
  by_cases c1 : y1 = 0
  · rw [if_pos c1] at hG
    exact fr_T hX (wb185_10  hG)
  · rw [if_neg c1] at hG
    exact fr_T hX (wb185_10  hG)
set_option maxRecDepth 20000 in
theorem wb184_83 {n : Nat} {q30 : Int32 → Int32 → Int32 → Int32 → Int32 → Int32 → zX → Option (Int32 × zX)} (hr30 : ∀ {l1 : Int32} {l2 : Int32} {l3 : Int32} {l4 : Int32} {l5 : Int32} {l6 : Int32} {X : zX} {p : Int32 × zX}, q30 l1 l2 l3 l4 l5 l6 X = some p → fr 5 1 X p.2) {l1 : Int32} {l2 : Int32} {l3 : Int32} {l4 : Int32} {l5 : Int32} {l6 : Int32} {s0 : Int32} {X : zX} {p : Int32 × zX} (hG : gb184_83 n q30 l1 l2 l3 l4 l5 l6 s0 X = some p) : fr 5 1 X p.2 := by
  unfold gb184_83 at hG
  have hX : fr 5 1 X X := fr_R
  replace hG := zbnd hG
  obtain ⟨X2, e3, hG⟩ := hG
  replace hX := fr_W hX (i := 0) rfl e3
  replace hG := zlet_ex hG
  obtain ⟨X4, e5, hG⟩ := hG
  replace hX := fr_F hX (k := 2) rfl e5
  exact fr_T hX (hr30 hG)
set_option maxRecDepth 20000 in
theorem wb184_30 {n : Nat} {q30 : Int32 → Int32 → Int32 → Int32 → Int32 → Int32 → zX → Option (Int32 × zX)} (hr30 : ∀ {l1 : Int32} {l2 : Int32} {l3 : Int32} {l4 : Int32} {l5 : Int32} {l6 : Int32} {X : zX} {p : Int32 × zX}, q30 l1 l2 l3 l4 l5 l6 X = some p → fr 5 1 X p.2) {l1 : Int32} {l2 : Int32} {l3 : Int32} {l4 : Int32} {l5 : Int32} {l6 : Int32} {X : zX} {p : Int32 × zX} (hG : gb184_30 n q30 l1 l2 l3 l4 l5 l6 X = some p) : fr 5 1 X p.2 := by
  unfold gb184_30 at hG
  have hX : fr 5 1 X X := fr_R
  by_cases c1 : (20 : Int32) ≤ l6
  · rw [if_pos c1] at hG
    replace hG := Option.some.inj hG
    subst hG
    exact hX
  · rw [if_neg c1] at hG
    by_cases c2 : (4 : Int32) ≤ l6
    · rw [if_pos c2] at hG
      by_cases c3 : (8 : Int32) ≤ l6
      · rw [if_pos c3] at hG
        by_cases c4 : (12 : Int32) ≤ l6
        · rw [if_pos c4] at hG
          by_cases c5 : (16 : Int32) ≤ l6
          · rw [if_pos c5] at hG
            exact fr_T hX (wb184_83 hr30 hG)
          · rw [if_neg c5] at hG
            exact fr_T hX (wb184_83 hr30 hG)
        · rw [if_neg c4] at hG
          exact fr_T hX (wb184_83 hr30 hG)
      · rw [if_neg c3] at hG
        exact fr_T hX (wb184_83 hr30 hG)
    · rw [if_neg c2] at hG
      exact fr_T hX (wb184_83 hr30 hG)
theorem wf184_30 {n : Nat}   (k : Nat) : ∀ {l1 : Int32} {l2 : Int32} {l3 : Int32} {l4 : Int32} {l5 : Int32} {l6 : Int32} {X : zX} {p : Int32 × zX}, gf184_30 n  k l1 l2 l3 l4 l5 l6 X = some p → fr 5 1 X p.2 := by
  induction k with
  | zero => intros; rename_i hG; cases hG
  | succ k ih => intros; rename_i hG; exact wb184_30 (n := n) (q30 := gf184_30 n  k) ih hG
set_option maxRecDepth 20000 in
theorem wb184_19 {n : Nat}   {l1 : Int32} {l2 : Int32} {l3 : Int32} {l4 : Int32} {l5 : Int32} {s0 : Int32} {X : zX} {p : Int32 × zX} (hG : gb184_19 n  l1 l2 l3 l4 l5 s0 X = some p) : fr 5 1 X p.2 := by
  unfold gb184_19 at hG
  have hX : fr 5 1 X X := fr_R
  replace hG := zbnd hG
  obtain ⟨p1, e2, hG⟩ := hG
  replace hX := fr_T hX (fr_M rfl rfl (w185 e2))
  by_cases c3 : p1.1 = 0
  · rw [if_pos c3] at hG
    replace hG := Option.some.inj hG
    subst hG
    exact hX
  · rw [if_neg c3] at hG
    exact fr_T hX (wf184_30  n hG)
set_option maxRecDepth 20000 in
theorem w184 {n : Nat} {y1 : Int32} {y2 : Int32} {y3 : Int32} {y4 : Int32} {y5 : Int32} {X : zX} {p : Int32 × zX} (hG : g184 n y1 y2 y3 y4 y5 X = some p) : fr 5 1 X p.2 := by
  unfold g184 at hG
  have hX : fr 5 1 X X := fr_R
  by_cases c1 : (6000 : Int32) < ((X.1 2) + 20)
  · rw [if_pos c1] at hG
    exact fr_T hX (wb184_19  hG)
  · rw [if_neg c1] at hG
    exact fr_T hX (wb184_19  hG)
set_option maxRecDepth 20000 in
theorem w187 {n : Nat} {y0 : Int32} {y1 : Int32} {y2 : Int32} {X : zX} {p : Int32 × zX} (hG : g187 n y0 y1 y2 X = some p) : fr 0 0 X p.2 := by
  unfold g187 at hG
  have hX : fr 0 0 X X := fr_R
  by_cases c1 : y0 < y1
  · rw [if_pos c1] at hG
    replace hG := Option.some.inj hG
    subst hG
    exact hX
  · rw [if_neg c1] at hG
    by_cases c2 : y2 < y0
    · rw [if_pos c2] at hG
      replace hG := Option.some.inj hG
      subst hG
      exact hX
    · rw [if_neg c2] at hG
      replace hG := Option.some.inj hG
      subst hG
      exact hX
set_option maxRecDepth 20000 in
theorem wb186_25 {n : Nat}   {l1 : Int32} {s0 : Int32} {X : zX} {p : Unit × zX} (hG : gb186_25 n  l1 s0 X = some p) : fr 5 0 X p.2 := by
  unfold gb186_25 at hG
  have hX : fr 5 0 X X := fr_R
  replace hG := zlet_ex hG
  obtain ⟨X1, e2, hG⟩ := hG
  replace hX := fr_F hX (k := 2) rfl e2
  replace hG := Option.some.inj hG
  subst hG
  exact hX
set_option maxRecDepth 20000 in
theorem w186 {n : Nat} {y1 : Int32} {X : zX} {p : Unit × zX} (hG : g186 n y1 X = some p) : fr 5 0 X p.2 := by
  unfold g186 at hG
  have hX : fr 5 0 X X := fr_R
  replace hG := zbnd hG
  obtain ⟨p1, e2, hG⟩ := hG
  replace hX := fr_T hX (fr_M rfl rfl (w187 e2))
  replace hG := zbnd hG
  obtain ⟨p3, e4, hG⟩ := hG
  replace hX := fr_T hX (fr_M rfl rfl (w185 e4))
  by_cases c5 : p3.1 = 0
  · rw [if_pos c5] at hG
    exact fr_T hX (wb186_25  hG)
  · rw [if_neg c5] at hG
    exact fr_T hX (wb186_25  hG)
set_option maxRecDepth 20000 in
theorem w191 {n : Nat} {y1 : Int32} {X : zX} {p : Int32 × zX} (hG : g191 n y1 X = some p) : fr 0 0 X p.2 := by
  unfold g191 at hG
  have hX : fr 0 0 X X := fr_R
  by_cases c1 : (X.1 2) ≤ y1
  · rw [if_pos c1] at hG
    replace hG := Option.some.inj hG
    subst hG
    exact hX
  · rw [if_neg c1] at hG
    replace hG := zbnd hG
    obtain ⟨x3, e4, hG⟩ := hG
    replace hG := Option.some.inj hG
    subst hG
    exact hX
set_option maxRecDepth 20000 in
theorem w192 {n : Nat} {y0 : Int32} {X : zX} {p : Int32 × zX} (hG : g192 n y0 X = some p) : fr 0 0 X p.2 := by
  unfold g192 at hG
  have hX : fr 0 0 X X := fr_R
  replace hG := zbnd hG
  obtain ⟨p1, e2, hG⟩ := hG
  replace hX := fr_T hX (fr_M rfl rfl (w187 e2))
  by_cases c3 : p1.1 = 0
  · rw [if_pos c3] at hG
    replace hG := zbnd hG
    obtain ⟨p4, e5, hG⟩ := hG
    replace hX := fr_T hX (fr_M rfl rfl (w187 e5))
    by_cases c6 : p4.1 = 0
    · rw [if_pos c6] at hG
      replace hG := Option.some.inj hG
      subst hG
      exact hX
    · rw [if_neg c6] at hG
      replace hG := Option.some.inj hG
      subst hG
      exact hX
  · rw [if_neg c3] at hG
    replace hG := Option.some.inj hG
    subst hG
    exact hX
set_option maxRecDepth 20000 in
theorem w194 {n : Nat} {y0 : Int32} {X : zX} {p : Int32 × zX} (hG : g194 n y0 X = some p) : fr 0 0 X p.2 := by
  unfold g194 at hG
  have hX : fr 0 0 X X := fr_R
  replace hG := zbnd hG
  obtain ⟨p1, e2, hG⟩ := hG
  replace hX := fr_T hX (fr_M rfl rfl (w187 e2))
  replace hG := zgd_some hG
  obtain ⟨g3, hG⟩ := hG
  replace hG := Option.some.inj hG
  subst hG
  exact hX
set_option maxRecDepth 20000 in
theorem w193 {n : Nat} {y0 : Int32} {X : zX} {p : Int32 × zX} (hG : g193 n y0 X = some p) : fr 0 0 X p.2 := by
  unfold g193 at hG
  have hX : fr 0 0 X X := fr_R
  replace hG := zbnd hG
  obtain ⟨p1, e2, hG⟩ := hG
  replace hX := fr_T hX (fr_M rfl rfl (w192 e2))
  by_cases c3 : p1.1 = 0
  · rw [if_pos c3] at hG
    replace hG := zbnd hG
    obtain ⟨p4, e5, hG⟩ := hG
    replace hX := fr_T hX (fr_M rfl rfl (w194 e5))
    by_cases c6 : p4.1 = 0
    · rw [if_pos c6] at hG
      by_cases c7 : y0 = 95
      · rw [if_pos c7] at hG
        replace hG := Option.some.inj hG
        subst hG
        exact hX
      · rw [if_neg c7] at hG
        replace hG := Option.some.inj hG
        subst hG
        exact hX
    · rw [if_neg c6] at hG
      replace hG := Option.some.inj hG
      subst hG
      exact hX
  · rw [if_neg c3] at hG
    replace hG := Option.some.inj hG
    subst hG
    exact hX
set_option maxRecDepth 20000 in
theorem w196 {n : Nat} {y1 : Int32} {y2 : Int32} {X : zX} {p : Unit × zX} (hG : g196 n y1 y2 X = some p) : fr 9463179709812999979008 0 X p.2 := by
  unfold g196 at hG
  have hX : fr 9463179709812999979008 0 X X := fr_R
  by_cases c1 : (X.1 73) = (-1)
  · rw [if_pos c1] at hG
    replace hG := zlet_ex hG
    obtain ⟨X2, e3, hG⟩ := hG
    replace hX := fr_F hX (k := 73) rfl e3
    replace hG := zlet_ex hG
    obtain ⟨X4, e5, hG⟩ := hG
    replace hX := fr_F hX (k := 64) rfl e5
    replace hG := Option.some.inj hG
    subst hG
    exact hX
  · rw [if_neg c1] at hG
    replace hG := Option.some.inj hG
    subst hG
    exact hX
set_option maxRecDepth 20000 in
theorem w195 {n : Nat} {y1 : Int32} {X : zX} {p : Unit × zX} (hG : g195 n y1 X = some p) : fr 9463179709812999979008 0 X p.2 := by
  unfold g195 at hG
  have hX : fr 9463179709812999979008 0 X X := fr_R
  replace hG := zbnd hG
  obtain ⟨p1, e2, hG⟩ := hG
  replace hX := fr_T hX (fr_M rfl rfl (w196 e2))
  replace hG := Option.some.inj hG
  subst hG
  exact hX
set_option maxRecDepth 20000 in
theorem wb197_114 {n : Nat}   {l1 : Int32} {l2 : Int32} {s0 : Int32} {X : zX} {p : Unit × zX} (hG : gb197_114 n  l1 l2 s0 X = some p) : fr 17432173149655526277120 0 X p.2 := by
  unfold gb197_114 at hG
  have hX : fr 17432173149655526277120 0 X X := fr_R
  replace hG := zlet_ex hG
  obtain ⟨X1, e2, hG⟩ := hG
  replace hX := fr_F hX (k := 72) rfl e2
  replace hG := zlet_ex hG
  obtain ⟨X3, e4, hG⟩ := hG
  replace hX := fr_F hX (k := 71) rfl e4
  replace hG := zbnd hG
  obtain ⟨p5, e6, hG⟩ := hG
  replace hX := fr_T hX (fr_M rfl rfl (w191 e6))
  replace hG := zbnd hG
  obtain ⟨p7, e8, hG⟩ := hG
  replace hX := fr_T hX (fr_M rfl rfl (w193 e8))
  by_cases c9 : p7.1 = 0
  · rw [if_pos c9] at hG
    replace hG := Option.some.inj hG
    subst hG
    exact hX
  · rw [if_neg c9] at hG
    replace hG := zbnd hG
    obtain ⟨p10, e11, hG⟩ := hG
    replace hX := fr_T hX (fr_M rfl rfl (w195 e11))
    replace hG := Option.some.inj hG
    subst hG
    exact hX
set_option maxRecDepth 20000 in
theorem wb197_97 {n : Nat}   {l1 : Int32} {l2 : Int32} {X : zX} {p : Unit × zX} (hG : gb197_97 n  l1 l2 X = some p) : fr 17432173149655526277120 0 X p.2 := by
  unfold gb197_97 at hG
  have hX : fr 17432173149655526277120 0 X X := fr_R
  by_cases c1 : l1 = 0
  · rw [if_pos c1] at hG
    exact fr_T hX (wb197_114  hG)
  · rw [if_neg c1] at hG
    exact fr_T hX (wb197_114  hG)
set_option maxRecDepth 20000 in
theorem wb197_36 {n : Nat} {q36 : Int32 → Int32 → zX → Option (Unit × zX)} (hr36 : ∀ {l1 : Int32} {l2 : Int32} {X : zX} {p : Unit × zX}, q36 l1 l2 X = some p → fr 17432173149655526277120 0 X p.2) {l1 : Int32} {l2 : Int32} {X : zX} {p : Unit × zX} (hG : gb197_36 n q36 l1 l2 X = some p) : fr 17432173149655526277120 0 X p.2 := by
  unfold gb197_36 at hG
  have hX : fr 17432173149655526277120 0 X X := fr_R
  replace hG := zbnd hG
  obtain ⟨p1, e2, hG⟩ := hG
  replace hX := fr_T hX (fr_M rfl rfl (w191 e2))
  replace hG := zbnd hG
  obtain ⟨p3, e4, hG⟩ := hG
  replace hX := fr_T hX (fr_M rfl rfl (w194 e4))
  by_cases c5 : p3.1 = 0
  · rw [if_pos c5] at hG
    exact fr_T hX (wb197_97  hG)
  · rw [if_neg c5] at hG
    by_cases c6 : (9 : Int32) ≤ ((p3.2.1 68) - l2)
    · rw [if_pos c6] at hG
      exact fr_T hX (wb197_97  hG)
    · rw [if_neg c6] at hG
      replace hG := zbnd hG
      obtain ⟨p7, e8, hG⟩ := hG
      replace hX := fr_T hX (fr_M rfl rfl (w191 e8))
      replace hG := zlet_ex hG
      obtain ⟨X9, e10, hG⟩ := hG
      replace hX := fr_F hX (k := 72) rfl e10
      replace hG := zlet_ex hG
      obtain ⟨X11, e12, hG⟩ := hG
      replace hX := fr_F hX (k := 68) rfl e12
      exact fr_T hX (hr36 hG)
theorem wf197_36 {n : Nat}   (k : Nat) : ∀ {l1 : Int32} {l2 : Int32} {X : zX} {p : Unit × zX}, gf197_36 n  k l1 l2 X = some p → fr 17432173149655526277120 0 X p.2 := by
  induction k with
  | zero => intros; rename_i hG; cases hG
  | succ k ih => intros; rename_i hG; exact wb197_36 (n := n) (q36 := gf197_36 n  k) ih hG
set_option maxRecDepth 20000 in
theorem wb197_23 {n : Nat}   {l1 : Int32} {s0 : Int32} {X : zX} {p : Unit × zX} (hG : gb197_23 n  l1 s0 X = some p) : fr 17432173149655526277120 0 X p.2 := by
  unfold gb197_23 at hG
  have hX : fr 17432173149655526277120 0 X X := fr_R
  replace hG := zlet_ex hG
  obtain ⟨X1, e2, hG⟩ := hG
  replace hX := fr_F hX (k := 68) rfl e2
  replace hG := zlet_ex hG
  obtain ⟨X3, e4, hG⟩ := hG
  replace hX := fr_F hX (k := 72) rfl e4
  exact fr_T hX (wf197_36  n hG)
set_option maxRecDepth 20000 in
theorem w197 {n : Nat} {y1 : Int32} {X : zX} {p : Unit × zX} (hG : g197 n y1 X = some p) : fr 17432173149655526277120 0 X p.2 := by
  unfold g197 at hG
  have hX : fr 17432173149655526277120 0 X X := fr_R
  replace hG := zlet_ex hG
  obtain ⟨X1, e2, hG⟩ := hG
  replace hX := fr_F hX (k := 69) rfl e2
  by_cases c3 : y1 = 0
  · rw [if_pos c3] at hG
    exact fr_T hX (wb197_23  hG)
  · rw [if_neg c3] at hG
    exact fr_T hX (wb197_23  hG)
set_option maxRecDepth 20000 in
theorem wb198_108 {n : Nat}    {X : zX} {p : Unit × zX} (hG : gb198_108 n   X = some p) : fr 12709806666785881063424 0 X p.2 := by
  unfold gb198_108 at hG
  have hX : fr 12709806666785881063424 0 X X := fr_R
  replace hG := zlet_ex hG
  obtain ⟨X1, e2, hG⟩ := hG
  replace hX := fr_F hX (k := 68) rfl e2
  replace hG := Option.some.inj hG
  subst hG
  exact hX
set_option maxRecDepth 20000 in
theorem wb198_75 {n : Nat}    {X : zX} {p : Unit × zX} (hG : gb198_75 n   X = some p) : fr 12709806666785881063424 0 X p.2 := by
  unfold gb198_75 at hG
  have hX : fr 12709806666785881063424 0 X X := fr_R
  replace hG := zlet_ex hG
  obtain ⟨X1, e2, hG⟩ := hG
  replace hX := fr_F hX (k := 71) rfl e2
  replace hG := zbnd hG
  obtain ⟨p3, e4, hG⟩ := hG
  replace hX := fr_T hX (fr_M rfl rfl (w191 e4))
  by_cases c5 : p3.1 = 39
  · rw [if_pos c5] at hG
    exact fr_T hX (wb198_108  hG)
  · rw [if_neg c5] at hG
    replace hG := zbnd hG
    obtain ⟨p6, e7, hG⟩ := hG
    replace hX := fr_T hX (fr_M rfl rfl (w195 e7))
    exact fr_T hX (wb198_108  hG)
set_option maxRecDepth 20000 in
theorem wb198_15 {n : Nat} {q15 : zX → Option (Unit × zX)} (hr15 : ∀  {X : zX} {p : Unit × zX}, q15  X = some p → fr 12709806666785881063424 0 X p.2)  {X : zX} {p : Unit × zX} (hG : gb198_15 n q15  X = some p) : fr 12709806666785881063424 0 X p.2 := by
  unfold gb198_15 at hG
  have hX : fr 12709806666785881063424 0 X X := fr_R
  replace hG := zbnd hG
  obtain ⟨p1, e2, hG⟩ := hG
  replace hX := fr_T hX (fr_M rfl rfl (w191 e2))
  replace hG := zbnd hG
  obtain ⟨p3, e4, hG⟩ := hG
  replace hX := fr_T hX (fr_M rfl rfl (w187 e4))
  by_cases c5 : p3.1 = 0
  · rw [if_pos c5] at hG
    exact fr_T hX (wb198_75  hG)
  · rw [if_neg c5] at hG
    replace hG := zbnd hG
    obtain ⟨p6, e7, hG⟩ := hG
    replace hX := fr_T hX (fr_M rfl rfl (w191 e7))
    by_cases c8 : p6.1 = 39
    · rw [if_pos c8] at hG
      exact fr_T hX (wb198_75  hG)
    · rw [if_neg c8] at hG
      by_cases c9 : (16 : Int32) ≤ (((p6.2.1 68) - (p6.2.1 70)) - 1)
      · rw [if_pos c9] at hG
        exact fr_T hX (wb198_75  hG)
      · rw [if_neg c9] at hG
        replace hG := zlet_ex hG
        obtain ⟨X10, e11, hG⟩ := hG
        replace hX := fr_F hX (k := 68) rfl e11
        exact fr_T hX (hr15 hG)
theorem wf198_15 {n : Nat}   (k : Nat) : ∀  {X : zX} {p : Unit × zX}, gf198_15 n  k  X = some p → fr 12709806666785881063424 0 X p.2 := by
  induction k with
  | zero => intros; rename_i hG; cases hG
  | succ k ih => intros; rename_i hG; exact wb198_15 (n := n) (q15 := gf198_15 n  k) ih hG
set_option maxRecDepth 20000 in
theorem w198 {n : Nat}  {X : zX} {p : Unit × zX} (hG : g198 n  X = some p) : fr 12709806666785881063424 0 X p.2 := by
  unfold g198 at hG
  have hX : fr 12709806666785881063424 0 X X := fr_R
  replace hG := zlet_ex hG
  obtain ⟨X1, e2, hG⟩ := hG
  replace hX := fr_F hX (k := 69) rfl e2
  replace hG := zlet_ex hG
  obtain ⟨X3, e4, hG⟩ := hG
  replace hX := fr_F hX (k := 68) rfl e4
  exact fr_T hX (wf198_15  n hG)
set_option maxRecDepth 20000 in
theorem wb190_61 {n : Nat} {q9 : zX → Option (Unit × zX)} (hr9 : ∀  {X : zX} {p : Unit × zX}, q9  X = some p → fr 18612764770372937580544 0 X p.2)  {X : zX} {p : Unit × zX} (hG : gb190_61 n q9  X = some p) : fr 18612764770372937580544 0 X p.2 := by
  unfold gb190_61 at hG
  have hX : fr 18612764770372937580544 0 X X := fr_R
  replace hG := zlet_ex hG
  obtain ⟨X1, e2, hG⟩ := hG
  replace hX := fr_F hX (k := 68) rfl e2
  exact fr_T hX (hr9 hG)
set_option maxRecDepth 20000 in
theorem wb190_214 {n : Nat}   {l1 : Int32} {s0 : Int32} {X : zX} {p : Unit × zX} (hG : gb190_214 n  l1 s0 X = some p) : fr 18612764770372937580544 0 X p.2 := by
  unfold gb190_214 at hG
  have hX : fr 18612764770372937580544 0 X X := fr_R
  replace hG := zbnd hG
  obtain ⟨p1, e2, hG⟩ := hG
  replace hX := fr_T hX (fr_M rfl rfl (w197 e2))
  replace hG := Option.some.inj hG
  subst hG
  exact hX
set_option maxRecDepth 20000 in
theorem wb190_202 {n : Nat}   {l1 : Int32} {X : zX} {p : Unit × zX} (hG : gb190_202 n  l1 X = some p) : fr 18612764770372937580544 0 X p.2 := by
  unfold gb190_202 at hG
  have hX : fr 18612764770372937580544 0 X X := fr_R
  by_cases c1 : l1 = 45
  · rw [if_pos c1] at hG
    exact fr_T hX (wb190_214  hG)
  · rw [if_neg c1] at hG
    exact fr_T hX (wb190_214  hG)
set_option maxRecDepth 20000 in
theorem wb190_321 {n : Nat}   {l1 : Int32} {X : zX} {p : Unit × zX} (hG : gb190_321 n  l1 X = some p) : fr 18612764770372937580544 0 X p.2 := by
  unfold gb190_321 at hG
  have hX : fr 18612764770372937580544 0 X X := fr_R
  replace hG := zlet_ex hG
  obtain ⟨X1, e2, hG⟩ := hG
  replace hX := fr_F hX (k := 69) rfl e2
  replace hG := zlet_ex hG
  obtain ⟨X3, e4, hG⟩ := hG
  replace hX := fr_F hX (k := 68) rfl e4
  replace hG := Option.some.inj hG
  subst hG
  exact hX
set_option maxRecDepth 20000 in
theorem wb190_273 {n : Nat}   {l1 : Int32} {X : zX} {p : Unit × zX} (hG : gb190_273 n  l1 X = some p) : fr 18612764770372937580544 0 X p.2 := by
  unfold gb190_273 at hG
  have hX : fr 18612764770372937580544 0 X X := fr_R
  by_cases c1 : l1 = 123
  · rw [if_pos c1] at hG
    exact fr_T hX (wb190_321  hG)
  · rw [if_neg c1] at hG
    by_cases c2 : l1 = 125
    · rw [if_pos c2] at hG
      exact fr_T hX (wb190_321  hG)
    · rw [if_neg c2] at hG
      by_cases c3 : l1 = 40
      · rw [if_pos c3] at hG
        exact fr_T hX (wb190_321  hG)
      · rw [if_neg c3] at hG
        by_cases c4 : l1 = 41
        · rw [if_pos c4] at hG
          exact fr_T hX (wb190_321  hG)
        · rw [if_neg c4] at hG
          by_cases c5 : l1 = 59
          · rw [if_pos c5] at hG
            exact fr_T hX (wb190_321  hG)
          · rw [if_neg c5] at hG
            by_cases c6 : l1 = 44
            · rw [if_pos c6] at hG
              exact fr_T hX (wb190_321  hG)
            · rw [if_neg c6] at hG
              by_cases c7 : l1 = 58
              · rw [if_pos c7] at hG
                exact fr_T hX (wb190_321  hG)
              · rw [if_neg c7] at hG
                by_cases c8 : l1 = 61
                · rw [if_pos c8] at hG
                  exact fr_T hX (wb190_321  hG)
                · rw [if_neg c8] at hG
                  replace hG := zbnd hG
                  obtain ⟨p9, e10, hG⟩ := hG
                  replace hX := fr_T hX (fr_M rfl rfl (w195 e10))
                  replace hG := Option.some.inj hG
                  subst hG
                  exact hX
set_option maxRecDepth 20000 in
theorem wb190_220 {n : Nat}   {l1 : Int32} {X : zX} {p : Unit × zX} (hG : gb190_220 n  l1 X = some p) : fr 18612764770372937580544 0 X p.2 := by
  unfold gb190_220 at hG
  have hX : fr 18612764770372937580544 0 X X := fr_R
  by_cases c1 : l1 = 39
  · rw [if_pos c1] at hG
    replace hG := zbnd hG
    obtain ⟨p2, e3, hG⟩ := hG
    replace hX := fr_T hX (fr_M rfl rfl (w198 e3))
    replace hG := Option.some.inj hG
    subst hG
    exact hX
  · rw [if_neg c1] at hG
    by_cases c4 : l1 = 45
    · rw [if_pos c4] at hG
      replace hG := zbnd hG
      obtain ⟨p5, e6, hG⟩ := hG
      replace hX := fr_T hX (fr_M rfl rfl (w191 e6))
      by_cases c7 : p5.1 = 62
      · rw [if_pos c7] at hG
        replace hG := zlet_ex hG
        obtain ⟨X8, e9, hG⟩ := hG
        replace hX := fr_F hX (k := 69) rfl e9
        replace hG := zlet_ex hG
        obtain ⟨X10, e11, hG⟩ := hG
        replace hX := fr_F hX (k := 68) rfl e11
        replace hG := Option.some.inj hG
        subst hG
        exact hX
      · rw [if_neg c7] at hG
        exact fr_T hX (wb190_273  hG)
    · rw [if_neg c4] at hG
      exact fr_T hX (wb190_273  hG)
set_option maxRecDepth 20000 in
theorem wb190_116 {n : Nat} {q116 : Int32 → zX → Option (Unit × zX)} (hr116 : ∀ {l1 : Int32} {X : zX} {p : Unit × zX}, q116 l1 X = some p → fr 18612764770372937580544 0 X p.2) {l1 : Int32} {X : zX} {p : Unit × zX} (hG : gb190_116 n q116 l1 X = some p) : fr 18612764770372937580544 0 X p.2 := by
  unfold gb190_116 at hG
  have hX : fr 18612764770372937580544 0 X X := fr_R
  replace hG := zbnd hG
  obtain ⟨p1, e2, hG⟩ := hG
  replace hX := fr_T hX (fr_M rfl rfl (w191 e2))
  replace hG := zbnd hG
  obtain ⟨p3, e4, hG⟩ := hG
  replace hX := fr_T hX (fr_M rfl rfl (w193 e4))
  by_cases c5 : p3.1 = 0
  · rw [if_pos c5] at hG
    replace hG := zlet_ex hG
    obtain ⟨X6, e7, hG⟩ := hG
    replace hX := fr_F hX (k := 71) rfl e7
    by_cases c8 : (X6.1 71) ≤ 16
    · rw [if_pos c8] at hG
      replace hG := Option.some.inj hG
      subst hG
      exact hX
    · rw [if_neg c8] at hG
      replace hG := zbnd hG
      obtain ⟨p9, e10, hG⟩ := hG
      replace hX := fr_T hX (fr_M rfl rfl (w195 e10))
      replace hG := Option.some.inj hG
      subst hG
      exact hX
  · rw [if_neg c5] at hG
    replace hG := zlet_ex hG
    obtain ⟨X11, e12, hG⟩ := hG
    replace hX := fr_F hX (k := 68) rfl e12
    exact fr_T hX (hr116 hG)
theorem wf190_116 {n : Nat}   (k : Nat) : ∀ {l1 : Int32} {X : zX} {p : Unit × zX}, gf190_116 n  k l1 X = some p → fr 18612764770372937580544 0 X p.2 := by
  induction k with
  | zero => intros; rename_i hG; cases hG
  | succ k ih => intros; rename_i hG; exact wb190_116 (n := n) (q116 := gf190_116 n  k) ih hG
set_option maxRecDepth 20000 in
theorem wb190_9 {n : Nat} {q9 : zX → Option (Unit × zX)} (hr9 : ∀  {X : zX} {p : Unit × zX}, q9  X = some p → fr 18612764770372937580544 0 X p.2)  {X : zX} {p : Unit × zX} (hG : gb190_9 n q9  X = some p) : fr 18612764770372937580544 0 X p.2 := by
  unfold gb190_9 at hG
  have hX : fr 18612764770372937580544 0 X X := fr_R
  replace hG := zbnd hG
  obtain ⟨p1, e2, hG⟩ := hG
  replace hX := fr_T hX (fr_M rfl rfl (w191 e2))
  by_cases c3 : p1.1 = 9
  · rw [if_pos c3] at hG
    exact fr_T hX (wb190_61 hr9 hG)
  · rw [if_neg c3] at hG
    replace hG := zbnd hG
    obtain ⟨p4, e5, hG⟩ := hG
    replace hX := fr_T hX (fr_M rfl rfl (w191 e5))
    by_cases c6 : p4.1 = 10
    · rw [if_pos c6] at hG
      exact fr_T hX (wb190_61 hr9 hG)
    · rw [if_neg c6] at hG
      replace hG := zbnd hG
      obtain ⟨p7, e8, hG⟩ := hG
      replace hX := fr_T hX (fr_M rfl rfl (w191 e8))
      by_cases c9 : p7.1 = 13
      · rw [if_pos c9] at hG
        exact fr_T hX (wb190_61 hr9 hG)
      · rw [if_neg c9] at hG
        replace hG := zbnd hG
        obtain ⟨p10, e11, hG⟩ := hG
        replace hX := fr_T hX (fr_M rfl rfl (w191 e11))
        by_cases c12 : p10.1 = 32
        · rw [if_pos c12] at hG
          exact fr_T hX (wb190_61 hr9 hG)
        · rw [if_neg c12] at hG
          replace hG := zlet_ex hG
          obtain ⟨X13, e14, hG⟩ := hG
          replace hX := fr_F hX (k := 70) rfl e14
          replace hG := zbnd hG
          obtain ⟨p15, e16, hG⟩ := hG
          replace hX := fr_T hX (fr_M rfl rfl (w191 e16))
          by_cases c17 : p15.1 = (-1)
          · rw [if_pos c17] at hG
            replace hG := zlet_ex hG
            obtain ⟨X18, e19, hG⟩ := hG
            replace hX := fr_F hX (k := 69) rfl e19
            replace hG := Option.some.inj hG
            subst hG
            exact hX
          · rw [if_neg c17] at hG
            replace hG := zbnd hG
            obtain ⟨p20, e21, hG⟩ := hG
            replace hX := fr_T hX (fr_M rfl rfl (w192 e21))
            by_cases c22 : p20.1 = 0
            · rw [if_pos c22] at hG
              replace hG := zbnd hG
              obtain ⟨p23, e24, hG⟩ := hG
              replace hX := fr_T hX (fr_M rfl rfl (w194 e24))
              by_cases c25 : p23.1 = 0
              · rw [if_pos c25] at hG
                by_cases c26 : p15.1 = 45
                · rw [if_pos c26] at hG
                  replace hG := zbnd hG
                  obtain ⟨p27, e28, hG⟩ := hG
                  replace hX := fr_T hX (fr_M rfl rfl (w191 e28))
                  replace hG := zbnd hG
                  obtain ⟨p29, e30, hG⟩ := hG
                  replace hX := fr_T hX (fr_M rfl rfl (w194 e30))
                  by_cases c31 : p29.1 = 0
                  · rw [if_pos c31] at hG
                    exact fr_T hX (wb190_220  hG)
                  · rw [if_neg c31] at hG
                    exact fr_T hX (wb190_202  hG)
                · rw [if_neg c26] at hG
                  exact fr_T hX (wb190_220  hG)
              · rw [if_neg c25] at hG
                exact fr_T hX (wb190_202  hG)
            · rw [if_neg c22] at hG
              replace hG := zlet_ex hG
              obtain ⟨X32, e33, hG⟩ := hG
              replace hX := fr_F hX (k := 69) rfl e33
              exact fr_T hX (wf190_116  n hG)
theorem wf190_9 {n : Nat}   (k : Nat) : ∀  {X : zX} {p : Unit × zX}, gf190_9 n  k  X = some p → fr 18612764770372937580544 0 X p.2 := by
  induction k with
  | zero => intros; rename_i hG; cases hG
  | succ k ih => intros; rename_i hG; exact wb190_9 (n := n) (q9 := gf190_9 n  k) ih hG
set_option maxRecDepth 20000 in
theorem w190 {n : Nat}  {X : zX} {p : Unit × zX} (hG : g190 n  X = some p) : fr 18612764770372937580544 0 X p.2 := by
  unfold g190 at hG
  have hX : fr 18612764770372937580544 0 X X := fr_R
  by_cases c1 : (X.1 73) = (-1)
  · rw [if_pos c1] at hG
    exact fr_T hX (wf190_9  n hG)
  · rw [if_neg c1] at hG
    replace hG := Option.some.inj hG
    subst hG
    exact hX
set_option maxRecDepth 20000 in
theorem wb199_129 {n : Nat} {q7 : Nat → Int32 → Int32 → Int32 → zX → Option (Int32 × zX)} (hr7 : ∀ {l1 : Nat} {l2 : Int32} {l3 : Int32} {l4 : Int32} {X : zX} {p : Int32 × zX}, q7 l1 l2 l3 l4 X = some p → fr 0 0 X p.2) {l1 : Nat} {l2 : Int32} {l3 : Int32} {l4 : Int32} {X : zX} {p : Int32 × zX} (hG : gb199_129 n q7 l1 l2 l3 l4 X = some p) : fr 0 0 X p.2 := by
  unfold gb199_129 at hG
  have hX : fr 0 0 X X := fr_R
  exact fr_T hX (hr7 hG)
set_option maxRecDepth 20000 in
theorem wb199_114 {n : Nat} {q7 : Nat → Int32 → Int32 → Int32 → zX → Option (Int32 × zX)} (hr7 : ∀ {l1 : Nat} {l2 : Int32} {l3 : Int32} {l4 : Int32} {X : zX} {p : Int32 × zX}, q7 l1 l2 l3 l4 X = some p → fr 0 0 X p.2) {l1 : Nat} {l2 : Int32} {l3 : Int32} {l4 : Int32} {l5 : Int32} {l6 : Int32} {X : zX} {p : Int32 × zX} (hG : gb199_114 n q7 l1 l2 l3 l4 l5 l6 X = some p) : fr 0 0 X p.2 := by
  unfold gb199_114 at hG
  have hX : fr 0 0 X X := fr_R
  by_cases c1 : l5 = 0
  · rw [if_pos c1] at hG
    exact fr_T hX (wb199_129 hr7 hG)
  · rw [if_neg c1] at hG
    replace hG := Option.some.inj hG
    subst hG
    exact hX
set_option maxRecDepth 20000 in
theorem wb199_106 {n : Nat} {q7 : Nat → Int32 → Int32 → Int32 → zX → Option (Int32 × zX)} {q65 : Nat → Int32 → Int32 → Int32 → Int32 → Int32 → zX → Option (Int32 × zX)} (hr7 : ∀ {l1 : Nat} {l2 : Int32} {l3 : Int32} {l4 : Int32} {X : zX} {p : Int32 × zX}, q7 l1 l2 l3 l4 X = some p → fr 0 0 X p.2) (hr65 : ∀ {l1 : Nat} {l2 : Int32} {l3 : Int32} {l4 : Int32} {l5 : Int32} {l6 : Int32} {X : zX} {p : Int32 × zX}, q65 l1 l2 l3 l4 l5 l6 X = some p → fr 0 0 X p.2) {l1 : Nat} {l2 : Int32} {l3 : Int32} {l4 : Int32} {l5 : Int32} {l6 : Int32} {s0 : Int32} {X : zX} {p : Int32 × zX} (hG : gb199_106 n q7 q65 l1 l2 l3 l4 l5 l6 s0 X = some p) : fr 0 0 X p.2 := by
  unfold gb199_106 at hG
  have hX : fr 0 0 X X := fr_R
  exact fr_T hX (hr65 hG)
set_option maxRecDepth 20000 in
theorem wb199_65 {n : Nat} {q7 : Nat → Int32 → Int32 → Int32 → zX → Option (Int32 × zX)} {q65 : Nat → Int32 → Int32 → Int32 → Int32 → Int32 → zX → Option (Int32 × zX)} (hr7 : ∀ {l1 : Nat} {l2 : Int32} {l3 : Int32} {l4 : Int32} {X : zX} {p : Int32 × zX}, q7 l1 l2 l3 l4 X = some p → fr 0 0 X p.2) (hr65 : ∀ {l1 : Nat} {l2 : Int32} {l3 : Int32} {l4 : Int32} {l5 : Int32} {l6 : Int32} {X : zX} {p : Int32 × zX}, q65 l1 l2 l3 l4 l5 l6 X = some p → fr 0 0 X p.2) {l1 : Nat} {l2 : Int32} {l3 : Int32} {l4 : Int32} {l5 : Int32} {l6 : Int32} {X : zX} {p : Int32 × zX} (hG : gb199_65 n q7 q65 l1 l2 l3 l4 l5 l6 X = some p) : fr 0 0 X p.2 := by
  unfold gb199_65 at hG
  have hX : fr 0 0 X X := fr_R
  by_cases c1 : (X.1 71) ≤ l6
  · rw [if_pos c1] at hG
    exact fr_T hX (wb199_114 hr7 hG)
  · rw [if_neg c1] at hG
    by_cases c2 : l5 = 0
    · rw [if_pos c2] at hG
      exact fr_T hX (wb199_114 hr7 hG)
    · rw [if_neg c2] at hG
      replace hG := zbnd hG
      obtain ⟨p3, e4, hG⟩ := hG
      replace hX := fr_T hX (fr_M rfl rfl (w191 e4))
      replace hG := zgd_some hG
      obtain ⟨g5, hG⟩ := hG
      replace hG := zbnd hG
      obtain ⟨x6, e7, hG⟩ := hG
      by_cases c8 : p3.1 = x6
      · rw [if_pos c8] at hG
        exact fr_T hX (wb199_106 hr7 hr65 hG)
      · rw [if_neg c8] at hG
        exact fr_T hX (wb199_106 hr7 hr65 hG)
theorem wf199_65 {n : Nat} {q7 : Nat → Int32 → Int32 → Int32 → zX → Option (Int32 × zX)} (hr7 : ∀ {l1 : Nat} {l2 : Int32} {l3 : Int32} {l4 : Int32} {X : zX} {p : Int32 × zX}, q7 l1 l2 l3 l4 X = some p → fr 0 0 X p.2) (k : Nat) : ∀ {l1 : Nat} {l2 : Int32} {l3 : Int32} {l4 : Int32} {l5 : Int32} {l6 : Int32} {X : zX} {p : Int32 × zX}, gf199_65 n q7 k l1 l2 l3 l4 l5 l6 X = some p → fr 0 0 X p.2 := by
  induction k with
  | zero => intros; rename_i hG; cases hG
  | succ k ih => intros; rename_i hG; exact wb199_65 (n := n) (q7 := q7) (q65 := gf199_65 n q7 k) hr7 ih hG
set_option maxRecDepth 20000 in
theorem wb199_60 {n : Nat} {q7 : Nat → Int32 → Int32 → Int32 → zX → Option (Int32 × zX)} (hr7 : ∀ {l1 : Nat} {l2 : Int32} {l3 : Int32} {l4 : Int32} {X : zX} {p : Int32 × zX}, q7 l1 l2 l3 l4 X = some p → fr 0 0 X p.2) {l1 : Nat} {l2 : Int32} {l3 : Int32} {l4 : Int32} {s0 : Int32} {X : zX} {p : Int32 × zX} (hG : gb199_60 n q7 l1 l2 l3 l4 s0 X = some p) : fr 0 0 X p.2 := by
  unfold gb199_60 at hG
  have hX : fr 0 0 X X := fr_R
  exact fr_T hX (wf199_65 hr7 n hG)
set_option maxRecDepth 20000 in
theorem wb199_59 {n : Nat} {q7 : Nat → Int32 → Int32 → Int32 → zX → Option (Int32 × zX)} (hr7 : ∀ {l1 : Nat} {l2 : Int32} {l3 : Int32} {l4 : Int32} {X : zX} {p : Int32 × zX}, q7 l1 l2 l3 l4 X = some p → fr 0 0 X p.2) {l1 : Nat} {l2 : Int32} {l3 : Int32} {l4 : Int32} {X : zX} {p : Int32 × zX} (hG : gb199_59 n q7 l1 l2 l3 l4 X = some p) : fr 0 0 X p.2 := by
  unfold gb199_59 at hG
  have hX : fr 0 0 X X := fr_R
  exact fr_T hX (wb199_60 hr7 hG)
set_option maxRecDepth 20000 in
theorem wb199_36 {n : Nat} {q7 : Nat → Int32 → Int32 → Int32 → zX → Option (Int32 × zX)} (hr7 : ∀ {l1 : Nat} {l2 : Int32} {l3 : Int32} {l4 : Int32} {X : zX} {p : Int32 × zX}, q7 l1 l2 l3 l4 X = some p → fr 0 0 X p.2) {l1 : Nat} {l2 : Int32} {l3 : Int32} {l4 : Int32} {X : zX} {p : Int32 × zX} (hG : gb199_36 n q7 l1 l2 l3 l4 X = some p) : fr 0 0 X p.2 := by
  unfold gb199_36 at hG
  have hX : fr 0 0 X X := fr_R
  by_cases c1 : (X.1 69) = 1
  · rw [if_pos c1] at hG
    by_cases c2 : (X.1 71) = (l4 - l3)
    · rw [if_pos c2] at hG
      exact fr_T hX (wb199_60 hr7 hG)
    · rw [if_neg c2] at hG
      exact fr_T hX (wb199_59 hr7 hG)
  · rw [if_neg c1] at hG
    exact fr_T hX (wb199_59 hr7 hG)
set_option maxRecDepth 20000 in
theorem wb199_7 {n : Nat} {q7 : Nat → Int32 → Int32 → Int32 → zX → Option (Int32 × zX)} (hr7 : ∀ {l1 : Nat} {l2 : Int32} {l3 : Int32} {l4 : Int32} {X : zX} {p : Int32 × zX}, q7 l1 l2 l3 l4 X = some p → fr 0 0 X p.2) {l1 : Nat} {l2 : Int32} {l3 : Int32} {l4 : Int32} {X : zX} {p : Int32 × zX} (hG : gb199_7 n q7 l1 l2 l3 l4 X = some p) : fr 0 0 X p.2 := by
  unfold gb199_7 at hG
  have hX : fr 0 0 X X := fr_R
  replace hG := zgd_some hG
  obtain ⟨g1, hG⟩ := hG
  by_cases c2 : (nI (cs l1).length) < l4
  · rw [if_pos c2] at hG
    replace hG := Option.some.inj hG
    subst hG
    exact hX
  · rw [if_neg c2] at hG
    replace hG := zgd_some hG
    obtain ⟨g3, hG⟩ := hG
    by_cases c4 : l4 = (nI (cs l1).length)
    · rw [if_pos c4] at hG
      exact fr_T hX (wb199_36 hr7 hG)
    · rw [if_neg c4] at hG
      replace hG := zgd_some hG
      obtain ⟨g5, hG⟩ := hG
      replace hG := zbnd hG
      obtain ⟨x6, e7, hG⟩ := hG
      by_cases c8 : x6 = 32
      · rw [if_pos c8] at hG
        exact fr_T hX (wb199_36 hr7 hG)
      · rw [if_neg c8] at hG
        exact fr_T hX (wb199_129 hr7 hG)
theorem wf199_7 {n : Nat}   (k : Nat) : ∀ {l1 : Nat} {l2 : Int32} {l3 : Int32} {l4 : Int32} {X : zX} {p : Int32 × zX}, gf199_7 n  k l1 l2 l3 l4 X = some p → fr 0 0 X p.2 := by
  induction k with
  | zero => intros; rename_i hG; cases hG
  | succ k ih => intros; rename_i hG; exact wb199_7 (n := n) (q7 := gf199_7 n  k) ih hG
set_option maxRecDepth 20000 in
theorem w199 {n : Nat} {y1 : Nat} {X : zX} {p : Int32 × zX} (hG : g199 n y1 X = some p) : fr 0 0 X p.2 := by
  unfold g199 at hG
  have hX : fr 0 0 X X := fr_R
  exact fr_T hX (wf199_7  n hG)
set_option maxRecDepth 20000 in
theorem w200 {n : Nat} {y1 : Int32} {X : zX} {p : Unit × zX} (hG : g200 n y1 X = some p) : fr 9463179709812999979008 0 X p.2 := by
  unfold g200 at hG
  have hX : fr 9463179709812999979008 0 X X := fr_R
  by_cases c1 : (X.1 73) = (-1)
  · rw [if_pos c1] at hG
    by_cases c2 : y1 = 0
    · rw [if_pos c2] at hG
      replace hG := zbnd hG
      obtain ⟨p3, e4, hG⟩ := hG
      replace hX := fr_T hX (fr_M rfl rfl (w195 e4))
      replace hG := Option.some.inj hG
      subst hG
      exact hX
    · rw [if_neg c2] at hG
      replace hG := Option.some.inj hG
      subst hG
      exact hX
  · rw [if_neg c1] at hG
    replace hG := Option.some.inj hG
    subst hG
    exact hX
set_option maxRecDepth 20000 in
theorem w203 {n : Nat}  {X : zX} {p : Int32 × zX} (hG : g203 n  X = some p) : fr 0 0 X p.2 := by
  unfold g203 at hG
  have hX : fr 0 0 X X := fr_R
  by_cases c1 : (X.1 69) = 1
  · rw [if_pos c1] at hG
    replace hG := zbnd hG
    obtain ⟨p2, e3, hG⟩ := hG
    replace hX := fr_T hX (fr_M rfl rfl (w199 e3))
    by_cases c4 : p2.1 = (-1)
    · rw [if_pos c4] at hG
      replace hG := Option.some.inj hG
      subst hG
      exact hX
    · rw [if_neg c4] at hG
      replace hG := Option.some.inj hG
      subst hG
      exact hX
  · rw [if_neg c1] at hG
    replace hG := Option.some.inj hG
    subst hG
    exact hX
set_option maxRecDepth 20000 in
theorem wb205_60 {n : Nat} {q20 : Int32 → Int32 → Int32 → Int32 → Int32 → zX → Option (Int32 × zX)} (hr20 : ∀ {l1 : Int32} {l2 : Int32} {l3 : Int32} {l4 : Int32} {l5 : Int32} {X : zX} {p : Int32 × zX}, q20 l1 l2 l3 l4 l5 X = some p → fr 0 0 X p.2) {l1 : Int32} {l2 : Int32} {l3 : Int32} {l4 : Int32} {l5 : Int32} {s0 : Int32} {X : zX} {p : Int32 × zX} (hG : gb205_60 n q20 l1 l2 l3 l4 l5 s0 X = some p) : fr 0 0 X p.2 := by
  unfold gb205_60 at hG
  have hX : fr 0 0 X X := fr_R
  exact fr_T hX (hr20 hG)
set_option maxRecDepth 20000 in
theorem wb205_20 {n : Nat} {q20 : Int32 → Int32 → Int32 → Int32 → Int32 → zX → Option (Int32 × zX)} (hr20 : ∀ {l1 : Int32} {l2 : Int32} {l3 : Int32} {l4 : Int32} {l5 : Int32} {X : zX} {p : Int32 × zX}, q20 l1 l2 l3 l4 l5 X = some p → fr 0 0 X p.2) {l1 : Int32} {l2 : Int32} {l3 : Int32} {l4 : Int32} {l5 : Int32} {X : zX} {p : Int32 × zX} (hG : gb205_20 n q20 l1 l2 l3 l4 l5 X = some p) : fr 0 0 X p.2 := by
  unfold gb205_20 at hG
  have hX : fr 0 0 X X := fr_R
  by_cases c1 : l3 ≤ l5
  · rw [if_pos c1] at hG
    replace hG := zgd_some hG
    obtain ⟨g2, hG⟩ := hG
    replace hG := Option.some.inj hG
    subst hG
    exact hX
  · rw [if_neg c1] at hG
    by_cases c3 : l4 = 0
    · rw [if_pos c3] at hG
      replace hG := zgd_some hG
      obtain ⟨g4, hG⟩ := hG
      replace hG := Option.some.inj hG
      subst hG
      exact hX
    · rw [if_neg c3] at hG
      replace hG := zbnd hG
      obtain ⟨x6, e7, hG⟩ := hG
      replace hG := zbnd hG
      obtain ⟨x9, e10, hG⟩ := hG
      by_cases c11 : x6 = x9
      · rw [if_pos c11] at hG
        exact fr_T hX (wb205_60 hr20 hG)
      · rw [if_neg c11] at hG
        exact fr_T hX (wb205_60 hr20 hG)
theorem wf205_20 {n : Nat}   (k : Nat) : ∀ {l1 : Int32} {l2 : Int32} {l3 : Int32} {l4 : Int32} {l5 : Int32} {X : zX} {p : Int32 × zX}, gf205_20 n  k l1 l2 l3 l4 l5 X = some p → fr 0 0 X p.2 := by
  induction k with
  | zero => intros; rename_i hG; cases hG
  | succ k ih => intros; rename_i hG; exact wb205_20 (n := n) (q20 := gf205_20 n  k) ih hG
set_option maxRecDepth 20000 in
theorem wb205_15 {n : Nat}   {l1 : Int32} {l2 : Int32} {l3 : Int32} {s0 : Int32} {X : zX} {p : Int32 × zX} (hG : gb205_15 n  l1 l2 l3 s0 X = some p) : fr 0 0 X p.2 := by
  unfold gb205_15 at hG
  have hX : fr 0 0 X X := fr_R
  exact fr_T hX (wf205_20  n hG)
set_option maxRecDepth 20000 in
theorem w205 {n : Nat} {y1 : Int32} {y2 : Int32} {y3 : Int32} {X : zX} {p : Int32 × zX} (hG : g205 n y1 y2 y3 X = some p) : fr 0 0 X p.2 := by
  unfold g205 at hG
  have hX : fr 0 0 X X := fr_R
  replace hG := zbnd hG
  obtain ⟨x2, e3, hG⟩ := hG
  by_cases c4 : x2 = y3
  · rw [if_pos c4] at hG
    exact fr_T hX (wb205_15  hG)
  · rw [if_neg c4] at hG
    exact fr_T hX (wb205_15  hG)
set_option maxRecDepth 20000 in
theorem wb204_3 {n : Nat} {q3 : Nat → Int32 → Int32 → Int32 → Int32 → Int32 → zX → Option (Int32 × zX)} (hr3 : ∀ {l1 : Nat} {l2 : Int32} {l3 : Int32} {l4 : Int32} {l5 : Int32} {l6 : Int32} {X : zX} {p : Int32 × zX}, q3 l1 l2 l3 l4 l5 l6 X = some p → fr 0 0 X p.2) {l1 : Nat} {l2 : Int32} {l3 : Int32} {l4 : Int32} {l5 : Int32} {l6 : Int32} {X : zX} {p : Int32 × zX} (hG : gb204_3 n q3 l1 l2 l3 l4 l5 l6 X = some p) : fr 0 0 X p.2 := by
  unfold gb204_3 at hG
  have hX : fr 0 0 X X := fr_R
  by_cases c1 : l3 ≤ l6
  · rw [if_pos c1] at hG
    replace hG := Option.some.inj hG
    subst hG
    exact hX
  · rw [if_neg c1] at hG
    replace hG := zgd_some hG
    obtain ⟨g4, hG⟩ := hG
    replace hG := zbnd hG
    obtain ⟨x2, e3, hG⟩ := hG
    replace hG := zbnd hG
    obtain ⟨p5, e6, hG⟩ := hG
    replace hX := fr_T hX (fr_M rfl rfl (w205 e6))
    by_cases c7 : p5.1 = 0
    · rw [if_pos c7] at hG
      exact fr_T hX (hr3 hG)
    · rw [if_neg c7] at hG
      replace hG := Option.some.inj hG
      subst hG
      exact hX
theorem wf204_3 {n : Nat}   (k : Nat) : ∀ {l1 : Nat} {l2 : Int32} {l3 : Int32} {l4 : Int32} {l5 : Int32} {l6 : Int32} {X : zX} {p : Int32 × zX}, gf204_3 n  k l1 l2 l3 l4 l5 l6 X = some p → fr 0 0 X p.2 := by
  induction k with
  | zero => intros; rename_i hG; cases hG
  | succ k ih => intros; rename_i hG; exact wb204_3 (n := n) (q3 := gf204_3 n  k) ih hG
set_option maxRecDepth 20000 in
theorem w204 {n : Nat} {y1 : Nat} {y2 : Int32} {y3 : Int32} {y4 : Int32} {y5 : Int32} {X : zX} {p : Int32 × zX} (hG : g204 n y1 y2 y3 y4 y5 X = some p) : fr 0 0 X p.2 := by
  unfold g204 at hG
  have hX : fr 0 0 X X := fr_R
  exact fr_T hX (wf204_3  n hG)
set_option maxRecDepth 20000 in
theorem wb207_10 {n : Nat} {q10 : Int32 → Int32 → Int32 → Int32 → zX → Option (Unit × zX)} (hr10 : ∀ {l1 : Int32} {l2 : Int32} {l3 : Int32} {l4 : Int32} {X : zX} {p : Unit × zX}, q10 l1 l2 l3 l4 X = some p → fr 0 12 X p.2) {l1 : Int32} {l2 : Int32} {l3 : Int32} {l4 : Int32} {X : zX} {p : Unit × zX} (hG : gb207_10 n q10 l1 l2 l3 l4 X = some p) : fr 0 12 X p.2 := by
  unfold gb207_10 at hG
  have hX : fr 0 12 X X := fr_R
  by_cases c1 : l3 ≤ l4
  · rw [if_pos c1] at hG
    replace hG := Option.some.inj hG
    subst hG
    exact hX
  · rw [if_neg c1] at hG
    replace hG := zbnd hG
    obtain ⟨x4, e5, hG⟩ := hG
    replace hG := zgd_some hG
    obtain ⟨g8, hG⟩ := hG
    replace hG := zbnd hG
    obtain ⟨X6, e7, hG⟩ := hG
    replace hX := fr_W hX (i := 3) rfl e7
    exact fr_T hX (hr10 hG)
theorem wf207_10 {n : Nat}   (k : Nat) : ∀ {l1 : Int32} {l2 : Int32} {l3 : Int32} {l4 : Int32} {X : zX} {p : Unit × zX}, gf207_10 n  k l1 l2 l3 l4 X = some p → fr 0 12 X p.2 := by
  induction k with
  | zero => intros; rename_i hG; cases hG
  | succ k ih => intros; rename_i hG; exact wb207_10 (n := n) (q10 := gf207_10 n  k) ih hG
set_option maxRecDepth 20000 in
theorem w207 {n : Nat} {y1 : Int32} {y2 : Int32} {y3 : Int32} {X : zX} {p : Unit × zX} (hG : g207 n y1 y2 y3 X = some p) : fr 0 12 X p.2 := by
  unfold g207 at hG
  have hX : fr 0 12 X X := fr_R
  replace hG := zgd_some hG
  obtain ⟨g4, hG⟩ := hG
  replace hG := zbnd hG
  obtain ⟨X2, e3, hG⟩ := hG
  replace hX := fr_W hX (i := 2) rfl e3
  exact fr_T hX (wf207_10  n hG)
set_option maxRecDepth 20000 in
theorem wb206_55 {n : Nat}   {l1 : Int32} {s0 : Int32} {s1 : Int32} {X : zX} {p : Int32 × zX} (hG : gb206_55 n  l1 s0 s1 X = some p) : fr 0 14 X p.2 := by
  unfold gb206_55 at hG
  have hX : fr 0 14 X X := fr_R
  replace hG := zgd_some hG
  obtain ⟨g3, hG⟩ := hG
  replace hG := zbnd hG
  obtain ⟨p1, e2, hG⟩ := hG
  replace hX := fr_T hX (fr_M rfl rfl (w207 e2))
  replace hG := Option.some.inj hG
  subst hG
  exact hX
set_option maxRecDepth 20000 in
theorem w206 {n : Nat}  {X : zX} {p : Int32 × zX} (hG : g206 n  X = some p) : fr 0 14 X p.2 := by
  unfold g206 at hG
  have hX : fr 0 14 X X := fr_R
  replace hG := zbnd hG
  obtain ⟨x2, e3, hG⟩ := hG
  replace hG := zbnd hG
  obtain ⟨x5, e6, hG⟩ := hG
  replace hG := zgd_some hG
  obtain ⟨g9, hG⟩ := hG
  replace hG := zbnd hG
  obtain ⟨X7, e8, hG⟩ := hG
  replace hX := fr_W hX (i := 1) rfl e8
  by_cases c10 : (X7.1 69) = 3
  · rw [if_pos c10] at hG
    exact fr_T hX (wb206_55  hG)
  · rw [if_neg c10] at hG
    exact fr_T hX (wb206_55  hG)
set_option maxRecDepth 20000 in
theorem wb202_40 {n : Nat}   {l1 : Nat} {l2 : Int32} {l3 : Int32} {X : zX} {p : Int32 × zX} (hG : gb202_40 n  l1 l2 l3 X = some p) : fr 18612764770372937580544 14 X p.2 := by
  unfold gb202_40 at hG
  have hX : fr 18612764770372937580544 14 X X := fr_R
  by_cases c1 : (X.1 73) = (-1)
  · rw [if_pos c1] at hG
    replace hG := zbnd hG
    obtain ⟨p2, e3, hG⟩ := hG
    replace hX := fr_T hX (fr_M rfl rfl (w206 e3))
    replace hG := zbnd hG
    obtain ⟨p4, e5, hG⟩ := hG
    replace hX := fr_T hX (fr_M rfl rfl (w190 e5))
    replace hG := Option.some.inj hG
    subst hG
    exact hX
  · rw [if_neg c1] at hG
    replace hG := Option.some.inj hG
    subst hG
    exact hX
set_option maxRecDepth 20000 in
theorem w202 {n : Nat} {y1 : Nat} {y2 : Int32} {y3 : Int32} {X : zX} {p : Int32 × zX} (hG : g202 n y1 y2 y3 X = some p) : fr 18612764770372937580544 14 X p.2 := by
  unfold g202 at hG
  have hX : fr 18612764770372937580544 14 X X := fr_R
  replace hG := zbnd hG
  obtain ⟨p1, e2, hG⟩ := hG
  replace hX := fr_T hX (fr_M rfl rfl (w203 e2))
  replace hG := zbnd hG
  obtain ⟨p3, e4, hG⟩ := hG
  replace hX := fr_T hX (fr_M rfl rfl (w200 e4))
  by_cases c5 : (p3.2.1 73) = (-1)
  · rw [if_pos c5] at hG
    replace hG := zbnd hG
    obtain ⟨p6, e7, hG⟩ := hG
    replace hX := fr_T hX (fr_M rfl rfl (w204 e7))
    by_cases c8 : p6.1 = (-1)
    · rw [if_pos c8] at hG
      exact fr_T hX (wb202_40  hG)
    · rw [if_neg c8] at hG
      replace hG := zbnd hG
      obtain ⟨p9, e10, hG⟩ := hG
      replace hX := fr_T hX (fr_M rfl rfl (w195 e10))
      exact fr_T hX (wb202_40  hG)
  · rw [if_neg c5] at hG
    exact fr_T hX (wb202_40  hG)
set_option maxRecDepth 20000 in
theorem w209 {n : Nat} {y1 : Int32} {X : zX} {p : Int32 × zX} (hG : g209 n y1 X = some p) : fr 0 0 X p.2 := by
  unfold g209 at hG
  have hX : fr 0 0 X X := fr_R
  by_cases c1 : (X.1 69) = 4
  · rw [if_pos c1] at hG
    replace hG := zbnd hG
    obtain ⟨p2, e3, hG⟩ := hG
    replace hX := fr_T hX (fr_M rfl rfl (w191 e3))
    by_cases c4 : p2.1 = y1
    · rw [if_pos c4] at hG
      replace hG := Option.some.inj hG
      subst hG
      exact hX
    · rw [if_neg c4] at hG
      replace hG := Option.some.inj hG
      subst hG
      exact hX
  · rw [if_neg c1] at hG
    replace hG := Option.some.inj hG
    subst hG
    exact hX
set_option maxRecDepth 20000 in
theorem w208 {n : Nat} {y1 : Int32} {X : zX} {p : Unit × zX} (hG : g208 n y1 X = some p) : fr 18612764770372937580544 0 X p.2 := by
  unfold g208 at hG
  have hX : fr 18612764770372937580544 0 X X := fr_R
  replace hG := zbnd hG
  obtain ⟨p1, e2, hG⟩ := hG
  replace hX := fr_T hX (fr_M rfl rfl (w209 e2))
  replace hG := zbnd hG
  obtain ⟨p3, e4, hG⟩ := hG
  replace hX := fr_T hX (fr_M rfl rfl (w200 e4))
  replace hG := zbnd hG
  obtain ⟨p5, e6, hG⟩ := hG
  replace hX := fr_T hX (fr_M rfl rfl (w190 e6))
  replace hG := Option.some.inj hG
  subst hG
  exact hX
set_option maxRecDepth 20000 in
theorem w211 {n : Nat} {y1 : Int32} {X : zX} {p : Unit × zX} (hG : g211 n y1 X = some p) : fr 37778931862957161709568 285924533142498050048 X p.2 := by
  unfold g211 at hG
  have hX : fr 37778931862957161709568 285924533142498050048 X X := fr_R
  replace hG := zbnd hG
  obtain ⟨X2, e3, hG⟩ := hG
  replace hX := fr_W hX (i := 63) rfl e3
  replace hG := zbnd hG
  obtain ⟨X5, e6, hG⟩ := hG
  replace hX := fr_W hX (i := 64) rfl e6
  replace hG := zbnd hG
  obtain ⟨X8, e9, hG⟩ := hG
  replace hX := fr_W hX (i := 65) rfl e9
  replace hG := zbnd hG
  obtain ⟨X11, e12, hG⟩ := hG
  replace hX := fr_W hX (i := 66) rfl e12
  replace hG := zbnd hG
  obtain ⟨X14, e15, hG⟩ := hG
  replace hX := fr_W hX (i := 67) rfl e15
  replace hG := zlet_ex hG
  obtain ⟨X16, e17, hG⟩ := hG
  replace hX := fr_F hX (k := 75) rfl e17
  replace hG := Option.some.inj hG
  subst hG
  exact hX
set_option maxRecDepth 20000 in
theorem w213 {n : Nat} {y1 : Nat} {X : zX} {p : Int32 × zX} (hG : g213 n y1 X = some p) : fr 0 0 X p.2 := by
  unfold g213 at hG
  have hX : fr 0 0 X X := fr_R
  replace hG := zbnd hG
  obtain ⟨p1, e2, hG⟩ := hG
  replace hX := fr_T hX (fr_M rfl rfl (w199 e2))
  by_cases c3 : p1.1 = 0
  · rw [if_pos c3] at hG
    replace hG := Option.some.inj hG
    subst hG
    exact hX
  · rw [if_neg c3] at hG
    replace hG := Option.some.inj hG
    subst hG
    exact hX
set_option maxRecDepth 20000 in
theorem wb214_22 {n : Nat}    {X : zX} {p : Unit × zX} (hG : gb214_22 n   X = some p) : fr 85021043435727323398144 0 X p.2 := by
  unfold gb214_22 at hG
  have hX : fr 85021043435727323398144 0 X X := fr_R
  replace hG := zlet_ex hG
  obtain ⟨X1, e2, hG⟩ := hG
  replace hX := fr_F hX (k := 76) rfl e2
  replace hG := Option.some.inj hG
  subst hG
  exact hX
set_option maxRecDepth 20000 in
theorem w214 {n : Nat}  {X : zX} {p : Unit × zX} (hG : g214 n  X = some p) : fr 85021043435727323398144 0 X p.2 := by
  unfold g214 at hG
  have hX : fr 85021043435727323398144 0 X X := fr_R
  by_cases c1 : (X.1 73) = (-1)
  · rw [if_pos c1] at hG
    by_cases c2 : (X.1 76) = 20
    · rw [if_pos c2] at hG
      replace hG := zbnd hG
      obtain ⟨p3, e4, hG⟩ := hG
      replace hX := fr_T hX (fr_M rfl rfl (w195 e4))
      exact fr_T hX (wb214_22  hG)
    · rw [if_neg c2] at hG
      exact fr_T hX (wb214_22  hG)
  · rw [if_neg c1] at hG
    exact fr_T hX (wb214_22  hG)
set_option maxRecDepth 20000 in
theorem wb215_28 {n : Nat}   {l1 : Int32} {X : zX} {p : Int32 × zX} (hG : gb215_28 n  l1 X = some p) : fr 9463179709812999979008 143552238122434560 X p.2 := by
  unfold gb215_28 at hG
  have hX : fr 9463179709812999979008 143552238122434560 X X := fr_R
  by_cases c1 : (X.1 73) = (-1)
  · rw [if_pos c1] at hG
    replace hG := zbnd hG
    obtain ⟨x3, e4, hG⟩ := hG
    replace hG := zbnd hG
    obtain ⟨x6, e7, hG⟩ := hG
    replace hG := zgd_some hG
    obtain ⟨g10, hG⟩ := hG
    replace hG := zbnd hG
    obtain ⟨X8, e9, hG⟩ := hG
    replace hX := fr_W hX (i := 49) rfl e9
    replace hG := zgd_some hG
    obtain ⟨g14, hG⟩ := hG
    replace hG := zbnd hG
    obtain ⟨X12, e13, hG⟩ := hG
    replace hX := fr_W hX (i := 50) rfl e13
    replace hG := zgd_some hG
    obtain ⟨g18, hG⟩ := hG
    replace hG := zbnd hG
    obtain ⟨X16, e17, hG⟩ := hG
    replace hX := fr_W hX (i := 51) rfl e17
    replace hG := zgd_some hG
    obtain ⟨g22, hG⟩ := hG
    replace hG := zbnd hG
    obtain ⟨X20, e21, hG⟩ := hG
    replace hX := fr_W hX (i := 52) rfl e21
    replace hG := zgd_some hG
    obtain ⟨g26, hG⟩ := hG
    replace hG := zbnd hG
    obtain ⟨X24, e25, hG⟩ := hG
    replace hX := fr_W hX (i := 53) rfl e25
    replace hG := zgd_some hG
    obtain ⟨g30, hG⟩ := hG
    replace hG := zbnd hG
    obtain ⟨X28, e29, hG⟩ := hG
    replace hX := fr_W hX (i := 54) rfl e29
    replace hG := zgd_some hG
    obtain ⟨g34, hG⟩ := hG
    replace hG := zbnd hG
    obtain ⟨X32, e33, hG⟩ := hG
    replace hX := fr_W hX (i := 55) rfl e33
    replace hG := zgd_some hG
    obtain ⟨g38, hG⟩ := hG
    replace hG := zbnd hG
    obtain ⟨X36, e37, hG⟩ := hG
    replace hX := fr_W hX (i := 56) rfl e37
    replace hG := Option.some.inj hG
    subst hG
    exact hX
  · rw [if_neg c1] at hG
    replace hG := Option.some.inj hG
    subst hG
    exact hX
set_option maxRecDepth 20000 in
theorem w215 {n : Nat} {y1 : Int32} {X : zX} {p : Int32 × zX} (hG : g215 n y1 X = some p) : fr 9463179709812999979008 143552238122434560 X p.2 := by
  unfold g215 at hG
  have hX : fr 9463179709812999979008 143552238122434560 X X := fr_R
  by_cases c1 : (X.1 73) = (-1)
  · rw [if_pos c1] at hG
    replace hG := zbnd hG
    obtain ⟨x3, e4, hG⟩ := hG
    by_cases c5 : x3 = 400
    · rw [if_pos c5] at hG
      replace hG := zbnd hG
      obtain ⟨p6, e7, hG⟩ := hG
      replace hX := fr_T hX (fr_M rfl rfl (w195 e7))
      exact fr_T hX (wb215_28  hG)
    · rw [if_neg c5] at hG
      exact fr_T hX (wb215_28  hG)
  · rw [if_neg c1] at hG
    exact fr_T hX (wb215_28  hG)
set_option maxRecDepth 20000 in
theorem wb216_56 {n : Nat}   {l1 : Nat} {l2 : Int32} {l3 : Int32} {l4 : Int32} {X : zX} {p : Int32 × zX} (hG : gb216_56 n  l1 l2 l3 l4 X = some p) : fr 18612764770372937580544 0 X p.2 := by
  unfold gb216_56 at hG
  have hX : fr 18612764770372937580544 0 X X := fr_R
  replace hG := zbnd hG
  obtain ⟨p1, e2, hG⟩ := hG
  replace hX := fr_T hX (fr_M rfl rfl (w190 e2))
  replace hG := Option.some.inj hG
  subst hG
  exact hX
set_option maxRecDepth 20000 in
theorem wb216_35 {n : Nat}   {l1 : Nat} {l2 : Int32} {l3 : Int32} {s0 : Int32} {X : zX} {p : Int32 × zX} (hG : gb216_35 n  l1 l2 l3 s0 X = some p) : fr 18612764770372937580544 0 X p.2 := by
  unfold gb216_35 at hG
  have hX : fr 18612764770372937580544 0 X X := fr_R
  by_cases c1 : (X.1 73) = (-1)
  · rw [if_pos c1] at hG
    by_cases c2 : s0 = (-1)
    · rw [if_pos c2] at hG
      replace hG := zbnd hG
      obtain ⟨p3, e4, hG⟩ := hG
      replace hX := fr_T hX (fr_M rfl rfl (w195 e4))
      exact fr_T hX (wb216_56  hG)
    · rw [if_neg c2] at hG
      exact fr_T hX (wb216_56  hG)
  · rw [if_neg c1] at hG
    exact fr_T hX (wb216_56  hG)
set_option maxRecDepth 20000 in
theorem w216 {n : Nat} {y1 : Nat} {y2 : Int32} {y3 : Int32} {X : zX} {p : Int32 × zX} (hG : g216 n y1 y2 y3 X = some p) : fr 18612764770372937580544 0 X p.2 := by
  unfold g216 at hG
  have hX : fr 18612764770372937580544 0 X X := fr_R
  replace hG := zbnd hG
  obtain ⟨p1, e2, hG⟩ := hG
  replace hX := fr_T hX (fr_M rfl rfl (w203 e2))
  replace hG := zbnd hG
  obtain ⟨p3, e4, hG⟩ := hG
  replace hX := fr_T hX (fr_M rfl rfl (w200 e4))
  by_cases c5 : (p3.2.1 73) = (-1)
  · rw [if_pos c5] at hG
    replace hG := zbnd hG
    obtain ⟨p6, e7, hG⟩ := hG
    replace hX := fr_T hX (fr_M rfl rfl (w204 e7))
    exact fr_T hX (wb216_35  hG)
  · rw [if_neg c5] at hG
    exact fr_T hX (wb216_35  hG)
set_option maxRecDepth 20000 in
theorem wb218_84 {n : Nat}   {l1 : Int32} {X : zX} {p : Unit × zX} (hG : gb218_84 n  l1 X = some p) : fr 18612764770372937580544 31525197391593486 X p.2 := by
  unfold gb218_84 at hG
  have hX : fr 18612764770372937580544 31525197391593486 X X := fr_R
  replace hG := zbnd hG
  obtain ⟨p1, e2, hG⟩ := hG
  replace hX := fr_T hX (fr_M rfl rfl (w190 e2))
  replace hG := Option.some.inj hG
  subst hG
  exact hX
set_option maxRecDepth 20000 in
theorem wb218_83 {n : Nat}   {l1 : Int32} {s0 : Int32} {s1 : Int32} {X : zX} {p : Unit × zX} (hG : gb218_83 n  l1 s0 s1 X = some p) : fr 18612764770372937580544 31525197391593486 X p.2 := by
  unfold gb218_83 at hG
  have hX : fr 18612764770372937580544 31525197391593486 X X := fr_R
  replace hG := zgd_some hG
  obtain ⟨g3, hG⟩ := hG
  replace hG := zbnd hG
  obtain ⟨X1, e2, hG⟩ := hG
  replace hX := fr_W hX (i := 54) rfl e2
  exact fr_T hX (wb218_84  hG)
set_option maxRecDepth 20000 in
theorem wb218_51 {n : Nat}   {l1 : Int32} {s0 : Int32} {s1 : Int32} {X : zX} {p : Unit × zX} (hG : gb218_51 n  l1 s0 s1 X = some p) : fr 18612764770372937580544 31525197391593486 X p.2 := by
  unfold gb218_51 at hG
  have hX : fr 18612764770372937580544 31525197391593486 X X := fr_R
  replace hG := zgd_some hG
  obtain ⟨g3, hG⟩ := hG
  replace hG := zbnd hG
  obtain ⟨X1, e2, hG⟩ := hG
  replace hX := fr_W hX (i := 52) rfl e2
  replace hG := zgd_some hG
  obtain ⟨g7, hG⟩ := hG
  replace hG := zbnd hG
  obtain ⟨X5, e6, hG⟩ := hG
  replace hX := fr_W hX (i := 53) rfl e6
  by_cases c9 : (X5.1 69) = 3
  · rw [if_pos c9] at hG
    replace hG := zbnd hG
    obtain ⟨p10, e11, hG⟩ := hG
    replace hX := fr_T hX (fr_M rfl rfl (w206 e11))
    exact fr_T hX (wb218_83  hG)
  · rw [if_neg c9] at hG
    exact fr_T hX (wb218_83  hG)
set_option maxRecDepth 20000 in
theorem wb218_22 {n : Nat}   {l1 : Int32} {s0 : Int32} {X : zX} {p : Unit × zX} (hG : gb218_22 n  l1 s0 X = some p) : fr 18612764770372937580544 31525197391593486 X p.2 := by
  unfold gb218_22 at hG
  have hX : fr 18612764770372937580544 31525197391593486 X X := fr_R
  replace hG := zbnd hG
  obtain ⟨p1, e2, hG⟩ := hG
  replace hX := fr_T hX (fr_M rfl rfl (w200 e2))
  by_cases c3 : (p1.2.1 73) = (-1)
  · rw [if_pos c3] at hG
    by_cases c5 : (p1.2.1 69) = 3
    · rw [if_pos c5] at hG
      exact fr_T hX (wb218_51  hG)
    · rw [if_neg c5] at hG
      exact fr_T hX (wb218_51  hG)
  · rw [if_neg c3] at hG
    exact fr_T hX (wb218_84  hG)
set_option maxRecDepth 20000 in
theorem wb218_17 {n : Nat}   {l1 : Int32} {X : zX} {p : Unit × zX} (hG : gb218_17 n  l1 X = some p) : fr 18612764770372937580544 31525197391593486 X p.2 := by
  unfold gb218_17 at hG
  have hX : fr 18612764770372937580544 31525197391593486 X X := fr_R
  exact fr_T hX (wb218_22  hG)
set_option maxRecDepth 20000 in
theorem w218 {n : Nat} {y1 : Int32} {X : zX} {p : Unit × zX} (hG : g218 n y1 X = some p) : fr 18612764770372937580544 31525197391593486 X p.2 := by
  unfold g218 at hG
  have hX : fr 18612764770372937580544 31525197391593486 X X := fr_R
  by_cases c1 : (X.1 69) = 2
  · rw [if_pos c1] at hG
    exact fr_T hX (wb218_17  hG)
  · rw [if_neg c1] at hG
    by_cases c2 : (X.1 69) = 3
    · rw [if_pos c2] at hG
      exact fr_T hX (wb218_17  hG)
    · rw [if_neg c2] at hG
      exact fr_T hX (wb218_22  hG)
set_option maxRecDepth 20000 in
theorem w220 {n : Nat} {y1 : Int32} {y2 : Int32} {y3 : Int32} {X : zX} {p : Unit × zX} (hG : g220 n y1 y2 y3 X = some p) : fr 0 108086391056891904 X p.2 := by
  unfold g220 at hG
  have hX : fr 0 108086391056891904 X X := fr_R
  by_cases c1 : y2 = (-1)
  · rw [if_pos c1] at hG
    replace hG := zgd_some hG
    obtain ⟨g5, hG⟩ := hG
    replace hG := zbnd hG
    obtain ⟨X3, e4, hG⟩ := hG
    replace hX := fr_W hX (i := 55) rfl e4
    replace hG := Option.some.inj hG
    subst hG
    exact hX
  · rw [if_neg c1] at hG
    replace hG := zgd_some hG
    obtain ⟨g9, hG⟩ := hG
    replace hG := zbnd hG
    obtain ⟨X7, e8, hG⟩ := hG
    replace hX := fr_W hX (i := 56) rfl e8
    replace hG := Option.some.inj hG
    subst hG
    exact hX
set_option maxRecDepth 20000 in
theorem wb219_109 {n : Nat}   {l1 : Int32} {l2 : Int32} {X : zX} {p : Unit × zX} (hG : gb219_109 n  l1 l2 X = some p) : fr 18612764770372937580544 143552238122434574 X p.2 := by
  unfold gb219_109 at hG
  have hX : fr 18612764770372937580544 143552238122434574 X X := fr_R
  replace hG := zbnd hG
  obtain ⟨p1, e2, hG⟩ := hG
  replace hX := fr_T hX (fr_M rfl rfl (w208 e2))
  replace hG := Option.some.inj hG
  subst hG
  exact hX
set_option maxRecDepth 20000 in
theorem wb219_106 {n : Nat} {q13 : Int32 → Int32 → zX → Option (Unit × zX)} (hr13 : ∀ {l1 : Int32} {l2 : Int32} {X : zX} {p : Unit × zX}, q13 l1 l2 X = some p → fr 18612764770372937580544 143552238122434574 X p.2) {l1 : Int32} {l2 : Int32} {l3 : Int32} {X : zX} {p : Unit × zX} (hG : gb219_106 n q13 l1 l2 l3 X = some p) : fr 18612764770372937580544 143552238122434574 X p.2 := by
  unfold gb219_106 at hG
  have hX : fr 18612764770372937580544 143552238122434574 X X := fr_R
  exact fr_T hX (hr13 hG)
set_option maxRecDepth 20000 in
theorem wb219_56 {n : Nat} {q13 : Int32 → Int32 → zX → Option (Unit × zX)} (hr13 : ∀ {l1 : Int32} {l2 : Int32} {X : zX} {p : Unit × zX}, q13 l1 l2 X = some p → fr 18612764770372937580544 143552238122434574 X p.2) {l1 : Int32} {l2 : Int32} {s0 : Int32} {X : zX} {p : Unit × zX} (hG : gb219_56 n q13 l1 l2 s0 X = some p) : fr 18612764770372937580544 143552238122434574 X p.2 := by
  unfold gb219_56 at hG
  have hX : fr 18612764770372937580544 143552238122434574 X X := fr_R
  replace hG := zbnd hG
  obtain ⟨p1, e2, hG⟩ := hG
  replace hX := fr_T hX (fr_M rfl rfl (w200 e2))
  replace hG := zbnd hG
  obtain ⟨p3, e4, hG⟩ := hG
  replace hX := fr_T hX (fr_M rfl rfl (w215 e4))
  by_cases c5 : (p3.2.1 73) = (-1)
  · rw [if_pos c5] at hG
    replace hG := zbnd hG
    obtain ⟨p6, e7, hG⟩ := hG
    replace hX := fr_T hX (fr_M rfl rfl (w218 e7))
    replace hG := zbnd hG
    obtain ⟨p8, e9, hG⟩ := hG
    replace hX := fr_T hX (fr_M rfl rfl (w220 e9))
    exact fr_T hX (wb219_106 hr13 hG)
  · rw [if_neg c5] at hG
    exact fr_T hX (wb219_106 hr13 hG)
set_option maxRecDepth 20000 in
theorem wb219_51 {n : Nat} {q13 : Int32 → Int32 → zX → Option (Unit × zX)} (hr13 : ∀ {l1 : Int32} {l2 : Int32} {X : zX} {p : Unit × zX}, q13 l1 l2 X = some p → fr 18612764770372937580544 143552238122434574 X p.2) {l1 : Int32} {l2 : Int32} {X : zX} {p : Unit × zX} (hG : gb219_51 n q13 l1 l2 X = some p) : fr 18612764770372937580544 143552238122434574 X p.2 := by
  unfold gb219_51 at hG
  have hX : fr 18612764770372937580544 143552238122434574 X X := fr_R
  exact fr_T hX (wb219_56 hr13 hG)
set_option maxRecDepth 20000 in
theorem wb219_13 {n : Nat} {q13 : Int32 → Int32 → zX → Option (Unit × zX)} (hr13 : ∀ {l1 : Int32} {l2 : Int32} {X : zX} {p : Unit × zX}, q13 l1 l2 X = some p → fr 18612764770372937580544 143552238122434574 X p.2) {l1 : Int32} {l2 : Int32} {X : zX} {p : Unit × zX} (hG : gb219_13 n q13 l1 l2 X = some p) : fr 18612764770372937580544 143552238122434574 X p.2 := by
  unfold gb219_13 at hG
  have hX : fr 18612764770372937580544 143552238122434574 X X := fr_R
  by_cases c1 : (X.1 73) = (-1)
  · rw [if_pos c1] at hG
    replace hG := zbnd hG
    obtain ⟨p2, e3, hG⟩ := hG
    replace hX := fr_T hX (fr_M rfl rfl (w209 e3))
    by_cases c4 : p2.1 = 0
    · rw [if_pos c4] at hG
      exact fr_T hX (wb219_109  hG)
    · rw [if_neg c4] at hG
      replace hG := zbnd hG
      obtain ⟨p5, e6, hG⟩ := hG
      replace hX := fr_T hX (fr_M rfl rfl (w190 e6))
      by_cases c7 : (p5.2.1 69) = 2
      · rw [if_pos c7] at hG
        exact fr_T hX (wb219_51 hr13 hG)
      · rw [if_neg c7] at hG
        by_cases c8 : (p5.2.1 69) = 3
        · rw [if_pos c8] at hG
          exact fr_T hX (wb219_51 hr13 hG)
        · rw [if_neg c8] at hG
          exact fr_T hX (wb219_56 hr13 hG)
  · rw [if_neg c1] at hG
    exact fr_T hX (wb219_109  hG)
theorem wf219_13 {n : Nat}   (k : Nat) : ∀ {l1 : Int32} {l2 : Int32} {X : zX} {p : Unit × zX}, gf219_13 n  k l1 l2 X = some p → fr 18612764770372937580544 143552238122434574 X p.2 := by
  induction k with
  | zero => intros; rename_i hG; cases hG
  | succ k ih => intros; rename_i hG; exact wb219_13 (n := n) (q13 := gf219_13 n  k) ih hG
set_option maxRecDepth 20000 in
theorem w219 {n : Nat} {y1 : Int32} {X : zX} {p : Unit × zX} (hG : g219 n y1 X = some p) : fr 18612764770372937580544 143552238122434574 X p.2 := by
  unfold g219 at hG
  have hX : fr 18612764770372937580544 143552238122434574 X X := fr_R
  replace hG := zbnd hG
  obtain ⟨p1, e2, hG⟩ := hG
  replace hX := fr_T hX (fr_M rfl rfl (w208 e2))
  replace hG := zbnd hG
  obtain ⟨p3, e4, hG⟩ := hG
  replace hX := fr_T hX (fr_M rfl rfl (w218 e4))
  exact fr_T hX (wf219_13  n hG)
set_option maxRecDepth 20000 in
theorem wb217_122 {n : Nat}   {l1 : Int32} {l2 : Int32} {s0 : Int32} {X : zX} {p : Unit × zX} (hG : gb217_122 n  l1 l2 s0 X = some p) : fr 18612764770372937580544 143552238122434574 X p.2 := by
  unfold gb217_122 at hG
  have hX : fr 18612764770372937580544 143552238122434574 X X := fr_R
  replace hG := zbnd hG
  obtain ⟨p1, e2, hG⟩ := hG
  replace hX := fr_T hX (fr_M rfl rfl (w200 e2))
  replace hG := zgd_some hG
  obtain ⟨g6, hG⟩ := hG
  replace hG := zbnd hG
  obtain ⟨X4, e5, hG⟩ := hG
  replace hX := fr_W hX (i := 53) rfl e5
  replace hG := zbnd hG
  obtain ⟨p7, e8, hG⟩ := hG
  replace hX := fr_T hX (fr_M rfl rfl (w190 e8))
  replace hG := Option.some.inj hG
  subst hG
  exact hX
set_option maxRecDepth 20000 in
theorem wb217_108 {n : Nat}   {l1 : Int32} {l2 : Int32} {X : zX} {p : Unit × zX} (hG : gb217_108 n  l1 l2 X = some p) : fr 18612764770372937580544 143552238122434574 X p.2 := by
  unfold gb217_108 at hG
  have hX : fr 18612764770372937580544 143552238122434574 X X := fr_R
  by_cases c1 : (X.1 69) = 2
  · rw [if_pos c1] at hG
    exact fr_T hX (wb217_122  hG)
  · rw [if_neg c1] at hG
    exact fr_T hX (wb217_122  hG)
set_option maxRecDepth 20000 in
theorem wb217_203 {n : Nat}   {l1 : Int32} {l2 : Int32} {s0 : Int32} {s1 : Int32} {X : zX} {p : Unit × zX} (hG : gb217_203 n  l1 l2 s0 s1 X = some p) : fr 18612764770372937580544 143552238122434574 X p.2 := by
  unfold gb217_203 at hG
  have hX : fr 18612764770372937580544 143552238122434574 X X := fr_R
  replace hG := zgd_some hG
  obtain ⟨g3, hG⟩ := hG
  replace hG := zbnd hG
  obtain ⟨X1, e2, hG⟩ := hG
  replace hX := fr_W hX (i := 54) rfl e2
  replace hG := zbnd hG
  obtain ⟨p4, e5, hG⟩ := hG
  replace hX := fr_T hX (fr_M rfl rfl (w190 e5))
  replace hG := Option.some.inj hG
  subst hG
  exact hX
set_option maxRecDepth 20000 in
theorem wb217_172 {n : Nat}   {l1 : Int32} {l2 : Int32} {s0 : Int32} {X : zX} {p : Unit × zX} (hG : gb217_172 n  l1 l2 s0 X = some p) : fr 18612764770372937580544 143552238122434574 X p.2 := by
  unfold gb217_172 at hG
  have hX : fr 18612764770372937580544 143552238122434574 X X := fr_R
  replace hG := zbnd hG
  obtain ⟨p1, e2, hG⟩ := hG
  replace hX := fr_T hX (fr_M rfl rfl (w200 e2))
  replace hG := zgd_some hG
  obtain ⟨g6, hG⟩ := hG
  replace hG := zbnd hG
  obtain ⟨X4, e5, hG⟩ := hG
  replace hX := fr_W hX (i := 52) rfl e5
  by_cases c8 : (X4.1 73) = (-1)
  · rw [if_pos c8] at hG
    replace hG := zbnd hG
    obtain ⟨p9, e10, hG⟩ := hG
    replace hX := fr_T hX (fr_M rfl rfl (w206 e10))
    exact fr_T hX (wb217_203  hG)
  · rw [if_neg c8] at hG
    exact fr_T hX (wb217_203  hG)
set_option maxRecDepth 20000 in
theorem wb217_45 {n : Nat}   {l1 : Int32} {l2 : Int32} {s0 : Int32} {X : zX} {p : Unit × zX} (hG : gb217_45 n  l1 l2 s0 X = some p) : fr 18612764770372937580544 143552238122434574 X p.2 := by
  unfold gb217_45 at hG
  have hX : fr 18612764770372937580544 143552238122434574 X X := fr_R
  replace hG := zbnd hG
  obtain ⟨p1, e2, hG⟩ := hG
  replace hX := fr_T hX (fr_M rfl rfl (w200 e2))
  by_cases c3 : (p1.2.1 73) = (-1)
  · rw [if_pos c3] at hG
    replace hG := zgd_some hG
    obtain ⟨g7, hG⟩ := hG
    replace hG := zbnd hG
    obtain ⟨X5, e6, hG⟩ := hG
    replace hX := fr_W hX (i := 50) rfl e6
    replace hG := zbnd hG
    obtain ⟨p8, e9, hG⟩ := hG
    replace hX := fr_T hX (fr_M rfl rfl (w190 e9))
    replace hG := zbnd hG
    obtain ⟨x11, e12, hG⟩ := hG
    by_cases c13 : x11 = 3
    · rw [if_pos c13] at hG
      replace hG := zbnd hG
      obtain ⟨p14, e15, hG⟩ := hG
      replace hX := fr_T hX (fr_M rfl rfl (w218 e15))
      replace hG := Option.some.inj hG
      subst hG
      exact hX
    · rw [if_neg c13] at hG
      replace hG := zbnd hG
      obtain ⟨x17, e18, hG⟩ := hG
      by_cases c19 : x17 = 4
      · rw [if_pos c19] at hG
        exact fr_T hX (wb217_108  hG)
      · rw [if_neg c19] at hG
        replace hG := zbnd hG
        obtain ⟨x21, e22, hG⟩ := hG
        by_cases c23 : x21 = 5
        · rw [if_pos c23] at hG
          exact fr_T hX (wb217_108  hG)
        · rw [if_neg c23] at hG
          replace hG := zbnd hG
          obtain ⟨x25, e26, hG⟩ := hG
          replace hG := zbnd hG
          obtain ⟨p27, e28, hG⟩ := hG
          replace hX := fr_T hX (fr_M rfl rfl (w187 e28))
          by_cases c29 : p27.1 = 0
          · rw [if_pos c29] at hG
            replace hG := zbnd hG
            obtain ⟨x31, e32, hG⟩ := hG
            by_cases c33 : x31 = 9
            · rw [if_pos c33] at hG
              replace hG := zbnd hG
              obtain ⟨p34, e35, hG⟩ := hG
              replace hX := fr_T hX (fr_M rfl rfl (w219 e35))
              replace hG := Option.some.inj hG
              subst hG
              exact hX
            · rw [if_neg c33] at hG
              replace hG := Option.some.inj hG
              subst hG
              exact hX
          · rw [if_neg c29] at hG
            by_cases c36 : (p27.2.1 69) = 3
            · rw [if_pos c36] at hG
              exact fr_T hX (wb217_172  hG)
            · rw [if_neg c36] at hG
              exact fr_T hX (wb217_172  hG)
  · rw [if_neg c3] at hG
    replace hG := Option.some.inj hG
    subst hG
    exact hX
set_option maxRecDepth 20000 in
theorem wb217_33 {n : Nat}   {l1 : Int32} {s0 : Int32} {X : zX} {p : Unit × zX} (hG : gb217_33 n  l1 s0 X = some p) : fr 18612764770372937580544 143552238122434574 X p.2 := by
  unfold gb217_33 at hG
  have hX : fr 18612764770372937580544 143552238122434574 X X := fr_R
  by_cases c1 : s0 = (-1)
  · rw [if_pos c1] at hG
    exact fr_T hX (wb217_45  hG)
  · rw [if_neg c1] at hG
    exact fr_T hX (wb217_45  hG)
set_option maxRecDepth 20000 in
theorem w217 {n : Nat} {y1 : Int32} {X : zX} {p : Unit × zX} (hG : g217 n y1 X = some p) : fr 18612764770372937580544 143552238122434574 X p.2 := by
  unfold g217 at hG
  have hX : fr 18612764770372937580544 143552238122434574 X X := fr_R
  replace hG := zbnd hG
  obtain ⟨p2, e3, hG⟩ := hG
  replace hX := fr_T hX (fr_M rfl rfl (w206 e3))
  replace hG := zgd_some hG
  obtain ⟨g6, hG⟩ := hG
  replace hG := zbnd hG
  obtain ⟨X4, e5, hG⟩ := hG
  replace hX := fr_W hX (i := 51) rfl e5
  replace hG := zbnd hG
  obtain ⟨p7, e8, hG⟩ := hG
  replace hX := fr_T hX (fr_M rfl rfl (w190 e8))
  by_cases c9 : (p7.2.1 73) = (-1)
  · rw [if_pos c9] at hG
    replace hG := zbnd hG
    obtain ⟨p10, e11, hG⟩ := hG
    replace hX := fr_T hX (fr_M rfl rfl (w199 e11))
    exact fr_T hX (wb217_33  hG)
  · rw [if_neg c9] at hG
    exact fr_T hX (wb217_33  hG)
set_option maxRecDepth 20000 in
theorem w221 {n : Nat} {y1 : Int32} {X : zX} {p : Unit × zX} (hG : g221 n y1 X = some p) : fr 0 432345564227567616 X p.2 := by
  unfold g221 at hG
  have hX : fr 0 432345564227567616 X X := fr_R
  replace hG := zbnd hG
  obtain ⟨x3, e4, hG⟩ := hG
  replace hG := zgd_some hG
  obtain ⟨g7, hG⟩ := hG
  replace hG := zbnd hG
  obtain ⟨X5, e6, hG⟩ := hG
  replace hX := fr_W hX (i := 57) rfl e6
  replace hG := zbnd hG
  obtain ⟨x9, e10, hG⟩ := hG
  replace hG := zgd_some hG
  obtain ⟨g13, hG⟩ := hG
  replace hG := zbnd hG
  obtain ⟨X11, e12, hG⟩ := hG
  replace hX := fr_W hX (i := 58) rfl e12
  replace hG := Option.some.inj hG
  subst hG
  exact hX
set_option maxRecDepth 20000 in
theorem wb222_100 {n : Nat}   {l1 : Int32} {l2 : Int32} {l3 : Int32} {X : zX} {p : Unit × zX} (hG : gb222_100 n  l1 l2 l3 X = some p) : fr 113336795588871485128704 148114384544960872448 X p.2 := by
  unfold gb222_100 at hG
  have hX : fr 113336795588871485128704 148114384544960872448 X X := fr_R
  replace hG := zbnd hG
  obtain ⟨X2, e3, hG⟩ := hG
  replace hX := fr_W hX (i := 67) rfl e3
  replace hG := Option.some.inj hG
  subst hG
  exact hX
set_option maxRecDepth 20000 in
theorem wb222_2 {n : Nat} {q2 : Int32 → Int32 → zX → Option (Unit × zX)} (hr2 : ∀ {l1 : Int32} {l2 : Int32} {X : zX} {p : Unit × zX}, q2 l1 l2 X = some p → fr 113336795588871485128704 148114384544960872448 X p.2) {l1 : Int32} {l2 : Int32} {X : zX} {p : Unit × zX} (hG : gb222_2 n q2 l1 l2 X = some p) : fr 113336795588871485128704 148114384544960872448 X p.2 := by
  unfold gb222_2 at hG
  have hX : fr 113336795588871485128704 148114384544960872448 X X := fr_R
  replace hG := zbnd hG
  obtain ⟨x2, e3, hG⟩ := hG
  by_cases c4 : x2 = (-1)
  · rw [if_pos c4] at hG
    replace hG := zbnd hG
    obtain ⟨x6, e7, hG⟩ := hG
    by_cases c8 : x6 = (-1)
    · rw [if_pos c8] at hG
      exact fr_T hX (wb222_100  hG)
    · rw [if_neg c8] at hG
      replace hG := zbnd hG
      obtain ⟨x10, e11, hG⟩ := hG
      replace hG := zbnd hG
      obtain ⟨x13, e14, hG⟩ := hG
      replace hG := zbnd hG
      obtain ⟨p15, e16, hG⟩ := hG
      replace hX := fr_T hX (fr_M rfl rfl (w220 e16))
      exact fr_T hX (wb222_100  hG)
  · rw [if_neg c4] at hG
    replace hG := zbnd hG
    obtain ⟨x18, e19, hG⟩ := hG
    replace hG := zbnd hG
    obtain ⟨p20, e21, hG⟩ := hG
    replace hX := fr_T hX (fr_M rfl rfl (w220 e21))
    replace hG := zbnd hG
    obtain ⟨p22, e23, hG⟩ := hG
    replace hX := fr_T hX (fr_M rfl rfl (w221 e23))
    replace hG := zlet_ex hG
    obtain ⟨X24, e25, hG⟩ := hG
    replace hX := fr_F hX (k := 75) rfl e25
    replace hG := zlet_ex hG
    obtain ⟨X26, e27, hG⟩ := hG
    replace hX := fr_F hX (k := 76) rfl e27
    exact fr_T hX (hr2 hG)
theorem wf222_2 {n : Nat}   (k : Nat) : ∀ {l1 : Int32} {l2 : Int32} {X : zX} {p : Unit × zX}, gf222_2 n  k l1 l2 X = some p → fr 113336795588871485128704 148114384544960872448 X p.2 := by
  induction k with
  | zero => intros; rename_i hG; cases hG
  | succ k ih => intros; rename_i hG; exact wb222_2 (n := n) (q2 := gf222_2 n  k) ih hG
set_option maxRecDepth 20000 in
theorem w222 {n : Nat} {y1 : Int32} {X : zX} {p : Unit × zX} (hG : g222 n y1 X = some p) : fr 113336795588871485128704 148114384544960872448 X p.2 := by
  unfold g222 at hG
  have hX : fr 113336795588871485128704 148114384544960872448 X X := fr_R
  exact fr_T hX (wf222_2  n hG)
set_option maxRecDepth 20000 in
theorem wb212_206 {n : Nat}   {l1 : Int32} {l2 : Int32} {X : zX} {p : Int32 × zX} (hG : gb212_206 n  l1 l2 X = some p) : fr 131949560359244422709248 286500430944848052238 X p.2 := by
  unfold gb212_206 at hG
  have hX : fr 131949560359244422709248 286500430944848052238 X X := fr_R
  by_cases c1 : (X.1 73) = (-1)
  · rw [if_pos c1] at hG
    replace hG := zbnd hG
    obtain ⟨p2, e3, hG⟩ := hG
    replace hX := fr_T hX (fr_M rfl rfl (w221 e3))
    replace hG := zbnd hG
    obtain ⟨p4, e5, hG⟩ := hG
    replace hX := fr_T hX (fr_M rfl rfl (w222 e5))
    replace hG := Option.some.inj hG
    subst hG
    exact hX
  · rw [if_neg c1] at hG
    replace hG := Option.some.inj hG
    subst hG
    exact hX
set_option maxRecDepth 20000 in
theorem wb212_164 {n : Nat}   {l1 : Int32} {l2 : Int32} {l3 : Int32} {s0 : Int32} {s1 : Int32} {X : zX} {p : Int32 × zX} (hG : gb212_164 n  l1 l2 l3 s0 s1 X = some p) : fr 131949560359244422709248 286500430944848052238 X p.2 := by
  unfold gb212_164 at hG
  have hX : fr 131949560359244422709248 286500430944848052238 X X := fr_R
  replace hG := zgd_some hG
  obtain ⟨g3, hG⟩ := hG
  replace hG := zbnd hG
  obtain ⟨X1, e2, hG⟩ := hG
  replace hX := fr_W hX (i := 51) rfl e2
  exact fr_T hX (wb212_206  hG)
set_option maxRecDepth 20000 in
theorem wb212_138 {n : Nat}   {l1 : Int32} {l2 : Int32} {s0 : Int32} {X : zX} {p : Int32 × zX} (hG : gb212_138 n  l1 l2 s0 X = some p) : fr 131949560359244422709248 286500430944848052238 X p.2 := by
  unfold gb212_138 at hG
  have hX : fr 131949560359244422709248 286500430944848052238 X X := fr_R
  by_cases c2 : (X.1 73) = (-1)
  · rw [if_pos c2] at hG
    exact fr_T hX (wb212_164  hG)
  · rw [if_neg c2] at hG
    exact fr_T hX (wb212_164  hG)
set_option maxRecDepth 20000 in
theorem wb212_66 {n : Nat}    {X : zX} {p : Int32 × zX} (hG : gb212_66 n   X = some p) : fr 131949560359244422709248 286500430944848052238 X p.2 := by
  unfold gb212_66 at hG
  have hX : fr 131949560359244422709248 286500430944848052238 X X := fr_R
  replace hG := zbnd hG
  obtain ⟨p1, e2, hG⟩ := hG
  replace hX := fr_T hX (fr_M rfl rfl (w190 e2))
  replace hG := Option.some.inj hG
  subst hG
  exact hX
set_option maxRecDepth 20000 in
theorem wb212_34 {n : Nat}   {l1 : Int32} {X : zX} {p : Int32 × zX} (hG : gb212_34 n  l1 X = some p) : fr 131949560359244422709248 286500430944848052238 X p.2 := by
  unfold gb212_34 at hG
  have hX : fr 131949560359244422709248 286500430944848052238 X X := fr_R
  replace hG := zbnd hG
  obtain ⟨p1, e2, hG⟩ := hG
  replace hX := fr_T hX (fr_M rfl rfl (w190 e2))
  replace hG := Option.some.inj hG
  subst hG
  exact hX
set_option maxRecDepth 20000 in
theorem w212 {n : Nat}  {X : zX} {p : Int32 × zX} (hG : g212 n  X = some p) : fr 131949560359244422709248 286500430944848052238 X p.2 := by
  unfold g212 at hG
  have hX : fr 131949560359244422709248 286500430944848052238 X X := fr_R
  replace hG := zbnd hG
  obtain ⟨p1, e2, hG⟩ := hG
  replace hX := fr_T hX (fr_M rfl rfl (w213 e2))
  by_cases c3 : p1.1 = 0
  · rw [if_pos c3] at hG
    replace hG := zbnd hG
    obtain ⟨p4, e5, hG⟩ := hG
    replace hX := fr_T hX (fr_M rfl rfl (w209 e5))
    by_cases c6 : p4.1 = 0
    · rw [if_pos c6] at hG
      replace hG := zbnd hG
      obtain ⟨p7, e8, hG⟩ := hG
      replace hX := fr_T hX (fr_M rfl rfl (w199 e8))
      by_cases c9 : p7.1 = (-1)
      · rw [if_pos c9] at hG
        replace hG := zbnd hG
        obtain ⟨p10, e11, hG⟩ := hG
        replace hX := fr_T hX (fr_M rfl rfl (w203 e11))
        replace hG := zbnd hG
        obtain ⟨p12, e13, hG⟩ := hG
        replace hX := fr_T hX (fr_M rfl rfl (w200 e13))
        replace hG := zbnd hG
        obtain ⟨p14, e15, hG⟩ := hG
        replace hX := fr_T hX (fr_M rfl rfl (w215 e15))
        by_cases c16 : (p14.2.1 73) = (-1)
        · rw [if_pos c16] at hG
          replace hG := zbnd hG
          obtain ⟨p17, e18, hG⟩ := hG
          replace hX := fr_T hX (fr_M rfl rfl (w217 e18))
          exact fr_T hX (wb212_206  hG)
        · rw [if_neg c16] at hG
          exact fr_T hX (wb212_206  hG)
      · rw [if_neg c9] at hG
        replace hG := zbnd hG
        obtain ⟨p19, e20, hG⟩ := hG
        replace hX := fr_T hX (fr_M rfl rfl (w215 e20))
        replace hG := zbnd hG
        obtain ⟨p21, e22, hG⟩ := hG
        replace hX := fr_T hX (fr_M rfl rfl (w190 e22))
        by_cases c23 : p7.1 = 2
        · rw [if_pos c23] at hG
          by_cases c24 : (p21.2.1 73) = (-1)
          · rw [if_pos c24] at hG
            replace hG := zbnd hG
            obtain ⟨x27, e28, hG⟩ := hG
            replace hG := zbnd hG
            obtain ⟨p29, e30, hG⟩ := hG
            replace hX := fr_T hX (fr_M rfl rfl (w216 e30))
            exact fr_T hX (wb212_138  hG)
          · rw [if_neg c24] at hG
            exact fr_T hX (wb212_138  hG)
        · rw [if_neg c23] at hG
          exact fr_T hX (wb212_206  hG)
    · rw [if_neg c6] at hG
      replace hG := zbnd hG
      obtain ⟨p31, e32, hG⟩ := hG
      replace hX := fr_T hX (fr_M rfl rfl (w214 e32))
      by_cases c33 : (p31.2.1 73) = (-1)
      · rw [if_pos c33] at hG
        replace hG := zbnd hG
        obtain ⟨p34, e35, hG⟩ := hG
        replace hX := fr_T hX (fr_M rfl rfl (w211 e35))
        exact fr_T hX (wb212_66  hG)
      · rw [if_neg c33] at hG
        exact fr_T hX (wb212_66  hG)
  · rw [if_neg c3] at hG
    replace hG := zbnd hG
    obtain ⟨p36, e37, hG⟩ := hG
    replace hX := fr_T hX (fr_M rfl rfl (w214 e37))
    replace hG := zbnd hG
    obtain ⟨p38, e39, hG⟩ := hG
    replace hX := fr_T hX (fr_M rfl rfl (w215 e39))
    by_cases c40 : (p38.2.1 73) = (-1)
    · rw [if_pos c40] at hG
      replace hG := zbnd hG
      obtain ⟨p41, e42, hG⟩ := hG
      replace hX := fr_T hX (fr_M rfl rfl (w211 e42))
      exact fr_T hX (wb212_34  hG)
    · rw [if_neg c40] at hG
      exact fr_T hX (wb212_34  hG)
set_option maxRecDepth 20000 in
theorem wb224_36 {n : Nat}   {l1 : Int32} {l2 : Int32} {X : zX} {p : Int32 × zX} (hG : gb224_36 n  l1 l2 X = some p) : fr 0 221793274448742187008 X p.2 := by
  unfold gb224_36 at hG
  have hX : fr 0 221793274448742187008 X X := fr_R
  replace hG := zbnd hG
  obtain ⟨X2, e3, hG⟩ := hG
  replace hX := fr_W hX (i := 66) rfl e3
  replace hG := zbnd hG
  obtain ⟨X5, e6, hG⟩ := hG
  replace hX := fr_W hX (i := 67) rfl e6
  replace hG := Option.some.inj hG
  subst hG
  exact hX
set_option maxRecDepth 20000 in
theorem w224 {n : Nat}  {X : zX} {p : Int32 × zX} (hG : g224 n  X = some p) : fr 0 221793274448742187008 X p.2 := by
  unfold g224 at hG
  have hX : fr 0 221793274448742187008 X X := fr_R
  replace hG := zbnd hG
  obtain ⟨x2, e3, hG⟩ := hG
  replace hG := zbnd hG
  obtain ⟨x5, e6, hG⟩ := hG
  by_cases c7 : x5 = (-1)
  · rw [if_pos c7] at hG
    exact fr_T hX (wb224_36  hG)
  · rw [if_neg c7] at hG
    replace hG := zbnd hG
    obtain ⟨x9, e10, hG⟩ := hG
    replace hG := zbnd hG
    obtain ⟨p11, e12, hG⟩ := hG
    replace hX := fr_T hX (fr_M rfl rfl (w221 e12))
    exact fr_T hX (wb224_36  hG)
set_option maxRecDepth 20000 in
theorem wb223_19 {n : Nat}   {l1 : Int32} {l2 : Int32} {s0 : Int32} {X : zX} {p : Unit × zX} (hG : gb223_19 n  l1 l2 s0 X = some p) : fr 9463179709812999979008 277277058907993276416 X p.2 := by
  unfold gb223_19 at hG
  have hX : fr 9463179709812999979008 277277058907993276416 X X := fr_R
  replace hG := zbnd hG
  obtain ⟨p1, e2, hG⟩ := hG
  replace hX := fr_T hX (fr_M rfl rfl (w215 e2))
  by_cases c3 : (p1.2.1 73) = (-1)
  · rw [if_pos c3] at hG
    by_cases c4 : l1 = 0
    · rw [if_pos c4] at hG
      replace hG := zbnd hG
      obtain ⟨x6, e7, hG⟩ := hG
      replace hG := zbnd hG
      obtain ⟨p8, e9, hG⟩ := hG
      replace hX := fr_T hX (fr_M rfl rfl (w220 e9))
      replace hG := zbnd hG
      obtain ⟨X11, e12, hG⟩ := hG
      replace hX := fr_W hX (i := 66) rfl e12
      replace hG := Option.some.inj hG
      subst hG
      exact hX
    · rw [if_neg c4] at hG
      replace hG := zbnd hG
      obtain ⟨p13, e14, hG⟩ := hG
      replace hX := fr_T hX (fr_M rfl rfl (w224 e14))
      replace hG := zbnd hG
      obtain ⟨p15, e16, hG⟩ := hG
      replace hX := fr_T hX (fr_M rfl rfl (w220 e16))
      replace hG := zbnd hG
      obtain ⟨X18, e19, hG⟩ := hG
      replace hX := fr_W hX (i := 64) rfl e19
      replace hG := zbnd hG
      obtain ⟨X21, e22, hG⟩ := hG
      replace hX := fr_W hX (i := 65) rfl e22
      replace hG := Option.some.inj hG
      subst hG
      exact hX
  · rw [if_neg c3] at hG
    replace hG := Option.some.inj hG
    subst hG
    exact hX
set_option maxRecDepth 20000 in
theorem w223 {n : Nat} {y1 : Int32} {X : zX} {p : Unit × zX} (hG : g223 n y1 X = some p) : fr 9463179709812999979008 277277058907993276416 X p.2 := by
  unfold g223 at hG
  have hX : fr 9463179709812999979008 277277058907993276416 X X := fr_R
  by_cases c1 : y1 = 0
  · rw [if_pos c1] at hG
    exact fr_T hX (wb223_19  hG)
  · rw [if_neg c1] at hG
    exact fr_T hX (wb223_19  hG)
set_option maxRecDepth 20000 in
theorem w225 {n : Nat}  {X : zX} {p : Int32 × zX} (hG : g225 n  X = some p) : fr 0 221901360839799078912 X p.2 := by
  unfold g225 at hG
  have hX : fr 0 221901360839799078912 X X := fr_R
  replace hG := zbnd hG
  obtain ⟨p1, e2, hG⟩ := hG
  replace hX := fr_T hX (fr_M rfl rfl (w224 e2))
  replace hG := zbnd hG
  obtain ⟨x4, e5, hG⟩ := hG
  by_cases c6 : x4 = (-1)
  · rw [if_pos c6] at hG
    replace hG := Option.some.inj hG
    subst hG
    exact hX
  · rw [if_neg c6] at hG
    replace hG := zbnd hG
    obtain ⟨x8, e9, hG⟩ := hG
    replace hG := zbnd hG
    obtain ⟨x11, e12, hG⟩ := hG
    replace hG := zbnd hG
    obtain ⟨p13, e14, hG⟩ := hG
    replace hX := fr_T hX (fr_M rfl rfl (w220 e14))
    replace hG := zbnd hG
    obtain ⟨x16, e17, hG⟩ := hG
    replace hG := zbnd hG
    obtain ⟨p18, e19, hG⟩ := hG
    replace hX := fr_T hX (fr_M rfl rfl (w221 e19))
    replace hG := Option.some.inj hG
    subst hG
    exact hX
set_option maxRecDepth 20000 in
theorem wb210_212 {n : Nat} {q17 : Int32 → zX → Option (Int32 × zX)} (hr17 : ∀ {l1 : Int32} {X : zX} {p : Int32 × zX}, q17 l1 X = some p → fr 131949560359244422709248 286500430944848052238 X p.2) {l1 : Int32} {l2 : Int32} {X : zX} {p : Int32 × zX} (hG : gb210_212 n q17 l1 l2 X = some p) : fr 131949560359244422709248 286500430944848052238 X p.2 := by
  unfold gb210_212 at hG
  have hX : fr 131949560359244422709248 286500430944848052238 X X := fr_R
  exact fr_T hX (hr17 hG)
set_option maxRecDepth 20000 in
theorem wb210_135 {n : Nat} {q17 : Int32 → zX → Option (Int32 × zX)} (hr17 : ∀ {l1 : Int32} {X : zX} {p : Int32 × zX}, q17 l1 X = some p → fr 131949560359244422709248 286500430944848052238 X p.2) {l1 : Int32} {l2 : Int32} {X : zX} {p : Int32 × zX} (hG : gb210_135 n q17 l1 l2 X = some p) : fr 131949560359244422709248 286500430944848052238 X p.2 := by
  unfold gb210_135 at hG
  have hX : fr 131949560359244422709248 286500430944848052238 X X := fr_R
  replace hG := zbnd hG
  obtain ⟨p1, e2, hG⟩ := hG
  replace hX := fr_T hX (fr_M rfl rfl (w190 e2))
  exact fr_T hX (wb210_212 hr17 hG)
set_option maxRecDepth 20000 in
theorem wb210_69 {n : Nat} {q17 : Int32 → zX → Option (Int32 × zX)} (hr17 : ∀ {l1 : Int32} {X : zX} {p : Int32 × zX}, q17 l1 X = some p → fr 131949560359244422709248 286500430944848052238 X p.2) {l1 : Int32} {l2 : Int32} {X : zX} {p : Int32 × zX} (hG : gb210_69 n q17 l1 l2 X = some p) : fr 131949560359244422709248 286500430944848052238 X p.2 := by
  unfold gb210_69 at hG
  have hX : fr 131949560359244422709248 286500430944848052238 X X := fr_R
  replace hG := zbnd hG
  obtain ⟨p1, e2, hG⟩ := hG
  replace hX := fr_T hX (fr_M rfl rfl (w190 e2))
  exact fr_T hX (wb210_212 hr17 hG)
set_option maxRecDepth 20000 in
theorem wb210_17 {n : Nat} {q17 : Int32 → zX → Option (Int32 × zX)} (hr17 : ∀ {l1 : Int32} {X : zX} {p : Int32 × zX}, q17 l1 X = some p → fr 131949560359244422709248 286500430944848052238 X p.2) {l1 : Int32} {X : zX} {p : Int32 × zX} (hG : gb210_17 n q17 l1 X = some p) : fr 131949560359244422709248 286500430944848052238 X p.2 := by
  unfold gb210_17 at hG
  have hX : fr 131949560359244422709248 286500430944848052238 X X := fr_R
  by_cases c1 : (X.1 73) = (-1)
  · rw [if_pos c1] at hG
    by_cases c2 : l1 = 0
    · rw [if_pos c2] at hG
      replace hG := zbnd hG
      obtain ⟨p3, e4, hG⟩ := hG
      replace hX := fr_T hX (fr_M rfl rfl (w213 e4))
      by_cases c5 : p3.1 = 0
      · rw [if_pos c5] at hG
        replace hG := zbnd hG
        obtain ⟨p6, e7, hG⟩ := hG
        replace hX := fr_T hX (fr_M rfl rfl (w213 e7))
        by_cases c8 : p6.1 = 0
        · rw [if_pos c8] at hG
          by_cases c9 : (p6.2.1 75) ≤ 1
          · rw [if_pos c9] at hG
            replace hG := zbnd hG
            obtain ⟨p10, e11, hG⟩ := hG
            replace hX := fr_T hX (fr_M rfl rfl (w225 e11))
            replace hG := Option.some.inj hG
            subst hG
            exact hX
          · rw [if_neg c9] at hG
            replace hG := zbnd hG
            obtain ⟨p12, e13, hG⟩ := hG
            replace hX := fr_T hX (fr_M rfl rfl (w209 e13))
            replace hG := zbnd hG
            obtain ⟨p14, e15, hG⟩ := hG
            replace hX := fr_T hX (fr_M rfl rfl (w200 e15))
            by_cases c16 : (p14.2.1 73) = (-1)
            · rw [if_pos c16] at hG
              replace hG := zbnd hG
              obtain ⟨p17, e18, hG⟩ := hG
              replace hX := fr_T hX (fr_M rfl rfl (w225 e18))
              replace hG := zlet_ex hG
              obtain ⟨X19, e20, hG⟩ := hG
              replace hX := fr_F hX (k := 75) rfl e20
              replace hG := zlet_ex hG
              obtain ⟨X21, e22, hG⟩ := hG
              replace hX := fr_F hX (k := 76) rfl e22
              replace hG := zbnd hG
              obtain ⟨p23, e24, hG⟩ := hG
              replace hX := fr_T hX (fr_M rfl rfl (w222 e24))
              replace hG := zbnd hG
              obtain ⟨p25, e26, hG⟩ := hG
              replace hX := fr_T hX (fr_M rfl rfl (w190 e26))
              exact fr_T hX (wb210_212 hr17 hG)
            · rw [if_neg c16] at hG
              exact fr_T hX (wb210_212 hr17 hG)
        · rw [if_neg c8] at hG
          replace hG := zbnd hG
          obtain ⟨x28, e29, hG⟩ := hG
          by_cases c30 : x28 = (-1)
          · rw [if_pos c30] at hG
            replace hG := zbnd hG
            obtain ⟨p31, e32, hG⟩ := hG
            replace hX := fr_T hX (fr_M rfl rfl (w223 e32))
            exact fr_T hX (wb210_135 hr17 hG)
          · rw [if_neg c30] at hG
            replace hG := zbnd hG
            obtain ⟨p33, e34, hG⟩ := hG
            replace hX := fr_T hX (fr_M rfl rfl (w224 e34))
            replace hG := zbnd hG
            obtain ⟨x36, e37, hG⟩ := hG
            replace hG := zbnd hG
            obtain ⟨x39, e40, hG⟩ := hG
            replace hG := zbnd hG
            obtain ⟨p41, e42, hG⟩ := hG
            replace hX := fr_T hX (fr_M rfl rfl (w220 e42))
            replace hG := zbnd hG
            obtain ⟨X44, e45, hG⟩ := hG
            replace hX := fr_W hX (i := 65) rfl e45
            exact fr_T hX (wb210_135 hr17 hG)
      · rw [if_neg c5] at hG
        replace hG := zbnd hG
        obtain ⟨x47, e48, hG⟩ := hG
        by_cases c49 : x47 = (-1)
        · rw [if_pos c49] at hG
          replace hG := zbnd hG
          obtain ⟨p50, e51, hG⟩ := hG
          replace hX := fr_T hX (fr_M rfl rfl (w223 e51))
          exact fr_T hX (wb210_69 hr17 hG)
        · rw [if_neg c49] at hG
          exact fr_T hX (wb210_69 hr17 hG)
    · rw [if_neg c2] at hG
      replace hG := zbnd hG
      obtain ⟨p52, e53, hG⟩ := hG
      replace hX := fr_T hX (fr_M rfl rfl (w212 e53))
      exact fr_T hX (wb210_212 hr17 hG)
  · rw [if_neg c1] at hG
    replace hG := Option.some.inj hG
    subst hG
    exact hX
theorem wf210_17 {n : Nat}   (k : Nat) : ∀ {l1 : Int32} {X : zX} {p : Int32 × zX}, gf210_17 n  k l1 X = some p → fr 131949560359244422709248 286500430944848052238 X p.2 := by
  induction k with
  | zero => intros; rename_i hG; cases hG
  | succ k ih => intros; rename_i hG; exact wb210_17 (n := n) (q17 := gf210_17 n  k) ih hG
set_option maxRecDepth 20000 in
theorem w210 {n : Nat}  {X : zX} {p : Int32 × zX} (hG : g210 n  X = some p) : fr 131949560359244422709248 286500430944848052238 X p.2 := by
  unfold g210 at hG
  have hX : fr 131949560359244422709248 286500430944848052238 X X := fr_R
  replace hG := zlet_ex hG
  obtain ⟨X1, e2, hG⟩ := hG
  replace hX := fr_F hX (k := 75) rfl e2
  replace hG := zlet_ex hG
  obtain ⟨X3, e4, hG⟩ := hG
  replace hX := fr_F hX (k := 76) rfl e4
  replace hG := zbnd hG
  obtain ⟨p5, e6, hG⟩ := hG
  replace hX := fr_T hX (fr_M rfl rfl (w211 e6))
  exact fr_T hX (wf210_17  n hG)
set_option maxRecDepth 20000 in
theorem wb201_149 {n : Nat}   {l1 : Int32} {l2 : Int32} {l3 : Int32} {X : zX} {p : Unit × zX} (hG : gb201_149 n  l1 l2 l3 X = some p) : fr 131949560359244422709248 286500430944848052734 X p.2 := by
  unfold gb201_149 at hG
  have hX : fr 131949560359244422709248 286500430944848052734 X X := fr_R
  replace hG := zbnd hG
  obtain ⟨p1, e2, hG⟩ := hG
  replace hX := fr_T hX (fr_M rfl rfl (w208 e2))
  replace hG := Option.some.inj hG
  subst hG
  exact hX
set_option maxRecDepth 20000 in
theorem wb201_19 {n : Nat}    {X : zX} {p : Unit × zX} (hG : gb201_19 n   X = some p) : fr 131949560359244422709248 286500430944848052734 X p.2 := by
  unfold gb201_19 at hG
  have hX : fr 131949560359244422709248 286500430944848052734 X X := fr_R
  replace hG := zbnd hG
  obtain ⟨p1, e2, hG⟩ := hG
  replace hX := fr_T hX (fr_M rfl rfl (w190 e2))
  replace hG := zbnd hG
  obtain ⟨x5, e6, hG⟩ := hG
  replace hG := zbnd hG
  obtain ⟨p7, e8, hG⟩ := hG
  replace hX := fr_T hX (fr_M rfl rfl (w202 e8))
  replace hG := zbnd hG
  obtain ⟨p9, e10, hG⟩ := hG
  replace hX := fr_T hX (fr_M rfl rfl (w208 e10))
  replace hG := zbnd hG
  obtain ⟨x12, e13, hG⟩ := hG
  replace hG := zbnd hG
  obtain ⟨p14, e15, hG⟩ := hG
  replace hX := fr_T hX (fr_M rfl rfl (w210 e15))
  by_cases c16 : (p14.2.1 73) = (-1)
  · rw [if_pos c16] at hG
    replace hG := zbnd hG
    obtain ⟨x18, e19, hG⟩ := hG
    replace hG := zgd_some hG
    obtain ⟨g23, hG⟩ := hG
    replace hG := zbnd hG
    obtain ⟨X21, e22, hG⟩ := hG
    replace hX := fr_W hX (i := 5) rfl e22
    replace hG := zgd_some hG
    obtain ⟨g27, hG⟩ := hG
    replace hG := zbnd hG
    obtain ⟨X25, e26, hG⟩ := hG
    replace hX := fr_W hX (i := 6) rfl e26
    replace hG := zgd_some hG
    obtain ⟨g31, hG⟩ := hG
    replace hG := zbnd hG
    obtain ⟨X29, e30, hG⟩ := hG
    replace hX := fr_W hX (i := 7) rfl e30
    replace hG := zbnd hG
    obtain ⟨x34, e35, hG⟩ := hG
    replace hG := zgd_some hG
    obtain ⟨g38, hG⟩ := hG
    replace hG := zbnd hG
    obtain ⟨X36, e37, hG⟩ := hG
    replace hX := fr_W hX (i := 8) rfl e37
    replace hG := zbnd hG
    obtain ⟨x40, e41, hG⟩ := hG
    replace hG := zgd_some hG
    obtain ⟨g44, hG⟩ := hG
    replace hG := zbnd hG
    obtain ⟨X42, e43, hG⟩ := hG
    replace hX := fr_W hX (i := 4) rfl e43
    exact fr_T hX (wb201_149  hG)
  · rw [if_neg c16] at hG
    exact fr_T hX (wb201_149  hG)
set_option maxRecDepth 20000 in
theorem w201 {n : Nat}  {X : zX} {p : Unit × zX} (hG : g201 n  X = some p) : fr 131949560359244422709248 286500430944848052734 X p.2 := by
  unfold g201 at hG
  have hX : fr 131949560359244422709248 286500430944848052734 X X := fr_R
  replace hG := zbnd hG
  obtain ⟨x2, e3, hG⟩ := hG
  by_cases c4 : x2 = 12
  · rw [if_pos c4] at hG
    replace hG := zbnd hG
    obtain ⟨p5, e6, hG⟩ := hG
    replace hX := fr_T hX (fr_M rfl rfl (w195 e6))
    exact fr_T hX (wb201_19  hG)
  · rw [if_neg c4] at hG
    exact fr_T hX (wb201_19  hG)
set_option maxRecDepth 20000 in
theorem wb227_171 {n : Nat}   {l1 : Int32} {l2 : Int32} {X : zX} {p : Unit × zX} (hG : gb227_171 n  l1 l2 X = some p) : fr 18612764770372937580544 12302 X p.2 := by
  unfold gb227_171 at hG
  have hX : fr 18612764770372937580544 12302 X X := fr_R
  replace hG := zbnd hG
  obtain ⟨p1, e2, hG⟩ := hG
  replace hX := fr_T hX (fr_M rfl rfl (w208 e2))
  replace hG := Option.some.inj hG
  subst hG
  exact hX
set_option maxRecDepth 20000 in
theorem wb227_159 {n : Nat} {q8 : Int32 → Int32 → zX → Option (Unit × zX)} (hr8 : ∀ {l1 : Int32} {l2 : Int32} {X : zX} {p : Unit × zX}, q8 l1 l2 X = some p → fr 18612764770372937580544 12302 X p.2) {l1 : Int32} {l2 : Int32} {s0 : Int32} {X : zX} {p : Unit × zX} (hG : gb227_159 n q8 l1 l2 s0 X = some p) : fr 18612764770372937580544 12302 X p.2 := by
  unfold gb227_159 at hG
  have hX : fr 18612764770372937580544 12302 X X := fr_R
  by_cases c1 : s0 = 0
  · rw [if_pos c1] at hG
    exact fr_T hX (hr8 hG)
  · rw [if_neg c1] at hG
    replace hG := zbnd hG
    obtain ⟨p2, e3, hG⟩ := hG
    replace hX := fr_T hX (fr_M rfl rfl (w190 e3))
    exact fr_T hX (hr8 hG)
set_option maxRecDepth 20000 in
theorem wb227_158 {n : Nat} {q8 : Int32 → Int32 → zX → Option (Unit × zX)} (hr8 : ∀ {l1 : Int32} {l2 : Int32} {X : zX} {p : Unit × zX}, q8 l1 l2 X = some p → fr 18612764770372937580544 12302 X p.2) {l1 : Int32} {l2 : Int32} {X : zX} {p : Unit × zX} (hG : gb227_158 n q8 l1 l2 X = some p) : fr 18612764770372937580544 12302 X p.2 := by
  unfold gb227_158 at hG
  have hX : fr 18612764770372937580544 12302 X X := fr_R
  exact fr_T hX (wb227_159 hr8 hG)
set_option maxRecDepth 20000 in
theorem wb227_133 {n : Nat} {q8 : Int32 → Int32 → zX → Option (Unit × zX)} (hr8 : ∀ {l1 : Int32} {l2 : Int32} {X : zX} {p : Unit × zX}, q8 l1 l2 X = some p → fr 18612764770372937580544 12302 X p.2) {l1 : Int32} {l2 : Int32} {X : zX} {p : Unit × zX} (hG : gb227_133 n q8 l1 l2 X = some p) : fr 18612764770372937580544 12302 X p.2 := by
  unfold gb227_133 at hG
  have hX : fr 18612764770372937580544 12302 X X := fr_R
  replace hG := zbnd hG
  obtain ⟨p1, e2, hG⟩ := hG
  replace hX := fr_T hX (fr_M rfl rfl (w190 e2))
  by_cases c3 : (p1.2.1 73) = (-1)
  · rw [if_pos c3] at hG
    replace hG := zbnd hG
    obtain ⟨p4, e5, hG⟩ := hG
    replace hX := fr_T hX (fr_M rfl rfl (w209 e5))
    by_cases c6 : p4.1 = 0
    · rw [if_pos c6] at hG
      exact fr_T hX (wb227_158 hr8 hG)
    · rw [if_neg c6] at hG
      exact fr_T hX (wb227_159 hr8 hG)
  · rw [if_neg c3] at hG
    exact fr_T hX (wb227_158 hr8 hG)
set_option maxRecDepth 20000 in
theorem wb227_95 {n : Nat} {q8 : Int32 → Int32 → zX → Option (Unit × zX)} (hr8 : ∀ {l1 : Int32} {l2 : Int32} {X : zX} {p : Unit × zX}, q8 l1 l2 X = some p → fr 18612764770372937580544 12302 X p.2) {l1 : Int32} {l2 : Int32} {X : zX} {p : Unit × zX} (hG : gb227_95 n q8 l1 l2 X = some p) : fr 18612764770372937580544 12302 X p.2 := by
  unfold gb227_95 at hG
  have hX : fr 18612764770372937580544 12302 X X := fr_R
  by_cases c1 : (X.1 73) = (-1)
  · rw [if_pos c1] at hG
    replace hG := zbnd hG
    obtain ⟨x4, e5, hG⟩ := hG
    replace hG := zbnd hG
    obtain ⟨p6, e7, hG⟩ := hG
    replace hX := fr_T hX (fr_M rfl rfl (w206 e7))
    replace hG := zgd_some hG
    obtain ⟨g10, hG⟩ := hG
    replace hG := zbnd hG
    obtain ⟨X8, e9, hG⟩ := hG
    replace hX := fr_W hX (i := 13) rfl e9
    replace hG := zbnd hG
    obtain ⟨x12, e13, hG⟩ := hG
    replace hG := zgd_some hG
    obtain ⟨g16, hG⟩ := hG
    replace hG := zbnd hG
    obtain ⟨X14, e15, hG⟩ := hG
    replace hX := fr_W hX (i := 12) rfl e15
    exact fr_T hX (wb227_133 hr8 hG)
  · rw [if_neg c1] at hG
    exact fr_T hX (wb227_133 hr8 hG)
set_option maxRecDepth 20000 in
theorem wb227_71 {n : Nat} {q8 : Int32 → Int32 → zX → Option (Unit × zX)} (hr8 : ∀ {l1 : Int32} {l2 : Int32} {X : zX} {p : Unit × zX}, q8 l1 l2 X = some p → fr 18612764770372937580544 12302 X p.2) {l1 : Int32} {l2 : Int32} {X : zX} {p : Unit × zX} (hG : gb227_71 n q8 l1 l2 X = some p) : fr 18612764770372937580544 12302 X p.2 := by
  unfold gb227_71 at hG
  have hX : fr 18612764770372937580544 12302 X X := fr_R
  by_cases c1 : (X.1 73) = (-1)
  · rw [if_pos c1] at hG
    replace hG := zbnd hG
    obtain ⟨x3, e4, hG⟩ := hG
    by_cases c5 : x3 = 8
    · rw [if_pos c5] at hG
      replace hG := zbnd hG
      obtain ⟨p6, e7, hG⟩ := hG
      replace hX := fr_T hX (fr_M rfl rfl (w195 e7))
      exact fr_T hX (wb227_95 hr8 hG)
    · rw [if_neg c5] at hG
      exact fr_T hX (wb227_95 hr8 hG)
  · rw [if_neg c1] at hG
    exact fr_T hX (wb227_95 hr8 hG)
set_option maxRecDepth 20000 in
theorem wb227_8 {n : Nat} {q8 : Int32 → Int32 → zX → Option (Unit × zX)} (hr8 : ∀ {l1 : Int32} {l2 : Int32} {X : zX} {p : Unit × zX}, q8 l1 l2 X = some p → fr 18612764770372937580544 12302 X p.2) {l1 : Int32} {l2 : Int32} {X : zX} {p : Unit × zX} (hG : gb227_8 n q8 l1 l2 X = some p) : fr 18612764770372937580544 12302 X p.2 := by
  unfold gb227_8 at hG
  have hX : fr 18612764770372937580544 12302 X X := fr_R
  by_cases c1 : l2 = 0
  · rw [if_pos c1] at hG
    exact fr_T hX (wb227_171  hG)
  · rw [if_neg c1] at hG
    by_cases c2 : (X.1 73) = (-1)
    · rw [if_pos c2] at hG
      replace hG := zbnd hG
      obtain ⟨p3, e4, hG⟩ := hG
      replace hX := fr_T hX (fr_M rfl rfl (w203 e4))
      replace hG := zbnd hG
      obtain ⟨p5, e6, hG⟩ := hG
      replace hX := fr_T hX (fr_M rfl rfl (w200 e6))
      by_cases c7 : (p5.2.1 73) = (-1)
      · rw [if_pos c7] at hG
        replace hG := zbnd hG
        obtain ⟨x10, e11, hG⟩ := hG
        replace hG := zbnd hG
        obtain ⟨p12, e13, hG⟩ := hG
        replace hX := fr_T hX (fr_M rfl rfl (w204 e13))
        by_cases c14 : p12.1 = (-1)
        · rw [if_pos c14] at hG
          exact fr_T hX (wb227_71 hr8 hG)
        · rw [if_neg c14] at hG
          replace hG := zbnd hG
          obtain ⟨p15, e16, hG⟩ := hG
          replace hX := fr_T hX (fr_M rfl rfl (w195 e16))
          exact fr_T hX (wb227_71 hr8 hG)
      · rw [if_neg c7] at hG
        exact fr_T hX (wb227_71 hr8 hG)
    · rw [if_neg c2] at hG
      exact fr_T hX (wb227_171  hG)
theorem wf227_8 {n : Nat}   (k : Nat) : ∀ {l1 : Int32} {l2 : Int32} {X : zX} {p : Unit × zX}, gf227_8 n  k l1 l2 X = some p → fr 18612764770372937580544 12302 X p.2 := by
  induction k with
  | zero => intros; rename_i hG; cases hG
  | succ k ih => intros; rename_i hG; exact wb227_8 (n := n) (q8 := gf227_8 n  k) ih hG
set_option maxRecDepth 20000 in
theorem w227 {n : Nat} {y1 : Int32} {X : zX} {p : Unit × zX} (hG : g227 n y1 X = some p) : fr 18612764770372937580544 12302 X p.2 := by
  unfold g227 at hG
  have hX : fr 18612764770372937580544 12302 X X := fr_R
  replace hG := zbnd hG
  obtain ⟨p1, e2, hG⟩ := hG
  replace hX := fr_T hX (fr_M rfl rfl (w208 e2))
  exact fr_T hX (wf227_8  n hG)
set_option maxRecDepth 20000 in
theorem w228 {n : Nat} {y1 : Nat} {X : zX} {p : Unit × zX} (hG : g228 n y1 X = some p) : fr 18612764770372937580544 0 X p.2 := by
  unfold g228 at hG
  have hX : fr 18612764770372937580544 0 X X := fr_R
  replace hG := zbnd hG
  obtain ⟨p1, e2, hG⟩ := hG
  replace hX := fr_T hX (fr_M rfl rfl (w213 e2))
  replace hG := zbnd hG
  obtain ⟨p3, e4, hG⟩ := hG
  replace hX := fr_T hX (fr_M rfl rfl (w200 e4))
  replace hG := zbnd hG
  obtain ⟨p5, e6, hG⟩ := hG
  replace hX := fr_T hX (fr_M rfl rfl (w190 e6))
  replace hG := Option.some.inj hG
  subst hG
  exact hX
set_option maxRecDepth 20000 in
theorem wb231_44 {n : Nat}    {X : zX} {p : Int32 × zX} (hG : gb231_44 n   X = some p) : fr 9463179709812999979008 0 X p.2 := by
  unfold gb231_44 at hG
  have hX : fr 9463179709812999979008 0 X X := fr_R
  replace hG := Option.some.inj hG
  subst hG
  exact hX
set_option maxRecDepth 20000 in
theorem wb231_14 {n : Nat}   {s0 : Int32} {X : zX} {p : Int32 × zX} (hG : gb231_14 n  s0 X = some p) : fr 9463179709812999979008 0 X p.2 := by
  unfold gb231_14 at hG
  have hX : fr 9463179709812999979008 0 X X := fr_R
  replace hG := zbnd hG
  obtain ⟨p1, e2, hG⟩ := hG
  replace hX := fr_T hX (fr_M rfl rfl (w200 e2))
  by_cases c3 : (p1.2.1 73) = (-1)
  · rw [if_pos c3] at hG
    replace hG := zbnd hG
    obtain ⟨p4, e5, hG⟩ := hG
    replace hX := fr_T hX (fr_M rfl rfl (w187 e5))
    by_cases c6 : p4.1 = 0
    · rw [if_pos c6] at hG
      replace hG := zbnd hG
      obtain ⟨p7, e8, hG⟩ := hG
      replace hX := fr_T hX (fr_M rfl rfl (w195 e8))
      exact fr_T hX (wb231_44  hG)
    · rw [if_neg c6] at hG
      exact fr_T hX (wb231_44  hG)
  · rw [if_neg c3] at hG
    exact fr_T hX (wb231_44  hG)
set_option maxRecDepth 20000 in
theorem w231 {n : Nat}  {X : zX} {p : Int32 × zX} (hG : g231 n  X = some p) : fr 9463179709812999979008 0 X p.2 := by
  unfold g231 at hG
  have hX : fr 9463179709812999979008 0 X X := fr_R
  by_cases c1 : (X.1 69) = 2
  · rw [if_pos c1] at hG
    exact fr_T hX (wb231_14  hG)
  · rw [if_neg c1] at hG
    exact fr_T hX (wb231_14  hG)
set_option maxRecDepth 20000 in
theorem wb232_146 {n : Nat}   {l1 : Int32} {l2 : Int32} {X : zX} {p : Int32 × zX} (hG : gb232_146 n  l1 l2 X = some p) : fr 18612764770372937580544 0 X p.2 := by
  unfold gb232_146 at hG
  have hX : fr 18612764770372937580544 0 X X := fr_R
  replace hG := zbnd hG
  obtain ⟨p1, e2, hG⟩ := hG
  replace hX := fr_T hX (fr_M rfl rfl (w190 e2))
  replace hG := Option.some.inj hG
  subst hG
  exact hX
set_option maxRecDepth 20000 in
theorem wb232_143 {n : Nat}   {l1 : Int32} {l2 : Int32} {s0 : Int32} {X : zX} {p : Int32 × zX} (hG : gb232_143 n  l1 l2 s0 X = some p) : fr 18612764770372937580544 0 X p.2 := by
  unfold gb232_143 at hG
  have hX : fr 18612764770372937580544 0 X X := fr_R
  replace hG := zbnd hG
  obtain ⟨p1, e2, hG⟩ := hG
  replace hX := fr_T hX (fr_M rfl rfl (w200 e2))
  exact fr_T hX (wb232_146  hG)
set_option maxRecDepth 20000 in
theorem wb232_131 {n : Nat}   {l1 : Int32} {l2 : Int32} {s0 : Int32} {X : zX} {p : Int32 × zX} (hG : gb232_131 n  l1 l2 s0 X = some p) : fr 18612764770372937580544 0 X p.2 := by
  unfold gb232_131 at hG
  have hX : fr 18612764770372937580544 0 X X := fr_R
  by_cases c1 : s0 = (-1)
  · rw [if_pos c1] at hG
    exact fr_T hX (wb232_143  hG)
  · rw [if_neg c1] at hG
    exact fr_T hX (wb232_143  hG)
set_option maxRecDepth 20000 in
theorem wb232_83 {n : Nat}   {l1 : Int32} {l2 : Int32} {s0 : Int32} {X : zX} {p : Int32 × zX} (hG : gb232_83 n  l1 l2 s0 X = some p) : fr 18612764770372937580544 0 X p.2 := by
  unfold gb232_83 at hG
  have hX : fr 18612764770372937580544 0 X X := fr_R
  replace hG := zbnd hG
  obtain ⟨p1, e2, hG⟩ := hG
  replace hX := fr_T hX (fr_M rfl rfl (w200 e2))
  exact fr_T hX (wb232_146  hG)
set_option maxRecDepth 20000 in
theorem wb232_55 {n : Nat}   {l1 : Int32} {l2 : Int32} {s0 : Int32} {X : zX} {p : Int32 × zX} (hG : gb232_55 n  l1 l2 s0 X = some p) : fr 18612764770372937580544 0 X p.2 := by
  unfold gb232_55 at hG
  have hX : fr 18612764770372937580544 0 X X := fr_R
  exact fr_T hX (wb232_146  hG)
set_option maxRecDepth 20000 in
theorem wb232_37 {n : Nat}   {l1 : Int32} {l2 : Int32} {s0 : Int32} {X : zX} {p : Int32 × zX} (hG : gb232_37 n  l1 l2 s0 X = some p) : fr 18612764770372937580544 0 X p.2 := by
  unfold gb232_37 at hG
  have hX : fr 18612764770372937580544 0 X X := fr_R
  replace hG := zbnd hG
  obtain ⟨p1, e2, hG⟩ := hG
  replace hX := fr_T hX (fr_M rfl rfl (w200 e2))
  replace hG := zbnd hG
  obtain ⟨p3, e4, hG⟩ := hG
  replace hX := fr_T hX (fr_M rfl rfl (w213 e4))
  by_cases c5 : p3.1 = 0
  · rw [if_pos c5] at hG
    exact fr_T hX (wb232_55  hG)
  · rw [if_neg c5] at hG
    exact fr_T hX (wb232_55  hG)
set_option maxRecDepth 20000 in
theorem wb232_32 {n : Nat}   {l1 : Int32} {l2 : Int32} {X : zX} {p : Int32 × zX} (hG : gb232_32 n  l1 l2 X = some p) : fr 18612764770372937580544 0 X p.2 := by
  unfold gb232_32 at hG
  have hX : fr 18612764770372937580544 0 X X := fr_R
  exact fr_T hX (wb232_37  hG)
set_option maxRecDepth 20000 in
theorem w232 {n : Nat} {y1 : Int32} {X : zX} {p : Int32 × zX} (hG : g232 n y1 X = some p) : fr 18612764770372937580544 0 X p.2 := by
  unfold g232 at hG
  have hX : fr 18612764770372937580544 0 X X := fr_R
  replace hG := zbnd hG
  obtain ⟨x2, e3, hG⟩ := hG
  by_cases c4 : x2 = 0
  · rw [if_pos c4] at hG
    replace hG := zbnd hG
    obtain ⟨p5, e6, hG⟩ := hG
    replace hX := fr_T hX (fr_M rfl rfl (w213 e6))
    by_cases c7 : p5.1 = 0
    · rw [if_pos c7] at hG
      replace hG := zbnd hG
      obtain ⟨p8, e9, hG⟩ := hG
      replace hX := fr_T hX (fr_M rfl rfl (w213 e9))
      by_cases c10 : p8.1 = 0
      · rw [if_pos c10] at hG
        exact fr_T hX (wb232_37  hG)
      · rw [if_neg c10] at hG
        exact fr_T hX (wb232_32  hG)
    · rw [if_neg c7] at hG
      exact fr_T hX (wb232_32  hG)
  · rw [if_neg c4] at hG
    replace hG := zbnd hG
    obtain ⟨x12, e13, hG⟩ := hG
    by_cases c14 : x12 = 1
    · rw [if_pos c14] at hG
      by_cases c15 : (X.1 69) = 2
      · rw [if_pos c15] at hG
        exact fr_T hX (wb232_83  hG)
      · rw [if_neg c15] at hG
        exact fr_T hX (wb232_83  hG)
    · rw [if_neg c14] at hG
      replace hG := zbnd hG
      obtain ⟨p16, e17, hG⟩ := hG
      replace hX := fr_T hX (fr_M rfl rfl (w203 e17))
      by_cases c18 : p16.1 = 0
      · rw [if_pos c18] at hG
        exact fr_T hX (wb232_131  hG)
      · rw [if_neg c18] at hG
        replace hG := zbnd hG
        obtain ⟨x21, e22, hG⟩ := hG
        replace hG := zbnd hG
        obtain ⟨p23, e24, hG⟩ := hG
        replace hX := fr_T hX (fr_M rfl rfl (w204 e24))
        exact fr_T hX (wb232_131  hG)
set_option maxRecDepth 20000 in
theorem wb230_507 {n : Nat}   {l1 : Int32} {l2 : Int32} {l3 : Int32} {l4 : Int32} {l5 : Int32} {l6 : Int32} {l7 : Int32} {l8 : Int32} {l9 : Int32} {X : zX} {p : Int32 × zX} (hG : gb230_507 n  l1 l2 l3 l4 l5 l6 l7 l8 l9 X = some p) : fr 18612764770372937580544 558551906910222 X p.2 := by
  unfold gb230_507 at hG
  have hX : fr 18612764770372937580544 558551906910222 X X := fr_R
  replace hG := zbnd hG
  obtain ⟨p1, e2, hG⟩ := hG
  replace hX := fr_T hX (fr_M rfl rfl (w190 e2))
  replace hG := Option.some.inj hG
  subst hG
  exact hX
set_option maxRecDepth 20000 in
theorem wb230_476 {n : Nat}   {l1 : Int32} {l2 : Int32} {l3 : Int32} {l4 : Int32} {l5 : Int32} {l6 : Int32} {l7 : Int32} {l8 : Int32} {l9 : Int32} {X : zX} {p : Int32 × zX} (hG : gb230_476 n  l1 l2 l3 l4 l5 l6 l7 l8 l9 X = some p) : fr 18612764770372937580544 558551906910222 X p.2 := by
  unfold gb230_476 at hG
  have hX : fr 18612764770372937580544 558551906910222 X X := fr_R
  replace hG := zbnd hG
  obtain ⟨p1, e2, hG⟩ := hG
  replace hX := fr_T hX (fr_M rfl rfl (w209 e2))
  replace hG := zbnd hG
  obtain ⟨p3, e4, hG⟩ := hG
  replace hX := fr_T hX (fr_M rfl rfl (w200 e4))
  by_cases c5 : (p3.2.1 73) = (-1)
  · rw [if_pos c5] at hG
    by_cases c6 : l8 = 10000
    · rw [if_pos c6] at hG
      exact fr_T hX (wb230_507  hG)
    · rw [if_neg c6] at hG
      replace hG := zbnd hG
      obtain ⟨p7, e8, hG⟩ := hG
      replace hX := fr_T hX (fr_M rfl rfl (w195 e8))
      exact fr_T hX (wb230_507  hG)
  · rw [if_neg c5] at hG
    exact fr_T hX (wb230_507  hG)
set_option maxRecDepth 20000 in
theorem wb230_473 {n : Nat} {q301 : Int32 → Int32 → Int32 → Int32 → Int32 → Int32 → Int32 → Int32 → Int32 → zX → Option (Int32 × zX)} (hr301 : ∀ {l1 : Int32} {l2 : Int32} {l3 : Int32} {l4 : Int32} {l5 : Int32} {l6 : Int32} {l7 : Int32} {l8 : Int32} {l9 : Int32} {X : zX} {p : Int32 × zX}, q301 l1 l2 l3 l4 l5 l6 l7 l8 l9 X = some p → fr 18612764770372937580544 558551906910222 X p.2) {l1 : Int32} {l2 : Int32} {l3 : Int32} {l4 : Int32} {l5 : Int32} {l6 : Int32} {l7 : Int32} {l8 : Int32} {l9 : Int32} {l10 : Int32} {l11 : Int32} {X : zX} {p : Int32 × zX} (hG : gb230_473 n q301 l1 l2 l3 l4 l5 l6 l7 l8 l9 l10 l11 X = some p) : fr 18612764770372937580544 558551906910222 X p.2 := by
  unfold gb230_473 at hG
  have hX : fr 18612764770372937580544 558551906910222 X X := fr_R
  exact fr_T hX (hr301 hG)
set_option maxRecDepth 20000 in
theorem wb230_462 {n : Nat} {q301 : Int32 → Int32 → Int32 → Int32 → Int32 → Int32 → Int32 → Int32 → Int32 → zX → Option (Int32 × zX)} (hr301 : ∀ {l1 : Int32} {l2 : Int32} {l3 : Int32} {l4 : Int32} {l5 : Int32} {l6 : Int32} {l7 : Int32} {l8 : Int32} {l9 : Int32} {X : zX} {p : Int32 × zX}, q301 l1 l2 l3 l4 l5 l6 l7 l8 l9 X = some p → fr 18612764770372937580544 558551906910222 X p.2) {l1 : Int32} {l2 : Int32} {l3 : Int32} {l4 : Int32} {l5 : Int32} {l6 : Int32} {l7 : Int32} {l8 : Int32} {l9 : Int32} {l10 : Int32} {l11 : Int32} {s0 : Int32} {X : zX} {p : Int32 × zX} (hG : gb230_462 n q301 l1 l2 l3 l4 l5 l6 l7 l8 l9 l10 l11 s0 X = some p) : fr 18612764770372937580544 558551906910222 X p.2 := by
  unfold gb230_462 at hG
  have hX : fr 18612764770372937580544 558551906910222 X X := fr_R
  by_cases c1 : s0 = 0
  · rw [if_pos c1] at hG
    exact fr_T hX (wb230_473 hr301 hG)
  · rw [if_neg c1] at hG
    replace hG := zbnd hG
    obtain ⟨p2, e3, hG⟩ := hG
    replace hX := fr_T hX (fr_M rfl rfl (w190 e3))
    exact fr_T hX (wb230_473 hr301 hG)
set_option maxRecDepth 20000 in
theorem wb230_461 {n : Nat} {q301 : Int32 → Int32 → Int32 → Int32 → Int32 → Int32 → Int32 → Int32 → Int32 → zX → Option (Int32 × zX)} (hr301 : ∀ {l1 : Int32} {l2 : Int32} {l3 : Int32} {l4 : Int32} {l5 : Int32} {l6 : Int32} {l7 : Int32} {l8 : Int32} {l9 : Int32} {X : zX} {p : Int32 × zX}, q301 l1 l2 l3 l4 l5 l6 l7 l8 l9 X = some p → fr 18612764770372937580544 558551906910222 X p.2) {l1 : Int32} {l2 : Int32} {l3 : Int32} {l4 : Int32} {l5 : Int32} {l6 : Int32} {l7 : Int32} {l8 : Int32} {l9 : Int32} {l10 : Int32} {l11 : Int32} {X : zX} {p : Int32 × zX} (hG : gb230_461 n q301 l1 l2 l3 l4 l5 l6 l7 l8 l9 l10 l11 X = some p) : fr 18612764770372937580544 558551906910222 X p.2 := by
  unfold gb230_461 at hG
  have hX : fr 18612764770372937580544 558551906910222 X X := fr_R
  exact fr_T hX (wb230_462 hr301 hG)
set_option maxRecDepth 20000 in
theorem wb230_440 {n : Nat} {q301 : Int32 → Int32 → Int32 → Int32 → Int32 → Int32 → Int32 → Int32 → Int32 → zX → Option (Int32 × zX)} (hr301 : ∀ {l1 : Int32} {l2 : Int32} {l3 : Int32} {l4 : Int32} {l5 : Int32} {l6 : Int32} {l7 : Int32} {l8 : Int32} {l9 : Int32} {X : zX} {p : Int32 × zX}, q301 l1 l2 l3 l4 l5 l6 l7 l8 l9 X = some p → fr 18612764770372937580544 558551906910222 X p.2) {l1 : Int32} {l2 : Int32} {l3 : Int32} {l4 : Int32} {l5 : Int32} {l6 : Int32} {l7 : Int32} {l8 : Int32} {l9 : Int32} {l10 : Int32} {l11 : Int32} {X : zX} {p : Int32 × zX} (hG : gb230_440 n q301 l1 l2 l3 l4 l5 l6 l7 l8 l9 l10 l11 X = some p) : fr 18612764770372937580544 558551906910222 X p.2 := by
  unfold gb230_440 at hG
  have hX : fr 18612764770372937580544 558551906910222 X X := fr_R
  by_cases c1 : (X.1 73) = (-1)
  · rw [if_pos c1] at hG
    replace hG := zbnd hG
    obtain ⟨p2, e3, hG⟩ := hG
    replace hX := fr_T hX (fr_M rfl rfl (w209 e3))
    by_cases c4 : p2.1 = 0
    · rw [if_pos c4] at hG
      exact fr_T hX (wb230_461 hr301 hG)
    · rw [if_neg c4] at hG
      exact fr_T hX (wb230_462 hr301 hG)
  · rw [if_neg c1] at hG
    exact fr_T hX (wb230_461 hr301 hG)
set_option maxRecDepth 20000 in
theorem wb230_372 {n : Nat} {q301 : Int32 → Int32 → Int32 → Int32 → Int32 → Int32 → Int32 → Int32 → Int32 → zX → Option (Int32 × zX)} (hr301 : ∀ {l1 : Int32} {l2 : Int32} {l3 : Int32} {l4 : Int32} {l5 : Int32} {l6 : Int32} {l7 : Int32} {l8 : Int32} {l9 : Int32} {X : zX} {p : Int32 × zX}, q301 l1 l2 l3 l4 l5 l6 l7 l8 l9 X = some p → fr 18612764770372937580544 558551906910222 X p.2) {l1 : Int32} {l2 : Int32} {l3 : Int32} {l4 : Int32} {l5 : Int32} {l6 : Int32} {l7 : Int32} {l8 : Int32} {l9 : Int32} {l10 : Int32} {s0 : Int32} {X : zX} {p : Int32 × zX} (hG : gb230_372 n q301 l1 l2 l3 l4 l5 l6 l7 l8 l9 l10 s0 X = some p) : fr 18612764770372937580544 558551906910222 X p.2 := by
  unfold gb230_372 at hG
  have hX : fr 18612764770372937580544 558551906910222 X X := fr_R
  by_cases c1 : (X.1 73) = (-1)
  · rw [if_pos c1] at hG
    replace hG := zbnd hG
    obtain ⟨x4, e5, hG⟩ := hG
    replace hG := zgd_some hG
    obtain ⟨g8, hG⟩ := hG
    replace hG := zbnd hG
    obtain ⟨X6, e7, hG⟩ := hG
    replace hX := fr_W hX (i := 47) rfl e7
    replace hG := zbnd hG
    obtain ⟨x11, e12, hG⟩ := hG
    replace hG := zgd_some hG
    obtain ⟨g15, hG⟩ := hG
    replace hG := zbnd hG
    obtain ⟨X13, e14, hG⟩ := hG
    replace hX := fr_W hX (i := 48) rfl e14
    replace hG := zbnd hG
    obtain ⟨x17, e18, hG⟩ := hG
    replace hG := zgd_some hG
    obtain ⟨g21, hG⟩ := hG
    replace hG := zbnd hG
    obtain ⟨X19, e20, hG⟩ := hG
    replace hX := fr_W hX (i := 46) rfl e20
    exact fr_T hX (wb230_440 hr301 hG)
  · rw [if_neg c1] at hG
    exact fr_T hX (wb230_440 hr301 hG)
set_option maxRecDepth 20000 in
theorem wb230_345 {n : Nat} {q301 : Int32 → Int32 → Int32 → Int32 → Int32 → Int32 → Int32 → Int32 → Int32 → zX → Option (Int32 × zX)} (hr301 : ∀ {l1 : Int32} {l2 : Int32} {l3 : Int32} {l4 : Int32} {l5 : Int32} {l6 : Int32} {l7 : Int32} {l8 : Int32} {l9 : Int32} {X : zX} {p : Int32 × zX}, q301 l1 l2 l3 l4 l5 l6 l7 l8 l9 X = some p → fr 18612764770372937580544 558551906910222 X p.2) {l1 : Int32} {l2 : Int32} {l3 : Int32} {l4 : Int32} {l5 : Int32} {l6 : Int32} {l7 : Int32} {l8 : Int32} {l9 : Int32} {l10 : Int32} {X : zX} {p : Int32 × zX} (hG : gb230_345 n q301 l1 l2 l3 l4 l5 l6 l7 l8 l9 l10 X = some p) : fr 18612764770372937580544 558551906910222 X p.2 := by
  unfold gb230_345 at hG
  have hX : fr 18612764770372937580544 558551906910222 X X := fr_R
  replace hG := zbnd hG
  obtain ⟨p1, e2, hG⟩ := hG
  replace hX := fr_T hX (fr_M rfl rfl (w190 e2))
  replace hG := zbnd hG
  obtain ⟨p3, e4, hG⟩ := hG
  replace hX := fr_T hX (fr_M rfl rfl (w208 e4))
  by_cases c5 : (p3.2.1 73) = (-1)
  · rw [if_pos c5] at hG
    replace hG := zbnd hG
    obtain ⟨p6, e7, hG⟩ := hG
    replace hX := fr_T hX (fr_M rfl rfl (w232 e7))
    exact fr_T hX (wb230_372 hr301 hG)
  · rw [if_neg c5] at hG
    exact fr_T hX (wb230_372 hr301 hG)
set_option maxRecDepth 20000 in
theorem wb230_301 {n : Nat} {q301 : Int32 → Int32 → Int32 → Int32 → Int32 → Int32 → Int32 → Int32 → Int32 → zX → Option (Int32 × zX)} (hr301 : ∀ {l1 : Int32} {l2 : Int32} {l3 : Int32} {l4 : Int32} {l5 : Int32} {l6 : Int32} {l7 : Int32} {l8 : Int32} {l9 : Int32} {X : zX} {p : Int32 × zX}, q301 l1 l2 l3 l4 l5 l6 l7 l8 l9 X = some p → fr 18612764770372937580544 558551906910222 X p.2) {l1 : Int32} {l2 : Int32} {l3 : Int32} {l4 : Int32} {l5 : Int32} {l6 : Int32} {l7 : Int32} {l8 : Int32} {l9 : Int32} {X : zX} {p : Int32 × zX} (hG : gb230_301 n q301 l1 l2 l3 l4 l5 l6 l7 l8 l9 X = some p) : fr 18612764770372937580544 558551906910222 X p.2 := by
  unfold gb230_301 at hG
  have hX : fr 18612764770372937580544 558551906910222 X X := fr_R
  by_cases c1 : l9 = 0
  · rw [if_pos c1] at hG
    exact fr_T hX (wb230_476  hG)
  · rw [if_neg c1] at hG
    by_cases c2 : (X.1 73) = (-1)
    · rw [if_pos c2] at hG
      replace hG := zbnd hG
      obtain ⟨p3, e4, hG⟩ := hG
      replace hX := fr_T hX (fr_M rfl rfl (w231 e4))
      by_cases c5 : (p3.2.1 73) = (-1)
      · rw [if_pos c5] at hG
        replace hG := zbnd hG
        obtain ⟨x7, e8, hG⟩ := hG
        by_cases c9 : x7 = 8
        · rw [if_pos c9] at hG
          replace hG := zbnd hG
          obtain ⟨p10, e11, hG⟩ := hG
          replace hX := fr_T hX (fr_M rfl rfl (w195 e11))
          exact fr_T hX (wb230_345 hr301 hG)
        · rw [if_neg c9] at hG
          exact fr_T hX (wb230_345 hr301 hG)
      · rw [if_neg c5] at hG
        exact fr_T hX (wb230_345 hr301 hG)
    · rw [if_neg c2] at hG
      exact fr_T hX (wb230_476  hG)
theorem wf230_301 {n : Nat}   (k : Nat) : ∀ {l1 : Int32} {l2 : Int32} {l3 : Int32} {l4 : Int32} {l5 : Int32} {l6 : Int32} {l7 : Int32} {l8 : Int32} {l9 : Int32} {X : zX} {p : Int32 × zX}, gf230_301 n  k l1 l2 l3 l4 l5 l6 l7 l8 l9 X = some p → fr 18612764770372937580544 558551906910222 X p.2 := by
  induction k with
  | zero => intros; rename_i hG; cases hG
  | succ k ih => intros; rename_i hG; exact wb230_301 (n := n) (q301 := gf230_301 n  k) ih hG
set_option maxRecDepth 20000 in
theorem wb230_285 {n : Nat}   {l1 : Int32} {l2 : Int32} {l3 : Int32} {l4 : Int32} {l5 : Int32} {l6 : Int32} {l7 : Int32} {s0 : Int32} {s1 : Int32} {X : zX} {p : Int32 × zX} (hG : gb230_285 n  l1 l2 l3 l4 l5 l6 l7 s0 s1 X = some p) : fr 18612764770372937580544 558551906910222 X p.2 := by
  unfold gb230_285 at hG
  have hX : fr 18612764770372937580544 558551906910222 X X := fr_R
  replace hG := zgd_some hG
  obtain ⟨g3, hG⟩ := hG
  replace hG := zbnd hG
  obtain ⟨X1, e2, hG⟩ := hG
  replace hX := fr_W hX (i := 48) rfl e2
  replace hG := Option.some.inj hG
  subst hG
  exact hX
set_option maxRecDepth 20000 in
theorem wb230_109 {n : Nat}   {l1 : Int32} {l2 : Int32} {l3 : Int32} {l4 : Int32} {s0 : Int32} {X : zX} {p : Int32 × zX} (hG : gb230_109 n  l1 l2 l3 l4 s0 X = some p) : fr 18612764770372937580544 558551906910222 X p.2 := by
  unfold gb230_109 at hG
  have hX : fr 18612764770372937580544 558551906910222 X X := fr_R
  replace hG := zbnd hG
  obtain ⟨p1, e2, hG⟩ := hG
  replace hX := fr_T hX (fr_M rfl rfl (w190 e2))
  by_cases c3 : (p1.2.1 73) = (-1)
  · rw [if_pos c3] at hG
    replace hG := zbnd hG
    obtain ⟨x5, e6, hG⟩ := hG
    replace hG := zbnd hG
    obtain ⟨x8, e9, hG⟩ := hG
    replace hG := zgd_some hG
    obtain ⟨g12, hG⟩ := hG
    replace hG := zbnd hG
    obtain ⟨X10, e11, hG⟩ := hG
    replace hX := fr_W hX (i := 42) rfl e11
    replace hG := zgd_some hG
    obtain ⟨g16, hG⟩ := hG
    replace hG := zbnd hG
    obtain ⟨X14, e15, hG⟩ := hG
    replace hX := fr_W hX (i := 43) rfl e15
    replace hG := zgd_some hG
    obtain ⟨g20, hG⟩ := hG
    replace hG := zbnd hG
    obtain ⟨X18, e19, hG⟩ := hG
    replace hX := fr_W hX (i := 44) rfl e19
    replace hG := zgd_some hG
    obtain ⟨g24, hG⟩ := hG
    replace hG := zbnd hG
    obtain ⟨X22, e23, hG⟩ := hG
    replace hX := fr_W hX (i := 45) rfl e23
    replace hG := zgd_some hG
    obtain ⟨g28, hG⟩ := hG
    replace hG := zbnd hG
    obtain ⟨X26, e27, hG⟩ := hG
    replace hX := fr_W hX (i := 46) rfl e27
    by_cases c29 : l2 = 0
    · rw [if_pos c29] at hG
      replace hG := zbnd hG
      obtain ⟨p30, e31, hG⟩ := hG
      replace hX := fr_T hX (fr_M rfl rfl (w208 e31))
      exact fr_T hX (wf230_301  n hG)
    · rw [if_neg c29] at hG
      replace hG := zgd_some hG
      obtain ⟨g35, hG⟩ := hG
      replace hG := zbnd hG
      obtain ⟨X33, e34, hG⟩ := hG
      replace hX := fr_W hX (i := 46) rfl e34
      replace hG := zgd_some hG
      obtain ⟨g39, hG⟩ := hG
      replace hG := zbnd hG
      obtain ⟨X37, e38, hG⟩ := hG
      replace hX := fr_W hX (i := 47) rfl e38
      replace hG := zgd_some hG
      obtain ⟨g43, hG⟩ := hG
      replace hG := zbnd hG
      obtain ⟨X41, e42, hG⟩ := hG
      replace hX := fr_W hX (i := 47) rfl e42
      replace hG := zbnd hG
      obtain ⟨p45, e46, hG⟩ := hG
      replace hX := fr_T hX (fr_M rfl rfl (w232 e46))
      replace hG := zgd_some hG
      obtain ⟨g49, hG⟩ := hG
      replace hG := zbnd hG
      obtain ⟨X47, e48, hG⟩ := hG
      replace hX := fr_W hX (i := 48) rfl e48
      replace hG := zbnd hG
      obtain ⟨p50, e51, hG⟩ := hG
      replace hX := fr_T hX (fr_M rfl rfl (w228 e51))
      by_cases c53 : (p50.2.1 73) = (-1)
      · rw [if_pos c53] at hG
        replace hG := zbnd hG
        obtain ⟨p54, e55, hG⟩ := hG
        replace hX := fr_T hX (fr_M rfl rfl (w232 e55))
        exact fr_T hX (wb230_285  hG)
      · rw [if_neg c53] at hG
        exact fr_T hX (wb230_285  hG)
  · rw [if_neg c3] at hG
    replace hG := Option.some.inj hG
    subst hG
    exact hX
set_option maxRecDepth 20000 in
theorem wb230_90 {n : Nat}   {l1 : Int32} {l2 : Int32} {l3 : Int32} {l4 : Int32} {s0 : Int32} {X : zX} {p : Int32 × zX} (hG : gb230_90 n  l1 l2 l3 l4 s0 X = some p) : fr 18612764770372937580544 558551906910222 X p.2 := by
  unfold gb230_90 at hG
  have hX : fr 18612764770372937580544 558551906910222 X X := fr_R
  replace hG := zbnd hG
  obtain ⟨p1, e2, hG⟩ := hG
  replace hX := fr_T hX (fr_M rfl rfl (w200 e2))
  by_cases c3 : (p1.2.1 73) = (-1)
  · rw [if_pos c3] at hG
    replace hG := zbnd hG
    obtain ⟨p4, e5, hG⟩ := hG
    replace hX := fr_T hX (fr_M rfl rfl (w206 e5))
    exact fr_T hX (wb230_109  hG)
  · rw [if_neg c3] at hG
    exact fr_T hX (wb230_109  hG)
set_option maxRecDepth 20000 in
theorem wb230_70 {n : Nat}   {l1 : Int32} {l2 : Int32} {l3 : Int32} {s0 : Int32} {X : zX} {p : Int32 × zX} (hG : gb230_70 n  l1 l2 l3 s0 X = some p) : fr 18612764770372937580544 558551906910222 X p.2 := by
  unfold gb230_70 at hG
  have hX : fr 18612764770372937580544 558551906910222 X X := fr_R
  replace hG := zbnd hG
  obtain ⟨p1, e2, hG⟩ := hG
  replace hX := fr_T hX (fr_M rfl rfl (w190 e2))
  by_cases c3 : (p1.2.1 69) = 3
  · rw [if_pos c3] at hG
    exact fr_T hX (wb230_90  hG)
  · rw [if_neg c3] at hG
    exact fr_T hX (wb230_90  hG)
set_option maxRecDepth 20000 in
theorem wb230_46 {n : Nat}   {l1 : Int32} {l2 : Int32} {l3 : Int32} {X : zX} {p : Int32 × zX} (hG : gb230_46 n  l1 l2 l3 X = some p) : fr 18612764770372937580544 558551906910222 X p.2 := by
  unfold gb230_46 at hG
  have hX : fr 18612764770372937580544 558551906910222 X X := fr_R
  replace hG := zbnd hG
  obtain ⟨p1, e2, hG⟩ := hG
  replace hX := fr_T hX (fr_M rfl rfl (w203 e2))
  replace hG := zbnd hG
  obtain ⟨p3, e4, hG⟩ := hG
  replace hX := fr_T hX (fr_M rfl rfl (w200 e4))
  by_cases c5 : (p3.2.1 73) = (-1)
  · rw [if_pos c5] at hG
    replace hG := zbnd hG
    obtain ⟨p6, e7, hG⟩ := hG
    replace hX := fr_T hX (fr_M rfl rfl (w206 e7))
    exact fr_T hX (wb230_70  hG)
  · rw [if_neg c5] at hG
    exact fr_T hX (wb230_70  hG)
set_option maxRecDepth 20000 in
theorem wb230_19 {n : Nat}   {l1 : Int32} {l2 : Int32} {X : zX} {p : Int32 × zX} (hG : gb230_19 n  l1 l2 X = some p) : fr 18612764770372937580544 558551906910222 X p.2 := by
  unfold gb230_19 at hG
  have hX : fr 18612764770372937580544 558551906910222 X X := fr_R
  replace hG := zbnd hG
  obtain ⟨p1, e2, hG⟩ := hG
  replace hX := fr_T hX (fr_M rfl rfl (w190 e2))
  by_cases c3 : l2 = 0
  · rw [if_pos c3] at hG
    exact fr_T hX (wb230_46  hG)
  · rw [if_neg c3] at hG
    by_cases c4 : (p1.2.1 73) = (-1)
    · rw [if_pos c4] at hG
      replace hG := zbnd hG
      obtain ⟨p5, e6, hG⟩ := hG
      replace hX := fr_T hX (fr_M rfl rfl (w231 e6))
      replace hG := zbnd hG
      obtain ⟨p7, e8, hG⟩ := hG
      replace hX := fr_T hX (fr_M rfl rfl (w190 e8))
      exact fr_T hX (wb230_46  hG)
    · rw [if_neg c4] at hG
      exact fr_T hX (wb230_46  hG)
set_option maxRecDepth 20000 in
theorem w230 {n : Nat} {y1 : Int32} {y2 : Int32} {X : zX} {p : Int32 × zX} (hG : g230 n y1 y2 X = some p) : fr 18612764770372937580544 558551906910222 X p.2 := by
  unfold g230 at hG
  have hX : fr 18612764770372937580544 558551906910222 X X := fr_R
  replace hG := zbnd hG
  obtain ⟨x2, e3, hG⟩ := hG
  by_cases c4 : x2 = 100
  · rw [if_pos c4] at hG
    replace hG := zbnd hG
    obtain ⟨p5, e6, hG⟩ := hG
    replace hX := fr_T hX (fr_M rfl rfl (w195 e6))
    exact fr_T hX (wb230_19  hG)
  · rw [if_neg c4] at hG
    exact fr_T hX (wb230_19  hG)
set_option maxRecDepth 20000 in
theorem wb229_44 {n : Nat}   {l1 : Int32} {l2 : Int32} {l3 : Int32} {l4 : Int32} {X : zX} {p : Int32 × zX} (hG : gb229_44 n  l1 l2 l3 l4 X = some p) : fr 18612764770372937580544 562400197607438 X p.2 := by
  unfold gb229_44 at hG
  have hX : fr 18612764770372937580544 562400197607438 X X := fr_R
  by_cases c1 : (X.1 73) = (-1)
  · rw [if_pos c1] at hG
    replace hG := zbnd hG
    obtain ⟨x3, e4, hG⟩ := hG
    replace hG := zgd_some hG
    obtain ⟨g8, hG⟩ := hG
    replace hG := zbnd hG
    obtain ⟨X6, e7, hG⟩ := hG
    replace hX := fr_W hX (i := 40) rfl e7
    replace hG := zgd_some hG
    obtain ⟨g12, hG⟩ := hG
    replace hG := zbnd hG
    obtain ⟨X10, e11, hG⟩ := hG
    replace hX := fr_W hX (i := 41) rfl e11
    replace hG := zbnd hG
    obtain ⟨x14, e15, hG⟩ := hG
    replace hG := zgd_some hG
    obtain ⟨g18, hG⟩ := hG
    replace hG := zbnd hG
    obtain ⟨X16, e17, hG⟩ := hG
    replace hX := fr_W hX (i := 39) rfl e17
    replace hG := zbnd hG
    obtain ⟨x20, e21, hG⟩ := hG
    replace hG := Option.some.inj hG
    subst hG
    exact hX
  · rw [if_neg c1] at hG
    replace hG := Option.some.inj hG
    subst hG
    exact hX
set_option maxRecDepth 20000 in
theorem wb229_27 {n : Nat}   {l1 : Int32} {l2 : Int32} {l3 : Int32} {l4 : Int32} {X : zX} {p : Int32 × zX} (hG : gb229_27 n  l1 l2 l3 l4 X = some p) : fr 18612764770372937580544 562400197607438 X p.2 := by
  unfold gb229_27 at hG
  have hX : fr 18612764770372937580544 562400197607438 X X := fr_R
  replace hG := zbnd hG
  obtain ⟨p1, e2, hG⟩ := hG
  replace hX := fr_T hX (fr_M rfl rfl (w230 e2))
  exact fr_T hX (wb229_44  hG)
set_option maxRecDepth 20000 in
theorem w229 {n : Nat} {y1 : Int32} {X : zX} {p : Int32 × zX} (hG : g229 n y1 X = some p) : fr 18612764770372937580544 562400197607438 X p.2 := by
  unfold g229 at hG
  have hX : fr 18612764770372937580544 562400197607438 X X := fr_R
  replace hG := zbnd hG
  obtain ⟨p1, e2, hG⟩ := hG
  replace hX := fr_T hX (fr_M rfl rfl (w213 e2))
  by_cases c3 : p1.1 = 0
  · rw [if_pos c3] at hG
    replace hG := zbnd hG
    obtain ⟨p4, e5, hG⟩ := hG
    replace hX := fr_T hX (fr_M rfl rfl (w213 e5))
    by_cases c6 : p4.1 = 0
    · rw [if_pos c6] at hG
      replace hG := zbnd hG
      obtain ⟨p7, e8, hG⟩ := hG
      replace hX := fr_T hX (fr_M rfl rfl (w232 e8))
      exact fr_T hX (wb229_44  hG)
    · rw [if_neg c6] at hG
      exact fr_T hX (wb229_27  hG)
  · rw [if_neg c3] at hG
    exact fr_T hX (wb229_27  hG)
set_option maxRecDepth 20000 in
theorem wb233_232 {n : Nat}   {l1 : Int32} {l2 : Int32} {l3 : Int32} {s0 : Int32} {s1 : Int32} {X : zX} {p : Unit × zX} (hG : gb233_232 n  l1 l2 l3 s0 s1 X = some p) : fr 18612764770372937580544 16187406 X p.2 := by
  unfold gb233_232 at hG
  have hX : fr 18612764770372937580544 16187406 X X := fr_R
  replace hG := zgd_some hG
  obtain ⟨g3, hG⟩ := hG
  replace hG := zbnd hG
  obtain ⟨X1, e2, hG⟩ := hG
  replace hX := fr_W hX (i := 22) rfl e2
  replace hG := zbnd hG
  obtain ⟨x5, e6, hG⟩ := hG
  replace hG := zgd_some hG
  obtain ⟨g9, hG⟩ := hG
  replace hG := zbnd hG
  obtain ⟨X7, e8, hG⟩ := hG
  replace hX := fr_W hX (i := 16) rfl e8
  replace hG := zbnd hG
  obtain ⟨p10, e11, hG⟩ := hG
  replace hX := fr_T hX (fr_M rfl rfl (w190 e11))
  replace hG := zbnd hG
  obtain ⟨p12, e13, hG⟩ := hG
  replace hX := fr_T hX (fr_M rfl rfl (w208 e13))
  replace hG := Option.some.inj hG
  subst hG
  exact hX
set_option maxRecDepth 20000 in
theorem wb233_208 {n : Nat}   {l1 : Int32} {l2 : Int32} {l3 : Int32} {s0 : Int32} {s1 : Int32} {X : zX} {p : Unit × zX} (hG : gb233_208 n  l1 l2 l3 s0 s1 X = some p) : fr 18612764770372937580544 16187406 X p.2 := by
  unfold gb233_208 at hG
  have hX : fr 18612764770372937580544 16187406 X X := fr_R
  replace hG := zgd_some hG
  obtain ⟨g3, hG⟩ := hG
  replace hG := zbnd hG
  obtain ⟨X1, e2, hG⟩ := hG
  replace hX := fr_W hX (i := 21) rfl e2
  replace hG := zbnd hG
  obtain ⟨x6, e7, hG⟩ := hG
  by_cases c8 : x6 = 2
  · rw [if_pos c8] at hG
    replace hG := zbnd hG
    obtain ⟨p9, e10, hG⟩ := hG
    replace hX := fr_T hX (fr_M rfl rfl (w206 e10))
    exact fr_T hX (wb233_232  hG)
  · rw [if_neg c8] at hG
    exact fr_T hX (wb233_232  hG)
set_option maxRecDepth 20000 in
theorem wb233_176 {n : Nat}   {l1 : Int32} {l2 : Int32} {l3 : Int32} {s0 : Int32} {s1 : Int32} {X : zX} {p : Unit × zX} (hG : gb233_176 n  l1 l2 l3 s0 s1 X = some p) : fr 18612764770372937580544 16187406 X p.2 := by
  unfold gb233_176 at hG
  have hX : fr 18612764770372937580544 16187406 X X := fr_R
  replace hG := zgd_some hG
  obtain ⟨g3, hG⟩ := hG
  replace hG := zbnd hG
  obtain ⟨X1, e2, hG⟩ := hG
  replace hX := fr_W hX (i := 20) rfl e2
  by_cases c5 : l3 = 0
  · rw [if_pos c5] at hG
    exact fr_T hX (wb233_208  hG)
  · rw [if_neg c5] at hG
    replace hG := zbnd hG
    obtain ⟨p6, e7, hG⟩ := hG
    replace hX := fr_T hX (fr_M rfl rfl (w213 e7))
    by_cases c8 : p6.1 = 0
    · rw [if_pos c8] at hG
      exact fr_T hX (wb233_208  hG)
    · rw [if_neg c8] at hG
      exact fr_T hX (wb233_208  hG)
set_option maxRecDepth 20000 in
theorem wb233_128 {n : Nat}   {l1 : Int32} {l2 : Int32} {l3 : Int32} {s0 : Int32} {X : zX} {p : Unit × zX} (hG : gb233_128 n  l1 l2 l3 s0 X = some p) : fr 18612764770372937580544 16187406 X p.2 := by
  unfold gb233_128 at hG
  have hX : fr 18612764770372937580544 16187406 X X := fr_R
  replace hG := zbnd hG
  obtain ⟨p1, e2, hG⟩ := hG
  replace hX := fr_T hX (fr_M rfl rfl (w200 e2))
  by_cases c3 : (p1.2.1 73) = (-1)
  · rw [if_pos c3] at hG
    replace hG := zgd_some hG
    obtain ⟨g7, hG⟩ := hG
    replace hG := zbnd hG
    obtain ⟨X5, e6, hG⟩ := hG
    replace hX := fr_W hX (i := 23) rfl e6
    by_cases c9 : l3 = 0
    · rw [if_pos c9] at hG
      by_cases c10 : (X5.1 69) = 2
      · rw [if_pos c10] at hG
        exact fr_T hX (wb233_176  hG)
      · rw [if_neg c10] at hG
        exact fr_T hX (wb233_176  hG)
    · rw [if_neg c9] at hG
      exact fr_T hX (wb233_176  hG)
  · rw [if_neg c3] at hG
    replace hG := Option.some.inj hG
    subst hG
    exact hX
set_option maxRecDepth 20000 in
theorem wb233_123 {n : Nat}   {l1 : Int32} {l2 : Int32} {l3 : Int32} {X : zX} {p : Unit × zX} (hG : gb233_123 n  l1 l2 l3 X = some p) : fr 18612764770372937580544 16187406 X p.2 := by
  unfold gb233_123 at hG
  have hX : fr 18612764770372937580544 16187406 X X := fr_R
  exact fr_T hX (wb233_128  hG)
set_option maxRecDepth 20000 in
theorem wb233_102 {n : Nat}   {l1 : Int32} {l2 : Int32} {s0 : Int32} {X : zX} {p : Unit × zX} (hG : gb233_102 n  l1 l2 s0 X = some p) : fr 18612764770372937580544 16187406 X p.2 := by
  unfold gb233_102 at hG
  have hX : fr 18612764770372937580544 16187406 X X := fr_R
  by_cases c1 : (X.1 69) = 2
  · rw [if_pos c1] at hG
    exact fr_T hX (wb233_123  hG)
  · rw [if_neg c1] at hG
    by_cases c2 : s0 = 0
    · rw [if_pos c2] at hG
      replace hG := zbnd hG
      obtain ⟨p3, e4, hG⟩ := hG
      replace hX := fr_T hX (fr_M rfl rfl (w203 e4))
      by_cases c5 : p3.1 = 0
      · rw [if_pos c5] at hG
        exact fr_T hX (wb233_128  hG)
      · rw [if_neg c5] at hG
        exact fr_T hX (wb233_123  hG)
    · rw [if_neg c2] at hG
      exact fr_T hX (wb233_123  hG)
set_option maxRecDepth 20000 in
theorem wb233_97 {n : Nat}   {l1 : Int32} {l2 : Int32} {X : zX} {p : Unit × zX} (hG : gb233_97 n  l1 l2 X = some p) : fr 18612764770372937580544 16187406 X p.2 := by
  unfold gb233_97 at hG
  have hX : fr 18612764770372937580544 16187406 X X := fr_R
  exact fr_T hX (wb233_102  hG)
set_option maxRecDepth 20000 in
theorem wb233_15 {n : Nat}   {l1 : Int32} {X : zX} {p : Unit × zX} (hG : gb233_15 n  l1 X = some p) : fr 18612764770372937580544 16187406 X p.2 := by
  unfold gb233_15 at hG
  have hX : fr 18612764770372937580544 16187406 X X := fr_R
  replace hG := zbnd hG
  obtain ⟨p1, e2, hG⟩ := hG
  replace hX := fr_T hX (fr_M rfl rfl (w190 e2))
  replace hG := zbnd hG
  obtain ⟨p3, e4, hG⟩ := hG
  replace hX := fr_T hX (fr_M rfl rfl (w203 e4))
  replace hG := zbnd hG
  obtain ⟨p5, e6, hG⟩ := hG
  replace hX := fr_T hX (fr_M rfl rfl (w200 e6))
  by_cases c7 : (p5.2.1 73) = (-1)
  · rw [if_pos c7] at hG
    replace hG := zbnd hG
    obtain ⟨x9, e10, hG⟩ := hG
    replace hG := zbnd hG
    obtain ⟨p12, e13, hG⟩ := hG
    replace hX := fr_T hX (fr_M rfl rfl (w206 e13))
    replace hG := zgd_some hG
    obtain ⟨g16, hG⟩ := hG
    replace hG := zbnd hG
    obtain ⟨X14, e15, hG⟩ := hG
    replace hX := fr_W hX (i := 17) rfl e15
    replace hG := zgd_some hG
    obtain ⟨g20, hG⟩ := hG
    replace hG := zbnd hG
    obtain ⟨X18, e19, hG⟩ := hG
    replace hX := fr_W hX (i := 18) rfl e19
    replace hG := zbnd hG
    obtain ⟨p21, e22, hG⟩ := hG
    replace hX := fr_T hX (fr_M rfl rfl (w190 e22))
    replace hG := zbnd hG
    obtain ⟨p23, e24, hG⟩ := hG
    replace hX := fr_T hX (fr_M rfl rfl (w208 e24))
    replace hG := zbnd hG
    obtain ⟨p25, e26, hG⟩ := hG
    replace hX := fr_T hX (fr_M rfl rfl (w213 e26))
    by_cases c27 : p25.1 = 0
    · rw [if_pos c27] at hG
      replace hG := zbnd hG
      obtain ⟨p28, e29, hG⟩ := hG
      replace hX := fr_T hX (fr_M rfl rfl (w213 e29))
      by_cases c30 : p28.1 = 0
      · rw [if_pos c30] at hG
        exact fr_T hX (wb233_102  hG)
      · rw [if_neg c30] at hG
        exact fr_T hX (wb233_97  hG)
    · rw [if_neg c27] at hG
      exact fr_T hX (wb233_97  hG)
  · rw [if_neg c7] at hG
    replace hG := Option.some.inj hG
    subst hG
    exact hX
set_option maxRecDepth 20000 in
theorem w233 {n : Nat} {y1 : Int32} {X : zX} {p : Unit × zX} (hG : g233 n y1 X = some p) : fr 18612764770372937580544 16187406 X p.2 := by
  unfold g233 at hG
  have hX : fr 18612764770372937580544 16187406 X X := fr_R
  replace hG := zbnd hG
  obtain ⟨x2, e3, hG⟩ := hG
  by_cases c4 : x2 = 4
  · rw [if_pos c4] at hG
    replace hG := zbnd hG
    obtain ⟨p5, e6, hG⟩ := hG
    replace hX := fr_T hX (fr_M rfl rfl (w195 e6))
    exact fr_T hX (wb233_15  hG)
  · rw [if_neg c4] at hG
    exact fr_T hX (wb233_15  hG)
set_option maxRecDepth 20000 in
theorem wb234_242 {n : Nat}   {l1 : Int32} {l2 : Int32} {l3 : Int32} {l4 : Int32} {l5 : Int32} {l6 : Int32} {X : zX} {p : Unit × zX} (hG : gb234_242 n  l1 l2 l3 l4 l5 l6 X = some p) : fr 131949560359244422709248 286500993379136962574 X p.2 := by
  unfold gb234_242 at hG
  have hX : fr 131949560359244422709248 286500993379136962574 X X := fr_R
  replace hG := zbnd hG
  obtain ⟨p1, e2, hG⟩ := hG
  replace hX := fr_T hX (fr_M rfl rfl (w208 e2))
  replace hG := Option.some.inj hG
  subst hG
  exact hX
set_option maxRecDepth 20000 in
theorem wb234_141 {n : Nat}   {l1 : Int32} {l2 : Int32} {l3 : Int32} {l4 : Int32} {l5 : Int32} {s0 : Int32} {X : zX} {p : Unit × zX} (hG : gb234_141 n  l1 l2 l3 l4 l5 s0 X = some p) : fr 131949560359244422709248 286500993379136962574 X p.2 := by
  unfold gb234_141 at hG
  have hX : fr 131949560359244422709248 286500993379136962574 X X := fr_R
  by_cases c1 : (X.1 73) = (-1)
  · rw [if_pos c1] at hG
    replace hG := zbnd hG
    obtain ⟨x3, e4, hG⟩ := hG
    replace hG := zgd_some hG
    obtain ⟨g8, hG⟩ := hG
    replace hG := zbnd hG
    obtain ⟨X6, e7, hG⟩ := hG
    replace hX := fr_W hX (i := 29) rfl e7
    replace hG := zgd_some hG
    obtain ⟨g12, hG⟩ := hG
    replace hG := zbnd hG
    obtain ⟨X10, e11, hG⟩ := hG
    replace hX := fr_W hX (i := 30) rfl e11
    replace hG := zgd_some hG
    obtain ⟨g16, hG⟩ := hG
    replace hG := zbnd hG
    obtain ⟨X14, e15, hG⟩ := hG
    replace hX := fr_W hX (i := 31) rfl e15
    replace hG := zgd_some hG
    obtain ⟨g20, hG⟩ := hG
    replace hG := zbnd hG
    obtain ⟨X18, e19, hG⟩ := hG
    replace hX := fr_W hX (i := 32) rfl e19
    replace hG := zbnd hG
    obtain ⟨x23, e24, hG⟩ := hG
    replace hG := zgd_some hG
    obtain ⟨g27, hG⟩ := hG
    replace hG := zbnd hG
    obtain ⟨X25, e26, hG⟩ := hG
    replace hX := fr_W hX (i := 33) rfl e26
    replace hG := zgd_some hG
    obtain ⟨g31, hG⟩ := hG
    replace hG := zbnd hG
    obtain ⟨X29, e30, hG⟩ := hG
    replace hX := fr_W hX (i := 34) rfl e30
    replace hG := zbnd hG
    obtain ⟨x33, e34, hG⟩ := hG
    replace hG := zgd_some hG
    obtain ⟨g37, hG⟩ := hG
    replace hG := zbnd hG
    obtain ⟨X35, e36, hG⟩ := hG
    replace hX := fr_W hX (i := 28) rfl e36
    exact fr_T hX (wb234_242  hG)
  · rw [if_neg c1] at hG
    exact fr_T hX (wb234_242  hG)
set_option maxRecDepth 20000 in
theorem wb234_109 {n : Nat}   {l1 : Int32} {l2 : Int32} {l3 : Int32} {l4 : Int32} {l5 : Int32} {s0 : Int32} {X : zX} {p : Unit × zX} (hG : gb234_109 n  l1 l2 l3 l4 l5 s0 X = some p) : fr 131949560359244422709248 286500993379136962574 X p.2 := by
  unfold gb234_109 at hG
  have hX : fr 131949560359244422709248 286500993379136962574 X X := fr_R
  replace hG := zbnd hG
  obtain ⟨p1, e2, hG⟩ := hG
  replace hX := fr_T hX (fr_M rfl rfl (w200 e2))
  replace hG := zbnd hG
  obtain ⟨p3, e4, hG⟩ := hG
  replace hX := fr_T hX (fr_M rfl rfl (w190 e4))
  by_cases c5 : (p3.2.1 73) = (-1)
  · rw [if_pos c5] at hG
    replace hG := zbnd hG
    obtain ⟨p6, e7, hG⟩ := hG
    replace hX := fr_T hX (fr_M rfl rfl (w229 e7))
    exact fr_T hX (wb234_141  hG)
  · rw [if_neg c5] at hG
    exact fr_T hX (wb234_141  hG)
set_option maxRecDepth 20000 in
theorem wb234_92 {n : Nat}   {l1 : Int32} {l2 : Int32} {l3 : Int32} {l4 : Int32} {s0 : Int32} {X : zX} {p : Unit × zX} (hG : gb234_92 n  l1 l2 l3 l4 s0 X = some p) : fr 131949560359244422709248 286500993379136962574 X p.2 := by
  unfold gb234_92 at hG
  have hX : fr 131949560359244422709248 286500993379136962574 X X := fr_R
  by_cases c1 : (X.1 69) = 6
  · rw [if_pos c1] at hG
    exact fr_T hX (wb234_109  hG)
  · rw [if_neg c1] at hG
    exact fr_T hX (wb234_109  hG)
set_option maxRecDepth 20000 in
theorem wb234_64 {n : Nat}   {l1 : Int32} {l2 : Int32} {s0 : Int32} {X : zX} {p : Unit × zX} (hG : gb234_64 n  l1 l2 s0 X = some p) : fr 131949560359244422709248 286500993379136962574 X p.2 := by
  unfold gb234_64 at hG
  have hX : fr 131949560359244422709248 286500993379136962574 X X := fr_R
  replace hG := zbnd hG
  obtain ⟨x2, e3, hG⟩ := hG
  by_cases c4 : (X.1 73) = (-1)
  · rw [if_pos c4] at hG
    replace hG := zbnd hG
    obtain ⟨p5, e6, hG⟩ := hG
    replace hX := fr_T hX (fr_M rfl rfl (w210 e6))
    exact fr_T hX (wb234_92  hG)
  · rw [if_neg c4] at hG
    exact fr_T hX (wb234_92  hG)
set_option maxRecDepth 20000 in
theorem wb234_27 {n : Nat}   {l1 : Int32} {l2 : Int32} {X : zX} {p : Unit × zX} (hG : gb234_27 n  l1 l2 X = some p) : fr 131949560359244422709248 286500993379136962574 X p.2 := by
  unfold gb234_27 at hG
  have hX : fr 131949560359244422709248 286500993379136962574 X X := fr_R
  replace hG := zbnd hG
  obtain ⟨p1, e2, hG⟩ := hG
  replace hX := fr_T hX (fr_M rfl rfl (w190 e2))
  by_cases c3 : l2 = (-1)
  · rw [if_pos c3] at hG
    exact fr_T hX (wb234_64  hG)
  · rw [if_neg c3] at hG
    replace hG := zbnd hG
    obtain ⟨x6, e7, hG⟩ := hG
    replace hG := zbnd hG
    obtain ⟨p8, e9, hG⟩ := hG
    replace hX := fr_T hX (fr_M rfl rfl (w216 e9))
    exact fr_T hX (wb234_64  hG)
set_option maxRecDepth 20000 in
theorem w234 {n : Nat} {y1 : Int32} {y2 : Int32} {X : zX} {p : Unit × zX} (hG : g234 n y1 y2 X = some p) : fr 131949560359244422709248 286500993379136962574 X p.2 := by
  unfold g234 at hG
  have hX : fr 131949560359244422709248 286500993379136962574 X X := fr_R
  by_cases c1 : (X.1 73) = (-1)
  · rw [if_pos c1] at hG
    replace hG := zbnd hG
    obtain ⟨x3, e4, hG⟩ := hG
    by_cases c5 : x3 = 100
    · rw [if_pos c5] at hG
      replace hG := zbnd hG
      obtain ⟨p6, e7, hG⟩ := hG
      replace hX := fr_T hX (fr_M rfl rfl (w195 e7))
      exact fr_T hX (wb234_27  hG)
    · rw [if_neg c5] at hG
      exact fr_T hX (wb234_27  hG)
  · rw [if_neg c1] at hG
    exact fr_T hX (wb234_27  hG)
set_option maxRecDepth 20000 in
theorem wb226_327 {n : Nat}   {l1 : Int32} {l2 : Int32} {l3 : Int32} {l4 : Int32} {X : zX} {p : Unit × zX} (hG : gb226_327 n  l1 l2 l3 l4 X = some p) : fr 131949560359244422709248 286500993379153214990 X p.2 := by
  unfold gb226_327 at hG
  have hX : fr 131949560359244422709248 286500993379153214990 X X := fr_R
  replace hG := zbnd hG
  obtain ⟨p1, e2, hG⟩ := hG
  replace hX := fr_T hX (fr_M rfl rfl (w208 e2))
  replace hG := Option.some.inj hG
  subst hG
  exact hX
set_option maxRecDepth 20000 in
theorem wb226_306 {n : Nat}   {l1 : Int32} {l2 : Int32} {l3 : Int32} {l4 : Int32} {X : zX} {p : Unit × zX} (hG : gb226_306 n  l1 l2 l3 l4 X = some p) : fr 131949560359244422709248 286500993379153214990 X p.2 := by
  unfold gb226_306 at hG
  have hX : fr 131949560359244422709248 286500993379153214990 X X := fr_R
  by_cases c1 : (X.1 73) = (-1)
  · rw [if_pos c1] at hG
    replace hG := zbnd hG
    obtain ⟨x3, e4, hG⟩ := hG
    replace hG := zgd_some hG
    obtain ⟨g7, hG⟩ := hG
    replace hG := zbnd hG
    obtain ⟨X5, e6, hG⟩ := hG
    replace hX := fr_W hX (i := 9) rfl e6
    exact fr_T hX (wb226_327  hG)
  · rw [if_neg c1] at hG
    exact fr_T hX (wb226_327  hG)
set_option maxRecDepth 20000 in
theorem wb226_271 {n : Nat} {q271 : Int32 → Int32 → Int32 → Int32 → zX → Option (Unit × zX)} (hr271 : ∀ {l1 : Int32} {l2 : Int32} {l3 : Int32} {l4 : Int32} {X : zX} {p : Unit × zX}, q271 l1 l2 l3 l4 X = some p → fr 131949560359244422709248 286500993379153214990 X p.2) {l1 : Int32} {l2 : Int32} {l3 : Int32} {l4 : Int32} {X : zX} {p : Unit × zX} (hG : gb226_271 n q271 l1 l2 l3 l4 X = some p) : fr 131949560359244422709248 286500993379153214990 X p.2 := by
  unfold gb226_271 at hG
  have hX : fr 131949560359244422709248 286500993379153214990 X X := fr_R
  by_cases c1 : (X.1 73) = (-1)
  · rw [if_pos c1] at hG
    replace hG := zbnd hG
    obtain ⟨p2, e3, hG⟩ := hG
    replace hX := fr_T hX (fr_M rfl rfl (w213 e3))
    by_cases c4 : p2.1 = 0
    · rw [if_pos c4] at hG
      exact fr_T hX (wb226_306  hG)
    · rw [if_neg c4] at hG
      replace hG := zbnd hG
      obtain ⟨x6, e7, hG⟩ := hG
      replace hG := zbnd hG
      obtain ⟨p8, e9, hG⟩ := hG
      replace hX := fr_T hX (fr_M rfl rfl (w234 e9))
      exact fr_T hX (hr271 hG)
  · rw [if_neg c1] at hG
    exact fr_T hX (wb226_306  hG)
theorem wf226_271 {n : Nat}   (k : Nat) : ∀ {l1 : Int32} {l2 : Int32} {l3 : Int32} {l4 : Int32} {X : zX} {p : Unit × zX}, gf226_271 n  k l1 l2 l3 l4 X = some p → fr 131949560359244422709248 286500993379153214990 X p.2 := by
  induction k with
  | zero => intros; rename_i hG; cases hG
  | succ k ih => intros; rename_i hG; exact wb226_271 (n := n) (q271 := gf226_271 n  k) ih hG
set_option maxRecDepth 20000 in
theorem wb226_245 {n : Nat} {q245 : Int32 → Int32 → Int32 → Int32 → zX → Option (Unit × zX)} (hr245 : ∀ {l1 : Int32} {l2 : Int32} {l3 : Int32} {l4 : Int32} {X : zX} {p : Unit × zX}, q245 l1 l2 l3 l4 X = some p → fr 131949560359244422709248 286500993379153214990 X p.2) {l1 : Int32} {l2 : Int32} {l3 : Int32} {l4 : Int32} {X : zX} {p : Unit × zX} (hG : gb226_245 n q245 l1 l2 l3 l4 X = some p) : fr 131949560359244422709248 286500993379153214990 X p.2 := by
  unfold gb226_245 at hG
  have hX : fr 131949560359244422709248 286500993379153214990 X X := fr_R
  by_cases c1 : (X.1 73) = (-1)
  · rw [if_pos c1] at hG
    replace hG := zbnd hG
    obtain ⟨p2, e3, hG⟩ := hG
    replace hX := fr_T hX (fr_M rfl rfl (w213 e3))
    by_cases c4 : p2.1 = 0
    · rw [if_pos c4] at hG
      exact fr_T hX (wf226_271  n hG)
    · rw [if_neg c4] at hG
      replace hG := zbnd hG
      obtain ⟨p5, e6, hG⟩ := hG
      replace hX := fr_T hX (fr_M rfl rfl (w233 e6))
      exact fr_T hX (hr245 hG)
  · rw [if_neg c1] at hG
    exact fr_T hX (wf226_271  n hG)
theorem wf226_245 {n : Nat}   (k : Nat) : ∀ {l1 : Int32} {l2 : Int32} {l3 : Int32} {l4 : Int32} {X : zX} {p : Unit × zX}, gf226_245 n  k l1 l2 l3 l4 X = some p → fr 131949560359244422709248 286500993379153214990 X p.2 := by
  induction k with
  | zero => intros; rename_i hG; cases hG
  | succ k ih => intros; rename_i hG; exact wb226_245 (n := n) (q245 := gf226_245 n  k) ih hG
set_option maxRecDepth 20000 in
theorem wb226_222 {n : Nat}   {l1 : Int32} {l2 : Int32} {l3 : Int32} {s0 : Int32} {X : zX} {p : Unit × zX} (hG : gb226_222 n  l1 l2 l3 s0 X = some p) : fr 131949560359244422709248 286500993379153214990 X p.2 := by
  unfold gb226_222 at hG
  have hX : fr 131949560359244422709248 286500993379153214990 X X := fr_R
  replace hG := zbnd hG
  obtain ⟨p1, e2, hG⟩ := hG
  replace hX := fr_T hX (fr_M rfl rfl (w208 e2))
  replace hG := zgd_some hG
  obtain ⟨g6, hG⟩ := hG
  replace hG := zbnd hG
  obtain ⟨X4, e5, hG⟩ := hG
  replace hX := fr_W hX (i := 14) rfl e5
  replace hG := zgd_some hG
  obtain ⟨g10, hG⟩ := hG
  replace hG := zbnd hG
  obtain ⟨X8, e9, hG⟩ := hG
  replace hX := fr_W hX (i := 15) rfl e9
  exact fr_T hX (wf226_245  n hG)
set_option maxRecDepth 20000 in
theorem wb226_191 {n : Nat}   {l1 : Int32} {l2 : Int32} {s0 : Int32} {X : zX} {p : Unit × zX} (hG : gb226_191 n  l1 l2 s0 X = some p) : fr 131949560359244422709248 286500993379153214990 X p.2 := by
  unfold gb226_191 at hG
  have hX : fr 131949560359244422709248 286500993379153214990 X X := fr_R
  replace hG := zbnd hG
  obtain ⟨p1, e2, hG⟩ := hG
  replace hX := fr_T hX (fr_M rfl rfl (w208 e2))
  replace hG := zbnd hG
  obtain ⟨p3, e4, hG⟩ := hG
  replace hX := fr_T hX (fr_M rfl rfl (w228 e4))
  by_cases c5 : (p3.2.1 73) = (-1)
  · rw [if_pos c5] at hG
    replace hG := zbnd hG
    obtain ⟨p6, e7, hG⟩ := hG
    replace hX := fr_T hX (fr_M rfl rfl (w232 e7))
    exact fr_T hX (wb226_222  hG)
  · rw [if_neg c5] at hG
    exact fr_T hX (wb226_222  hG)
set_option maxRecDepth 20000 in
theorem wb226_161 {n : Nat}   {l1 : Int32} {l2 : Int32} {X : zX} {p : Unit × zX} (hG : gb226_161 n  l1 l2 X = some p) : fr 131949560359244422709248 286500993379153214990 X p.2 := by
  unfold gb226_161 at hG
  have hX : fr 131949560359244422709248 286500993379153214990 X X := fr_R
  replace hG := zbnd hG
  obtain ⟨p1, e2, hG⟩ := hG
  replace hX := fr_T hX (fr_M rfl rfl (w208 e2))
  replace hG := zbnd hG
  obtain ⟨p3, e4, hG⟩ := hG
  replace hX := fr_T hX (fr_M rfl rfl (w228 e4))
  by_cases c5 : (p3.2.1 73) = (-1)
  · rw [if_pos c5] at hG
    replace hG := zbnd hG
    obtain ⟨p6, e7, hG⟩ := hG
    replace hX := fr_T hX (fr_M rfl rfl (w229 e7))
    exact fr_T hX (wb226_191  hG)
  · rw [if_neg c5] at hG
    exact fr_T hX (wb226_191  hG)
set_option maxRecDepth 20000 in
theorem wb226_131 {n : Nat}   {l1 : Int32} {l2 : Int32} {s0 : Int32} {X : zX} {p : Unit × zX} (hG : gb226_131 n  l1 l2 s0 X = some p) : fr 131949560359244422709248 286500993379153214990 X p.2 := by
  unfold gb226_131 at hG
  have hX : fr 131949560359244422709248 286500993379153214990 X X := fr_R
  replace hG := zbnd hG
  obtain ⟨p1, e2, hG⟩ := hG
  replace hX := fr_T hX (fr_M rfl rfl (w200 e2))
  replace hG := zbnd hG
  obtain ⟨p3, e4, hG⟩ := hG
  replace hX := fr_T hX (fr_M rfl rfl (w190 e4))
  by_cases c5 : (p3.2.1 73) = (-1)
  · rw [if_pos c5] at hG
    replace hG := zbnd hG
    obtain ⟨x7, e8, hG⟩ := hG
    by_cases c9 : x7 = 2
    · rw [if_pos c9] at hG
      replace hG := zbnd hG
      obtain ⟨p10, e11, hG⟩ := hG
      replace hX := fr_T hX (fr_M rfl rfl (w227 e11))
      exact fr_T hX (wb226_161  hG)
    · rw [if_neg c9] at hG
      exact fr_T hX (wb226_161  hG)
  · rw [if_neg c5] at hG
    exact fr_T hX (wb226_161  hG)
set_option maxRecDepth 20000 in
theorem wb226_19 {n : Nat}    {X : zX} {p : Unit × zX} (hG : gb226_19 n   X = some p) : fr 131949560359244422709248 286500993379153214990 X p.2 := by
  unfold gb226_19 at hG
  have hX : fr 131949560359244422709248 286500993379153214990 X X := fr_R
  replace hG := zbnd hG
  obtain ⟨p1, e2, hG⟩ := hG
  replace hX := fr_T hX (fr_M rfl rfl (w190 e2))
  replace hG := zbnd hG
  obtain ⟨x5, e6, hG⟩ := hG
  replace hG := zbnd hG
  obtain ⟨p7, e8, hG⟩ := hG
  replace hX := fr_T hX (fr_M rfl rfl (w202 e8))
  replace hG := zbnd hG
  obtain ⟨p9, e10, hG⟩ := hG
  replace hX := fr_T hX (fr_M rfl rfl (w208 e10))
  by_cases c11 : (p9.2.1 73) = (-1)
  · rw [if_pos c11] at hG
    replace hG := zbnd hG
    obtain ⟨x13, e14, hG⟩ := hG
    replace hG := zgd_some hG
    obtain ⟨g18, hG⟩ := hG
    replace hG := zbnd hG
    obtain ⟨X16, e17, hG⟩ := hG
    replace hX := fr_W hX (i := 10) rfl e17
    replace hG := zbnd hG
    obtain ⟨p20, e21, hG⟩ := hG
    replace hX := fr_T hX (fr_M rfl rfl (w199 e21))
    replace hG := zgd_some hG
    obtain ⟨g24, hG⟩ := hG
    replace hG := zbnd hG
    obtain ⟨X22, e23, hG⟩ := hG
    replace hX := fr_W hX (i := 11) rfl e23
    replace hG := zgd_some hG
    obtain ⟨g28, hG⟩ := hG
    replace hG := zbnd hG
    obtain ⟨X26, e27, hG⟩ := hG
    replace hX := fr_W hX (i := 12) rfl e27
    replace hG := zgd_some hG
    obtain ⟨g32, hG⟩ := hG
    replace hG := zbnd hG
    obtain ⟨X30, e31, hG⟩ := hG
    replace hX := fr_W hX (i := 16) rfl e31
    replace hG := zbnd hG
    obtain ⟨x34, e35, hG⟩ := hG
    by_cases c36 : x34 = (-1)
    · rw [if_pos c36] at hG
      exact fr_T hX (wb226_131  hG)
    · rw [if_neg c36] at hG
      exact fr_T hX (wb226_131  hG)
  · rw [if_neg c11] at hG
    replace hG := Option.some.inj hG
    subst hG
    exact hX
set_option maxRecDepth 20000 in
theorem w226 {n : Nat}  {X : zX} {p : Unit × zX} (hG : g226 n  X = some p) : fr 131949560359244422709248 286500993379153214990 X p.2 := by
  unfold g226 at hG
  have hX : fr 131949560359244422709248 286500993379153214990 X X := fr_R
  replace hG := zbnd hG
  obtain ⟨x2, e3, hG⟩ := hG
  by_cases c4 : x2 = 24
  · rw [if_pos c4] at hG
    replace hG := zbnd hG
    obtain ⟨p5, e6, hG⟩ := hG
    replace hX := fr_T hX (fr_M rfl rfl (w195 e6))
    exact fr_T hX (wb226_19  hG)
  · rw [if_neg c4] at hG
    exact fr_T hX (wb226_19  hG)
set_option maxRecDepth 20000 in
theorem wb236_153 {n : Nat}   {l1 : Int32} {l2 : Int32} {l3 : Int32} {l4 : Int32} {X : zX} {p : Unit × zX} (hG : gb236_153 n  l1 l2 l3 l4 X = some p) : fr 18612764770372937580544 562915593682958 X p.2 := by
  unfold gb236_153 at hG
  have hX : fr 18612764770372937580544 562915593682958 X X := fr_R
  replace hG := zbnd hG
  obtain ⟨p1, e2, hG⟩ := hG
  replace hX := fr_T hX (fr_M rfl rfl (w208 e2))
  replace hG := Option.some.inj hG
  subst hG
  exact hX
set_option maxRecDepth 20000 in
theorem wb236_88 {n : Nat}   {l1 : Int32} {l2 : Int32} {l3 : Int32} {l4 : Int32} {X : zX} {p : Unit × zX} (hG : gb236_88 n  l1 l2 l3 l4 X = some p) : fr 18612764770372937580544 562915593682958 X p.2 := by
  unfold gb236_88 at hG
  have hX : fr 18612764770372937580544 562915593682958 X X := fr_R
  by_cases c1 : (X.1 73) = (-1)
  · rw [if_pos c1] at hG
    replace hG := zbnd hG
    obtain ⟨x3, e4, hG⟩ := hG
    replace hG := zgd_some hG
    obtain ⟨g8, hG⟩ := hG
    replace hG := zbnd hG
    obtain ⟨X6, e7, hG⟩ := hG
    replace hX := fr_W hX (i := 36) rfl e7
    replace hG := zgd_some hG
    obtain ⟨g12, hG⟩ := hG
    replace hG := zbnd hG
    obtain ⟨X10, e11, hG⟩ := hG
    replace hX := fr_W hX (i := 37) rfl e11
    replace hG := zgd_some hG
    obtain ⟨g16, hG⟩ := hG
    replace hG := zbnd hG
    obtain ⟨X14, e15, hG⟩ := hG
    replace hX := fr_W hX (i := 38) rfl e15
    replace hG := zbnd hG
    obtain ⟨x18, e19, hG⟩ := hG
    replace hG := zgd_some hG
    obtain ⟨g22, hG⟩ := hG
    replace hG := zbnd hG
    obtain ⟨X20, e21, hG⟩ := hG
    replace hX := fr_W hX (i := 35) rfl e21
    exact fr_T hX (wb236_153  hG)
  · rw [if_neg c1] at hG
    exact fr_T hX (wb236_153  hG)
set_option maxRecDepth 20000 in
theorem wb236_86 {n : Nat}   {l1 : Int32} {l2 : Int32} {l3 : Int32} {l4 : Int32} {s0 : Int32} {X : zX} {p : Unit × zX} (hG : gb236_86 n  l1 l2 l3 l4 s0 X = some p) : fr 18612764770372937580544 562915593682958 X p.2 := by
  unfold gb236_86 at hG
  have hX : fr 18612764770372937580544 562915593682958 X X := fr_R
  exact fr_T hX (wb236_88  hG)
set_option maxRecDepth 20000 in
theorem wb236_19 {n : Nat}   {l1 : Int32} {l2 : Int32} {X : zX} {p : Unit × zX} (hG : gb236_19 n  l1 l2 X = some p) : fr 18612764770372937580544 562915593682958 X p.2 := by
  unfold gb236_19 at hG
  have hX : fr 18612764770372937580544 562915593682958 X X := fr_R
  replace hG := zbnd hG
  obtain ⟨p1, e2, hG⟩ := hG
  replace hX := fr_T hX (fr_M rfl rfl (w190 e2))
  replace hG := zbnd hG
  obtain ⟨x5, e6, hG⟩ := hG
  replace hG := zbnd hG
  obtain ⟨p7, e8, hG⟩ := hG
  replace hX := fr_T hX (fr_M rfl rfl (w216 e8))
  by_cases c9 : l2 = 0
  · rw [if_pos c9] at hG
    exact fr_T hX (wb236_88  hG)
  · rw [if_neg c9] at hG
    replace hG := zbnd hG
    obtain ⟨p10, e11, hG⟩ := hG
    replace hX := fr_T hX (fr_M rfl rfl (w208 e11))
    by_cases c12 : (p10.2.1 73) = (-1)
    · rw [if_pos c12] at hG
      replace hG := zbnd hG
      obtain ⟨p13, e14, hG⟩ := hG
      replace hX := fr_T hX (fr_M rfl rfl (w229 e14))
      exact fr_T hX (wb236_86  hG)
    · rw [if_neg c12] at hG
      exact fr_T hX (wb236_86  hG)
set_option maxRecDepth 20000 in
theorem w236 {n : Nat} {y1 : Int32} {y2 : Int32} {X : zX} {p : Unit × zX} (hG : g236 n y1 y2 X = some p) : fr 18612764770372937580544 562915593682958 X p.2 := by
  unfold g236 at hG
  have hX : fr 18612764770372937580544 562915593682958 X X := fr_R
  replace hG := zbnd hG
  obtain ⟨x2, e3, hG⟩ := hG
  by_cases c4 : x2 = 40
  · rw [if_pos c4] at hG
    replace hG := zbnd hG
    obtain ⟨p5, e6, hG⟩ := hG
    replace hX := fr_T hX (fr_M rfl rfl (w195 e6))
    exact fr_T hX (wb236_19  hG)
  · rw [if_neg c4] at hG
    exact fr_T hX (wb236_19  hG)
set_option maxRecDepth 20000 in
theorem wb235_241 {n : Nat}   {l1 : Int32} {l2 : Int32} {l3 : Int32} {l4 : Int32} {X : zX} {p : Unit × zX} (hG : gb235_241 n  l1 l2 l3 l4 X = some p) : fr 131949560359244422709248 286500993894767919118 X p.2 := by
  unfold gb235_241 at hG
  have hX : fr 131949560359244422709248 286500993894767919118 X X := fr_R
  replace hG := zbnd hG
  obtain ⟨p1, e2, hG⟩ := hG
  replace hX := fr_T hX (fr_M rfl rfl (w208 e2))
  replace hG := Option.some.inj hG
  subst hG
  exact hX
set_option maxRecDepth 20000 in
theorem wb235_220 {n : Nat} {q168 : Int32 → Int32 → Int32 → Int32 → zX → Option (Unit × zX)} (hr168 : ∀ {l1 : Int32} {l2 : Int32} {l3 : Int32} {l4 : Int32} {X : zX} {p : Unit × zX}, q168 l1 l2 l3 l4 X = some p → fr 131949560359244422709248 286500993894767919118 X p.2) {l1 : Int32} {l2 : Int32} {l3 : Int32} {l4 : Int32} {X : zX} {p : Unit × zX} (hG : gb235_220 n q168 l1 l2 l3 l4 X = some p) : fr 131949560359244422709248 286500993894767919118 X p.2 := by
  unfold gb235_220 at hG
  have hX : fr 131949560359244422709248 286500993894767919118 X X := fr_R
  replace hG := zbnd hG
  obtain ⟨p1, e2, hG⟩ := hG
  replace hX := fr_T hX (fr_M rfl rfl (w213 e2))
  replace hG := zbnd hG
  obtain ⟨p3, e4, hG⟩ := hG
  replace hX := fr_T hX (fr_M rfl rfl (w236 e4))
  exact fr_T hX (hr168 hG)
set_option maxRecDepth 20000 in
theorem wb235_168 {n : Nat} {q168 : Int32 → Int32 → Int32 → Int32 → zX → Option (Unit × zX)} (hr168 : ∀ {l1 : Int32} {l2 : Int32} {l3 : Int32} {l4 : Int32} {X : zX} {p : Unit × zX}, q168 l1 l2 l3 l4 X = some p → fr 131949560359244422709248 286500993894767919118 X p.2) {l1 : Int32} {l2 : Int32} {l3 : Int32} {l4 : Int32} {X : zX} {p : Unit × zX} (hG : gb235_168 n q168 l1 l2 l3 l4 X = some p) : fr 131949560359244422709248 286500993894767919118 X p.2 := by
  unfold gb235_168 at hG
  have hX : fr 131949560359244422709248 286500993894767919118 X X := fr_R
  by_cases c1 : l4 = 0
  · rw [if_pos c1] at hG
    exact fr_T hX (wb235_241  hG)
  · rw [if_neg c1] at hG
    by_cases c2 : (X.1 73) = (-1)
    · rw [if_pos c2] at hG
      replace hG := zbnd hG
      obtain ⟨p3, e4, hG⟩ := hG
      replace hX := fr_T hX (fr_M rfl rfl (w213 e4))
      by_cases c5 : p3.1 = 0
      · rw [if_pos c5] at hG
        replace hG := zbnd hG
        obtain ⟨p6, e7, hG⟩ := hG
        replace hX := fr_T hX (fr_M rfl rfl (w213 e7))
        by_cases c8 : p6.1 = 0
        · rw [if_pos c8] at hG
          replace hG := zbnd hG
          obtain ⟨p9, e10, hG⟩ := hG
          replace hX := fr_T hX (fr_M rfl rfl (w213 e10))
          by_cases c11 : p9.1 = 0
          · rw [if_pos c11] at hG
            exact fr_T hX (hr168 hG)
          · rw [if_neg c11] at hG
            exact fr_T hX (wb235_220 hr168 hG)
        · rw [if_neg c8] at hG
          exact fr_T hX (wb235_220 hr168 hG)
      · rw [if_neg c5] at hG
        replace hG := zbnd hG
        obtain ⟨p12, e13, hG⟩ := hG
        replace hX := fr_T hX (fr_M rfl rfl (w234 e13))
        exact fr_T hX (hr168 hG)
    · rw [if_neg c2] at hG
      exact fr_T hX (wb235_241  hG)
theorem wf235_168 {n : Nat}   (k : Nat) : ∀ {l1 : Int32} {l2 : Int32} {l3 : Int32} {l4 : Int32} {X : zX} {p : Unit × zX}, gf235_168 n  k l1 l2 l3 l4 X = some p → fr 131949560359244422709248 286500993894767919118 X p.2 := by
  induction k with
  | zero => intros; rename_i hG; cases hG
  | succ k ih => intros; rename_i hG; exact wb235_168 (n := n) (q168 := gf235_168 n  k) ih hG
set_option maxRecDepth 20000 in
theorem wb235_97 {n : Nat}   {l1 : Int32} {l2 : Int32} {X : zX} {p : Unit × zX} (hG : gb235_97 n  l1 l2 X = some p) : fr 131949560359244422709248 286500993894767919118 X p.2 := by
  unfold gb235_97 at hG
  have hX : fr 131949560359244422709248 286500993894767919118 X X := fr_R
  replace hG := zbnd hG
  obtain ⟨p1, e2, hG⟩ := hG
  replace hX := fr_T hX (fr_M rfl rfl (w208 e2))
  by_cases c3 : (p1.2.1 73) = (-1)
  · rw [if_pos c3] at hG
    replace hG := zbnd hG
    obtain ⟨x5, e6, hG⟩ := hG
    replace hG := zgd_some hG
    obtain ⟨g10, hG⟩ := hG
    replace hG := zbnd hG
    obtain ⟨X8, e9, hG⟩ := hG
    replace hX := fr_W hX (i := 26) rfl e9
    replace hG := zgd_some hG
    obtain ⟨g14, hG⟩ := hG
    replace hG := zbnd hG
    obtain ⟨X12, e13, hG⟩ := hG
    replace hX := fr_W hX (i := 27) rfl e13
    replace hG := zbnd hG
    obtain ⟨x16, e17, hG⟩ := hG
    replace hG := zgd_some hG
    obtain ⟨g20, hG⟩ := hG
    replace hG := zbnd hG
    obtain ⟨X18, e19, hG⟩ := hG
    replace hX := fr_W hX (i := 25) rfl e19
    exact fr_T hX (wf235_168  n hG)
  · rw [if_neg c3] at hG
    replace hG := Option.some.inj hG
    subst hG
    exact hX
set_option maxRecDepth 20000 in
theorem wb235_19 {n : Nat}    {X : zX} {p : Unit × zX} (hG : gb235_19 n   X = some p) : fr 131949560359244422709248 286500993894767919118 X p.2 := by
  unfold gb235_19 at hG
  have hX : fr 131949560359244422709248 286500993894767919118 X X := fr_R
  replace hG := zbnd hG
  obtain ⟨p1, e2, hG⟩ := hG
  replace hX := fr_T hX (fr_M rfl rfl (w190 e2))
  replace hG := zbnd hG
  obtain ⟨x5, e6, hG⟩ := hG
  replace hG := zbnd hG
  obtain ⟨p7, e8, hG⟩ := hG
  replace hX := fr_T hX (fr_M rfl rfl (w202 e8))
  by_cases c9 : (p7.2.1 73) = (-1)
  · rw [if_pos c9] at hG
    replace hG := zbnd hG
    obtain ⟨p10, e11, hG⟩ := hG
    replace hX := fr_T hX (fr_M rfl rfl (w213 e11))
    by_cases c12 : p10.1 = 0
    · rw [if_pos c12] at hG
      exact fr_T hX (wb235_97  hG)
    · rw [if_neg c12] at hG
      replace hG := zbnd hG
      obtain ⟨p13, e14, hG⟩ := hG
      replace hX := fr_T hX (fr_M rfl rfl (w190 e14))
      replace hG := zbnd hG
      obtain ⟨x17, e18, hG⟩ := hG
      replace hG := zbnd hG
      obtain ⟨p19, e20, hG⟩ := hG
      replace hX := fr_T hX (fr_M rfl rfl (w216 e20))
      exact fr_T hX (wb235_97  hG)
  · rw [if_neg c9] at hG
    exact fr_T hX (wb235_97  hG)
set_option maxRecDepth 20000 in
theorem w235 {n : Nat}  {X : zX} {p : Unit × zX} (hG : g235 n  X = some p) : fr 131949560359244422709248 286500993894767919118 X p.2 := by
  unfold g235 at hG
  have hX : fr 131949560359244422709248 286500993894767919118 X X := fr_R
  replace hG := zbnd hG
  obtain ⟨x2, e3, hG⟩ := hG
  by_cases c4 : x2 = 8
  · rw [if_pos c4] at hG
    replace hG := zbnd hG
    obtain ⟨p5, e6, hG⟩ := hG
    replace hX := fr_T hX (fr_M rfl rfl (w195 e6))
    exact fr_T hX (wb235_19  hG)
  · rw [if_neg c4] at hG
    exact fr_T hX (wb235_19  hG)
set_option maxRecDepth 20000 in
theorem wb238_71 {n : Nat} {q24 : Int32 → Int32 → Int32 → Int32 → zX → Option (Int32 × zX)} (hr24 : ∀ {l1 : Int32} {l2 : Int32} {l3 : Int32} {l4 : Int32} {X : zX} {p : Int32 × zX}, q24 l1 l2 l3 l4 X = some p → fr 0 0 X p.2) {l1 : Int32} {l2 : Int32} {l3 : Int32} {l4 : Int32} {s0 : Int32} {X : zX} {p : Int32 × zX} (hG : gb238_71 n q24 l1 l2 l3 l4 s0 X = some p) : fr 0 0 X p.2 := by
  unfold gb238_71 at hG
  have hX : fr 0 0 X X := fr_R
  exact fr_T hX (hr24 hG)
set_option maxRecDepth 20000 in
theorem wb238_24 {n : Nat} {q24 : Int32 → Int32 → Int32 → Int32 → zX → Option (Int32 × zX)} (hr24 : ∀ {l1 : Int32} {l2 : Int32} {l3 : Int32} {l4 : Int32} {X : zX} {p : Int32 × zX}, q24 l1 l2 l3 l4 X = some p → fr 0 0 X p.2) {l1 : Int32} {l2 : Int32} {l3 : Int32} {l4 : Int32} {X : zX} {p : Int32 × zX} (hG : gb238_24 n q24 l1 l2 l3 l4 X = some p) : fr 0 0 X p.2 := by
  unfold gb238_24 at hG
  have hX : fr 0 0 X X := fr_R
  replace hG := zbnd hG
  obtain ⟨x2, e3, hG⟩ := hG
  by_cases c4 : x2 ≤ l4
  · rw [if_pos c4] at hG
    replace hG := zgd_some hG
    obtain ⟨g5, hG⟩ := hG
    replace hG := Option.some.inj hG
    subst hG
    exact hX
  · rw [if_neg c4] at hG
    by_cases c6 : l3 = 0
    · rw [if_pos c6] at hG
      replace hG := zgd_some hG
      obtain ⟨g7, hG⟩ := hG
      replace hG := Option.some.inj hG
      subst hG
      exact hX
    · rw [if_neg c6] at hG
      replace hG := zbnd hG
      obtain ⟨x9, e10, hG⟩ := hG
      replace hG := zbnd hG
      obtain ⟨x12, e13, hG⟩ := hG
      by_cases c14 : x9 = x12
      · rw [if_pos c14] at hG
        exact fr_T hX (wb238_71 hr24 hG)
      · rw [if_neg c14] at hG
        exact fr_T hX (wb238_71 hr24 hG)
theorem wf238_24 {n : Nat}   (k : Nat) : ∀ {l1 : Int32} {l2 : Int32} {l3 : Int32} {l4 : Int32} {X : zX} {p : Int32 × zX}, gf238_24 n  k l1 l2 l3 l4 X = some p → fr 0 0 X p.2 := by
  induction k with
  | zero => intros; rename_i hG; cases hG
  | succ k ih => intros; rename_i hG; exact wb238_24 (n := n) (q24 := gf238_24 n  k) ih hG
set_option maxRecDepth 20000 in
theorem wb238_20 {n : Nat}   {l1 : Int32} {l2 : Int32} {s0 : Int32} {X : zX} {p : Int32 × zX} (hG : gb238_20 n  l1 l2 s0 X = some p) : fr 0 0 X p.2 := by
  unfold gb238_20 at hG
  have hX : fr 0 0 X X := fr_R
  exact fr_T hX (wf238_24  n hG)
set_option maxRecDepth 20000 in
theorem w238 {n : Nat} {y1 : Int32} {y2 : Int32} {X : zX} {p : Int32 × zX} (hG : g238 n y1 y2 X = some p) : fr 0 0 X p.2 := by
  unfold g238 at hG
  have hX : fr 0 0 X X := fr_R
  replace hG := zbnd hG
  obtain ⟨x2, e3, hG⟩ := hG
  replace hG := zbnd hG
  obtain ⟨x5, e6, hG⟩ := hG
  by_cases c7 : x2 = x5
  · rw [if_pos c7] at hG
    exact fr_T hX (wb238_20  hG)
  · rw [if_neg c7] at hG
    exact fr_T hX (wb238_20  hG)
set_option maxRecDepth 20000 in
theorem wb237_311 {n : Nat} {q2 : Int32 → zX → Option (Unit × zX)} (hr2 : ∀ {l1 : Int32} {X : zX} {p : Unit × zX}, q2 l1 X = some p → fr 9463179709812999979008 17301504 X p.2) {l1 : Int32} {l2 : Int32} {X : zX} {p : Unit × zX} (hG : gb237_311 n q2 l1 l2 X = some p) : fr 9463179709812999979008 17301504 X p.2 := by
  unfold gb237_311 at hG
  have hX : fr 9463179709812999979008 17301504 X X := fr_R
  exact fr_T hX (hr2 hG)
set_option maxRecDepth 20000 in
theorem wb237_140 {n : Nat}   {l1 : Int32} {l2 : Int32} {l3 : Int32} {l4 : Int32} {l5 : Int32} {X : zX} {p : Unit × zX} (hG : gb237_140 n  l1 l2 l3 l4 l5 X = some p) : fr 9463179709812999979008 17301504 X p.2 := by
  unfold gb237_140 at hG
  have hX : fr 9463179709812999979008 17301504 X X := fr_R
  replace hG := zbnd hG
  obtain ⟨x2, e3, hG⟩ := hG
  replace hG := zbnd hG
  obtain ⟨p4, e5, hG⟩ := hG
  replace hX := fr_T hX (fr_M rfl rfl (w196 e5))
  replace hG := Option.some.inj hG
  subst hG
  exact hX
set_option maxRecDepth 20000 in
theorem wb237_285 {n : Nat}   {l1 : Int32} {l2 : Int32} {l3 : Int32} {l4 : Int32} {l5 : Int32} {X : zX} {p : Unit × zX} (hG : gb237_285 n  l1 l2 l3 l4 l5 X = some p) : fr 9463179709812999979008 17301504 X p.2 := by
  unfold gb237_285 at hG
  have hX : fr 9463179709812999979008 17301504 X X := fr_R
  replace hG := zbnd hG
  obtain ⟨x2, e3, hG⟩ := hG
  replace hG := zbnd hG
  obtain ⟨p4, e5, hG⟩ := hG
  replace hX := fr_T hX (fr_M rfl rfl (w196 e5))
  replace hG := Option.some.inj hG
  subst hG
  exact hX
set_option maxRecDepth 20000 in
theorem wb237_297 {n : Nat} {q2 : Int32 → zX → Option (Unit × zX)} {q17 : Int32 → Int32 → zX → Option (Unit × zX)} (hr2 : ∀ {l1 : Int32} {X : zX} {p : Unit × zX}, q2 l1 X = some p → fr 9463179709812999979008 17301504 X p.2) (hr17 : ∀ {l1 : Int32} {l2 : Int32} {X : zX} {p : Unit × zX}, q17 l1 l2 X = some p → fr 9463179709812999979008 17301504 X p.2) {l1 : Int32} {l2 : Int32} {l3 : Int32} {l4 : Int32} {l5 : Int32} {X : zX} {p : Unit × zX} (hG : gb237_297 n q2 q17 l1 l2 l3 l4 l5 X = some p) : fr 9463179709812999979008 17301504 X p.2 := by
  unfold gb237_297 at hG
  have hX : fr 9463179709812999979008 17301504 X X := fr_R
  replace hG := zgd_some hG
  obtain ⟨g4, hG⟩ := hG
  replace hG := zbnd hG
  obtain ⟨X2, e3, hG⟩ := hG
  replace hX := fr_W hX (i := 24) rfl e3
  exact fr_T hX (hr17 hG)
set_option maxRecDepth 20000 in
theorem wb237_245 {n : Nat} {q2 : Int32 → zX → Option (Unit × zX)} {q17 : Int32 → Int32 → zX → Option (Unit × zX)} (hr2 : ∀ {l1 : Int32} {X : zX} {p : Unit × zX}, q2 l1 X = some p → fr 9463179709812999979008 17301504 X p.2) (hr17 : ∀ {l1 : Int32} {l2 : Int32} {X : zX} {p : Unit × zX}, q17 l1 l2 X = some p → fr 9463179709812999979008 17301504 X p.2) {l1 : Int32} {l2 : Int32} {l3 : Int32} {l4 : Int32} {l5 : Int32} {X : zX} {p : Unit × zX} (hG : gb237_245 n q2 q17 l1 l2 l3 l4 l5 X = some p) : fr 9463179709812999979008 17301504 X p.2 := by
  unfold gb237_245 at hG
  have hX : fr 9463179709812999979008 17301504 X X := fr_R
  replace hG := zbnd hG
  obtain ⟨x2, e3, hG⟩ := hG
  replace hG := zbnd hG
  obtain ⟨x5, e6, hG⟩ := hG
  by_cases c7 : x2 = x5
  · rw [if_pos c7] at hG
    replace hG := zbnd hG
    obtain ⟨x9, e10, hG⟩ := hG
    by_cases c11 : x9 = 2
    · rw [if_pos c11] at hG
      by_cases c12 : l5 = (-1)
      · rw [if_pos c12] at hG
        exact fr_T hX (wb237_285  hG)
      · rw [if_neg c12] at hG
        exact fr_T hX (wb237_297 hr2 hr17 hG)
    · rw [if_neg c11] at hG
      exact fr_T hX (wb237_297 hr2 hr17 hG)
  · rw [if_neg c7] at hG
    exact fr_T hX (wb237_285  hG)
set_option maxRecDepth 20000 in
theorem wb237_237 {n : Nat} {q2 : Int32 → zX → Option (Unit × zX)} {q17 : Int32 → Int32 → zX → Option (Unit × zX)} {q176 : Int32 → Int32 → Int32 → Int32 → Int32 → Int32 → zX → Option (Unit × zX)} (hr2 : ∀ {l1 : Int32} {X : zX} {p : Unit × zX}, q2 l1 X = some p → fr 9463179709812999979008 17301504 X p.2) (hr17 : ∀ {l1 : Int32} {l2 : Int32} {X : zX} {p : Unit × zX}, q17 l1 l2 X = some p → fr 9463179709812999979008 17301504 X p.2) (hr176 : ∀ {l1 : Int32} {l2 : Int32} {l3 : Int32} {l4 : Int32} {l5 : Int32} {l6 : Int32} {X : zX} {p : Unit × zX}, q176 l1 l2 l3 l4 l5 l6 X = some p → fr 9463179709812999979008 17301504 X p.2) {l1 : Int32} {l2 : Int32} {l3 : Int32} {l4 : Int32} {l5 : Int32} {l6 : Int32} {s0 : Int32} {X : zX} {p : Unit × zX} (hG : gb237_237 n q2 q17 q176 l1 l2 l3 l4 l5 l6 s0 X = some p) : fr 9463179709812999979008 17301504 X p.2 := by
  unfold gb237_237 at hG
  have hX : fr 9463179709812999979008 17301504 X X := fr_R
  exact fr_T hX (hr176 hG)
set_option maxRecDepth 20000 in
theorem wb237_176 {n : Nat} {q2 : Int32 → zX → Option (Unit × zX)} {q17 : Int32 → Int32 → zX → Option (Unit × zX)} {q176 : Int32 → Int32 → Int32 → Int32 → Int32 → Int32 → zX → Option (Unit × zX)} (hr2 : ∀ {l1 : Int32} {X : zX} {p : Unit × zX}, q2 l1 X = some p → fr 9463179709812999979008 17301504 X p.2) (hr17 : ∀ {l1 : Int32} {l2 : Int32} {X : zX} {p : Unit × zX}, q17 l1 l2 X = some p → fr 9463179709812999979008 17301504 X p.2) (hr176 : ∀ {l1 : Int32} {l2 : Int32} {l3 : Int32} {l4 : Int32} {l5 : Int32} {l6 : Int32} {X : zX} {p : Unit × zX}, q176 l1 l2 l3 l4 l5 l6 X = some p → fr 9463179709812999979008 17301504 X p.2) {l1 : Int32} {l2 : Int32} {l3 : Int32} {l4 : Int32} {l5 : Int32} {l6 : Int32} {X : zX} {p : Unit × zX} (hG : gb237_176 n q2 q17 q176 l1 l2 l3 l4 l5 l6 X = some p) : fr 9463179709812999979008 17301504 X p.2 := by
  unfold gb237_176 at hG
  have hX : fr 9463179709812999979008 17301504 X X := fr_R
  replace hG := zbnd hG
  obtain ⟨x2, e3, hG⟩ := hG
  by_cases c4 : x2 ≤ l6
  · rw [if_pos c4] at hG
    exact fr_T hX (wb237_245 hr2 hr17 hG)
  · rw [if_neg c4] at hG
    replace hG := zbnd hG
    obtain ⟨x6, e7, hG⟩ := hG
    replace hG := zbnd hG
    obtain ⟨x9, e10, hG⟩ := hG
    replace hG := zbnd hG
    obtain ⟨p11, e12, hG⟩ := hG
    replace hX := fr_T hX (fr_M rfl rfl (w238 e12))
    by_cases c13 : p11.1 = 0
    · rw [if_pos c13] at hG
      exact fr_T hX (wb237_237 hr2 hr17 hr176 hG)
    · rw [if_neg c13] at hG
      exact fr_T hX (wb237_237 hr2 hr17 hr176 hG)
theorem wf237_176 {n : Nat} {q2 : Int32 → zX → Option (Unit × zX)} {q17 : Int32 → Int32 → zX → Option (Unit × zX)} (hr2 : ∀ {l1 : Int32} {X : zX} {p : Unit × zX}, q2 l1 X = some p → fr 9463179709812999979008 17301504 X p.2) (hr17 : ∀ {l1 : Int32} {l2 : Int32} {X : zX} {p : Unit × zX}, q17 l1 l2 X = some p → fr 9463179709812999979008 17301504 X p.2) (k : Nat) : ∀ {l1 : Int32} {l2 : Int32} {l3 : Int32} {l4 : Int32} {l5 : Int32} {l6 : Int32} {X : zX} {p : Unit × zX}, gf237_176 n q2 q17 k l1 l2 l3 l4 l5 l6 X = some p → fr 9463179709812999979008 17301504 X p.2 := by
  induction k with
  | zero => intros; rename_i hG; cases hG
  | succ k ih => intros; rename_i hG; exact wb237_176 (n := n) (q2 := q2) (q17 := q17) (q176 := gf237_176 n q2 q17 k) hr2 hr17 ih hG
set_option maxRecDepth 20000 in
theorem wb237_112 {n : Nat} {q2 : Int32 → zX → Option (Unit × zX)} {q17 : Int32 → Int32 → zX → Option (Unit × zX)} {q63 : Int32 → Int32 → Int32 → Int32 → Int32 → zX → Option (Unit × zX)} (hr2 : ∀ {l1 : Int32} {X : zX} {p : Unit × zX}, q2 l1 X = some p → fr 9463179709812999979008 17301504 X p.2) (hr17 : ∀ {l1 : Int32} {l2 : Int32} {X : zX} {p : Unit × zX}, q17 l1 l2 X = some p → fr 9463179709812999979008 17301504 X p.2) (hr63 : ∀ {l1 : Int32} {l2 : Int32} {l3 : Int32} {l4 : Int32} {l5 : Int32} {X : zX} {p : Unit × zX}, q63 l1 l2 l3 l4 l5 X = some p → fr 9463179709812999979008 17301504 X p.2) {l1 : Int32} {l2 : Int32} {l3 : Int32} {l4 : Int32} {l5 : Int32} {s0 : Int32} {X : zX} {p : Unit × zX} (hG : gb237_112 n q2 q17 q63 l1 l2 l3 l4 l5 s0 X = some p) : fr 9463179709812999979008 17301504 X p.2 := by
  unfold gb237_112 at hG
  have hX : fr 9463179709812999979008 17301504 X X := fr_R
  exact fr_T hX (hr63 hG)
set_option maxRecDepth 20000 in
theorem wb237_63 {n : Nat} {q2 : Int32 → zX → Option (Unit × zX)} {q17 : Int32 → Int32 → zX → Option (Unit × zX)} {q63 : Int32 → Int32 → Int32 → Int32 → Int32 → zX → Option (Unit × zX)} (hr2 : ∀ {l1 : Int32} {X : zX} {p : Unit × zX}, q2 l1 X = some p → fr 9463179709812999979008 17301504 X p.2) (hr17 : ∀ {l1 : Int32} {l2 : Int32} {X : zX} {p : Unit × zX}, q17 l1 l2 X = some p → fr 9463179709812999979008 17301504 X p.2) (hr63 : ∀ {l1 : Int32} {l2 : Int32} {l3 : Int32} {l4 : Int32} {l5 : Int32} {X : zX} {p : Unit × zX}, q63 l1 l2 l3 l4 l5 X = some p → fr 9463179709812999979008 17301504 X p.2) {l1 : Int32} {l2 : Int32} {l3 : Int32} {l4 : Int32} {l5 : Int32} {X : zX} {p : Unit × zX} (hG : gb237_63 n q2 q17 q63 l1 l2 l3 l4 l5 X = some p) : fr 9463179709812999979008 17301504 X p.2 := by
  unfold gb237_63 at hG
  have hX : fr 9463179709812999979008 17301504 X X := fr_R
  replace hG := zbnd hG
  obtain ⟨x2, e3, hG⟩ := hG
  by_cases c4 : x2 ≤ l5
  · rw [if_pos c4] at hG
    replace hG := zgd_some hG
    obtain ⟨g8, hG⟩ := hG
    replace hG := zbnd hG
    obtain ⟨X6, e7, hG⟩ := hG
    replace hX := fr_W hX (i := 19) rfl e7
    by_cases c9 : l4 = (-1)
    · rw [if_pos c9] at hG
      exact fr_T hX (wb237_140  hG)
    · rw [if_neg c9] at hG
      by_cases c10 : l4 = l1
      · rw [if_pos c10] at hG
        exact fr_T hX (wb237_140  hG)
      · rw [if_neg c10] at hG
        replace hG := zbnd hG
        obtain ⟨x12, e13, hG⟩ := hG
        replace hG := zbnd hG
        obtain ⟨x15, e16, hG⟩ := hG
        by_cases c17 : x15 = 2
        · rw [if_pos c17] at hG
          exact fr_T hX (wf237_176 hr2 hr17 n hG)
        · rw [if_neg c17] at hG
          exact fr_T hX (wb237_245 hr2 hr17 hG)
  · rw [if_neg c4] at hG
    replace hG := zbnd hG
    obtain ⟨x19, e20, hG⟩ := hG
    replace hG := zbnd hG
    obtain ⟨x22, e23, hG⟩ := hG
    replace hG := zbnd hG
    obtain ⟨p24, e25, hG⟩ := hG
    replace hX := fr_T hX (fr_M rfl rfl (w238 e25))
    by_cases c26 : p24.1 = 0
    · rw [if_pos c26] at hG
      exact fr_T hX (wb237_112 hr2 hr17 hr63 hG)
    · rw [if_neg c26] at hG
      exact fr_T hX (wb237_112 hr2 hr17 hr63 hG)
theorem wf237_63 {n : Nat} {q2 : Int32 → zX → Option (Unit × zX)} {q17 : Int32 → Int32 → zX → Option (Unit × zX)} (hr2 : ∀ {l1 : Int32} {X : zX} {p : Unit × zX}, q2 l1 X = some p → fr 9463179709812999979008 17301504 X p.2) (hr17 : ∀ {l1 : Int32} {l2 : Int32} {X : zX} {p : Unit × zX}, q17 l1 l2 X = some p → fr 9463179709812999979008 17301504 X p.2) (k : Nat) : ∀ {l1 : Int32} {l2 : Int32} {l3 : Int32} {l4 : Int32} {l5 : Int32} {X : zX} {p : Unit × zX}, gf237_63 n q2 q17 k l1 l2 l3 l4 l5 X = some p → fr 9463179709812999979008 17301504 X p.2 := by
  induction k with
  | zero => intros; rename_i hG; cases hG
  | succ k ih => intros; rename_i hG; exact wb237_63 (n := n) (q2 := q2) (q17 := q17) (q63 := gf237_63 n q2 q17 k) hr2 hr17 ih hG
set_option maxRecDepth 20000 in
theorem wb237_17 {n : Nat} {q2 : Int32 → zX → Option (Unit × zX)} {q17 : Int32 → Int32 → zX → Option (Unit × zX)} (hr2 : ∀ {l1 : Int32} {X : zX} {p : Unit × zX}, q2 l1 X = some p → fr 9463179709812999979008 17301504 X p.2) (hr17 : ∀ {l1 : Int32} {l2 : Int32} {X : zX} {p : Unit × zX}, q17 l1 l2 X = some p → fr 9463179709812999979008 17301504 X p.2) {l1 : Int32} {l2 : Int32} {X : zX} {p : Unit × zX} (hG : gb237_17 n q2 q17 l1 l2 X = some p) : fr 9463179709812999979008 17301504 X p.2 := by
  unfold gb237_17 at hG
  have hX : fr 9463179709812999979008 17301504 X X := fr_R
  replace hG := zbnd hG
  obtain ⟨x2, e3, hG⟩ := hG
  by_cases c4 : x2 ≤ l2
  · rw [if_pos c4] at hG
    exact fr_T hX (wb237_311 hr2 hG)
  · rw [if_neg c4] at hG
    by_cases c5 : (X.1 73) = (-1)
    · rw [if_pos c5] at hG
      exact fr_T hX (wf237_63 hr2 hr17 n hG)
    · rw [if_neg c5] at hG
      exact fr_T hX (wb237_311 hr2 hG)
theorem wf237_17 {n : Nat} {q2 : Int32 → zX → Option (Unit × zX)} (hr2 : ∀ {l1 : Int32} {X : zX} {p : Unit × zX}, q2 l1 X = some p → fr 9463179709812999979008 17301504 X p.2) (k : Nat) : ∀ {l1 : Int32} {l2 : Int32} {X : zX} {p : Unit × zX}, gf237_17 n q2 k l1 l2 X = some p → fr 9463179709812999979008 17301504 X p.2 := by
  induction k with
  | zero => intros; rename_i hG; cases hG
  | succ k ih => intros; rename_i hG; exact wb237_17 (n := n) (q2 := q2) (q17 := gf237_17 n q2 k) hr2 ih hG
set_option maxRecDepth 20000 in
theorem wb237_2 {n : Nat} {q2 : Int32 → zX → Option (Unit × zX)} (hr2 : ∀ {l1 : Int32} {X : zX} {p : Unit × zX}, q2 l1 X = some p → fr 9463179709812999979008 17301504 X p.2) {l1 : Int32} {X : zX} {p : Unit × zX} (hG : gb237_2 n q2 l1 X = some p) : fr 9463179709812999979008 17301504 X p.2 := by
  unfold gb237_2 at hG
  have hX : fr 9463179709812999979008 17301504 X X := fr_R
  replace hG := zbnd hG
  obtain ⟨x2, e3, hG⟩ := hG
  by_cases c4 : x2 ≤ l1
  · rw [if_pos c4] at hG
    replace hG := Option.some.inj hG
    subst hG
    exact hX
  · rw [if_neg c4] at hG
    exact fr_T hX (wf237_17 hr2 n hG)
theorem wf237_2 {n : Nat}   (k : Nat) : ∀ {l1 : Int32} {X : zX} {p : Unit × zX}, gf237_2 n  k l1 X = some p → fr 9463179709812999979008 17301504 X p.2 := by
  induction k with
  | zero => intros; rename_i hG; cases hG
  | succ k ih => intros; rename_i hG; exact wb237_2 (n := n) (q2 := gf237_2 n  k) ih hG
set_option maxRecDepth 20000 in
theorem w237 {n : Nat}  {X : zX} {p : Unit × zX} (hG : g237 n  X = some p) : fr 9463179709812999979008 17301504 X p.2 := by
  unfold g237 at hG
  have hX : fr 9463179709812999979008 17301504 X X := fr_R
  exact fr_T hX (wf237_2  n hG)
set_option maxRecDepth 20000 in
theorem wb240_155 {n : Nat} {q80 : Int32 → Int32 → zX → Option (Unit × zX)} {q88 : Int32 → Int32 → Int32 → zX → Option (Unit × zX)} {q101 : Int32 → Int32 → Int32 → Int32 → zX → Option (Unit × zX)} (hr80 : ∀ {l1 : Int32} {l2 : Int32} {X : zX} {p : Unit × zX}, q80 l1 l2 X = some p → fr 0 4611686018427387904 X p.2) (hr88 : ∀ {l1 : Int32} {l2 : Int32} {l3 : Int32} {X : zX} {p : Unit × zX}, q88 l1 l2 l3 X = some p → fr 0 4611686018427387904 X p.2) (hr101 : ∀ {l1 : Int32} {l2 : Int32} {l3 : Int32} {l4 : Int32} {X : zX} {p : Unit × zX}, q101 l1 l2 l3 l4 X = some p → fr 0 4611686018427387904 X p.2) {l1 : Int32} {l2 : Int32} {l3 : Int32} {l4 : Int32} {s0 : Int32} {s1 : Int32} {X : zX} {p : Unit × zX} (hG : gb240_155 n q80 q88 q101 l1 l2 l3 l4 s0 s1 X = some p) : fr 0 4611686018427387904 X p.2 := by
  unfold gb240_155 at hG
  have hX : fr 0 4611686018427387904 X X := fr_R
  replace hG := zbnd hG
  obtain ⟨X1, e2, hG⟩ := hG
  replace hX := fr_W hX (i := 62) rfl e2
  exact fr_T hX (hr101 hG)
set_option maxRecDepth 20000 in
theorem wb240_101 {n : Nat} {q80 : Int32 → Int32 → zX → Option (Unit × zX)} {q88 : Int32 → Int32 → Int32 → zX → Option (Unit × zX)} {q101 : Int32 → Int32 → Int32 → Int32 → zX → Option (Unit × zX)} (hr80 : ∀ {l1 : Int32} {l2 : Int32} {X : zX} {p : Unit × zX}, q80 l1 l2 X = some p → fr 0 4611686018427387904 X p.2) (hr88 : ∀ {l1 : Int32} {l2 : Int32} {l3 : Int32} {X : zX} {p : Unit × zX}, q88 l1 l2 l3 X = some p → fr 0 4611686018427387904 X p.2) (hr101 : ∀ {l1 : Int32} {l2 : Int32} {l3 : Int32} {l4 : Int32} {X : zX} {p : Unit × zX}, q101 l1 l2 l3 l4 X = some p → fr 0 4611686018427387904 X p.2) {l1 : Int32} {l2 : Int32} {l3 : Int32} {l4 : Int32} {X : zX} {p : Unit × zX} (hG : gb240_101 n q80 q88 q101 l1 l2 l3 l4 X = some p) : fr 0 4611686018427387904 X p.2 := by
  unfold gb240_101 at hG
  have hX : fr 0 4611686018427387904 X X := fr_R
  replace hG := zbnd hG
  obtain ⟨x2, e3, hG⟩ := hG
  by_cases c4 : x2 ≤ l4
  · rw [if_pos c4] at hG
    exact fr_T hX (hr88 hG)
  · rw [if_neg c4] at hG
    replace hG := zbnd hG
    obtain ⟨x7, e8, hG⟩ := hG
    by_cases c9 : ((x7 >>> (l4 &&& 31)) &&& 1) = 1
    · rw [if_pos c9] at hG
      replace hG := zbnd hG
      obtain ⟨x11, e12, hG⟩ := hG
      replace hG := zbnd hG
      obtain ⟨x14, e15, hG⟩ := hG
      exact fr_T hX (wb240_155 hr80 hr88 hr101 hG)
    · rw [if_neg c9] at hG
      replace hG := zbnd hG
      obtain ⟨x17, e18, hG⟩ := hG
      exact fr_T hX (wb240_155 hr80 hr88 hr101 hG)
theorem wf240_101 {n : Nat} {q80 : Int32 → Int32 → zX → Option (Unit × zX)} {q88 : Int32 → Int32 → Int32 → zX → Option (Unit × zX)} (hr80 : ∀ {l1 : Int32} {l2 : Int32} {X : zX} {p : Unit × zX}, q80 l1 l2 X = some p → fr 0 4611686018427387904 X p.2) (hr88 : ∀ {l1 : Int32} {l2 : Int32} {l3 : Int32} {X : zX} {p : Unit × zX}, q88 l1 l2 l3 X = some p → fr 0 4611686018427387904 X p.2) (k : Nat) : ∀ {l1 : Int32} {l2 : Int32} {l3 : Int32} {l4 : Int32} {X : zX} {p : Unit × zX}, gf240_101 n q80 q88 k l1 l2 l3 l4 X = some p → fr 0 4611686018427387904 X p.2 := by
  induction k with
  | zero => intros; rename_i hG; cases hG
  | succ k ih => intros; rename_i hG; exact wb240_101 (n := n) (q80 := q80) (q88 := q88) (q101 := gf240_101 n q80 q88 k) hr80 hr88 ih hG
set_option maxRecDepth 20000 in
theorem wb240_88 {n : Nat} {q80 : Int32 → Int32 → zX → Option (Unit × zX)} {q88 : Int32 → Int32 → Int32 → zX → Option (Unit × zX)} (hr80 : ∀ {l1 : Int32} {l2 : Int32} {X : zX} {p : Unit × zX}, q80 l1 l2 X = some p → fr 0 4611686018427387904 X p.2) (hr88 : ∀ {l1 : Int32} {l2 : Int32} {l3 : Int32} {X : zX} {p : Unit × zX}, q88 l1 l2 l3 X = some p → fr 0 4611686018427387904 X p.2) {l1 : Int32} {l2 : Int32} {l3 : Int32} {X : zX} {p : Unit × zX} (hG : gb240_88 n q80 q88 l1 l2 l3 X = some p) : fr 0 4611686018427387904 X p.2 := by
  unfold gb240_88 at hG
  have hX : fr 0 4611686018427387904 X X := fr_R
  replace hG := zbnd hG
  obtain ⟨x2, e3, hG⟩ := hG
  by_cases c4 : x2 ≤ l3
  · rw [if_pos c4] at hG
    exact fr_T hX (hr80 hG)
  · rw [if_neg c4] at hG
    exact fr_T hX (wf240_101 hr80 hr88 n hG)
theorem wf240_88 {n : Nat} {q80 : Int32 → Int32 → zX → Option (Unit × zX)} (hr80 : ∀ {l1 : Int32} {l2 : Int32} {X : zX} {p : Unit × zX}, q80 l1 l2 X = some p → fr 0 4611686018427387904 X p.2) (k : Nat) : ∀ {l1 : Int32} {l2 : Int32} {l3 : Int32} {X : zX} {p : Unit × zX}, gf240_88 n q80 k l1 l2 l3 X = some p → fr 0 4611686018427387904 X p.2 := by
  induction k with
  | zero => intros; rename_i hG; cases hG
  | succ k ih => intros; rename_i hG; exact wb240_88 (n := n) (q80 := q80) (q88 := gf240_88 n q80 k) hr80 ih hG
set_option maxRecDepth 20000 in
theorem wb240_80 {n : Nat} {q80 : Int32 → Int32 → zX → Option (Unit × zX)} (hr80 : ∀ {l1 : Int32} {l2 : Int32} {X : zX} {p : Unit × zX}, q80 l1 l2 X = some p → fr 0 4611686018427387904 X p.2) {l1 : Int32} {l2 : Int32} {X : zX} {p : Unit × zX} (hG : gb240_80 n q80 l1 l2 X = some p) : fr 0 4611686018427387904 X p.2 := by
  unfold gb240_80 at hG
  have hX : fr 0 4611686018427387904 X X := fr_R
  by_cases c1 : (24 : Int32) ≤ l2
  · rw [if_pos c1] at hG
    replace hG := Option.some.inj hG
    subst hG
    exact hX
  · rw [if_neg c1] at hG
    exact fr_T hX (wf240_88 hr80 n hG)
theorem wf240_80 {n : Nat}   (k : Nat) : ∀ {l1 : Int32} {l2 : Int32} {X : zX} {p : Unit × zX}, gf240_80 n  k l1 l2 X = some p → fr 0 4611686018427387904 X p.2 := by
  induction k with
  | zero => intros; rename_i hG; cases hG
  | succ k ih => intros; rename_i hG; exact wb240_80 (n := n) (q80 := gf240_80 n  k) ih hG
set_option maxRecDepth 20000 in
theorem wb240_21 {n : Nat} {q2 : Int32 → Int32 → zX → Option (Unit × zX)} {q21 : Int32 → Int32 → Int32 → zX → Option (Unit × zX)} (hr2 : ∀ {l1 : Int32} {l2 : Int32} {X : zX} {p : Unit × zX}, q2 l1 l2 X = some p → fr 0 4611686018427387904 X p.2) (hr21 : ∀ {l1 : Int32} {l2 : Int32} {l3 : Int32} {X : zX} {p : Unit × zX}, q21 l1 l2 l3 X = some p → fr 0 4611686018427387904 X p.2) {l1 : Int32} {l2 : Int32} {l3 : Int32} {X : zX} {p : Unit × zX} (hG : gb240_21 n q2 q21 l1 l2 l3 X = some p) : fr 0 4611686018427387904 X p.2 := by
  unfold gb240_21 at hG
  have hX : fr 0 4611686018427387904 X X := fr_R
  replace hG := zbnd hG
  obtain ⟨x2, e3, hG⟩ := hG
  by_cases c4 : x2 ≤ l3
  · rw [if_pos c4] at hG
    exact fr_T hX (hr2 hG)
  · rw [if_neg c4] at hG
    replace hG := zbnd hG
    obtain ⟨x7, e8, hG⟩ := hG
    replace hG := zbnd hG
    obtain ⟨x10, e11, hG⟩ := hG
    replace hG := zbnd hG
    obtain ⟨X12, e13, hG⟩ := hG
    replace hX := fr_W hX (i := 62) rfl e13
    exact fr_T hX (hr21 hG)
theorem wf240_21 {n : Nat} {q2 : Int32 → Int32 → zX → Option (Unit × zX)} (hr2 : ∀ {l1 : Int32} {l2 : Int32} {X : zX} {p : Unit × zX}, q2 l1 l2 X = some p → fr 0 4611686018427387904 X p.2) (k : Nat) : ∀ {l1 : Int32} {l2 : Int32} {l3 : Int32} {X : zX} {p : Unit × zX}, gf240_21 n q2 k l1 l2 l3 X = some p → fr 0 4611686018427387904 X p.2 := by
  induction k with
  | zero => intros; rename_i hG; cases hG
  | succ k ih => intros; rename_i hG; exact wb240_21 (n := n) (q2 := q2) (q21 := gf240_21 n q2 k) hr2 ih hG
set_option maxRecDepth 20000 in
theorem wb240_2 {n : Nat} {q2 : Int32 → Int32 → zX → Option (Unit × zX)} (hr2 : ∀ {l1 : Int32} {l2 : Int32} {X : zX} {p : Unit × zX}, q2 l1 l2 X = some p → fr 0 4611686018427387904 X p.2) {l1 : Int32} {l2 : Int32} {X : zX} {p : Unit × zX} (hG : gb240_2 n q2 l1 l2 X = some p) : fr 0 4611686018427387904 X p.2 := by
  unfold gb240_2 at hG
  have hX : fr 0 4611686018427387904 X X := fr_R
  replace hG := zbnd hG
  obtain ⟨x2, e3, hG⟩ := hG
  by_cases c4 : x2 ≤ l2
  · rw [if_pos c4] at hG
    exact fr_T hX (wf240_80  n hG)
  · rw [if_neg c4] at hG
    replace hG := zbnd hG
    obtain ⟨X6, e7, hG⟩ := hG
    replace hX := fr_W hX (i := 62) rfl e7
    exact fr_T hX (wf240_21 hr2 n hG)
theorem wf240_2 {n : Nat}   (k : Nat) : ∀ {l1 : Int32} {l2 : Int32} {X : zX} {p : Unit × zX}, gf240_2 n  k l1 l2 X = some p → fr 0 4611686018427387904 X p.2 := by
  induction k with
  | zero => intros; rename_i hG; cases hG
  | succ k ih => intros; rename_i hG; exact wb240_2 (n := n) (q2 := gf240_2 n  k) ih hG
set_option maxRecDepth 20000 in
theorem w240 {n : Nat} {y1 : Int32} {X : zX} {p : Unit × zX} (hG : g240 n y1 X = some p) : fr 0 4611686018427387904 X p.2 := by
  unfold g240 at hG
  have hX : fr 0 4611686018427387904 X X := fr_R
  exact fr_T hX (wf240_2  n hG)
set_option maxRecDepth 20000 in
theorem wb239_167 {n : Nat} {q105 : Int32 → Int32 → zX → Option (Unit × zX)} {q133 : Int32 → Int32 → Int32 → Int32 → zX → Option (Unit × zX)} (hr105 : ∀ {l1 : Int32} {l2 : Int32} {X : zX} {p : Unit × zX}, q105 l1 l2 X = some p → fr 9463179709812999979008 5188146770730811392 X p.2) (hr133 : ∀ {l1 : Int32} {l2 : Int32} {l3 : Int32} {l4 : Int32} {X : zX} {p : Unit × zX}, q133 l1 l2 l3 l4 X = some p → fr 9463179709812999979008 5188146770730811392 X p.2) {l1 : Int32} {l2 : Int32} {l3 : Int32} {l4 : Int32} {s0 : Int32} {X : zX} {p : Unit × zX} (hG : gb239_167 n q105 q133 l1 l2 l3 l4 s0 X = some p) : fr 9463179709812999979008 5188146770730811392 X p.2 := by
  unfold gb239_167 at hG
  have hX : fr 9463179709812999979008 5188146770730811392 X X := fr_R
  exact fr_T hX (hr133 hG)
set_option maxRecDepth 20000 in
theorem wb239_166 {n : Nat} {q105 : Int32 → Int32 → zX → Option (Unit × zX)} {q133 : Int32 → Int32 → Int32 → Int32 → zX → Option (Unit × zX)} (hr105 : ∀ {l1 : Int32} {l2 : Int32} {X : zX} {p : Unit × zX}, q105 l1 l2 X = some p → fr 9463179709812999979008 5188146770730811392 X p.2) (hr133 : ∀ {l1 : Int32} {l2 : Int32} {l3 : Int32} {l4 : Int32} {X : zX} {p : Unit × zX}, q133 l1 l2 l3 l4 X = some p → fr 9463179709812999979008 5188146770730811392 X p.2) {l1 : Int32} {l2 : Int32} {l3 : Int32} {l4 : Int32} {X : zX} {p : Unit × zX} (hG : gb239_166 n q105 q133 l1 l2 l3 l4 X = some p) : fr 9463179709812999979008 5188146770730811392 X p.2 := by
  unfold gb239_166 at hG
  have hX : fr 9463179709812999979008 5188146770730811392 X X := fr_R
  exact fr_T hX (wb239_167 hr105 hr133 hG)
set_option maxRecDepth 20000 in
theorem wb239_133 {n : Nat} {q105 : Int32 → Int32 → zX → Option (Unit × zX)} {q133 : Int32 → Int32 → Int32 → Int32 → zX → Option (Unit × zX)} (hr105 : ∀ {l1 : Int32} {l2 : Int32} {X : zX} {p : Unit × zX}, q105 l1 l2 X = some p → fr 9463179709812999979008 5188146770730811392 X p.2) (hr133 : ∀ {l1 : Int32} {l2 : Int32} {l3 : Int32} {l4 : Int32} {X : zX} {p : Unit × zX}, q133 l1 l2 l3 l4 X = some p → fr 9463179709812999979008 5188146770730811392 X p.2) {l1 : Int32} {l2 : Int32} {l3 : Int32} {l4 : Int32} {X : zX} {p : Unit × zX} (hG : gb239_133 n q105 q133 l1 l2 l3 l4 X = some p) : fr 9463179709812999979008 5188146770730811392 X p.2 := by
  unfold gb239_133 at hG
  have hX : fr 9463179709812999979008 5188146770730811392 X X := fr_R
  by_cases c1 : l4 < 0
  · rw [if_pos c1] at hG
    replace hG := zgd_some hG
    obtain ⟨g5, hG⟩ := hG
    replace hG := zbnd hG
    obtain ⟨X3, e4, hG⟩ := hG
    replace hX := fr_W hX (i := 59) rfl e4
    exact fr_T hX (hr105 hG)
  · rw [if_neg c1] at hG
    by_cases c6 : ((l1 >>> (l4 &&& 31)) &&& 1) = 0
    · rw [if_pos c6] at hG
      replace hG := zbnd hG
      obtain ⟨x8, e9, hG⟩ := hG
      by_cases c10 : (x8 &&& (l1 ^^^ (-1))) = 0
      · rw [if_pos c10] at hG
        exact fr_T hX (wb239_167 hr105 hr133 hG)
      · rw [if_neg c10] at hG
        exact fr_T hX (wb239_166 hr105 hr133 hG)
    · rw [if_neg c6] at hG
      exact fr_T hX (wb239_166 hr105 hr133 hG)
theorem wf239_133 {n : Nat} {q105 : Int32 → Int32 → zX → Option (Unit × zX)} (hr105 : ∀ {l1 : Int32} {l2 : Int32} {X : zX} {p : Unit × zX}, q105 l1 l2 X = some p → fr 9463179709812999979008 5188146770730811392 X p.2) (k : Nat) : ∀ {l1 : Int32} {l2 : Int32} {l3 : Int32} {l4 : Int32} {X : zX} {p : Unit × zX}, gf239_133 n q105 k l1 l2 l3 l4 X = some p → fr 9463179709812999979008 5188146770730811392 X p.2 := by
  induction k with
  | zero => intros; rename_i hG; cases hG
  | succ k ih => intros; rename_i hG; exact wb239_133 (n := n) (q105 := q105) (q133 := gf239_133 n q105 k) hr105 ih hG
set_option maxRecDepth 20000 in
theorem wb239_105 {n : Nat} {q105 : Int32 → Int32 → zX → Option (Unit × zX)} (hr105 : ∀ {l1 : Int32} {l2 : Int32} {X : zX} {p : Unit × zX}, q105 l1 l2 X = some p → fr 9463179709812999979008 5188146770730811392 X p.2) {l1 : Int32} {l2 : Int32} {X : zX} {p : Unit × zX} (hG : gb239_105 n q105 l1 l2 X = some p) : fr 9463179709812999979008 5188146770730811392 X p.2 := by
  unfold gb239_105 at hG
  have hX : fr 9463179709812999979008 5188146770730811392 X X := fr_R
  replace hG := zbnd hG
  obtain ⟨x2, e3, hG⟩ := hG
  by_cases c4 : x2 ≤ l2
  · rw [if_pos c4] at hG
    replace hG := Option.some.inj hG
    subst hG
    exact hX
  · rw [if_neg c4] at hG
    replace hG := zbnd hG
    obtain ⟨x6, e7, hG⟩ := hG
    exact fr_T hX (wf239_133 hr105 n hG)
theorem wf239_105 {n : Nat}   (k : Nat) : ∀ {l1 : Int32} {l2 : Int32} {X : zX} {p : Unit × zX}, gf239_105 n  k l1 l2 X = some p → fr 9463179709812999979008 5188146770730811392 X p.2 := by
  induction k with
  | zero => intros; rename_i hG; cases hG
  | succ k ih => intros; rename_i hG; exact wb239_105 (n := n) (q105 := gf239_105 n  k) ih hG
set_option maxRecDepth 20000 in
theorem wb239_25 {n : Nat} {q10 : Int32 → zX → Option (Unit × zX)} {q25 : Int32 → Int32 → zX → Option (Unit × zX)} (hr10 : ∀ {l1 : Int32} {X : zX} {p : Unit × zX}, q10 l1 X = some p → fr 9463179709812999979008 5188146770730811392 X p.2) (hr25 : ∀ {l1 : Int32} {l2 : Int32} {X : zX} {p : Unit × zX}, q25 l1 l2 X = some p → fr 9463179709812999979008 5188146770730811392 X p.2) {l1 : Int32} {l2 : Int32} {X : zX} {p : Unit × zX} (hG : gb239_25 n q10 q25 l1 l2 X = some p) : fr 9463179709812999979008 5188146770730811392 X p.2 := by
  unfold gb239_25 at hG
  have hX : fr 9463179709812999979008 5188146770730811392 X X := fr_R
  replace hG := zbnd hG
  obtain ⟨x2, e3, hG⟩ := hG
  by_cases c4 : x2 ≤ l2
  · rw [if_pos c4] at hG
    exact fr_T hX (hr10 hG)
  · rw [if_neg c4] at hG
    replace hG := zbnd hG
    obtain ⟨x7, e8, hG⟩ := hG
    replace hG := zbnd hG
    obtain ⟨x9, e10, hG⟩ := hG
    by_cases c11 : ((x9 >>> (l1 &&& 31)) &&& 1) = 1
    · rw [if_pos c11] at hG
      replace hG := zbnd hG
      obtain ⟨x13, e14, hG⟩ := hG
      replace hG := zbnd hG
      obtain ⟨p15, e16, hG⟩ := hG
      replace hX := fr_T hX (fr_M rfl rfl (w196 e16))
      replace hG := Option.some.inj hG
      subst hG
      exact hX
    · rw [if_neg c11] at hG
      exact fr_T hX (hr25 hG)
theorem wf239_25 {n : Nat} {q10 : Int32 → zX → Option (Unit × zX)} (hr10 : ∀ {l1 : Int32} {X : zX} {p : Unit × zX}, q10 l1 X = some p → fr 9463179709812999979008 5188146770730811392 X p.2) (k : Nat) : ∀ {l1 : Int32} {l2 : Int32} {X : zX} {p : Unit × zX}, gf239_25 n q10 k l1 l2 X = some p → fr 9463179709812999979008 5188146770730811392 X p.2 := by
  induction k with
  | zero => intros; rename_i hG; cases hG
  | succ k ih => intros; rename_i hG; exact wb239_25 (n := n) (q10 := q10) (q25 := gf239_25 n q10 k) hr10 ih hG
set_option maxRecDepth 20000 in
theorem wb239_10 {n : Nat} {q10 : Int32 → zX → Option (Unit × zX)} (hr10 : ∀ {l1 : Int32} {X : zX} {p : Unit × zX}, q10 l1 X = some p → fr 9463179709812999979008 5188146770730811392 X p.2) {l1 : Int32} {X : zX} {p : Unit × zX} (hG : gb239_10 n q10 l1 X = some p) : fr 9463179709812999979008 5188146770730811392 X p.2 := by
  unfold gb239_10 at hG
  have hX : fr 9463179709812999979008 5188146770730811392 X X := fr_R
  replace hG := zbnd hG
  obtain ⟨x2, e3, hG⟩ := hG
  by_cases c4 : x2 ≤ l1
  · rw [if_pos c4] at hG
    exact fr_T hX (wf239_105  n hG)
  · rw [if_neg c4] at hG
    exact fr_T hX (wf239_25 hr10 n hG)
theorem wf239_10 {n : Nat}   (k : Nat) : ∀ {l1 : Int32} {X : zX} {p : Unit × zX}, gf239_10 n  k l1 X = some p → fr 9463179709812999979008 5188146770730811392 X p.2 := by
  induction k with
  | zero => intros; rename_i hG; cases hG
  | succ k ih => intros; rename_i hG; exact wb239_10 (n := n) (q10 := gf239_10 n  k) ih hG
set_option maxRecDepth 20000 in
theorem w239 {n : Nat}  {X : zX} {p : Unit × zX} (hG : g239 n  X = some p) : fr 9463179709812999979008 5188146770730811392 X p.2 := by
  unfold g239 at hG
  have hX : fr 9463179709812999979008 5188146770730811392 X X := fr_R
  replace hG := zbnd hG
  obtain ⟨p1, e2, hG⟩ := hG
  replace hX := fr_T hX (fr_M rfl rfl (w240 e2))
  exact fr_T hX (wf239_10  n hG)
set_option maxRecDepth 20000 in
theorem wb189_207 {n : Nat}    {X : zX} {p : Unit × zX} (hG : gb189_207 n   X = some p) : fr 131949560359244422709248 291689140665532284926 X p.2 := by
  unfold gb189_207 at hG
  have hX : fr 131949560359244422709248 291689140665532284926 X X := fr_R
  by_cases c1 : (X.1 73) = (-1)
  · rw [if_pos c1] at hG
    replace hG := zbnd hG
    obtain ⟨p2, e3, hG⟩ := hG
    replace hX := fr_T hX (fr_M rfl rfl (w239 e3))
    replace hG := Option.some.inj hG
    subst hG
    exact hX
  · rw [if_neg c1] at hG
    replace hG := Option.some.inj hG
    subst hG
    exact hX
set_option maxRecDepth 20000 in
theorem wb189_195 {n : Nat}    {X : zX} {p : Unit × zX} (hG : gb189_195 n   X = some p) : fr 131949560359244422709248 291689140665532284926 X p.2 := by
  unfold gb189_195 at hG
  have hX : fr 131949560359244422709248 291689140665532284926 X X := fr_R
  by_cases c1 : (X.1 73) = (-1)
  · rw [if_pos c1] at hG
    replace hG := zbnd hG
    obtain ⟨p2, e3, hG⟩ := hG
    replace hX := fr_T hX (fr_M rfl rfl (w237 e3))
    exact fr_T hX (wb189_207  hG)
  · rw [if_neg c1] at hG
    exact fr_T hX (wb189_207  hG)
set_option maxRecDepth 20000 in
theorem wb189_192 {n : Nat} {q119 : zX → Option (Unit × zX)} (hr119 : ∀  {X : zX} {p : Unit × zX}, q119  X = some p → fr 131949560359244422709248 291689140665532284926 X p.2) {l1 : Int32} {X : zX} {p : Unit × zX} (hG : gb189_192 n q119 l1 X = some p) : fr 131949560359244422709248 291689140665532284926 X p.2 := by
  unfold gb189_192 at hG
  have hX : fr 131949560359244422709248 291689140665532284926 X X := fr_R
  exact fr_T hX (hr119 hG)
set_option maxRecDepth 20000 in
theorem wb189_154 {n : Nat} {q119 : zX → Option (Unit × zX)} (hr119 : ∀  {X : zX} {p : Unit × zX}, q119  X = some p → fr 131949560359244422709248 291689140665532284926 X p.2) {l1 : Int32} {s0 : Int32} {X : zX} {p : Unit × zX} (hG : gb189_154 n q119 l1 s0 X = some p) : fr 131949560359244422709248 291689140665532284926 X p.2 := by
  unfold gb189_154 at hG
  have hX : fr 131949560359244422709248 291689140665532284926 X X := fr_R
  replace hG := zbnd hG
  obtain ⟨p1, e2, hG⟩ := hG
  replace hX := fr_T hX (fr_M rfl rfl (w200 e2))
  by_cases c3 : (p1.2.1 73) = (-1)
  · rw [if_pos c3] at hG
    by_cases c4 : l1 = 0
    · rw [if_pos c4] at hG
      replace hG := zbnd hG
      obtain ⟨p5, e6, hG⟩ := hG
      replace hX := fr_T hX (fr_M rfl rfl (w201 e6))
      exact fr_T hX (wb189_192 hr119 hG)
    · rw [if_neg c4] at hG
      by_cases c7 : l1 = 1
      · rw [if_pos c7] at hG
        replace hG := zbnd hG
        obtain ⟨p8, e9, hG⟩ := hG
        replace hX := fr_T hX (fr_M rfl rfl (w226 e9))
        exact fr_T hX (wb189_192 hr119 hG)
      · rw [if_neg c7] at hG
        replace hG := zbnd hG
        obtain ⟨p10, e11, hG⟩ := hG
        replace hX := fr_T hX (fr_M rfl rfl (w235 e11))
        exact fr_T hX (wb189_192 hr119 hG)
  · rw [if_neg c3] at hG
    exact fr_T hX (wb189_192 hr119 hG)
set_option maxRecDepth 20000 in
theorem wb189_119 {n : Nat} {q119 : zX → Option (Unit × zX)} (hr119 : ∀  {X : zX} {p : Unit × zX}, q119  X = some p → fr 131949560359244422709248 291689140665532284926 X p.2)  {X : zX} {p : Unit × zX} (hG : gb189_119 n q119  X = some p) : fr 131949560359244422709248 291689140665532284926 X p.2 := by
  unfold gb189_119 at hG
  have hX : fr 131949560359244422709248 291689140665532284926 X X := fr_R
  by_cases c1 : (X.1 73) = (-1)
  · rw [if_pos c1] at hG
    by_cases c2 : (X.1 69) = 5
    · rw [if_pos c2] at hG
      exact fr_T hX (wb189_195  hG)
    · rw [if_neg c2] at hG
      replace hG := zbnd hG
      obtain ⟨p3, e4, hG⟩ := hG
      replace hX := fr_T hX (fr_M rfl rfl (w199 e4))
      by_cases c5 : p3.1 = (-1)
      · rw [if_pos c5] at hG
        exact fr_T hX (wb189_154 hr119 hG)
      · rw [if_neg c5] at hG
        exact fr_T hX (wb189_154 hr119 hG)
  · rw [if_neg c1] at hG
    exact fr_T hX (wb189_195  hG)
theorem wf189_119 {n : Nat}   (k : Nat) : ∀  {X : zX} {p : Unit × zX}, gf189_119 n  k  X = some p → fr 131949560359244422709248 291689140665532284926 X p.2 := by
  induction k with
  | zero => intros; rename_i hG; cases hG
  | succ k ih => intros; rename_i hG; exact wb189_119 (n := n) (q119 := gf189_119 n  k) ih hG
set_option maxRecDepth 20000 in
theorem w189 {n : Nat}  {X : zX} {p : Unit × zX} (hG : g189 n  X = some p) : fr 131949560359244422709248 291689140665532284926 X p.2 := by
  unfold g189 at hG
  have hX : fr 131949560359244422709248 291689140665532284926 X X := fr_R
  replace hG := zgd_some hG
  obtain ⟨g4, hG⟩ := hG
  replace hG := zbnd hG
  obtain ⟨X2, e3, hG⟩ := hG
  replace hX := fr_W hX (i := 1) rfl e3
  replace hG := zgd_some hG
  obtain ⟨g8, hG⟩ := hG
  replace hG := zbnd hG
  obtain ⟨X6, e7, hG⟩ := hG
  replace hX := fr_W hX (i := 4) rfl e7
  replace hG := zgd_some hG
  obtain ⟨g12, hG⟩ := hG
  replace hG := zbnd hG
  obtain ⟨X10, e11, hG⟩ := hG
  replace hX := fr_W hX (i := 9) rfl e11
  replace hG := zgd_some hG
  obtain ⟨g16, hG⟩ := hG
  replace hG := zbnd hG
  obtain ⟨X14, e15, hG⟩ := hG
  replace hX := fr_W hX (i := 25) rfl e15
  replace hG := zgd_some hG
  obtain ⟨g20, hG⟩ := hG
  replace hG := zbnd hG
  obtain ⟨X18, e19, hG⟩ := hG
  replace hX := fr_W hX (i := 28) rfl e19
  replace hG := zgd_some hG
  obtain ⟨g24, hG⟩ := hG
  replace hG := zbnd hG
  obtain ⟨X22, e23, hG⟩ := hG
  replace hX := fr_W hX (i := 35) rfl e23
  replace hG := zgd_some hG
  obtain ⟨g28, hG⟩ := hG
  replace hG := zbnd hG
  obtain ⟨X26, e27, hG⟩ := hG
  replace hX := fr_W hX (i := 39) rfl e27
  replace hG := zgd_some hG
  obtain ⟨g32, hG⟩ := hG
  replace hG := zbnd hG
  obtain ⟨X30, e31, hG⟩ := hG
  replace hX := fr_W hX (i := 42) rfl e31
  replace hG := zgd_some hG
  obtain ⟨g36, hG⟩ := hG
  replace hG := zbnd hG
  obtain ⟨X34, e35, hG⟩ := hG
  replace hX := fr_W hX (i := 49) rfl e35
  replace hG := zgd_some hG
  obtain ⟨g40, hG⟩ := hG
  replace hG := zbnd hG
  obtain ⟨X38, e39, hG⟩ := hG
  replace hX := fr_W hX (i := 58) rfl e39
  replace hG := zlet_ex hG
  obtain ⟨X41, e42, hG⟩ := hG
  replace hX := fr_F hX (k := 68) rfl e42
  replace hG := zlet_ex hG
  obtain ⟨X43, e44, hG⟩ := hG
  replace hX := fr_F hX (k := 73) rfl e44
  replace hG := zlet_ex hG
  obtain ⟨X45, e46, hG⟩ := hG
  replace hX := fr_F hX (k := 64) rfl e46
  replace hG := zbnd hG
  obtain ⟨p47, e48, hG⟩ := hG
  replace hX := fr_T hX (fr_M rfl rfl (w190 e48))
  exact fr_T hX (wf189_119  n hG)
set_option maxRecDepth 20000 in
theorem w188 {n : Nat}  {X : zX} {p : Int32 × zX} (hG : g188 n  X = some p) : fr 38817575788027378013306909 291689140665532284926 X p.2 := by
  unfold g188 at hG
  have hX : fr 38817575788027378013306909 291689140665532284926 X X := fr_R
  replace hG := zlet_ex hG
  obtain ⟨X1, e2, hG⟩ := hG
  replace hX := fr_F hX (k := 0) rfl e2
  replace hG := zbnd hG
  obtain ⟨p3, e4, hG⟩ := hG
  replace hX := fr_T hX (fr_M rfl rfl (w189 e4))
  replace hG := zlet_ex hG
  obtain ⟨X5, e6, hG⟩ := hG
  replace hX := fr_F hX (k := 2) rfl e6
  by_cases c7 : (X5.1 73) = (-1)
  · rw [if_pos c7] at hG
    replace hG := zlet_ex hG
    obtain ⟨X8, e9, hG⟩ := hG
    replace hX := fr_F hX (k := 3) rfl e9
    replace hG := zlet_ex hG
    obtain ⟨X10, e11, hG⟩ := hG
    replace hX := fr_F hX (k := 4) rfl e11
    replace hG := zlet_ex hG
    obtain ⟨X12, e13, hG⟩ := hG
    replace hX := fr_F hX (k := 85) rfl e13
    replace hG := zbnd hG
    obtain ⟨x15, e16, hG⟩ := hG
    replace hG := Option.some.inj hG
    subst hG
    exact hX
  · rw [if_neg c7] at hG
    replace hG := Option.some.inj hG
    subst hG
    exact hX
set_option maxRecDepth 20000 in
theorem w241 {n : Nat}  {X : zX} {p : Int32 × zX} (hG : g241 n  X = some p) : fr 1 0 X p.2 := by
  unfold g241 at hG
  have hX : fr 1 0 X X := fr_R
  replace hG := zlet_ex hG
  obtain ⟨X1, e2, hG⟩ := hG
  replace hX := fr_F hX (k := 0) rfl e2
  replace hG := Option.some.inj hG
  subst hG
  exact hX
set_option maxRecDepth 20000 in
theorem w242 {n : Nat} {y1 : Int32} {X : zX} {p : Int32 × zX} (hG : g242 n y1 X = some p) : fr 1 0 X p.2 := by
  unfold g242 at hG
  have hX : fr 1 0 X X := fr_R
  replace hG := zbnd hG
  obtain ⟨p1, e2, hG⟩ := hG
  replace hX := fr_T hX (fr_M rfl rfl (w187 e2))
  replace hG := zbnd hG
  obtain ⟨p3, e4, hG⟩ := hG
  replace hX := fr_T hX (fr_M rfl rfl (w185 e4))
  by_cases c5 : p3.1 = 0
  · rw [if_pos c5] at hG
    replace hG := Option.some.inj hG
    subst hG
    exact hX
  · rw [if_neg c5] at hG
    by_cases c6 : y1 = 0
    · rw [if_pos c6] at hG
      replace hG := zbnd hG
      obtain ⟨x8, e9, hG⟩ := hG
      replace hG := Option.some.inj hG
      subst hG
      exact hX
    rw [if_neg c6] at hG
    by_cases c10 : y1 = 1
    · rw [if_pos c10] at hG
      replace hG := zbnd hG
      obtain ⟨x12, e13, hG⟩ := hG
      replace hG := Option.some.inj hG
      subst hG
      exact hX
    rw [if_neg c10] at hG
    by_cases c14 : y1 = 2
    · rw [if_pos c14] at hG
      replace hG := zbnd hG
      obtain ⟨x16, e17, hG⟩ := hG
      replace hG := Option.some.inj hG
      subst hG
      exact hX
    rw [if_neg c14] at hG
    by_cases c18 : y1 = 3
    · rw [if_pos c18] at hG
      replace hG := zbnd hG
      obtain ⟨x20, e21, hG⟩ := hG
      replace hG := Option.some.inj hG
      subst hG
      exact hX
    rw [if_neg c18] at hG
    by_cases c22 : y1 = 4
    · rw [if_pos c22] at hG
      replace hG := zbnd hG
      obtain ⟨x24, e25, hG⟩ := hG
      replace hG := Option.some.inj hG
      subst hG
      exact hX
    rw [if_neg c22] at hG
    by_cases c26 : y1 = 5
    · rw [if_pos c26] at hG
      replace hG := zbnd hG
      obtain ⟨x28, e29, hG⟩ := hG
      replace hG := Option.some.inj hG
      subst hG
      exact hX
    rw [if_neg c26] at hG
    by_cases c30 : y1 = 6
    · rw [if_pos c30] at hG
      replace hG := zbnd hG
      obtain ⟨x32, e33, hG⟩ := hG
      replace hG := Option.some.inj hG
      subst hG
      exact hX
    rw [if_neg c30] at hG
    replace hG := Option.some.inj hG
    subst hG
    exact hX
set_option maxRecDepth 20000 in
theorem wb243_285 {n : Nat}   {l1 : Int32} {l2 : Int32} {l3 : Int32} {l4 : Int32} {l5 : Int32} {l6 : Int32} {l7 : Int32} {l8 : Int32} {X : zX} {p : Int32 × zX} (hG : gb243_285 n  l1 l2 l3 l4 l5 l6 l7 l8 X = some p) : fr 18649658258520356683781 3458764513820540940 X p.2 := by
  unfold gb243_285 at hG
  have hX : fr 18649658258520356683781 3458764513820540940 X X := fr_R
  replace hG := zlet_ex hG
  obtain ⟨X1, e2, hG⟩ := hG
  replace hX := fr_F hX (k := 2) rfl e2
  replace hG := Option.some.inj hG
  subst hG
  exact hX
set_option maxRecDepth 20000 in
theorem wb243_233 {n : Nat}   {l1 : Int32} {l2 : Int32} {l3 : Int32} {l4 : Int32} {l5 : Int32} {l6 : Int32} {l7 : Int32} {l8 : Int32} {s0 : Int32} {X : zX} {p : Int32 × zX} (hG : gb243_233 n  l1 l2 l3 l4 l5 l6 l7 l8 s0 X = some p) : fr 18649658258520356683781 3458764513820540940 X p.2 := by
  unfold gb243_233 at hG
  have hX : fr 18649658258520356683781 3458764513820540940 X X := fr_R
  replace hG := zlet_ex hG
  obtain ⟨X1, e2, hG⟩ := hG
  replace hX := fr_F hX (k := 65) rfl e2
  replace hG := zbnd hG
  obtain ⟨p3, e4, hG⟩ := hG
  replace hX := fr_T hX (fr_M rfl rfl (w207 e4))
  replace hG := zbnd hG
  obtain ⟨X6, e7, hG⟩ := hG
  replace hX := fr_W hX (i := 60) rfl e7
  replace hG := zbnd hG
  obtain ⟨X9, e10, hG⟩ := hG
  replace hX := fr_W hX (i := 61) rfl e10
  by_cases c11 : l4 = 0
  · rw [if_pos c11] at hG
    exact fr_T hX (wb243_285  hG)
  · rw [if_neg c11] at hG
    replace hG := zbnd hG
    obtain ⟨p12, e13, hG⟩ := hG
    replace hX := fr_T hX (fr_M rfl rfl (w207 e13))
    exact fr_T hX (wb243_285  hG)
set_option maxRecDepth 20000 in
theorem wb243_186 {n : Nat}   {l1 : Int32} {l2 : Int32} {l3 : Int32} {l4 : Int32} {l5 : Int32} {l6 : Int32} {l7 : Int32} {l8 : Int32} {X : zX} {p : Int32 × zX} (hG : gb243_186 n  l1 l2 l3 l4 l5 l6 l7 l8 X = some p) : fr 18649658258520356683781 3458764513820540940 X p.2 := by
  unfold gb243_186 at hG
  have hX : fr 18649658258520356683781 3458764513820540940 X X := fr_R
  by_cases c1 : l8 = 8
  · rw [if_pos c1] at hG
    replace hG := zlet_ex hG
    obtain ⟨X2, e3, hG⟩ := hG
    replace hX := fr_F hX (k := 2) rfl e3
    replace hG := zlet_ex hG
    obtain ⟨X4, e5, hG⟩ := hG
    replace hX := fr_F hX (k := 0) rfl e5
    replace hG := Option.some.inj hG
    subst hG
    exact hX
  · rw [if_neg c1] at hG
    replace hG := zlet_ex hG
    obtain ⟨X6, e7, hG⟩ := hG
    replace hX := fr_F hX (k := 0) rfl e7
    by_cases c8 : l8 = (X6.1 65)
    · rw [if_pos c8] at hG
      exact fr_T hX (wb243_233  hG)
    · rw [if_neg c8] at hG
      exact fr_T hX (wb243_233  hG)
set_option maxRecDepth 20000 in
theorem wb243_156 {n : Nat} {q156 : Int32 → Int32 → Int32 → Int32 → Int32 → Int32 → Int32 → Int32 → zX → Option (Int32 × zX)} (hr156 : ∀ {l1 : Int32} {l2 : Int32} {l3 : Int32} {l4 : Int32} {l5 : Int32} {l6 : Int32} {l7 : Int32} {l8 : Int32} {X : zX} {p : Int32 × zX}, q156 l1 l2 l3 l4 l5 l6 l7 l8 X = some p → fr 18649658258520356683781 3458764513820540940 X p.2) {l1 : Int32} {l2 : Int32} {l3 : Int32} {l4 : Int32} {l5 : Int32} {l6 : Int32} {l7 : Int32} {l8 : Int32} {X : zX} {p : Int32 × zX} (hG : gb243_156 n q156 l1 l2 l3 l4 l5 l6 l7 l8 X = some p) : fr 18649658258520356683781 3458764513820540940 X p.2 := by
  unfold gb243_156 at hG
  have hX : fr 18649658258520356683781 3458764513820540940 X X := fr_R
  by_cases c1 : (X.1 65) ≤ l8
  · rw [if_pos c1] at hG
    exact fr_T hX (wb243_186  hG)
  · rw [if_neg c1] at hG
    replace hG := zbnd hG
    obtain ⟨p2, e3, hG⟩ := hG
    replace hX := fr_T hX (fr_M rfl rfl (w205 e3))
    by_cases c4 : p2.1 = 0
    · rw [if_pos c4] at hG
      exact fr_T hX (hr156 hG)
    · rw [if_neg c4] at hG
      exact fr_T hX (wb243_186  hG)
theorem wf243_156 {n : Nat}   (k : Nat) : ∀ {l1 : Int32} {l2 : Int32} {l3 : Int32} {l4 : Int32} {l5 : Int32} {l6 : Int32} {l7 : Int32} {l8 : Int32} {X : zX} {p : Int32 × zX}, gf243_156 n  k l1 l2 l3 l4 l5 l6 l7 l8 X = some p → fr 18649658258520356683781 3458764513820540940 X p.2 := by
  induction k with
  | zero => intros; rename_i hG; cases hG
  | succ k ih => intros; rename_i hG; exact wb243_156 (n := n) (q156 := gf243_156 n  k) ih hG
set_option maxRecDepth 20000 in
theorem wb243_125 {n : Nat}   {l1 : Int32} {l2 : Int32} {l3 : Int32} {l4 : Int32} {l5 : Int32} {l6 : Int32} {l7 : Int32} {s0 : Int32} {X : zX} {p : Int32 × zX} (hG : gb243_125 n  l1 l2 l3 l4 l5 l6 l7 s0 X = some p) : fr 18649658258520356683781 3458764513820540940 X p.2 := by
  unfold gb243_125 at hG
  have hX : fr 18649658258520356683781 3458764513820540940 X X := fr_R
  replace hG := zbnd hG
  obtain ⟨p1, e2, hG⟩ := hG
  replace hX := fr_T hX (fr_M rfl rfl (w200 e2))
  replace hG := zlet_ex hG
  obtain ⟨X3, e4, hG⟩ := hG
  replace hX := fr_F hX (k := 64) rfl e4
  by_cases c5 : (X3.1 73) = (-1)
  · rw [if_pos c5] at hG
    exact fr_T hX (wf243_156  n hG)
  · rw [if_neg c5] at hG
    replace hG := zlet_ex hG
    obtain ⟨X6, e7, hG⟩ := hG
    replace hX := fr_F hX (k := 2) rfl e7
    replace hG := zlet_ex hG
    obtain ⟨X8, e9, hG⟩ := hG
    replace hX := fr_F hX (k := 0) rfl e9
    replace hG := Option.some.inj hG
    subst hG
    exact hX
set_option maxRecDepth 20000 in
theorem wb243_85 {n : Nat}   {l1 : Int32} {l2 : Int32} {l3 : Int32} {s0 : Int32} {X : zX} {p : Int32 × zX} (hG : gb243_85 n  l1 l2 l3 s0 X = some p) : fr 18649658258520356683781 3458764513820540940 X p.2 := by
  unfold gb243_85 at hG
  have hX : fr 18649658258520356683781 3458764513820540940 X X := fr_R
  replace hG := zbnd hG
  obtain ⟨p1, e2, hG⟩ := hG
  replace hX := fr_T hX (fr_M rfl rfl (w190 e2))
  by_cases c3 : (p1.2.1 69) = 5
  · rw [if_pos c3] at hG
    exact fr_T hX (wb243_125  hG)
  · rw [if_neg c3] at hG
    exact fr_T hX (wb243_125  hG)
set_option maxRecDepth 20000 in
theorem wb243_69 {n : Nat}   {l1 : Int32} {l2 : Int32} {l3 : Int32} {s0 : Int32} {X : zX} {p : Int32 × zX} (hG : gb243_69 n  l1 l2 l3 s0 X = some p) : fr 18649658258520356683781 3458764513820540940 X p.2 := by
  unfold gb243_69 at hG
  have hX : fr 18649658258520356683781 3458764513820540940 X X := fr_R
  replace hG := zbnd hG
  obtain ⟨p1, e2, hG⟩ := hG
  replace hX := fr_T hX (fr_M rfl rfl (w200 e2))
  by_cases c3 : (p1.2.1 69) = 3
  · rw [if_pos c3] at hG
    exact fr_T hX (wb243_85  hG)
  · rw [if_neg c3] at hG
    exact fr_T hX (wb243_85  hG)
set_option maxRecDepth 20000 in
theorem wb243_64 {n : Nat}   {l1 : Int32} {l2 : Int32} {l3 : Int32} {X : zX} {p : Int32 × zX} (hG : gb243_64 n  l1 l2 l3 X = some p) : fr 18649658258520356683781 3458764513820540940 X p.2 := by
  unfold gb243_64 at hG
  have hX : fr 18649658258520356683781 3458764513820540940 X X := fr_R
  exact fr_T hX (wb243_69  hG)
set_option maxRecDepth 20000 in
theorem w243 {n : Nat}  {X : zX} {p : Int32 × zX} (hG : g243 n  X = some p) : fr 18649658258520356683781 3458764513820540940 X p.2 := by
  unfold g243 at hG
  have hX : fr 18649658258520356683781 3458764513820540940 X X := fr_R
  replace hG := zlet_ex hG
  obtain ⟨X1, e2, hG⟩ := hG
  replace hX := fr_F hX (k := 68) rfl e2
  replace hG := zlet_ex hG
  obtain ⟨X3, e4, hG⟩ := hG
  replace hX := fr_F hX (k := 73) rfl e4
  replace hG := zbnd hG
  obtain ⟨p5, e6, hG⟩ := hG
  replace hX := fr_T hX (fr_M rfl rfl (w190 e6))
  replace hG := zbnd hG
  obtain ⟨p7, e8, hG⟩ := hG
  replace hX := fr_T hX (fr_M rfl rfl (w203 e8))
  replace hG := zbnd hG
  obtain ⟨p9, e10, hG⟩ := hG
  replace hX := fr_T hX (fr_M rfl rfl (w200 e10))
  replace hG := zbnd hG
  obtain ⟨p11, e12, hG⟩ := hG
  replace hX := fr_T hX (fr_M rfl rfl (w190 e12))
  replace hG := zbnd hG
  obtain ⟨p13, e14, hG⟩ := hG
  replace hX := fr_T hX (fr_M rfl rfl (w208 e14))
  by_cases c15 : (p13.2.1 69) = 2
  · rw [if_pos c15] at hG
    exact fr_T hX (wb243_64  hG)
  · rw [if_neg c15] at hG
    by_cases c16 : (p13.2.1 69) = 3
    · rw [if_pos c16] at hG
      exact fr_T hX (wb243_64  hG)
    · rw [if_neg c16] at hG
      exact fr_T hX (wb243_69  hG)
set_option maxRecDepth 20000 in
theorem w244 {n : Nat}  {X : zX} {p : Int32 × zX} (hG : g244 n  X = some p) : fr 36893488147419103233 0 X p.2 := by
  unfold g244 at hG
  have hX : fr 36893488147419103233 0 X X := fr_R
  replace hG := zlet_ex hG
  obtain ⟨X1, e2, hG⟩ := hG
  replace hX := fr_F hX (k := 0) rfl e2
  replace hG := zlet_ex hG
  obtain ⟨X3, e4, hG⟩ := hG
  replace hX := fr_F hX (k := 65) rfl e4
  replace hG := Option.some.inj hG
  subst hG
  exact hX
set_option maxRecDepth 20000 in
theorem w245 {n : Nat} {y1 : Int32} {X : zX} {p : Int32 × zX} (hG : g245 n y1 X = some p) : fr 5 0 X p.2 := by
  unfold g245 at hG
  have hX : fr 5 0 X X := fr_R
  replace hG := zbnd hG
  obtain ⟨p1, e2, hG⟩ := hG
  replace hX := fr_T hX (fr_M rfl rfl (w187 e2))
  replace hG := zbnd hG
  obtain ⟨p3, e4, hG⟩ := hG
  replace hX := fr_T hX (fr_M rfl rfl (w185 e4))
  by_cases c5 : p3.1 = 0
  · rw [if_pos c5] at hG
    replace hG := Option.some.inj hG
    subst hG
    exact hX
  · rw [if_neg c5] at hG
    replace hG := zlet_ex hG
    obtain ⟨X6, e7, hG⟩ := hG
    replace hX := fr_F hX (k := 2) rfl e7
    by_cases c8 : y1 = 0
    · rw [if_pos c8] at hG
      replace hG := zbnd hG
      obtain ⟨x11, e12, hG⟩ := hG
      replace hG := zbnd hG
      obtain ⟨p13, e14, hG⟩ := hG
      replace hX := fr_T hX (fr_M rfl rfl (w204 e14))
      replace hG := Option.some.inj hG
      subst hG
      exact hX
    · rw [if_neg c8] at hG
      by_cases c15 : y1 = 1
      · rw [if_pos c15] at hG
        replace hG := zbnd hG
        obtain ⟨x18, e19, hG⟩ := hG
        replace hG := zbnd hG
        obtain ⟨p20, e21, hG⟩ := hG
        replace hX := fr_T hX (fr_M rfl rfl (w204 e21))
        replace hG := Option.some.inj hG
        subst hG
        exact hX
      · rw [if_neg c15] at hG
        replace hG := zbnd hG
        obtain ⟨x24, e25, hG⟩ := hG
        replace hG := zbnd hG
        obtain ⟨p26, e27, hG⟩ := hG
        replace hX := fr_T hX (fr_M rfl rfl (w204 e27))
        replace hG := Option.some.inj hG
        subst hG
        exact hX
set_option maxRecDepth 20000 in
theorem wb246_128 {n : Nat}   {l1 : Int32} {l2 : Int32} {l3 : Int32} {l4 : Int32} {s0 : Int32} {X : zX} {p : Int32 × zX} (hG : gb246_128 n  l1 l2 l3 l4 s0 X = some p) : fr 1 0 X p.2 := by
  unfold gb246_128 at hG
  have hX : fr 1 0 X X := fr_R
  by_cases c1 : l3 = (-1)
  · rw [if_pos c1] at hG
    replace hG := zbnd hG
    obtain ⟨x3, e4, hG⟩ := hG
    replace hG := Option.some.inj hG
    subst hG
    exact hX
  · rw [if_neg c1] at hG
    replace hG := zbnd hG
    obtain ⟨x6, e7, hG⟩ := hG
    replace hG := zbnd hG
    obtain ⟨p8, e9, hG⟩ := hG
    replace hX := fr_T hX (fr_M rfl rfl (w187 e9))
    replace hG := zbnd hG
    obtain ⟨p10, e11, hG⟩ := hG
    replace hX := fr_T hX (fr_M rfl rfl (w185 e11))
    by_cases c12 : p10.1 = 0
    · rw [if_pos c12] at hG
      replace hG := Option.some.inj hG
      subst hG
      exact hX
    · rw [if_neg c12] at hG
      replace hG := zbnd hG
      obtain ⟨x14, e15, hG⟩ := hG
      replace hG := Option.some.inj hG
      subst hG
      exact hX
set_option maxRecDepth 20000 in
theorem wb246_51 {n : Nat}   {l1 : Int32} {l2 : Int32} {l3 : Int32} {s0 : Int32} {X : zX} {p : Int32 × zX} (hG : gb246_51 n  l1 l2 l3 s0 X = some p) : fr 1 0 X p.2 := by
  unfold gb246_51 at hG
  have hX : fr 1 0 X X := fr_R
  replace hG := zbnd hG
  obtain ⟨p1, e2, hG⟩ := hG
  replace hX := fr_T hX (fr_M rfl rfl (w187 e2))
  replace hG := zbnd hG
  obtain ⟨p3, e4, hG⟩ := hG
  replace hX := fr_T hX (fr_M rfl rfl (w185 e4))
  by_cases c5 : p3.1 = 0
  · rw [if_pos c5] at hG
    replace hG := Option.some.inj hG
    subst hG
    exact hX
  · rw [if_neg c5] at hG
    by_cases c6 : l1 = 0
    · rw [if_pos c6] at hG
      replace hG := zbnd hG
      obtain ⟨x8, e9, hG⟩ := hG
      exact fr_T hX (wb246_128  hG)
    · rw [if_neg c6] at hG
      by_cases c10 : l1 = 1
      · rw [if_pos c10] at hG
        replace hG := zbnd hG
        obtain ⟨x12, e13, hG⟩ := hG
        exact fr_T hX (wb246_128  hG)
      · rw [if_neg c10] at hG
        replace hG := zbnd hG
        obtain ⟨x15, e16, hG⟩ := hG
        exact fr_T hX (wb246_128  hG)
set_option maxRecDepth 20000 in
theorem w246 {n : Nat} {y1 : Int32} {y2 : Int32} {y3 : Int32} {X : zX} {p : Int32 × zX} (hG : g246 n y1 y2 y3 X = some p) : fr 1 0 X p.2 := by
  unfold g246 at hG
  have hX : fr 1 0 X X := fr_R
  by_cases c1 : y1 = 0
  · rw [if_pos c1] at hG
    replace hG := zbnd hG
    obtain ⟨x3, e4, hG⟩ := hG
    exact fr_T hX (wb246_51  hG)
  · rw [if_neg c1] at hG
    by_cases c5 : y1 = 1
    · rw [if_pos c5] at hG
      replace hG := zbnd hG
      obtain ⟨x7, e8, hG⟩ := hG
      exact fr_T hX (wb246_51  hG)
    · rw [if_neg c5] at hG
      by_cases c9 : y1 = 2
      · rw [if_pos c9] at hG
        replace hG := zbnd hG
        obtain ⟨x11, e12, hG⟩ := hG
        exact fr_T hX (wb246_51  hG)
      · rw [if_neg c9] at hG
        exact fr_T hX (wb246_51  hG)
set_option maxRecDepth 20000 in
theorem w248 {n : Nat} {y1 : Int32} {X : zX} {p : Int32 × zX} (hG : g248 n y1 X = some p) : fr 0 0 X p.2 := by
  unfold g248 at hG
  have hX : fr 0 0 X X := fr_R
  replace hG := zbnd hG
  obtain ⟨x2, e3, hG⟩ := hG
  replace hG := zbnd hG
  obtain ⟨p4, e5, hG⟩ := hG
  replace hX := fr_T hX (fr_M rfl rfl (w187 e5))
  replace hG := zgd_some hG
  obtain ⟨g6, hG⟩ := hG
  replace hG := Option.some.inj hG
  subst hG
  exact hX
set_option maxRecDepth 20000 in
theorem wb249_58 {n : Nat} {q10 : Int32 → Int32 → Int32 → zX → Option (Int32 × zX)} (hr10 : ∀ {l1 : Int32} {l2 : Int32} {l3 : Int32} {X : zX} {p : Int32 × zX}, q10 l1 l2 l3 X = some p → fr 0 0 X p.2) {l1 : Int32} {l2 : Int32} {l3 : Int32} {s0 : Int32} {X : zX} {p : Int32 × zX} (hG : gb249_58 n q10 l1 l2 l3 s0 X = some p) : fr 0 0 X p.2 := by
  unfold gb249_58 at hG
  have hX : fr 0 0 X X := fr_R
  exact fr_T hX (hr10 hG)
set_option maxRecDepth 20000 in
theorem wb249_57 {n : Nat} {q10 : Int32 → Int32 → Int32 → zX → Option (Int32 × zX)} (hr10 : ∀ {l1 : Int32} {l2 : Int32} {l3 : Int32} {X : zX} {p : Int32 × zX}, q10 l1 l2 l3 X = some p → fr 0 0 X p.2) {l1 : Int32} {l2 : Int32} {l3 : Int32} {X : zX} {p : Int32 × zX} (hG : gb249_57 n q10 l1 l2 l3 X = some p) : fr 0 0 X p.2 := by
  unfold gb249_57 at hG
  have hX : fr 0 0 X X := fr_R
  exact fr_T hX (wb249_58 hr10 hG)
set_option maxRecDepth 20000 in
theorem wb249_10 {n : Nat} {q10 : Int32 → Int32 → Int32 → zX → Option (Int32 × zX)} (hr10 : ∀ {l1 : Int32} {l2 : Int32} {l3 : Int32} {X : zX} {p : Int32 × zX}, q10 l1 l2 l3 X = some p → fr 0 0 X p.2) {l1 : Int32} {l2 : Int32} {l3 : Int32} {X : zX} {p : Int32 × zX} (hG : gb249_10 n q10 l1 l2 l3 X = some p) : fr 0 0 X p.2 := by
  unfold gb249_10 at hG
  have hX : fr 0 0 X X := fr_R
  replace hG := zbnd hG
  obtain ⟨x2, e3, hG⟩ := hG
  by_cases c4 : ((100 * (X.1 3)) + x2) ≤ l3
  · rw [if_pos c4] at hG
    replace hG := Option.some.inj hG
    subst hG
    exact hX
  · rw [if_neg c4] at hG
    replace hG := zbnd hG
    obtain ⟨x6, e7, hG⟩ := hG
    by_cases c8 : x6 = l1
    · rw [if_pos c8] at hG
      replace hG := zbnd hG
      obtain ⟨x10, e11, hG⟩ := hG
      by_cases c12 : x10 = (-1)
      · rw [if_pos c12] at hG
        exact fr_T hX (wb249_58 hr10 hG)
      · rw [if_neg c12] at hG
        exact fr_T hX (wb249_57 hr10 hG)
    · rw [if_neg c8] at hG
      exact fr_T hX (wb249_57 hr10 hG)
theorem wf249_10 {n : Nat}   (k : Nat) : ∀ {l1 : Int32} {l2 : Int32} {l3 : Int32} {X : zX} {p : Int32 × zX}, gf249_10 n  k l1 l2 l3 X = some p → fr 0 0 X p.2 := by
  induction k with
  | zero => intros; rename_i hG; cases hG
  | succ k ih => intros; rename_i hG; exact wb249_10 (n := n) (q10 := gf249_10 n  k) ih hG
set_option maxRecDepth 20000 in
theorem w249 {n : Nat} {y1 : Int32} {X : zX} {p : Int32 × zX} (hG : g249 n y1 X = some p) : fr 0 0 X p.2 := by
  unfold g249 at hG
  have hX : fr 0 0 X X := fr_R
  exact fr_T hX (wf249_10  n hG)
set_option maxRecDepth 20000 in
theorem wb247_23 {n : Nat}   {l1 : Int32} {l2 : Int32} {s0 : Int32} {X : zX} {p : Int32 × zX} (hG : gb247_23 n  l1 l2 s0 X = some p) : fr 1 0 X p.2 := by
  unfold gb247_23 at hG
  have hX : fr 1 0 X X := fr_R
  replace hG := zbnd hG
  obtain ⟨p1, e2, hG⟩ := hG
  replace hX := fr_T hX (fr_M rfl rfl (w185 e2))
  by_cases c3 : p1.1 = 0
  · rw [if_pos c3] at hG
    replace hG := Option.some.inj hG
    subst hG
    exact hX
  · rw [if_neg c3] at hG
    by_cases c4 : l2 = 0
    · rw [if_pos c4] at hG
      replace hG := zbnd hG
      obtain ⟨x6, e7, hG⟩ := hG
      replace hG := Option.some.inj hG
      subst hG
      exact hX
    · rw [if_neg c4] at hG
      by_cases c8 : l2 = 1
      · rw [if_pos c8] at hG
        replace hG := zbnd hG
        obtain ⟨x10, e11, hG⟩ := hG
        replace hG := Option.some.inj hG
        subst hG
        exact hX
      · rw [if_neg c8] at hG
        by_cases c12 : l2 = 2
        · rw [if_pos c12] at hG
          replace hG := zbnd hG
          obtain ⟨x14, e15, hG⟩ := hG
          replace hG := Option.some.inj hG
          subst hG
          exact hX
        · rw [if_neg c12] at hG
          by_cases c16 : l2 = 3
          · rw [if_pos c16] at hG
            replace hG := zbnd hG
            obtain ⟨p17, e18, hG⟩ := hG
            replace hX := fr_T hX (fr_M rfl rfl (w249 e18))
            replace hG := Option.some.inj hG
            subst hG
            exact hX
          · rw [if_neg c16] at hG
            replace hG := zbnd hG
            obtain ⟨x20, e21, hG⟩ := hG
            replace hG := Option.some.inj hG
            subst hG
            exact hX
set_option maxRecDepth 20000 in
theorem wb247_22 {n : Nat}   {l1 : Int32} {l2 : Int32} {X : zX} {p : Int32 × zX} (hG : gb247_22 n  l1 l2 X = some p) : fr 1 0 X p.2 := by
  unfold gb247_22 at hG
  have hX : fr 1 0 X X := fr_R
  exact fr_T hX (wb247_23  hG)
set_option maxRecDepth 20000 in
theorem w247 {n : Nat} {y1 : Int32} {y2 : Int32} {X : zX} {p : Int32 × zX} (hG : g247 n y1 y2 X = some p) : fr 1 0 X p.2 := by
  unfold g247 at hG
  have hX : fr 1 0 X X := fr_R
  replace hG := zbnd hG
  obtain ⟨p1, e2, hG⟩ := hG
  replace hX := fr_T hX (fr_M rfl rfl (w248 e2))
  by_cases c3 : p1.1 = 0
  · rw [if_pos c3] at hG
    exact fr_T hX (wb247_22  hG)
  · rw [if_neg c3] at hG
    replace hG := zbnd hG
    obtain ⟨p4, e5, hG⟩ := hG
    replace hX := fr_T hX (fr_M rfl rfl (w187 e5))
    by_cases c6 : p4.1 = 0
    · rw [if_pos c6] at hG
      exact fr_T hX (wb247_22  hG)
    · rw [if_neg c6] at hG
      exact fr_T hX (wb247_23  hG)
set_option maxRecDepth 20000 in
theorem wb254_2 {n : Nat} {q2 : Int32 → Int32 → zX → Option (Int32 × zX)} (hr2 : ∀ {l1 : Int32} {l2 : Int32} {X : zX} {p : Int32 × zX}, q2 l1 l2 X = some p → fr 0 0 X p.2) {l1 : Int32} {l2 : Int32} {X : zX} {p : Int32 × zX} (hG : gb254_2 n q2 l1 l2 X = some p) : fr 0 0 X p.2 := by
  unfold gb254_2 at hG
  have hX : fr 0 0 X X := fr_R
  by_cases c1 : (X.1 65) ≤ l2
  · rw [if_pos c1] at hG
    replace hG := Option.some.inj hG
    subst hG
    exact hX
  · rw [if_neg c1] at hG
    replace hG := zbnd hG
    obtain ⟨p2, e3, hG⟩ := hG
    replace hX := fr_T hX (fr_M rfl rfl (w238 e3))
    by_cases c4 : p2.1 = 0
    · rw [if_pos c4] at hG
      exact fr_T hX (hr2 hG)
    · rw [if_neg c4] at hG
      replace hG := Option.some.inj hG
      subst hG
      exact hX
theorem wf254_2 {n : Nat}   (k : Nat) : ∀ {l1 : Int32} {l2 : Int32} {X : zX} {p : Int32 × zX}, gf254_2 n  k l1 l2 X = some p → fr 0 0 X p.2 := by
  induction k with
  | zero => intros; rename_i hG; cases hG
  | succ k ih => intros; rename_i hG; exact wb254_2 (n := n) (q2 := gf254_2 n  k) ih hG
set_option maxRecDepth 20000 in
theorem w254 {n : Nat} {y1 : Int32} {X : zX} {p : Int32 × zX} (hG : g254 n y1 X = some p) : fr 0 0 X p.2 := by
  unfold g254 at hG
  have hX : fr 0 0 X X := fr_R
  exact fr_T hX (wf254_2  n hG)
set_option maxRecDepth 20000 in
theorem w255 {n : Nat} {y1 : Int32} {y2 : Int32} {X : zX} {p : Int32 × zX} (hG : g255 n y1 y2 X = some p) : fr 0 0 X p.2 := by
  unfold g255 at hG
  have hX : fr 0 0 X X := fr_R
  replace hG := zbnd hG
  obtain ⟨x2, e3, hG⟩ := hG
  replace hG := zbnd hG
  obtain ⟨x5, e6, hG⟩ := hG
  by_cases c7 : x2 = x5
  · rw [if_pos c7] at hG
    replace hG := zbnd hG
    obtain ⟨x9, e10, hG⟩ := hG
    by_cases c11 : x9 = 0
    · rw [if_pos c11] at hG
      replace hG := zbnd hG
      obtain ⟨x13, e14, hG⟩ := hG
      replace hG := zbnd hG
      obtain ⟨x16, e17, hG⟩ := hG
      by_cases c18 : x13 = x16
      · rw [if_pos c18] at hG
        replace hG := Option.some.inj hG
        subst hG
        exact hX
      · rw [if_neg c18] at hG
        replace hG := Option.some.inj hG
        subst hG
        exact hX
    · rw [if_neg c11] at hG
      replace hG := zbnd hG
      obtain ⟨x20, e21, hG⟩ := hG
      replace hG := zbnd hG
      obtain ⟨p22, e23, hG⟩ := hG
      replace hX := fr_T hX (fr_M rfl rfl (w238 e23))
      by_cases c24 : p22.1 = 0
      · rw [if_pos c24] at hG
        replace hG := Option.some.inj hG
        subst hG
        exact hX
      · rw [if_neg c24] at hG
        replace hG := Option.some.inj hG
        subst hG
        exact hX
  · rw [if_neg c7] at hG
    replace hG := Option.some.inj hG
    subst hG
    exact hX
set_option maxRecDepth 20000 in
theorem wb256_81 {n : Nat} {q31 : Int32 → Int32 → Int32 → Int32 → Int32 → zX → Option (Int32 × zX)} (hr31 : ∀ {l1 : Int32} {l2 : Int32} {l3 : Int32} {l4 : Int32} {l5 : Int32} {X : zX} {p : Int32 × zX}, q31 l1 l2 l3 l4 l5 X = some p → fr 0 0 X p.2) {l1 : Int32} {l2 : Int32} {l3 : Int32} {l4 : Int32} {l5 : Int32} {s0 : Int32} {X : zX} {p : Int32 × zX} (hG : gb256_81 n q31 l1 l2 l3 l4 l5 s0 X = some p) : fr 0 0 X p.2 := by
  unfold gb256_81 at hG
  have hX : fr 0 0 X X := fr_R
  exact fr_T hX (hr31 hG)
set_option maxRecDepth 20000 in
theorem wb256_31 {n : Nat} {q31 : Int32 → Int32 → Int32 → Int32 → Int32 → zX → Option (Int32 × zX)} (hr31 : ∀ {l1 : Int32} {l2 : Int32} {l3 : Int32} {l4 : Int32} {l5 : Int32} {X : zX} {p : Int32 × zX}, q31 l1 l2 l3 l4 l5 X = some p → fr 0 0 X p.2) {l1 : Int32} {l2 : Int32} {l3 : Int32} {l4 : Int32} {l5 : Int32} {X : zX} {p : Int32 × zX} (hG : gb256_31 n q31 l1 l2 l3 l4 l5 X = some p) : fr 0 0 X p.2 := by
  unfold gb256_31 at hG
  have hX : fr 0 0 X X := fr_R
  replace hG := zbnd hG
  obtain ⟨x2, e3, hG⟩ := hG
  by_cases c4 : x2 ≤ l5
  · rw [if_pos c4] at hG
    replace hG := zgd_some hG
    obtain ⟨g5, hG⟩ := hG
    replace hG := Option.some.inj hG
    subst hG
    exact hX
  · rw [if_neg c4] at hG
    by_cases c6 : l4 = 0
    · rw [if_pos c6] at hG
      replace hG := zgd_some hG
      obtain ⟨g7, hG⟩ := hG
      replace hG := Option.some.inj hG
      subst hG
      exact hX
    · rw [if_neg c6] at hG
      replace hG := zbnd hG
      obtain ⟨x9, e10, hG⟩ := hG
      replace hG := zbnd hG
      obtain ⟨x12, e13, hG⟩ := hG
      by_cases c14 : x9 = x12
      · rw [if_pos c14] at hG
        exact fr_T hX (wb256_81 hr31 hG)
      · rw [if_neg c14] at hG
        exact fr_T hX (wb256_81 hr31 hG)
theorem wf256_31 {n : Nat}   (k : Nat) : ∀ {l1 : Int32} {l2 : Int32} {l3 : Int32} {l4 : Int32} {l5 : Int32} {X : zX} {p : Int32 × zX}, gf256_31 n  k l1 l2 l3 l4 l5 X = some p → fr 0 0 X p.2 := by
  induction k with
  | zero => intros; rename_i hG; cases hG
  | succ k ih => intros; rename_i hG; exact wb256_31 (n := n) (q31 := gf256_31 n  k) ih hG
set_option maxRecDepth 20000 in
theorem wb256_26 {n : Nat}   {l1 : Int32} {l2 : Int32} {l3 : Int32} {s0 : Int32} {X : zX} {p : Int32 × zX} (hG : gb256_26 n  l1 l2 l3 s0 X = some p) : fr 0 0 X p.2 := by
  unfold gb256_26 at hG
  have hX : fr 0 0 X X := fr_R
  exact fr_T hX (wf256_31  n hG)
set_option maxRecDepth 20000 in
theorem wb256_25 {n : Nat}   {l1 : Int32} {l2 : Int32} {l3 : Int32} {X : zX} {p : Int32 × zX} (hG : gb256_25 n  l1 l2 l3 X = some p) : fr 0 0 X p.2 := by
  unfold gb256_25 at hG
  have hX : fr 0 0 X X := fr_R
  exact fr_T hX (wb256_26  hG)
set_option maxRecDepth 20000 in
theorem w256 {n : Nat} {y1 : Int32} {y2 : Int32} {y3 : Int32} {X : zX} {p : Int32 × zX} (hG : g256 n y1 y2 y3 X = some p) : fr 0 0 X p.2 := by
  unfold g256 at hG
  have hX : fr 0 0 X X := fr_R
  by_cases c1 : y3 < 0
  · rw [if_pos c1] at hG
    exact fr_T hX (wb256_25  hG)
  · rw [if_neg c1] at hG
    replace hG := zbnd hG
    obtain ⟨x3, e4, hG⟩ := hG
    replace hG := zbnd hG
    obtain ⟨x6, e7, hG⟩ := hG
    by_cases c8 : x6 < (y3 + x3)
    · rw [if_pos c8] at hG
      exact fr_T hX (wb256_25  hG)
    · rw [if_neg c8] at hG
      exact fr_T hX (wb256_26  hG)
set_option maxRecDepth 20000 in
theorem wb257_36 {n : Nat} {q5 : Int32 → Int32 → Int32 → Int32 → zX → Option (Int32 × zX)} (hr5 : ∀ {l1 : Int32} {l2 : Int32} {l3 : Int32} {l4 : Int32} {X : zX} {p : Int32 × zX}, q5 l1 l2 l3 l4 X = some p → fr 0 0 X p.2) {l1 : Int32} {l2 : Int32} {l3 : Int32} {l4 : Int32} {s0 : Int32} {X : zX} {p : Int32 × zX} (hG : gb257_36 n q5 l1 l2 l3 l4 s0 X = some p) : fr 0 0 X p.2 := by
  unfold gb257_36 at hG
  have hX : fr 0 0 X X := fr_R
  exact fr_T hX (hr5 hG)
set_option maxRecDepth 20000 in
theorem wb257_31 {n : Nat} {q5 : Int32 → Int32 → Int32 → Int32 → zX → Option (Int32 × zX)} (hr5 : ∀ {l1 : Int32} {l2 : Int32} {l3 : Int32} {l4 : Int32} {X : zX} {p : Int32 × zX}, q5 l1 l2 l3 l4 X = some p → fr 0 0 X p.2) {l1 : Int32} {l2 : Int32} {l3 : Int32} {l4 : Int32} {X : zX} {p : Int32 × zX} (hG : gb257_31 n q5 l1 l2 l3 l4 X = some p) : fr 0 0 X p.2 := by
  unfold gb257_31 at hG
  have hX : fr 0 0 X X := fr_R
  exact fr_T hX (wb257_36 hr5 hG)
set_option maxRecDepth 20000 in
theorem wb257_5 {n : Nat} {q5 : Int32 → Int32 → Int32 → Int32 → zX → Option (Int32 × zX)} (hr5 : ∀ {l1 : Int32} {l2 : Int32} {l3 : Int32} {l4 : Int32} {X : zX} {p : Int32 × zX}, q5 l1 l2 l3 l4 X = some p → fr 0 0 X p.2) {l1 : Int32} {l2 : Int32} {l3 : Int32} {l4 : Int32} {X : zX} {p : Int32 × zX} (hG : gb257_5 n q5 l1 l2 l3 l4 X = some p) : fr 0 0 X p.2 := by
  unfold gb257_5 at hG
  have hX : fr 0 0 X X := fr_R
  replace hG := zbnd hG
  obtain ⟨x2, e3, hG⟩ := hG
  by_cases c4 : x2 < l4
  · rw [if_pos c4] at hG
    replace hG := zgd_some hG
    obtain ⟨g5, hG⟩ := hG
    replace hG := Option.some.inj hG
    subst hG
    exact hX
  · rw [if_neg c4] at hG
    by_cases c6 : l3 = 0
    · rw [if_pos c6] at hG
      replace hG := zbnd hG
      obtain ⟨p7, e8, hG⟩ := hG
      replace hX := fr_T hX (fr_M rfl rfl (w256 e8))
      by_cases c9 : p7.1 = 0
      · rw [if_pos c9] at hG
        exact fr_T hX (wb257_36 hr5 hG)
      · rw [if_neg c9] at hG
        exact fr_T hX (wb257_31 hr5 hG)
    · rw [if_neg c6] at hG
      exact fr_T hX (wb257_31 hr5 hG)
theorem wf257_5 {n : Nat}   (k : Nat) : ∀ {l1 : Int32} {l2 : Int32} {l3 : Int32} {l4 : Int32} {X : zX} {p : Int32 × zX}, gf257_5 n  k l1 l2 l3 l4 X = some p → fr 0 0 X p.2 := by
  induction k with
  | zero => intros; rename_i hG; cases hG
  | succ k ih => intros; rename_i hG; exact wb257_5 (n := n) (q5 := gf257_5 n  k) ih hG
set_option maxRecDepth 20000 in
theorem w257 {n : Nat} {y1 : Int32} {y2 : Int32} {X : zX} {p : Int32 × zX} (hG : g257 n y1 y2 X = some p) : fr 0 0 X p.2 := by
  unfold g257 at hG
  have hX : fr 0 0 X X := fr_R
  exact fr_T hX (wf257_5  n hG)
set_option maxRecDepth 20000 in
theorem wb253_296 {n : Nat} {q261 : Int32 → Int32 → Int32 → Int32 → Int32 → zX → Option (Int32 × zX)} (hr261 : ∀ {l1 : Int32} {l2 : Int32} {l3 : Int32} {l4 : Int32} {l5 : Int32} {X : zX} {p : Int32 × zX}, q261 l1 l2 l3 l4 l5 X = some p → fr 0 0 X p.2) {l1 : Int32} {l2 : Int32} {l3 : Int32} {l4 : Int32} {l5 : Int32} {s0 : Int32} {X : zX} {p : Int32 × zX} (hG : gb253_296 n q261 l1 l2 l3 l4 l5 s0 X = some p) : fr 0 0 X p.2 := by
  unfold gb253_296 at hG
  have hX : fr 0 0 X X := fr_R
  replace hG := zbnd hG
  obtain ⟨x2, e3, hG⟩ := hG
  exact fr_T hX (hr261 hG)
set_option maxRecDepth 20000 in
theorem wb253_291 {n : Nat} {q261 : Int32 → Int32 → Int32 → Int32 → Int32 → zX → Option (Int32 × zX)} (hr261 : ∀ {l1 : Int32} {l2 : Int32} {l3 : Int32} {l4 : Int32} {l5 : Int32} {X : zX} {p : Int32 × zX}, q261 l1 l2 l3 l4 l5 X = some p → fr 0 0 X p.2) {l1 : Int32} {l2 : Int32} {l3 : Int32} {l4 : Int32} {l5 : Int32} {X : zX} {p : Int32 × zX} (hG : gb253_291 n q261 l1 l2 l3 l4 l5 X = some p) : fr 0 0 X p.2 := by
  unfold gb253_291 at hG
  have hX : fr 0 0 X X := fr_R
  exact fr_T hX (wb253_296 hr261 hG)
set_option maxRecDepth 20000 in
theorem wb253_261 {n : Nat} {q261 : Int32 → Int32 → Int32 → Int32 → Int32 → zX → Option (Int32 × zX)} (hr261 : ∀ {l1 : Int32} {l2 : Int32} {l3 : Int32} {l4 : Int32} {l5 : Int32} {X : zX} {p : Int32 × zX}, q261 l1 l2 l3 l4 l5 X = some p → fr 0 0 X p.2) {l1 : Int32} {l2 : Int32} {l3 : Int32} {l4 : Int32} {l5 : Int32} {X : zX} {p : Int32 × zX} (hG : gb253_261 n q261 l1 l2 l3 l4 l5 X = some p) : fr 0 0 X p.2 := by
  unfold gb253_261 at hG
  have hX : fr 0 0 X X := fr_R
  by_cases c1 : l5 = (-1)
  · rw [if_pos c1] at hG
    replace hG := zgd_some hG
    obtain ⟨g2, hG⟩ := hG
    replace hG := Option.some.inj hG
    subst hG
    exact hX
  · rw [if_neg c1] at hG
    by_cases c3 : l4 = 0
    · rw [if_pos c3] at hG
      replace hG := zbnd hG
      obtain ⟨p4, e5, hG⟩ := hG
      replace hX := fr_T hX (fr_M rfl rfl (w255 e5))
      by_cases c6 : p4.1 = 0
      · rw [if_pos c6] at hG
        exact fr_T hX (wb253_296 hr261 hG)
      · rw [if_neg c6] at hG
        exact fr_T hX (wb253_291 hr261 hG)
    · rw [if_neg c3] at hG
      exact fr_T hX (wb253_291 hr261 hG)
theorem wf253_261 {n : Nat}   (k : Nat) : ∀ {l1 : Int32} {l2 : Int32} {l3 : Int32} {l4 : Int32} {l5 : Int32} {X : zX} {p : Int32 × zX}, gf253_261 n  k l1 l2 l3 l4 l5 X = some p → fr 0 0 X p.2 := by
  induction k with
  | zero => intros; rename_i hG; cases hG
  | succ k ih => intros; rename_i hG; exact wb253_261 (n := n) (q261 := gf253_261 n  k) ih hG
set_option maxRecDepth 20000 in
theorem w253 {n : Nat} {y1 : Int32} {X : zX} {p : Int32 × zX} (hG : g253 n y1 X = some p) : fr 0 0 X p.2 := by
  unfold g253 at hG
  have hX : fr 0 0 X X := fr_R
  replace hG := zbnd hG
  obtain ⟨x2, e3, hG⟩ := hG
  replace hG := zbnd hG
  obtain ⟨p4, e5, hG⟩ := hG
  replace hX := fr_T hX (fr_M rfl rfl (w254 e5))
  by_cases c6 : p4.1 = (-1)
  · rw [if_pos c6] at hG
    replace hG := Option.some.inj hG
    subst hG
    exact hX
  · rw [if_neg c6] at hG
    replace hG := zbnd hG
    obtain ⟨x8, e9, hG⟩ := hG
    by_cases c10 : x8 = 3
    · rw [if_pos c10] at hG
      replace hG := zbnd hG
      obtain ⟨p11, e12, hG⟩ := hG
      replace hX := fr_T hX (fr_M rfl rfl (w255 e12))
      replace hG := zgd_some hG
      obtain ⟨g13, hG⟩ := hG
      replace hG := Option.some.inj hG
      subst hG
      exact hX
    rw [if_neg c10] at hG
    by_cases c14 : x8 = 4
    · rw [if_pos c14] at hG
      replace hG := zbnd hG
      obtain ⟨x16, e17, hG⟩ := hG
      by_cases c18 : x16 = 0
      · rw [if_pos c18] at hG
        replace hG := zbnd hG
        obtain ⟨x20, e21, hG⟩ := hG
        replace hG := zbnd hG
        obtain ⟨x23, e24, hG⟩ := hG
        by_cases c25 : x23 ≤ x20
        · rw [if_pos c25] at hG
          replace hG := Option.some.inj hG
          subst hG
          exact hX
        · rw [if_neg c25] at hG
          replace hG := Option.some.inj hG
          subst hG
          exact hX
      · rw [if_neg c18] at hG
        replace hG := Option.some.inj hG
        subst hG
        exact hX
    rw [if_neg c14] at hG
    by_cases c26 : x8 = 5
    · rw [if_pos c26] at hG
      replace hG := zbnd hG
      obtain ⟨x28, e29, hG⟩ := hG
      by_cases c30 : x28 = 0
      · rw [if_pos c30] at hG
        replace hG := zbnd hG
        obtain ⟨x32, e33, hG⟩ := hG
        replace hG := zbnd hG
        obtain ⟨x35, e36, hG⟩ := hG
        by_cases c37 : x32 ≤ x35
        · rw [if_pos c37] at hG
          replace hG := Option.some.inj hG
          subst hG
          exact hX
        · rw [if_neg c37] at hG
          replace hG := Option.some.inj hG
          subst hG
          exact hX
      · rw [if_neg c30] at hG
        replace hG := Option.some.inj hG
        subst hG
        exact hX
    rw [if_neg c26] at hG
    by_cases c38 : x8 = 6
    · rw [if_pos c38] at hG
      replace hG := zbnd hG
      obtain ⟨x40, e41, hG⟩ := hG
      by_cases c42 : x40 = 0
      · rw [if_pos c42] at hG
        replace hG := Option.some.inj hG
        subst hG
        exact hX
      · rw [if_neg c42] at hG
        replace hG := zbnd hG
        obtain ⟨x44, e45, hG⟩ := hG
        replace hG := zbnd hG
        obtain ⟨p46, e47, hG⟩ := hG
        replace hX := fr_T hX (fr_M rfl rfl (w256 e47))
        by_cases c48 : p46.1 = 0
        · rw [if_pos c48] at hG
          replace hG := Option.some.inj hG
          subst hG
          exact hX
        · rw [if_neg c48] at hG
          replace hG := Option.some.inj hG
          subst hG
          exact hX
    rw [if_neg c38] at hG
    by_cases c49 : x8 = 7
    · rw [if_pos c49] at hG
      replace hG := zbnd hG
      obtain ⟨x51, e52, hG⟩ := hG
      by_cases c53 : x51 = 0
      · rw [if_pos c53] at hG
        replace hG := Option.some.inj hG
        subst hG
        exact hX
      · rw [if_neg c53] at hG
        replace hG := zbnd hG
        obtain ⟨x55, e56, hG⟩ := hG
        replace hG := zbnd hG
        obtain ⟨x58, e59, hG⟩ := hG
        replace hG := zbnd hG
        obtain ⟨x62, e63, hG⟩ := hG
        replace hG := zbnd hG
        obtain ⟨x64, e65, hG⟩ := hG
        replace hG := zbnd hG
        obtain ⟨p66, e67, hG⟩ := hG
        replace hX := fr_T hX (fr_M rfl rfl (w256 e67))
        by_cases c68 : p66.1 = 0
        · rw [if_pos c68] at hG
          replace hG := Option.some.inj hG
          subst hG
          exact hX
        · rw [if_neg c68] at hG
          replace hG := Option.some.inj hG
          subst hG
          exact hX
    rw [if_neg c49] at hG
    by_cases c69 : x8 = 8
    · rw [if_pos c69] at hG
      replace hG := zbnd hG
      obtain ⟨x71, e72, hG⟩ := hG
      by_cases c73 : x71 = 0
      · rw [if_pos c73] at hG
        replace hG := Option.some.inj hG
        subst hG
        exact hX
      · rw [if_neg c73] at hG
        replace hG := zbnd hG
        obtain ⟨x75, e76, hG⟩ := hG
        replace hG := zbnd hG
        obtain ⟨p77, e78, hG⟩ := hG
        replace hX := fr_T hX (fr_M rfl rfl (w257 e78))
        by_cases c79 : p77.1 = 0
        · rw [if_pos c79] at hG
          replace hG := Option.some.inj hG
          subst hG
          exact hX
        · rw [if_neg c79] at hG
          replace hG := Option.some.inj hG
          subst hG
          exact hX
    rw [if_neg c69] at hG
    by_cases c80 : x8 = 9
    · rw [if_pos c80] at hG
      replace hG := zbnd hG
      obtain ⟨p81, e82, hG⟩ := hG
      replace hX := fr_T hX (fr_M rfl rfl (w255 e82))
      replace hG := zbnd hG
      obtain ⟨x84, e85, hG⟩ := hG
      exact fr_T hX (wf253_261  n hG)
    rw [if_neg c80] at hG
    replace hG := Option.some.inj hG
    subst hG
    exact hX
set_option maxRecDepth 20000 in
theorem wb252_308 {n : Nat} {q3 : Int32 → Int32 → Int32 → Int32 → zX → Option (Int32 × zX)} (hr3 : ∀ {l1 : Int32} {l2 : Int32} {l3 : Int32} {l4 : Int32} {X : zX} {p : Int32 × zX}, q3 l1 l2 l3 l4 X = some p → fr 0 295147905179352825856 X p.2) {l1 : Int32} {l2 : Int32} {l3 : Int32} {l4 : Int32} {l5 : Int32} {l6 : Int32} {l7 : Int32} {X : zX} {p : Int32 × zX} (hG : gb252_308 n q3 l1 l2 l3 l4 l5 l6 l7 X = some p) : fr 0 295147905179352825856 X p.2 := by
  unfold gb252_308 at hG
  have hX : fr 0 295147905179352825856 X X := fr_R
  replace hG := zbnd hG
  obtain ⟨X2, e3, hG⟩ := hG
  replace hX := fr_W hX (i := 68) rfl e3
  exact fr_T hX (hr3 hG)
set_option maxRecDepth 20000 in
theorem wb252_170 {n : Nat} {q3 : Int32 → Int32 → Int32 → Int32 → zX → Option (Int32 × zX)} (hr3 : ∀ {l1 : Int32} {l2 : Int32} {l3 : Int32} {l4 : Int32} {X : zX} {p : Int32 × zX}, q3 l1 l2 l3 l4 X = some p → fr 0 295147905179352825856 X p.2) {l1 : Int32} {l2 : Int32} {l3 : Int32} {l4 : Int32} {l5 : Int32} {l6 : Int32} {l7 : Int32} {s0 : Int32} {X : zX} {p : Int32 × zX} (hG : gb252_170 n q3 l1 l2 l3 l4 l5 l6 l7 s0 X = some p) : fr 0 295147905179352825856 X p.2 := by
  unfold gb252_170 at hG
  have hX : fr 0 295147905179352825856 X X := fr_R
  exact fr_T hX (wb252_308 hr3 hG)
set_option maxRecDepth 20000 in
theorem wb252_210 {n : Nat} {q3 : Int32 → Int32 → Int32 → Int32 → zX → Option (Int32 × zX)} {q184 : Int32 → Int32 → Int32 → Int32 → Int32 → Int32 → Int32 → Int32 → zX → Option (Int32 × zX)} (hr3 : ∀ {l1 : Int32} {l2 : Int32} {l3 : Int32} {l4 : Int32} {X : zX} {p : Int32 × zX}, q3 l1 l2 l3 l4 X = some p → fr 0 295147905179352825856 X p.2) (hr184 : ∀ {l1 : Int32} {l2 : Int32} {l3 : Int32} {l4 : Int32} {l5 : Int32} {l6 : Int32} {l7 : Int32} {l8 : Int32} {X : zX} {p : Int32 × zX}, q184 l1 l2 l3 l4 l5 l6 l7 l8 X = some p → fr 0 295147905179352825856 X p.2) {l1 : Int32} {l2 : Int32} {l3 : Int32} {l4 : Int32} {l5 : Int32} {l6 : Int32} {l7 : Int32} {l8 : Int32} {s0 : Int32} {X : zX} {p : Int32 × zX} (hG : gb252_210 n q3 q184 l1 l2 l3 l4 l5 l6 l7 l8 s0 X = some p) : fr 0 295147905179352825856 X p.2 := by
  unfold gb252_210 at hG
  have hX : fr 0 295147905179352825856 X X := fr_R
  replace hG := zbnd hG
  obtain ⟨x2, e3, hG⟩ := hG
  exact fr_T hX (hr184 hG)
set_option maxRecDepth 20000 in
theorem wb252_205 {n : Nat} {q3 : Int32 → Int32 → Int32 → Int32 → zX → Option (Int32 × zX)} {q184 : Int32 → Int32 → Int32 → Int32 → Int32 → Int32 → Int32 → Int32 → zX → Option (Int32 × zX)} (hr3 : ∀ {l1 : Int32} {l2 : Int32} {l3 : Int32} {l4 : Int32} {X : zX} {p : Int32 × zX}, q3 l1 l2 l3 l4 X = some p → fr 0 295147905179352825856 X p.2) (hr184 : ∀ {l1 : Int32} {l2 : Int32} {l3 : Int32} {l4 : Int32} {l5 : Int32} {l6 : Int32} {l7 : Int32} {l8 : Int32} {X : zX} {p : Int32 × zX}, q184 l1 l2 l3 l4 l5 l6 l7 l8 X = some p → fr 0 295147905179352825856 X p.2) {l1 : Int32} {l2 : Int32} {l3 : Int32} {l4 : Int32} {l5 : Int32} {l6 : Int32} {l7 : Int32} {l8 : Int32} {X : zX} {p : Int32 × zX} (hG : gb252_205 n q3 q184 l1 l2 l3 l4 l5 l6 l7 l8 X = some p) : fr 0 295147905179352825856 X p.2 := by
  unfold gb252_205 at hG
  have hX : fr 0 295147905179352825856 X X := fr_R
  exact fr_T hX (wb252_210 hr3 hr184 hG)
set_option maxRecDepth 20000 in
theorem wb252_184 {n : Nat} {q3 : Int32 → Int32 → Int32 → Int32 → zX → Option (Int32 × zX)} {q184 : Int32 → Int32 → Int32 → Int32 → Int32 → Int32 → Int32 → Int32 → zX → Option (Int32 × zX)} (hr3 : ∀ {l1 : Int32} {l2 : Int32} {l3 : Int32} {l4 : Int32} {X : zX} {p : Int32 × zX}, q3 l1 l2 l3 l4 X = some p → fr 0 295147905179352825856 X p.2) (hr184 : ∀ {l1 : Int32} {l2 : Int32} {l3 : Int32} {l4 : Int32} {l5 : Int32} {l6 : Int32} {l7 : Int32} {l8 : Int32} {X : zX} {p : Int32 × zX}, q184 l1 l2 l3 l4 l5 l6 l7 l8 X = some p → fr 0 295147905179352825856 X p.2) {l1 : Int32} {l2 : Int32} {l3 : Int32} {l4 : Int32} {l5 : Int32} {l6 : Int32} {l7 : Int32} {l8 : Int32} {X : zX} {p : Int32 × zX} (hG : gb252_184 n q3 q184 l1 l2 l3 l4 l5 l6 l7 l8 X = some p) : fr 0 295147905179352825856 X p.2 := by
  unfold gb252_184 at hG
  have hX : fr 0 295147905179352825856 X X := fr_R
  by_cases c1 : l8 = (-1)
  · rw [if_pos c1] at hG
    exact fr_T hX (wb252_308 hr3 hG)
  · rw [if_neg c1] at hG
    by_cases c2 : l7 = 0
    · rw [if_pos c2] at hG
      replace hG := zbnd hG
      obtain ⟨x4, e5, hG⟩ := hG
      by_cases c6 : x4 = 0
      · rw [if_pos c6] at hG
        exact fr_T hX (wb252_210 hr3 hr184 hG)
      · rw [if_neg c6] at hG
        exact fr_T hX (wb252_205 hr3 hr184 hG)
    · rw [if_neg c2] at hG
      exact fr_T hX (wb252_205 hr3 hr184 hG)
theorem wf252_184 {n : Nat} {q3 : Int32 → Int32 → Int32 → Int32 → zX → Option (Int32 × zX)} (hr3 : ∀ {l1 : Int32} {l2 : Int32} {l3 : Int32} {l4 : Int32} {X : zX} {p : Int32 × zX}, q3 l1 l2 l3 l4 X = some p → fr 0 295147905179352825856 X p.2) (k : Nat) : ∀ {l1 : Int32} {l2 : Int32} {l3 : Int32} {l4 : Int32} {l5 : Int32} {l6 : Int32} {l7 : Int32} {l8 : Int32} {X : zX} {p : Int32 × zX}, gf252_184 n q3 k l1 l2 l3 l4 l5 l6 l7 l8 X = some p → fr 0 295147905179352825856 X p.2 := by
  induction k with
  | zero => intros; rename_i hG; cases hG
  | succ k ih => intros; rename_i hG; exact wb252_184 (n := n) (q3 := q3) (q184 := gf252_184 n q3 k) hr3 ih hG
set_option maxRecDepth 20000 in
theorem wb252_274 {n : Nat} {q3 : Int32 → Int32 → Int32 → Int32 → zX → Option (Int32 × zX)} {q248 : Int32 → Int32 → Int32 → Int32 → Int32 → Int32 → Int32 → Int32 → zX → Option (Int32 × zX)} (hr3 : ∀ {l1 : Int32} {l2 : Int32} {l3 : Int32} {l4 : Int32} {X : zX} {p : Int32 × zX}, q3 l1 l2 l3 l4 X = some p → fr 0 295147905179352825856 X p.2) (hr248 : ∀ {l1 : Int32} {l2 : Int32} {l3 : Int32} {l4 : Int32} {l5 : Int32} {l6 : Int32} {l7 : Int32} {l8 : Int32} {X : zX} {p : Int32 × zX}, q248 l1 l2 l3 l4 l5 l6 l7 l8 X = some p → fr 0 295147905179352825856 X p.2) {l1 : Int32} {l2 : Int32} {l3 : Int32} {l4 : Int32} {l5 : Int32} {l6 : Int32} {l7 : Int32} {l8 : Int32} {s0 : Int32} {X : zX} {p : Int32 × zX} (hG : gb252_274 n q3 q248 l1 l2 l3 l4 l5 l6 l7 l8 s0 X = some p) : fr 0 295147905179352825856 X p.2 := by
  unfold gb252_274 at hG
  have hX : fr 0 295147905179352825856 X X := fr_R
  replace hG := zbnd hG
  obtain ⟨x2, e3, hG⟩ := hG
  exact fr_T hX (hr248 hG)
set_option maxRecDepth 20000 in
theorem wb252_273 {n : Nat} {q3 : Int32 → Int32 → Int32 → Int32 → zX → Option (Int32 × zX)} {q248 : Int32 → Int32 → Int32 → Int32 → Int32 → Int32 → Int32 → Int32 → zX → Option (Int32 × zX)} (hr3 : ∀ {l1 : Int32} {l2 : Int32} {l3 : Int32} {l4 : Int32} {X : zX} {p : Int32 × zX}, q3 l1 l2 l3 l4 X = some p → fr 0 295147905179352825856 X p.2) (hr248 : ∀ {l1 : Int32} {l2 : Int32} {l3 : Int32} {l4 : Int32} {l5 : Int32} {l6 : Int32} {l7 : Int32} {l8 : Int32} {X : zX} {p : Int32 × zX}, q248 l1 l2 l3 l4 l5 l6 l7 l8 X = some p → fr 0 295147905179352825856 X p.2) {l1 : Int32} {l2 : Int32} {l3 : Int32} {l4 : Int32} {l5 : Int32} {l6 : Int32} {l7 : Int32} {l8 : Int32} {X : zX} {p : Int32 × zX} (hG : gb252_273 n q3 q248 l1 l2 l3 l4 l5 l6 l7 l8 X = some p) : fr 0 295147905179352825856 X p.2 := by
  unfold gb252_273 at hG
  have hX : fr 0 295147905179352825856 X X := fr_R
  exact fr_T hX (wb252_274 hr3 hr248 hG)
set_option maxRecDepth 20000 in
theorem wb252_248 {n : Nat} {q3 : Int32 → Int32 → Int32 → Int32 → zX → Option (Int32 × zX)} {q248 : Int32 → Int32 → Int32 → Int32 → Int32 → Int32 → Int32 → Int32 → zX → Option (Int32 × zX)} (hr3 : ∀ {l1 : Int32} {l2 : Int32} {l3 : Int32} {l4 : Int32} {X : zX} {p : Int32 × zX}, q3 l1 l2 l3 l4 X = some p → fr 0 295147905179352825856 X p.2) (hr248 : ∀ {l1 : Int32} {l2 : Int32} {l3 : Int32} {l4 : Int32} {l5 : Int32} {l6 : Int32} {l7 : Int32} {l8 : Int32} {X : zX} {p : Int32 × zX}, q248 l1 l2 l3 l4 l5 l6 l7 l8 X = some p → fr 0 295147905179352825856 X p.2) {l1 : Int32} {l2 : Int32} {l3 : Int32} {l4 : Int32} {l5 : Int32} {l6 : Int32} {l7 : Int32} {l8 : Int32} {X : zX} {p : Int32 × zX} (hG : gb252_248 n q3 q248 l1 l2 l3 l4 l5 l6 l7 l8 X = some p) : fr 0 295147905179352825856 X p.2 := by
  unfold gb252_248 at hG
  have hX : fr 0 295147905179352825856 X X := fr_R
  by_cases c1 : l8 = (-1)
  · rw [if_pos c1] at hG
    exact fr_T hX (wb252_308 hr3 hG)
  · rw [if_neg c1] at hG
    by_cases c2 : l7 = 0
    · rw [if_pos c2] at hG
      exact fr_T hX (wb252_273 hr3 hr248 hG)
    · rw [if_neg c2] at hG
      replace hG := zbnd hG
      obtain ⟨x4, e5, hG⟩ := hG
      by_cases c6 : x4 = 0
      · rw [if_pos c6] at hG
        exact fr_T hX (wb252_273 hr3 hr248 hG)
      · rw [if_neg c6] at hG
        exact fr_T hX (wb252_274 hr3 hr248 hG)
theorem wf252_248 {n : Nat} {q3 : Int32 → Int32 → Int32 → Int32 → zX → Option (Int32 × zX)} (hr3 : ∀ {l1 : Int32} {l2 : Int32} {l3 : Int32} {l4 : Int32} {X : zX} {p : Int32 × zX}, q3 l1 l2 l3 l4 X = some p → fr 0 295147905179352825856 X p.2) (k : Nat) : ∀ {l1 : Int32} {l2 : Int32} {l3 : Int32} {l4 : Int32} {l5 : Int32} {l6 : Int32} {l7 : Int32} {l8 : Int32} {X : zX} {p : Int32 × zX}, gf252_248 n q3 k l1 l2 l3 l4 l5 l6 l7 l8 X = some p → fr 0 295147905179352825856 X p.2 := by
  induction k with
  | zero => intros; rename_i hG; cases hG
  | succ k ih => intros; rename_i hG; exact wb252_248 (n := n) (q3 := q3) (q248 := gf252_248 n q3 k) hr3 ih hG
set_option maxRecDepth 20000 in
theorem wb252_3 {n : Nat} {q3 : Int32 → Int32 → Int32 → Int32 → zX → Option (Int32 × zX)} (hr3 : ∀ {l1 : Int32} {l2 : Int32} {l3 : Int32} {l4 : Int32} {X : zX} {p : Int32 × zX}, q3 l1 l2 l3 l4 X = some p → fr 0 295147905179352825856 X p.2) {l1 : Int32} {l2 : Int32} {l3 : Int32} {l4 : Int32} {X : zX} {p : Int32 × zX} (hG : gb252_3 n q3 l1 l2 l3 l4 X = some p) : fr 0 295147905179352825856 X p.2 := by
  unfold gb252_3 at hG
  have hX : fr 0 295147905179352825856 X X := fr_R
  by_cases c1 : l3 ≤ l4
  · rw [if_pos c1] at hG
    replace hG := zbnd hG
    obtain ⟨x3, e4, hG⟩ := hG
    replace hG := zgd_some hG
    obtain ⟨g5, hG⟩ := hG
    replace hG := Option.some.inj hG
    subst hG
    exact hX
  · rw [if_neg c1] at hG
    replace hG := zbnd hG
    obtain ⟨x7, e8, hG⟩ := hG
    replace hG := zbnd hG
    obtain ⟨x10, e11, hG⟩ := hG
    by_cases c12 : x10 = 0
    · rw [if_pos c12] at hG
      exact fr_T hX (wb252_308 hr3 hG)
    rw [if_neg c12] at hG
    by_cases c13 : x10 = 1
    · rw [if_pos c13] at hG
      exact fr_T hX (wb252_308 hr3 hG)
    rw [if_neg c13] at hG
    by_cases c14 : x10 = 2
    · rw [if_pos c14] at hG
      replace hG := zbnd hG
      obtain ⟨x17, e18, hG⟩ := hG
      replace hG := zbnd hG
      obtain ⟨x19, e20, hG⟩ := hG
      exact fr_T hX (wb252_308 hr3 hG)
    rw [if_neg c14] at hG
    by_cases c21 : x10 = 3
    · rw [if_pos c21] at hG
      replace hG := zbnd hG
      obtain ⟨p22, e23, hG⟩ := hG
      replace hX := fr_T hX (fr_M rfl rfl (w253 e23))
      exact fr_T hX (wb252_308 hr3 hG)
    rw [if_neg c21] at hG
    by_cases c24 : x10 = 4
    · rw [if_pos c24] at hG
      replace hG := zbnd hG
      obtain ⟨p25, e26, hG⟩ := hG
      replace hX := fr_T hX (fr_M rfl rfl (w253 e26))
      exact fr_T hX (wb252_308 hr3 hG)
    rw [if_neg c24] at hG
    by_cases c27 : x10 = 5
    · rw [if_pos c27] at hG
      replace hG := zbnd hG
      obtain ⟨p28, e29, hG⟩ := hG
      replace hX := fr_T hX (fr_M rfl rfl (w253 e29))
      exact fr_T hX (wb252_308 hr3 hG)
    rw [if_neg c27] at hG
    by_cases c30 : x10 = 6
    · rw [if_pos c30] at hG
      replace hG := zbnd hG
      obtain ⟨p31, e32, hG⟩ := hG
      replace hX := fr_T hX (fr_M rfl rfl (w253 e32))
      exact fr_T hX (wb252_308 hr3 hG)
    rw [if_neg c30] at hG
    by_cases c33 : x10 = 7
    · rw [if_pos c33] at hG
      replace hG := zbnd hG
      obtain ⟨p34, e35, hG⟩ := hG
      replace hX := fr_T hX (fr_M rfl rfl (w253 e35))
      exact fr_T hX (wb252_308 hr3 hG)
    rw [if_neg c33] at hG
    by_cases c36 : x10 = 8
    · rw [if_pos c36] at hG
      replace hG := zbnd hG
      obtain ⟨p37, e38, hG⟩ := hG
      replace hX := fr_T hX (fr_M rfl rfl (w253 e38))
      exact fr_T hX (wb252_308 hr3 hG)
    rw [if_neg c36] at hG
    by_cases c39 : x10 = 9
    · rw [if_pos c39] at hG
      replace hG := zbnd hG
      obtain ⟨p40, e41, hG⟩ := hG
      replace hX := fr_T hX (fr_M rfl rfl (w253 e41))
      exact fr_T hX (wb252_308 hr3 hG)
    rw [if_neg c39] at hG
    by_cases c42 : x10 = 10
    · rw [if_pos c42] at hG
      replace hG := zbnd hG
      obtain ⟨p43, e44, hG⟩ := hG
      replace hX := fr_T hX (fr_M rfl rfl (w253 e44))
      exact fr_T hX (wb252_308 hr3 hG)
    rw [if_neg c42] at hG
    by_cases c45 : x10 = 11
    · rw [if_pos c45] at hG
      replace hG := zbnd hG
      obtain ⟨p46, e47, hG⟩ := hG
      replace hX := fr_T hX (fr_M rfl rfl (w253 e47))
      exact fr_T hX (wb252_308 hr3 hG)
    rw [if_neg c45] at hG
    by_cases c48 : x10 = 12
    · rw [if_pos c48] at hG
      replace hG := zbnd hG
      obtain ⟨x51, e52, hG⟩ := hG
      replace hG := zbnd hG
      obtain ⟨x53, e54, hG⟩ := hG
      by_cases c55 : x53 = 0
      · rw [if_pos c55] at hG
        exact fr_T hX (wb252_170 hr3 hG)
      · rw [if_neg c55] at hG
        exact fr_T hX (wb252_170 hr3 hG)
    rw [if_neg c48] at hG
    by_cases c56 : x10 = 13
    · rw [if_pos c56] at hG
      replace hG := zbnd hG
      obtain ⟨x58, e59, hG⟩ := hG
      exact fr_T hX (wf252_184 hr3 n hG)
    rw [if_neg c56] at hG
    by_cases c60 : x10 = 14
    · rw [if_pos c60] at hG
      replace hG := zbnd hG
      obtain ⟨x62, e63, hG⟩ := hG
      exact fr_T hX (wf252_248 hr3 n hG)
    rw [if_neg c60] at hG
    replace hG := zbnd hG
    obtain ⟨p64, e65, hG⟩ := hG
    replace hX := fr_T hX (fr_M rfl rfl (w253 e65))
    exact fr_T hX (wb252_308 hr3 hG)
theorem wf252_3 {n : Nat}   (k : Nat) : ∀ {l1 : Int32} {l2 : Int32} {l3 : Int32} {l4 : Int32} {X : zX} {p : Int32 × zX}, gf252_3 n  k l1 l2 l3 l4 X = some p → fr 0 295147905179352825856 X p.2 := by
  induction k with
  | zero => intros; rename_i hG; cases hG
  | succ k ih => intros; rename_i hG; exact wb252_3 (n := n) (q3 := gf252_3 n  k) ih hG
set_option maxRecDepth 20000 in
theorem w252 {n : Nat} {y1 : Int32} {y2 : Int32} {y3 : Int32} {X : zX} {p : Int32 × zX} (hG : g252 n y1 y2 y3 X = some p) : fr 0 295147905179352825856 X p.2 := by
  unfold g252 at hG
  have hX : fr 0 295147905179352825856 X X := fr_R
  exact fr_T hX (wf252_3  n hG)
set_option maxRecDepth 20000 in
theorem wb251_2 {n : Nat} {q2 : Int32 → zX → Option (Unit × zX)} (hr2 : ∀ {l1 : Int32} {X : zX} {p : Unit × zX}, q2 l1 X = some p → fr 0 885443715538058477568 X p.2) {l1 : Int32} {X : zX} {p : Unit × zX} (hG : gb251_2 n q2 l1 X = some p) : fr 0 885443715538058477568 X p.2 := by
  unfold gb251_2 at hG
  have hX : fr 0 885443715538058477568 X X := fr_R
  replace hG := zbnd hG
  obtain ⟨x2, e3, hG⟩ := hG
  by_cases c4 : x2 ≤ l1
  · rw [if_pos c4] at hG
    replace hG := Option.some.inj hG
    subst hG
    exact hX
  · rw [if_neg c4] at hG
    replace hG := zbnd hG
    obtain ⟨x7, e8, hG⟩ := hG
    replace hG := zbnd hG
    obtain ⟨x10, e11, hG⟩ := hG
    replace hG := zbnd hG
    obtain ⟨x13, e14, hG⟩ := hG
    replace hG := zbnd hG
    obtain ⟨p15, e16, hG⟩ := hG
    replace hX := fr_T hX (fr_M rfl rfl (w252 e16))
    replace hG := zbnd hG
    obtain ⟨X17, e18, hG⟩ := hG
    replace hX := fr_W hX (i := 69) rfl e18
    exact fr_T hX (hr2 hG)
theorem wf251_2 {n : Nat}   (k : Nat) : ∀ {l1 : Int32} {X : zX} {p : Unit × zX}, gf251_2 n  k l1 X = some p → fr 0 885443715538058477568 X p.2 := by
  induction k with
  | zero => intros; rename_i hG; cases hG
  | succ k ih => intros; rename_i hG; exact wb251_2 (n := n) (q2 := gf251_2 n  k) ih hG
set_option maxRecDepth 20000 in
theorem w251 {n : Nat}  {X : zX} {p : Unit × zX} (hG : g251 n  X = some p) : fr 0 885443715538058477568 X p.2 := by
  unfold g251 at hG
  have hX : fr 0 885443715538058477568 X X := fr_R
  exact fr_T hX (wf251_2  n hG)
set_option maxRecDepth 20000 in
theorem wb259_76 {n : Nat} {q9 : Int32 → Int32 → Int32 → Int32 → zX → Option (Int32 × zX)} (hr9 : ∀ {l1 : Int32} {l2 : Int32} {l3 : Int32} {l4 : Int32} {X : zX} {p : Int32 × zX}, q9 l1 l2 l3 l4 X = some p → fr 0 0 X p.2) {l1 : Int32} {l2 : Int32} {l3 : Int32} {l4 : Int32} {X : zX} {p : Int32 × zX} (hG : gb259_76 n q9 l1 l2 l3 l4 X = some p) : fr 0 0 X p.2 := by
  unfold gb259_76 at hG
  have hX : fr 0 0 X X := fr_R
  exact fr_T hX (hr9 hG)
set_option maxRecDepth 20000 in
theorem wb259_69 {n : Nat} {q9 : Int32 → Int32 → Int32 → Int32 → zX → Option (Int32 × zX)} (hr9 : ∀ {l1 : Int32} {l2 : Int32} {l3 : Int32} {l4 : Int32} {X : zX} {p : Int32 × zX}, q9 l1 l2 l3 l4 X = some p → fr 0 0 X p.2) {l1 : Int32} {l2 : Int32} {l3 : Int32} {l4 : Int32} {s0 : Int32} {X : zX} {p : Int32 × zX} (hG : gb259_69 n q9 l1 l2 l3 l4 s0 X = some p) : fr 0 0 X p.2 := by
  unfold gb259_69 at hG
  have hX : fr 0 0 X X := fr_R
  by_cases c1 : s0 = l3
  · rw [if_pos c1] at hG
    replace hG := Option.some.inj hG
    subst hG
    exact hX
  · rw [if_neg c1] at hG
    exact fr_T hX (wb259_76 hr9 hG)
set_option maxRecDepth 20000 in
theorem wb259_9 {n : Nat} {q9 : Int32 → Int32 → Int32 → Int32 → zX → Option (Int32 × zX)} (hr9 : ∀ {l1 : Int32} {l2 : Int32} {l3 : Int32} {l4 : Int32} {X : zX} {p : Int32 × zX}, q9 l1 l2 l3 l4 X = some p → fr 0 0 X p.2) {l1 : Int32} {l2 : Int32} {l3 : Int32} {l4 : Int32} {X : zX} {p : Int32 × zX} (hG : gb259_9 n q9 l1 l2 l3 l4 X = some p) : fr 0 0 X p.2 := by
  unfold gb259_9 at hG
  have hX : fr 0 0 X X := fr_R
  replace hG := zbnd hG
  obtain ⟨x2, e3, hG⟩ := hG
  by_cases c4 : ((40 * (X.1 3)) + x2) ≤ l4
  · rw [if_pos c4] at hG
    replace hG := Option.some.inj hG
    subst hG
    exact hX
  · rw [if_neg c4] at hG
    replace hG := zbnd hG
    obtain ⟨x6, e7, hG⟩ := hG
    by_cases c8 : x6 = l1
    · rw [if_pos c8] at hG
      replace hG := zbnd hG
      obtain ⟨x10, e11, hG⟩ := hG
      by_cases c12 : x10 = l2
      · rw [if_pos c12] at hG
        replace hG := zbnd hG
        obtain ⟨x14, e15, hG⟩ := hG
        by_cases c16 : x14 = (-1)
        · rw [if_pos c16] at hG
          exact fr_T hX (wb259_69 hr9 hG)
        · rw [if_neg c16] at hG
          exact fr_T hX (wb259_69 hr9 hG)
      · rw [if_neg c12] at hG
        exact fr_T hX (wb259_76 hr9 hG)
    · rw [if_neg c8] at hG
      exact fr_T hX (wb259_76 hr9 hG)
theorem wf259_9 {n : Nat}   (k : Nat) : ∀ {l1 : Int32} {l2 : Int32} {l3 : Int32} {l4 : Int32} {X : zX} {p : Int32 × zX}, gf259_9 n  k l1 l2 l3 l4 X = some p → fr 0 0 X p.2 := by
  induction k with
  | zero => intros; rename_i hG; cases hG
  | succ k ih => intros; rename_i hG; exact wb259_9 (n := n) (q9 := gf259_9 n  k) ih hG
set_option maxRecDepth 20000 in
theorem w259 {n : Nat} {y1 : Int32} {y2 : Int32} {y3 : Int32} {X : zX} {p : Int32 × zX} (hG : g259 n y1 y2 y3 X = some p) : fr 0 0 X p.2 := by
  unfold g259 at hG
  have hX : fr 0 0 X X := fr_R
  exact fr_T hX (wf259_9  n hG)
set_option maxRecDepth 20000 in
theorem w260 {n : Nat} {y1 : Int32} {y2 : Int32} {y3 : Int32} {y4 : Int32} {X : zX} {p : Unit × zX} (hG : g260 n y1 y2 y3 y4 X = some p) : fr 2398508826115424282617053184 0 X p.2 := by
  unfold g260 at hG
  have hX : fr 2398508826115424282617053184 0 X X := fr_R
  replace hG := zlet_ex hG
  obtain ⟨X1, e2, hG⟩ := hG
  replace hX := fr_F hX (k := 86) rfl e2
  replace hG := zlet_ex hG
  obtain ⟨X3, e4, hG⟩ := hG
  replace hX := fr_F hX (k := 87) rfl e4
  replace hG := zlet_ex hG
  obtain ⟨X5, e6, hG⟩ := hG
  replace hX := fr_F hX (k := 88) rfl e6
  replace hG := zlet_ex hG
  obtain ⟨X7, e8, hG⟩ := hG
  replace hX := fr_F hX (k := 90) rfl e8
  replace hG := zlet_ex hG
  obtain ⟨X9, e10, hG⟩ := hG
  replace hX := fr_F hX (k := 89) rfl e10
  replace hG := Option.some.inj hG
  subst hG
  exact hX
set_option maxRecDepth 20000 in
theorem wb261_78 {n : Nat} {q2 : Int32 → Int32 → Int32 → zX → Option (Int32 × zX)} (hr2 : ∀ {l1 : Int32} {l2 : Int32} {l3 : Int32} {X : zX} {p : Int32 × zX}, q2 l1 l2 l3 X = some p → fr 0 295147905179352825856 X p.2) {l1 : Int32} {l2 : Int32} {l3 : Int32} {l4 : Int32} {X : zX} {p : Int32 × zX} (hG : gb261_78 n q2 l1 l2 l3 l4 X = some p) : fr 0 295147905179352825856 X p.2 := by
  unfold gb261_78 at hG
  have hX : fr 0 295147905179352825856 X X := fr_R
  exact fr_T hX (hr2 hG)
set_option maxRecDepth 20000 in
theorem wb261_2 {n : Nat} {q2 : Int32 → Int32 → Int32 → zX → Option (Int32 × zX)} (hr2 : ∀ {l1 : Int32} {l2 : Int32} {l3 : Int32} {X : zX} {p : Int32 × zX}, q2 l1 l2 l3 X = some p → fr 0 295147905179352825856 X p.2) {l1 : Int32} {l2 : Int32} {l3 : Int32} {X : zX} {p : Int32 × zX} (hG : gb261_2 n q2 l1 l2 l3 X = some p) : fr 0 295147905179352825856 X p.2 := by
  unfold gb261_2 at hG
  have hX : fr 0 295147905179352825856 X X := fr_R
  replace hG := zbnd hG
  obtain ⟨x2, e3, hG⟩ := hG
  by_cases c4 : x2 ≤ l3
  · rw [if_pos c4] at hG
    replace hG := Option.some.inj hG
    subst hG
    exact hX
  · rw [if_neg c4] at hG
    replace hG := zbnd hG
    obtain ⟨x6, e7, hG⟩ := hG
    by_cases c8 : x6 = l1
    · rw [if_pos c8] at hG
      replace hG := zbnd hG
      obtain ⟨x10, e11, hG⟩ := hG
      by_cases c12 : x10 = l2
      · rw [if_pos c12] at hG
        replace hG := zbnd hG
        obtain ⟨x14, e15, hG⟩ := hG
        replace hG := zbnd hG
        obtain ⟨x17, e18, hG⟩ := hG
        replace hG := zbnd hG
        obtain ⟨x20, e21, hG⟩ := hG
        replace hG := zbnd hG
        obtain ⟨p22, e23, hG⟩ := hG
        replace hX := fr_T hX (fr_M rfl rfl (w252 e23))
        by_cases c24 : p22.1 = 0
        · rw [if_pos c24] at hG
          exact fr_T hX (wb261_78 hr2 hG)
        · rw [if_neg c24] at hG
          replace hG := Option.some.inj hG
          subst hG
          exact hX
      · rw [if_neg c12] at hG
        exact fr_T hX (wb261_78 hr2 hG)
    · rw [if_neg c8] at hG
      exact fr_T hX (wb261_78 hr2 hG)
theorem wf261_2 {n : Nat}   (k : Nat) : ∀ {l1 : Int32} {l2 : Int32} {l3 : Int32} {X : zX} {p : Int32 × zX}, gf261_2 n  k l1 l2 l3 X = some p → fr 0 295147905179352825856 X p.2 := by
  induction k with
  | zero => intros; rename_i hG; cases hG
  | succ k ih => intros; rename_i hG; exact wb261_2 (n := n) (q2 := gf261_2 n  k) ih hG
set_option maxRecDepth 20000 in
theorem w261 {n : Nat} {y1 : Int32} {y2 : Int32} {X : zX} {p : Int32 × zX} (hG : g261 n y1 y2 X = some p) : fr 0 295147905179352825856 X p.2 := by
  unfold g261 at hG
  have hX : fr 0 295147905179352825856 X X := fr_R
  exact fr_T hX (wf261_2  n hG)
set_option maxRecDepth 20000 in
theorem w264 {n : Nat} {y1 : Int32} {X : zX} {p : Unit × zX} (hG : g264 n y1 X = some p) : fr 19342813113834066795298816 0 X p.2 := by
  unfold g264 at hG
  have hX : fr 19342813113834066795298816 0 X X := fr_R
  replace hG := zlet_ex hG
  obtain ⟨X1, e2, hG⟩ := hG
  replace hX := fr_H hX rfl e2
  replace hG := Option.some.inj hG
  subst hG
  exact hX
set_option maxRecDepth 20000 in
theorem wb265_39 {n : Nat} {q39 : Int32 → Int32 → Int32 → zX → Option (Unit × zX)} (hr39 : ∀ {l1 : Int32} {l2 : Int32} {l3 : Int32} {X : zX} {p : Unit × zX}, q39 l1 l2 l3 X = some p → fr 19342813113834066795298816 0 X p.2) {l1 : Int32} {l2 : Int32} {l3 : Int32} {X : zX} {p : Unit × zX} (hG : gb265_39 n q39 l1 l2 l3 X = some p) : fr 19342813113834066795298816 0 X p.2 := by
  unfold gb265_39 at hG
  have hX : fr 19342813113834066795298816 0 X X := fr_R
  by_cases c1 : l3 ≤ 0
  · rw [if_pos c1] at hG
    replace hG := Option.some.inj hG
    subst hG
    exact hX
  · rw [if_neg c1] at hG
    replace hG := zgd_some hG
    obtain ⟨g2, hG⟩ := hG
    replace hG := zbnd hG
    obtain ⟨p3, e4, hG⟩ := hG
    replace hX := fr_T hX (fr_M rfl rfl (w264 e4))
    exact fr_T hX (hr39 hG)
theorem wf265_39 {n : Nat}   (k : Nat) : ∀ {l1 : Int32} {l2 : Int32} {l3 : Int32} {X : zX} {p : Unit × zX}, gf265_39 n  k l1 l2 l3 X = some p → fr 19342813113834066795298816 0 X p.2 := by
  induction k with
  | zero => intros; rename_i hG; cases hG
  | succ k ih => intros; rename_i hG; exact wb265_39 (n := n) (q39 := gf265_39 n  k) ih hG
set_option maxRecDepth 20000 in
theorem wb265_23 {n : Nat} {q23 : Int32 → Int32 → Int32 → zX → Option (Unit × zX)} (hr23 : ∀ {l1 : Int32} {l2 : Int32} {l3 : Int32} {X : zX} {p : Unit × zX}, q23 l1 l2 l3 X = some p → fr 19342813113834066795298816 0 X p.2) {l1 : Int32} {l2 : Int32} {l3 : Int32} {X : zX} {p : Unit × zX} (hG : gb265_23 n q23 l1 l2 l3 X = some p) : fr 19342813113834066795298816 0 X p.2 := by
  unfold gb265_23 at hG
  have hX : fr 19342813113834066795298816 0 X X := fr_R
  replace hG := zgd_some hG
  obtain ⟨g1, hG⟩ := hG
  by_cases c2 : (l2 / l3) < 10
  · rw [if_pos c2] at hG
    exact fr_T hX (wf265_39  n hG)
  · rw [if_neg c2] at hG
    exact fr_T hX (hr23 hG)
theorem wf265_23 {n : Nat}   (k : Nat) : ∀ {l1 : Int32} {l2 : Int32} {l3 : Int32} {X : zX} {p : Unit × zX}, gf265_23 n  k l1 l2 l3 X = some p → fr 19342813113834066795298816 0 X p.2 := by
  induction k with
  | zero => intros; rename_i hG; cases hG
  | succ k ih => intros; rename_i hG; exact wb265_23 (n := n) (q23 := gf265_23 n  k) ih hG
set_option maxRecDepth 20000 in
theorem wb265_20 {n : Nat}   {l1 : Int32} {s0 : Int32} {X : zX} {p : Unit × zX} (hG : gb265_20 n  l1 s0 X = some p) : fr 19342813113834066795298816 0 X p.2 := by
  unfold gb265_20 at hG
  have hX : fr 19342813113834066795298816 0 X X := fr_R
  exact fr_T hX (wf265_23  n hG)
set_option maxRecDepth 20000 in
theorem wb265_10 {n : Nat}   {l1 : Int32} {X : zX} {p : Unit × zX} (hG : gb265_10 n  l1 X = some p) : fr 19342813113834066795298816 0 X p.2 := by
  unfold gb265_10 at hG
  have hX : fr 19342813113834066795298816 0 X X := fr_R
  by_cases c1 : (0 : Int32) ≤ l1
  · rw [if_pos c1] at hG
    exact fr_T hX (wb265_20  hG)
  · rw [if_neg c1] at hG
    exact fr_T hX (wb265_20  hG)
set_option maxRecDepth 20000 in
theorem w265 {n : Nat} {y1 : Int32} {X : zX} {p : Unit × zX} (hG : g265 n y1 X = some p) : fr 19342813113834066795298816 0 X p.2 := by
  unfold g265 at hG
  have hX : fr 19342813113834066795298816 0 X X := fr_R
  by_cases c1 : (0 : Int32) ≤ y1
  · rw [if_pos c1] at hG
    exact fr_T hX (wb265_10  hG)
  · rw [if_neg c1] at hG
    replace hG := zbnd hG
    obtain ⟨p2, e3, hG⟩ := hG
    replace hX := fr_T hX (fr_M rfl rfl (w264 e3))
    exact fr_T hX (wb265_10  hG)
set_option maxRecDepth 20000 in
theorem wb263_108 {n : Nat}   {l1 : Int32} {l2 : Int32} {l3 : Int32} {X : zX} {p : Int32 × zX} (hG : gb263_108 n  l1 l2 l3 X = some p) : fr 19342813113834066795298816 0 X p.2 := by
  unfold gb263_108 at hG
  have hX : fr 19342813113834066795298816 0 X X := fr_R
  replace hG := Option.some.inj hG
  subst hG
  exact hX
set_option maxRecDepth 20000 in
theorem wb263_56 {n : Nat} {q56 : Int32 → Int32 → Int32 → zX → Option (Int32 × zX)} (hr56 : ∀ {l1 : Int32} {l2 : Int32} {l3 : Int32} {X : zX} {p : Int32 × zX}, q56 l1 l2 l3 X = some p → fr 19342813113834066795298816 0 X p.2) {l1 : Int32} {l2 : Int32} {l3 : Int32} {X : zX} {p : Int32 × zX} (hG : gb263_56 n q56 l1 l2 l3 X = some p) : fr 19342813113834066795298816 0 X p.2 := by
  unfold gb263_56 at hG
  have hX : fr 19342813113834066795298816 0 X X := fr_R
  replace hG := zbnd hG
  obtain ⟨x2, e3, hG⟩ := hG
  by_cases c4 : x2 ≤ l3
  · rw [if_pos c4] at hG
    exact fr_T hX (wb263_108  hG)
  · rw [if_neg c4] at hG
    replace hG := zbnd hG
    obtain ⟨x6, e7, hG⟩ := hG
    replace hG := zbnd hG
    obtain ⟨p8, e9, hG⟩ := hG
    replace hX := fr_T hX (fr_M rfl rfl (w264 e9))
    exact fr_T hX (hr56 hG)
theorem wf263_56 {n : Nat}   (k : Nat) : ∀ {l1 : Int32} {l2 : Int32} {l3 : Int32} {X : zX} {p : Int32 × zX}, gf263_56 n  k l1 l2 l3 X = some p → fr 19342813113834066795298816 0 X p.2 := by
  induction k with
  | zero => intros; rename_i hG; cases hG
  | succ k ih => intros; rename_i hG; exact wb263_56 (n := n) (q56 := gf263_56 n  k) ih hG
set_option maxRecDepth 20000 in
theorem wb263_9 {n : Nat} {q9 : Int32 → Int32 → Int32 → zX → Option (Int32 × zX)} (hr9 : ∀ {l1 : Int32} {l2 : Int32} {l3 : Int32} {X : zX} {p : Int32 × zX}, q9 l1 l2 l3 X = some p → fr 19342813113834066795298816 0 X p.2) {l1 : Int32} {l2 : Int32} {l3 : Int32} {X : zX} {p : Int32 × zX} (hG : gb263_9 n q9 l1 l2 l3 X = some p) : fr 19342813113834066795298816 0 X p.2 := by
  unfold gb263_9 at hG
  have hX : fr 19342813113834066795298816 0 X X := fr_R
  replace hG := zbnd hG
  obtain ⟨x2, e3, hG⟩ := hG
  by_cases c4 : x2 ≤ l3
  · rw [if_pos c4] at hG
    replace hG := zbnd hG
    obtain ⟨p5, e6, hG⟩ := hG
    replace hX := fr_T hX (fr_M rfl rfl (w264 e6))
    replace hG := zbnd hG
    obtain ⟨x8, e9, hG⟩ := hG
    by_cases c10 : x8 = 0
    · rw [if_pos c10] at hG
      replace hG := zbnd hG
      obtain ⟨x12, e13, hG⟩ := hG
      replace hG := zbnd hG
      obtain ⟨p14, e15, hG⟩ := hG
      replace hX := fr_T hX (fr_M rfl rfl (w265 e15))
      exact fr_T hX (wb263_108  hG)
    · rw [if_neg c10] at hG
      exact fr_T hX (wf263_56  n hG)
  · rw [if_neg c4] at hG
    replace hG := zbnd hG
    obtain ⟨x17, e18, hG⟩ := hG
    replace hG := zbnd hG
    obtain ⟨p19, e20, hG⟩ := hG
    replace hX := fr_T hX (fr_M rfl rfl (w264 e20))
    exact fr_T hX (hr9 hG)
theorem wf263_9 {n : Nat}   (k : Nat) : ∀ {l1 : Int32} {l2 : Int32} {l3 : Int32} {X : zX} {p : Int32 × zX}, gf263_9 n  k l1 l2 l3 X = some p → fr 19342813113834066795298816 0 X p.2 := by
  induction k with
  | zero => intros; rename_i hG; cases hG
  | succ k ih => intros; rename_i hG; exact wb263_9 (n := n) (q9 := gf263_9 n  k) ih hG
set_option maxRecDepth 20000 in
theorem w263 {n : Nat} {y1 : Int32} {y2 : Int32} {X : zX} {p : Int32 × zX} (hG : g263 n y1 y2 X = some p) : fr 19342813113834066795298816 0 X p.2 := by
  unfold g263 at hG
  have hX : fr 19342813113834066795298816 0 X X := fr_R
  replace hG := zlet_ex hG
  obtain ⟨X1, e2, hG⟩ := hG
  replace hX := fr_H hX rfl e2
  exact fr_T hX (wf263_9  n hG)
set_option maxRecDepth 20000 in
theorem wb262_109 {n : Nat} {q109 : Int32 → Int32 → Int32 → Int32 → Int32 → Int32 → Int32 → zX → Option (Int32 × zX)} (hr109 : ∀ {l1 : Int32} {l2 : Int32} {l3 : Int32} {l4 : Int32} {l5 : Int32} {l6 : Int32} {l7 : Int32} {X : zX} {p : Int32 × zX}, q109 l1 l2 l3 l4 l5 l6 l7 X = some p → fr 638312832756524204244860928 0 X p.2) {l1 : Int32} {l2 : Int32} {l3 : Int32} {l4 : Int32} {l5 : Int32} {l6 : Int32} {l7 : Int32} {X : zX} {p : Int32 × zX} (hG : gb262_109 n q109 l1 l2 l3 l4 l5 l6 l7 X = some p) : fr 638312832756524204244860928 0 X p.2 := by
  unfold gb262_109 at hG
  have hX : fr 638312832756524204244860928 0 X X := fr_R
  by_cases c1 : l5 < l7
  · rw [if_pos c1] at hG
    replace hG := zbnd hG
    obtain ⟨x3, e4, hG⟩ := hG
    replace hG := Option.some.inj hG
    subst hG
    exact hX
  · rw [if_neg c1] at hG
    replace hG := zbnd hG
    obtain ⟨x6, e7, hG⟩ := hG
    by_cases c8 : (l6 + x6) ≤ (X.1 89)
    · rw [if_pos c8] at hG
      exact fr_T hX (hr109 hG)
    · rw [if_neg c8] at hG
      replace hG := zbnd hG
      obtain ⟨x10, e11, hG⟩ := hG
      replace hG := Option.some.inj hG
      subst hG
      exact hX
theorem wf262_109 {n : Nat}   (k : Nat) : ∀ {l1 : Int32} {l2 : Int32} {l3 : Int32} {l4 : Int32} {l5 : Int32} {l6 : Int32} {l7 : Int32} {X : zX} {p : Int32 × zX}, gf262_109 n  k l1 l2 l3 l4 l5 l6 l7 X = some p → fr 638312832756524204244860928 0 X p.2 := by
  induction k with
  | zero => intros; rename_i hG; cases hG
  | succ k ih => intros; rename_i hG; exact wb262_109 (n := n) (q109 := gf262_109 n  k) ih hG
set_option maxRecDepth 20000 in
theorem w262 {n : Nat} {y1 : Int32} {X : zX} {p : Int32 × zX} (hG : g262 n y1 X = some p) : fr 638312832756524204244860928 0 X p.2 := by
  unfold g262 at hG
  have hX : fr 638312832756524204244860928 0 X X := fr_R
  replace hG := zbnd hG
  obtain ⟨x2, e3, hG⟩ := hG
  by_cases c4 : x2 = (-1)
  · rw [if_pos c4] at hG
    replace hG := zbnd hG
    obtain ⟨x6, e7, hG⟩ := hG
    replace hG := Option.some.inj hG
    subst hG
    exact hX
  · rw [if_neg c4] at hG
    replace hG := zbnd hG
    obtain ⟨x9, e10, hG⟩ := hG
    replace hG := zbnd hG
    obtain ⟨x12, e13, hG⟩ := hG
    replace hG := zbnd hG
    obtain ⟨p14, e15, hG⟩ := hG
    replace hX := fr_T hX (fr_M rfl rfl (w254 e15))
    replace hG := zbnd hG
    obtain ⟨x17, e18, hG⟩ := hG
    by_cases c19 : p14.1 = (-1)
    · rw [if_pos c19] at hG
      replace hG := zbnd hG
      obtain ⟨x21, e22, hG⟩ := hG
      replace hG := Option.some.inj hG
      subst hG
      exact hX
    · rw [if_neg c19] at hG
      replace hG := zbnd hG
      obtain ⟨x24, e25, hG⟩ := hG
      replace hG := zbnd hG
      obtain ⟨p26, e27, hG⟩ := hG
      replace hX := fr_T hX (fr_M rfl rfl (w263 e27))
      replace hG := zlet_ex hG
      obtain ⟨X28, e29, hG⟩ := hG
      replace hX := fr_F hX (k := 89) rfl e29
      exact fr_T hX (wf262_109  n hG)
set_option maxRecDepth 20000 in
theorem wb258_297 {n : Nat}   {l1 : Int32} {l2 : Int32} {l3 : Int32} {l4 : Int32} {s0 : Int32} {X : zX} {p : Int32 × zX} (hG : gb258_297 n  l1 l2 l3 l4 s0 X = some p) : fr 2417851639229258349412352000 295147905179352825856 X p.2 := by
  unfold gb258_297 at hG
  have hX : fr 2417851639229258349412352000 295147905179352825856 X X := fr_R
  replace hG := zbnd hG
  obtain ⟨p1, e2, hG⟩ := hG
  replace hX := fr_T hX (fr_M rfl rfl (w262 e2))
  replace hG := Option.some.inj hG
  subst hG
  exact hX
set_option maxRecDepth 20000 in
theorem wb258_251 {n : Nat}   {l1 : Int32} {l2 : Int32} {l3 : Int32} {l4 : Int32} {s0 : Int32} {X : zX} {p : Int32 × zX} (hG : gb258_251 n  l1 l2 l3 l4 s0 X = some p) : fr 2417851639229258349412352000 295147905179352825856 X p.2 := by
  unfold gb258_251 at hG
  have hX : fr 2417851639229258349412352000 295147905179352825856 X X := fr_R
  replace hG := zbnd hG
  obtain ⟨p1, e2, hG⟩ := hG
  replace hX := fr_T hX (fr_M rfl rfl (w260 e2))
  by_cases c3 : l4 = (-1)
  · rw [if_pos c3] at hG
    replace hG := zbnd hG
    obtain ⟨x5, e6, hG⟩ := hG
    exact fr_T hX (wb258_297  hG)
  · rw [if_neg c3] at hG
    replace hG := zbnd hG
    obtain ⟨x8, e9, hG⟩ := hG
    exact fr_T hX (wb258_297  hG)
set_option maxRecDepth 20000 in
theorem wb258_152 {n : Nat} {q152 : Int32 → Int32 → Int32 → Int32 → zX → Option (Int32 × zX)} (hr152 : ∀ {l1 : Int32} {l2 : Int32} {l3 : Int32} {l4 : Int32} {X : zX} {p : Int32 × zX}, q152 l1 l2 l3 l4 X = some p → fr 2417851639229258349412352000 295147905179352825856 X p.2) {l1 : Int32} {l2 : Int32} {l3 : Int32} {l4 : Int32} {X : zX} {p : Int32 × zX} (hG : gb258_152 n q152 l1 l2 l3 l4 X = some p) : fr 2417851639229258349412352000 295147905179352825856 X p.2 := by
  unfold gb258_152 at hG
  have hX : fr 2417851639229258349412352000 295147905179352825856 X X := fr_R
  replace hG := zbnd hG
  obtain ⟨x2, e3, hG⟩ := hG
  by_cases c4 : x2 ≤ l4
  · rw [if_pos c4] at hG
    replace hG := zbnd hG
    obtain ⟨p5, e6, hG⟩ := hG
    replace hX := fr_T hX (fr_M rfl rfl (w261 e6))
    by_cases c7 : p5.1 = (-1)
    · rw [if_pos c7] at hG
      exact fr_T hX (wb258_251  hG)
    · rw [if_neg c7] at hG
      exact fr_T hX (wb258_251  hG)
  · rw [if_neg c4] at hG
    replace hG := zbnd hG
    obtain ⟨x10, e11, hG⟩ := hG
    replace hG := zbnd hG
    obtain ⟨x12, e13, hG⟩ := hG
    replace hG := zbnd hG
    obtain ⟨x15, e16, hG⟩ := hG
    by_cases c17 : x12 = x15
    · rw [if_pos c17] at hG
      exact fr_T hX (hr152 hG)
    · rw [if_neg c17] at hG
      replace hG := zbnd hG
      obtain ⟨x19, e20, hG⟩ := hG
      replace hG := zbnd hG
      obtain ⟨p21, e22, hG⟩ := hG
      replace hX := fr_T hX (fr_M rfl rfl (w260 e22))
      replace hG := Option.some.inj hG
      subst hG
      exact hX
theorem wf258_152 {n : Nat}   (k : Nat) : ∀ {l1 : Int32} {l2 : Int32} {l3 : Int32} {l4 : Int32} {X : zX} {p : Int32 × zX}, gf258_152 n  k l1 l2 l3 l4 X = some p → fr 2417851639229258349412352000 295147905179352825856 X p.2 := by
  induction k with
  | zero => intros; rename_i hG; cases hG
  | succ k ih => intros; rename_i hG; exact wb258_152 (n := n) (q152 := gf258_152 n  k) ih hG
set_option maxRecDepth 20000 in
theorem wb258_18 {n : Nat} {q18 : Int32 → Int32 → Int32 → Int32 → zX → Option (Int32 × zX)} (hr18 : ∀ {l1 : Int32} {l2 : Int32} {l3 : Int32} {l4 : Int32} {X : zX} {p : Int32 × zX}, q18 l1 l2 l3 l4 X = some p → fr 2417851639229258349412352000 295147905179352825856 X p.2) {l1 : Int32} {l2 : Int32} {l3 : Int32} {l4 : Int32} {X : zX} {p : Int32 × zX} (hG : gb258_18 n q18 l1 l2 l3 l4 X = some p) : fr 2417851639229258349412352000 295147905179352825856 X p.2 := by
  unfold gb258_18 at hG
  have hX : fr 2417851639229258349412352000 295147905179352825856 X X := fr_R
  by_cases c1 : l4 = (-1)
  · rw [if_pos c1] at hG
    exact fr_T hX (wf258_152  n hG)
  · rw [if_neg c1] at hG
    replace hG := zbnd hG
    obtain ⟨p2, e3, hG⟩ := hG
    replace hX := fr_T hX (fr_M rfl rfl (w259 e3))
    by_cases c4 : p2.1 = (-1)
    · rw [if_pos c4] at hG
      replace hG := zbnd hG
      obtain ⟨p5, e6, hG⟩ := hG
      replace hX := fr_T hX (fr_M rfl rfl (w261 e6))
      by_cases c7 : p5.1 = (-1)
      · rw [if_pos c7] at hG
        replace hG := zbnd hG
        obtain ⟨p8, e9, hG⟩ := hG
        replace hX := fr_T hX (fr_M rfl rfl (w259 e9))
        by_cases c10 : p8.1 = (-1)
        · rw [if_pos c10] at hG
          replace hG := zbnd hG
          obtain ⟨x12, e13, hG⟩ := hG
          exact fr_T hX (hr18 hG)
        · rw [if_neg c10] at hG
          replace hG := zbnd hG
          obtain ⟨p14, e15, hG⟩ := hG
          replace hX := fr_T hX (fr_M rfl rfl (w260 e15))
          replace hG := zbnd hG
          obtain ⟨x17, e18, hG⟩ := hG
          replace hG := zbnd hG
          obtain ⟨p19, e20, hG⟩ := hG
          replace hX := fr_T hX (fr_M rfl rfl (w262 e20))
          replace hG := Option.some.inj hG
          subst hG
          exact hX
      · rw [if_neg c7] at hG
        replace hG := zbnd hG
        obtain ⟨p21, e22, hG⟩ := hG
        replace hX := fr_T hX (fr_M rfl rfl (w260 e22))
        replace hG := zbnd hG
        obtain ⟨x24, e25, hG⟩ := hG
        replace hG := zbnd hG
        obtain ⟨p26, e27, hG⟩ := hG
        replace hX := fr_T hX (fr_M rfl rfl (w262 e27))
        replace hG := Option.some.inj hG
        subst hG
        exact hX
    · rw [if_neg c4] at hG
      replace hG := zbnd hG
      obtain ⟨p28, e29, hG⟩ := hG
      replace hX := fr_T hX (fr_M rfl rfl (w260 e29))
      replace hG := Option.some.inj hG
      subst hG
      exact hX
theorem wf258_18 {n : Nat}   (k : Nat) : ∀ {l1 : Int32} {l2 : Int32} {l3 : Int32} {l4 : Int32} {X : zX} {p : Int32 × zX}, gf258_18 n  k l1 l2 l3 l4 X = some p → fr 2417851639229258349412352000 295147905179352825856 X p.2 := by
  induction k with
  | zero => intros; rename_i hG; cases hG
  | succ k ih => intros; rename_i hG; exact wb258_18 (n := n) (q18 := gf258_18 n  k) ih hG
set_option maxRecDepth 20000 in
theorem w258 {n : Nat} {y1 : Int32} {y2 : Int32} {X : zX} {p : Int32 × zX} (hG : g258 n y1 y2 X = some p) : fr 2417851639229258349412352000 295147905179352825856 X p.2 := by
  unfold g258 at hG
  have hX : fr 2417851639229258349412352000 295147905179352825856 X X := fr_R
  replace hG := zbnd hG
  obtain ⟨x2, e3, hG⟩ := hG
  exact fr_T hX (wf258_18  n hG)
set_option maxRecDepth 20000 in
theorem wb250_47 {n : Nat} {q47 : Int32 → Int32 → Int32 → zX → Option (Int32 × zX)} (hr47 : ∀ {l1 : Int32} {l2 : Int32} {l3 : Int32} {X : zX} {p : Int32 × zX}, q47 l1 l2 l3 X = some p → fr 2456537265456926483002949633 2066035336255469780992 X p.2) {l1 : Int32} {l2 : Int32} {l3 : Int32} {X : zX} {p : Int32 × zX} (hG : gb250_47 n q47 l1 l2 l3 X = some p) : fr 2456537265456926483002949633 2066035336255469780992 X p.2 := by
  unfold gb250_47 at hG
  have hX : fr 2456537265456926483002949633 2066035336255469780992 X X := fr_R
  replace hG := zbnd hG
  obtain ⟨x2, e3, hG⟩ := hG
  by_cases c4 : x2 ≤ l3
  · rw [if_pos c4] at hG
    replace hG := zlet_ex hG
    obtain ⟨X5, e6, hG⟩ := hG
    replace hX := fr_F hX (k := 85) rfl e6
    replace hG := zbnd hG
    obtain ⟨p7, e8, hG⟩ := hG
    replace hX := fr_T hX (fr_M rfl rfl (w258 e8))
    replace hG := Option.some.inj hG
    subst hG
    exact hX
  · rw [if_neg c4] at hG
    replace hG := zbnd hG
    obtain ⟨x10, e11, hG⟩ := hG
    replace hG := zbnd hG
    obtain ⟨p13, e14, hG⟩ := hG
    replace hX := fr_T hX (fr_M rfl rfl (w258 e14))
    replace hG := zbnd hG
    obtain ⟨X15, e16, hG⟩ := hG
    replace hX := fr_W hX (i := 70) rfl e16
    exact fr_T hX (hr47 hG)
theorem wf250_47 {n : Nat}   (k : Nat) : ∀ {l1 : Int32} {l2 : Int32} {l3 : Int32} {X : zX} {p : Int32 × zX}, gf250_47 n  k l1 l2 l3 X = some p → fr 2456537265456926483002949633 2066035336255469780992 X p.2 := by
  induction k with
  | zero => intros; rename_i hG; cases hG
  | succ k ih => intros; rename_i hG; exact wb250_47 (n := n) (q47 := gf250_47 n  k) ih hG
set_option maxRecDepth 20000 in
theorem wb250_33 {n : Nat}   {l1 : Int32} {l2 : Int32} {s0 : Int32} {X : zX} {p : Int32 × zX} (hG : gb250_33 n  l1 l2 s0 X = some p) : fr 2456537265456926483002949633 2066035336255469780992 X p.2 := by
  unfold gb250_33 at hG
  have hX : fr 2456537265456926483002949633 2066035336255469780992 X X := fr_R
  replace hG := zbnd hG
  obtain ⟨p1, e2, hG⟩ := hG
  replace hX := fr_T hX (fr_M rfl rfl (w185 e2))
  by_cases c3 : p1.1 = 0
  · rw [if_pos c3] at hG
    replace hG := Option.some.inj hG
    subst hG
    exact hX
  · rw [if_neg c3] at hG
    replace hG := zbnd hG
    obtain ⟨p4, e5, hG⟩ := hG
    replace hX := fr_T hX (fr_M rfl rfl (w251 e5))
    exact fr_T hX (wf250_47  n hG)
set_option maxRecDepth 20000 in
theorem wb250_32 {n : Nat}   {l1 : Int32} {l2 : Int32} {X : zX} {p : Int32 × zX} (hG : gb250_32 n  l1 l2 X = some p) : fr 2456537265456926483002949633 2066035336255469780992 X p.2 := by
  unfold gb250_32 at hG
  have hX : fr 2456537265456926483002949633 2066035336255469780992 X X := fr_R
  exact fr_T hX (wb250_33  hG)
set_option maxRecDepth 20000 in
theorem w250 {n : Nat} {y1 : Int32} {y2 : Int32} {X : zX} {p : Int32 × zX} (hG : g250 n y1 y2 X = some p) : fr 2456537265456926483002949633 2066035336255469780992 X p.2 := by
  unfold g250 at hG
  have hX : fr 2456537265456926483002949633 2066035336255469780992 X X := fr_R
  replace hG := zbnd hG
  obtain ⟨p1, e2, hG⟩ := hG
  replace hX := fr_T hX (fr_M rfl rfl (w248 e2))
  by_cases c3 : p1.1 = 0
  · rw [if_pos c3] at hG
    exact fr_T hX (wb250_32  hG)
  · rw [if_neg c3] at hG
    replace hG := zbnd hG
    obtain ⟨x5, e6, hG⟩ := hG
    replace hG := zbnd hG
    obtain ⟨p7, e8, hG⟩ := hG
    replace hX := fr_T hX (fr_M rfl rfl (w187 e8))
    by_cases c9 : p7.1 = 0
    · rw [if_pos c9] at hG
      exact fr_T hX (wb250_32  hG)
    · rw [if_neg c9] at hG
      exact fr_T hX (wb250_33  hG)
set_option maxRecDepth 20000 in
theorem w266 {n : Nat} {y1 : Int32} {X : zX} {p : Int32 × zX} (hG : g266 n y1 X = some p) : fr 1 0 X p.2 := by
  unfold g266 at hG
  have hX : fr 1 0 X X := fr_R
  replace hG := zbnd hG
  obtain ⟨p1, e2, hG⟩ := hG
  replace hX := fr_T hX (fr_M rfl rfl (w187 e2))
  replace hG := zbnd hG
  obtain ⟨p3, e4, hG⟩ := hG
  replace hX := fr_T hX (fr_M rfl rfl (w185 e4))
  by_cases c5 : p3.1 = 0
  · rw [if_pos c5] at hG
    replace hG := Option.some.inj hG
    subst hG
    exact hX
  · rw [if_neg c5] at hG
    by_cases c6 : (p3.2.1 85) = 0
    · rw [if_pos c6] at hG
      replace hG := Option.some.inj hG
      subst hG
      exact hX
    · rw [if_neg c6] at hG
      by_cases c7 : y1 = 0
      · rw [if_pos c7] at hG
        replace hG := Option.some.inj hG
        subst hG
        exact hX
      · rw [if_neg c7] at hG
        by_cases c8 : y1 = 1
        · rw [if_pos c8] at hG
          replace hG := Option.some.inj hG
          subst hG
          exact hX
        · rw [if_neg c8] at hG
          by_cases c9 : y1 = 2
          · rw [if_pos c9] at hG
            replace hG := Option.some.inj hG
            subst hG
            exact hX
          · rw [if_neg c9] at hG
            by_cases c10 : y1 = 3
            · rw [if_pos c10] at hG
              replace hG := Option.some.inj hG
              subst hG
              exact hX
            · rw [if_neg c10] at hG
              replace hG := Option.some.inj hG
              subst hG
              exact hX
set_option maxRecDepth 20000 in
theorem w267 {n : Nat} {y1 : Int32} {X : zX} {p : Int32 × zX} (hG : g267 n y1 X = some p) : fr 1 885443715538058477568 X p.2 := by
  unfold g267 at hG
  have hX : fr 1 885443715538058477568 X X := fr_R
  replace hG := zbnd hG
  obtain ⟨x2, e3, hG⟩ := hG
  replace hG := zbnd hG
  obtain ⟨p4, e5, hG⟩ := hG
  replace hX := fr_T hX (fr_M rfl rfl (w187 e5))
  replace hG := zbnd hG
  obtain ⟨p6, e7, hG⟩ := hG
  replace hX := fr_T hX (fr_M rfl rfl (w185 e7))
  by_cases c8 : p6.1 = 0
  · rw [if_pos c8] at hG
    replace hG := Option.some.inj hG
    subst hG
    exact hX
  · rw [if_neg c8] at hG
    replace hG := zbnd hG
    obtain ⟨p9, e10, hG⟩ := hG
    replace hX := fr_T hX (fr_M rfl rfl (w251 e10))
    replace hG := zbnd hG
    obtain ⟨x12, e13, hG⟩ := hG
    by_cases c14 : x12 = 0
    · rw [if_pos c14] at hG
      replace hG := Option.some.inj hG
      subst hG
      exact hX
    · rw [if_neg c14] at hG
      replace hG := Option.some.inj hG
      subst hG
      exact hX
set_option maxRecDepth 20000 in
theorem w268 {n : Nat} {y1 : Int32} {X : zX} {p : Int32 × zX} (hG : g268 n y1 X = some p) : fr 1 4611686018427387904 X p.2 := by
  unfold g268 at hG
  have hX : fr 1 4611686018427387904 X X := fr_R
  replace hG := zbnd hG
  obtain ⟨p1, e2, hG⟩ := hG
  replace hX := fr_T hX (fr_M rfl rfl (w248 e2))
  replace hG := zbnd hG
  obtain ⟨p3, e4, hG⟩ := hG
  replace hX := fr_T hX (fr_M rfl rfl (w185 e4))
  by_cases c5 : p3.1 = 0
  · rw [if_pos c5] at hG
    replace hG := Option.some.inj hG
    subst hG
    exact hX
  · rw [if_neg c5] at hG
    replace hG := zbnd hG
    obtain ⟨p6, e7, hG⟩ := hG
    replace hX := fr_T hX (fr_M rfl rfl (w240 e7))
    replace hG := zbnd hG
    obtain ⟨x9, e10, hG⟩ := hG
    replace hG := Option.some.inj hG
    subst hG
    exact hX
set_option maxRecDepth 20000 in
theorem w269 {n : Nat} {y1 : Int32} {X : zX} {p : Int32 × zX} (hG : g269 n y1 X = some p) : fr 1 0 X p.2 := by
  unfold g269 at hG
  have hX : fr 1 0 X X := fr_R
  replace hG := zbnd hG
  obtain ⟨p1, e2, hG⟩ := hG
  replace hX := fr_T hX (fr_M rfl rfl (w248 e2))
  replace hG := zbnd hG
  obtain ⟨p3, e4, hG⟩ := hG
  replace hX := fr_T hX (fr_M rfl rfl (w185 e4))
  by_cases c5 : p3.1 = 0
  · rw [if_pos c5] at hG
    replace hG := Option.some.inj hG
    subst hG
    exact hX
  · rw [if_neg c5] at hG
    replace hG := zbnd hG
    obtain ⟨x7, e8, hG⟩ := hG
    replace hG := Option.some.inj hG
    subst hG
    exact hX
set_option maxRecDepth 20000 in
theorem wb270_88 {n : Nat} {q41 : Int32 → Int32 → Int32 → Int32 → Int32 → zX → Option (Int32 × zX)} (hr41 : ∀ {l1 : Int32} {l2 : Int32} {l3 : Int32} {l4 : Int32} {l5 : Int32} {X : zX} {p : Int32 × zX}, q41 l1 l2 l3 l4 l5 X = some p → fr 1 0 X p.2) {l1 : Int32} {l2 : Int32} {l3 : Int32} {l4 : Int32} {l5 : Int32} {s0 : Int32} {X : zX} {p : Int32 × zX} (hG : gb270_88 n q41 l1 l2 l3 l4 l5 s0 X = some p) : fr 1 0 X p.2 := by
  unfold gb270_88 at hG
  have hX : fr 1 0 X X := fr_R
  exact fr_T hX (hr41 hG)
set_option maxRecDepth 20000 in
theorem wb270_41 {n : Nat} {q41 : Int32 → Int32 → Int32 → Int32 → Int32 → zX → Option (Int32 × zX)} (hr41 : ∀ {l1 : Int32} {l2 : Int32} {l3 : Int32} {l4 : Int32} {l5 : Int32} {X : zX} {p : Int32 × zX}, q41 l1 l2 l3 l4 l5 X = some p → fr 1 0 X p.2) {l1 : Int32} {l2 : Int32} {l3 : Int32} {l4 : Int32} {l5 : Int32} {X : zX} {p : Int32 × zX} (hG : gb270_41 n q41 l1 l2 l3 l4 l5 X = some p) : fr 1 0 X p.2 := by
  unfold gb270_41 at hG
  have hX : fr 1 0 X X := fr_R
  replace hG := zbnd hG
  obtain ⟨x2, e3, hG⟩ := hG
  by_cases c4 : x2 ≤ l5
  · rw [if_pos c4] at hG
    replace hG := Option.some.inj hG
    subst hG
    exact hX
  · rw [if_neg c4] at hG
    replace hG := zbnd hG
    obtain ⟨x6, e7, hG⟩ := hG
    by_cases c8 : x6 = l2
    · rw [if_pos c8] at hG
      replace hG := zbnd hG
      obtain ⟨x10, e11, hG⟩ := hG
      exact fr_T hX (wb270_88 hr41 hG)
    · rw [if_neg c8] at hG
      exact fr_T hX (wb270_88 hr41 hG)
theorem wf270_41 {n : Nat}   (k : Nat) : ∀ {l1 : Int32} {l2 : Int32} {l3 : Int32} {l4 : Int32} {l5 : Int32} {X : zX} {p : Int32 × zX}, gf270_41 n  k l1 l2 l3 l4 l5 X = some p → fr 1 0 X p.2 := by
  induction k with
  | zero => intros; rename_i hG; cases hG
  | succ k ih => intros; rename_i hG; exact wb270_41 (n := n) (q41 := gf270_41 n  k) ih hG
set_option maxRecDepth 20000 in
theorem w270 {n : Nat} {y1 : Int32} {y2 : Int32} {X : zX} {p : Int32 × zX} (hG : g270 n y1 y2 X = some p) : fr 1 0 X p.2 := by
  unfold g270 at hG
  have hX : fr 1 0 X X := fr_R
  replace hG := zbnd hG
  obtain ⟨x2, e3, hG⟩ := hG
  replace hG := zbnd hG
  obtain ⟨p4, e5, hG⟩ := hG
  replace hX := fr_T hX (fr_M rfl rfl (w187 e5))
  replace hG := zbnd hG
  obtain ⟨p6, e7, hG⟩ := hG
  replace hX := fr_T hX (fr_M rfl rfl (w185 e7))
  by_cases c8 : p6.1 = 0
  · rw [if_pos c8] at hG
    replace hG := Option.some.inj hG
    subst hG
    exact hX
  · rw [if_neg c8] at hG
    exact fr_T hX (wf270_41  n hG)
end ZFRM

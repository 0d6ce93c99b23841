/-! THE REFERENCE OVER ITS MEMORY, 0 (written by a program of the verifier's) -/
section ZREF
def g183 (n : Nat)  (X : zX) : Option (Int32 × zX) :=
  some ((X.1 0), X)
set_option maxRecDepth 20000 in
theorem r183 {n : Nat} {h0 : zH} (hl : Fx h0)  {X : zX} {p : Int32 × zX} (hG : g183 n  X = some p) : f183 n 159 (mq h0 X) = some (p.1, mq h0 p.2) := by
  unfold g183 at hG
  unfold f183
  refine bnd_eq (mgI_0 hl) ?_
  replace hG := Option.some.inj hG
  subst hG
  rfl
def gb185_10 (n : Nat)  (l1 : Int32) (s0 : Int32) (X : zX) : Option (Int32 × zX) :=
  zlet (xF X 0 s0) fun X1 =>
  zgd (zrtn .boolean l1) <|
  some (l1, X1)
set_option maxRecDepth 20000 in
theorem rb185_10 {n : Nat} {h0 : zH} (hl : Fx h0)   {l1 : Int32} {s0 : Int32} {X : zX} {p : Int32 × zX} (hG : gb185_10 n  l1 s0 X = some p) : b185_10 n  159 l1 s0 159 (mq h0 X) = some (p.1, mq h0 p.2) := by
  unfold gb185_10 at hG
  unfold b185_10
  replace hG := zlet_ex hG
  obtain ⟨X1, e2, hG⟩ := hG
  refine bnd_eq (mpI_0 hl e2) ?_
  replace hG := zgd_some hG
  obtain ⟨g3, hG⟩ := hG
  refine zgd_eq g3 ?_
  replace hG := Option.some.inj hG
  subst hG
  rfl
def g185 (n : Nat) (y1 : Int32) (X : zX) : Option (Int32 × zX) :=
  if y1 = 0 then
    gb185_10 n  y1 1 X
  else
    gb185_10 n  y1 0 X
set_option maxRecDepth 20000 in
theorem r185 {n : Nat} {h0 : zH} (hl : Fx h0) {y1 : Int32} {X : zX} {p : Int32 × zX} (hG : g185 n y1 X = some p) : f185 n 159 y1 (mq h0 X) = some (p.1, mq h0 p.2) := by
  unfold g185 at hG
  unfold f185
  by_cases c1 : y1 = 0
  · rw [if_pos c1] at hG
    refine (if_pos c1).trans ?_
    exact rb185_10 hl  hG
  · rw [if_neg c1] at hG
    refine (if_neg c1).trans ?_
    exact rb185_10 hl  hG
def gb184_83 (n : Nat) (q30 : Int32 → Int32 → Int32 → Int32 → Int32 → Int32 → zX → Option (Int32 × zX)) (l1 : Int32) (l2 : Int32) (l3 : Int32) (l4 : Int32) (l5 : Int32) (l6 : Int32) (s0 : Int32) (X : zX) : Option (Int32 × zX) :=
  (wr X 0 (X.1 2) (((s0 >>> ((24 - (8 * (l6 - l6 / 4 * 4))) &&& 31)).toInt8.toInt32).toInt8.toInt32)).bind fun X2 =>
  zlet (xF X2 2 ((X2.1 2) + 1)) fun X4 =>
  q30 l1 l2 l3 l4 l5 (l6 + 1) X4
set_option maxRecDepth 20000 in
theorem rb184_83 {n : Nat} {h0 : zH} (hl : Fx h0) {q30 : Int32 → Int32 → Int32 → Int32 → Int32 → Int32 → zX → Option (Int32 × zX)} {r30 : Nat → Int32 → Int32 → Int32 → Int32 → Int32 → Int32 → zH → Option (Int32 × zH)} (hr30 : ∀ {l1 : Int32} {l2 : Int32} {l3 : Int32} {l4 : Int32} {l5 : Int32} {l6 : Int32} {X : zX} {p : Int32 × zX}, q30 l1 l2 l3 l4 l5 l6 X = some p → r30 159 l1 l2 l3 l4 l5 l6 (mq h0 X) = some (p.1, mq h0 p.2)) {l1 : Int32} {l2 : Int32} {l3 : Int32} {l4 : Int32} {l5 : Int32} {l6 : Int32} {s0 : Int32} {X : zX} {p : Int32 × zX} (hG : gb184_83 n q30 l1 l2 l3 l4 l5 l6 s0 X = some p) : b184_83 n r30 159 l1 l2 l3 l4 l5 l6 s0 (mq h0 X) = some (p.1, mq h0 p.2) := by
  unfold gb184_83 at hG
  unfold b184_83
  refine bnd_eq (mgR_1 hl) ?_
  refine bnd_eq (mgI_2 hl) ?_
  refine bnd_eq rfl ?_
  replace hG := zbnd hG
  obtain ⟨X2, e3, hG⟩ := hG
  refine bnd_eq (m_sB hl (i := 0) (by decide) rfl e3) ?_
  refine bnd_eq (mgI_2 hl) ?_
  replace hG := zlet_ex hG
  obtain ⟨X4, e5, hG⟩ := hG
  refine bnd_eq (mpI_2 hl e5) ?_
  exact hr30 hG
def gb184_30 (n : Nat) (q30 : Int32 → Int32 → Int32 → Int32 → Int32 → Int32 → zX → Option (Int32 × zX)) (l1 : Int32) (l2 : Int32) (l3 : Int32) (l4 : Int32) (l5 : Int32) (l6 : Int32) (X : zX) : Option (Int32 × zX) :=
  if (20 : Int32) ≤ l6 then
    some ((X.1 2), X)
  else
    if (4 : Int32) ≤ l6 then
      if (8 : Int32) ≤ l6 then
        if (12 : Int32) ≤ l6 then
          if (16 : Int32) ≤ l6 then
            gb184_83 n q30 l1 l2 l3 l4 l5 l6 l5 X
          else
            gb184_83 n q30 l1 l2 l3 l4 l5 l6 l4 X
        else
          gb184_83 n q30 l1 l2 l3 l4 l5 l6 l3 X
      else
        gb184_83 n q30 l1 l2 l3 l4 l5 l6 l2 X
    else
      gb184_83 n q30 l1 l2 l3 l4 l5 l6 l1 X
set_option maxRecDepth 20000 in
theorem rb184_30 {n : Nat} {h0 : zH} (hl : Fx h0) {q30 : Int32 → Int32 → Int32 → Int32 → Int32 → Int32 → zX → Option (Int32 × zX)} {r30 : Nat → Int32 → Int32 → Int32 → Int32 → Int32 → Int32 → zH → Option (Int32 × zH)} (hr30 : ∀ {l1 : Int32} {l2 : Int32} {l3 : Int32} {l4 : Int32} {l5 : Int32} {l6 : Int32} {X : zX} {p : Int32 × zX}, q30 l1 l2 l3 l4 l5 l6 X = some p → r30 159 l1 l2 l3 l4 l5 l6 (mq h0 X) = some (p.1, mq h0 p.2)) {l1 : Int32} {l2 : Int32} {l3 : Int32} {l4 : Int32} {l5 : Int32} {l6 : Int32} {X : zX} {p : Int32 × zX} (hG : gb184_30 n q30 l1 l2 l3 l4 l5 l6 X = some p) : b184_30 n r30 159 l1 l2 l3 l4 l5 l6 (mq h0 X) = some (p.1, mq h0 p.2) := by
  unfold gb184_30 at hG
  unfold b184_30
  by_cases c1 : (20 : Int32) ≤ l6
  · rw [if_pos c1] at hG
    refine (if_pos c1).trans ?_
    refine bnd_eq (mgI_2 hl) ?_
    replace hG := Option.some.inj hG
    subst hG
    rfl
  · rw [if_neg c1] at hG
    refine (if_neg c1).trans ?_
    by_cases c2 : (4 : Int32) ≤ l6
    · rw [if_pos c2] at hG
      refine (if_pos c2).trans ?_
      by_cases c3 : (8 : Int32) ≤ l6
      · rw [if_pos c3] at hG
        refine (if_pos c3).trans ?_
        by_cases c4 : (12 : Int32) ≤ l6
        · rw [if_pos c4] at hG
          refine (if_pos c4).trans ?_
          by_cases c5 : (16 : Int32) ≤ l6
          · rw [if_pos c5] at hG
            refine (if_pos c5).trans ?_
            exact rb184_83 hl hr30 hG
          · rw [if_neg c5] at hG
            refine (if_neg c5).trans ?_
            exact rb184_83 hl hr30 hG
        · rw [if_neg c4] at hG
          refine (if_neg c4).trans ?_
          exact rb184_83 hl hr30 hG
      · rw [if_neg c3] at hG
        refine (if_neg c3).trans ?_
        exact rb184_83 hl hr30 hG
    · rw [if_neg c2] at hG
      refine (if_neg c2).trans ?_
      exact rb184_83 hl hr30 hG
def gf184_30 (n : Nat)  (k : Nat) : Int32 → Int32 → Int32 → Int32 → Int32 → Int32 → zX → Option (Int32 × zX) := Nat.rec (fun _ _ _ _ _ _ _ => none) (fun _ ih => gb184_30 n ih) k
theorem rf184_30 {n : Nat} {h0 : zH} (hl : Fx h0)   (k : Nat) : ∀ {l1 : Int32} {l2 : Int32} {l3 : Int32} {l4 : Int32} {l5 : Int32} {l6 : Int32} {X : zX} {p : Int32 × zX}, gf184_30 n  k l1 l2 l3 l4 l5 l6 X = some p → f184_30 n  k 159 l1 l2 l3 l4 l5 l6 (mq h0 X) = some (p.1, mq h0 p.2) := by
  induction k with
  | zero => intros; rename_i hG; cases hG
  | succ k ih => intros; rename_i hG; exact rb184_30 (n := n) hl ih hG
def gb184_19 (n : Nat)  (l1 : Int32) (l2 : Int32) (l3 : Int32) (l4 : Int32) (l5 : Int32) (s0 : Int32) (X : zX) : Option (Int32 × zX) :=
  (g185 n s0 X).bind fun p1 =>
  if p1.1 = 0 then
    some (0, p1.2)
  else
    gf184_30 n  n l1 l2 l3 l4 l5 0 p1.2
set_option maxRecDepth 20000 in
theorem rb184_19 {n : Nat} {h0 : zH} (hl : Fx h0)   {l1 : Int32} {l2 : Int32} {l3 : Int32} {l4 : Int32} {l5 : Int32} {s0 : Int32} {X : zX} {p : Int32 × zX} (hG : gb184_19 n  l1 l2 l3 l4 l5 s0 X = some p) : b184_19 n  159 l1 l2 l3 l4 l5 s0 159 (mq h0 X) = some (p.1, mq h0 p.2) := by
  unfold gb184_19 at hG
  unfold b184_19
  refine zgd_eq (m_isO hl) ?_
  replace hG := zbnd hG
  obtain ⟨p1, e2, hG⟩ := hG
  refine bnd_eq (r185 hl e2) ?_
  by_cases c3 : p1.1 = 0
  · rw [if_pos c3] at hG
    refine (if_pos c3).trans ?_
    replace hG := Option.some.inj hG
    subst hG
    rfl
  · rw [if_neg c3] at hG
    refine (if_neg c3).trans ?_
    exact rf184_30 hl  n hG
def g184 (n : Nat) (y1 : Int32) (y2 : Int32) (y3 : Int32) (y4 : Int32) (y5 : Int32) (X : zX) : Option (Int32 × zX) :=
  if (6000 : Int32) < ((X.1 2) + 20) then
    gb184_19 n  y1 y2 y3 y4 y5 0 X
  else
    gb184_19 n  y1 y2 y3 y4 y5 1 X
set_option maxRecDepth 20000 in
theorem r184 {n : Nat} {h0 : zH} (hl : Fx h0) {y1 : Int32} {y2 : Int32} {y3 : Int32} {y4 : Int32} {y5 : Int32} {X : zX} {p : Int32 × zX} (hG : g184 n y1 y2 y3 y4 y5 X = some p) : f184 n 159 y1 y2 y3 y4 y5 (mq h0 X) = some (p.1, mq h0 p.2) := by
  unfold g184 at hG
  unfold f184
  refine bnd_eq (mgI_2 hl) ?_
  by_cases c1 : (6000 : Int32) < ((X.1 2) + 20)
  · rw [if_pos c1] at hG
    refine (if_pos c1).trans ?_
    exact rb184_19 hl  hG
  · rw [if_neg c1] at hG
    refine (if_neg c1).trans ?_
    exact rb184_19 hl  hG
def g187 (n : Nat) (y0 : Int32) (y1 : Int32) (y2 : Int32) (X : zX) : Option (Int32 × zX) :=
  if y0 < y1 then
    some (0, X)
  else
    if y2 < y0 then
      some (0, X)
    else
      some (1, X)
set_option maxRecDepth 20000 in
theorem r187 {n : Nat} {h0 : zH} (hl : Fx h0) {y0 : Int32} {y1 : Int32} {y2 : Int32} {X : zX} {p : Int32 × zX} (hG : g187 n y0 y1 y2 X = some p) : f187 n y0 y1 y2 (mq h0 X) = some (p.1, mq h0 p.2) := by
  unfold g187 at hG
  unfold f187
  by_cases c1 : y0 < y1
  · rw [if_pos c1] at hG
    refine (if_pos c1).trans ?_
    replace hG := Option.some.inj hG
    subst hG
    rfl
  · rw [if_neg c1] at hG
    refine (if_neg c1).trans ?_
    by_cases c2 : y2 < y0
    · rw [if_pos c2] at hG
      refine (if_pos c2).trans ?_
      replace hG := Option.some.inj hG
      subst hG
      rfl
    · rw [if_neg c2] at hG
      refine (if_neg c2).trans ?_
      replace hG := Option.some.inj hG
      subst hG
      rfl
def gb186_25 (n : Nat)  (l1 : Int32) (s0 : Int32) (X : zX) : Option (Unit × zX) :=
  zlet (xF X 2 s0) fun X1 =>
  some ((), X1)
set_option maxRecDepth 20000 in
theorem rb186_25 {n : Nat} {h0 : zH} (hl : Fx h0)   {l1 : Int32} {s0 : Int32} {X : zX} {p : Unit × zX} (hG : gb186_25 n  l1 s0 X = some p) : b186_25 n  159 l1 s0 159 (mq h0 X) = some (p.1, mq h0 p.2) := by
  unfold gb186_25 at hG
  unfold b186_25
  replace hG := zlet_ex hG
  obtain ⟨X1, e2, hG⟩ := hG
  refine bnd_eq (mpI_2 hl e2) ?_
  replace hG := Option.some.inj hG
  subst hG
  rfl
def g186 (n : Nat) (y1 : Int32) (X : zX) : Option (Unit × zX) :=
  (g187 n y1 0 (X.1 2) X).bind fun p1 =>
  (g185 n p1.1 p1.2).bind fun p3 =>
  if p3.1 = 0 then
    gb186_25 n  y1 (p3.2.1 2) p3.2
  else
    gb186_25 n  y1 y1 p3.2
set_option maxRecDepth 20000 in
theorem r186 {n : Nat} {h0 : zH} (hl : Fx h0) {y1 : Int32} {X : zX} {p : Unit × zX} (hG : g186 n y1 X = some p) : f186 n 159 y1 (mq h0 X) = some (p.1, mq h0 p.2) := by
  unfold g186 at hG
  unfold f186
  refine bnd_eq (mgI_2 hl) ?_
  replace hG := zbnd hG
  obtain ⟨p1, e2, hG⟩ := hG
  refine bnd_eq (r187 hl e2) ?_
  refine zgd_eq (m_isO hl) ?_
  replace hG := zbnd hG
  obtain ⟨p3, e4, hG⟩ := hG
  refine bnd_eq (r185 hl e4) ?_
  by_cases c5 : p3.1 = 0
  · rw [if_pos c5] at hG
    refine (if_pos c5).trans ?_
    refine bnd_eq (mgI_2 hl) ?_
    exact rb186_25 hl  hG
  · rw [if_neg c5] at hG
    refine (if_neg c5).trans ?_
    exact rb186_25 hl  hG
def g191 (n : Nat) (y1 : Int32) (X : zX) : Option (Int32 × zX) :=
  if (X.1 2) ≤ y1 then
    some ((-1), X)
  else
    (rd (X.2.2 0) y1).bind fun x3 =>
    some ((x3 &&& 255), X)
set_option maxRecDepth 20000 in
theorem r191 {n : Nat} {h0 : zH} (hl : Fx h0) {y1 : Int32} {X : zX} {p : Int32 × zX} (hG : g191 n y1 X = some p) : f191 n 159 y1 (mq h0 X) = some (p.1, mq h0 p.2) := by
  unfold g191 at hG
  unfold f191
  refine bnd_eq (mgI_2 hl) ?_
  by_cases c1 : (X.1 2) ≤ y1
  · rw [if_pos c1] at hG
    refine (if_pos c1).trans ?_
    replace hG := Option.some.inj hG
    subst hG
    rfl
  · rw [if_neg c1] at hG
    refine (if_neg c1).trans ?_
    refine bnd_eq (mgR_1 hl) ?_
    refine bnd_eq rfl ?_
    replace hG := zbnd hG
    obtain ⟨x3, e4, hG⟩ := hG
    refine bnd_eq (m_aB hl (i := 0) (by decide) rfl e4) ?_
    replace hG := Option.some.inj hG
    subst hG
    rfl
def g192 (n : Nat) (y0 : Int32) (X : zX) : Option (Int32 × zX) :=
  (g187 n y0 97 122 X).bind fun p1 =>
  if p1.1 = 0 then
    (g187 n y0 65 90 p1.2).bind fun p4 =>
    if p4.1 = 0 then
      some (0, p4.2)
    else
      some (1, p4.2)
  else
    some (1, p1.2)
set_option maxRecDepth 20000 in
theorem r192 {n : Nat} {h0 : zH} (hl : Fx h0) {y0 : Int32} {X : zX} {p : Int32 × zX} (hG : g192 n y0 X = some p) : f192 n y0 (mq h0 X) = some (p.1, mq h0 p.2) := by
  unfold g192 at hG
  unfold f192
  replace hG := zbnd hG
  obtain ⟨p1, e2, hG⟩ := hG
  refine bnd_eq (r187 hl e2) ?_
  by_cases c3 : p1.1 = 0
  · rw [if_pos c3] at hG
    refine (if_pos c3).trans ?_
    replace hG := zbnd hG
    obtain ⟨p4, e5, hG⟩ := hG
    refine bnd_eq (r187 hl e5) ?_
    by_cases c6 : p4.1 = 0
    · rw [if_pos c6] at hG
      refine (if_pos c6).trans ?_
      replace hG := Option.some.inj hG
      subst hG
      rfl
    · rw [if_neg c6] at hG
      refine (if_neg c6).trans ?_
      replace hG := Option.some.inj hG
      subst hG
      rfl
  · rw [if_neg c3] at hG
    refine (if_neg c3).trans ?_
    replace hG := Option.some.inj hG
    subst hG
    rfl
def g194 (n : Nat) (y0 : Int32) (X : zX) : Option (Int32 × zX) :=
  (g187 n y0 48 57 X).bind fun p1 =>
  zgd (zrtn .boolean p1.1) <|
  some (p1.1, p1.2)
set_option maxRecDepth 20000 in
theorem r194 {n : Nat} {h0 : zH} (hl : Fx h0) {y0 : Int32} {X : zX} {p : Int32 × zX} (hG : g194 n y0 X = some p) : f194 n y0 (mq h0 X) = some (p.1, mq h0 p.2) := by
  unfold g194 at hG
  unfold f194
  replace hG := zbnd hG
  obtain ⟨p1, e2, hG⟩ := hG
  refine bnd_eq (r187 hl e2) ?_
  replace hG := zgd_some hG
  obtain ⟨g3, hG⟩ := hG
  refine zgd_eq g3 ?_
  replace hG := Option.some.inj hG
  subst hG
  rfl
def g193 (n : Nat) (y0 : Int32) (X : zX) : Option (Int32 × zX) :=
  (g192 n y0 X).bind fun p1 =>
  if p1.1 = 0 then
    (g194 n y0 p1.2).bind fun p4 =>
    if p4.1 = 0 then
      if y0 = 95 then
        some (1, p4.2)
      else
        some (0, p4.2)
    else
      some (1, p4.2)
  else
    some (1, p1.2)
set_option maxRecDepth 20000 in
theorem r193 {n : Nat} {h0 : zH} (hl : Fx h0) {y0 : Int32} {X : zX} {p : Int32 × zX} (hG : g193 n y0 X = some p) : f193 n y0 (mq h0 X) = some (p.1, mq h0 p.2) := by
  unfold g193 at hG
  unfold f193
  replace hG := zbnd hG
  obtain ⟨p1, e2, hG⟩ := hG
  refine bnd_eq (r192 hl e2) ?_
  by_cases c3 : p1.1 = 0
  · rw [if_pos c3] at hG
    refine (if_pos c3).trans ?_
    replace hG := zbnd hG
    obtain ⟨p4, e5, hG⟩ := hG
    refine bnd_eq (r194 hl e5) ?_
    by_cases c6 : p4.1 = 0
    · rw [if_pos c6] at hG
      refine (if_pos c6).trans ?_
      by_cases c7 : y0 = 95
      · rw [if_pos c7] at hG
        refine (if_pos c7).trans ?_
        replace hG := Option.some.inj hG
        subst hG
        rfl
      · rw [if_neg c7] at hG
        refine (if_neg c7).trans ?_
        replace hG := Option.some.inj hG
        subst hG
        rfl
    · rw [if_neg c6] at hG
      refine (if_neg c6).trans ?_
      replace hG := Option.some.inj hG
      subst hG
      rfl
  · rw [if_neg c3] at hG
    refine (if_neg c3).trans ?_
    replace hG := Option.some.inj hG
    subst hG
    rfl
def g196 (n : Nat) (y1 : Int32) (y2 : Int32) (X : zX) : Option (Unit × zX) :=
  if (X.1 73) = (-1) then
    zlet (xF X 73 y2) fun X2 =>
    zlet (xF X2 64 y1) fun X4 =>
    some ((), X4)
  else
    some ((), X)
set_option maxRecDepth 20000 in
theorem r196 {n : Nat} {h0 : zH} (hl : Fx h0) {y1 : Int32} {y2 : Int32} {X : zX} {p : Unit × zX} (hG : g196 n y1 y2 X = some p) : f196 n 159 y1 y2 (mq h0 X) = some (p.1, mq h0 p.2) := by
  unfold g196 at hG
  unfold f196
  refine bnd_eq (mgI_73 hl) ?_
  by_cases c1 : (X.1 73) = (-1)
  · rw [if_pos c1] at hG
    refine (if_pos c1).trans ?_
    replace hG := zlet_ex hG
    obtain ⟨X2, e3, hG⟩ := hG
    refine bnd_eq (mpI_73 hl e3) ?_
    replace hG := zlet_ex hG
    obtain ⟨X4, e5, hG⟩ := hG
    refine bnd_eq (mpI_64 hl e5) ?_
    replace hG := Option.some.inj hG
    subst hG
    rfl
  · rw [if_neg c1] at hG
    refine (if_neg c1).trans ?_
    replace hG := Option.some.inj hG
    subst hG
    rfl
def g195 (n : Nat) (y1 : Int32) (X : zX) : Option (Unit × zX) :=
  (g196 n y1 (X.1 70) X).bind fun p1 =>
  some ((), p1.2)
set_option maxRecDepth 20000 in
theorem r195 {n : Nat} {h0 : zH} (hl : Fx h0) {y1 : Int32} {X : zX} {p : Unit × zX} (hG : g195 n y1 X = some p) : f195 n 159 y1 (mq h0 X) = some (p.1, mq h0 p.2) := by
  unfold g195 at hG
  unfold f195
  refine bnd_eq (mgI_70 hl) ?_
  refine zgd_eq (m_isO hl) ?_
  replace hG := zbnd hG
  obtain ⟨p1, e2, hG⟩ := hG
  refine bnd_eq (r196 hl e2) ?_
  replace hG := Option.some.inj hG
  subst hG
  rfl
def gb197_114 (n : Nat)  (l1 : Int32) (l2 : Int32) (s0 : Int32) (X : zX) : Option (Unit × zX) :=
  zlet (xF X 72 s0) fun X1 =>
  zlet (xF X1 71 0) fun X3 =>
  (g191 n (X3.1 68) X3).bind fun p5 =>
  (g193 n p5.1 p5.2).bind fun p7 =>
  if p7.1 = 0 then
    some ((), p7.2)
  else
    (g195 n 1 p7.2).bind fun p10 =>
    some ((), p10.2)
set_option maxRecDepth 20000 in
theorem rb197_114 {n : Nat} {h0 : zH} (hl : Fx h0)   {l1 : Int32} {l2 : Int32} {s0 : Int32} {X : zX} {p : Unit × zX} (hG : gb197_114 n  l1 l2 s0 X = some p) : b197_114 n  159 l1 l2 s0 159 (mq h0 X) = some (p.1, mq h0 p.2) := by
  unfold gb197_114 at hG
  unfold b197_114
  replace hG := zlet_ex hG
  obtain ⟨X1, e2, hG⟩ := hG
  refine bnd_eq (mpI_72 hl e2) ?_
  replace hG := zlet_ex hG
  obtain ⟨X3, e4, hG⟩ := hG
  refine bnd_eq (mpI_71 hl e4) ?_
  refine bnd_eq (mgI_68 hl) ?_
  refine zgd_eq (m_isO hl) ?_
  replace hG := zbnd hG
  obtain ⟨p5, e6, hG⟩ := hG
  refine bnd_eq (r191 hl e6) ?_
  replace hG := zbnd hG
  obtain ⟨p7, e8, hG⟩ := hG
  refine bnd_eq (r193 hl e8) ?_
  by_cases c9 : p7.1 = 0
  · rw [if_pos c9] at hG
    refine (if_pos c9).trans ?_
    replace hG := Option.some.inj hG
    subst hG
    rfl
  · rw [if_neg c9] at hG
    refine (if_neg c9).trans ?_
    refine zgd_eq (m_isO hl) ?_
    replace hG := zbnd hG
    obtain ⟨p10, e11, hG⟩ := hG
    refine bnd_eq (r195 hl e11) ?_
    replace hG := Option.some.inj hG
    subst hG
    rfl
def gb197_97 (n : Nat)  (l1 : Int32) (l2 : Int32) (X : zX) : Option (Unit × zX) :=
  if l1 = 0 then
    gb197_114 n  l1 l2 (X.1 72) X
  else
    gb197_114 n  l1 l2 (-(X.1 72)) X
set_option maxRecDepth 20000 in
theorem rb197_97 {n : Nat} {h0 : zH} (hl : Fx h0)   {l1 : Int32} {l2 : Int32} {X : zX} {p : Unit × zX} (hG : gb197_97 n  l1 l2 X = some p) : b197_97 n  159 l1 l2 (mq h0 X) = some (p.1, mq h0 p.2) := by
  unfold gb197_97 at hG
  unfold b197_97
  by_cases c1 : l1 = 0
  · rw [if_pos c1] at hG
    refine (if_pos c1).trans ?_
    refine bnd_eq (mgI_72 hl) ?_
    exact rb197_114 hl  hG
  · rw [if_neg c1] at hG
    refine (if_neg c1).trans ?_
    refine bnd_eq (mgI_72 hl) ?_
    exact rb197_114 hl  hG
def gb197_36 (n : Nat) (q36 : Int32 → Int32 → zX → Option (Unit × zX)) (l1 : Int32) (l2 : Int32) (X : zX) : Option (Unit × zX) :=
  (g191 n (X.1 68) X).bind fun p1 =>
  (g194 n p1.1 p1.2).bind fun p3 =>
  if p3.1 = 0 then
    gb197_97 n  l1 l2 p3.2
  else
    if (9 : Int32) ≤ ((p3.2.1 68) - l2) then
      gb197_97 n  l1 l2 p3.2
    else
      (g191 n (p3.2.1 68) p3.2).bind fun p7 =>
      zlet (xF p7.2 72 (((10 * (p3.2.1 72)) + p7.1) - 48)) fun X9 =>
      zlet (xF X9 68 ((X9.1 68) + 1)) fun X11 =>
      q36 l1 l2 X11
set_option maxRecDepth 20000 in
theorem rb197_36 {n : Nat} {h0 : zH} (hl : Fx h0) {q36 : Int32 → Int32 → zX → Option (Unit × zX)} {r36 : Nat → Int32 → Int32 → zH → Option (Unit × zH)} (hr36 : ∀ {l1 : Int32} {l2 : Int32} {X : zX} {p : Unit × zX}, q36 l1 l2 X = some p → r36 159 l1 l2 (mq h0 X) = some (p.1, mq h0 p.2)) {l1 : Int32} {l2 : Int32} {X : zX} {p : Unit × zX} (hG : gb197_36 n q36 l1 l2 X = some p) : b197_36 n r36 159 l1 l2 (mq h0 X) = some (p.1, mq h0 p.2) := by
  unfold gb197_36 at hG
  unfold b197_36
  refine bnd_eq (mgI_68 hl) ?_
  refine zgd_eq (m_isO hl) ?_
  replace hG := zbnd hG
  obtain ⟨p1, e2, hG⟩ := hG
  refine bnd_eq (r191 hl e2) ?_
  replace hG := zbnd hG
  obtain ⟨p3, e4, hG⟩ := hG
  refine bnd_eq (r194 hl e4) ?_
  by_cases c5 : p3.1 = 0
  · rw [if_pos c5] at hG
    refine (if_pos c5).trans ?_
    exact rb197_97 hl  hG
  · rw [if_neg c5] at hG
    refine (if_neg c5).trans ?_
    refine bnd_eq (mgI_68 hl) ?_
    by_cases c6 : (9 : Int32) ≤ ((p3.2.1 68) - l2)
    · rw [if_pos c6] at hG
      refine (if_pos c6).trans ?_
      exact rb197_97 hl  hG
    · rw [if_neg c6] at hG
      refine (if_neg c6).trans ?_
      refine bnd_eq (mgI_72 hl) ?_
      refine bnd_eq (mgI_68 hl) ?_
      refine zgd_eq (m_isO hl) ?_
      replace hG := zbnd hG
      obtain ⟨p7, e8, hG⟩ := hG
      refine bnd_eq (r191 hl e8) ?_
      replace hG := zlet_ex hG
      obtain ⟨X9, e10, hG⟩ := hG
      refine bnd_eq (mpI_72 hl e10) ?_
      refine bnd_eq (mgI_68 hl) ?_
      replace hG := zlet_ex hG
      obtain ⟨X11, e12, hG⟩ := hG
      refine bnd_eq (mpI_68 hl e12) ?_
      exact hr36 hG
def gf197_36 (n : Nat)  (k : Nat) : Int32 → Int32 → zX → Option (Unit × zX) := Nat.rec (fun _ _ _ => none) (fun _ ih => gb197_36 n ih) k
theorem rf197_36 {n : Nat} {h0 : zH} (hl : Fx h0)   (k : Nat) : ∀ {l1 : Int32} {l2 : Int32} {X : zX} {p : Unit × zX}, gf197_36 n  k l1 l2 X = some p → f197_36 n  k 159 l1 l2 (mq h0 X) = some (p.1, mq h0 p.2) := by
  induction k with
  | zero => intros; rename_i hG; cases hG
  | succ k ih => intros; rename_i hG; exact rb197_36 (n := n) hl ih hG
def gb197_23 (n : Nat)  (l1 : Int32) (s0 : Int32) (X : zX) : Option (Unit × zX) :=
  zlet (xF X 68 s0) fun X1 =>
  zlet (xF X1 72 0) fun X3 =>
  gf197_36 n  n l1 (X1.1 68) X3
set_option maxRecDepth 20000 in
theorem rb197_23 {n : Nat} {h0 : zH} (hl : Fx h0)   {l1 : Int32} {s0 : Int32} {X : zX} {p : Unit × zX} (hG : gb197_23 n  l1 s0 X = some p) : b197_23 n  159 l1 s0 159 (mq h0 X) = some (p.1, mq h0 p.2) := by
  unfold gb197_23 at hG
  unfold b197_23
  replace hG := zlet_ex hG
  obtain ⟨X1, e2, hG⟩ := hG
  refine bnd_eq (mpI_68 hl e2) ?_
  refine bnd_eq (mgI_68 hl) ?_
  replace hG := zlet_ex hG
  obtain ⟨X3, e4, hG⟩ := hG
  refine bnd_eq (mpI_72 hl e4) ?_
  exact rf197_36 hl  n hG
def g197 (n : Nat) (y1 : Int32) (X : zX) : Option (Unit × zX) :=
  zlet (xF X 69 2) fun X1 =>
  if y1 = 0 then
    gb197_23 n  y1 (X1.1 68) X1
  else
    gb197_23 n  y1 ((X1.1 68) + 1) X1
set_option maxRecDepth 20000 in
theorem r197 {n : Nat} {h0 : zH} (hl : Fx h0) {y1 : Int32} {X : zX} {p : Unit × zX} (hG : g197 n y1 X = some p) : f197 n 159 y1 (mq h0 X) = some (p.1, mq h0 p.2) := by
  unfold g197 at hG
  unfold f197
  replace hG := zlet_ex hG
  obtain ⟨X1, e2, hG⟩ := hG
  refine bnd_eq (mpI_69 hl e2) ?_
  by_cases c3 : y1 = 0
  · rw [if_pos c3] at hG
    refine (if_pos c3).trans ?_
    refine bnd_eq (mgI_68 hl) ?_
    exact rb197_23 hl  hG
  · rw [if_neg c3] at hG
    refine (if_neg c3).trans ?_
    refine bnd_eq (mgI_68 hl) ?_
    exact rb197_23 hl  hG
def gb198_108 (n : Nat)   (X : zX) : Option (Unit × zX) :=
  zlet (xF X 68 ((X.1 68) + 1)) fun X1 =>
  some ((), X1)
set_option maxRecDepth 20000 in
theorem rb198_108 {n : Nat} {h0 : zH} (hl : Fx h0)    {X : zX} {p : Unit × zX} (hG : gb198_108 n   X = some p) : b198_108 n  159 (mq h0 X) = some (p.1, mq h0 p.2) := by
  unfold gb198_108 at hG
  unfold b198_108
  refine bnd_eq (mgI_68 hl) ?_
  replace hG := zlet_ex hG
  obtain ⟨X1, e2, hG⟩ := hG
  refine bnd_eq (mpI_68 hl e2) ?_
  replace hG := Option.some.inj hG
  subst hG
  rfl
def gb198_75 (n : Nat)   (X : zX) : Option (Unit × zX) :=
  zlet (xF X 71 (((X.1 68) - (X.1 70)) - 1)) fun X1 =>
  (g191 n (X1.1 68) X1).bind fun p3 =>
  if p3.1 = 39 then
    gb198_108 n  p3.2
  else
    (g195 n 1 p3.2).bind fun p6 =>
    gb198_108 n  p6.2
set_option maxRecDepth 20000 in
theorem rb198_75 {n : Nat} {h0 : zH} (hl : Fx h0)    {X : zX} {p : Unit × zX} (hG : gb198_75 n   X = some p) : b198_75 n  159 (mq h0 X) = some (p.1, mq h0 p.2) := by
  unfold gb198_75 at hG
  unfold b198_75
  refine bnd_eq (mgI_68 hl) ?_
  refine bnd_eq (mgI_70 hl) ?_
  replace hG := zlet_ex hG
  obtain ⟨X1, e2, hG⟩ := hG
  refine bnd_eq (mpI_71 hl e2) ?_
  refine bnd_eq (mgI_68 hl) ?_
  refine zgd_eq (m_isO hl) ?_
  replace hG := zbnd hG
  obtain ⟨p3, e4, hG⟩ := hG
  refine bnd_eq (r191 hl e4) ?_
  by_cases c5 : p3.1 = 39
  · rw [if_pos c5] at hG
    refine (if_pos c5).trans ?_
    exact rb198_108 hl  hG
  · rw [if_neg c5] at hG
    refine (if_neg c5).trans ?_
    refine zgd_eq (m_isO hl) ?_
    replace hG := zbnd hG
    obtain ⟨p6, e7, hG⟩ := hG
    refine bnd_eq (r195 hl e7) ?_
    exact rb198_108 hl  hG
def gb198_15 (n : Nat) (q15 : zX → Option (Unit × zX))  (X : zX) : Option (Unit × zX) :=
  (g191 n (X.1 68) X).bind fun p1 =>
  (g187 n p1.1 32 126 p1.2).bind fun p3 =>
  if p3.1 = 0 then
    gb198_75 n  p3.2
  else
    (g191 n (p3.2.1 68) p3.2).bind fun p6 =>
    if p6.1 = 39 then
      gb198_75 n  p6.2
    else
      if (16 : Int32) ≤ (((p6.2.1 68) - (p6.2.1 70)) - 1) then
        gb198_75 n  p6.2
      else
        zlet (xF p6.2 68 ((p6.2.1 68) + 1)) fun X10 =>
        q15 X10
set_option maxRecDepth 20000 in
theorem rb198_15 {n : Nat} {h0 : zH} (hl : Fx h0) {q15 : zX → Option (Unit × zX)} {r15 : Nat → zH → Option (Unit × zH)} (hr15 : ∀  {X : zX} {p : Unit × zX}, q15  X = some p → r15 159 (mq h0 X) = some (p.1, mq h0 p.2))  {X : zX} {p : Unit × zX} (hG : gb198_15 n q15  X = some p) : b198_15 n r15 159 (mq h0 X) = some (p.1, mq h0 p.2) := by
  unfold gb198_15 at hG
  unfold b198_15
  refine bnd_eq (mgI_68 hl) ?_
  refine zgd_eq (m_isO hl) ?_
  replace hG := zbnd hG
  obtain ⟨p1, e2, hG⟩ := hG
  refine bnd_eq (r191 hl e2) ?_
  replace hG := zbnd hG
  obtain ⟨p3, e4, hG⟩ := hG
  refine bnd_eq (r187 hl e4) ?_
  by_cases c5 : p3.1 = 0
  · rw [if_pos c5] at hG
    refine (if_pos c5).trans ?_
    exact rb198_75 hl  hG
  · rw [if_neg c5] at hG
    refine (if_neg c5).trans ?_
    refine bnd_eq (mgI_68 hl) ?_
    refine zgd_eq (m_isO hl) ?_
    replace hG := zbnd hG
    obtain ⟨p6, e7, hG⟩ := hG
    refine bnd_eq (r191 hl e7) ?_
    by_cases c8 : p6.1 = 39
    · rw [if_pos c8] at hG
      refine (if_pos c8).trans ?_
      exact rb198_75 hl  hG
    · rw [if_neg c8] at hG
      refine (if_neg c8).trans ?_
      refine bnd_eq (mgI_68 hl) ?_
      refine bnd_eq (mgI_70 hl) ?_
      by_cases c9 : (16 : Int32) ≤ (((p6.2.1 68) - (p6.2.1 70)) - 1)
      · rw [if_pos c9] at hG
        refine (if_pos c9).trans ?_
        exact rb198_75 hl  hG
      · rw [if_neg c9] at hG
        refine (if_neg c9).trans ?_
        refine bnd_eq (mgI_68 hl) ?_
        replace hG := zlet_ex hG
        obtain ⟨X10, e11, hG⟩ := hG
        refine bnd_eq (mpI_68 hl e11) ?_
        exact hr15 hG
def gf198_15 (n : Nat)  (k : Nat) : zX → Option (Unit × zX) := Nat.rec (fun _ => none) (fun _ ih => gb198_15 n ih) k
theorem rf198_15 {n : Nat} {h0 : zH} (hl : Fx h0)   (k : Nat) : ∀  {X : zX} {p : Unit × zX}, gf198_15 n  k  X = some p → f198_15 n  k 159 (mq h0 X) = some (p.1, mq h0 p.2) := by
  induction k with
  | zero => intros; rename_i hG; cases hG
  | succ k ih => intros; rename_i hG; exact rb198_15 (n := n) hl ih hG
def g198 (n : Nat)  (X : zX) : Option (Unit × zX) :=
  zlet (xF X 69 3) fun X1 =>
  zlet (xF X1 68 ((X1.1 68) + 1)) fun X3 =>
  gf198_15 n  n X3
set_option maxRecDepth 20000 in
theorem r198 {n : Nat} {h0 : zH} (hl : Fx h0)  {X : zX} {p : Unit × zX} (hG : g198 n  X = some p) : f198 n 159 (mq h0 X) = some (p.1, mq h0 p.2) := by
  unfold g198 at hG
  unfold f198
  replace hG := zlet_ex hG
  obtain ⟨X1, e2, hG⟩ := hG
  refine bnd_eq (mpI_69 hl e2) ?_
  refine bnd_eq (mgI_68 hl) ?_
  replace hG := zlet_ex hG
  obtain ⟨X3, e4, hG⟩ := hG
  refine bnd_eq (mpI_68 hl e4) ?_
  exact rf198_15 hl  n hG
def gb190_61 (n : Nat) (q9 : zX → Option (Unit × zX))  (X : zX) : Option (Unit × zX) :=
  zlet (xF X 68 ((X.1 68) + 1)) fun X1 =>
  q9 X1
set_option maxRecDepth 20000 in
theorem rb190_61 {n : Nat} {h0 : zH} (hl : Fx h0) {q9 : zX → Option (Unit × zX)} {r9 : Nat → zH → Option (Unit × zH)} (hr9 : ∀  {X : zX} {p : Unit × zX}, q9  X = some p → r9 159 (mq h0 X) = some (p.1, mq h0 p.2))  {X : zX} {p : Unit × zX} (hG : gb190_61 n q9  X = some p) : b190_61 n r9 159 (mq h0 X) = some (p.1, mq h0 p.2) := by
  unfold gb190_61 at hG
  unfold b190_61
  refine bnd_eq (mgI_68 hl) ?_
  replace hG := zlet_ex hG
  obtain ⟨X1, e2, hG⟩ := hG
  refine bnd_eq (mpI_68 hl e2) ?_
  exact hr9 hG
def gb190_214 (n : Nat)  (l1 : Int32) (s0 : Int32) (X : zX) : Option (Unit × zX) :=
  (g197 n s0 X).bind fun p1 =>
  some ((), p1.2)
set_option maxRecDepth 20000 in
theorem rb190_214 {n : Nat} {h0 : zH} (hl : Fx h0)   {l1 : Int32} {s0 : Int32} {X : zX} {p : Unit × zX} (hG : gb190_214 n  l1 s0 X = some p) : b190_214 n  159 l1 s0 159 (mq h0 X) = some (p.1, mq h0 p.2) := by
  unfold gb190_214 at hG
  unfold b190_214
  refine zgd_eq (m_isO hl) ?_
  replace hG := zbnd hG
  obtain ⟨p1, e2, hG⟩ := hG
  refine bnd_eq (r197 hl e2) ?_
  replace hG := Option.some.inj hG
  subst hG
  rfl
def gb190_202 (n : Nat)  (l1 : Int32) (X : zX) : Option (Unit × zX) :=
  if l1 = 45 then
    gb190_214 n  l1 1 X
  else
    gb190_214 n  l1 0 X
set_option maxRecDepth 20000 in
theorem rb190_202 {n : Nat} {h0 : zH} (hl : Fx h0)   {l1 : Int32} {X : zX} {p : Unit × zX} (hG : gb190_202 n  l1 X = some p) : b190_202 n  159 l1 (mq h0 X) = some (p.1, mq h0 p.2) := by
  unfold gb190_202 at hG
  unfold b190_202
  by_cases c1 : l1 = 45
  · rw [if_pos c1] at hG
    refine (if_pos c1).trans ?_
    exact rb190_214 hl  hG
  · rw [if_neg c1] at hG
    refine (if_neg c1).trans ?_
    exact rb190_214 hl  hG
def gb190_321 (n : Nat)  (l1 : Int32) (X : zX) : Option (Unit × zX) :=
  zlet (xF X 69 4) fun X1 =>
  zlet (xF X1 68 ((X1.1 68) + 1)) fun X3 =>
  some ((), X3)
set_option maxRecDepth 20000 in
theorem rb190_321 {n : Nat} {h0 : zH} (hl : Fx h0)   {l1 : Int32} {X : zX} {p : Unit × zX} (hG : gb190_321 n  l1 X = some p) : b190_321 n  159 l1 (mq h0 X) = some (p.1, mq h0 p.2) := by
  unfold gb190_321 at hG
  unfold b190_321
  replace hG := zlet_ex hG
  obtain ⟨X1, e2, hG⟩ := hG
  refine bnd_eq (mpI_69 hl e2) ?_
  refine bnd_eq (mgI_68 hl) ?_
  replace hG := zlet_ex hG
  obtain ⟨X3, e4, hG⟩ := hG
  refine bnd_eq (mpI_68 hl e4) ?_
  replace hG := Option.some.inj hG
  subst hG
  rfl
def gb190_273 (n : Nat)  (l1 : Int32) (X : zX) : Option (Unit × zX) :=
  if l1 = 123 then
    gb190_321 n  l1 X
  else
    if l1 = 125 then
      gb190_321 n  l1 X
    else
      if l1 = 40 then
        gb190_321 n  l1 X
      else
        if l1 = 41 then
          gb190_321 n  l1 X
        else
          if l1 = 59 then
            gb190_321 n  l1 X
          else
            if l1 = 44 then
              gb190_321 n  l1 X
            else
              if l1 = 58 then
                gb190_321 n  l1 X
              else
                if l1 = 61 then
                  gb190_321 n  l1 X
                else
                  (g195 n 1 X).bind fun p9 =>
                  some ((), p9.2)
set_option maxRecDepth 20000 in
theorem rb190_273 {n : Nat} {h0 : zH} (hl : Fx h0)   {l1 : Int32} {X : zX} {p : Unit × zX} (hG : gb190_273 n  l1 X = some p) : b190_273 n  159 l1 (mq h0 X) = some (p.1, mq h0 p.2) := by
  unfold gb190_273 at hG
  unfold b190_273
  by_cases c1 : l1 = 123
  · rw [if_pos c1] at hG
    refine (if_pos c1).trans ?_
    exact rb190_321 hl  hG
  · rw [if_neg c1] at hG
    refine (if_neg c1).trans ?_
    by_cases c2 : l1 = 125
    · rw [if_pos c2] at hG
      refine (if_pos c2).trans ?_
      exact rb190_321 hl  hG
    · rw [if_neg c2] at hG
      refine (if_neg c2).trans ?_
      by_cases c3 : l1 = 40
      · rw [if_pos c3] at hG
        refine (if_pos c3).trans ?_
        exact rb190_321 hl  hG
      · rw [if_neg c3] at hG
        refine (if_neg c3).trans ?_
        by_cases c4 : l1 = 41
        · rw [if_pos c4] at hG
          refine (if_pos c4).trans ?_
          exact rb190_321 hl  hG
        · rw [if_neg c4] at hG
          refine (if_neg c4).trans ?_
          by_cases c5 : l1 = 59
          · rw [if_pos c5] at hG
            refine (if_pos c5).trans ?_
            exact rb190_321 hl  hG
          · rw [if_neg c5] at hG
            refine (if_neg c5).trans ?_
            by_cases c6 : l1 = 44
            · rw [if_pos c6] at hG
              refine (if_pos c6).trans ?_
              exact rb190_321 hl  hG
            · rw [if_neg c6] at hG
              refine (if_neg c6).trans ?_
              by_cases c7 : l1 = 58
              · rw [if_pos c7] at hG
                refine (if_pos c7).trans ?_
                exact rb190_321 hl  hG
              · rw [if_neg c7] at hG
                refine (if_neg c7).trans ?_
                by_cases c8 : l1 = 61
                · rw [if_pos c8] at hG
                  refine (if_pos c8).trans ?_
                  exact rb190_321 hl  hG
                · rw [if_neg c8] at hG
                  refine (if_neg c8).trans ?_
                  refine zgd_eq (m_isO hl) ?_
                  replace hG := zbnd hG
                  obtain ⟨p9, e10, hG⟩ := hG
                  refine bnd_eq (r195 hl e10) ?_
                  replace hG := Option.some.inj hG
                  subst hG
                  rfl
def gb190_220 (n : Nat)  (l1 : Int32) (X : zX) : Option (Unit × zX) :=
  if l1 = 39 then
    (g198 n  X).bind fun p2 =>
    some ((), p2.2)
  else
    if l1 = 45 then
      (g191 n ((X.1 68) + 1) X).bind fun p5 =>
      if p5.1 = 62 then
        zlet (xF p5.2 69 6) fun X8 =>
        zlet (xF X8 68 ((X8.1 68) + 2)) fun X10 =>
        some ((), X10)
      else
        gb190_273 n  l1 p5.2
    else
      gb190_273 n  l1 X
set_option maxRecDepth 20000 in
theorem rb190_220 {n : Nat} {h0 : zH} (hl : Fx h0)   {l1 : Int32} {X : zX} {p : Unit × zX} (hG : gb190_220 n  l1 X = some p) : b190_220 n  159 l1 (mq h0 X) = some (p.1, mq h0 p.2) := by
  unfold gb190_220 at hG
  unfold b190_220
  by_cases c1 : l1 = 39
  · rw [if_pos c1] at hG
    refine (if_pos c1).trans ?_
    refine zgd_eq (m_isO hl) ?_
    replace hG := zbnd hG
    obtain ⟨p2, e3, hG⟩ := hG
    refine bnd_eq (r198 hl e3) ?_
    replace hG := Option.some.inj hG
    subst hG
    rfl
  · rw [if_neg c1] at hG
    refine (if_neg c1).trans ?_
    by_cases c4 : l1 = 45
    · rw [if_pos c4] at hG
      refine (if_pos c4).trans ?_
      refine bnd_eq (mgI_68 hl) ?_
      refine zgd_eq (m_isO hl) ?_
      replace hG := zbnd hG
      obtain ⟨p5, e6, hG⟩ := hG
      refine bnd_eq (r191 hl e6) ?_
      by_cases c7 : p5.1 = 62
      · rw [if_pos c7] at hG
        refine (if_pos c7).trans ?_
        replace hG := zlet_ex hG
        obtain ⟨X8, e9, hG⟩ := hG
        refine bnd_eq (mpI_69 hl e9) ?_
        refine bnd_eq (mgI_68 hl) ?_
        replace hG := zlet_ex hG
        obtain ⟨X10, e11, hG⟩ := hG
        refine bnd_eq (mpI_68 hl e11) ?_
        replace hG := Option.some.inj hG
        subst hG
        rfl
      · rw [if_neg c7] at hG
        refine (if_neg c7).trans ?_
        exact rb190_273 hl  hG
    · rw [if_neg c4] at hG
      refine (if_neg c4).trans ?_
      exact rb190_273 hl  hG
def gb190_116 (n : Nat) (q116 : Int32 → zX → Option (Unit × zX)) (l1 : Int32) (X : zX) : Option (Unit × zX) :=
  (g191 n (X.1 68) X).bind fun p1 =>
  (g193 n p1.1 p1.2).bind fun p3 =>
  if p3.1 = 0 then
    zlet (xF p3.2 71 ((p3.2.1 68) - (p3.2.1 70))) fun X6 =>
    if (X6.1 71) ≤ 16 then
      some ((), X6)
    else
      (g195 n 1 X6).bind fun p9 =>
      some ((), p9.2)
  else
    zlet (xF p3.2 68 ((p3.2.1 68) + 1)) fun X11 =>
    q116 l1 X11
set_option maxRecDepth 20000 in
theorem rb190_116 {n : Nat} {h0 : zH} (hl : Fx h0) {q116 : Int32 → zX → Option (Unit × zX)} {r116 : Nat → Int32 → zH → Option (Unit × zH)} (hr116 : ∀ {l1 : Int32} {X : zX} {p : Unit × zX}, q116 l1 X = some p → r116 159 l1 (mq h0 X) = some (p.1, mq h0 p.2)) {l1 : Int32} {X : zX} {p : Unit × zX} (hG : gb190_116 n q116 l1 X = some p) : b190_116 n r116 159 l1 (mq h0 X) = some (p.1, mq h0 p.2) := by
  unfold gb190_116 at hG
  unfold b190_116
  refine bnd_eq (mgI_68 hl) ?_
  refine zgd_eq (m_isO hl) ?_
  replace hG := zbnd hG
  obtain ⟨p1, e2, hG⟩ := hG
  refine bnd_eq (r191 hl e2) ?_
  replace hG := zbnd hG
  obtain ⟨p3, e4, hG⟩ := hG
  refine bnd_eq (r193 hl e4) ?_
  by_cases c5 : p3.1 = 0
  · rw [if_pos c5] at hG
    refine (if_pos c5).trans ?_
    refine bnd_eq (mgI_68 hl) ?_
    refine bnd_eq (mgI_70 hl) ?_
    replace hG := zlet_ex hG
    obtain ⟨X6, e7, hG⟩ := hG
    refine bnd_eq (mpI_71 hl e7) ?_
    refine bnd_eq (mgI_71 hl) ?_
    by_cases c8 : (X6.1 71) ≤ 16
    · rw [if_pos c8] at hG
      refine (if_pos c8).trans ?_
      replace hG := Option.some.inj hG
      subst hG
      rfl
    · rw [if_neg c8] at hG
      refine (if_neg c8).trans ?_
      refine zgd_eq (m_isO hl) ?_
      replace hG := zbnd hG
      obtain ⟨p9, e10, hG⟩ := hG
      refine bnd_eq (r195 hl e10) ?_
      replace hG := Option.some.inj hG
      subst hG
      rfl
  · rw [if_neg c5] at hG
    refine (if_neg c5).trans ?_
    refine bnd_eq (mgI_68 hl) ?_
    replace hG := zlet_ex hG
    obtain ⟨X11, e12, hG⟩ := hG
    refine bnd_eq (mpI_68 hl e12) ?_
    exact hr116 hG
def gf190_116 (n : Nat)  (k : Nat) : Int32 → zX → Option (Unit × zX) := Nat.rec (fun _ _ => none) (fun _ ih => gb190_116 n ih) k
theorem rf190_116 {n : Nat} {h0 : zH} (hl : Fx h0)   (k : Nat) : ∀ {l1 : Int32} {X : zX} {p : Unit × zX}, gf190_116 n  k l1 X = some p → f190_116 n  k 159 l1 (mq h0 X) = some (p.1, mq h0 p.2) := by
  induction k with
  | zero => intros; rename_i hG; cases hG
  | succ k ih => intros; rename_i hG; exact rb190_116 (n := n) hl ih hG
def gb190_9 (n : Nat) (q9 : zX → Option (Unit × zX))  (X : zX) : Option (Unit × zX) :=
  (g191 n (X.1 68) X).bind fun p1 =>
  if p1.1 = 9 then
    gb190_61 n q9 p1.2
  else
    (g191 n (p1.2.1 68) p1.2).bind fun p4 =>
    if p4.1 = 10 then
      gb190_61 n q9 p4.2
    else
      (g191 n (p4.2.1 68) p4.2).bind fun p7 =>
      if p7.1 = 13 then
        gb190_61 n q9 p7.2
      else
        (g191 n (p7.2.1 68) p7.2).bind fun p10 =>
        if p10.1 = 32 then
          gb190_61 n q9 p10.2
        else
          zlet (xF p10.2 70 (p10.2.1 68)) fun X13 =>
          (g191 n (X13.1 68) X13).bind fun p15 =>
          if p15.1 = (-1) then
            zlet (xF p15.2 69 5) fun X18 =>
            some ((), X18)
          else
            (g192 n p15.1 p15.2).bind fun p20 =>
            if p20.1 = 0 then
              (g194 n p15.1 p20.2).bind fun p23 =>
              if p23.1 = 0 then
                if p15.1 = 45 then
                  (g191 n ((p23.2.1 68) + 1) p23.2).bind fun p27 =>
                  (g194 n p27.1 p27.2).bind fun p29 =>
                  if p29.1 = 0 then
                    gb190_220 n  p15.1 p29.2
                  else
                    gb190_202 n  p15.1 p29.2
                else
                  gb190_220 n  p15.1 p23.2
              else
                gb190_202 n  p15.1 p23.2
            else
              zlet (xF p20.2 69 1) fun X32 =>
              gf190_116 n  n p15.1 X32
set_option maxRecDepth 20000 in
theorem rb190_9 {n : Nat} {h0 : zH} (hl : Fx h0) {q9 : zX → Option (Unit × zX)} {r9 : Nat → zH → Option (Unit × zH)} (hr9 : ∀  {X : zX} {p : Unit × zX}, q9  X = some p → r9 159 (mq h0 X) = some (p.1, mq h0 p.2))  {X : zX} {p : Unit × zX} (hG : gb190_9 n q9  X = some p) : b190_9 n r9 159 (mq h0 X) = some (p.1, mq h0 p.2) := by
  unfold gb190_9 at hG
  unfold b190_9
  refine bnd_eq (mgI_68 hl) ?_
  refine zgd_eq (m_isO hl) ?_
  replace hG := zbnd hG
  obtain ⟨p1, e2, hG⟩ := hG
  refine bnd_eq (r191 hl e2) ?_
  by_cases c3 : p1.1 = 9
  · rw [if_pos c3] at hG
    refine (if_pos c3).trans ?_
    exact rb190_61 hl hr9 hG
  · rw [if_neg c3] at hG
    refine (if_neg c3).trans ?_
    refine bnd_eq (mgI_68 hl) ?_
    refine zgd_eq (m_isO hl) ?_
    replace hG := zbnd hG
    obtain ⟨p4, e5, hG⟩ := hG
    refine bnd_eq (r191 hl e5) ?_
    by_cases c6 : p4.1 = 10
    · rw [if_pos c6] at hG
      refine (if_pos c6).trans ?_
      exact rb190_61 hl hr9 hG
    · rw [if_neg c6] at hG
      refine (if_neg c6).trans ?_
      refine bnd_eq (mgI_68 hl) ?_
      refine zgd_eq (m_isO hl) ?_
      replace hG := zbnd hG
      obtain ⟨p7, e8, hG⟩ := hG
      refine bnd_eq (r191 hl e8) ?_
      by_cases c9 : p7.1 = 13
      · rw [if_pos c9] at hG
        refine (if_pos c9).trans ?_
        exact rb190_61 hl hr9 hG
      · rw [if_neg c9] at hG
        refine (if_neg c9).trans ?_
        refine bnd_eq (mgI_68 hl) ?_
        refine zgd_eq (m_isO hl) ?_
        replace hG := zbnd hG
        obtain ⟨p10, e11, hG⟩ := hG
        refine bnd_eq (r191 hl e11) ?_
        by_cases c12 : p10.1 = 32
        · rw [if_pos c12] at hG
          refine (if_pos c12).trans ?_
          exact rb190_61 hl hr9 hG
        · rw [if_neg c12] at hG
          refine (if_neg c12).trans ?_
          refine bnd_eq (mgI_68 hl) ?_
          replace hG := zlet_ex hG
          obtain ⟨X13, e14, hG⟩ := hG
          refine bnd_eq (mpI_70 hl e14) ?_
          refine bnd_eq (mgI_68 hl) ?_
          refine zgd_eq (m_isO hl) ?_
          replace hG := zbnd hG
          obtain ⟨p15, e16, hG⟩ := hG
          refine bnd_eq (r191 hl e16) ?_
          by_cases c17 : p15.1 = (-1)
          · rw [if_pos c17] at hG
            refine (if_pos c17).trans ?_
            replace hG := zlet_ex hG
            obtain ⟨X18, e19, hG⟩ := hG
            refine bnd_eq (mpI_69 hl e19) ?_
            replace hG := Option.some.inj hG
            subst hG
            rfl
          · rw [if_neg c17] at hG
            refine (if_neg c17).trans ?_
            replace hG := zbnd hG
            obtain ⟨p20, e21, hG⟩ := hG
            refine bnd_eq (r192 hl e21) ?_
            by_cases c22 : p20.1 = 0
            · rw [if_pos c22] at hG
              refine (if_pos c22).trans ?_
              replace hG := zbnd hG
              obtain ⟨p23, e24, hG⟩ := hG
              refine bnd_eq (r194 hl e24) ?_
              by_cases c25 : p23.1 = 0
              · rw [if_pos c25] at hG
                refine (if_pos c25).trans ?_
                by_cases c26 : p15.1 = 45
                · rw [if_pos c26] at hG
                  refine (if_pos c26).trans ?_
                  refine bnd_eq (mgI_68 hl) ?_
                  refine zgd_eq (m_isO hl) ?_
                  replace hG := zbnd hG
                  obtain ⟨p27, e28, hG⟩ := hG
                  refine bnd_eq (r191 hl e28) ?_
                  replace hG := zbnd hG
                  obtain ⟨p29, e30, hG⟩ := hG
                  refine bnd_eq (r194 hl e30) ?_
                  by_cases c31 : p29.1 = 0
                  · rw [if_pos c31] at hG
                    refine (if_pos c31).trans ?_
                    exact rb190_220 hl  hG
                  · rw [if_neg c31] at hG
                    refine (if_neg c31).trans ?_
                    exact rb190_202 hl  hG
                · rw [if_neg c26] at hG
                  refine (if_neg c26).trans ?_
                  exact rb190_220 hl  hG
              · rw [if_neg c25] at hG
                refine (if_neg c25).trans ?_
                exact rb190_202 hl  hG
            · rw [if_neg c22] at hG
              refine (if_neg c22).trans ?_
              replace hG := zlet_ex hG
              obtain ⟨X32, e33, hG⟩ := hG
              refine bnd_eq (mpI_69 hl e33) ?_
              exact rf190_116 hl  n hG
def gf190_9 (n : Nat)  (k : Nat) : zX → Option (Unit × zX) := Nat.rec (fun _ => none) (fun _ ih => gb190_9 n ih) k
theorem rf190_9 {n : Nat} {h0 : zH} (hl : Fx h0)   (k : Nat) : ∀  {X : zX} {p : Unit × zX}, gf190_9 n  k  X = some p → f190_9 n  k 159 (mq h0 X) = some (p.1, mq h0 p.2) := by
  induction k with
  | zero => intros; rename_i hG; cases hG
  | succ k ih => intros; rename_i hG; exact rb190_9 (n := n) hl ih hG
def g190 (n : Nat)  (X : zX) : Option (Unit × zX) :=
  if (X.1 73) = (-1) then
    gf190_9 n  n X
  else
    some ((), X)
set_option maxRecDepth 20000 in
theorem r190 {n : Nat} {h0 : zH} (hl : Fx h0)  {X : zX} {p : Unit × zX} (hG : g190 n  X = some p) : f190 n 159 (mq h0 X) = some (p.1, mq h0 p.2) := by
  unfold g190 at hG
  unfold f190
  refine bnd_eq (mgI_73 hl) ?_
  by_cases c1 : (X.1 73) = (-1)
  · rw [if_pos c1] at hG
    refine (if_pos c1).trans ?_
    exact rf190_9 hl  n hG
  · rw [if_neg c1] at hG
    refine (if_neg c1).trans ?_
    replace hG := Option.some.inj hG
    subst hG
    rfl
def gb199_129 (n : Nat) (q7 : Nat → Int32 → Int32 → Int32 → zX → Option (Int32 × zX)) (l1 : Nat) (l2 : Int32) (l3 : Int32) (l4 : Int32) (X : zX) : Option (Int32 × zX) :=
  q7 l1 l2 l3 (l4 + 1) X
set_option maxRecDepth 20000 in
theorem rb199_129 {n : Nat} {h0 : zH} (hl : Fx h0) {q7 : Nat → Int32 → Int32 → Int32 → zX → Option (Int32 × zX)} {r7 : Nat → Option Nat → Int32 → Int32 → Int32 → zH → Option (Int32 × zH)} (hr7 : ∀ {l1 : Nat} {l2 : Int32} {l3 : Int32} {l4 : Int32} {X : zX} {p : Int32 × zX}, q7 l1 l2 l3 l4 X = some p → r7 159 (some l1) l2 l3 l4 (mq h0 X) = some (p.1, mq h0 p.2)) {l1 : Nat} {l2 : Int32} {l3 : Int32} {l4 : Int32} {X : zX} {p : Int32 × zX} (hG : gb199_129 n q7 l1 l2 l3 l4 X = some p) : b199_129 n r7 159 (some l1) l2 l3 l4 (mq h0 X) = some (p.1, mq h0 p.2) := by
  unfold gb199_129 at hG
  unfold b199_129
  exact hr7 hG
def gb199_114 (n : Nat) (q7 : Nat → Int32 → Int32 → Int32 → zX → Option (Int32 × zX)) (l1 : Nat) (l2 : Int32) (l3 : Int32) (l4 : Int32) (l5 : Int32) (l6 : Int32) (X : zX) : Option (Int32 × zX) :=
  if l5 = 0 then
    gb199_129 n q7 l1 (l2 + 1) (l4 + 1) l4 X
  else
    some (l2, X)
set_option maxRecDepth 20000 in
theorem rb199_114 {n : Nat} {h0 : zH} (hl : Fx h0) {q7 : Nat → Int32 → Int32 → Int32 → zX → Option (Int32 × zX)} {r7 : Nat → Option Nat → Int32 → Int32 → Int32 → zH → Option (Int32 × zH)} (hr7 : ∀ {l1 : Nat} {l2 : Int32} {l3 : Int32} {l4 : Int32} {X : zX} {p : Int32 × zX}, q7 l1 l2 l3 l4 X = some p → r7 159 (some l1) l2 l3 l4 (mq h0 X) = some (p.1, mq h0 p.2)) {l1 : Nat} {l2 : Int32} {l3 : Int32} {l4 : Int32} {l5 : Int32} {l6 : Int32} {X : zX} {p : Int32 × zX} (hG : gb199_114 n q7 l1 l2 l3 l4 l5 l6 X = some p) : b199_114 n r7 159 (some l1) l2 l3 l4 l5 l6 (mq h0 X) = some (p.1, mq h0 p.2) := by
  unfold gb199_114 at hG
  unfold b199_114
  by_cases c1 : l5 = 0
  · rw [if_pos c1] at hG
    refine (if_pos c1).trans ?_
    exact rb199_129 hl hr7 hG
  · rw [if_neg c1] at hG
    refine (if_neg c1).trans ?_
    replace hG := Option.some.inj hG
    subst hG
    rfl
def gb199_106 (n : Nat) (q7 : Nat → Int32 → Int32 → Int32 → zX → Option (Int32 × zX)) (q65 : Nat → Int32 → Int32 → Int32 → Int32 → Int32 → zX → Option (Int32 × zX)) (l1 : Nat) (l2 : Int32) (l3 : Int32) (l4 : Int32) (l5 : Int32) (l6 : Int32) (s0 : Int32) (X : zX) : Option (Int32 × zX) :=
  q65 l1 l2 l3 l4 s0 (l6 + 1) X
set_option maxRecDepth 20000 in
theorem rb199_106 {n : Nat} {h0 : zH} (hl : Fx h0) {q7 : Nat → Int32 → Int32 → Int32 → zX → Option (Int32 × zX)} {r7 : Nat → Option Nat → Int32 → Int32 → Int32 → zH → Option (Int32 × zH)} {q65 : Nat → Int32 → Int32 → Int32 → Int32 → Int32 → zX → Option (Int32 × zX)} {r65 : Nat → Option Nat → Int32 → Int32 → Int32 → Int32 → Int32 → zH → Option (Int32 × zH)} (hr7 : ∀ {l1 : Nat} {l2 : Int32} {l3 : Int32} {l4 : Int32} {X : zX} {p : Int32 × zX}, q7 l1 l2 l3 l4 X = some p → r7 159 (some l1) l2 l3 l4 (mq h0 X) = some (p.1, mq h0 p.2)) (hr65 : ∀ {l1 : Nat} {l2 : Int32} {l3 : Int32} {l4 : Int32} {l5 : Int32} {l6 : Int32} {X : zX} {p : Int32 × zX}, q65 l1 l2 l3 l4 l5 l6 X = some p → r65 159 (some l1) l2 l3 l4 l5 l6 (mq h0 X) = some (p.1, mq h0 p.2)) {l1 : Nat} {l2 : Int32} {l3 : Int32} {l4 : Int32} {l5 : Int32} {l6 : Int32} {s0 : Int32} {X : zX} {p : Int32 × zX} (hG : gb199_106 n q7 q65 l1 l2 l3 l4 l5 l6 s0 X = some p) : b199_106 n r7 r65 159 (some l1) l2 l3 l4 l5 l6 s0 (mq h0 X) = some (p.1, mq h0 p.2) := by
  unfold gb199_106 at hG
  unfold b199_106
  exact hr65 hG
def gb199_65 (n : Nat) (q7 : Nat → Int32 → Int32 → Int32 → zX → Option (Int32 × zX)) (q65 : Nat → Int32 → Int32 → Int32 → Int32 → Int32 → zX → Option (Int32 × zX)) (l1 : Nat) (l2 : Int32) (l3 : Int32) (l4 : Int32) (l5 : Int32) (l6 : Int32) (X : zX) : Option (Int32 × zX) :=
  if (X.1 71) ≤ l6 then
    gb199_114 n q7 l1 l2 l3 l4 l5 l6 X
  else
    if l5 = 0 then
      gb199_114 n q7 l1 l2 l3 l4 l5 l6 X
    else
      (g191 n ((X.1 70) + l6) X).bind fun p3 =>
      zgd (kS l1) <|
      (rd (cs l1) (l3 + l6)).bind fun x6 =>
      if p3.1 = x6 then
        gb199_106 n q7 q65 l1 l2 l3 l4 l5 l6 1 p3.2
      else
        gb199_106 n q7 q65 l1 l2 l3 l4 l5 l6 0 p3.2
set_option maxRecDepth 20000 in
theorem rb199_65 {n : Nat} {h0 : zH} (hl : Fx h0) {q7 : Nat → Int32 → Int32 → Int32 → zX → Option (Int32 × zX)} {r7 : Nat → Option Nat → Int32 → Int32 → Int32 → zH → Option (Int32 × zH)} {q65 : Nat → Int32 → Int32 → Int32 → Int32 → Int32 → zX → Option (Int32 × zX)} {r65 : Nat → Option Nat → Int32 → Int32 → Int32 → Int32 → Int32 → zH → Option (Int32 × zH)} (hr7 : ∀ {l1 : Nat} {l2 : Int32} {l3 : Int32} {l4 : Int32} {X : zX} {p : Int32 × zX}, q7 l1 l2 l3 l4 X = some p → r7 159 (some l1) l2 l3 l4 (mq h0 X) = some (p.1, mq h0 p.2)) (hr65 : ∀ {l1 : Nat} {l2 : Int32} {l3 : Int32} {l4 : Int32} {l5 : Int32} {l6 : Int32} {X : zX} {p : Int32 × zX}, q65 l1 l2 l3 l4 l5 l6 X = some p → r65 159 (some l1) l2 l3 l4 l5 l6 (mq h0 X) = some (p.1, mq h0 p.2)) {l1 : Nat} {l2 : Int32} {l3 : Int32} {l4 : Int32} {l5 : Int32} {l6 : Int32} {X : zX} {p : Int32 × zX} (hG : gb199_65 n q7 q65 l1 l2 l3 l4 l5 l6 X = some p) : b199_65 n r7 r65 159 (some l1) l2 l3 l4 l5 l6 (mq h0 X) = some (p.1, mq h0 p.2) := by
  unfold gb199_65 at hG
  unfold b199_65
  refine bnd_eq (mgI_71 hl) ?_
  by_cases c1 : (X.1 71) ≤ l6
  · rw [if_pos c1] at hG
    refine (if_pos c1).trans ?_
    exact rb199_114 hl hr7 hG
  · rw [if_neg c1] at hG
    refine (if_neg c1).trans ?_
    by_cases c2 : l5 = 0
    · rw [if_pos c2] at hG
      refine (if_pos c2).trans ?_
      exact rb199_114 hl hr7 hG
    · rw [if_neg c2] at hG
      refine (if_neg c2).trans ?_
      refine bnd_eq (mgI_70 hl) ?_
      refine zgd_eq (m_isO hl) ?_
      replace hG := zbnd hG
      obtain ⟨p3, e4, hG⟩ := hG
      refine bnd_eq (r191 hl e4) ?_
      refine bnd_eq rfl ?_
      replace hG := zgd_some hG
      obtain ⟨g5, hG⟩ := hG
      refine zgd_eq (m_isS hl g5) ?_
      replace hG := zbnd hG
      obtain ⟨x6, e7, hG⟩ := hG
      refine bnd_eq (m_chr hl g5 e7) ?_
      by_cases c8 : p3.1 = x6
      · rw [if_pos c8] at hG
        refine (if_pos c8).trans ?_
        exact rb199_106 hl hr7 hr65 hG
      · rw [if_neg c8] at hG
        refine (if_neg c8).trans ?_
        exact rb199_106 hl hr7 hr65 hG
def gf199_65 (n : Nat) (q7 : Nat → Int32 → Int32 → Int32 → zX → Option (Int32 × zX)) (k : Nat) : Nat → Int32 → Int32 → Int32 → Int32 → Int32 → zX → Option (Int32 × zX) := Nat.rec (fun _ _ _ _ _ _ _ => none) (fun _ ih => gb199_65 n q7 ih) k
theorem rf199_65 {n : Nat} {h0 : zH} (hl : Fx h0) {q7 : Nat → Int32 → Int32 → Int32 → zX → Option (Int32 × zX)} {r7 : Nat → Option Nat → Int32 → Int32 → Int32 → zH → Option (Int32 × zH)} (hr7 : ∀ {l1 : Nat} {l2 : Int32} {l3 : Int32} {l4 : Int32} {X : zX} {p : Int32 × zX}, q7 l1 l2 l3 l4 X = some p → r7 159 (some l1) l2 l3 l4 (mq h0 X) = some (p.1, mq h0 p.2)) (k : Nat) : ∀ {l1 : Nat} {l2 : Int32} {l3 : Int32} {l4 : Int32} {l5 : Int32} {l6 : Int32} {X : zX} {p : Int32 × zX}, gf199_65 n q7 k l1 l2 l3 l4 l5 l6 X = some p → f199_65 n r7 k 159 (some l1) l2 l3 l4 l5 l6 (mq h0 X) = some (p.1, mq h0 p.2) := by
  induction k with
  | zero => intros; rename_i hG; cases hG
  | succ k ih => intros; rename_i hG; exact rb199_65 (n := n) hl hr7 ih hG
def gb199_60 (n : Nat) (q7 : Nat → Int32 → Int32 → Int32 → zX → Option (Int32 × zX)) (l1 : Nat) (l2 : Int32) (l3 : Int32) (l4 : Int32) (s0 : Int32) (X : zX) : Option (Int32 × zX) :=
  gf199_65 n q7 n l1 l2 l3 l4 s0 0 X
set_option maxRecDepth 20000 in
theorem rb199_60 {n : Nat} {h0 : zH} (hl : Fx h0) {q7 : Nat → Int32 → Int32 → Int32 → zX → Option (Int32 × zX)} {r7 : Nat → Option Nat → Int32 → Int32 → Int32 → zH → Option (Int32 × zH)} (hr7 : ∀ {l1 : Nat} {l2 : Int32} {l3 : Int32} {l4 : Int32} {X : zX} {p : Int32 × zX}, q7 l1 l2 l3 l4 X = some p → r7 159 (some l1) l2 l3 l4 (mq h0 X) = some (p.1, mq h0 p.2)) {l1 : Nat} {l2 : Int32} {l3 : Int32} {l4 : Int32} {s0 : Int32} {X : zX} {p : Int32 × zX} (hG : gb199_60 n q7 l1 l2 l3 l4 s0 X = some p) : b199_60 n r7 159 (some l1) l2 l3 l4 s0 (mq h0 X) = some (p.1, mq h0 p.2) := by
  unfold gb199_60 at hG
  unfold b199_60
  exact rf199_65 hl hr7 n hG
def gb199_59 (n : Nat) (q7 : Nat → Int32 → Int32 → Int32 → zX → Option (Int32 × zX)) (l1 : Nat) (l2 : Int32) (l3 : Int32) (l4 : Int32) (X : zX) : Option (Int32 × zX) :=
  gb199_60 n q7 l1 l2 l3 l4 0 X
set_option maxRecDepth 20000 in
theorem rb199_59 {n : Nat} {h0 : zH} (hl : Fx h0) {q7 : Nat → Int32 → Int32 → Int32 → zX → Option (Int32 × zX)} {r7 : Nat → Option Nat → Int32 → Int32 → Int32 → zH → Option (Int32 × zH)} (hr7 : ∀ {l1 : Nat} {l2 : Int32} {l3 : Int32} {l4 : Int32} {X : zX} {p : Int32 × zX}, q7 l1 l2 l3 l4 X = some p → r7 159 (some l1) l2 l3 l4 (mq h0 X) = some (p.1, mq h0 p.2)) {l1 : Nat} {l2 : Int32} {l3 : Int32} {l4 : Int32} {X : zX} {p : Int32 × zX} (hG : gb199_59 n q7 l1 l2 l3 l4 X = some p) : b199_59 n r7 159 (some l1) l2 l3 l4 (mq h0 X) = some (p.1, mq h0 p.2) := by
  unfold gb199_59 at hG
  unfold b199_59
  exact rb199_60 hl hr7 hG
def gb199_36 (n : Nat) (q7 : Nat → Int32 → Int32 → Int32 → zX → Option (Int32 × zX)) (l1 : Nat) (l2 : Int32) (l3 : Int32) (l4 : Int32) (X : zX) : Option (Int32 × zX) :=
  if (X.1 69) = 1 then
    if (X.1 71) = (l4 - l3) then
      gb199_60 n q7 l1 l2 l3 l4 1 X
    else
      gb199_59 n q7 l1 l2 l3 l4 X
  else
    gb199_59 n q7 l1 l2 l3 l4 X
set_option maxRecDepth 20000 in
theorem rb199_36 {n : Nat} {h0 : zH} (hl : Fx h0) {q7 : Nat → Int32 → Int32 → Int32 → zX → Option (Int32 × zX)} {r7 : Nat → Option Nat → Int32 → Int32 → Int32 → zH → Option (Int32 × zH)} (hr7 : ∀ {l1 : Nat} {l2 : Int32} {l3 : Int32} {l4 : Int32} {X : zX} {p : Int32 × zX}, q7 l1 l2 l3 l4 X = some p → r7 159 (some l1) l2 l3 l4 (mq h0 X) = some (p.1, mq h0 p.2)) {l1 : Nat} {l2 : Int32} {l3 : Int32} {l4 : Int32} {X : zX} {p : Int32 × zX} (hG : gb199_36 n q7 l1 l2 l3 l4 X = some p) : b199_36 n r7 159 (some l1) l2 l3 l4 (mq h0 X) = some (p.1, mq h0 p.2) := by
  unfold gb199_36 at hG
  unfold b199_36
  refine bnd_eq (mgI_69 hl) ?_
  by_cases c1 : (X.1 69) = 1
  · rw [if_pos c1] at hG
    refine (if_pos c1).trans ?_
    refine bnd_eq (mgI_71 hl) ?_
    by_cases c2 : (X.1 71) = (l4 - l3)
    · rw [if_pos c2] at hG
      refine (if_pos c2).trans ?_
      exact rb199_60 hl hr7 hG
    · rw [if_neg c2] at hG
      refine (if_neg c2).trans ?_
      exact rb199_59 hl hr7 hG
  · rw [if_neg c1] at hG
    refine (if_neg c1).trans ?_
    exact rb199_59 hl hr7 hG
def gb199_7 (n : Nat) (q7 : Nat → Int32 → Int32 → Int32 → zX → Option (Int32 × zX)) (l1 : Nat) (l2 : Int32) (l3 : Int32) (l4 : Int32) (X : zX) : Option (Int32 × zX) :=
  zgd (kS l1) <|
  if (nI (cs l1).length) < l4 then
    some ((-1), X)
  else
    zgd (kS l1) <|
    if l4 = (nI (cs l1).length) then
      gb199_36 n q7 l1 l2 l3 l4 X
    else
      zgd (kS l1) <|
      (rd (cs l1) l4).bind fun x6 =>
      if x6 = 32 then
        gb199_36 n q7 l1 l2 l3 l4 X
      else
        gb199_129 n q7 l1 l2 l3 l4 X
set_option maxRecDepth 20000 in
theorem rb199_7 {n : Nat} {h0 : zH} (hl : Fx h0) {q7 : Nat → Int32 → Int32 → Int32 → zX → Option (Int32 × zX)} {r7 : Nat → Option Nat → Int32 → Int32 → Int32 → zH → Option (Int32 × zH)} (hr7 : ∀ {l1 : Nat} {l2 : Int32} {l3 : Int32} {l4 : Int32} {X : zX} {p : Int32 × zX}, q7 l1 l2 l3 l4 X = some p → r7 159 (some l1) l2 l3 l4 (mq h0 X) = some (p.1, mq h0 p.2)) {l1 : Nat} {l2 : Int32} {l3 : Int32} {l4 : Int32} {X : zX} {p : Int32 × zX} (hG : gb199_7 n q7 l1 l2 l3 l4 X = some p) : b199_7 n r7 159 (some l1) l2 l3 l4 (mq h0 X) = some (p.1, mq h0 p.2) := by
  unfold gb199_7 at hG
  unfold b199_7
  refine bnd_eq rfl ?_
  replace hG := zgd_some hG
  obtain ⟨g1, hG⟩ := hG
  refine zgd_eq (m_isS hl g1) ?_
  refine bnd_eq (m_len hl g1) ?_
  by_cases c2 : (nI (cs l1).length) < l4
  · rw [if_pos c2] at hG
    refine (if_pos c2).trans ?_
    replace hG := Option.some.inj hG
    subst hG
    rfl
  · rw [if_neg c2] at hG
    refine (if_neg c2).trans ?_
    replace hG := zgd_some hG
    obtain ⟨g3, hG⟩ := hG
    refine zgd_eq (m_isS hl g3) ?_
    refine bnd_eq (m_len hl g3) ?_
    by_cases c4 : l4 = (nI (cs l1).length)
    · rw [if_pos c4] at hG
      refine (if_pos c4).trans ?_
      exact rb199_36 hl hr7 hG
    · rw [if_neg c4] at hG
      refine (if_neg c4).trans ?_
      replace hG := zgd_some hG
      obtain ⟨g5, hG⟩ := hG
      refine zgd_eq (m_isS hl g5) ?_
      replace hG := zbnd hG
      obtain ⟨x6, e7, hG⟩ := hG
      refine bnd_eq (m_chr hl g5 e7) ?_
      by_cases c8 : x6 = 32
      · rw [if_pos c8] at hG
        refine (if_pos c8).trans ?_
        exact rb199_36 hl hr7 hG
      · rw [if_neg c8] at hG
        refine (if_neg c8).trans ?_
        exact rb199_129 hl hr7 hG
def gf199_7 (n : Nat)  (k : Nat) : Nat → Int32 → Int32 → Int32 → zX → Option (Int32 × zX) := Nat.rec (fun _ _ _ _ _ => none) (fun _ ih => gb199_7 n ih) k
theorem rf199_7 {n : Nat} {h0 : zH} (hl : Fx h0)   (k : Nat) : ∀ {l1 : Nat} {l2 : Int32} {l3 : Int32} {l4 : Int32} {X : zX} {p : Int32 × zX}, gf199_7 n  k l1 l2 l3 l4 X = some p → f199_7 n  k 159 (some l1) l2 l3 l4 (mq h0 X) = some (p.1, mq h0 p.2) := by
  induction k with
  | zero => intros; rename_i hG; cases hG
  | succ k ih => intros; rename_i hG; exact rb199_7 (n := n) hl ih hG
def g199 (n : Nat) (y1 : Nat) (X : zX) : Option (Int32 × zX) :=
  gf199_7 n  n y1 0 0 0 X
set_option maxRecDepth 20000 in
theorem r199 {n : Nat} {h0 : zH} (hl : Fx h0) {y1 : Nat} {X : zX} {p : Int32 × zX} (hG : g199 n y1 X = some p) : f199 n 159 (some y1) (mq h0 X) = some (p.1, mq h0 p.2) := by
  unfold g199 at hG
  unfold f199
  exact rf199_7 hl  n hG
def g200 (n : Nat) (y1 : Int32) (X : zX) : Option (Unit × zX) :=
  if (X.1 73) = (-1) then
    if y1 = 0 then
      (g195 n 2 X).bind fun p3 =>
      some ((), p3.2)
    else
      some ((), X)
  else
    some ((), X)
set_option maxRecDepth 20000 in
theorem r200 {n : Nat} {h0 : zH} (hl : Fx h0) {y1 : Int32} {X : zX} {p : Unit × zX} (hG : g200 n y1 X = some p) : f200 n 159 y1 (mq h0 X) = some (p.1, mq h0 p.2) := by
  unfold g200 at hG
  unfold f200
  refine bnd_eq (mgI_73 hl) ?_
  by_cases c1 : (X.1 73) = (-1)
  · rw [if_pos c1] at hG
    refine (if_pos c1).trans ?_
    by_cases c2 : y1 = 0
    · rw [if_pos c2] at hG
      refine (if_pos c2).trans ?_
      refine zgd_eq (m_isO hl) ?_
      replace hG := zbnd hG
      obtain ⟨p3, e4, hG⟩ := hG
      refine bnd_eq (r195 hl e4) ?_
      replace hG := Option.some.inj hG
      subst hG
      rfl
    · rw [if_neg c2] at hG
      refine (if_neg c2).trans ?_
      replace hG := Option.some.inj hG
      subst hG
      rfl
  · rw [if_neg c1] at hG
    refine (if_neg c1).trans ?_
    replace hG := Option.some.inj hG
    subst hG
    rfl
def g203 (n : Nat)  (X : zX) : Option (Int32 × zX) :=
  if (X.1 69) = 1 then
    (g199 n 55 X).bind fun p2 =>
    if p2.1 = (-1) then
      some (1, p2.2)
    else
      some (0, p2.2)
  else
    some (0, X)
set_option maxRecDepth 20000 in
theorem r203 {n : Nat} {h0 : zH} (hl : Fx h0)  {X : zX} {p : Int32 × zX} (hG : g203 n  X = some p) : f203 n 159 (mq h0 X) = some (p.1, mq h0 p.2) := by
  unfold g203 at hG
  unfold f203
  refine bnd_eq (mgI_69 hl) ?_
  by_cases c1 : (X.1 69) = 1
  · rw [if_pos c1] at hG
    refine (if_pos c1).trans ?_
    refine zgd_eq (m_isO hl) ?_
    replace hG := zbnd hG
    obtain ⟨p2, e3, hG⟩ := hG
    refine bnd_eq (r199 hl e3) ?_
    by_cases c4 : p2.1 = (-1)
    · rw [if_pos c4] at hG
      refine (if_pos c4).trans ?_
      replace hG := Option.some.inj hG
      subst hG
      rfl
    · rw [if_neg c4] at hG
      refine (if_neg c4).trans ?_
      replace hG := Option.some.inj hG
      subst hG
      rfl
  · rw [if_neg c1] at hG
    refine (if_neg c1).trans ?_
    replace hG := Option.some.inj hG
    subst hG
    rfl
def gb205_60 (n : Nat) (q20 : Int32 → Int32 → Int32 → Int32 → Int32 → zX → Option (Int32 × zX)) (l1 : Int32) (l2 : Int32) (l3 : Int32) (l4 : Int32) (l5 : Int32) (s0 : Int32) (X : zX) : Option (Int32 × zX) :=
  q20 l1 l2 l3 s0 (l5 + 1) X
set_option maxRecDepth 20000 in
theorem rb205_60 {n : Nat} {h0 : zH} (hl : Fx h0) {q20 : Int32 → Int32 → Int32 → Int32 → Int32 → zX → Option (Int32 × zX)} {r20 : Nat → Int32 → Int32 → Int32 → Int32 → Int32 → zH → Option (Int32 × zH)} (hr20 : ∀ {l1 : Int32} {l2 : Int32} {l3 : Int32} {l4 : Int32} {l5 : Int32} {X : zX} {p : Int32 × zX}, q20 l1 l2 l3 l4 l5 X = some p → r20 159 l1 l2 l3 l4 l5 (mq h0 X) = some (p.1, mq h0 p.2)) {l1 : Int32} {l2 : Int32} {l3 : Int32} {l4 : Int32} {l5 : Int32} {s0 : Int32} {X : zX} {p : Int32 × zX} (hG : gb205_60 n q20 l1 l2 l3 l4 l5 s0 X = some p) : b205_60 n r20 159 l1 l2 l3 l4 l5 s0 (mq h0 X) = some (p.1, mq h0 p.2) := by
  unfold gb205_60 at hG
  unfold b205_60
  exact hr20 hG
def gb205_20 (n : Nat) (q20 : Int32 → Int32 → Int32 → Int32 → Int32 → zX → Option (Int32 × zX)) (l1 : Int32) (l2 : Int32) (l3 : Int32) (l4 : Int32) (l5 : Int32) (X : zX) : Option (Int32 × zX) :=
  if l3 ≤ l5 then
    zgd (zrtn .boolean l4) <|
    some (l4, X)
  else
    if l4 = 0 then
      zgd (zrtn .boolean l4) <|
      some (l4, X)
    else
      (rd (X.2.2 3) ((16 * l1) + l5)).bind fun x6 =>
      (rd (X.2.2 0) (l2 + l5)).bind fun x9 =>
      if x6 = x9 then
        gb205_60 n q20 l1 l2 l3 l4 l5 1 X
      else
        gb205_60 n q20 l1 l2 l3 l4 l5 0 X
set_option maxRecDepth 20000 in
theorem rb205_20 {n : Nat} {h0 : zH} (hl : Fx h0) {q20 : Int32 → Int32 → Int32 → Int32 → Int32 → zX → Option (Int32 × zX)} {r20 : Nat → Int32 → Int32 → Int32 → Int32 → Int32 → zH → Option (Int32 × zH)} (hr20 : ∀ {l1 : Int32} {l2 : Int32} {l3 : Int32} {l4 : Int32} {l5 : Int32} {X : zX} {p : Int32 × zX}, q20 l1 l2 l3 l4 l5 X = some p → r20 159 l1 l2 l3 l4 l5 (mq h0 X) = some (p.1, mq h0 p.2)) {l1 : Int32} {l2 : Int32} {l3 : Int32} {l4 : Int32} {l5 : Int32} {X : zX} {p : Int32 × zX} (hG : gb205_20 n q20 l1 l2 l3 l4 l5 X = some p) : b205_20 n r20 159 l1 l2 l3 l4 l5 (mq h0 X) = some (p.1, mq h0 p.2) := by
  unfold gb205_20 at hG
  unfold b205_20
  by_cases c1 : l3 ≤ l5
  · rw [if_pos c1] at hG
    refine (if_pos c1).trans ?_
    replace hG := zgd_some hG
    obtain ⟨g2, hG⟩ := hG
    refine zgd_eq g2 ?_
    replace hG := Option.some.inj hG
    subst hG
    rfl
  · rw [if_neg c1] at hG
    refine (if_neg c1).trans ?_
    by_cases c3 : l4 = 0
    · rw [if_pos c3] at hG
      refine (if_pos c3).trans ?_
      replace hG := zgd_some hG
      obtain ⟨g4, hG⟩ := hG
      refine zgd_eq g4 ?_
      replace hG := Option.some.inj hG
      subst hG
      rfl
    · rw [if_neg c3] at hG
      refine (if_neg c3).trans ?_
      refine bnd_eq (mgR_7 hl) ?_
      refine bnd_eq rfl ?_
      replace hG := zbnd hG
      obtain ⟨x6, e7, hG⟩ := hG
      refine bnd_eq (m_aB hl (i := 3) (by decide) rfl e7) ?_
      refine bnd_eq (mgR_1 hl) ?_
      refine bnd_eq rfl ?_
      replace hG := zbnd hG
      obtain ⟨x9, e10, hG⟩ := hG
      refine bnd_eq (m_aB hl (i := 0) (by decide) rfl e10) ?_
      by_cases c11 : x6 = x9
      · rw [if_pos c11] at hG
        refine (if_pos c11).trans ?_
        exact rb205_60 hl hr20 hG
      · rw [if_neg c11] at hG
        refine (if_neg c11).trans ?_
        exact rb205_60 hl hr20 hG
def gf205_20 (n : Nat)  (k : Nat) : Int32 → Int32 → Int32 → Int32 → Int32 → zX → Option (Int32 × zX) := Nat.rec (fun _ _ _ _ _ _ => none) (fun _ ih => gb205_20 n ih) k
theorem rf205_20 {n : Nat} {h0 : zH} (hl : Fx h0)   (k : Nat) : ∀ {l1 : Int32} {l2 : Int32} {l3 : Int32} {l4 : Int32} {l5 : Int32} {X : zX} {p : Int32 × zX}, gf205_20 n  k l1 l2 l3 l4 l5 X = some p → f205_20 n  k 159 l1 l2 l3 l4 l5 (mq h0 X) = some (p.1, mq h0 p.2) := by
  induction k with
  | zero => intros; rename_i hG; cases hG
  | succ k ih => intros; rename_i hG; exact rb205_20 (n := n) hl ih hG
def gb205_15 (n : Nat)  (l1 : Int32) (l2 : Int32) (l3 : Int32) (s0 : Int32) (X : zX) : Option (Int32 × zX) :=
  gf205_20 n  n l1 l2 l3 s0 0 X
set_option maxRecDepth 20000 in
theorem rb205_15 {n : Nat} {h0 : zH} (hl : Fx h0)   {l1 : Int32} {l2 : Int32} {l3 : Int32} {s0 : Int32} {X : zX} {p : Int32 × zX} (hG : gb205_15 n  l1 l2 l3 s0 X = some p) : b205_15 n  159 l1 l2 l3 s0 (mq h0 X) = some (p.1, mq h0 p.2) := by
  unfold gb205_15 at hG
  unfold b205_15
  exact rf205_20 hl  n hG
def g205 (n : Nat) (y1 : Int32) (y2 : Int32) (y3 : Int32) (X : zX) : Option (Int32 × zX) :=
  (rd (X.2.2 2) y1).bind fun x2 =>
  if x2 = y3 then
    gb205_15 n  y1 y2 y3 1 X
  else
    gb205_15 n  y1 y2 y3 0 X
set_option maxRecDepth 20000 in
theorem r205 {n : Nat} {h0 : zH} (hl : Fx h0) {y1 : Int32} {y2 : Int32} {y3 : Int32} {X : zX} {p : Int32 × zX} (hG : g205 n y1 y2 y3 X = some p) : f205 n 159 y1 y2 y3 (mq h0 X) = some (p.1, mq h0 p.2) := by
  unfold g205 at hG
  unfold f205
  refine bnd_eq (mgR_6 hl) ?_
  refine bnd_eq rfl ?_
  replace hG := zbnd hG
  obtain ⟨x2, e3, hG⟩ := hG
  refine bnd_eq (m_aI hl (i := 2) (by decide) rfl e3) ?_
  by_cases c4 : x2 = y3
  · rw [if_pos c4] at hG
    refine (if_pos c4).trans ?_
    exact rb205_15 hl  hG
  · rw [if_neg c4] at hG
    refine (if_neg c4).trans ?_
    exact rb205_15 hl  hG
def gb204_3 (n : Nat) (q3 : Nat → Int32 → Int32 → Int32 → Int32 → Int32 → zX → Option (Int32 × zX)) (l1 : Nat) (l2 : Int32) (l3 : Int32) (l4 : Int32) (l5 : Int32) (l6 : Int32) (X : zX) : Option (Int32 × zX) :=
  if l3 ≤ l6 then
    some ((-1), X)
  else
    zgd (yOk l1) <|
    (rd (X.2.2 l1) (l2 + l6)).bind fun x2 =>
    (g205 n x2 l4 l5 X).bind fun p5 =>
    if p5.1 = 0 then
      q3 l1 l2 l3 l4 l5 (l6 + 1) p5.2
    else
      some (l6, p5.2)
set_option maxRecDepth 20000 in
theorem rb204_3 {n : Nat} {h0 : zH} (hl : Fx h0) {q3 : Nat → Int32 → Int32 → Int32 → Int32 → Int32 → zX → Option (Int32 × zX)} {r3 : Nat → Option Nat → Int32 → Int32 → Int32 → Int32 → Int32 → zH → Option (Int32 × zH)} (hr3 : ∀ {l1 : Nat} {l2 : Int32} {l3 : Int32} {l4 : Int32} {l5 : Int32} {l6 : Int32} {X : zX} {p : Int32 × zX}, q3 l1 l2 l3 l4 l5 l6 X = some p → r3 159 (some (160 + l1)) l2 l3 l4 l5 l6 (mq h0 X) = some (p.1, mq h0 p.2)) {l1 : Nat} {l2 : Int32} {l3 : Int32} {l4 : Int32} {l5 : Int32} {l6 : Int32} {X : zX} {p : Int32 × zX} (hG : gb204_3 n q3 l1 l2 l3 l4 l5 l6 X = some p) : b204_3 n r3 159 (some (160 + l1)) l2 l3 l4 l5 l6 (mq h0 X) = some (p.1, mq h0 p.2) := by
  unfold gb204_3 at hG
  unfold b204_3
  by_cases c1 : l3 ≤ l6
  · rw [if_pos c1] at hG
    refine (if_pos c1).trans ?_
    replace hG := Option.some.inj hG
    subst hG
    rfl
  · rw [if_neg c1] at hG
    refine (if_neg c1).trans ?_
    refine bnd_eq rfl ?_
    replace hG := zgd_some hG
    obtain ⟨g4, hG⟩ := hG
    replace hG := zbnd hG
    obtain ⟨x2, e3, hG⟩ := hG
    refine bnd_eq (m_aI hl (yOk_lt g4) (yOk_ty g4) e3) ?_
    refine zgd_eq (m_isO hl) ?_
    replace hG := zbnd hG
    obtain ⟨p5, e6, hG⟩ := hG
    refine bnd_eq (r205 hl e6) ?_
    by_cases c7 : p5.1 = 0
    · rw [if_pos c7] at hG
      refine (if_pos c7).trans ?_
      exact hr3 hG
    · rw [if_neg c7] at hG
      refine (if_neg c7).trans ?_
      replace hG := Option.some.inj hG
      subst hG
      rfl
def gf204_3 (n : Nat)  (k : Nat) : Nat → Int32 → Int32 → Int32 → Int32 → Int32 → zX → Option (Int32 × zX) := Nat.rec (fun _ _ _ _ _ _ _ => none) (fun _ ih => gb204_3 n ih) k
theorem rf204_3 {n : Nat} {h0 : zH} (hl : Fx h0)   (k : Nat) : ∀ {l1 : Nat} {l2 : Int32} {l3 : Int32} {l4 : Int32} {l5 : Int32} {l6 : Int32} {X : zX} {p : Int32 × zX}, gf204_3 n  k l1 l2 l3 l4 l5 l6 X = some p → f204_3 n  k 159 (some (160 + l1)) l2 l3 l4 l5 l6 (mq h0 X) = some (p.1, mq h0 p.2) := by
  induction k with
  | zero => intros; rename_i hG; cases hG
  | succ k ih => intros; rename_i hG; exact rb204_3 (n := n) hl ih hG
def g204 (n : Nat) (y1 : Nat) (y2 : Int32) (y3 : Int32) (y4 : Int32) (y5 : Int32) (X : zX) : Option (Int32 × zX) :=
  gf204_3 n  n y1 y2 y3 y4 y5 0 X
set_option maxRecDepth 20000 in
theorem r204 {n : Nat} {h0 : zH} (hl : Fx h0) {y1 : Nat} {y2 : Int32} {y3 : Int32} {y4 : Int32} {y5 : Int32} {X : zX} {p : Int32 × zX} (hG : g204 n y1 y2 y3 y4 y5 X = some p) : f204 n 159 (some (160 + y1)) y2 y3 y4 y5 (mq h0 X) = some (p.1, mq h0 p.2) := by
  unfold g204 at hG
  unfold f204
  exact rf204_3 hl  n hG
def gb207_10 (n : Nat) (q10 : Int32 → Int32 → Int32 → Int32 → zX → Option (Unit × zX)) (l1 : Int32) (l2 : Int32) (l3 : Int32) (l4 : Int32) (X : zX) : Option (Unit × zX) :=
  if l3 ≤ l4 then
    some ((), X)
  else
    (rd (X.2.2 0) (l2 + l4)).bind fun x4 =>
    zgd (bkO (X.1 4) 3 ((16 * l1) + l4)) <|
    (wr X 3 ((16 * l1) + l4) x4.toInt8.toInt32).bind fun X6 =>
    q10 l1 l2 l3 (l4 + 1) X6
set_option maxRecDepth 20000 in
theorem rb207_10 {n : Nat} {h0 : zH} (hl : Fx h0) {q10 : Int32 → Int32 → Int32 → Int32 → zX → Option (Unit × zX)} {r10 : Nat → Int32 → Int32 → Int32 → Int32 → zH → Option (Unit × zH)} (hr10 : ∀ {l1 : Int32} {l2 : Int32} {l3 : Int32} {l4 : Int32} {X : zX} {p : Unit × zX}, q10 l1 l2 l3 l4 X = some p → r10 159 l1 l2 l3 l4 (mq h0 X) = some (p.1, mq h0 p.2)) {l1 : Int32} {l2 : Int32} {l3 : Int32} {l4 : Int32} {X : zX} {p : Unit × zX} (hG : gb207_10 n q10 l1 l2 l3 l4 X = some p) : b207_10 n r10 159 l1 l2 l3 l4 (mq h0 X) = some (p.1, mq h0 p.2) := by
  unfold gb207_10 at hG
  unfold b207_10
  by_cases c1 : l3 ≤ l4
  · rw [if_pos c1] at hG
    refine (if_pos c1).trans ?_
    replace hG := Option.some.inj hG
    subst hG
    rfl
  · rw [if_neg c1] at hG
    refine (if_neg c1).trans ?_
    refine bnd_eq (mgR_7 hl) ?_
    refine bnd_eq (mgR_1 hl) ?_
    refine bnd_eq rfl ?_
    replace hG := zbnd hG
    obtain ⟨x4, e5, hG⟩ := hG
    refine bnd_eq (m_aB hl (i := 0) (by decide) rfl e5) ?_
    refine bnd_eq rfl ?_
    replace hG := zgd_some hG
    obtain ⟨g8, hG⟩ := hG
    replace hG := zbnd hG
    obtain ⟨X6, e7, hG⟩ := hG
    refine bnd_eq (m_sB hl (i := 3) (by decide) rfl e7) ?_
    exact hr10 hG
def gf207_10 (n : Nat)  (k : Nat) : Int32 → Int32 → Int32 → Int32 → zX → Option (Unit × zX) := Nat.rec (fun _ _ _ _ _ => none) (fun _ ih => gb207_10 n ih) k
theorem rf207_10 {n : Nat} {h0 : zH} (hl : Fx h0)   (k : Nat) : ∀ {l1 : Int32} {l2 : Int32} {l3 : Int32} {l4 : Int32} {X : zX} {p : Unit × zX}, gf207_10 n  k l1 l2 l3 l4 X = some p → f207_10 n  k 159 l1 l2 l3 l4 (mq h0 X) = some (p.1, mq h0 p.2) := by
  induction k with
  | zero => intros; rename_i hG; cases hG
  | succ k ih => intros; rename_i hG; exact rb207_10 (n := n) hl ih hG
def g207 (n : Nat) (y1 : Int32) (y2 : Int32) (y3 : Int32) (X : zX) : Option (Unit × zX) :=
  zgd (bkO (X.1 4) 2 y1) <|
  (wr X 2 y1 y3).bind fun X2 =>
  gf207_10 n  n y1 y2 y3 0 X2
set_option maxRecDepth 20000 in
theorem r207 {n : Nat} {h0 : zH} (hl : Fx h0) {y1 : Int32} {y2 : Int32} {y3 : Int32} {X : zX} {p : Unit × zX} (hG : g207 n y1 y2 y3 X = some p) : f207 n 159 y1 y2 y3 (mq h0 X) = some (p.1, mq h0 p.2) := by
  unfold g207 at hG
  unfold f207
  refine bnd_eq (mgR_6 hl) ?_
  refine bnd_eq rfl ?_
  replace hG := zgd_some hG
  obtain ⟨g4, hG⟩ := hG
  replace hG := zbnd hG
  obtain ⟨X2, e3, hG⟩ := hG
  refine bnd_eq (m_sI hl (i := 2) (by decide) rfl e3) ?_
  exact rf207_10 hl  n hG
def gb206_55 (n : Nat)  (l1 : Int32) (s0 : Int32) (s1 : Int32) (X : zX) : Option (Int32 × zX) :=
  zgd (ptO s1 (X.1 71)) <|
  (g207 n s1 s0 (X.1 71) X).bind fun p1 =>
  some (l1, p1.2)
set_option maxRecDepth 20000 in
theorem rb206_55 {n : Nat} {h0 : zH} (hl : Fx h0)   {l1 : Int32} {s0 : Int32} {s1 : Int32} {X : zX} {p : Int32 × zX} (hG : gb206_55 n  l1 s0 s1 X = some p) : b206_55 n  159 l1 s0 s1 159 (mq h0 X) = some (p.1, mq h0 p.2) := by
  unfold gb206_55 at hG
  unfold b206_55
  refine bnd_eq (mgI_71 hl) ?_
  refine zgd_eq (m_isO hl) ?_
  replace hG := zgd_some hG
  obtain ⟨g3, hG⟩ := hG
  replace hG := zbnd hG
  obtain ⟨p1, e2, hG⟩ := hG
  refine bnd_eq (r207 hl e2) ?_
  replace hG := Option.some.inj hG
  subst hG
  rfl
def g206 (n : Nat)  (X : zX) : Option (Int32 × zX) :=
  (rd (X.2.2 1) (X.1 4)).bind fun x2 =>
  (rd (X.2.2 1) (X.1 4)).bind fun x5 =>
  zgd (bkO (X.1 4) 1 (X.1 4)) <|
  (wr X 1 (X.1 4) (x5 + 1)).bind fun X7 =>
  if (X7.1 69) = 3 then
    gb206_55 n  ((1500 * (X.1 4)) + x2) ((X7.1 70) + 1) ((1500 * (X.1 4)) + x2) X7
  else
    gb206_55 n  ((1500 * (X.1 4)) + x2) (X7.1 70) ((1500 * (X.1 4)) + x2) X7
set_option maxRecDepth 20000 in
theorem r206 {n : Nat} {h0 : zH} (hl : Fx h0)  {X : zX} {p : Int32 × zX} (hG : g206 n  X = some p) : f206 n 159 (mq h0 X) = some (p.1, mq h0 p.2) := by
  unfold g206 at hG
  unfold f206
  refine bnd_eq (mgI_4 hl) ?_
  refine bnd_eq (mgR_5 hl) ?_
  refine bnd_eq (mgI_4 hl) ?_
  refine bnd_eq rfl ?_
  replace hG := zbnd hG
  obtain ⟨x2, e3, hG⟩ := hG
  refine bnd_eq (m_aI hl (i := 1) (by decide) rfl e3) ?_
  refine bnd_eq (mgR_5 hl) ?_
  refine bnd_eq (mgI_4 hl) ?_
  refine bnd_eq rfl ?_
  replace hG := zbnd hG
  obtain ⟨x5, e6, hG⟩ := hG
  refine bnd_eq (m_aI hl (i := 1) (by decide) rfl e6) ?_
  replace hG := zgd_some hG
  obtain ⟨g9, hG⟩ := hG
  replace hG := zbnd hG
  obtain ⟨X7, e8, hG⟩ := hG
  refine bnd_eq (m_sI hl (i := 1) (by decide) rfl e8) ?_
  refine bnd_eq (mgI_69 hl) ?_
  by_cases c10 : (X7.1 69) = 3
  · rw [if_pos c10] at hG
    refine (if_pos c10).trans ?_
    refine bnd_eq (mgI_70 hl) ?_
    exact rb206_55 hl  hG
  · rw [if_neg c10] at hG
    refine (if_neg c10).trans ?_
    refine bnd_eq (mgI_70 hl) ?_
    exact rb206_55 hl  hG
def gb202_40 (n : Nat)  (l1 : Nat) (l2 : Int32) (l3 : Int32) (X : zX) : Option (Int32 × zX) :=
  if (X.1 73) = (-1) then
    (g206 n  X).bind fun p2 =>
    (g190 n  p2.2).bind fun p4 =>
    some (p2.1, p4.2)
  else
    some (0, X)
set_option maxRecDepth 20000 in
theorem rb202_40 {n : Nat} {h0 : zH} (hl : Fx h0)   {l1 : Nat} {l2 : Int32} {l3 : Int32} {X : zX} {p : Int32 × zX} (hG : gb202_40 n  l1 l2 l3 X = some p) : b202_40 n  159 (some (160 + l1)) l2 l3 (mq h0 X) = some (p.1, mq h0 p.2) := by
  unfold gb202_40 at hG
  unfold b202_40
  refine bnd_eq (mgI_73 hl) ?_
  by_cases c1 : (X.1 73) = (-1)
  · rw [if_pos c1] at hG
    refine (if_pos c1).trans ?_
    refine zgd_eq (m_isO hl) ?_
    replace hG := zbnd hG
    obtain ⟨p2, e3, hG⟩ := hG
    refine bnd_eq (r206 hl e3) ?_
    refine zgd_eq (m_isO hl) ?_
    replace hG := zbnd hG
    obtain ⟨p4, e5, hG⟩ := hG
    refine bnd_eq (r190 hl e5) ?_
    replace hG := Option.some.inj hG
    subst hG
    rfl
  · rw [if_neg c1] at hG
    refine (if_neg c1).trans ?_
    replace hG := Option.some.inj hG
    subst hG
    rfl
def g202 (n : Nat) (y1 : Nat) (y2 : Int32) (y3 : Int32) (X : zX) : Option (Int32 × zX) :=
  (g203 n  X).bind fun p1 =>
  (g200 n p1.1 p1.2).bind fun p3 =>
  if (p3.2.1 73) = (-1) then
    (g204 n y1 y2 y3 (p3.2.1 70) (p3.2.1 71) p3.2).bind fun p6 =>
    if p6.1 = (-1) then
      gb202_40 n  y1 y2 y3 p6.2
    else
      (g195 n 3 p6.2).bind fun p9 =>
      gb202_40 n  y1 y2 y3 p9.2
  else
    gb202_40 n  y1 y2 y3 p3.2
set_option maxRecDepth 20000 in
theorem r202 {n : Nat} {h0 : zH} (hl : Fx h0) {y1 : Nat} {y2 : Int32} {y3 : Int32} {X : zX} {p : Int32 × zX} (hG : g202 n y1 y2 y3 X = some p) : f202 n 159 (some (160 + y1)) y2 y3 (mq h0 X) = some (p.1, mq h0 p.2) := by
  unfold g202 at hG
  unfold f202
  refine zgd_eq (m_isO hl) ?_
  replace hG := zbnd hG
  obtain ⟨p1, e2, hG⟩ := hG
  refine bnd_eq (r203 hl e2) ?_
  refine zgd_eq (m_isO hl) ?_
  replace hG := zbnd hG
  obtain ⟨p3, e4, hG⟩ := hG
  refine bnd_eq (r200 hl e4) ?_
  refine bnd_eq (mgI_73 hl) ?_
  by_cases c5 : (p3.2.1 73) = (-1)
  · rw [if_pos c5] at hG
    refine (if_pos c5).trans ?_
    refine bnd_eq (mgI_70 hl) ?_
    refine bnd_eq (mgI_71 hl) ?_
    refine zgd_eq (m_isO hl) ?_
    replace hG := zbnd hG
    obtain ⟨p6, e7, hG⟩ := hG
    refine bnd_eq (r204 hl e7) ?_
    by_cases c8 : p6.1 = (-1)
    · rw [if_pos c8] at hG
      refine (if_pos c8).trans ?_
      exact rb202_40 hl  hG
    · rw [if_neg c8] at hG
      refine (if_neg c8).trans ?_
      refine zgd_eq (m_isO hl) ?_
      replace hG := zbnd hG
      obtain ⟨p9, e10, hG⟩ := hG
      refine bnd_eq (r195 hl e10) ?_
      exact rb202_40 hl  hG
  · rw [if_neg c5] at hG
    refine (if_neg c5).trans ?_
    exact rb202_40 hl  hG
def g209 (n : Nat) (y1 : Int32) (X : zX) : Option (Int32 × zX) :=
  if (X.1 69) = 4 then
    (g191 n (X.1 70) X).bind fun p2 =>
    if p2.1 = y1 then
      some (1, p2.2)
    else
      some (0, p2.2)
  else
    some (0, X)
set_option maxRecDepth 20000 in
theorem r209 {n : Nat} {h0 : zH} (hl : Fx h0) {y1 : Int32} {X : zX} {p : Int32 × zX} (hG : g209 n y1 X = some p) : f209 n 159 y1 (mq h0 X) = some (p.1, mq h0 p.2) := by
  unfold g209 at hG
  unfold f209
  refine bnd_eq (mgI_69 hl) ?_
  by_cases c1 : (X.1 69) = 4
  · rw [if_pos c1] at hG
    refine (if_pos c1).trans ?_
    refine bnd_eq (mgI_70 hl) ?_
    refine zgd_eq (m_isO hl) ?_
    replace hG := zbnd hG
    obtain ⟨p2, e3, hG⟩ := hG
    refine bnd_eq (r191 hl e3) ?_
    by_cases c4 : p2.1 = y1
    · rw [if_pos c4] at hG
      refine (if_pos c4).trans ?_
      replace hG := Option.some.inj hG
      subst hG
      rfl
    · rw [if_neg c4] at hG
      refine (if_neg c4).trans ?_
      replace hG := Option.some.inj hG
      subst hG
      rfl
  · rw [if_neg c1] at hG
    refine (if_neg c1).trans ?_
    replace hG := Option.some.inj hG
    subst hG
    rfl
def g208 (n : Nat) (y1 : Int32) (X : zX) : Option (Unit × zX) :=
  (g209 n y1 X).bind fun p1 =>
  (g200 n p1.1 p1.2).bind fun p3 =>
  (g190 n  p3.2).bind fun p5 =>
  some ((), p5.2)
set_option maxRecDepth 20000 in
theorem r208 {n : Nat} {h0 : zH} (hl : Fx h0) {y1 : Int32} {X : zX} {p : Unit × zX} (hG : g208 n y1 X = some p) : f208 n 159 y1 (mq h0 X) = some (p.1, mq h0 p.2) := by
  unfold g208 at hG
  unfold f208
  refine zgd_eq (m_isO hl) ?_
  replace hG := zbnd hG
  obtain ⟨p1, e2, hG⟩ := hG
  refine bnd_eq (r209 hl e2) ?_
  refine zgd_eq (m_isO hl) ?_
  replace hG := zbnd hG
  obtain ⟨p3, e4, hG⟩ := hG
  refine bnd_eq (r200 hl e4) ?_
  refine zgd_eq (m_isO hl) ?_
  replace hG := zbnd hG
  obtain ⟨p5, e6, hG⟩ := hG
  refine bnd_eq (r190 hl e6) ?_
  replace hG := Option.some.inj hG
  subst hG
  rfl
def g211 (n : Nat) (y1 : Int32) (X : zX) : Option (Unit × zX) :=
  (wr X 63 (X.1 75) y1).bind fun X2 =>
  (wr X2 64 (X2.1 75) (-1)).bind fun X5 =>
  (wr X5 65 (X5.1 75) (-1)).bind fun X8 =>
  (wr X8 66 (X8.1 75) (-1)).bind fun X11 =>
  (wr X11 67 (X11.1 75) (-1)).bind fun X14 =>
  zlet (xF X14 75 ((X14.1 75) + 1)) fun X16 =>
  some ((), X16)
set_option maxRecDepth 20000 in
theorem r211 {n : Nat} {h0 : zH} (hl : Fx h0) {y1 : Int32} {X : zX} {p : Unit × zX} (hG : g211 n y1 X = some p) : f211 n 159 y1 (mq h0 X) = some (p.1, mq h0 p.2) := by
  unfold g211 at hG
  unfold f211
  refine bnd_eq (mgR_77 hl) ?_
  refine bnd_eq (mgI_75 hl) ?_
  refine bnd_eq rfl ?_
  replace hG := zbnd hG
  obtain ⟨X2, e3, hG⟩ := hG
  refine bnd_eq (m_sI hl (i := 63) (by decide) rfl e3) ?_
  refine bnd_eq (mgR_78 hl) ?_
  refine bnd_eq (mgI_75 hl) ?_
  refine bnd_eq rfl ?_
  replace hG := zbnd hG
  obtain ⟨X5, e6, hG⟩ := hG
  refine bnd_eq (m_sI hl (i := 64) (by decide) rfl e6) ?_
  refine bnd_eq (mgR_79 hl) ?_
  refine bnd_eq (mgI_75 hl) ?_
  refine bnd_eq rfl ?_
  replace hG := zbnd hG
  obtain ⟨X8, e9, hG⟩ := hG
  refine bnd_eq (m_sI hl (i := 65) (by decide) rfl e9) ?_
  refine bnd_eq (mgR_80 hl) ?_
  refine bnd_eq (mgI_75 hl) ?_
  refine bnd_eq rfl ?_
  replace hG := zbnd hG
  obtain ⟨X11, e12, hG⟩ := hG
  refine bnd_eq (m_sI hl (i := 66) (by decide) rfl e12) ?_
  refine bnd_eq (mgR_81 hl) ?_
  refine bnd_eq (mgI_75 hl) ?_
  refine bnd_eq rfl ?_
  replace hG := zbnd hG
  obtain ⟨X14, e15, hG⟩ := hG
  refine bnd_eq (m_sI hl (i := 67) (by decide) rfl e15) ?_
  refine bnd_eq (mgI_75 hl) ?_
  replace hG := zlet_ex hG
  obtain ⟨X16, e17, hG⟩ := hG
  refine bnd_eq (mpI_75 hl e17) ?_
  replace hG := Option.some.inj hG
  subst hG
  rfl
def g213 (n : Nat) (y1 : Nat) (X : zX) : Option (Int32 × zX) :=
  (g199 n y1 X).bind fun p1 =>
  if p1.1 = 0 then
    some (1, p1.2)
  else
    some (0, p1.2)
set_option maxRecDepth 20000 in
theorem r213 {n : Nat} {h0 : zH} (hl : Fx h0) {y1 : Nat} {X : zX} {p : Int32 × zX} (hG : g213 n y1 X = some p) : f213 n 159 (some y1) (mq h0 X) = some (p.1, mq h0 p.2) := by
  unfold g213 at hG
  unfold f213
  refine zgd_eq (m_isO hl) ?_
  replace hG := zbnd hG
  obtain ⟨p1, e2, hG⟩ := hG
  refine bnd_eq (r199 hl e2) ?_
  by_cases c3 : p1.1 = 0
  · rw [if_pos c3] at hG
    refine (if_pos c3).trans ?_
    replace hG := Option.some.inj hG
    subst hG
    rfl
  · rw [if_neg c3] at hG
    refine (if_neg c3).trans ?_
    replace hG := Option.some.inj hG
    subst hG
    rfl
def gb214_22 (n : Nat)   (X : zX) : Option (Unit × zX) :=
  zlet (xF X 76 ((X.1 76) + 1)) fun X1 =>
  some ((), X1)
set_option maxRecDepth 20000 in
theorem rb214_22 {n : Nat} {h0 : zH} (hl : Fx h0)    {X : zX} {p : Unit × zX} (hG : gb214_22 n   X = some p) : b214_22 n  159 (mq h0 X) = some (p.1, mq h0 p.2) := by
  unfold gb214_22 at hG
  unfold b214_22
  refine bnd_eq (mgI_76 hl) ?_
  replace hG := zlet_ex hG
  obtain ⟨X1, e2, hG⟩ := hG
  refine bnd_eq (mpI_76 hl e2) ?_
  replace hG := Option.some.inj hG
  subst hG
  rfl
def g214 (n : Nat)  (X : zX) : Option (Unit × zX) :=
  if (X.1 73) = (-1) then
    if (X.1 76) = 20 then
      (g195 n 5 X).bind fun p3 =>
      gb214_22 n  p3.2
    else
      gb214_22 n  X
  else
    gb214_22 n  X
set_option maxRecDepth 20000 in
theorem r214 {n : Nat} {h0 : zH} (hl : Fx h0)  {X : zX} {p : Unit × zX} (hG : g214 n  X = some p) : f214 n 159 (mq h0 X) = some (p.1, mq h0 p.2) := by
  unfold g214 at hG
  unfold f214
  refine bnd_eq (mgI_73 hl) ?_
  by_cases c1 : (X.1 73) = (-1)
  · rw [if_pos c1] at hG
    refine (if_pos c1).trans ?_
    refine bnd_eq (mgI_76 hl) ?_
    by_cases c2 : (X.1 76) = 20
    · rw [if_pos c2] at hG
      refine (if_pos c2).trans ?_
      refine zgd_eq (m_isO hl) ?_
      replace hG := zbnd hG
      obtain ⟨p3, e4, hG⟩ := hG
      refine bnd_eq (r195 hl e4) ?_
      exact rb214_22 hl  hG
    · rw [if_neg c2] at hG
      refine (if_neg c2).trans ?_
      exact rb214_22 hl  hG
  · rw [if_neg c1] at hG
    refine (if_neg c1).trans ?_
    exact rb214_22 hl  hG
def gb215_28 (n : Nat)  (l1 : Int32) (X : zX) : Option (Int32 × zX) :=
  if (X.1 73) = (-1) then
    (rd (X.2.2 49) (X.1 4)).bind fun x3 =>
    (rd (X.2.2 49) (X.1 4)).bind fun x6 =>
    zgd (bkO (X.1 4) 49 (X.1 4)) <|
    (wr X 49 (X.1 4) (x6 + 1)).bind fun X8 =>
    zgd (bkO (X8.1 4) 50 ((400 * (X.1 4)) + x3)) <|
    (wr X8 50 ((400 * (X.1 4)) + x3) l1).bind fun X12 =>
    zgd (bkO (X12.1 4) 51 ((400 * (X.1 4)) + x3)) <|
    (wr X12 51 ((400 * (X.1 4)) + x3) (-1)).bind fun X16 =>
    zgd (bkO (X16.1 4) 52 ((400 * (X.1 4)) + x3)) <|
    (wr X16 52 ((400 * (X.1 4)) + x3) (0 &&& 1)).bind fun X20 =>
    zgd (bkO (X20.1 4) 53 ((400 * (X.1 4)) + x3)) <|
    (wr X20 53 ((400 * (X.1 4)) + x3) 0).bind fun X24 =>
    zgd (bkO (X24.1 4) 54 ((400 * (X.1 4)) + x3)) <|
    (wr X24 54 ((400 * (X.1 4)) + x3) (-1)).bind fun X28 =>
    zgd (bkO (X28.1 4) 55 ((400 * (X.1 4)) + x3)) <|
    (wr X28 55 ((400 * (X.1 4)) + x3) (-1)).bind fun X32 =>
    zgd (bkO (X32.1 4) 56 ((400 * (X.1 4)) + x3)) <|
    (wr X32 56 ((400 * (X.1 4)) + x3) (-1)).bind fun X36 =>
    some ((((400 * (X.1 4)) + x3) - (400 * (X36.1 4))), X36)
  else
    some (0, X)
set_option maxRecDepth 20000 in
theorem rb215_28 {n : Nat} {h0 : zH} (hl : Fx h0)   {l1 : Int32} {X : zX} {p : Int32 × zX} (hG : gb215_28 n  l1 X = some p) : b215_28 n  159 l1 (mq h0 X) = some (p.1, mq h0 p.2) := by
  unfold gb215_28 at hG
  unfold b215_28
  refine bnd_eq (mgI_73 hl) ?_
  by_cases c1 : (X.1 73) = (-1)
  · rw [if_pos c1] at hG
    refine (if_pos c1).trans ?_
    refine bnd_eq (mgI_4 hl) ?_
    refine bnd_eq (mgR_53 hl) ?_
    refine bnd_eq (mgI_4 hl) ?_
    refine bnd_eq rfl ?_
    replace hG := zbnd hG
    obtain ⟨x3, e4, hG⟩ := hG
    refine bnd_eq (m_aI hl (i := 49) (by decide) rfl e4) ?_
    refine bnd_eq (mgR_53 hl) ?_
    refine bnd_eq (mgI_4 hl) ?_
    refine bnd_eq rfl ?_
    replace hG := zbnd hG
    obtain ⟨x6, e7, hG⟩ := hG
    refine bnd_eq (m_aI hl (i := 49) (by decide) rfl e7) ?_
    replace hG := zgd_some hG
    obtain ⟨g10, hG⟩ := hG
    replace hG := zbnd hG
    obtain ⟨X8, e9, hG⟩ := hG
    refine bnd_eq (m_sI hl (i := 49) (by decide) rfl e9) ?_
    refine bnd_eq (mgR_54 hl) ?_
    refine bnd_eq rfl ?_
    replace hG := zgd_some hG
    obtain ⟨g14, hG⟩ := hG
    replace hG := zbnd hG
    obtain ⟨X12, e13, hG⟩ := hG
    refine bnd_eq (m_sI hl (i := 50) (by decide) rfl e13) ?_
    refine bnd_eq (mgR_55 hl) ?_
    refine bnd_eq rfl ?_
    replace hG := zgd_some hG
    obtain ⟨g18, hG⟩ := hG
    replace hG := zbnd hG
    obtain ⟨X16, e17, hG⟩ := hG
    refine bnd_eq (m_sI hl (i := 51) (by decide) rfl e17) ?_
    refine bnd_eq (mgR_56 hl) ?_
    refine bnd_eq rfl ?_
    replace hG := zgd_some hG
    obtain ⟨g22, hG⟩ := hG
    replace hG := zbnd hG
    obtain ⟨X20, e21, hG⟩ := hG
    refine bnd_eq (m_sZ hl (i := 52) (by decide) rfl e21) ?_
    refine bnd_eq (mgR_57 hl) ?_
    refine bnd_eq rfl ?_
    replace hG := zgd_some hG
    obtain ⟨g26, hG⟩ := hG
    replace hG := zbnd hG
    obtain ⟨X24, e25, hG⟩ := hG
    refine bnd_eq (m_sI hl (i := 53) (by decide) rfl e25) ?_
    refine bnd_eq (mgR_58 hl) ?_
    refine bnd_eq rfl ?_
    replace hG := zgd_some hG
    obtain ⟨g30, hG⟩ := hG
    replace hG := zbnd hG
    obtain ⟨X28, e29, hG⟩ := hG
    refine bnd_eq (m_sI hl (i := 54) (by decide) rfl e29) ?_
    refine bnd_eq (mgR_59 hl) ?_
    refine bnd_eq rfl ?_
    replace hG := zgd_some hG
    obtain ⟨g34, hG⟩ := hG
    replace hG := zbnd hG
    obtain ⟨X32, e33, hG⟩ := hG
    refine bnd_eq (m_sI hl (i := 55) (by decide) rfl e33) ?_
    refine bnd_eq (mgR_60 hl) ?_
    refine bnd_eq rfl ?_
    replace hG := zgd_some hG
    obtain ⟨g38, hG⟩ := hG
    replace hG := zbnd hG
    obtain ⟨X36, e37, hG⟩ := hG
    refine bnd_eq (m_sI hl (i := 56) (by decide) rfl e37) ?_
    refine bnd_eq (mgI_4 hl) ?_
    replace hG := Option.some.inj hG
    subst hG
    rfl
  · rw [if_neg c1] at hG
    refine (if_neg c1).trans ?_
    replace hG := Option.some.inj hG
    subst hG
    rfl
def g215 (n : Nat) (y1 : Int32) (X : zX) : Option (Int32 × zX) :=
  if (X.1 73) = (-1) then
    (rd (X.2.2 49) (X.1 4)).bind fun x3 =>
    if x3 = 400 then
      (g195 n 5 X).bind fun p6 =>
      gb215_28 n  y1 p6.2
    else
      gb215_28 n  y1 X
  else
    gb215_28 n  y1 X
set_option maxRecDepth 20000 in
theorem r215 {n : Nat} {h0 : zH} (hl : Fx h0) {y1 : Int32} {X : zX} {p : Int32 × zX} (hG : g215 n y1 X = some p) : f215 n 159 y1 (mq h0 X) = some (p.1, mq h0 p.2) := by
  unfold g215 at hG
  unfold f215
  refine bnd_eq (mgI_73 hl) ?_
  by_cases c1 : (X.1 73) = (-1)
  · rw [if_pos c1] at hG
    refine (if_pos c1).trans ?_
    refine bnd_eq (mgR_53 hl) ?_
    refine bnd_eq (mgI_4 hl) ?_
    refine bnd_eq rfl ?_
    replace hG := zbnd hG
    obtain ⟨x3, e4, hG⟩ := hG
    refine bnd_eq (m_aI hl (i := 49) (by decide) rfl e4) ?_
    by_cases c5 : x3 = 400
    · rw [if_pos c5] at hG
      refine (if_pos c5).trans ?_
      refine zgd_eq (m_isO hl) ?_
      replace hG := zbnd hG
      obtain ⟨p6, e7, hG⟩ := hG
      refine bnd_eq (r195 hl e7) ?_
      exact rb215_28 hl  hG
    · rw [if_neg c5] at hG
      refine (if_neg c5).trans ?_
      exact rb215_28 hl  hG
  · rw [if_neg c1] at hG
    refine (if_neg c1).trans ?_
    exact rb215_28 hl  hG
end ZREF

/-! THE REFERENCE OVER ITS MEMORY, 4 (written by a program of the verifier's) -/
section ZREF
def gb243_285 (n : Nat)  (l1 : Int32) (l2 : Int32) (l3 : Int32) (l4 : Int32) (l5 : Int32) (l6 : Int32) (l7 : Int32) (l8 : Int32) (X : zX) : Option (Int32 × zX) :=
  zlet (xF X 2 0) fun X1 =>
  some (1, X1)
set_option maxRecDepth 20000 in
theorem rb243_285 {n : Nat} {h0 : zH} (hl : Fx h0)   {l1 : Int32} {l2 : Int32} {l3 : Int32} {l4 : Int32} {l5 : Int32} {l6 : Int32} {l7 : Int32} {l8 : Int32} {X : zX} {p : Int32 × zX} (hG : gb243_285 n  l1 l2 l3 l4 l5 l6 l7 l8 X = some p) : b243_285 n  159 l1 l2 l3 l4 l5 l6 l7 l8 (mq h0 X) = some (p.1, mq h0 p.2) := by
  unfold gb243_285 at hG
  unfold b243_285
  replace hG := zlet_ex hG
  obtain ⟨X1, e2, hG⟩ := hG
  refine bnd_eq (mpI_2 hl e2) ?_
  replace hG := Option.some.inj hG
  subst hG
  rfl
def gb243_233 (n : Nat)  (l1 : Int32) (l2 : Int32) (l3 : Int32) (l4 : Int32) (l5 : Int32) (l6 : Int32) (l7 : Int32) (l8 : Int32) (s0 : Int32) (X : zX) : Option (Int32 × zX) :=
  zlet (xF X 65 s0) fun X1 =>
  (g207 n (3000 + l8) l2 l3 X1).bind fun p3 =>
  (wr p3.2 60 l8 (l4 &&& 1)).bind fun X6 =>
  (wr X6 61 l8 l5).bind fun X9 =>
  if l4 = 0 then
    gb243_285 n  l1 l2 l3 l4 l5 l6 l7 l8 X9
  else
    (g207 n (3008 + l8) l6 l7 X9).bind fun p12 =>
    gb243_285 n  l1 l2 l3 l4 l5 l6 l7 l8 p12.2
set_option maxRecDepth 20000 in
theorem rb243_233 {n : Nat} {h0 : zH} (hl : Fx h0)   {l1 : Int32} {l2 : Int32} {l3 : Int32} {l4 : Int32} {l5 : Int32} {l6 : Int32} {l7 : Int32} {l8 : Int32} {s0 : Int32} {X : zX} {p : Int32 × zX} (hG : gb243_233 n  l1 l2 l3 l4 l5 l6 l7 l8 s0 X = some p) : b243_233 n  159 l1 l2 l3 l4 l5 l6 l7 l8 s0 159 (mq h0 X) = some (p.1, mq h0 p.2) := by
  unfold gb243_233 at hG
  unfold b243_233
  replace hG := zlet_ex hG
  obtain ⟨X1, e2, hG⟩ := hG
  refine bnd_eq (mpI_65 hl e2) ?_
  refine zgd_eq (m_isO hl) ?_
  replace hG := zbnd hG
  obtain ⟨p3, e4, hG⟩ := hG
  refine bnd_eq (r207 hl e4) ?_
  refine bnd_eq (mgR_66 hl) ?_
  refine bnd_eq rfl ?_
  replace hG := zbnd hG
  obtain ⟨X6, e7, hG⟩ := hG
  refine bnd_eq (m_sZ hl (i := 60) (by decide) rfl e7) ?_
  refine bnd_eq (mgR_67 hl) ?_
  refine bnd_eq rfl ?_
  replace hG := zbnd hG
  obtain ⟨X9, e10, hG⟩ := hG
  refine bnd_eq (m_sI hl (i := 61) (by decide) rfl e10) ?_
  by_cases c11 : l4 = 0
  · rw [if_pos c11] at hG
    refine (if_pos c11).trans ?_
    exact rb243_285 hl  hG
  · rw [if_neg c11] at hG
    refine (if_neg c11).trans ?_
    refine zgd_eq (m_isO hl) ?_
    replace hG := zbnd hG
    obtain ⟨p12, e13, hG⟩ := hG
    refine bnd_eq (r207 hl e13) ?_
    exact rb243_285 hl  hG
def gb243_186 (n : Nat)  (l1 : Int32) (l2 : Int32) (l3 : Int32) (l4 : Int32) (l5 : Int32) (l6 : Int32) (l7 : Int32) (l8 : Int32) (X : zX) : Option (Int32 × zX) :=
  if l8 = 8 then
    zlet (xF X 2 0) fun X2 =>
    zlet (xF X2 0 2) fun X4 =>
    some (0, X4)
  else
    zlet (xF X 0 0) fun X6 =>
    if l8 = (X6.1 65) then
      gb243_233 n  l1 l2 l3 l4 l5 l6 l7 l8 ((X6.1 65) + 1) X6
    else
      gb243_233 n  l1 l2 l3 l4 l5 l6 l7 l8 (X6.1 65) X6
set_option maxRecDepth 20000 in
theorem rb243_186 {n : Nat} {h0 : zH} (hl : Fx h0)   {l1 : Int32} {l2 : Int32} {l3 : Int32} {l4 : Int32} {l5 : Int32} {l6 : Int32} {l7 : Int32} {l8 : Int32} {X : zX} {p : Int32 × zX} (hG : gb243_186 n  l1 l2 l3 l4 l5 l6 l7 l8 X = some p) : b243_186 n  159 l1 l2 l3 l4 l5 l6 l7 l8 (mq h0 X) = some (p.1, mq h0 p.2) := by
  unfold gb243_186 at hG
  unfold b243_186
  by_cases c1 : l8 = 8
  · rw [if_pos c1] at hG
    refine (if_pos c1).trans ?_
    replace hG := zlet_ex hG
    obtain ⟨X2, e3, hG⟩ := hG
    refine bnd_eq (mpI_2 hl e3) ?_
    replace hG := zlet_ex hG
    obtain ⟨X4, e5, hG⟩ := hG
    refine bnd_eq (mpI_0 hl e5) ?_
    replace hG := Option.some.inj hG
    subst hG
    rfl
  · rw [if_neg c1] at hG
    refine (if_neg c1).trans ?_
    replace hG := zlet_ex hG
    obtain ⟨X6, e7, hG⟩ := hG
    refine bnd_eq (mpI_0 hl e7) ?_
    refine bnd_eq (mgI_65 hl) ?_
    by_cases c8 : l8 = (X6.1 65)
    · rw [if_pos c8] at hG
      refine (if_pos c8).trans ?_
      refine bnd_eq (mgI_65 hl) ?_
      exact rb243_233 hl  hG
    · rw [if_neg c8] at hG
      refine (if_neg c8).trans ?_
      refine bnd_eq (mgI_65 hl) ?_
      exact rb243_233 hl  hG
def gb243_156 (n : Nat) (q156 : Int32 → Int32 → Int32 → Int32 → Int32 → Int32 → Int32 → Int32 → zX → Option (Int32 × zX)) (l1 : Int32) (l2 : Int32) (l3 : Int32) (l4 : Int32) (l5 : Int32) (l6 : Int32) (l7 : Int32) (l8 : Int32) (X : zX) : Option (Int32 × zX) :=
  if (X.1 65) ≤ l8 then
    gb243_186 n  l1 l2 l3 l4 l5 l6 l7 l8 X
  else
    (g205 n (3000 + l8) l2 l3 X).bind fun p2 =>
    if p2.1 = 0 then
      q156 l1 l2 l3 l4 l5 l6 l7 (l8 + 1) p2.2
    else
      gb243_186 n  l1 l2 l3 l4 l5 l6 l7 l8 p2.2
set_option maxRecDepth 20000 in
theorem rb243_156 {n : Nat} {h0 : zH} (hl : Fx h0) {q156 : Int32 → Int32 → Int32 → Int32 → Int32 → Int32 → Int32 → Int32 → zX → Option (Int32 × zX)} {r156 : Nat → Int32 → Int32 → Int32 → Int32 → Int32 → Int32 → Int32 → Int32 → zH → Option (Int32 × zH)} (hr156 : ∀ {l1 : Int32} {l2 : Int32} {l3 : Int32} {l4 : Int32} {l5 : Int32} {l6 : Int32} {l7 : Int32} {l8 : Int32} {X : zX} {p : Int32 × zX}, q156 l1 l2 l3 l4 l5 l6 l7 l8 X = some p → r156 159 l1 l2 l3 l4 l5 l6 l7 l8 (mq h0 X) = some (p.1, mq h0 p.2)) {l1 : Int32} {l2 : Int32} {l3 : Int32} {l4 : Int32} {l5 : Int32} {l6 : Int32} {l7 : Int32} {l8 : Int32} {X : zX} {p : Int32 × zX} (hG : gb243_156 n q156 l1 l2 l3 l4 l5 l6 l7 l8 X = some p) : b243_156 n r156 159 l1 l2 l3 l4 l5 l6 l7 l8 (mq h0 X) = some (p.1, mq h0 p.2) := by
  unfold gb243_156 at hG
  unfold b243_156
  refine bnd_eq (mgI_65 hl) ?_
  by_cases c1 : (X.1 65) ≤ l8
  · rw [if_pos c1] at hG
    refine (if_pos c1).trans ?_
    exact rb243_186 hl  hG
  · rw [if_neg c1] at hG
    refine (if_neg c1).trans ?_
    refine zgd_eq (m_isO hl) ?_
    replace hG := zbnd hG
    obtain ⟨p2, e3, hG⟩ := hG
    refine bnd_eq (r205 hl e3) ?_
    by_cases c4 : p2.1 = 0
    · rw [if_pos c4] at hG
      refine (if_pos c4).trans ?_
      exact hr156 hG
    · rw [if_neg c4] at hG
      refine (if_neg c4).trans ?_
      exact rb243_186 hl  hG
def gf243_156 (n : Nat)  (k : Nat) : Int32 → Int32 → Int32 → Int32 → Int32 → Int32 → Int32 → Int32 → zX → Option (Int32 × zX) := Nat.rec (fun _ _ _ _ _ _ _ _ _ => none) (fun _ ih => gb243_156 n ih) k
theorem rf243_156 {n : Nat} {h0 : zH} (hl : Fx h0)   (k : Nat) : ∀ {l1 : Int32} {l2 : Int32} {l3 : Int32} {l4 : Int32} {l5 : Int32} {l6 : Int32} {l7 : Int32} {l8 : Int32} {X : zX} {p : Int32 × zX}, gf243_156 n  k l1 l2 l3 l4 l5 l6 l7 l8 X = some p → f243_156 n  k 159 l1 l2 l3 l4 l5 l6 l7 l8 (mq h0 X) = some (p.1, mq h0 p.2) := by
  induction k with
  | zero => intros; rename_i hG; cases hG
  | succ k ih => intros; rename_i hG; exact rb243_156 (n := n) hl ih hG
def gb243_125 (n : Nat)  (l1 : Int32) (l2 : Int32) (l3 : Int32) (l4 : Int32) (l5 : Int32) (l6 : Int32) (l7 : Int32) (s0 : Int32) (X : zX) : Option (Int32 × zX) :=
  (g200 n s0 X).bind fun p1 =>
  zlet (xF p1.2 64 l1) fun X3 =>
  if (X3.1 73) = (-1) then
    gf243_156 n  n l1 l2 l3 l4 l5 l6 l7 0 X3
  else
    zlet (xF X3 2 0) fun X6 =>
    zlet (xF X6 0 1) fun X8 =>
    some (0, X8)
set_option maxRecDepth 20000 in
theorem rb243_125 {n : Nat} {h0 : zH} (hl : Fx h0)   {l1 : Int32} {l2 : Int32} {l3 : Int32} {l4 : Int32} {l5 : Int32} {l6 : Int32} {l7 : Int32} {s0 : Int32} {X : zX} {p : Int32 × zX} (hG : gb243_125 n  l1 l2 l3 l4 l5 l6 l7 s0 X = some p) : b243_125 n  159 l1 l2 l3 l4 l5 l6 l7 s0 159 (mq h0 X) = some (p.1, mq h0 p.2) := by
  unfold gb243_125 at hG
  unfold b243_125
  refine zgd_eq (m_isO hl) ?_
  replace hG := zbnd hG
  obtain ⟨p1, e2, hG⟩ := hG
  refine bnd_eq (r200 hl e2) ?_
  replace hG := zlet_ex hG
  obtain ⟨X3, e4, hG⟩ := hG
  refine bnd_eq (mpI_64 hl e4) ?_
  refine bnd_eq (mgI_73 hl) ?_
  by_cases c5 : (X3.1 73) = (-1)
  · rw [if_pos c5] at hG
    refine (if_pos c5).trans ?_
    exact rf243_156 hl  n hG
  · rw [if_neg c5] at hG
    refine (if_neg c5).trans ?_
    replace hG := zlet_ex hG
    obtain ⟨X6, e7, hG⟩ := hG
    refine bnd_eq (mpI_2 hl e7) ?_
    replace hG := zlet_ex hG
    obtain ⟨X8, e9, hG⟩ := hG
    refine bnd_eq (mpI_0 hl e9) ?_
    replace hG := Option.some.inj hG
    subst hG
    rfl
def gb243_85 (n : Nat)  (l1 : Int32) (l2 : Int32) (l3 : Int32) (s0 : Int32) (X : zX) : Option (Int32 × zX) :=
  (g190 n  X).bind fun p1 =>
  if (p1.2.1 69) = 5 then
    gb243_125 n  l1 l2 l3 s0 (X.1 72) ((X.1 70) + 1) (X.1 71) 1 p1.2
  else
    gb243_125 n  l1 l2 l3 s0 (X.1 72) ((X.1 70) + 1) (X.1 71) 0 p1.2
set_option maxRecDepth 20000 in
theorem rb243_85 {n : Nat} {h0 : zH} (hl : Fx h0)   {l1 : Int32} {l2 : Int32} {l3 : Int32} {s0 : Int32} {X : zX} {p : Int32 × zX} (hG : gb243_85 n  l1 l2 l3 s0 X = some p) : b243_85 n  159 l1 l2 l3 s0 (mq h0 X) = some (p.1, mq h0 p.2) := by
  unfold gb243_85 at hG
  unfold b243_85
  refine bnd_eq (mgI_72 hl) ?_
  refine bnd_eq (mgI_70 hl) ?_
  refine bnd_eq (mgI_71 hl) ?_
  refine zgd_eq (m_isO hl) ?_
  replace hG := zbnd hG
  obtain ⟨p1, e2, hG⟩ := hG
  refine bnd_eq (r190 hl e2) ?_
  refine bnd_eq (mgI_69 hl) ?_
  by_cases c3 : (p1.2.1 69) = 5
  · rw [if_pos c3] at hG
    refine (if_pos c3).trans ?_
    exact rb243_125 hl  hG
  · rw [if_neg c3] at hG
    refine (if_neg c3).trans ?_
    exact rb243_125 hl  hG
def gb243_69 (n : Nat)  (l1 : Int32) (l2 : Int32) (l3 : Int32) (s0 : Int32) (X : zX) : Option (Int32 × zX) :=
  (g200 n s0 X).bind fun p1 =>
  if (p1.2.1 69) = 3 then
    gb243_85 n  l1 l2 l3 1 p1.2
  else
    gb243_85 n  l1 l2 l3 0 p1.2
set_option maxRecDepth 20000 in
theorem rb243_69 {n : Nat} {h0 : zH} (hl : Fx h0)   {l1 : Int32} {l2 : Int32} {l3 : Int32} {s0 : Int32} {X : zX} {p : Int32 × zX} (hG : gb243_69 n  l1 l2 l3 s0 X = some p) : b243_69 n  159 l1 l2 l3 s0 159 (mq h0 X) = some (p.1, mq h0 p.2) := by
  unfold gb243_69 at hG
  unfold b243_69
  refine zgd_eq (m_isO hl) ?_
  replace hG := zbnd hG
  obtain ⟨p1, e2, hG⟩ := hG
  refine bnd_eq (r200 hl e2) ?_
  refine bnd_eq (mgI_69 hl) ?_
  by_cases c3 : (p1.2.1 69) = 3
  · rw [if_pos c3] at hG
    refine (if_pos c3).trans ?_
    exact rb243_85 hl  hG
  · rw [if_neg c3] at hG
    refine (if_neg c3).trans ?_
    exact rb243_85 hl  hG
def gb243_64 (n : Nat)  (l1 : Int32) (l2 : Int32) (l3 : Int32) (X : zX) : Option (Int32 × zX) :=
  gb243_69 n  l1 l2 l3 1 X
set_option maxRecDepth 20000 in
theorem rb243_64 {n : Nat} {h0 : zH} (hl : Fx h0)   {l1 : Int32} {l2 : Int32} {l3 : Int32} {X : zX} {p : Int32 × zX} (hG : gb243_64 n  l1 l2 l3 X = some p) : b243_64 n  159 l1 l2 l3 159 (mq h0 X) = some (p.1, mq h0 p.2) := by
  unfold gb243_64 at hG
  unfold b243_64
  exact rb243_69 hl  hG
def g243 (n : Nat)  (X : zX) : Option (Int32 × zX) :=
  zlet (xF X 68 0) fun X1 =>
  zlet (xF X1 73 (-1)) fun X3 =>
  (g190 n  X3).bind fun p5 =>
  (g203 n  p5.2).bind fun p7 =>
  (g200 n p7.1 p7.2).bind fun p9 =>
  (g190 n  p9.2).bind fun p11 =>
  (g208 n 61 p11.2).bind fun p13 =>
  if (p13.2.1 69) = 2 then
    gb243_64 n  (X3.1 64) (p9.2.1 70) (p9.2.1 71) p13.2
  else
    if (p13.2.1 69) = 3 then
      gb243_64 n  (X3.1 64) (p9.2.1 70) (p9.2.1 71) p13.2
    else
      gb243_69 n  (X3.1 64) (p9.2.1 70) (p9.2.1 71) 0 p13.2
set_option maxRecDepth 20000 in
theorem r243 {n : Nat} {h0 : zH} (hl : Fx h0)  {X : zX} {p : Int32 × zX} (hG : g243 n  X = some p) : f243 n 159 (mq h0 X) = some (p.1, mq h0 p.2) := by
  unfold g243 at hG
  unfold f243
  replace hG := zlet_ex hG
  obtain ⟨X1, e2, hG⟩ := hG
  refine bnd_eq (mpI_68 hl e2) ?_
  replace hG := zlet_ex hG
  obtain ⟨X3, e4, hG⟩ := hG
  refine bnd_eq (mpI_73 hl e4) ?_
  refine bnd_eq (mgI_64 hl) ?_
  refine zgd_eq (m_isO hl) ?_
  replace hG := zbnd hG
  obtain ⟨p5, e6, hG⟩ := hG
  refine bnd_eq (r190 hl e6) ?_
  refine zgd_eq (m_isO hl) ?_
  replace hG := zbnd hG
  obtain ⟨p7, e8, hG⟩ := hG
  refine bnd_eq (r203 hl e8) ?_
  refine zgd_eq (m_isO hl) ?_
  replace hG := zbnd hG
  obtain ⟨p9, e10, hG⟩ := hG
  refine bnd_eq (r200 hl e10) ?_
  refine bnd_eq (mgI_70 hl) ?_
  refine bnd_eq (mgI_71 hl) ?_
  refine zgd_eq (m_isO hl) ?_
  replace hG := zbnd hG
  obtain ⟨p11, e12, hG⟩ := hG
  refine bnd_eq (r190 hl e12) ?_
  refine zgd_eq (m_isO hl) ?_
  replace hG := zbnd hG
  obtain ⟨p13, e14, hG⟩ := hG
  refine bnd_eq (r208 hl e14) ?_
  refine bnd_eq (mgI_69 hl) ?_
  by_cases c15 : (p13.2.1 69) = 2
  · rw [if_pos c15] at hG
    refine (if_pos c15).trans ?_
    exact rb243_64 hl  hG
  · rw [if_neg c15] at hG
    refine (if_neg c15).trans ?_
    refine bnd_eq (mgI_69 hl) ?_
    by_cases c16 : (p13.2.1 69) = 3
    · rw [if_pos c16] at hG
      refine (if_pos c16).trans ?_
      exact rb243_64 hl  hG
    · rw [if_neg c16] at hG
      refine (if_neg c16).trans ?_
      exact rb243_69 hl  hG
def g244 (n : Nat)  (X : zX) : Option (Int32 × zX) :=
  zlet (xF X 0 0) fun X1 =>
  zlet (xF X1 65 0) fun X3 =>
  some ((X1.1 65), X3)
set_option maxRecDepth 20000 in
theorem r244 {n : Nat} {h0 : zH} (hl : Fx h0)  {X : zX} {p : Int32 × zX} (hG : g244 n  X = some p) : f244 n 159 (mq h0 X) = some (p.1, mq h0 p.2) := by
  unfold g244 at hG
  unfold f244
  replace hG := zlet_ex hG
  obtain ⟨X1, e2, hG⟩ := hG
  refine bnd_eq (mpI_0 hl e2) ?_
  refine bnd_eq (mgI_65 hl) ?_
  replace hG := zlet_ex hG
  obtain ⟨X3, e4, hG⟩ := hG
  refine bnd_eq (mpI_65 hl e4) ?_
  replace hG := Option.some.inj hG
  subst hG
  rfl
def g245 (n : Nat) (y1 : Int32) (X : zX) : Option (Int32 × zX) :=
  (g187 n y1 0 2 X).bind fun p1 =>
  (g185 n p1.1 p1.2).bind fun p3 =>
  if p3.1 = 0 then
    some (0, p3.2)
  else
    zlet (xF p3.2 2 0) fun X6 =>
    if y1 = 0 then
      (rd (X6.2.2 4) (X6.1 3)).bind fun x11 =>
      (g204 n 5 (12 * (X6.1 3)) x11 0 (p3.2.1 2) X6).bind fun p13 =>
      some (p13.1, p13.2)
    else
      if y1 = 1 then
        (rd (X6.2.2 9) (X6.1 3)).bind fun x18 =>
        (g204 n 10 (24 * (X6.1 3)) x18 0 (p3.2.1 2) X6).bind fun p20 =>
        some (p20.1, p20.2)
      else
        (rd (X6.2.2 25) (X6.1 3)).bind fun x24 =>
        (g204 n 26 (8 * (X6.1 3)) x24 0 (p3.2.1 2) X6).bind fun p26 =>
        some (p26.1, p26.2)
set_option maxRecDepth 20000 in
theorem r245 {n : Nat} {h0 : zH} (hl : Fx h0) {y1 : Int32} {X : zX} {p : Int32 × zX} (hG : g245 n y1 X = some p) : f245 n 159 y1 (mq h0 X) = some (p.1, mq h0 p.2) := by
  unfold g245 at hG
  unfold f245
  replace hG := zbnd hG
  obtain ⟨p1, e2, hG⟩ := hG
  refine bnd_eq (r187 hl e2) ?_
  refine zgd_eq (m_isO hl) ?_
  replace hG := zbnd hG
  obtain ⟨p3, e4, hG⟩ := hG
  refine bnd_eq (r185 hl e4) ?_
  by_cases c5 : p3.1 = 0
  · rw [if_pos c5] at hG
    refine (if_pos c5).trans ?_
    replace hG := Option.some.inj hG
    subst hG
    rfl
  · rw [if_neg c5] at hG
    refine (if_neg c5).trans ?_
    refine bnd_eq (mgI_2 hl) ?_
    replace hG := zlet_ex hG
    obtain ⟨X6, e7, hG⟩ := hG
    refine bnd_eq (mpI_2 hl e7) ?_
    by_cases c8 : y1 = 0
    · rw [if_pos c8] at hG
      refine (if_pos c8).trans ?_
      refine bnd_eq (mgR_9 hl) ?_
      refine bnd_eq (mgI_3 hl) ?_
      refine bnd_eq (mgR_8 hl) ?_
      refine bnd_eq (mgI_3 hl) ?_
      refine bnd_eq rfl ?_
      replace hG := zbnd hG
      obtain ⟨x11, e12, hG⟩ := hG
      refine bnd_eq (m_aI hl (i := 4) (by decide) rfl e12) ?_
      refine zgd_eq (m_isO hl) ?_
      replace hG := zbnd hG
      obtain ⟨p13, e14, hG⟩ := hG
      refine bnd_eq (r204 hl e14) ?_
      replace hG := Option.some.inj hG
      subst hG
      rfl
    · rw [if_neg c8] at hG
      refine (if_neg c8).trans ?_
      by_cases c15 : y1 = 1
      · rw [if_pos c15] at hG
        refine (if_pos c15).trans ?_
        refine bnd_eq (mgR_14 hl) ?_
        refine bnd_eq (mgI_3 hl) ?_
        refine bnd_eq (mgR_13 hl) ?_
        refine bnd_eq (mgI_3 hl) ?_
        refine bnd_eq rfl ?_
        replace hG := zbnd hG
        obtain ⟨x18, e19, hG⟩ := hG
        refine bnd_eq (m_aI hl (i := 9) (by decide) rfl e19) ?_
        refine zgd_eq (m_isO hl) ?_
        replace hG := zbnd hG
        obtain ⟨p20, e21, hG⟩ := hG
        refine bnd_eq (r204 hl e21) ?_
        replace hG := Option.some.inj hG
        subst hG
        rfl
      · rw [if_neg c15] at hG
        refine (if_neg c15).trans ?_
        refine bnd_eq (mgR_30 hl) ?_
        refine bnd_eq (mgI_3 hl) ?_
        refine bnd_eq (mgR_29 hl) ?_
        refine bnd_eq (mgI_3 hl) ?_
        refine bnd_eq rfl ?_
        replace hG := zbnd hG
        obtain ⟨x24, e25, hG⟩ := hG
        refine bnd_eq (m_aI hl (i := 25) (by decide) rfl e25) ?_
        refine zgd_eq (m_isO hl) ?_
        replace hG := zbnd hG
        obtain ⟨p26, e27, hG⟩ := hG
        refine bnd_eq (r204 hl e27) ?_
        replace hG := Option.some.inj hG
        subst hG
        rfl
def gb246_128 (n : Nat)  (l1 : Int32) (l2 : Int32) (l3 : Int32) (l4 : Int32) (s0 : Int32) (X : zX) : Option (Int32 × zX) :=
  if l3 = (-1) then
    (rd (X.2.2 2) s0).bind fun x3 =>
    some (x3, X)
  else
    (rd (X.2.2 2) s0).bind fun x6 =>
    (g187 n l3 0 (x6 - 1) X).bind fun p8 =>
    (g185 n p8.1 p8.2).bind fun p10 =>
    if p10.1 = 0 then
      some (0, p10.2)
    else
      (rd (p10.2.2.2 3) ((16 * s0) + l3)).bind fun x14 =>
      some ((x14 &&& 255), p10.2)
set_option maxRecDepth 20000 in
theorem rb246_128 {n : Nat} {h0 : zH} (hl : Fx h0)   {l1 : Int32} {l2 : Int32} {l3 : Int32} {l4 : Int32} {s0 : Int32} {X : zX} {p : Int32 × zX} (hG : gb246_128 n  l1 l2 l3 l4 s0 X = some p) : b246_128 n  159 l1 l2 l3 l4 s0 (mq h0 X) = some (p.1, mq h0 p.2) := by
  unfold gb246_128 at hG
  unfold b246_128
  by_cases c1 : l3 = (-1)
  · rw [if_pos c1] at hG
    refine (if_pos c1).trans ?_
    refine bnd_eq (mgR_6 hl) ?_
    refine bnd_eq rfl ?_
    replace hG := zbnd hG
    obtain ⟨x3, e4, hG⟩ := hG
    refine bnd_eq (m_aI hl (i := 2) (by decide) rfl e4) ?_
    replace hG := Option.some.inj hG
    subst hG
    rfl
  · rw [if_neg c1] at hG
    refine (if_neg c1).trans ?_
    refine bnd_eq (mgR_6 hl) ?_
    refine bnd_eq rfl ?_
    replace hG := zbnd hG
    obtain ⟨x6, e7, hG⟩ := hG
    refine bnd_eq (m_aI hl (i := 2) (by decide) rfl e7) ?_
    replace hG := zbnd hG
    obtain ⟨p8, e9, hG⟩ := hG
    refine bnd_eq (r187 hl e9) ?_
    refine zgd_eq (m_isO hl) ?_
    replace hG := zbnd hG
    obtain ⟨p10, e11, hG⟩ := hG
    refine bnd_eq (r185 hl e11) ?_
    by_cases c12 : p10.1 = 0
    · rw [if_pos c12] at hG
      refine (if_pos c12).trans ?_
      replace hG := Option.some.inj hG
      subst hG
      rfl
    · rw [if_neg c12] at hG
      refine (if_neg c12).trans ?_
      refine bnd_eq (mgR_7 hl) ?_
      refine bnd_eq rfl ?_
      replace hG := zbnd hG
      obtain ⟨x14, e15, hG⟩ := hG
      refine bnd_eq (m_aB hl (i := 3) (by decide) rfl e15) ?_
      replace hG := Option.some.inj hG
      subst hG
      rfl
def gb246_51 (n : Nat)  (l1 : Int32) (l2 : Int32) (l3 : Int32) (s0 : Int32) (X : zX) : Option (Int32 × zX) :=
  (g187 n l2 0 (s0 - 1) X).bind fun p1 =>
  (g185 n p1.1 p1.2).bind fun p3 =>
  if p3.1 = 0 then
    some (0, p3.2)
  else
    if l1 = 0 then
      (rd (p3.2.2.2 5) ((12 * (p3.2.1 3)) + l2)).bind fun x8 =>
      gb246_128 n  l1 l2 l3 s0 x8 p3.2
    else
      if l1 = 1 then
        (rd (p3.2.2.2 10) ((24 * (p3.2.1 3)) + l2)).bind fun x12 =>
        gb246_128 n  l1 l2 l3 s0 x12 p3.2
      else
        (rd (p3.2.2.2 26) ((8 * (p3.2.1 3)) + l2)).bind fun x15 =>
        gb246_128 n  l1 l2 l3 s0 x15 p3.2
set_option maxRecDepth 20000 in
theorem rb246_51 {n : Nat} {h0 : zH} (hl : Fx h0)   {l1 : Int32} {l2 : Int32} {l3 : Int32} {s0 : Int32} {X : zX} {p : Int32 × zX} (hG : gb246_51 n  l1 l2 l3 s0 X = some p) : b246_51 n  159 l1 l2 l3 s0 (mq h0 X) = some (p.1, mq h0 p.2) := by
  unfold gb246_51 at hG
  unfold b246_51
  replace hG := zbnd hG
  obtain ⟨p1, e2, hG⟩ := hG
  refine bnd_eq (r187 hl e2) ?_
  refine zgd_eq (m_isO hl) ?_
  replace hG := zbnd hG
  obtain ⟨p3, e4, hG⟩ := hG
  refine bnd_eq (r185 hl e4) ?_
  by_cases c5 : p3.1 = 0
  · rw [if_pos c5] at hG
    refine (if_pos c5).trans ?_
    replace hG := Option.some.inj hG
    subst hG
    rfl
  · rw [if_neg c5] at hG
    refine (if_neg c5).trans ?_
    by_cases c6 : l1 = 0
    · rw [if_pos c6] at hG
      refine (if_pos c6).trans ?_
      refine bnd_eq (mgR_9 hl) ?_
      refine bnd_eq (mgI_3 hl) ?_
      refine bnd_eq rfl ?_
      replace hG := zbnd hG
      obtain ⟨x8, e9, hG⟩ := hG
      refine bnd_eq (m_aI hl (i := 5) (by decide) rfl e9) ?_
      exact rb246_128 hl  hG
    · rw [if_neg c6] at hG
      refine (if_neg c6).trans ?_
      by_cases c10 : l1 = 1
      · rw [if_pos c10] at hG
        refine (if_pos c10).trans ?_
        refine bnd_eq (mgR_14 hl) ?_
        refine bnd_eq (mgI_3 hl) ?_
        refine bnd_eq rfl ?_
        replace hG := zbnd hG
        obtain ⟨x12, e13, hG⟩ := hG
        refine bnd_eq (m_aI hl (i := 10) (by decide) rfl e13) ?_
        exact rb246_128 hl  hG
      · rw [if_neg c10] at hG
        refine (if_neg c10).trans ?_
        refine bnd_eq (mgR_30 hl) ?_
        refine bnd_eq (mgI_3 hl) ?_
        refine bnd_eq rfl ?_
        replace hG := zbnd hG
        obtain ⟨x15, e16, hG⟩ := hG
        refine bnd_eq (m_aI hl (i := 26) (by decide) rfl e16) ?_
        exact rb246_128 hl  hG
def g246 (n : Nat) (y1 : Int32) (y2 : Int32) (y3 : Int32) (X : zX) : Option (Int32 × zX) :=
  if y1 = 0 then
    (rd (X.2.2 4) (X.1 3)).bind fun x3 =>
    gb246_51 n  y1 y2 y3 x3 X
  else
    if y1 = 1 then
      (rd (X.2.2 9) (X.1 3)).bind fun x7 =>
      gb246_51 n  y1 y2 y3 x7 X
    else
      if y1 = 2 then
        (rd (X.2.2 25) (X.1 3)).bind fun x11 =>
        gb246_51 n  y1 y2 y3 x11 X
      else
        gb246_51 n  y1 y2 y3 0 X
set_option maxRecDepth 20000 in
theorem r246 {n : Nat} {h0 : zH} (hl : Fx h0) {y1 : Int32} {y2 : Int32} {y3 : Int32} {X : zX} {p : Int32 × zX} (hG : g246 n y1 y2 y3 X = some p) : f246 n 159 y1 y2 y3 (mq h0 X) = some (p.1, mq h0 p.2) := by
  unfold g246 at hG
  unfold f246
  by_cases c1 : y1 = 0
  · rw [if_pos c1] at hG
    refine (if_pos c1).trans ?_
    refine bnd_eq (mgR_8 hl) ?_
    refine bnd_eq (mgI_3 hl) ?_
    refine bnd_eq rfl ?_
    replace hG := zbnd hG
    obtain ⟨x3, e4, hG⟩ := hG
    refine bnd_eq (m_aI hl (i := 4) (by decide) rfl e4) ?_
    exact rb246_51 hl  hG
  · rw [if_neg c1] at hG
    refine (if_neg c1).trans ?_
    by_cases c5 : y1 = 1
    · rw [if_pos c5] at hG
      refine (if_pos c5).trans ?_
      refine bnd_eq (mgR_13 hl) ?_
      refine bnd_eq (mgI_3 hl) ?_
      refine bnd_eq rfl ?_
      replace hG := zbnd hG
      obtain ⟨x7, e8, hG⟩ := hG
      refine bnd_eq (m_aI hl (i := 9) (by decide) rfl e8) ?_
      exact rb246_51 hl  hG
    · rw [if_neg c5] at hG
      refine (if_neg c5).trans ?_
      by_cases c9 : y1 = 2
      · rw [if_pos c9] at hG
        refine (if_pos c9).trans ?_
        refine bnd_eq (mgR_29 hl) ?_
        refine bnd_eq (mgI_3 hl) ?_
        refine bnd_eq rfl ?_
        replace hG := zbnd hG
        obtain ⟨x11, e12, hG⟩ := hG
        refine bnd_eq (m_aI hl (i := 25) (by decide) rfl e12) ?_
        exact rb246_51 hl  hG
      · rw [if_neg c9] at hG
        refine (if_neg c9).trans ?_
        exact rb246_51 hl  hG
def g248 (n : Nat) (y1 : Int32) (X : zX) : Option (Int32 × zX) :=
  (rd (X.2.2 9) (X.1 3)).bind fun x2 =>
  (g187 n y1 0 (x2 - 1) X).bind fun p4 =>
  zgd (zrtn .boolean p4.1) <|
  some (p4.1, p4.2)
set_option maxRecDepth 20000 in
theorem r248 {n : Nat} {h0 : zH} (hl : Fx h0) {y1 : Int32} {X : zX} {p : Int32 × zX} (hG : g248 n y1 X = some p) : f248 n 159 y1 (mq h0 X) = some (p.1, mq h0 p.2) := by
  unfold g248 at hG
  unfold f248
  refine bnd_eq (mgR_13 hl) ?_
  refine bnd_eq (mgI_3 hl) ?_
  refine bnd_eq rfl ?_
  replace hG := zbnd hG
  obtain ⟨x2, e3, hG⟩ := hG
  refine bnd_eq (m_aI hl (i := 9) (by decide) rfl e3) ?_
  replace hG := zbnd hG
  obtain ⟨p4, e5, hG⟩ := hG
  refine bnd_eq (r187 hl e5) ?_
  replace hG := zgd_some hG
  obtain ⟨g6, hG⟩ := hG
  refine zgd_eq g6 ?_
  replace hG := Option.some.inj hG
  subst hG
  rfl
def gb249_58 (n : Nat) (q10 : Int32 → Int32 → Int32 → zX → Option (Int32 × zX)) (l1 : Int32) (l2 : Int32) (l3 : Int32) (s0 : Int32) (X : zX) : Option (Int32 × zX) :=
  q10 l1 s0 (l3 + 1) X
set_option maxRecDepth 20000 in
theorem rb249_58 {n : Nat} {h0 : zH} (hl : Fx h0) {q10 : Int32 → Int32 → Int32 → zX → Option (Int32 × zX)} {r10 : Nat → Int32 → Int32 → Int32 → zH → Option (Int32 × zH)} (hr10 : ∀ {l1 : Int32} {l2 : Int32} {l3 : Int32} {X : zX} {p : Int32 × zX}, q10 l1 l2 l3 X = some p → r10 159 l1 l2 l3 (mq h0 X) = some (p.1, mq h0 p.2)) {l1 : Int32} {l2 : Int32} {l3 : Int32} {s0 : Int32} {X : zX} {p : Int32 × zX} (hG : gb249_58 n q10 l1 l2 l3 s0 X = some p) : b249_58 n r10 159 l1 l2 l3 s0 (mq h0 X) = some (p.1, mq h0 p.2) := by
  unfold gb249_58 at hG
  unfold b249_58
  exact hr10 hG
def gb249_57 (n : Nat) (q10 : Int32 → Int32 → Int32 → zX → Option (Int32 × zX)) (l1 : Int32) (l2 : Int32) (l3 : Int32) (X : zX) : Option (Int32 × zX) :=
  gb249_58 n q10 l1 l2 l3 l2 X
set_option maxRecDepth 20000 in
theorem rb249_57 {n : Nat} {h0 : zH} (hl : Fx h0) {q10 : Int32 → Int32 → Int32 → zX → Option (Int32 × zX)} {r10 : Nat → Int32 → Int32 → Int32 → zH → Option (Int32 × zH)} (hr10 : ∀ {l1 : Int32} {l2 : Int32} {l3 : Int32} {X : zX} {p : Int32 × zX}, q10 l1 l2 l3 X = some p → r10 159 l1 l2 l3 (mq h0 X) = some (p.1, mq h0 p.2)) {l1 : Int32} {l2 : Int32} {l3 : Int32} {X : zX} {p : Int32 × zX} (hG : gb249_57 n q10 l1 l2 l3 X = some p) : b249_57 n r10 159 l1 l2 l3 (mq h0 X) = some (p.1, mq h0 p.2) := by
  unfold gb249_57 at hG
  unfold b249_57
  exact rb249_58 hl hr10 hG
def gb249_10 (n : Nat) (q10 : Int32 → Int32 → Int32 → zX → Option (Int32 × zX)) (l1 : Int32) (l2 : Int32) (l3 : Int32) (X : zX) : Option (Int32 × zX) :=
  (rd (X.2.2 28) (X.1 3)).bind fun x2 =>
  if ((100 * (X.1 3)) + x2) ≤ l3 then
    some (l2, X)
  else
    (rd (X.2.2 29) l3).bind fun x6 =>
    if x6 = l1 then
      (rd (X.2.2 30) l3).bind fun x10 =>
      if x10 = (-1) then
        gb249_58 n q10 l1 l2 l3 (l2 + 1) X
      else
        gb249_57 n q10 l1 l2 l3 X
    else
      gb249_57 n q10 l1 l2 l3 X
set_option maxRecDepth 20000 in
theorem rb249_10 {n : Nat} {h0 : zH} (hl : Fx h0) {q10 : Int32 → Int32 → Int32 → zX → Option (Int32 × zX)} {r10 : Nat → Int32 → Int32 → Int32 → zH → Option (Int32 × zH)} (hr10 : ∀ {l1 : Int32} {l2 : Int32} {l3 : Int32} {X : zX} {p : Int32 × zX}, q10 l1 l2 l3 X = some p → r10 159 l1 l2 l3 (mq h0 X) = some (p.1, mq h0 p.2)) {l1 : Int32} {l2 : Int32} {l3 : Int32} {X : zX} {p : Int32 × zX} (hG : gb249_10 n q10 l1 l2 l3 X = some p) : b249_10 n r10 159 l1 l2 l3 (mq h0 X) = some (p.1, mq h0 p.2) := by
  unfold gb249_10 at hG
  unfold b249_10
  refine bnd_eq (mgI_3 hl) ?_
  refine bnd_eq (mgR_32 hl) ?_
  refine bnd_eq (mgI_3 hl) ?_
  refine bnd_eq rfl ?_
  replace hG := zbnd hG
  obtain ⟨x2, e3, hG⟩ := hG
  refine bnd_eq (m_aI hl (i := 28) (by decide) rfl e3) ?_
  by_cases c4 : ((100 * (X.1 3)) + x2) ≤ l3
  · rw [if_pos c4] at hG
    refine (if_pos c4).trans ?_
    replace hG := Option.some.inj hG
    subst hG
    rfl
  · rw [if_neg c4] at hG
    refine (if_neg c4).trans ?_
    refine bnd_eq (mgR_33 hl) ?_
    refine bnd_eq rfl ?_
    replace hG := zbnd hG
    obtain ⟨x6, e7, hG⟩ := hG
    refine bnd_eq (m_aI hl (i := 29) (by decide) rfl e7) ?_
    by_cases c8 : x6 = l1
    · rw [if_pos c8] at hG
      refine (if_pos c8).trans ?_
      refine bnd_eq (mgR_34 hl) ?_
      refine bnd_eq rfl ?_
      replace hG := zbnd hG
      obtain ⟨x10, e11, hG⟩ := hG
      refine bnd_eq (m_aI hl (i := 30) (by decide) rfl e11) ?_
      by_cases c12 : x10 = (-1)
      · rw [if_pos c12] at hG
        refine (if_pos c12).trans ?_
        exact rb249_58 hl hr10 hG
      · rw [if_neg c12] at hG
        refine (if_neg c12).trans ?_
        exact rb249_57 hl hr10 hG
    · rw [if_neg c8] at hG
      refine (if_neg c8).trans ?_
      exact rb249_57 hl hr10 hG
def gf249_10 (n : Nat)  (k : Nat) : Int32 → Int32 → Int32 → zX → Option (Int32 × zX) := Nat.rec (fun _ _ _ _ => none) (fun _ ih => gb249_10 n ih) k
theorem rf249_10 {n : Nat} {h0 : zH} (hl : Fx h0)   (k : Nat) : ∀ {l1 : Int32} {l2 : Int32} {l3 : Int32} {X : zX} {p : Int32 × zX}, gf249_10 n  k l1 l2 l3 X = some p → f249_10 n  k 159 l1 l2 l3 (mq h0 X) = some (p.1, mq h0 p.2) := by
  induction k with
  | zero => intros; rename_i hG; cases hG
  | succ k ih => intros; rename_i hG; exact rb249_10 (n := n) hl ih hG
def g249 (n : Nat) (y1 : Int32) (X : zX) : Option (Int32 × zX) :=
  gf249_10 n  n y1 0 (100 * (X.1 3)) X
set_option maxRecDepth 20000 in
theorem r249 {n : Nat} {h0 : zH} (hl : Fx h0) {y1 : Int32} {X : zX} {p : Int32 × zX} (hG : g249 n y1 X = some p) : f249 n 159 y1 (mq h0 X) = some (p.1, mq h0 p.2) := by
  unfold g249 at hG
  unfold f249
  refine bnd_eq (mgI_3 hl) ?_
  exact rf249_10 hl  n hG
def gb247_23 (n : Nat)  (l1 : Int32) (l2 : Int32) (s0 : Int32) (X : zX) : Option (Int32 × zX) :=
  (g185 n s0 X).bind fun p1 =>
  if p1.1 = 0 then
    some (0, p1.2)
  else
    if l2 = 0 then
      (rd (p1.2.2.2 11) ((24 * (p1.2.1 3)) + l1)).bind fun x6 =>
      some (x6, p1.2)
    else
      if l2 = 1 then
        (rd (p1.2.2.2 12) ((24 * (p1.2.1 3)) + l1)).bind fun x10 =>
        some (x10, p1.2)
      else
        if l2 = 2 then
          (rd (p1.2.2.2 16) ((24 * (p1.2.1 3)) + l1)).bind fun x14 =>
          some (x14, p1.2)
        else
          if l2 = 3 then
            (g249 n l1 p1.2).bind fun p17 =>
            some (p17.1, p17.2)
          else
            (rd (p1.2.2.2 15) ((24 * (p1.2.1 3)) + l1)).bind fun x20 =>
            some (x20, p1.2)
set_option maxRecDepth 20000 in
theorem rb247_23 {n : Nat} {h0 : zH} (hl : Fx h0)   {l1 : Int32} {l2 : Int32} {s0 : Int32} {X : zX} {p : Int32 × zX} (hG : gb247_23 n  l1 l2 s0 X = some p) : b247_23 n  159 l1 l2 s0 159 (mq h0 X) = some (p.1, mq h0 p.2) := by
  unfold gb247_23 at hG
  unfold b247_23
  refine zgd_eq (m_isO hl) ?_
  replace hG := zbnd hG
  obtain ⟨p1, e2, hG⟩ := hG
  refine bnd_eq (r185 hl e2) ?_
  by_cases c3 : p1.1 = 0
  · rw [if_pos c3] at hG
    refine (if_pos c3).trans ?_
    replace hG := Option.some.inj hG
    subst hG
    rfl
  · rw [if_neg c3] at hG
    refine (if_neg c3).trans ?_
    refine bnd_eq (mgI_3 hl) ?_
    by_cases c4 : l2 = 0
    · rw [if_pos c4] at hG
      refine (if_pos c4).trans ?_
      refine bnd_eq (mgR_15 hl) ?_
      refine bnd_eq rfl ?_
      replace hG := zbnd hG
      obtain ⟨x6, e7, hG⟩ := hG
      refine bnd_eq (m_aI hl (i := 11) (by decide) rfl e7) ?_
      replace hG := Option.some.inj hG
      subst hG
      rfl
    · rw [if_neg c4] at hG
      refine (if_neg c4).trans ?_
      by_cases c8 : l2 = 1
      · rw [if_pos c8] at hG
        refine (if_pos c8).trans ?_
        refine bnd_eq (mgR_16 hl) ?_
        refine bnd_eq rfl ?_
        replace hG := zbnd hG
        obtain ⟨x10, e11, hG⟩ := hG
        refine bnd_eq (m_aI hl (i := 12) (by decide) rfl e11) ?_
        replace hG := Option.some.inj hG
        subst hG
        rfl
      · rw [if_neg c8] at hG
        refine (if_neg c8).trans ?_
        by_cases c12 : l2 = 2
        · rw [if_pos c12] at hG
          refine (if_pos c12).trans ?_
          refine bnd_eq (mgR_20 hl) ?_
          refine bnd_eq rfl ?_
          replace hG := zbnd hG
          obtain ⟨x14, e15, hG⟩ := hG
          refine bnd_eq (m_aI hl (i := 16) (by decide) rfl e15) ?_
          replace hG := Option.some.inj hG
          subst hG
          rfl
        · rw [if_neg c12] at hG
          refine (if_neg c12).trans ?_
          by_cases c16 : l2 = 3
          · rw [if_pos c16] at hG
            refine (if_pos c16).trans ?_
            refine zgd_eq (m_isO hl) ?_
            replace hG := zbnd hG
            obtain ⟨p17, e18, hG⟩ := hG
            refine bnd_eq (r249 hl e18) ?_
            replace hG := Option.some.inj hG
            subst hG
            rfl
          · rw [if_neg c16] at hG
            refine (if_neg c16).trans ?_
            refine bnd_eq (mgR_19 hl) ?_
            refine bnd_eq rfl ?_
            replace hG := zbnd hG
            obtain ⟨x20, e21, hG⟩ := hG
            refine bnd_eq (m_aI hl (i := 15) (by decide) rfl e21) ?_
            replace hG := Option.some.inj hG
            subst hG
            rfl
def gb247_22 (n : Nat)  (l1 : Int32) (l2 : Int32) (X : zX) : Option (Int32 × zX) :=
  gb247_23 n  l1 l2 0 X
set_option maxRecDepth 20000 in
theorem rb247_22 {n : Nat} {h0 : zH} (hl : Fx h0)   {l1 : Int32} {l2 : Int32} {X : zX} {p : Int32 × zX} (hG : gb247_22 n  l1 l2 X = some p) : b247_22 n  159 l1 l2 159 (mq h0 X) = some (p.1, mq h0 p.2) := by
  unfold gb247_22 at hG
  unfold b247_22
  exact rb247_23 hl  hG
def g247 (n : Nat) (y1 : Int32) (y2 : Int32) (X : zX) : Option (Int32 × zX) :=
  (g248 n y1 X).bind fun p1 =>
  if p1.1 = 0 then
    gb247_22 n  y1 y2 p1.2
  else
    (g187 n y2 0 4 p1.2).bind fun p4 =>
    if p4.1 = 0 then
      gb247_22 n  y1 y2 p4.2
    else
      gb247_23 n  y1 y2 1 p4.2
set_option maxRecDepth 20000 in
theorem r247 {n : Nat} {h0 : zH} (hl : Fx h0) {y1 : Int32} {y2 : Int32} {X : zX} {p : Int32 × zX} (hG : g247 n y1 y2 X = some p) : f247 n 159 y1 y2 (mq h0 X) = some (p.1, mq h0 p.2) := by
  unfold g247 at hG
  unfold f247
  refine zgd_eq (m_isO hl) ?_
  replace hG := zbnd hG
  obtain ⟨p1, e2, hG⟩ := hG
  refine bnd_eq (r248 hl e2) ?_
  by_cases c3 : p1.1 = 0
  · rw [if_pos c3] at hG
    refine (if_pos c3).trans ?_
    exact rb247_22 hl  hG
  · rw [if_neg c3] at hG
    refine (if_neg c3).trans ?_
    replace hG := zbnd hG
    obtain ⟨p4, e5, hG⟩ := hG
    refine bnd_eq (r187 hl e5) ?_
    by_cases c6 : p4.1 = 0
    · rw [if_pos c6] at hG
      refine (if_pos c6).trans ?_
      exact rb247_22 hl  hG
    · rw [if_neg c6] at hG
      refine (if_neg c6).trans ?_
      exact rb247_23 hl  hG
def gb254_2 (n : Nat) (q2 : Int32 → Int32 → zX → Option (Int32 × zX)) (l1 : Int32) (l2 : Int32) (X : zX) : Option (Int32 × zX) :=
  if (X.1 65) ≤ l2 then
    some ((-1), X)
  else
    (g238 n (3000 + l2) l1 X).bind fun p2 =>
    if p2.1 = 0 then
      q2 l1 (l2 + 1) p2.2
    else
      some (l2, p2.2)
set_option maxRecDepth 20000 in
theorem rb254_2 {n : Nat} {h0 : zH} (hl : Fx h0) {q2 : Int32 → Int32 → zX → Option (Int32 × zX)} {r2 : Nat → Int32 → Int32 → zH → Option (Int32 × zH)} (hr2 : ∀ {l1 : Int32} {l2 : Int32} {X : zX} {p : Int32 × zX}, q2 l1 l2 X = some p → r2 159 l1 l2 (mq h0 X) = some (p.1, mq h0 p.2)) {l1 : Int32} {l2 : Int32} {X : zX} {p : Int32 × zX} (hG : gb254_2 n q2 l1 l2 X = some p) : b254_2 n r2 159 l1 l2 (mq h0 X) = some (p.1, mq h0 p.2) := by
  unfold gb254_2 at hG
  unfold b254_2
  refine bnd_eq (mgI_65 hl) ?_
  by_cases c1 : (X.1 65) ≤ l2
  · rw [if_pos c1] at hG
    refine (if_pos c1).trans ?_
    replace hG := Option.some.inj hG
    subst hG
    rfl
  · rw [if_neg c1] at hG
    refine (if_neg c1).trans ?_
    refine zgd_eq (m_isO hl) ?_
    replace hG := zbnd hG
    obtain ⟨p2, e3, hG⟩ := hG
    refine bnd_eq (r238 hl e3) ?_
    by_cases c4 : p2.1 = 0
    · rw [if_pos c4] at hG
      refine (if_pos c4).trans ?_
      exact hr2 hG
    · rw [if_neg c4] at hG
      refine (if_neg c4).trans ?_
      replace hG := Option.some.inj hG
      subst hG
      rfl
def gf254_2 (n : Nat)  (k : Nat) : Int32 → Int32 → zX → Option (Int32 × zX) := Nat.rec (fun _ _ _ => none) (fun _ ih => gb254_2 n ih) k
theorem rf254_2 {n : Nat} {h0 : zH} (hl : Fx h0)   (k : Nat) : ∀ {l1 : Int32} {l2 : Int32} {X : zX} {p : Int32 × zX}, gf254_2 n  k l1 l2 X = some p → f254_2 n  k 159 l1 l2 (mq h0 X) = some (p.1, mq h0 p.2) := by
  induction k with
  | zero => intros; rename_i hG; cases hG
  | succ k ih => intros; rename_i hG; exact rb254_2 (n := n) hl ih hG
def g254 (n : Nat) (y1 : Int32) (X : zX) : Option (Int32 × zX) :=
  gf254_2 n  n y1 0 X
set_option maxRecDepth 20000 in
theorem r254 {n : Nat} {h0 : zH} (hl : Fx h0) {y1 : Int32} {X : zX} {p : Int32 × zX} (hG : g254 n y1 X = some p) : f254 n 159 y1 (mq h0 X) = some (p.1, mq h0 p.2) := by
  unfold g254 at hG
  unfold f254
  exact rf254_2 hl  n hG
def g255 (n : Nat) (y1 : Int32) (y2 : Int32) (X : zX) : Option (Int32 × zX) :=
  (rd (X.2.2 60) y1).bind fun x2 =>
  (rd (X.2.2 52) y2).bind fun x5 =>
  if x2 = x5 then
    (rd (X.2.2 52) y2).bind fun x9 =>
    if x9 = 0 then
      (rd (X.2.2 61) y1).bind fun x13 =>
      (rd (X.2.2 53) y2).bind fun x16 =>
      if x13 = x16 then
        some (1, X)
      else
        some (0, X)
    else
      (rd (X.2.2 54) y2).bind fun x20 =>
      (g238 n (3008 + y1) x20 X).bind fun p22 =>
      if p22.1 = 0 then
        some (0, p22.2)
      else
        some (1, p22.2)
  else
    some (0, X)
set_option maxRecDepth 20000 in
theorem r255 {n : Nat} {h0 : zH} (hl : Fx h0) {y1 : Int32} {y2 : Int32} {X : zX} {p : Int32 × zX} (hG : g255 n y1 y2 X = some p) : f255 n 159 y1 y2 (mq h0 X) = some (p.1, mq h0 p.2) := by
  unfold g255 at hG
  unfold f255
  refine bnd_eq (mgR_66 hl) ?_
  refine bnd_eq rfl ?_
  replace hG := zbnd hG
  obtain ⟨x2, e3, hG⟩ := hG
  refine bnd_eq (m_aB hl (i := 60) (by decide) rfl e3) ?_
  refine bnd_eq (mgR_56 hl) ?_
  refine bnd_eq rfl ?_
  replace hG := zbnd hG
  obtain ⟨x5, e6, hG⟩ := hG
  refine bnd_eq (m_aB hl (i := 52) (by decide) rfl e6) ?_
  by_cases c7 : x2 = x5
  · rw [if_pos c7] at hG
    refine (if_pos c7).trans ?_
    refine bnd_eq (mgR_56 hl) ?_
    refine bnd_eq rfl ?_
    replace hG := zbnd hG
    obtain ⟨x9, e10, hG⟩ := hG
    refine bnd_eq (m_aB hl (i := 52) (by decide) rfl e10) ?_
    by_cases c11 : x9 = 0
    · rw [if_pos c11] at hG
      refine (if_pos c11).trans ?_
      refine bnd_eq (mgR_67 hl) ?_
      refine bnd_eq rfl ?_
      replace hG := zbnd hG
      obtain ⟨x13, e14, hG⟩ := hG
      refine bnd_eq (m_aI hl (i := 61) (by decide) rfl e14) ?_
      refine bnd_eq (mgR_57 hl) ?_
      refine bnd_eq rfl ?_
      replace hG := zbnd hG
      obtain ⟨x16, e17, hG⟩ := hG
      refine bnd_eq (m_aI hl (i := 53) (by decide) rfl e17) ?_
      by_cases c18 : x13 = x16
      · rw [if_pos c18] at hG
        refine (if_pos c18).trans ?_
        replace hG := Option.some.inj hG
        subst hG
        rfl
      · rw [if_neg c18] at hG
        refine (if_neg c18).trans ?_
        replace hG := Option.some.inj hG
        subst hG
        rfl
    · rw [if_neg c11] at hG
      refine (if_neg c11).trans ?_
      refine bnd_eq (mgR_58 hl) ?_
      refine bnd_eq rfl ?_
      replace hG := zbnd hG
      obtain ⟨x20, e21, hG⟩ := hG
      refine bnd_eq (m_aI hl (i := 54) (by decide) rfl e21) ?_
      refine zgd_eq (m_isO hl) ?_
      replace hG := zbnd hG
      obtain ⟨p22, e23, hG⟩ := hG
      refine bnd_eq (r238 hl e23) ?_
      by_cases c24 : p22.1 = 0
      · rw [if_pos c24] at hG
        refine (if_pos c24).trans ?_
        replace hG := Option.some.inj hG
        subst hG
        rfl
      · rw [if_neg c24] at hG
        refine (if_neg c24).trans ?_
        replace hG := Option.some.inj hG
        subst hG
        rfl
  · rw [if_neg c7] at hG
    refine (if_neg c7).trans ?_
    replace hG := Option.some.inj hG
    subst hG
    rfl
def gb256_81 (n : Nat) (q31 : Int32 → Int32 → Int32 → Int32 → Int32 → zX → Option (Int32 × zX)) (l1 : Int32) (l2 : Int32) (l3 : Int32) (l4 : Int32) (l5 : Int32) (s0 : Int32) (X : zX) : Option (Int32 × zX) :=
  q31 l1 l2 l3 s0 (l5 + 1) X
set_option maxRecDepth 20000 in
theorem rb256_81 {n : Nat} {h0 : zH} (hl : Fx h0) {q31 : Int32 → Int32 → Int32 → Int32 → Int32 → zX → Option (Int32 × zX)} {r31 : Nat → Int32 → Int32 → Int32 → Int32 → Int32 → zH → Option (Int32 × zH)} (hr31 : ∀ {l1 : Int32} {l2 : Int32} {l3 : Int32} {l4 : Int32} {l5 : Int32} {X : zX} {p : Int32 × zX}, q31 l1 l2 l3 l4 l5 X = some p → r31 159 l1 l2 l3 l4 l5 (mq h0 X) = some (p.1, mq h0 p.2)) {l1 : Int32} {l2 : Int32} {l3 : Int32} {l4 : Int32} {l5 : Int32} {s0 : Int32} {X : zX} {p : Int32 × zX} (hG : gb256_81 n q31 l1 l2 l3 l4 l5 s0 X = some p) : b256_81 n r31 159 l1 l2 l3 l4 l5 s0 (mq h0 X) = some (p.1, mq h0 p.2) := by
  unfold gb256_81 at hG
  unfold b256_81
  exact hr31 hG
def gb256_31 (n : Nat) (q31 : Int32 → Int32 → Int32 → Int32 → Int32 → zX → Option (Int32 × zX)) (l1 : Int32) (l2 : Int32) (l3 : Int32) (l4 : Int32) (l5 : Int32) (X : zX) : Option (Int32 × zX) :=
  (rd (X.2.2 2) l1).bind fun x2 =>
  if x2 ≤ l5 then
    zgd (zrtn .boolean l4) <|
    some (l4, X)
  else
    if l4 = 0 then
      zgd (zrtn .boolean l4) <|
      some (l4, X)
    else
      (rd (X.2.2 3) ((16 * l1) + l5)).bind fun x9 =>
      (rd (X.2.2 3) (((16 * l2) + l3) + l5)).bind fun x12 =>
      if x9 = x12 then
        gb256_81 n q31 l1 l2 l3 l4 l5 1 X
      else
        gb256_81 n q31 l1 l2 l3 l4 l5 0 X
set_option maxRecDepth 20000 in
theorem rb256_31 {n : Nat} {h0 : zH} (hl : Fx h0) {q31 : Int32 → Int32 → Int32 → Int32 → Int32 → zX → Option (Int32 × zX)} {r31 : Nat → Int32 → Int32 → Int32 → Int32 → Int32 → zH → Option (Int32 × zH)} (hr31 : ∀ {l1 : Int32} {l2 : Int32} {l3 : Int32} {l4 : Int32} {l5 : Int32} {X : zX} {p : Int32 × zX}, q31 l1 l2 l3 l4 l5 X = some p → r31 159 l1 l2 l3 l4 l5 (mq h0 X) = some (p.1, mq h0 p.2)) {l1 : Int32} {l2 : Int32} {l3 : Int32} {l4 : Int32} {l5 : Int32} {X : zX} {p : Int32 × zX} (hG : gb256_31 n q31 l1 l2 l3 l4 l5 X = some p) : b256_31 n r31 159 l1 l2 l3 l4 l5 (mq h0 X) = some (p.1, mq h0 p.2) := by
  unfold gb256_31 at hG
  unfold b256_31
  refine bnd_eq (mgR_6 hl) ?_
  refine bnd_eq rfl ?_
  replace hG := zbnd hG
  obtain ⟨x2, e3, hG⟩ := hG
  refine bnd_eq (m_aI hl (i := 2) (by decide) rfl e3) ?_
  by_cases c4 : x2 ≤ l5
  · rw [if_pos c4] at hG
    refine (if_pos c4).trans ?_
    replace hG := zgd_some hG
    obtain ⟨g5, hG⟩ := hG
    refine zgd_eq g5 ?_
    replace hG := Option.some.inj hG
    subst hG
    rfl
  · rw [if_neg c4] at hG
    refine (if_neg c4).trans ?_
    by_cases c6 : l4 = 0
    · rw [if_pos c6] at hG
      refine (if_pos c6).trans ?_
      replace hG := zgd_some hG
      obtain ⟨g7, hG⟩ := hG
      refine zgd_eq g7 ?_
      replace hG := Option.some.inj hG
      subst hG
      rfl
    · rw [if_neg c6] at hG
      refine (if_neg c6).trans ?_
      refine bnd_eq (mgR_7 hl) ?_
      refine bnd_eq rfl ?_
      replace hG := zbnd hG
      obtain ⟨x9, e10, hG⟩ := hG
      refine bnd_eq (m_aB hl (i := 3) (by decide) rfl e10) ?_
      refine bnd_eq (mgR_7 hl) ?_
      refine bnd_eq rfl ?_
      replace hG := zbnd hG
      obtain ⟨x12, e13, hG⟩ := hG
      refine bnd_eq (m_aB hl (i := 3) (by decide) rfl e13) ?_
      by_cases c14 : x9 = x12
      · rw [if_pos c14] at hG
        refine (if_pos c14).trans ?_
        exact rb256_81 hl hr31 hG
      · rw [if_neg c14] at hG
        refine (if_neg c14).trans ?_
        exact rb256_81 hl hr31 hG
def gf256_31 (n : Nat)  (k : Nat) : Int32 → Int32 → Int32 → Int32 → Int32 → zX → Option (Int32 × zX) := Nat.rec (fun _ _ _ _ _ _ => none) (fun _ ih => gb256_31 n ih) k
theorem rf256_31 {n : Nat} {h0 : zH} (hl : Fx h0)   (k : Nat) : ∀ {l1 : Int32} {l2 : Int32} {l3 : Int32} {l4 : Int32} {l5 : Int32} {X : zX} {p : Int32 × zX}, gf256_31 n  k l1 l2 l3 l4 l5 X = some p → f256_31 n  k 159 l1 l2 l3 l4 l5 (mq h0 X) = some (p.1, mq h0 p.2) := by
  induction k with
  | zero => intros; rename_i hG; cases hG
  | succ k ih => intros; rename_i hG; exact rb256_31 (n := n) hl ih hG
def gb256_26 (n : Nat)  (l1 : Int32) (l2 : Int32) (l3 : Int32) (s0 : Int32) (X : zX) : Option (Int32 × zX) :=
  gf256_31 n  n l1 l2 l3 s0 0 X
set_option maxRecDepth 20000 in
theorem rb256_26 {n : Nat} {h0 : zH} (hl : Fx h0)   {l1 : Int32} {l2 : Int32} {l3 : Int32} {s0 : Int32} {X : zX} {p : Int32 × zX} (hG : gb256_26 n  l1 l2 l3 s0 X = some p) : b256_26 n  159 l1 l2 l3 s0 (mq h0 X) = some (p.1, mq h0 p.2) := by
  unfold gb256_26 at hG
  unfold b256_26
  exact rf256_31 hl  n hG
def gb256_25 (n : Nat)  (l1 : Int32) (l2 : Int32) (l3 : Int32) (X : zX) : Option (Int32 × zX) :=
  gb256_26 n  l1 l2 l3 0 X
set_option maxRecDepth 20000 in
theorem rb256_25 {n : Nat} {h0 : zH} (hl : Fx h0)   {l1 : Int32} {l2 : Int32} {l3 : Int32} {X : zX} {p : Int32 × zX} (hG : gb256_25 n  l1 l2 l3 X = some p) : b256_25 n  159 l1 l2 l3 (mq h0 X) = some (p.1, mq h0 p.2) := by
  unfold gb256_25 at hG
  unfold b256_25
  exact rb256_26 hl  hG
def g256 (n : Nat) (y1 : Int32) (y2 : Int32) (y3 : Int32) (X : zX) : Option (Int32 × zX) :=
  if y3 < 0 then
    gb256_25 n  y1 y2 y3 X
  else
    (rd (X.2.2 2) y1).bind fun x3 =>
    (rd (X.2.2 2) y2).bind fun x6 =>
    if x6 < (y3 + x3) then
      gb256_25 n  y1 y2 y3 X
    else
      gb256_26 n  y1 y2 y3 1 X
set_option maxRecDepth 20000 in
theorem r256 {n : Nat} {h0 : zH} (hl : Fx h0) {y1 : Int32} {y2 : Int32} {y3 : Int32} {X : zX} {p : Int32 × zX} (hG : g256 n y1 y2 y3 X = some p) : f256 n 159 y1 y2 y3 (mq h0 X) = some (p.1, mq h0 p.2) := by
  unfold g256 at hG
  unfold f256
  by_cases c1 : y3 < 0
  · rw [if_pos c1] at hG
    refine (if_pos c1).trans ?_
    exact rb256_25 hl  hG
  · rw [if_neg c1] at hG
    refine (if_neg c1).trans ?_
    refine bnd_eq (mgR_6 hl) ?_
    refine bnd_eq rfl ?_
    replace hG := zbnd hG
    obtain ⟨x3, e4, hG⟩ := hG
    refine bnd_eq (m_aI hl (i := 2) (by decide) rfl e4) ?_
    refine bnd_eq (mgR_6 hl) ?_
    refine bnd_eq rfl ?_
    replace hG := zbnd hG
    obtain ⟨x6, e7, hG⟩ := hG
    refine bnd_eq (m_aI hl (i := 2) (by decide) rfl e7) ?_
    by_cases c8 : x6 < (y3 + x3)
    · rw [if_pos c8] at hG
      refine (if_pos c8).trans ?_
      exact rb256_25 hl  hG
    · rw [if_neg c8] at hG
      refine (if_neg c8).trans ?_
      exact rb256_26 hl  hG
def gb257_36 (n : Nat) (q5 : Int32 → Int32 → Int32 → Int32 → zX → Option (Int32 × zX)) (l1 : Int32) (l2 : Int32) (l3 : Int32) (l4 : Int32) (s0 : Int32) (X : zX) : Option (Int32 × zX) :=
  q5 l1 l2 s0 (l4 + 1) X
set_option maxRecDepth 20000 in
theorem rb257_36 {n : Nat} {h0 : zH} (hl : Fx h0) {q5 : Int32 → Int32 → Int32 → Int32 → zX → Option (Int32 × zX)} {r5 : Nat → Int32 → Int32 → Int32 → Int32 → zH → Option (Int32 × zH)} (hr5 : ∀ {l1 : Int32} {l2 : Int32} {l3 : Int32} {l4 : Int32} {X : zX} {p : Int32 × zX}, q5 l1 l2 l3 l4 X = some p → r5 159 l1 l2 l3 l4 (mq h0 X) = some (p.1, mq h0 p.2)) {l1 : Int32} {l2 : Int32} {l3 : Int32} {l4 : Int32} {s0 : Int32} {X : zX} {p : Int32 × zX} (hG : gb257_36 n q5 l1 l2 l3 l4 s0 X = some p) : b257_36 n r5 159 l1 l2 l3 l4 s0 (mq h0 X) = some (p.1, mq h0 p.2) := by
  unfold gb257_36 at hG
  unfold b257_36
  exact hr5 hG
def gb257_31 (n : Nat) (q5 : Int32 → Int32 → Int32 → Int32 → zX → Option (Int32 × zX)) (l1 : Int32) (l2 : Int32) (l3 : Int32) (l4 : Int32) (X : zX) : Option (Int32 × zX) :=
  gb257_36 n q5 l1 l2 l3 l4 1 X
set_option maxRecDepth 20000 in
theorem rb257_31 {n : Nat} {h0 : zH} (hl : Fx h0) {q5 : Int32 → Int32 → Int32 → Int32 → zX → Option (Int32 × zX)} {r5 : Nat → Int32 → Int32 → Int32 → Int32 → zH → Option (Int32 × zH)} (hr5 : ∀ {l1 : Int32} {l2 : Int32} {l3 : Int32} {l4 : Int32} {X : zX} {p : Int32 × zX}, q5 l1 l2 l3 l4 X = some p → r5 159 l1 l2 l3 l4 (mq h0 X) = some (p.1, mq h0 p.2)) {l1 : Int32} {l2 : Int32} {l3 : Int32} {l4 : Int32} {X : zX} {p : Int32 × zX} (hG : gb257_31 n q5 l1 l2 l3 l4 X = some p) : b257_31 n r5 159 l1 l2 l3 l4 (mq h0 X) = some (p.1, mq h0 p.2) := by
  unfold gb257_31 at hG
  unfold b257_31
  exact rb257_36 hl hr5 hG
def gb257_5 (n : Nat) (q5 : Int32 → Int32 → Int32 → Int32 → zX → Option (Int32 × zX)) (l1 : Int32) (l2 : Int32) (l3 : Int32) (l4 : Int32) (X : zX) : Option (Int32 × zX) :=
  (rd (X.2.2 2) l2).bind fun x2 =>
  if x2 < l4 then
    zgd (zrtn .boolean l3) <|
    some (l3, X)
  else
    if l3 = 0 then
      (g256 n l1 l2 l4 X).bind fun p7 =>
      if p7.1 = 0 then
        gb257_36 n q5 l1 l2 l3 l4 0 p7.2
      else
        gb257_31 n q5 l1 l2 l3 l4 p7.2
    else
      gb257_31 n q5 l1 l2 l3 l4 X
set_option maxRecDepth 20000 in
theorem rb257_5 {n : Nat} {h0 : zH} (hl : Fx h0) {q5 : Int32 → Int32 → Int32 → Int32 → zX → Option (Int32 × zX)} {r5 : Nat → Int32 → Int32 → Int32 → Int32 → zH → Option (Int32 × zH)} (hr5 : ∀ {l1 : Int32} {l2 : Int32} {l3 : Int32} {l4 : Int32} {X : zX} {p : Int32 × zX}, q5 l1 l2 l3 l4 X = some p → r5 159 l1 l2 l3 l4 (mq h0 X) = some (p.1, mq h0 p.2)) {l1 : Int32} {l2 : Int32} {l3 : Int32} {l4 : Int32} {X : zX} {p : Int32 × zX} (hG : gb257_5 n q5 l1 l2 l3 l4 X = some p) : b257_5 n r5 159 l1 l2 l3 l4 (mq h0 X) = some (p.1, mq h0 p.2) := by
  unfold gb257_5 at hG
  unfold b257_5
  refine bnd_eq (mgR_6 hl) ?_
  refine bnd_eq rfl ?_
  replace hG := zbnd hG
  obtain ⟨x2, e3, hG⟩ := hG
  refine bnd_eq (m_aI hl (i := 2) (by decide) rfl e3) ?_
  by_cases c4 : x2 < l4
  · rw [if_pos c4] at hG
    refine (if_pos c4).trans ?_
    replace hG := zgd_some hG
    obtain ⟨g5, hG⟩ := hG
    refine zgd_eq g5 ?_
    replace hG := Option.some.inj hG
    subst hG
    rfl
  · rw [if_neg c4] at hG
    refine (if_neg c4).trans ?_
    by_cases c6 : l3 = 0
    · rw [if_pos c6] at hG
      refine (if_pos c6).trans ?_
      refine zgd_eq (m_isO hl) ?_
      replace hG := zbnd hG
      obtain ⟨p7, e8, hG⟩ := hG
      refine bnd_eq (r256 hl e8) ?_
      by_cases c9 : p7.1 = 0
      · rw [if_pos c9] at hG
        refine (if_pos c9).trans ?_
        exact rb257_36 hl hr5 hG
      · rw [if_neg c9] at hG
        refine (if_neg c9).trans ?_
        exact rb257_31 hl hr5 hG
    · rw [if_neg c6] at hG
      refine (if_neg c6).trans ?_
      exact rb257_31 hl hr5 hG
def gf257_5 (n : Nat)  (k : Nat) : Int32 → Int32 → Int32 → Int32 → zX → Option (Int32 × zX) := Nat.rec (fun _ _ _ _ _ => none) (fun _ ih => gb257_5 n ih) k
theorem rf257_5 {n : Nat} {h0 : zH} (hl : Fx h0)   (k : Nat) : ∀ {l1 : Int32} {l2 : Int32} {l3 : Int32} {l4 : Int32} {X : zX} {p : Int32 × zX}, gf257_5 n  k l1 l2 l3 l4 X = some p → f257_5 n  k 159 l1 l2 l3 l4 (mq h0 X) = some (p.1, mq h0 p.2) := by
  induction k with
  | zero => intros; rename_i hG; cases hG
  | succ k ih => intros; rename_i hG; exact rb257_5 (n := n) hl ih hG
def g257 (n : Nat) (y1 : Int32) (y2 : Int32) (X : zX) : Option (Int32 × zX) :=
  gf257_5 n  n y1 y2 0 0 X
set_option maxRecDepth 20000 in
theorem r257 {n : Nat} {h0 : zH} (hl : Fx h0) {y1 : Int32} {y2 : Int32} {X : zX} {p : Int32 × zX} (hG : g257 n y1 y2 X = some p) : f257 n 159 y1 y2 (mq h0 X) = some (p.1, mq h0 p.2) := by
  unfold g257 at hG
  unfold f257
  exact rf257_5 hl  n hG
def gb253_296 (n : Nat) (q261 : Int32 → Int32 → Int32 → Int32 → Int32 → zX → Option (Int32 × zX)) (l1 : Int32) (l2 : Int32) (l3 : Int32) (l4 : Int32) (l5 : Int32) (s0 : Int32) (X : zX) : Option (Int32 × zX) :=
  (rd (X.2.2 56) ((400 * (X.1 3)) + l5)).bind fun x2 =>
  q261 l1 l2 l3 s0 x2 X
set_option maxRecDepth 20000 in
theorem rb253_296 {n : Nat} {h0 : zH} (hl : Fx h0) {q261 : Int32 → Int32 → Int32 → Int32 → Int32 → zX → Option (Int32 × zX)} {r261 : Nat → Int32 → Int32 → Int32 → Int32 → Int32 → zH → Option (Int32 × zH)} (hr261 : ∀ {l1 : Int32} {l2 : Int32} {l3 : Int32} {l4 : Int32} {l5 : Int32} {X : zX} {p : Int32 × zX}, q261 l1 l2 l3 l4 l5 X = some p → r261 159 l1 l2 l3 l4 l5 (mq h0 X) = some (p.1, mq h0 p.2)) {l1 : Int32} {l2 : Int32} {l3 : Int32} {l4 : Int32} {l5 : Int32} {s0 : Int32} {X : zX} {p : Int32 × zX} (hG : gb253_296 n q261 l1 l2 l3 l4 l5 s0 X = some p) : b253_296 n r261 159 l1 l2 l3 l4 l5 s0 (mq h0 X) = some (p.1, mq h0 p.2) := by
  unfold gb253_296 at hG
  unfold b253_296
  refine bnd_eq (mgR_60 hl) ?_
  refine bnd_eq (mgI_3 hl) ?_
  refine bnd_eq rfl ?_
  replace hG := zbnd hG
  obtain ⟨x2, e3, hG⟩ := hG
  refine bnd_eq (m_aI hl (i := 56) (by decide) rfl e3) ?_
  exact hr261 hG
def gb253_291 (n : Nat) (q261 : Int32 → Int32 → Int32 → Int32 → Int32 → zX → Option (Int32 × zX)) (l1 : Int32) (l2 : Int32) (l3 : Int32) (l4 : Int32) (l5 : Int32) (X : zX) : Option (Int32 × zX) :=
  gb253_296 n q261 l1 l2 l3 l4 l5 1 X
set_option maxRecDepth 20000 in
theorem rb253_291 {n : Nat} {h0 : zH} (hl : Fx h0) {q261 : Int32 → Int32 → Int32 → Int32 → Int32 → zX → Option (Int32 × zX)} {r261 : Nat → Int32 → Int32 → Int32 → Int32 → Int32 → zH → Option (Int32 × zH)} (hr261 : ∀ {l1 : Int32} {l2 : Int32} {l3 : Int32} {l4 : Int32} {l5 : Int32} {X : zX} {p : Int32 × zX}, q261 l1 l2 l3 l4 l5 X = some p → r261 159 l1 l2 l3 l4 l5 (mq h0 X) = some (p.1, mq h0 p.2)) {l1 : Int32} {l2 : Int32} {l3 : Int32} {l4 : Int32} {l5 : Int32} {X : zX} {p : Int32 × zX} (hG : gb253_291 n q261 l1 l2 l3 l4 l5 X = some p) : b253_291 n r261 159 l1 l2 l3 l4 l5 (mq h0 X) = some (p.1, mq h0 p.2) := by
  unfold gb253_291 at hG
  unfold b253_291
  exact rb253_296 hl hr261 hG
def gb253_261 (n : Nat) (q261 : Int32 → Int32 → Int32 → Int32 → Int32 → zX → Option (Int32 × zX)) (l1 : Int32) (l2 : Int32) (l3 : Int32) (l4 : Int32) (l5 : Int32) (X : zX) : Option (Int32 × zX) :=
  if l5 = (-1) then
    zgd (zrtn .boolean l4) <|
    some (l4, X)
  else
    if l4 = 0 then
      (g255 n l2 ((400 * (X.1 3)) + l5) X).bind fun p4 =>
      if p4.1 = 0 then
        gb253_296 n q261 l1 l2 l3 l4 l5 0 p4.2
      else
        gb253_291 n q261 l1 l2 l3 l4 l5 p4.2
    else
      gb253_291 n q261 l1 l2 l3 l4 l5 X
set_option maxRecDepth 20000 in
theorem rb253_261 {n : Nat} {h0 : zH} (hl : Fx h0) {q261 : Int32 → Int32 → Int32 → Int32 → Int32 → zX → Option (Int32 × zX)} {r261 : Nat → Int32 → Int32 → Int32 → Int32 → Int32 → zH → Option (Int32 × zH)} (hr261 : ∀ {l1 : Int32} {l2 : Int32} {l3 : Int32} {l4 : Int32} {l5 : Int32} {X : zX} {p : Int32 × zX}, q261 l1 l2 l3 l4 l5 X = some p → r261 159 l1 l2 l3 l4 l5 (mq h0 X) = some (p.1, mq h0 p.2)) {l1 : Int32} {l2 : Int32} {l3 : Int32} {l4 : Int32} {l5 : Int32} {X : zX} {p : Int32 × zX} (hG : gb253_261 n q261 l1 l2 l3 l4 l5 X = some p) : b253_261 n r261 159 l1 l2 l3 l4 l5 (mq h0 X) = some (p.1, mq h0 p.2) := by
  unfold gb253_261 at hG
  unfold b253_261
  by_cases c1 : l5 = (-1)
  · rw [if_pos c1] at hG
    refine (if_pos c1).trans ?_
    replace hG := zgd_some hG
    obtain ⟨g2, hG⟩ := hG
    refine zgd_eq g2 ?_
    replace hG := Option.some.inj hG
    subst hG
    rfl
  · rw [if_neg c1] at hG
    refine (if_neg c1).trans ?_
    by_cases c3 : l4 = 0
    · rw [if_pos c3] at hG
      refine (if_pos c3).trans ?_
      refine bnd_eq (mgI_3 hl) ?_
      refine zgd_eq (m_isO hl) ?_
      replace hG := zbnd hG
      obtain ⟨p4, e5, hG⟩ := hG
      refine bnd_eq (r255 hl e5) ?_
      by_cases c6 : p4.1 = 0
      · rw [if_pos c6] at hG
        refine (if_pos c6).trans ?_
        exact rb253_296 hl hr261 hG
      · rw [if_neg c6] at hG
        refine (if_neg c6).trans ?_
        exact rb253_291 hl hr261 hG
    · rw [if_neg c3] at hG
      refine (if_neg c3).trans ?_
      exact rb253_291 hl hr261 hG
def gf253_261 (n : Nat)  (k : Nat) : Int32 → Int32 → Int32 → Int32 → Int32 → zX → Option (Int32 × zX) := Nat.rec (fun _ _ _ _ _ _ => none) (fun _ ih => gb253_261 n ih) k
theorem rf253_261 {n : Nat} {h0 : zH} (hl : Fx h0)   (k : Nat) : ∀ {l1 : Int32} {l2 : Int32} {l3 : Int32} {l4 : Int32} {l5 : Int32} {X : zX} {p : Int32 × zX}, gf253_261 n  k l1 l2 l3 l4 l5 X = some p → f253_261 n  k 159 l1 l2 l3 l4 l5 (mq h0 X) = some (p.1, mq h0 p.2) := by
  induction k with
  | zero => intros; rename_i hG; cases hG
  | succ k ih => intros; rename_i hG; exact rb253_261 (n := n) hl ih hG
def g253 (n : Nat) (y1 : Int32) (X : zX) : Option (Int32 × zX) :=
  (rd (X.2.2 51) y1).bind fun x2 =>
  (g254 n x2 X).bind fun p4 =>
  if p4.1 = (-1) then
    some (0, p4.2)
  else
    (rd (p4.2.2.2 50) y1).bind fun x8 =>
    if x8 = 3 then
      (g255 n p4.1 y1 p4.2).bind fun p11 =>
      zgd (zrtn .boolean p11.1) <|
      some (p11.1, p11.2)
    else
    if x8 = 4 then
      (rd (p4.2.2.2 60) p4.1).bind fun x16 =>
      if x16 = 0 then
        (rd (p4.2.2.2 61) p4.1).bind fun x20 =>
        (rd (p4.2.2.2 53) y1).bind fun x23 =>
        if x23 ≤ x20 then
          some (0, p4.2)
        else
          some (1, p4.2)
      else
        some (0, p4.2)
    else
    if x8 = 5 then
      (rd (p4.2.2.2 60) p4.1).bind fun x28 =>
      if x28 = 0 then
        (rd (p4.2.2.2 61) p4.1).bind fun x32 =>
        (rd (p4.2.2.2 53) y1).bind fun x35 =>
        if x32 ≤ x35 then
          some (0, p4.2)
        else
          some (1, p4.2)
      else
        some (0, p4.2)
    else
    if x8 = 6 then
      (rd (p4.2.2.2 60) p4.1).bind fun x40 =>
      if x40 = 0 then
        some (0, p4.2)
      else
        (rd (p4.2.2.2 54) y1).bind fun x44 =>
        (g256 n x44 (3008 + p4.1) 0 p4.2).bind fun p46 =>
        if p46.1 = 0 then
          some (0, p46.2)
        else
          some (1, p46.2)
    else
    if x8 = 7 then
      (rd (p4.2.2.2 60) p4.1).bind fun x51 =>
      if x51 = 0 then
        some (0, p4.2)
      else
        (rd (p4.2.2.2 54) y1).bind fun x55 =>
        (rd (p4.2.2.2 2) (3008 + p4.1)).bind fun x58 =>
        (rd (p4.2.2.2 54) y1).bind fun x62 =>
        (rd (p4.2.2.2 2) x62).bind fun x64 =>
        (g256 n x55 (3008 + p4.1) (x58 - x64) p4.2).bind fun p66 =>
        if p66.1 = 0 then
          some (0, p66.2)
        else
          some (1, p66.2)
    else
    if x8 = 8 then
      (rd (p4.2.2.2 60) p4.1).bind fun x71 =>
      if x71 = 0 then
        some (0, p4.2)
      else
        (rd (p4.2.2.2 54) y1).bind fun x75 =>
        (g257 n x75 (3008 + p4.1) p4.2).bind fun p77 =>
        if p77.1 = 0 then
          some (0, p77.2)
        else
          some (1, p77.2)
    else
    if x8 = 9 then
      (g255 n p4.1 y1 p4.2).bind fun p81 =>
      (rd (p81.2.2.2 55) y1).bind fun x84 =>
      gf253_261 n  n y1 p4.1 (3008 + p4.1) p81.1 x84 p81.2
    else
    some (1, p4.2)
set_option maxRecDepth 20000 in
theorem r253 {n : Nat} {h0 : zH} (hl : Fx h0) {y1 : Int32} {X : zX} {p : Int32 × zX} (hG : g253 n y1 X = some p) : f253 n 159 y1 (mq h0 X) = some (p.1, mq h0 p.2) := by
  unfold g253 at hG
  unfold f253
  refine bnd_eq (mgR_55 hl) ?_
  refine bnd_eq rfl ?_
  replace hG := zbnd hG
  obtain ⟨x2, e3, hG⟩ := hG
  refine bnd_eq (m_aI hl (i := 51) (by decide) rfl e3) ?_
  refine zgd_eq (m_isO hl) ?_
  replace hG := zbnd hG
  obtain ⟨p4, e5, hG⟩ := hG
  refine bnd_eq (r254 hl e5) ?_
  by_cases c6 : p4.1 = (-1)
  · rw [if_pos c6] at hG
    refine (if_pos c6).trans ?_
    replace hG := Option.some.inj hG
    subst hG
    rfl
  · rw [if_neg c6] at hG
    refine (if_neg c6).trans ?_
    refine bnd_eq (mgR_54 hl) ?_
    refine bnd_eq rfl ?_
    replace hG := zbnd hG
    obtain ⟨x8, e9, hG⟩ := hG
    refine bnd_eq (m_aI hl (i := 50) (by decide) rfl e9) ?_
    by_cases c10 : x8 = 3
    · rw [if_pos c10] at hG
      refine (if_pos c10).trans ?_
      refine zgd_eq (m_isO hl) ?_
      replace hG := zbnd hG
      obtain ⟨p11, e12, hG⟩ := hG
      refine bnd_eq (r255 hl e12) ?_
      replace hG := zgd_some hG
      obtain ⟨g13, hG⟩ := hG
      refine zgd_eq g13 ?_
      replace hG := Option.some.inj hG
      subst hG
      rfl
    rw [if_neg c10] at hG
    refine (if_neg c10).trans ?_
    by_cases c14 : x8 = 4
    · rw [if_pos c14] at hG
      refine (if_pos c14).trans ?_
      refine bnd_eq (mgR_66 hl) ?_
      refine bnd_eq rfl ?_
      replace hG := zbnd hG
      obtain ⟨x16, e17, hG⟩ := hG
      refine bnd_eq (m_aB hl (i := 60) (by decide) rfl e17) ?_
      by_cases c18 : x16 = 0
      · rw [if_pos c18] at hG
        refine (if_pos c18).trans ?_
        refine bnd_eq (mgR_67 hl) ?_
        refine bnd_eq rfl ?_
        replace hG := zbnd hG
        obtain ⟨x20, e21, hG⟩ := hG
        refine bnd_eq (m_aI hl (i := 61) (by decide) rfl e21) ?_
        refine bnd_eq (mgR_57 hl) ?_
        refine bnd_eq rfl ?_
        replace hG := zbnd hG
        obtain ⟨x23, e24, hG⟩ := hG
        refine bnd_eq (m_aI hl (i := 53) (by decide) rfl e24) ?_
        by_cases c25 : x23 ≤ x20
        · rw [if_pos c25] at hG
          refine (if_pos c25).trans ?_
          replace hG := Option.some.inj hG
          subst hG
          rfl
        · rw [if_neg c25] at hG
          refine (if_neg c25).trans ?_
          replace hG := Option.some.inj hG
          subst hG
          rfl
      · rw [if_neg c18] at hG
        refine (if_neg c18).trans ?_
        replace hG := Option.some.inj hG
        subst hG
        rfl
    rw [if_neg c14] at hG
    refine (if_neg c14).trans ?_
    by_cases c26 : x8 = 5
    · rw [if_pos c26] at hG
      refine (if_pos c26).trans ?_
      refine bnd_eq (mgR_66 hl) ?_
      refine bnd_eq rfl ?_
      replace hG := zbnd hG
      obtain ⟨x28, e29, hG⟩ := hG
      refine bnd_eq (m_aB hl (i := 60) (by decide) rfl e29) ?_
      by_cases c30 : x28 = 0
      · rw [if_pos c30] at hG
        refine (if_pos c30).trans ?_
        refine bnd_eq (mgR_67 hl) ?_
        refine bnd_eq rfl ?_
        replace hG := zbnd hG
        obtain ⟨x32, e33, hG⟩ := hG
        refine bnd_eq (m_aI hl (i := 61) (by decide) rfl e33) ?_
        refine bnd_eq (mgR_57 hl) ?_
        refine bnd_eq rfl ?_
        replace hG := zbnd hG
        obtain ⟨x35, e36, hG⟩ := hG
        refine bnd_eq (m_aI hl (i := 53) (by decide) rfl e36) ?_
        by_cases c37 : x32 ≤ x35
        · rw [if_pos c37] at hG
          refine (if_pos c37).trans ?_
          replace hG := Option.some.inj hG
          subst hG
          rfl
        · rw [if_neg c37] at hG
          refine (if_neg c37).trans ?_
          replace hG := Option.some.inj hG
          subst hG
          rfl
      · rw [if_neg c30] at hG
        refine (if_neg c30).trans ?_
        replace hG := Option.some.inj hG
        subst hG
        rfl
    rw [if_neg c26] at hG
    refine (if_neg c26).trans ?_
    by_cases c38 : x8 = 6
    · rw [if_pos c38] at hG
      refine (if_pos c38).trans ?_
      refine bnd_eq (mgR_66 hl) ?_
      refine bnd_eq rfl ?_
      replace hG := zbnd hG
      obtain ⟨x40, e41, hG⟩ := hG
      refine bnd_eq (m_aB hl (i := 60) (by decide) rfl e41) ?_
      by_cases c42 : x40 = 0
      · rw [if_pos c42] at hG
        refine (if_pos c42).trans ?_
        replace hG := Option.some.inj hG
        subst hG
        rfl
      · rw [if_neg c42] at hG
        refine (if_neg c42).trans ?_
        refine bnd_eq (mgR_58 hl) ?_
        refine bnd_eq rfl ?_
        replace hG := zbnd hG
        obtain ⟨x44, e45, hG⟩ := hG
        refine bnd_eq (m_aI hl (i := 54) (by decide) rfl e45) ?_
        refine zgd_eq (m_isO hl) ?_
        replace hG := zbnd hG
        obtain ⟨p46, e47, hG⟩ := hG
        refine bnd_eq (r256 hl e47) ?_
        by_cases c48 : p46.1 = 0
        · rw [if_pos c48] at hG
          refine (if_pos c48).trans ?_
          replace hG := Option.some.inj hG
          subst hG
          rfl
        · rw [if_neg c48] at hG
          refine (if_neg c48).trans ?_
          replace hG := Option.some.inj hG
          subst hG
          rfl
    rw [if_neg c38] at hG
    refine (if_neg c38).trans ?_
    by_cases c49 : x8 = 7
    · rw [if_pos c49] at hG
      refine (if_pos c49).trans ?_
      refine bnd_eq (mgR_66 hl) ?_
      refine bnd_eq rfl ?_
      replace hG := zbnd hG
      obtain ⟨x51, e52, hG⟩ := hG
      refine bnd_eq (m_aB hl (i := 60) (by decide) rfl e52) ?_
      by_cases c53 : x51 = 0
      · rw [if_pos c53] at hG
        refine (if_pos c53).trans ?_
        replace hG := Option.some.inj hG
        subst hG
        rfl
      · rw [if_neg c53] at hG
        refine (if_neg c53).trans ?_
        refine bnd_eq (mgR_58 hl) ?_
        refine bnd_eq rfl ?_
        replace hG := zbnd hG
        obtain ⟨x55, e56, hG⟩ := hG
        refine bnd_eq (m_aI hl (i := 54) (by decide) rfl e56) ?_
        refine bnd_eq (mgR_6 hl) ?_
        refine bnd_eq rfl ?_
        replace hG := zbnd hG
        obtain ⟨x58, e59, hG⟩ := hG
        refine bnd_eq (m_aI hl (i := 2) (by decide) rfl e59) ?_
        refine bnd_eq (mgR_6 hl) ?_
        refine bnd_eq (mgR_58 hl) ?_
        refine bnd_eq rfl ?_
        replace hG := zbnd hG
        obtain ⟨x62, e63, hG⟩ := hG
        refine bnd_eq (m_aI hl (i := 54) (by decide) rfl e63) ?_
        refine bnd_eq rfl ?_
        replace hG := zbnd hG
        obtain ⟨x64, e65, hG⟩ := hG
        refine bnd_eq (m_aI hl (i := 2) (by decide) rfl e65) ?_
        refine zgd_eq (m_isO hl) ?_
        replace hG := zbnd hG
        obtain ⟨p66, e67, hG⟩ := hG
        refine bnd_eq (r256 hl e67) ?_
        by_cases c68 : p66.1 = 0
        · rw [if_pos c68] at hG
          refine (if_pos c68).trans ?_
          replace hG := Option.some.inj hG
          subst hG
          rfl
        · rw [if_neg c68] at hG
          refine (if_neg c68).trans ?_
          replace hG := Option.some.inj hG
          subst hG
          rfl
    rw [if_neg c49] at hG
    refine (if_neg c49).trans ?_
    by_cases c69 : x8 = 8
    · rw [if_pos c69] at hG
      refine (if_pos c69).trans ?_
      refine bnd_eq (mgR_66 hl) ?_
      refine bnd_eq rfl ?_
      replace hG := zbnd hG
      obtain ⟨x71, e72, hG⟩ := hG
      refine bnd_eq (m_aB hl (i := 60) (by decide) rfl e72) ?_
      by_cases c73 : x71 = 0
      · rw [if_pos c73] at hG
        refine (if_pos c73).trans ?_
        replace hG := Option.some.inj hG
        subst hG
        rfl
      · rw [if_neg c73] at hG
        refine (if_neg c73).trans ?_
        refine bnd_eq (mgR_58 hl) ?_
        refine bnd_eq rfl ?_
        replace hG := zbnd hG
        obtain ⟨x75, e76, hG⟩ := hG
        refine bnd_eq (m_aI hl (i := 54) (by decide) rfl e76) ?_
        refine zgd_eq (m_isO hl) ?_
        replace hG := zbnd hG
        obtain ⟨p77, e78, hG⟩ := hG
        refine bnd_eq (r257 hl e78) ?_
        by_cases c79 : p77.1 = 0
        · rw [if_pos c79] at hG
          refine (if_pos c79).trans ?_
          replace hG := Option.some.inj hG
          subst hG
          rfl
        · rw [if_neg c79] at hG
          refine (if_neg c79).trans ?_
          replace hG := Option.some.inj hG
          subst hG
          rfl
    rw [if_neg c69] at hG
    refine (if_neg c69).trans ?_
    by_cases c80 : x8 = 9
    · rw [if_pos c80] at hG
      refine (if_pos c80).trans ?_
      refine zgd_eq (m_isO hl) ?_
      replace hG := zbnd hG
      obtain ⟨p81, e82, hG⟩ := hG
      refine bnd_eq (r255 hl e82) ?_
      refine bnd_eq (mgR_59 hl) ?_
      refine bnd_eq rfl ?_
      replace hG := zbnd hG
      obtain ⟨x84, e85, hG⟩ := hG
      refine bnd_eq (m_aI hl (i := 55) (by decide) rfl e85) ?_
      exact rf253_261 hl  n hG
    rw [if_neg c80] at hG
    refine (if_neg c80).trans ?_
    replace hG := Option.some.inj hG
    subst hG
    rfl
def gb252_308 (n : Nat) (q3 : Int32 → Int32 → Int32 → Int32 → zX → Option (Int32 × zX)) (l1 : Int32) (l2 : Int32) (l3 : Int32) (l4 : Int32) (l5 : Int32) (l6 : Int32) (l7 : Int32) (X : zX) : Option (Int32 × zX) :=
  (wr X 68 l5 (l7 &&& 1)).bind fun X2 =>
  q3 l1 l2 l3 (l4 + 1) X2
set_option maxRecDepth 20000 in
theorem rb252_308 {n : Nat} {h0 : zH} (hl : Fx h0) {q3 : Int32 → Int32 → Int32 → Int32 → zX → Option (Int32 × zX)} {r3 : Nat → Int32 → Int32 → Int32 → Int32 → zH → Option (Int32 × zH)} (hr3 : ∀ {l1 : Int32} {l2 : Int32} {l3 : Int32} {l4 : Int32} {X : zX} {p : Int32 × zX}, q3 l1 l2 l3 l4 X = some p → r3 159 l1 l2 l3 l4 (mq h0 X) = some (p.1, mq h0 p.2)) {l1 : Int32} {l2 : Int32} {l3 : Int32} {l4 : Int32} {l5 : Int32} {l6 : Int32} {l7 : Int32} {X : zX} {p : Int32 × zX} (hG : gb252_308 n q3 l1 l2 l3 l4 l5 l6 l7 X = some p) : b252_308 n r3 159 l1 l2 l3 l4 l5 l6 l7 (mq h0 X) = some (p.1, mq h0 p.2) := by
  unfold gb252_308 at hG
  unfold b252_308
  refine bnd_eq (mgR_82 hl) ?_
  refine bnd_eq rfl ?_
  replace hG := zbnd hG
  obtain ⟨X2, e3, hG⟩ := hG
  refine bnd_eq (m_sZ hl (i := 68) (by decide) rfl e3) ?_
  exact hr3 hG
def gb252_170 (n : Nat) (q3 : Int32 → Int32 → Int32 → Int32 → zX → Option (Int32 × zX)) (l1 : Int32) (l2 : Int32) (l3 : Int32) (l4 : Int32) (l5 : Int32) (l6 : Int32) (l7 : Int32) (s0 : Int32) (X : zX) : Option (Int32 × zX) :=
  gb252_308 n q3 l1 l2 l3 l4 l5 l6 s0 X
set_option maxRecDepth 20000 in
theorem rb252_170 {n : Nat} {h0 : zH} (hl : Fx h0) {q3 : Int32 → Int32 → Int32 → Int32 → zX → Option (Int32 × zX)} {r3 : Nat → Int32 → Int32 → Int32 → Int32 → zH → Option (Int32 × zH)} (hr3 : ∀ {l1 : Int32} {l2 : Int32} {l3 : Int32} {l4 : Int32} {X : zX} {p : Int32 × zX}, q3 l1 l2 l3 l4 X = some p → r3 159 l1 l2 l3 l4 (mq h0 X) = some (p.1, mq h0 p.2)) {l1 : Int32} {l2 : Int32} {l3 : Int32} {l4 : Int32} {l5 : Int32} {l6 : Int32} {l7 : Int32} {s0 : Int32} {X : zX} {p : Int32 × zX} (hG : gb252_170 n q3 l1 l2 l3 l4 l5 l6 l7 s0 X = some p) : b252_170 n r3 159 l1 l2 l3 l4 l5 l6 l7 s0 (mq h0 X) = some (p.1, mq h0 p.2) := by
  unfold gb252_170 at hG
  unfold b252_170
  exact rb252_308 hl hr3 hG
def gb252_210 (n : Nat) (q3 : Int32 → Int32 → Int32 → Int32 → zX → Option (Int32 × zX)) (q184 : Int32 → Int32 → Int32 → Int32 → Int32 → Int32 → Int32 → Int32 → zX → Option (Int32 × zX)) (l1 : Int32) (l2 : Int32) (l3 : Int32) (l4 : Int32) (l5 : Int32) (l6 : Int32) (l7 : Int32) (l8 : Int32) (s0 : Int32) (X : zX) : Option (Int32 × zX) :=
  (rd (X.2.2 56) ((400 * (X.1 3)) + l8)).bind fun x2 =>
  q184 l1 l2 l3 l4 l5 l6 s0 x2 X
set_option maxRecDepth 20000 in
theorem rb252_210 {n : Nat} {h0 : zH} (hl : Fx h0) {q3 : Int32 → Int32 → Int32 → Int32 → zX → Option (Int32 × zX)} {r3 : Nat → Int32 → Int32 → Int32 → Int32 → zH → Option (Int32 × zH)} {q184 : Int32 → Int32 → Int32 → Int32 → Int32 → Int32 → Int32 → Int32 → zX → Option (Int32 × zX)} {r184 : Nat → Int32 → Int32 → Int32 → Int32 → Int32 → Int32 → Int32 → Int32 → zH → Option (Int32 × zH)} (hr3 : ∀ {l1 : Int32} {l2 : Int32} {l3 : Int32} {l4 : Int32} {X : zX} {p : Int32 × zX}, q3 l1 l2 l3 l4 X = some p → r3 159 l1 l2 l3 l4 (mq h0 X) = some (p.1, mq h0 p.2)) (hr184 : ∀ {l1 : Int32} {l2 : Int32} {l3 : Int32} {l4 : Int32} {l5 : Int32} {l6 : Int32} {l7 : Int32} {l8 : Int32} {X : zX} {p : Int32 × zX}, q184 l1 l2 l3 l4 l5 l6 l7 l8 X = some p → r184 159 l1 l2 l3 l4 l5 l6 l7 l8 (mq h0 X) = some (p.1, mq h0 p.2)) {l1 : Int32} {l2 : Int32} {l3 : Int32} {l4 : Int32} {l5 : Int32} {l6 : Int32} {l7 : Int32} {l8 : Int32} {s0 : Int32} {X : zX} {p : Int32 × zX} (hG : gb252_210 n q3 q184 l1 l2 l3 l4 l5 l6 l7 l8 s0 X = some p) : b252_210 n r3 r184 159 l1 l2 l3 l4 l5 l6 l7 l8 s0 (mq h0 X) = some (p.1, mq h0 p.2) := by
  unfold gb252_210 at hG
  unfold b252_210
  refine bnd_eq (mgR_60 hl) ?_
  refine bnd_eq (mgI_3 hl) ?_
  refine bnd_eq rfl ?_
  replace hG := zbnd hG
  obtain ⟨x2, e3, hG⟩ := hG
  refine bnd_eq (m_aI hl (i := 56) (by decide) rfl e3) ?_
  exact hr184 hG
def gb252_205 (n : Nat) (q3 : Int32 → Int32 → Int32 → Int32 → zX → Option (Int32 × zX)) (q184 : Int32 → Int32 → Int32 → Int32 → Int32 → Int32 → Int32 → Int32 → zX → Option (Int32 × zX)) (l1 : Int32) (l2 : Int32) (l3 : Int32) (l4 : Int32) (l5 : Int32) (l6 : Int32) (l7 : Int32) (l8 : Int32) (X : zX) : Option (Int32 × zX) :=
  gb252_210 n q3 q184 l1 l2 l3 l4 l5 l6 l7 l8 1 X
set_option maxRecDepth 20000 in
theorem rb252_205 {n : Nat} {h0 : zH} (hl : Fx h0) {q3 : Int32 → Int32 → Int32 → Int32 → zX → Option (Int32 × zX)} {r3 : Nat → Int32 → Int32 → Int32 → Int32 → zH → Option (Int32 × zH)} {q184 : Int32 → Int32 → Int32 → Int32 → Int32 → Int32 → Int32 → Int32 → zX → Option (Int32 × zX)} {r184 : Nat → Int32 → Int32 → Int32 → Int32 → Int32 → Int32 → Int32 → Int32 → zH → Option (Int32 × zH)} (hr3 : ∀ {l1 : Int32} {l2 : Int32} {l3 : Int32} {l4 : Int32} {X : zX} {p : Int32 × zX}, q3 l1 l2 l3 l4 X = some p → r3 159 l1 l2 l3 l4 (mq h0 X) = some (p.1, mq h0 p.2)) (hr184 : ∀ {l1 : Int32} {l2 : Int32} {l3 : Int32} {l4 : Int32} {l5 : Int32} {l6 : Int32} {l7 : Int32} {l8 : Int32} {X : zX} {p : Int32 × zX}, q184 l1 l2 l3 l4 l5 l6 l7 l8 X = some p → r184 159 l1 l2 l3 l4 l5 l6 l7 l8 (mq h0 X) = some (p.1, mq h0 p.2)) {l1 : Int32} {l2 : Int32} {l3 : Int32} {l4 : Int32} {l5 : Int32} {l6 : Int32} {l7 : Int32} {l8 : Int32} {X : zX} {p : Int32 × zX} (hG : gb252_205 n q3 q184 l1 l2 l3 l4 l5 l6 l7 l8 X = some p) : b252_205 n r3 r184 159 l1 l2 l3 l4 l5 l6 l7 l8 (mq h0 X) = some (p.1, mq h0 p.2) := by
  unfold gb252_205 at hG
  unfold b252_205
  exact rb252_210 hl hr3 hr184 hG
def gb252_184 (n : Nat) (q3 : Int32 → Int32 → Int32 → Int32 → zX → Option (Int32 × zX)) (q184 : Int32 → Int32 → Int32 → Int32 → Int32 → Int32 → Int32 → Int32 → zX → Option (Int32 × zX)) (l1 : Int32) (l2 : Int32) (l3 : Int32) (l4 : Int32) (l5 : Int32) (l6 : Int32) (l7 : Int32) (l8 : Int32) (X : zX) : Option (Int32 × zX) :=
  if l8 = (-1) then
    gb252_308 n q3 l1 l2 l3 l4 l5 l6 l7 X
  else
    if l7 = 0 then
      (rd (X.2.2 68) l8).bind fun x4 =>
      if x4 = 0 then
        gb252_210 n q3 q184 l1 l2 l3 l4 l5 l6 l7 l8 0 X
      else
        gb252_205 n q3 q184 l1 l2 l3 l4 l5 l6 l7 l8 X
    else
      gb252_205 n q3 q184 l1 l2 l3 l4 l5 l6 l7 l8 X
set_option maxRecDepth 20000 in
theorem rb252_184 {n : Nat} {h0 : zH} (hl : Fx h0) {q3 : Int32 → Int32 → Int32 → Int32 → zX → Option (Int32 × zX)} {r3 : Nat → Int32 → Int32 → Int32 → Int32 → zH → Option (Int32 × zH)} {q184 : Int32 → Int32 → Int32 → Int32 → Int32 → Int32 → Int32 → Int32 → zX → Option (Int32 × zX)} {r184 : Nat → Int32 → Int32 → Int32 → Int32 → Int32 → Int32 → Int32 → Int32 → zH → Option (Int32 × zH)} (hr3 : ∀ {l1 : Int32} {l2 : Int32} {l3 : Int32} {l4 : Int32} {X : zX} {p : Int32 × zX}, q3 l1 l2 l3 l4 X = some p → r3 159 l1 l2 l3 l4 (mq h0 X) = some (p.1, mq h0 p.2)) (hr184 : ∀ {l1 : Int32} {l2 : Int32} {l3 : Int32} {l4 : Int32} {l5 : Int32} {l6 : Int32} {l7 : Int32} {l8 : Int32} {X : zX} {p : Int32 × zX}, q184 l1 l2 l3 l4 l5 l6 l7 l8 X = some p → r184 159 l1 l2 l3 l4 l5 l6 l7 l8 (mq h0 X) = some (p.1, mq h0 p.2)) {l1 : Int32} {l2 : Int32} {l3 : Int32} {l4 : Int32} {l5 : Int32} {l6 : Int32} {l7 : Int32} {l8 : Int32} {X : zX} {p : Int32 × zX} (hG : gb252_184 n q3 q184 l1 l2 l3 l4 l5 l6 l7 l8 X = some p) : b252_184 n r3 r184 159 l1 l2 l3 l4 l5 l6 l7 l8 (mq h0 X) = some (p.1, mq h0 p.2) := by
  unfold gb252_184 at hG
  unfold b252_184
  by_cases c1 : l8 = (-1)
  · rw [if_pos c1] at hG
    refine (if_pos c1).trans ?_
    exact rb252_308 hl hr3 hG
  · rw [if_neg c1] at hG
    refine (if_neg c1).trans ?_
    by_cases c2 : l7 = 0
    · rw [if_pos c2] at hG
      refine (if_pos c2).trans ?_
      refine bnd_eq (mgR_82 hl) ?_
      refine bnd_eq rfl ?_
      replace hG := zbnd hG
      obtain ⟨x4, e5, hG⟩ := hG
      refine bnd_eq (m_aB hl (i := 68) (by decide) rfl e5) ?_
      by_cases c6 : x4 = 0
      · rw [if_pos c6] at hG
        refine (if_pos c6).trans ?_
        exact rb252_210 hl hr3 hr184 hG
      · rw [if_neg c6] at hG
        refine (if_neg c6).trans ?_
        exact rb252_205 hl hr3 hr184 hG
    · rw [if_neg c2] at hG
      refine (if_neg c2).trans ?_
      exact rb252_205 hl hr3 hr184 hG
def gf252_184 (n : Nat) (q3 : Int32 → Int32 → Int32 → Int32 → zX → Option (Int32 × zX)) (k : Nat) : Int32 → Int32 → Int32 → Int32 → Int32 → Int32 → Int32 → Int32 → zX → Option (Int32 × zX) := Nat.rec (fun _ _ _ _ _ _ _ _ _ => none) (fun _ ih => gb252_184 n q3 ih) k
theorem rf252_184 {n : Nat} {h0 : zH} (hl : Fx h0) {q3 : Int32 → Int32 → Int32 → Int32 → zX → Option (Int32 × zX)} {r3 : Nat → Int32 → Int32 → Int32 → Int32 → zH → Option (Int32 × zH)} (hr3 : ∀ {l1 : Int32} {l2 : Int32} {l3 : Int32} {l4 : Int32} {X : zX} {p : Int32 × zX}, q3 l1 l2 l3 l4 X = some p → r3 159 l1 l2 l3 l4 (mq h0 X) = some (p.1, mq h0 p.2)) (k : Nat) : ∀ {l1 : Int32} {l2 : Int32} {l3 : Int32} {l4 : Int32} {l5 : Int32} {l6 : Int32} {l7 : Int32} {l8 : Int32} {X : zX} {p : Int32 × zX}, gf252_184 n q3 k l1 l2 l3 l4 l5 l6 l7 l8 X = some p → f252_184 n r3 k 159 l1 l2 l3 l4 l5 l6 l7 l8 (mq h0 X) = some (p.1, mq h0 p.2) := by
  induction k with
  | zero => intros; rename_i hG; cases hG
  | succ k ih => intros; rename_i hG; exact rb252_184 (n := n) hl hr3 ih hG
def gb252_274 (n : Nat) (q3 : Int32 → Int32 → Int32 → Int32 → zX → Option (Int32 × zX)) (q248 : Int32 → Int32 → Int32 → Int32 → Int32 → Int32 → Int32 → Int32 → zX → Option (Int32 × zX)) (l1 : Int32) (l2 : Int32) (l3 : Int32) (l4 : Int32) (l5 : Int32) (l6 : Int32) (l7 : Int32) (l8 : Int32) (s0 : Int32) (X : zX) : Option (Int32 × zX) :=
  (rd (X.2.2 56) ((400 * (X.1 3)) + l8)).bind fun x2 =>
  q248 l1 l2 l3 l4 l5 l6 s0 x2 X
set_option maxRecDepth 20000 in
theorem rb252_274 {n : Nat} {h0 : zH} (hl : Fx h0) {q3 : Int32 → Int32 → Int32 → Int32 → zX → Option (Int32 × zX)} {r3 : Nat → Int32 → Int32 → Int32 → Int32 → zH → Option (Int32 × zH)} {q248 : Int32 → Int32 → Int32 → Int32 → Int32 → Int32 → Int32 → Int32 → zX → Option (Int32 × zX)} {r248 : Nat → Int32 → Int32 → Int32 → Int32 → Int32 → Int32 → Int32 → Int32 → zH → Option (Int32 × zH)} (hr3 : ∀ {l1 : Int32} {l2 : Int32} {l3 : Int32} {l4 : Int32} {X : zX} {p : Int32 × zX}, q3 l1 l2 l3 l4 X = some p → r3 159 l1 l2 l3 l4 (mq h0 X) = some (p.1, mq h0 p.2)) (hr248 : ∀ {l1 : Int32} {l2 : Int32} {l3 : Int32} {l4 : Int32} {l5 : Int32} {l6 : Int32} {l7 : Int32} {l8 : Int32} {X : zX} {p : Int32 × zX}, q248 l1 l2 l3 l4 l5 l6 l7 l8 X = some p → r248 159 l1 l2 l3 l4 l5 l6 l7 l8 (mq h0 X) = some (p.1, mq h0 p.2)) {l1 : Int32} {l2 : Int32} {l3 : Int32} {l4 : Int32} {l5 : Int32} {l6 : Int32} {l7 : Int32} {l8 : Int32} {s0 : Int32} {X : zX} {p : Int32 × zX} (hG : gb252_274 n q3 q248 l1 l2 l3 l4 l5 l6 l7 l8 s0 X = some p) : b252_274 n r3 r248 159 l1 l2 l3 l4 l5 l6 l7 l8 s0 (mq h0 X) = some (p.1, mq h0 p.2) := by
  unfold gb252_274 at hG
  unfold b252_274
  refine bnd_eq (mgR_60 hl) ?_
  refine bnd_eq (mgI_3 hl) ?_
  refine bnd_eq rfl ?_
  replace hG := zbnd hG
  obtain ⟨x2, e3, hG⟩ := hG
  refine bnd_eq (m_aI hl (i := 56) (by decide) rfl e3) ?_
  exact hr248 hG
def gb252_273 (n : Nat) (q3 : Int32 → Int32 → Int32 → Int32 → zX → Option (Int32 × zX)) (q248 : Int32 → Int32 → Int32 → Int32 → Int32 → Int32 → Int32 → Int32 → zX → Option (Int32 × zX)) (l1 : Int32) (l2 : Int32) (l3 : Int32) (l4 : Int32) (l5 : Int32) (l6 : Int32) (l7 : Int32) (l8 : Int32) (X : zX) : Option (Int32 × zX) :=
  gb252_274 n q3 q248 l1 l2 l3 l4 l5 l6 l7 l8 0 X
set_option maxRecDepth 20000 in
theorem rb252_273 {n : Nat} {h0 : zH} (hl : Fx h0) {q3 : Int32 → Int32 → Int32 → Int32 → zX → Option (Int32 × zX)} {r3 : Nat → Int32 → Int32 → Int32 → Int32 → zH → Option (Int32 × zH)} {q248 : Int32 → Int32 → Int32 → Int32 → Int32 → Int32 → Int32 → Int32 → zX → Option (Int32 × zX)} {r248 : Nat → Int32 → Int32 → Int32 → Int32 → Int32 → Int32 → Int32 → Int32 → zH → Option (Int32 × zH)} (hr3 : ∀ {l1 : Int32} {l2 : Int32} {l3 : Int32} {l4 : Int32} {X : zX} {p : Int32 × zX}, q3 l1 l2 l3 l4 X = some p → r3 159 l1 l2 l3 l4 (mq h0 X) = some (p.1, mq h0 p.2)) (hr248 : ∀ {l1 : Int32} {l2 : Int32} {l3 : Int32} {l4 : Int32} {l5 : Int32} {l6 : Int32} {l7 : Int32} {l8 : Int32} {X : zX} {p : Int32 × zX}, q248 l1 l2 l3 l4 l5 l6 l7 l8 X = some p → r248 159 l1 l2 l3 l4 l5 l6 l7 l8 (mq h0 X) = some (p.1, mq h0 p.2)) {l1 : Int32} {l2 : Int32} {l3 : Int32} {l4 : Int32} {l5 : Int32} {l6 : Int32} {l7 : Int32} {l8 : Int32} {X : zX} {p : Int32 × zX} (hG : gb252_273 n q3 q248 l1 l2 l3 l4 l5 l6 l7 l8 X = some p) : b252_273 n r3 r248 159 l1 l2 l3 l4 l5 l6 l7 l8 (mq h0 X) = some (p.1, mq h0 p.2) := by
  unfold gb252_273 at hG
  unfold b252_273
  exact rb252_274 hl hr3 hr248 hG
def gb252_248 (n : Nat) (q3 : Int32 → Int32 → Int32 → Int32 → zX → Option (Int32 × zX)) (q248 : Int32 → Int32 → Int32 → Int32 → Int32 → Int32 → Int32 → Int32 → zX → Option (Int32 × zX)) (l1 : Int32) (l2 : Int32) (l3 : Int32) (l4 : Int32) (l5 : Int32) (l6 : Int32) (l7 : Int32) (l8 : Int32) (X : zX) : Option (Int32 × zX) :=
  if l8 = (-1) then
    gb252_308 n q3 l1 l2 l3 l4 l5 l6 l7 X
  else
    if l7 = 0 then
      gb252_273 n q3 q248 l1 l2 l3 l4 l5 l6 l7 l8 X
    else
      (rd (X.2.2 68) l8).bind fun x4 =>
      if x4 = 0 then
        gb252_273 n q3 q248 l1 l2 l3 l4 l5 l6 l7 l8 X
      else
        gb252_274 n q3 q248 l1 l2 l3 l4 l5 l6 l7 l8 1 X
set_option maxRecDepth 20000 in
theorem rb252_248 {n : Nat} {h0 : zH} (hl : Fx h0) {q3 : Int32 → Int32 → Int32 → Int32 → zX → Option (Int32 × zX)} {r3 : Nat → Int32 → Int32 → Int32 → Int32 → zH → Option (Int32 × zH)} {q248 : Int32 → Int32 → Int32 → Int32 → Int32 → Int32 → Int32 → Int32 → zX → Option (Int32 × zX)} {r248 : Nat → Int32 → Int32 → Int32 → Int32 → Int32 → Int32 → Int32 → Int32 → zH → Option (Int32 × zH)} (hr3 : ∀ {l1 : Int32} {l2 : Int32} {l3 : Int32} {l4 : Int32} {X : zX} {p : Int32 × zX}, q3 l1 l2 l3 l4 X = some p → r3 159 l1 l2 l3 l4 (mq h0 X) = some (p.1, mq h0 p.2)) (hr248 : ∀ {l1 : Int32} {l2 : Int32} {l3 : Int32} {l4 : Int32} {l5 : Int32} {l6 : Int32} {l7 : Int32} {l8 : Int32} {X : zX} {p : Int32 × zX}, q248 l1 l2 l3 l4 l5 l6 l7 l8 X = some p → r248 159 l1 l2 l3 l4 l5 l6 l7 l8 (mq h0 X) = some (p.1, mq h0 p.2)) {l1 : Int32} {l2 : Int32} {l3 : Int32} {l4 : Int32} {l5 : Int32} {l6 : Int32} {l7 : Int32} {l8 : Int32} {X : zX} {p : Int32 × zX} (hG : gb252_248 n q3 q248 l1 l2 l3 l4 l5 l6 l7 l8 X = some p) : b252_248 n r3 r248 159 l1 l2 l3 l4 l5 l6 l7 l8 (mq h0 X) = some (p.1, mq h0 p.2) := by
  unfold gb252_248 at hG
  unfold b252_248
  by_cases c1 : l8 = (-1)
  · rw [if_pos c1] at hG
    refine (if_pos c1).trans ?_
    exact rb252_308 hl hr3 hG
  · rw [if_neg c1] at hG
    refine (if_neg c1).trans ?_
    by_cases c2 : l7 = 0
    · rw [if_pos c2] at hG
      refine (if_pos c2).trans ?_
      exact rb252_273 hl hr3 hr248 hG
    · rw [if_neg c2] at hG
      refine (if_neg c2).trans ?_
      refine bnd_eq (mgR_82 hl) ?_
      refine bnd_eq rfl ?_
      replace hG := zbnd hG
      obtain ⟨x4, e5, hG⟩ := hG
      refine bnd_eq (m_aB hl (i := 68) (by decide) rfl e5) ?_
      by_cases c6 : x4 = 0
      · rw [if_pos c6] at hG
        refine (if_pos c6).trans ?_
        exact rb252_273 hl hr3 hr248 hG
      · rw [if_neg c6] at hG
        refine (if_neg c6).trans ?_
        exact rb252_274 hl hr3 hr248 hG
def gf252_248 (n : Nat) (q3 : Int32 → Int32 → Int32 → Int32 → zX → Option (Int32 × zX)) (k : Nat) : Int32 → Int32 → Int32 → Int32 → Int32 → Int32 → Int32 → Int32 → zX → Option (Int32 × zX) := Nat.rec (fun _ _ _ _ _ _ _ _ _ => none) (fun _ ih => gb252_248 n q3 ih) k
theorem rf252_248 {n : Nat} {h0 : zH} (hl : Fx h0) {q3 : Int32 → Int32 → Int32 → Int32 → zX → Option (Int32 × zX)} {r3 : Nat → Int32 → Int32 → Int32 → Int32 → zH → Option (Int32 × zH)} (hr3 : ∀ {l1 : Int32} {l2 : Int32} {l3 : Int32} {l4 : Int32} {X : zX} {p : Int32 × zX}, q3 l1 l2 l3 l4 X = some p → r3 159 l1 l2 l3 l4 (mq h0 X) = some (p.1, mq h0 p.2)) (k : Nat) : ∀ {l1 : Int32} {l2 : Int32} {l3 : Int32} {l4 : Int32} {l5 : Int32} {l6 : Int32} {l7 : Int32} {l8 : Int32} {X : zX} {p : Int32 × zX}, gf252_248 n q3 k l1 l2 l3 l4 l5 l6 l7 l8 X = some p → f252_248 n r3 k 159 l1 l2 l3 l4 l5 l6 l7 l8 (mq h0 X) = some (p.1, mq h0 p.2) := by
  induction k with
  | zero => intros; rename_i hG; cases hG
  | succ k ih => intros; rename_i hG; exact rb252_248 (n := n) hl hr3 ih hG
def gb252_3 (n : Nat) (q3 : Int32 → Int32 → Int32 → Int32 → zX → Option (Int32 × zX)) (l1 : Int32) (l2 : Int32) (l3 : Int32) (l4 : Int32) (X : zX) : Option (Int32 × zX) :=
  if l3 ≤ l4 then
    (rd (X.2.2 68) l1).bind fun x3 =>
    zgd (zrtn .boolean x3) <|
    some (x3, X)
  else
    (rd (X.2.2 57) ((400 * (X.1 3)) + l4)).bind fun x7 =>
    (rd (X.2.2 50) ((400 * (X.1 3)) + x7)).bind fun x10 =>
    if x10 = 0 then
      gb252_308 n q3 l1 l2 l3 l4 x7 ((400 * (X.1 3)) + x7) 1 X
    else
    if x10 = 1 then
      gb252_308 n q3 l1 l2 l3 l4 x7 ((400 * (X.1 3)) + x7) 0 X
    else
    if x10 = 2 then
      (rd (X.2.2 51) ((400 * (X.1 3)) + x7)).bind fun x17 =>
      (rd (X.2.2 69) x17).bind fun x19 =>
      gb252_308 n q3 l1 l2 l3 l4 x7 ((400 * (X.1 3)) + x7) x19 X
    else
    if x10 = 3 then
      (g253 n ((400 * (X.1 3)) + x7) X).bind fun p22 =>
      gb252_308 n q3 l1 l2 l3 l4 x7 ((400 * (X.1 3)) + x7) p22.1 p22.2
    else
    if x10 = 4 then
      (g253 n ((400 * (X.1 3)) + x7) X).bind fun p25 =>
      gb252_308 n q3 l1 l2 l3 l4 x7 ((400 * (X.1 3)) + x7) p25.1 p25.2
    else
    if x10 = 5 then
      (g253 n ((400 * (X.1 3)) + x7) X).bind fun p28 =>
      gb252_308 n q3 l1 l2 l3 l4 x7 ((400 * (X.1 3)) + x7) p28.1 p28.2
    else
    if x10 = 6 then
      (g253 n ((400 * (X.1 3)) + x7) X).bind fun p31 =>
      gb252_308 n q3 l1 l2 l3 l4 x7 ((400 * (X.1 3)) + x7) p31.1 p31.2
    else
    if x10 = 7 then
      (g253 n ((400 * (X.1 3)) + x7) X).bind fun p34 =>
      gb252_308 n q3 l1 l2 l3 l4 x7 ((400 * (X.1 3)) + x7) p34.1 p34.2
    else
    if x10 = 8 then
      (g253 n ((400 * (X.1 3)) + x7) X).bind fun p37 =>
      gb252_308 n q3 l1 l2 l3 l4 x7 ((400 * (X.1 3)) + x7) p37.1 p37.2
    else
    if x10 = 9 then
      (g253 n ((400 * (X.1 3)) + x7) X).bind fun p40 =>
      gb252_308 n q3 l1 l2 l3 l4 x7 ((400 * (X.1 3)) + x7) p40.1 p40.2
    else
    if x10 = 10 then
      (g253 n ((400 * (X.1 3)) + x7) X).bind fun p43 =>
      gb252_308 n q3 l1 l2 l3 l4 x7 ((400 * (X.1 3)) + x7) p43.1 p43.2
    else
    if x10 = 11 then
      (g253 n ((400 * (X.1 3)) + x7) X).bind fun p46 =>
      gb252_308 n q3 l1 l2 l3 l4 x7 ((400 * (X.1 3)) + x7) p46.1 p46.2
    else
    if x10 = 12 then
      (rd (X.2.2 55) ((400 * (X.1 3)) + x7)).bind fun x51 =>
      (rd (X.2.2 68) x51).bind fun x53 =>
      if x53 = 0 then
        gb252_170 n q3 l1 l2 l3 l4 x7 ((400 * (X.1 3)) + x7) 0 1 X
      else
        gb252_170 n q3 l1 l2 l3 l4 x7 ((400 * (X.1 3)) + x7) 0 0 X
    else
    if x10 = 13 then
      (rd (X.2.2 55) ((400 * (X.1 3)) + x7)).bind fun x58 =>
      gf252_184 n q3 n l1 l2 l3 l4 x7 ((400 * (X.1 3)) + x7) 0 x58 X
    else
    if x10 = 14 then
      (rd (X.2.2 55) ((400 * (X.1 3)) + x7)).bind fun x62 =>
      gf252_248 n q3 n l1 l2 l3 l4 x7 ((400 * (X.1 3)) + x7) 1 x62 X
    else
    (g253 n ((400 * (X.1 3)) + x7) X).bind fun p64 =>
    gb252_308 n q3 l1 l2 l3 l4 x7 ((400 * (X.1 3)) + x7) p64.1 p64.2
set_option maxRecDepth 20000 in
theorem rb252_3 {n : Nat} {h0 : zH} (hl : Fx h0) {q3 : Int32 → Int32 → Int32 → Int32 → zX → Option (Int32 × zX)} {r3 : Nat → Int32 → Int32 → Int32 → Int32 → zH → Option (Int32 × zH)} (hr3 : ∀ {l1 : Int32} {l2 : Int32} {l3 : Int32} {l4 : Int32} {X : zX} {p : Int32 × zX}, q3 l1 l2 l3 l4 X = some p → r3 159 l1 l2 l3 l4 (mq h0 X) = some (p.1, mq h0 p.2)) {l1 : Int32} {l2 : Int32} {l3 : Int32} {l4 : Int32} {X : zX} {p : Int32 × zX} (hG : gb252_3 n q3 l1 l2 l3 l4 X = some p) : b252_3 n r3 159 l1 l2 l3 l4 (mq h0 X) = some (p.1, mq h0 p.2) := by
  unfold gb252_3 at hG
  unfold b252_3
  by_cases c1 : l3 ≤ l4
  · rw [if_pos c1] at hG
    refine (if_pos c1).trans ?_
    refine bnd_eq (mgR_82 hl) ?_
    refine bnd_eq rfl ?_
    replace hG := zbnd hG
    obtain ⟨x3, e4, hG⟩ := hG
    refine bnd_eq (m_aB hl (i := 68) (by decide) rfl e4) ?_
    replace hG := zgd_some hG
    obtain ⟨g5, hG⟩ := hG
    refine zgd_eq g5 ?_
    replace hG := Option.some.inj hG
    subst hG
    rfl
  · rw [if_neg c1] at hG
    refine (if_neg c1).trans ?_
    refine bnd_eq (mgR_61 hl) ?_
    refine bnd_eq (mgI_3 hl) ?_
    refine bnd_eq rfl ?_
    replace hG := zbnd hG
    obtain ⟨x7, e8, hG⟩ := hG
    refine bnd_eq (m_aI hl (i := 57) (by decide) rfl e8) ?_
    refine bnd_eq (mgI_3 hl) ?_
    refine bnd_eq (mgR_54 hl) ?_
    refine bnd_eq rfl ?_
    replace hG := zbnd hG
    obtain ⟨x10, e11, hG⟩ := hG
    refine bnd_eq (m_aI hl (i := 50) (by decide) rfl e11) ?_
    by_cases c12 : x10 = 0
    · rw [if_pos c12] at hG
      refine (if_pos c12).trans ?_
      exact rb252_308 hl hr3 hG
    rw [if_neg c12] at hG
    refine (if_neg c12).trans ?_
    by_cases c13 : x10 = 1
    · rw [if_pos c13] at hG
      refine (if_pos c13).trans ?_
      exact rb252_308 hl hr3 hG
    rw [if_neg c13] at hG
    refine (if_neg c13).trans ?_
    by_cases c14 : x10 = 2
    · rw [if_pos c14] at hG
      refine (if_pos c14).trans ?_
      refine bnd_eq (mgR_83 hl) ?_
      refine bnd_eq (mgR_55 hl) ?_
      refine bnd_eq rfl ?_
      replace hG := zbnd hG
      obtain ⟨x17, e18, hG⟩ := hG
      refine bnd_eq (m_aI hl (i := 51) (by decide) rfl e18) ?_
      refine bnd_eq rfl ?_
      replace hG := zbnd hG
      obtain ⟨x19, e20, hG⟩ := hG
      refine bnd_eq (m_aB hl (i := 69) (by decide) rfl e20) ?_
      exact rb252_308 hl hr3 hG
    rw [if_neg c14] at hG
    refine (if_neg c14).trans ?_
    by_cases c21 : x10 = 3
    · rw [if_pos c21] at hG
      refine (if_pos c21).trans ?_
      refine zgd_eq (m_isO hl) ?_
      replace hG := zbnd hG
      obtain ⟨p22, e23, hG⟩ := hG
      refine bnd_eq (r253 hl e23) ?_
      exact rb252_308 hl hr3 hG
    rw [if_neg c21] at hG
    refine (if_neg c21).trans ?_
    by_cases c24 : x10 = 4
    · rw [if_pos c24] at hG
      refine (if_pos c24).trans ?_
      refine zgd_eq (m_isO hl) ?_
      replace hG := zbnd hG
      obtain ⟨p25, e26, hG⟩ := hG
      refine bnd_eq (r253 hl e26) ?_
      exact rb252_308 hl hr3 hG
    rw [if_neg c24] at hG
    refine (if_neg c24).trans ?_
    by_cases c27 : x10 = 5
    · rw [if_pos c27] at hG
      refine (if_pos c27).trans ?_
      refine zgd_eq (m_isO hl) ?_
      replace hG := zbnd hG
      obtain ⟨p28, e29, hG⟩ := hG
      refine bnd_eq (r253 hl e29) ?_
      exact rb252_308 hl hr3 hG
    rw [if_neg c27] at hG
    refine (if_neg c27).trans ?_
    by_cases c30 : x10 = 6
    · rw [if_pos c30] at hG
      refine (if_pos c30).trans ?_
      refine zgd_eq (m_isO hl) ?_
      replace hG := zbnd hG
      obtain ⟨p31, e32, hG⟩ := hG
      refine bnd_eq (r253 hl e32) ?_
      exact rb252_308 hl hr3 hG
    rw [if_neg c30] at hG
    refine (if_neg c30).trans ?_
    by_cases c33 : x10 = 7
    · rw [if_pos c33] at hG
      refine (if_pos c33).trans ?_
      refine zgd_eq (m_isO hl) ?_
      replace hG := zbnd hG
      obtain ⟨p34, e35, hG⟩ := hG
      refine bnd_eq (r253 hl e35) ?_
      exact rb252_308 hl hr3 hG
    rw [if_neg c33] at hG
    refine (if_neg c33).trans ?_
    by_cases c36 : x10 = 8
    · rw [if_pos c36] at hG
      refine (if_pos c36).trans ?_
      refine zgd_eq (m_isO hl) ?_
      replace hG := zbnd hG
      obtain ⟨p37, e38, hG⟩ := hG
      refine bnd_eq (r253 hl e38) ?_
      exact rb252_308 hl hr3 hG
    rw [if_neg c36] at hG
    refine (if_neg c36).trans ?_
    by_cases c39 : x10 = 9
    · rw [if_pos c39] at hG
      refine (if_pos c39).trans ?_
      refine zgd_eq (m_isO hl) ?_
      replace hG := zbnd hG
      obtain ⟨p40, e41, hG⟩ := hG
      refine bnd_eq (r253 hl e41) ?_
      exact rb252_308 hl hr3 hG
    rw [if_neg c39] at hG
    refine (if_neg c39).trans ?_
    by_cases c42 : x10 = 10
    · rw [if_pos c42] at hG
      refine (if_pos c42).trans ?_
      refine zgd_eq (m_isO hl) ?_
      replace hG := zbnd hG
      obtain ⟨p43, e44, hG⟩ := hG
      refine bnd_eq (r253 hl e44) ?_
      exact rb252_308 hl hr3 hG
    rw [if_neg c42] at hG
    refine (if_neg c42).trans ?_
    by_cases c45 : x10 = 11
    · rw [if_pos c45] at hG
      refine (if_pos c45).trans ?_
      refine zgd_eq (m_isO hl) ?_
      replace hG := zbnd hG
      obtain ⟨p46, e47, hG⟩ := hG
      refine bnd_eq (r253 hl e47) ?_
      exact rb252_308 hl hr3 hG
    rw [if_neg c45] at hG
    refine (if_neg c45).trans ?_
    by_cases c48 : x10 = 12
    · rw [if_pos c48] at hG
      refine (if_pos c48).trans ?_
      refine bnd_eq (mgR_82 hl) ?_
      refine bnd_eq (mgR_59 hl) ?_
      refine bnd_eq rfl ?_
      replace hG := zbnd hG
      obtain ⟨x51, e52, hG⟩ := hG
      refine bnd_eq (m_aI hl (i := 55) (by decide) rfl e52) ?_
      refine bnd_eq rfl ?_
      replace hG := zbnd hG
      obtain ⟨x53, e54, hG⟩ := hG
      refine bnd_eq (m_aB hl (i := 68) (by decide) rfl e54) ?_
      by_cases c55 : x53 = 0
      · rw [if_pos c55] at hG
        refine (if_pos c55).trans ?_
        exact rb252_170 hl hr3 hG
      · rw [if_neg c55] at hG
        refine (if_neg c55).trans ?_
        exact rb252_170 hl hr3 hG
    rw [if_neg c48] at hG
    refine (if_neg c48).trans ?_
    by_cases c56 : x10 = 13
    · rw [if_pos c56] at hG
      refine (if_pos c56).trans ?_
      refine bnd_eq (mgR_59 hl) ?_
      refine bnd_eq rfl ?_
      replace hG := zbnd hG
      obtain ⟨x58, e59, hG⟩ := hG
      refine bnd_eq (m_aI hl (i := 55) (by decide) rfl e59) ?_
      exact rf252_184 hl hr3 n hG
    rw [if_neg c56] at hG
    refine (if_neg c56).trans ?_
    by_cases c60 : x10 = 14
    · rw [if_pos c60] at hG
      refine (if_pos c60).trans ?_
      refine bnd_eq (mgR_59 hl) ?_
      refine bnd_eq rfl ?_
      replace hG := zbnd hG
      obtain ⟨x62, e63, hG⟩ := hG
      refine bnd_eq (m_aI hl (i := 55) (by decide) rfl e63) ?_
      exact rf252_248 hl hr3 n hG
    rw [if_neg c60] at hG
    refine (if_neg c60).trans ?_
    refine zgd_eq (m_isO hl) ?_
    replace hG := zbnd hG
    obtain ⟨p64, e65, hG⟩ := hG
    refine bnd_eq (r253 hl e65) ?_
    exact rb252_308 hl hr3 hG
def gf252_3 (n : Nat)  (k : Nat) : Int32 → Int32 → Int32 → Int32 → zX → Option (Int32 × zX) := Nat.rec (fun _ _ _ _ _ => none) (fun _ ih => gb252_3 n ih) k
theorem rf252_3 {n : Nat} {h0 : zH} (hl : Fx h0)   (k : Nat) : ∀ {l1 : Int32} {l2 : Int32} {l3 : Int32} {l4 : Int32} {X : zX} {p : Int32 × zX}, gf252_3 n  k l1 l2 l3 l4 X = some p → f252_3 n  k 159 l1 l2 l3 l4 (mq h0 X) = some (p.1, mq h0 p.2) := by
  induction k with
  | zero => intros; rename_i hG; cases hG
  | succ k ih => intros; rename_i hG; exact rb252_3 (n := n) hl ih hG
def g252 (n : Nat) (y1 : Int32) (y2 : Int32) (y3 : Int32) (X : zX) : Option (Int32 × zX) :=
  gf252_3 n  n y1 y2 y3 y2 X
set_option maxRecDepth 20000 in
theorem r252 {n : Nat} {h0 : zH} (hl : Fx h0) {y1 : Int32} {y2 : Int32} {y3 : Int32} {X : zX} {p : Int32 × zX} (hG : g252 n y1 y2 y3 X = some p) : f252 n 159 y1 y2 y3 (mq h0 X) = some (p.1, mq h0 p.2) := by
  unfold g252 at hG
  unfold f252
  exact rf252_3 hl  n hG
def gb251_2 (n : Nat) (q2 : Int32 → zX → Option (Unit × zX)) (l1 : Int32) (X : zX) : Option (Unit × zX) :=
  (rd (X.2.2 4) (X.1 3)).bind fun x2 =>
  if x2 ≤ l1 then
    some ((), X)
  else
    (rd (X.2.2 6) ((12 * (X.1 3)) + l1)).bind fun x7 =>
    (rd (X.2.2 7) ((12 * (X.1 3)) + l1)).bind fun x10 =>
    (rd (X.2.2 8) ((12 * (X.1 3)) + l1)).bind fun x13 =>
    (g252 n x7 x10 x13 X).bind fun p15 =>
    (wr p15.2 69 l1 (p15.1 &&& 1)).bind fun X17 =>
    q2 (l1 + 1) X17
set_option maxRecDepth 20000 in
theorem rb251_2 {n : Nat} {h0 : zH} (hl : Fx h0) {q2 : Int32 → zX → Option (Unit × zX)} {r2 : Nat → Int32 → zH → Option (Unit × zH)} (hr2 : ∀ {l1 : Int32} {X : zX} {p : Unit × zX}, q2 l1 X = some p → r2 159 l1 (mq h0 X) = some (p.1, mq h0 p.2)) {l1 : Int32} {X : zX} {p : Unit × zX} (hG : gb251_2 n q2 l1 X = some p) : b251_2 n r2 159 l1 (mq h0 X) = some (p.1, mq h0 p.2) := by
  unfold gb251_2 at hG
  unfold b251_2
  refine bnd_eq (mgR_8 hl) ?_
  refine bnd_eq (mgI_3 hl) ?_
  refine bnd_eq rfl ?_
  replace hG := zbnd hG
  obtain ⟨x2, e3, hG⟩ := hG
  refine bnd_eq (m_aI hl (i := 4) (by decide) rfl e3) ?_
  by_cases c4 : x2 ≤ l1
  · rw [if_pos c4] at hG
    refine (if_pos c4).trans ?_
    replace hG := Option.some.inj hG
    subst hG
    rfl
  · rw [if_neg c4] at hG
    refine (if_neg c4).trans ?_
    refine bnd_eq (mgI_3 hl) ?_
    refine bnd_eq (mgR_83 hl) ?_
    refine bnd_eq (mgR_10 hl) ?_
    refine bnd_eq rfl ?_
    replace hG := zbnd hG
    obtain ⟨x7, e8, hG⟩ := hG
    refine bnd_eq (m_aI hl (i := 6) (by decide) rfl e8) ?_
    refine bnd_eq (mgR_11 hl) ?_
    refine bnd_eq rfl ?_
    replace hG := zbnd hG
    obtain ⟨x10, e11, hG⟩ := hG
    refine bnd_eq (m_aI hl (i := 7) (by decide) rfl e11) ?_
    refine bnd_eq (mgR_12 hl) ?_
    refine bnd_eq rfl ?_
    replace hG := zbnd hG
    obtain ⟨x13, e14, hG⟩ := hG
    refine bnd_eq (m_aI hl (i := 8) (by decide) rfl e14) ?_
    refine zgd_eq (m_isO hl) ?_
    replace hG := zbnd hG
    obtain ⟨p15, e16, hG⟩ := hG
    refine bnd_eq (r252 hl e16) ?_
    refine bnd_eq rfl ?_
    replace hG := zbnd hG
    obtain ⟨X17, e18, hG⟩ := hG
    refine bnd_eq (m_sZ hl (i := 69) (by decide) rfl e18) ?_
    exact hr2 hG
def gf251_2 (n : Nat)  (k : Nat) : Int32 → zX → Option (Unit × zX) := Nat.rec (fun _ _ => none) (fun _ ih => gb251_2 n ih) k
theorem rf251_2 {n : Nat} {h0 : zH} (hl : Fx h0)   (k : Nat) : ∀ {l1 : Int32} {X : zX} {p : Unit × zX}, gf251_2 n  k l1 X = some p → f251_2 n  k 159 l1 (mq h0 X) = some (p.1, mq h0 p.2) := by
  induction k with
  | zero => intros; rename_i hG; cases hG
  | succ k ih => intros; rename_i hG; exact rb251_2 (n := n) hl ih hG
def g251 (n : Nat)  (X : zX) : Option (Unit × zX) :=
  gf251_2 n  n 0 X
set_option maxRecDepth 20000 in
theorem r251 {n : Nat} {h0 : zH} (hl : Fx h0)  {X : zX} {p : Unit × zX} (hG : g251 n  X = some p) : f251 n 159 (mq h0 X) = some (p.1, mq h0 p.2) := by
  unfold g251 at hG
  unfold f251
  exact rf251_2 hl  n hG
end ZREF

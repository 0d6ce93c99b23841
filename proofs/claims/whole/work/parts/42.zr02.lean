/-! THE REFERENCE OVER ITS MEMORY, 2 (written by a program of the verifier's) -/
section ZREF
def g228 (n : Nat) (y1 : Nat) (X : zX) : Option (Unit × zX) :=
  (g213 n y1 X).bind fun p1 =>
  (g200 n p1.1 p1.2).bind fun p3 =>
  (g190 n  p3.2).bind fun p5 =>
  some ((), p5.2)
set_option maxRecDepth 20000 in
theorem r228 {n : Nat} {h0 : zH} (hl : Fx h0) {y1 : Nat} {X : zX} {p : Unit × zX} (hG : g228 n y1 X = some p) : f228 n 159 (some y1) (mq h0 X) = some (p.1, mq h0 p.2) := by
  unfold g228 at hG
  unfold f228
  refine zgd_eq (m_isO hl) ?_
  replace hG := zbnd hG
  obtain ⟨p1, e2, hG⟩ := hG
  refine bnd_eq (r213 hl e2) ?_
  refine zgd_eq (m_isO hl) ?_
  replace hG := zbnd hG
  obtain ⟨p3, e4, hG⟩ := hG
  refine bnd_eq (r200 hl e4) ?_
  refine zgd_eq (m_isO hl) ?_
  replace hG := zbnd hG
  obtain ⟨p5, e6, hG⟩ := hG
  refine bnd_eq (r190 hl e6) ?_
  replace hG := Option.some.inj hG
  subst hG
  rfl
def gb231_44 (n : Nat)   (X : zX) : Option (Int32 × zX) :=
  some ((X.1 72), X)
set_option maxRecDepth 20000 in
theorem rb231_44 {n : Nat} {h0 : zH} (hl : Fx h0)    {X : zX} {p : Int32 × zX} (hG : gb231_44 n   X = some p) : b231_44 n  159 (mq h0 X) = some (p.1, mq h0 p.2) := by
  unfold gb231_44 at hG
  unfold b231_44
  refine bnd_eq (mgI_72 hl) ?_
  replace hG := Option.some.inj hG
  subst hG
  rfl
def gb231_14 (n : Nat)  (s0 : Int32) (X : zX) : Option (Int32 × zX) :=
  (g200 n s0 X).bind fun p1 =>
  if (p1.2.1 73) = (-1) then
    (g187 n (p1.2.1 72) 0 10000 p1.2).bind fun p4 =>
    if p4.1 = 0 then
      (g195 n 4 p4.2).bind fun p7 =>
      gb231_44 n  p7.2
    else
      gb231_44 n  p4.2
  else
    gb231_44 n  p1.2
set_option maxRecDepth 20000 in
theorem rb231_14 {n : Nat} {h0 : zH} (hl : Fx h0)   {s0 : Int32} {X : zX} {p : Int32 × zX} (hG : gb231_14 n  s0 X = some p) : b231_14 n  159 s0 159 (mq h0 X) = some (p.1, mq h0 p.2) := by
  unfold gb231_14 at hG
  unfold b231_14
  refine zgd_eq (m_isO hl) ?_
  replace hG := zbnd hG
  obtain ⟨p1, e2, hG⟩ := hG
  refine bnd_eq (r200 hl e2) ?_
  refine bnd_eq (mgI_73 hl) ?_
  by_cases c3 : (p1.2.1 73) = (-1)
  · rw [if_pos c3] at hG
    refine (if_pos c3).trans ?_
    refine bnd_eq (mgI_72 hl) ?_
    replace hG := zbnd hG
    obtain ⟨p4, e5, hG⟩ := hG
    refine bnd_eq (r187 hl e5) ?_
    by_cases c6 : p4.1 = 0
    · rw [if_pos c6] at hG
      refine (if_pos c6).trans ?_
      refine zgd_eq (m_isO hl) ?_
      replace hG := zbnd hG
      obtain ⟨p7, e8, hG⟩ := hG
      refine bnd_eq (r195 hl e8) ?_
      exact rb231_44 hl  hG
    · rw [if_neg c6] at hG
      refine (if_neg c6).trans ?_
      exact rb231_44 hl  hG
  · rw [if_neg c3] at hG
    refine (if_neg c3).trans ?_
    exact rb231_44 hl  hG
def g231 (n : Nat)  (X : zX) : Option (Int32 × zX) :=
  if (X.1 69) = 2 then
    gb231_14 n  1 X
  else
    gb231_14 n  0 X
set_option maxRecDepth 20000 in
theorem r231 {n : Nat} {h0 : zH} (hl : Fx h0)  {X : zX} {p : Int32 × zX} (hG : g231 n  X = some p) : f231 n 159 (mq h0 X) = some (p.1, mq h0 p.2) := by
  unfold g231 at hG
  unfold f231
  refine bnd_eq (mgI_69 hl) ?_
  by_cases c1 : (X.1 69) = 2
  · rw [if_pos c1] at hG
    refine (if_pos c1).trans ?_
    exact rb231_14 hl  hG
  · rw [if_neg c1] at hG
    refine (if_neg c1).trans ?_
    exact rb231_14 hl  hG
def gb232_146 (n : Nat)  (l1 : Int32) (l2 : Int32) (X : zX) : Option (Int32 × zX) :=
  (g190 n  X).bind fun p1 =>
  some (l2, p1.2)
set_option maxRecDepth 20000 in
theorem rb232_146 {n : Nat} {h0 : zH} (hl : Fx h0)   {l1 : Int32} {l2 : Int32} {X : zX} {p : Int32 × zX} (hG : gb232_146 n  l1 l2 X = some p) : b232_146 n  159 l1 l2 (mq h0 X) = some (p.1, mq h0 p.2) := by
  unfold gb232_146 at hG
  unfold b232_146
  refine zgd_eq (m_isO hl) ?_
  replace hG := zbnd hG
  obtain ⟨p1, e2, hG⟩ := hG
  refine bnd_eq (r190 hl e2) ?_
  replace hG := Option.some.inj hG
  subst hG
  rfl
def gb232_143 (n : Nat)  (l1 : Int32) (l2 : Int32) (s0 : Int32) (X : zX) : Option (Int32 × zX) :=
  (g200 n s0 X).bind fun p1 =>
  gb232_146 n  l1 l2 p1.2
set_option maxRecDepth 20000 in
theorem rb232_143 {n : Nat} {h0 : zH} (hl : Fx h0)   {l1 : Int32} {l2 : Int32} {s0 : Int32} {X : zX} {p : Int32 × zX} (hG : gb232_143 n  l1 l2 s0 X = some p) : b232_143 n  159 l1 l2 s0 159 (mq h0 X) = some (p.1, mq h0 p.2) := by
  unfold gb232_143 at hG
  unfold b232_143
  refine zgd_eq (m_isO hl) ?_
  replace hG := zbnd hG
  obtain ⟨p1, e2, hG⟩ := hG
  refine bnd_eq (r200 hl e2) ?_
  exact rb232_146 hl  hG
def gb232_131 (n : Nat)  (l1 : Int32) (l2 : Int32) (s0 : Int32) (X : zX) : Option (Int32 × zX) :=
  if s0 = (-1) then
    gb232_143 n  l1 s0 0 X
  else
    gb232_143 n  l1 s0 1 X
set_option maxRecDepth 20000 in
theorem rb232_131 {n : Nat} {h0 : zH} (hl : Fx h0)   {l1 : Int32} {l2 : Int32} {s0 : Int32} {X : zX} {p : Int32 × zX} (hG : gb232_131 n  l1 l2 s0 X = some p) : b232_131 n  159 l1 l2 s0 (mq h0 X) = some (p.1, mq h0 p.2) := by
  unfold gb232_131 at hG
  unfold b232_131
  by_cases c1 : s0 = (-1)
  · rw [if_pos c1] at hG
    refine (if_pos c1).trans ?_
    exact rb232_143 hl  hG
  · rw [if_neg c1] at hG
    refine (if_neg c1).trans ?_
    exact rb232_143 hl  hG
def gb232_83 (n : Nat)  (l1 : Int32) (l2 : Int32) (s0 : Int32) (X : zX) : Option (Int32 × zX) :=
  (g200 n s0 X).bind fun p1 =>
  gb232_146 n  l1 (p1.2.1 72) p1.2
set_option maxRecDepth 20000 in
theorem rb232_83 {n : Nat} {h0 : zH} (hl : Fx h0)   {l1 : Int32} {l2 : Int32} {s0 : Int32} {X : zX} {p : Int32 × zX} (hG : gb232_83 n  l1 l2 s0 X = some p) : b232_83 n  159 l1 l2 s0 159 (mq h0 X) = some (p.1, mq h0 p.2) := by
  unfold gb232_83 at hG
  unfold b232_83
  refine zgd_eq (m_isO hl) ?_
  replace hG := zbnd hG
  obtain ⟨p1, e2, hG⟩ := hG
  refine bnd_eq (r200 hl e2) ?_
  refine bnd_eq (mgI_72 hl) ?_
  exact rb232_146 hl  hG
def gb232_55 (n : Nat)  (l1 : Int32) (l2 : Int32) (s0 : Int32) (X : zX) : Option (Int32 × zX) :=
  gb232_146 n  l1 s0 X
set_option maxRecDepth 20000 in
theorem rb232_55 {n : Nat} {h0 : zH} (hl : Fx h0)   {l1 : Int32} {l2 : Int32} {s0 : Int32} {X : zX} {p : Int32 × zX} (hG : gb232_55 n  l1 l2 s0 X = some p) : b232_55 n  159 l1 l2 s0 (mq h0 X) = some (p.1, mq h0 p.2) := by
  unfold gb232_55 at hG
  unfold b232_55
  exact rb232_146 hl  hG
def gb232_37 (n : Nat)  (l1 : Int32) (l2 : Int32) (s0 : Int32) (X : zX) : Option (Int32 × zX) :=
  (g200 n s0 X).bind fun p1 =>
  (g213 n 83 p1.2).bind fun p3 =>
  if p3.1 = 0 then
    gb232_55 n  l1 l2 0 p3.2
  else
    gb232_55 n  l1 l2 1 p3.2
set_option maxRecDepth 20000 in
theorem rb232_37 {n : Nat} {h0 : zH} (hl : Fx h0)   {l1 : Int32} {l2 : Int32} {s0 : Int32} {X : zX} {p : Int32 × zX} (hG : gb232_37 n  l1 l2 s0 X = some p) : b232_37 n  159 l1 l2 s0 159 (mq h0 X) = some (p.1, mq h0 p.2) := by
  unfold gb232_37 at hG
  unfold b232_37
  refine zgd_eq (m_isO hl) ?_
  replace hG := zbnd hG
  obtain ⟨p1, e2, hG⟩ := hG
  refine bnd_eq (r200 hl e2) ?_
  refine zgd_eq (m_isO hl) ?_
  replace hG := zbnd hG
  obtain ⟨p3, e4, hG⟩ := hG
  refine bnd_eq (r213 hl e4) ?_
  by_cases c5 : p3.1 = 0
  · rw [if_pos c5] at hG
    refine (if_pos c5).trans ?_
    exact rb232_55 hl  hG
  · rw [if_neg c5] at hG
    refine (if_neg c5).trans ?_
    exact rb232_55 hl  hG
def gb232_32 (n : Nat)  (l1 : Int32) (l2 : Int32) (X : zX) : Option (Int32 × zX) :=
  gb232_37 n  l1 l2 1 X
set_option maxRecDepth 20000 in
theorem rb232_32 {n : Nat} {h0 : zH} (hl : Fx h0)   {l1 : Int32} {l2 : Int32} {X : zX} {p : Int32 × zX} (hG : gb232_32 n  l1 l2 X = some p) : b232_32 n  159 l1 l2 159 (mq h0 X) = some (p.1, mq h0 p.2) := by
  unfold gb232_32 at hG
  unfold b232_32
  exact rb232_37 hl  hG
def g232 (n : Nat) (y1 : Int32) (X : zX) : Option (Int32 × zX) :=
  (rd (X.2.2 11) y1).bind fun x2 =>
  if x2 = 0 then
    (g213 n 83 X).bind fun p5 =>
    if p5.1 = 0 then
      (g213 n 85 p5.2).bind fun p8 =>
      if p8.1 = 0 then
        gb232_37 n  y1 0 0 p8.2
      else
        gb232_32 n  y1 0 p8.2
    else
      gb232_32 n  y1 0 p5.2
  else
    (rd (X.2.2 11) y1).bind fun x12 =>
    if x12 = 1 then
      if (X.1 69) = 2 then
        gb232_83 n  y1 0 1 X
      else
        gb232_83 n  y1 0 0 X
    else
      (g203 n  X).bind fun p16 =>
      if p16.1 = 0 then
        gb232_131 n  y1 0 (-1) p16.2
      else
        (rd (p16.2.2.2 12) y1).bind fun x21 =>
        (g204 n 13 (8 * y1) x21 (p16.2.1 70) (p16.2.1 71) p16.2).bind fun p23 =>
        gb232_131 n  y1 0 p23.1 p23.2
set_option maxRecDepth 20000 in
theorem r232 {n : Nat} {h0 : zH} (hl : Fx h0) {y1 : Int32} {X : zX} {p : Int32 × zX} (hG : g232 n y1 X = some p) : f232 n 159 y1 (mq h0 X) = some (p.1, mq h0 p.2) := by
  unfold g232 at hG
  unfold f232
  refine bnd_eq (mgR_15 hl) ?_
  refine bnd_eq rfl ?_
  replace hG := zbnd hG
  obtain ⟨x2, e3, hG⟩ := hG
  refine bnd_eq (m_aI hl (i := 11) (by decide) rfl e3) ?_
  by_cases c4 : x2 = 0
  · rw [if_pos c4] at hG
    refine (if_pos c4).trans ?_
    refine zgd_eq (m_isO hl) ?_
    replace hG := zbnd hG
    obtain ⟨p5, e6, hG⟩ := hG
    refine bnd_eq (r213 hl e6) ?_
    by_cases c7 : p5.1 = 0
    · rw [if_pos c7] at hG
      refine (if_pos c7).trans ?_
      refine zgd_eq (m_isO hl) ?_
      replace hG := zbnd hG
      obtain ⟨p8, e9, hG⟩ := hG
      refine bnd_eq (r213 hl e9) ?_
      by_cases c10 : p8.1 = 0
      · rw [if_pos c10] at hG
        refine (if_pos c10).trans ?_
        exact rb232_37 hl  hG
      · rw [if_neg c10] at hG
        refine (if_neg c10).trans ?_
        exact rb232_32 hl  hG
    · rw [if_neg c7] at hG
      refine (if_neg c7).trans ?_
      exact rb232_32 hl  hG
  · rw [if_neg c4] at hG
    refine (if_neg c4).trans ?_
    refine bnd_eq (mgR_15 hl) ?_
    refine bnd_eq rfl ?_
    replace hG := zbnd hG
    obtain ⟨x12, e13, hG⟩ := hG
    refine bnd_eq (m_aI hl (i := 11) (by decide) rfl e13) ?_
    by_cases c14 : x12 = 1
    · rw [if_pos c14] at hG
      refine (if_pos c14).trans ?_
      refine bnd_eq (mgI_69 hl) ?_
      by_cases c15 : (X.1 69) = 2
      · rw [if_pos c15] at hG
        refine (if_pos c15).trans ?_
        exact rb232_83 hl  hG
      · rw [if_neg c15] at hG
        refine (if_neg c15).trans ?_
        exact rb232_83 hl  hG
    · rw [if_neg c14] at hG
      refine (if_neg c14).trans ?_
      refine zgd_eq (m_isO hl) ?_
      replace hG := zbnd hG
      obtain ⟨p16, e17, hG⟩ := hG
      refine bnd_eq (r203 hl e17) ?_
      by_cases c18 : p16.1 = 0
      · rw [if_pos c18] at hG
        refine (if_pos c18).trans ?_
        exact rb232_131 hl  hG
      · rw [if_neg c18] at hG
        refine (if_neg c18).trans ?_
        refine bnd_eq (mgR_17 hl) ?_
        refine bnd_eq (mgR_16 hl) ?_
        refine bnd_eq rfl ?_
        replace hG := zbnd hG
        obtain ⟨x21, e22, hG⟩ := hG
        refine bnd_eq (m_aI hl (i := 12) (by decide) rfl e22) ?_
        refine bnd_eq (mgI_70 hl) ?_
        refine bnd_eq (mgI_71 hl) ?_
        refine zgd_eq (m_isO hl) ?_
        replace hG := zbnd hG
        obtain ⟨p23, e24, hG⟩ := hG
        refine bnd_eq (r204 hl e24) ?_
        exact rb232_131 hl  hG
def gb230_507 (n : Nat)  (l1 : Int32) (l2 : Int32) (l3 : Int32) (l4 : Int32) (l5 : Int32) (l6 : Int32) (l7 : Int32) (l8 : Int32) (l9 : Int32) (X : zX) : Option (Int32 × zX) :=
  (g190 n  X).bind fun p1 =>
  some (l6, p1.2)
set_option maxRecDepth 20000 in
theorem rb230_507 {n : Nat} {h0 : zH} (hl : Fx h0)   {l1 : Int32} {l2 : Int32} {l3 : Int32} {l4 : Int32} {l5 : Int32} {l6 : Int32} {l7 : Int32} {l8 : Int32} {l9 : Int32} {X : zX} {p : Int32 × zX} (hG : gb230_507 n  l1 l2 l3 l4 l5 l6 l7 l8 l9 X = some p) : b230_507 n  159 l1 l2 l3 l4 l5 l6 l7 l8 l9 (mq h0 X) = some (p.1, mq h0 p.2) := by
  unfold gb230_507 at hG
  unfold b230_507
  refine zgd_eq (m_isO hl) ?_
  replace hG := zbnd hG
  obtain ⟨p1, e2, hG⟩ := hG
  refine bnd_eq (r190 hl e2) ?_
  replace hG := Option.some.inj hG
  subst hG
  rfl
def gb230_476 (n : Nat)  (l1 : Int32) (l2 : Int32) (l3 : Int32) (l4 : Int32) (l5 : Int32) (l6 : Int32) (l7 : Int32) (l8 : Int32) (l9 : Int32) (X : zX) : Option (Int32 × zX) :=
  (g209 n 41 X).bind fun p1 =>
  (g200 n p1.1 p1.2).bind fun p3 =>
  if (p3.2.1 73) = (-1) then
    if l8 = 10000 then
      gb230_507 n  l1 l2 l3 l4 l5 l6 l7 l8 l9 p3.2
    else
      (g195 n 4 p3.2).bind fun p7 =>
      gb230_507 n  l1 l2 l3 l4 l5 l6 l7 l8 l9 p7.2
  else
    gb230_507 n  l1 l2 l3 l4 l5 l6 l7 l8 l9 p3.2
set_option maxRecDepth 20000 in
theorem rb230_476 {n : Nat} {h0 : zH} (hl : Fx h0)   {l1 : Int32} {l2 : Int32} {l3 : Int32} {l4 : Int32} {l5 : Int32} {l6 : Int32} {l7 : Int32} {l8 : Int32} {l9 : Int32} {X : zX} {p : Int32 × zX} (hG : gb230_476 n  l1 l2 l3 l4 l5 l6 l7 l8 l9 X = some p) : b230_476 n  159 l1 l2 l3 l4 l5 l6 l7 l8 l9 (mq h0 X) = some (p.1, mq h0 p.2) := by
  unfold gb230_476 at hG
  unfold b230_476
  refine zgd_eq (m_isO hl) ?_
  replace hG := zbnd hG
  obtain ⟨p1, e2, hG⟩ := hG
  refine bnd_eq (r209 hl e2) ?_
  refine zgd_eq (m_isO hl) ?_
  replace hG := zbnd hG
  obtain ⟨p3, e4, hG⟩ := hG
  refine bnd_eq (r200 hl e4) ?_
  refine bnd_eq (mgI_73 hl) ?_
  by_cases c5 : (p3.2.1 73) = (-1)
  · rw [if_pos c5] at hG
    refine (if_pos c5).trans ?_
    by_cases c6 : l8 = 10000
    · rw [if_pos c6] at hG
      refine (if_pos c6).trans ?_
      exact rb230_507 hl  hG
    · rw [if_neg c6] at hG
      refine (if_neg c6).trans ?_
      refine zgd_eq (m_isO hl) ?_
      replace hG := zbnd hG
      obtain ⟨p7, e8, hG⟩ := hG
      refine bnd_eq (r195 hl e8) ?_
      exact rb230_507 hl  hG
  · rw [if_neg c5] at hG
    refine (if_neg c5).trans ?_
    exact rb230_507 hl  hG
def gb230_473 (n : Nat) (q301 : Int32 → Int32 → Int32 → Int32 → Int32 → Int32 → Int32 → Int32 → Int32 → zX → Option (Int32 × zX)) (l1 : Int32) (l2 : Int32) (l3 : Int32) (l4 : Int32) (l5 : Int32) (l6 : Int32) (l7 : Int32) (l8 : Int32) (l9 : Int32) (l10 : Int32) (l11 : Int32) (X : zX) : Option (Int32 × zX) :=
  q301 l1 l2 l3 l4 l5 l6 l7 l8 l9 X
set_option maxRecDepth 20000 in
theorem rb230_473 {n : Nat} {h0 : zH} (hl : Fx h0) {q301 : Int32 → Int32 → Int32 → Int32 → Int32 → Int32 → Int32 → Int32 → Int32 → zX → Option (Int32 × zX)} {r301 : Nat → Int32 → Int32 → Int32 → Int32 → Int32 → Int32 → Int32 → Int32 → Int32 → zH → Option (Int32 × zH)} (hr301 : ∀ {l1 : Int32} {l2 : Int32} {l3 : Int32} {l4 : Int32} {l5 : Int32} {l6 : Int32} {l7 : Int32} {l8 : Int32} {l9 : Int32} {X : zX} {p : Int32 × zX}, q301 l1 l2 l3 l4 l5 l6 l7 l8 l9 X = some p → r301 159 l1 l2 l3 l4 l5 l6 l7 l8 l9 (mq h0 X) = some (p.1, mq h0 p.2)) {l1 : Int32} {l2 : Int32} {l3 : Int32} {l4 : Int32} {l5 : Int32} {l6 : Int32} {l7 : Int32} {l8 : Int32} {l9 : Int32} {l10 : Int32} {l11 : Int32} {X : zX} {p : Int32 × zX} (hG : gb230_473 n q301 l1 l2 l3 l4 l5 l6 l7 l8 l9 l10 l11 X = some p) : b230_473 n r301 159 l1 l2 l3 l4 l5 l6 l7 l8 l9 l10 l11 (mq h0 X) = some (p.1, mq h0 p.2) := by
  unfold gb230_473 at hG
  unfold b230_473
  exact hr301 hG
def gb230_462 (n : Nat) (q301 : Int32 → Int32 → Int32 → Int32 → Int32 → Int32 → Int32 → Int32 → Int32 → zX → Option (Int32 × zX)) (l1 : Int32) (l2 : Int32) (l3 : Int32) (l4 : Int32) (l5 : Int32) (l6 : Int32) (l7 : Int32) (l8 : Int32) (l9 : Int32) (l10 : Int32) (l11 : Int32) (s0 : Int32) (X : zX) : Option (Int32 × zX) :=
  if s0 = 0 then
    gb230_473 n q301 l1 l2 l3 l4 l5 l6 l7 l8 s0 l10 l11 X
  else
    (g190 n  X).bind fun p2 =>
    gb230_473 n q301 l1 l2 l3 l4 l5 l6 l7 l8 s0 l10 l11 p2.2
set_option maxRecDepth 20000 in
theorem rb230_462 {n : Nat} {h0 : zH} (hl : Fx h0) {q301 : Int32 → Int32 → Int32 → Int32 → Int32 → Int32 → Int32 → Int32 → Int32 → zX → Option (Int32 × zX)} {r301 : Nat → Int32 → Int32 → Int32 → Int32 → Int32 → Int32 → Int32 → Int32 → Int32 → zH → Option (Int32 × zH)} (hr301 : ∀ {l1 : Int32} {l2 : Int32} {l3 : Int32} {l4 : Int32} {l5 : Int32} {l6 : Int32} {l7 : Int32} {l8 : Int32} {l9 : Int32} {X : zX} {p : Int32 × zX}, q301 l1 l2 l3 l4 l5 l6 l7 l8 l9 X = some p → r301 159 l1 l2 l3 l4 l5 l6 l7 l8 l9 (mq h0 X) = some (p.1, mq h0 p.2)) {l1 : Int32} {l2 : Int32} {l3 : Int32} {l4 : Int32} {l5 : Int32} {l6 : Int32} {l7 : Int32} {l8 : Int32} {l9 : Int32} {l10 : Int32} {l11 : Int32} {s0 : Int32} {X : zX} {p : Int32 × zX} (hG : gb230_462 n q301 l1 l2 l3 l4 l5 l6 l7 l8 l9 l10 l11 s0 X = some p) : b230_462 n r301 159 l1 l2 l3 l4 l5 l6 l7 l8 l9 l10 l11 s0 (mq h0 X) = some (p.1, mq h0 p.2) := by
  unfold gb230_462 at hG
  unfold b230_462
  by_cases c1 : s0 = 0
  · rw [if_pos c1] at hG
    refine (if_pos c1).trans ?_
    exact rb230_473 hl hr301 hG
  · rw [if_neg c1] at hG
    refine (if_neg c1).trans ?_
    refine zgd_eq (m_isO hl) ?_
    replace hG := zbnd hG
    obtain ⟨p2, e3, hG⟩ := hG
    refine bnd_eq (r190 hl e3) ?_
    exact rb230_473 hl hr301 hG
def gb230_461 (n : Nat) (q301 : Int32 → Int32 → Int32 → Int32 → Int32 → Int32 → Int32 → Int32 → Int32 → zX → Option (Int32 × zX)) (l1 : Int32) (l2 : Int32) (l3 : Int32) (l4 : Int32) (l5 : Int32) (l6 : Int32) (l7 : Int32) (l8 : Int32) (l9 : Int32) (l10 : Int32) (l11 : Int32) (X : zX) : Option (Int32 × zX) :=
  gb230_462 n q301 l1 l2 l3 l4 l5 l6 l7 l8 l9 l10 l11 0 X
set_option maxRecDepth 20000 in
theorem rb230_461 {n : Nat} {h0 : zH} (hl : Fx h0) {q301 : Int32 → Int32 → Int32 → Int32 → Int32 → Int32 → Int32 → Int32 → Int32 → zX → Option (Int32 × zX)} {r301 : Nat → Int32 → Int32 → Int32 → Int32 → Int32 → Int32 → Int32 → Int32 → Int32 → zH → Option (Int32 × zH)} (hr301 : ∀ {l1 : Int32} {l2 : Int32} {l3 : Int32} {l4 : Int32} {l5 : Int32} {l6 : Int32} {l7 : Int32} {l8 : Int32} {l9 : Int32} {X : zX} {p : Int32 × zX}, q301 l1 l2 l3 l4 l5 l6 l7 l8 l9 X = some p → r301 159 l1 l2 l3 l4 l5 l6 l7 l8 l9 (mq h0 X) = some (p.1, mq h0 p.2)) {l1 : Int32} {l2 : Int32} {l3 : Int32} {l4 : Int32} {l5 : Int32} {l6 : Int32} {l7 : Int32} {l8 : Int32} {l9 : Int32} {l10 : Int32} {l11 : Int32} {X : zX} {p : Int32 × zX} (hG : gb230_461 n q301 l1 l2 l3 l4 l5 l6 l7 l8 l9 l10 l11 X = some p) : b230_461 n r301 159 l1 l2 l3 l4 l5 l6 l7 l8 l9 l10 l11 (mq h0 X) = some (p.1, mq h0 p.2) := by
  unfold gb230_461 at hG
  unfold b230_461
  exact rb230_462 hl hr301 hG
def gb230_440 (n : Nat) (q301 : Int32 → Int32 → Int32 → Int32 → Int32 → Int32 → Int32 → Int32 → Int32 → zX → Option (Int32 × zX)) (l1 : Int32) (l2 : Int32) (l3 : Int32) (l4 : Int32) (l5 : Int32) (l6 : Int32) (l7 : Int32) (l8 : Int32) (l9 : Int32) (l10 : Int32) (l11 : Int32) (X : zX) : Option (Int32 × zX) :=
  if (X.1 73) = (-1) then
    (g209 n 44 X).bind fun p2 =>
    if p2.1 = 0 then
      gb230_461 n q301 l1 l2 l3 l4 l5 l6 l7 l8 l9 l10 l11 p2.2
    else
      gb230_462 n q301 l1 l2 l3 l4 l5 l6 l7 l8 l9 l10 l11 1 p2.2
  else
    gb230_461 n q301 l1 l2 l3 l4 l5 l6 l7 l8 l9 l10 l11 X
set_option maxRecDepth 20000 in
theorem rb230_440 {n : Nat} {h0 : zH} (hl : Fx h0) {q301 : Int32 → Int32 → Int32 → Int32 → Int32 → Int32 → Int32 → Int32 → Int32 → zX → Option (Int32 × zX)} {r301 : Nat → Int32 → Int32 → Int32 → Int32 → Int32 → Int32 → Int32 → Int32 → Int32 → zH → Option (Int32 × zH)} (hr301 : ∀ {l1 : Int32} {l2 : Int32} {l3 : Int32} {l4 : Int32} {l5 : Int32} {l6 : Int32} {l7 : Int32} {l8 : Int32} {l9 : Int32} {X : zX} {p : Int32 × zX}, q301 l1 l2 l3 l4 l5 l6 l7 l8 l9 X = some p → r301 159 l1 l2 l3 l4 l5 l6 l7 l8 l9 (mq h0 X) = some (p.1, mq h0 p.2)) {l1 : Int32} {l2 : Int32} {l3 : Int32} {l4 : Int32} {l5 : Int32} {l6 : Int32} {l7 : Int32} {l8 : Int32} {l9 : Int32} {l10 : Int32} {l11 : Int32} {X : zX} {p : Int32 × zX} (hG : gb230_440 n q301 l1 l2 l3 l4 l5 l6 l7 l8 l9 l10 l11 X = some p) : b230_440 n r301 159 l1 l2 l3 l4 l5 l6 l7 l8 l9 l10 l11 (mq h0 X) = some (p.1, mq h0 p.2) := by
  unfold gb230_440 at hG
  unfold b230_440
  refine bnd_eq (mgI_73 hl) ?_
  by_cases c1 : (X.1 73) = (-1)
  · rw [if_pos c1] at hG
    refine (if_pos c1).trans ?_
    refine zgd_eq (m_isO hl) ?_
    replace hG := zbnd hG
    obtain ⟨p2, e3, hG⟩ := hG
    refine bnd_eq (r209 hl e3) ?_
    by_cases c4 : p2.1 = 0
    · rw [if_pos c4] at hG
      refine (if_pos c4).trans ?_
      exact rb230_461 hl hr301 hG
    · rw [if_neg c4] at hG
      refine (if_neg c4).trans ?_
      exact rb230_462 hl hr301 hG
  · rw [if_neg c1] at hG
    refine (if_neg c1).trans ?_
    exact rb230_461 hl hr301 hG
def gb230_372 (n : Nat) (q301 : Int32 → Int32 → Int32 → Int32 → Int32 → Int32 → Int32 → Int32 → Int32 → zX → Option (Int32 × zX)) (l1 : Int32) (l2 : Int32) (l3 : Int32) (l4 : Int32) (l5 : Int32) (l6 : Int32) (l7 : Int32) (l8 : Int32) (l9 : Int32) (l10 : Int32) (s0 : Int32) (X : zX) : Option (Int32 × zX) :=
  if (X.1 73) = (-1) then
    (rd (X.2.2 46) l7).bind fun x4 =>
    zgd (bkO (X.1 4) 47 ((8 * l7) + x4)) <|
    (wr X 47 ((8 * l7) + x4) l10).bind fun X6 =>
    (rd (X6.2.2 46) l7).bind fun x11 =>
    zgd (bkO (X6.1 4) 48 ((8 * l7) + x11)) <|
    (wr X6 48 ((8 * l7) + x11) s0).bind fun X13 =>
    (rd (X13.2.2 46) l7).bind fun x17 =>
    zgd (bkO (X13.1 4) 46 l7) <|
    (wr X13 46 l7 (x17 + 1)).bind fun X19 =>
    gb230_440 n q301 l1 l2 l3 l4 l5 l6 l7 (l8 + l10) l9 l10 s0 X19
  else
    gb230_440 n q301 l1 l2 l3 l4 l5 l6 l7 l8 l9 l10 s0 X
set_option maxRecDepth 20000 in
theorem rb230_372 {n : Nat} {h0 : zH} (hl : Fx h0) {q301 : Int32 → Int32 → Int32 → Int32 → Int32 → Int32 → Int32 → Int32 → Int32 → zX → Option (Int32 × zX)} {r301 : Nat → Int32 → Int32 → Int32 → Int32 → Int32 → Int32 → Int32 → Int32 → Int32 → zH → Option (Int32 × zH)} (hr301 : ∀ {l1 : Int32} {l2 : Int32} {l3 : Int32} {l4 : Int32} {l5 : Int32} {l6 : Int32} {l7 : Int32} {l8 : Int32} {l9 : Int32} {X : zX} {p : Int32 × zX}, q301 l1 l2 l3 l4 l5 l6 l7 l8 l9 X = some p → r301 159 l1 l2 l3 l4 l5 l6 l7 l8 l9 (mq h0 X) = some (p.1, mq h0 p.2)) {l1 : Int32} {l2 : Int32} {l3 : Int32} {l4 : Int32} {l5 : Int32} {l6 : Int32} {l7 : Int32} {l8 : Int32} {l9 : Int32} {l10 : Int32} {s0 : Int32} {X : zX} {p : Int32 × zX} (hG : gb230_372 n q301 l1 l2 l3 l4 l5 l6 l7 l8 l9 l10 s0 X = some p) : b230_372 n r301 159 l1 l2 l3 l4 l5 l6 l7 l8 l9 l10 s0 (mq h0 X) = some (p.1, mq h0 p.2) := by
  unfold gb230_372 at hG
  unfold b230_372
  refine bnd_eq (mgI_73 hl) ?_
  by_cases c1 : (X.1 73) = (-1)
  · rw [if_pos c1] at hG
    refine (if_pos c1).trans ?_
    refine bnd_eq (mgR_51 hl) ?_
    refine bnd_eq (mgR_50 hl) ?_
    refine bnd_eq rfl ?_
    replace hG := zbnd hG
    obtain ⟨x4, e5, hG⟩ := hG
    refine bnd_eq (m_aI hl (i := 46) (by decide) rfl e5) ?_
    refine bnd_eq rfl ?_
    replace hG := zgd_some hG
    obtain ⟨g8, hG⟩ := hG
    replace hG := zbnd hG
    obtain ⟨X6, e7, hG⟩ := hG
    refine bnd_eq (m_sI hl (i := 47) (by decide) rfl e7) ?_
    refine bnd_eq (mgR_52 hl) ?_
    refine bnd_eq (mgR_50 hl) ?_
    refine bnd_eq rfl ?_
    replace hG := zbnd hG
    obtain ⟨x11, e12, hG⟩ := hG
    refine bnd_eq (m_aI hl (i := 46) (by decide) rfl e12) ?_
    refine bnd_eq rfl ?_
    replace hG := zgd_some hG
    obtain ⟨g15, hG⟩ := hG
    replace hG := zbnd hG
    obtain ⟨X13, e14, hG⟩ := hG
    refine bnd_eq (m_sI hl (i := 48) (by decide) rfl e14) ?_
    refine bnd_eq (mgR_50 hl) ?_
    refine bnd_eq rfl ?_
    replace hG := zbnd hG
    obtain ⟨x17, e18, hG⟩ := hG
    refine bnd_eq (m_aI hl (i := 46) (by decide) rfl e18) ?_
    replace hG := zgd_some hG
    obtain ⟨g21, hG⟩ := hG
    replace hG := zbnd hG
    obtain ⟨X19, e20, hG⟩ := hG
    refine bnd_eq (m_sI hl (i := 46) (by decide) rfl e20) ?_
    exact rb230_440 hl hr301 hG
  · rw [if_neg c1] at hG
    refine (if_neg c1).trans ?_
    exact rb230_440 hl hr301 hG
def gb230_345 (n : Nat) (q301 : Int32 → Int32 → Int32 → Int32 → Int32 → Int32 → Int32 → Int32 → Int32 → zX → Option (Int32 × zX)) (l1 : Int32) (l2 : Int32) (l3 : Int32) (l4 : Int32) (l5 : Int32) (l6 : Int32) (l7 : Int32) (l8 : Int32) (l9 : Int32) (l10 : Int32) (X : zX) : Option (Int32 × zX) :=
  (g190 n  X).bind fun p1 =>
  (g208 n 58 p1.2).bind fun p3 =>
  if (p3.2.1 73) = (-1) then
    (g232 n l1 p3.2).bind fun p6 =>
    gb230_372 n q301 l1 l2 l3 l4 l5 l6 l7 l8 l9 l10 p6.1 p6.2
  else
    gb230_372 n q301 l1 l2 l3 l4 l5 l6 l7 l8 l9 l10 0 p3.2
set_option maxRecDepth 20000 in
theorem rb230_345 {n : Nat} {h0 : zH} (hl : Fx h0) {q301 : Int32 → Int32 → Int32 → Int32 → Int32 → Int32 → Int32 → Int32 → Int32 → zX → Option (Int32 × zX)} {r301 : Nat → Int32 → Int32 → Int32 → Int32 → Int32 → Int32 → Int32 → Int32 → Int32 → zH → Option (Int32 × zH)} (hr301 : ∀ {l1 : Int32} {l2 : Int32} {l3 : Int32} {l4 : Int32} {l5 : Int32} {l6 : Int32} {l7 : Int32} {l8 : Int32} {l9 : Int32} {X : zX} {p : Int32 × zX}, q301 l1 l2 l3 l4 l5 l6 l7 l8 l9 X = some p → r301 159 l1 l2 l3 l4 l5 l6 l7 l8 l9 (mq h0 X) = some (p.1, mq h0 p.2)) {l1 : Int32} {l2 : Int32} {l3 : Int32} {l4 : Int32} {l5 : Int32} {l6 : Int32} {l7 : Int32} {l8 : Int32} {l9 : Int32} {l10 : Int32} {X : zX} {p : Int32 × zX} (hG : gb230_345 n q301 l1 l2 l3 l4 l5 l6 l7 l8 l9 l10 X = some p) : b230_345 n r301 159 l1 l2 l3 l4 l5 l6 l7 l8 l9 l10 (mq h0 X) = some (p.1, mq h0 p.2) := by
  unfold gb230_345 at hG
  unfold b230_345
  refine zgd_eq (m_isO hl) ?_
  replace hG := zbnd hG
  obtain ⟨p1, e2, hG⟩ := hG
  refine bnd_eq (r190 hl e2) ?_
  refine zgd_eq (m_isO hl) ?_
  replace hG := zbnd hG
  obtain ⟨p3, e4, hG⟩ := hG
  refine bnd_eq (r208 hl e4) ?_
  refine bnd_eq (mgI_73 hl) ?_
  by_cases c5 : (p3.2.1 73) = (-1)
  · rw [if_pos c5] at hG
    refine (if_pos c5).trans ?_
    refine zgd_eq (m_isO hl) ?_
    replace hG := zbnd hG
    obtain ⟨p6, e7, hG⟩ := hG
    refine bnd_eq (r232 hl e7) ?_
    exact rb230_372 hl hr301 hG
  · rw [if_neg c5] at hG
    refine (if_neg c5).trans ?_
    exact rb230_372 hl hr301 hG
def gb230_301 (n : Nat) (q301 : Int32 → Int32 → Int32 → Int32 → Int32 → Int32 → Int32 → Int32 → Int32 → zX → Option (Int32 × zX)) (l1 : Int32) (l2 : Int32) (l3 : Int32) (l4 : Int32) (l5 : Int32) (l6 : Int32) (l7 : Int32) (l8 : Int32) (l9 : Int32) (X : zX) : Option (Int32 × zX) :=
  if l9 = 0 then
    gb230_476 n  l1 l2 l3 l4 l5 l6 l7 l8 l9 X
  else
    if (X.1 73) = (-1) then
      (g231 n  X).bind fun p3 =>
      if (p3.2.1 73) = (-1) then
        (rd (p3.2.2.2 46) l7).bind fun x7 =>
        if x7 = 8 then
          (g195 n 5 p3.2).bind fun p10 =>
          gb230_345 n q301 l1 l2 l3 l4 l5 l6 l7 l8 l9 p3.1 p10.2
        else
          gb230_345 n q301 l1 l2 l3 l4 l5 l6 l7 l8 l9 p3.1 p3.2
      else
        gb230_345 n q301 l1 l2 l3 l4 l5 l6 l7 l8 l9 p3.1 p3.2
    else
      gb230_476 n  l1 l2 l3 l4 l5 l6 l7 l8 l9 X
set_option maxRecDepth 20000 in
theorem rb230_301 {n : Nat} {h0 : zH} (hl : Fx h0) {q301 : Int32 → Int32 → Int32 → Int32 → Int32 → Int32 → Int32 → Int32 → Int32 → zX → Option (Int32 × zX)} {r301 : Nat → Int32 → Int32 → Int32 → Int32 → Int32 → Int32 → Int32 → Int32 → Int32 → zH → Option (Int32 × zH)} (hr301 : ∀ {l1 : Int32} {l2 : Int32} {l3 : Int32} {l4 : Int32} {l5 : Int32} {l6 : Int32} {l7 : Int32} {l8 : Int32} {l9 : Int32} {X : zX} {p : Int32 × zX}, q301 l1 l2 l3 l4 l5 l6 l7 l8 l9 X = some p → r301 159 l1 l2 l3 l4 l5 l6 l7 l8 l9 (mq h0 X) = some (p.1, mq h0 p.2)) {l1 : Int32} {l2 : Int32} {l3 : Int32} {l4 : Int32} {l5 : Int32} {l6 : Int32} {l7 : Int32} {l8 : Int32} {l9 : Int32} {X : zX} {p : Int32 × zX} (hG : gb230_301 n q301 l1 l2 l3 l4 l5 l6 l7 l8 l9 X = some p) : b230_301 n r301 159 l1 l2 l3 l4 l5 l6 l7 l8 l9 (mq h0 X) = some (p.1, mq h0 p.2) := by
  unfold gb230_301 at hG
  unfold b230_301
  by_cases c1 : l9 = 0
  · rw [if_pos c1] at hG
    refine (if_pos c1).trans ?_
    exact rb230_476 hl  hG
  · rw [if_neg c1] at hG
    refine (if_neg c1).trans ?_
    refine bnd_eq (mgI_73 hl) ?_
    by_cases c2 : (X.1 73) = (-1)
    · rw [if_pos c2] at hG
      refine (if_pos c2).trans ?_
      refine zgd_eq (m_isO hl) ?_
      replace hG := zbnd hG
      obtain ⟨p3, e4, hG⟩ := hG
      refine bnd_eq (r231 hl e4) ?_
      refine bnd_eq (mgI_73 hl) ?_
      by_cases c5 : (p3.2.1 73) = (-1)
      · rw [if_pos c5] at hG
        refine (if_pos c5).trans ?_
        refine bnd_eq (mgR_50 hl) ?_
        refine bnd_eq rfl ?_
        replace hG := zbnd hG
        obtain ⟨x7, e8, hG⟩ := hG
        refine bnd_eq (m_aI hl (i := 46) (by decide) rfl e8) ?_
        by_cases c9 : x7 = 8
        · rw [if_pos c9] at hG
          refine (if_pos c9).trans ?_
          refine zgd_eq (m_isO hl) ?_
          replace hG := zbnd hG
          obtain ⟨p10, e11, hG⟩ := hG
          refine bnd_eq (r195 hl e11) ?_
          exact rb230_345 hl hr301 hG
        · rw [if_neg c9] at hG
          refine (if_neg c9).trans ?_
          exact rb230_345 hl hr301 hG
      · rw [if_neg c5] at hG
        refine (if_neg c5).trans ?_
        exact rb230_345 hl hr301 hG
    · rw [if_neg c2] at hG
      refine (if_neg c2).trans ?_
      exact rb230_476 hl  hG
def gf230_301 (n : Nat)  (k : Nat) : Int32 → Int32 → Int32 → Int32 → Int32 → Int32 → Int32 → Int32 → Int32 → zX → Option (Int32 × zX) := Nat.rec (fun _ _ _ _ _ _ _ _ _ _ => none) (fun _ ih => gb230_301 n ih) k
theorem rf230_301 {n : Nat} {h0 : zH} (hl : Fx h0)   (k : Nat) : ∀ {l1 : Int32} {l2 : Int32} {l3 : Int32} {l4 : Int32} {l5 : Int32} {l6 : Int32} {l7 : Int32} {l8 : Int32} {l9 : Int32} {X : zX} {p : Int32 × zX}, gf230_301 n  k l1 l2 l3 l4 l5 l6 l7 l8 l9 X = some p → f230_301 n  k 159 l1 l2 l3 l4 l5 l6 l7 l8 l9 (mq h0 X) = some (p.1, mq h0 p.2) := by
  induction k with
  | zero => intros; rename_i hG; cases hG
  | succ k ih => intros; rename_i hG; exact rb230_301 (n := n) hl ih hG
def gb230_285 (n : Nat)  (l1 : Int32) (l2 : Int32) (l3 : Int32) (l4 : Int32) (l5 : Int32) (l6 : Int32) (l7 : Int32) (s0 : Int32) (s1 : Int32) (X : zX) : Option (Int32 × zX) :=
  zgd (bkO (X.1 4) 48 s1) <|
  (wr X 48 s1 s0).bind fun X1 =>
  some (l6, X1)
set_option maxRecDepth 20000 in
theorem rb230_285 {n : Nat} {h0 : zH} (hl : Fx h0)   {l1 : Int32} {l2 : Int32} {l3 : Int32} {l4 : Int32} {l5 : Int32} {l6 : Int32} {l7 : Int32} {s0 : Int32} {s1 : Int32} {X : zX} {p : Int32 × zX} (hG : gb230_285 n  l1 l2 l3 l4 l5 l6 l7 s0 s1 X = some p) : b230_285 n  159 l1 l2 l3 l4 l5 l6 l7 s0 s1 (some 208) (mq h0 X) = some (p.1, mq h0 p.2) := by
  unfold gb230_285 at hG
  unfold b230_285
  refine bnd_eq rfl ?_
  replace hG := zgd_some hG
  obtain ⟨g3, hG⟩ := hG
  replace hG := zbnd hG
  obtain ⟨X1, e2, hG⟩ := hG
  refine bnd_eq (m_sI hl (i := 48) (by decide) rfl e2) ?_
  replace hG := Option.some.inj hG
  subst hG
  rfl
def gb230_109 (n : Nat)  (l1 : Int32) (l2 : Int32) (l3 : Int32) (l4 : Int32) (s0 : Int32) (X : zX) : Option (Int32 × zX) :=
  (g190 n  X).bind fun p1 =>
  if (p1.2.1 73) = (-1) then
    (rd (p1.2.2.2 42) (p1.2.1 4)).bind fun x5 =>
    (rd (p1.2.2.2 42) (p1.2.1 4)).bind fun x8 =>
    zgd (bkO (p1.2.1 4) 42 (p1.2.1 4)) <|
    (wr p1.2 42 (p1.2.1 4) (x8 + 1)).bind fun X10 =>
    zgd (bkO (X10.1 4) 43 ((100 * (p1.2.1 4)) + x5)) <|
    (wr X10 43 ((100 * (p1.2.1 4)) + x5) (l2 &&& 1)).bind fun X14 =>
    zgd (bkO (X14.1 4) 44 ((100 * (p1.2.1 4)) + x5)) <|
    (wr X14 44 ((100 * (p1.2.1 4)) + x5) l4).bind fun X18 =>
    zgd (bkO (X18.1 4) 45 ((100 * (p1.2.1 4)) + x5)) <|
    (wr X18 45 ((100 * (p1.2.1 4)) + x5) s0).bind fun X22 =>
    zgd (bkO (X22.1 4) 46 ((100 * (p1.2.1 4)) + x5)) <|
    (wr X22 46 ((100 * (p1.2.1 4)) + x5) 0).bind fun X26 =>
    if l2 = 0 then
      (g208 n 40 X26).bind fun p30 =>
      gf230_301 n  n l1 l2 l3 l4 s0 x5 ((100 * (p1.2.1 4)) + x5) 0 1 p30.2
    else
      zgd (bkO (X26.1 4) 46 ((100 * (p1.2.1 4)) + x5)) <|
      (wr X26 46 ((100 * (p1.2.1 4)) + x5) 2).bind fun X33 =>
      zgd (bkO (X33.1 4) 47 (8 * ((100 * (p1.2.1 4)) + x5))) <|
      (wr X33 47 (8 * ((100 * (p1.2.1 4)) + x5)) l3).bind fun X37 =>
      zgd (bkO (X37.1 4) 47 ((8 * ((100 * (p1.2.1 4)) + x5)) + 1)) <|
      (wr X37 47 ((8 * ((100 * (p1.2.1 4)) + x5)) + 1) (10000 - l3)).bind fun X41 =>
      (g232 n l1 X41).bind fun p45 =>
      zgd (bkO (p45.2.1 4) 48 (8 * ((100 * (p1.2.1 4)) + x5))) <|
      (wr p45.2 48 (8 * ((100 * (p1.2.1 4)) + x5)) p45.1).bind fun X47 =>
      (g228 n 81 X47).bind fun p50 =>
      if (p50.2.1 73) = (-1) then
        (g232 n l1 p50.2).bind fun p54 =>
        gb230_285 n  l1 l2 l3 l4 s0 x5 ((100 * (p1.2.1 4)) + x5) p54.1 ((8 * ((100 * (p1.2.1 4)) + x5)) + 1) p54.2
      else
        gb230_285 n  l1 l2 l3 l4 s0 x5 ((100 * (p1.2.1 4)) + x5) 0 ((8 * ((100 * (p1.2.1 4)) + x5)) + 1) p50.2
  else
    some (0, p1.2)
set_option maxRecDepth 20000 in
theorem rb230_109 {n : Nat} {h0 : zH} (hl : Fx h0)   {l1 : Int32} {l2 : Int32} {l3 : Int32} {l4 : Int32} {s0 : Int32} {X : zX} {p : Int32 × zX} (hG : gb230_109 n  l1 l2 l3 l4 s0 X = some p) : b230_109 n  159 l1 l2 l3 l4 s0 (mq h0 X) = some (p.1, mq h0 p.2) := by
  unfold gb230_109 at hG
  unfold b230_109
  refine zgd_eq (m_isO hl) ?_
  replace hG := zbnd hG
  obtain ⟨p1, e2, hG⟩ := hG
  refine bnd_eq (r190 hl e2) ?_
  refine bnd_eq (mgI_73 hl) ?_
  by_cases c3 : (p1.2.1 73) = (-1)
  · rw [if_pos c3] at hG
    refine (if_pos c3).trans ?_
    refine bnd_eq (mgR_46 hl) ?_
    refine bnd_eq (mgI_4 hl) ?_
    refine bnd_eq rfl ?_
    replace hG := zbnd hG
    obtain ⟨x5, e6, hG⟩ := hG
    refine bnd_eq (m_aI hl (i := 42) (by decide) rfl e6) ?_
    refine bnd_eq (mgI_4 hl) ?_
    refine bnd_eq (mgR_46 hl) ?_
    refine bnd_eq (mgI_4 hl) ?_
    refine bnd_eq rfl ?_
    replace hG := zbnd hG
    obtain ⟨x8, e9, hG⟩ := hG
    refine bnd_eq (m_aI hl (i := 42) (by decide) rfl e9) ?_
    replace hG := zgd_some hG
    obtain ⟨g12, hG⟩ := hG
    replace hG := zbnd hG
    obtain ⟨X10, e11, hG⟩ := hG
    refine bnd_eq (m_sI hl (i := 42) (by decide) rfl e11) ?_
    refine bnd_eq (mgR_47 hl) ?_
    refine bnd_eq rfl ?_
    replace hG := zgd_some hG
    obtain ⟨g16, hG⟩ := hG
    replace hG := zbnd hG
    obtain ⟨X14, e15, hG⟩ := hG
    refine bnd_eq (m_sZ hl (i := 43) (by decide) rfl e15) ?_
    refine bnd_eq (mgR_48 hl) ?_
    refine bnd_eq rfl ?_
    replace hG := zgd_some hG
    obtain ⟨g20, hG⟩ := hG
    replace hG := zbnd hG
    obtain ⟨X18, e19, hG⟩ := hG
    refine bnd_eq (m_sI hl (i := 44) (by decide) rfl e19) ?_
    refine bnd_eq (mgR_49 hl) ?_
    refine bnd_eq rfl ?_
    replace hG := zgd_some hG
    obtain ⟨g24, hG⟩ := hG
    replace hG := zbnd hG
    obtain ⟨X22, e23, hG⟩ := hG
    refine bnd_eq (m_sI hl (i := 45) (by decide) rfl e23) ?_
    refine bnd_eq (mgR_50 hl) ?_
    refine bnd_eq rfl ?_
    replace hG := zgd_some hG
    obtain ⟨g28, hG⟩ := hG
    replace hG := zbnd hG
    obtain ⟨X26, e27, hG⟩ := hG
    refine bnd_eq (m_sI hl (i := 46) (by decide) rfl e27) ?_
    by_cases c29 : l2 = 0
    · rw [if_pos c29] at hG
      refine (if_pos c29).trans ?_
      refine zgd_eq (m_isO hl) ?_
      replace hG := zbnd hG
      obtain ⟨p30, e31, hG⟩ := hG
      refine bnd_eq (r208 hl e31) ?_
      exact rf230_301 hl  n hG
    · rw [if_neg c29] at hG
      refine (if_neg c29).trans ?_
      refine bnd_eq (mgR_50 hl) ?_
      refine bnd_eq rfl ?_
      replace hG := zgd_some hG
      obtain ⟨g35, hG⟩ := hG
      replace hG := zbnd hG
      obtain ⟨X33, e34, hG⟩ := hG
      refine bnd_eq (m_sI hl (i := 46) (by decide) rfl e34) ?_
      refine bnd_eq (mgR_51 hl) ?_
      refine bnd_eq rfl ?_
      replace hG := zgd_some hG
      obtain ⟨g39, hG⟩ := hG
      replace hG := zbnd hG
      obtain ⟨X37, e38, hG⟩ := hG
      refine bnd_eq (m_sI hl (i := 47) (by decide) rfl e38) ?_
      refine bnd_eq (mgR_51 hl) ?_
      refine bnd_eq rfl ?_
      replace hG := zgd_some hG
      obtain ⟨g43, hG⟩ := hG
      replace hG := zbnd hG
      obtain ⟨X41, e42, hG⟩ := hG
      refine bnd_eq (m_sI hl (i := 47) (by decide) rfl e42) ?_
      refine bnd_eq (mgR_52 hl) ?_
      refine zgd_eq (m_isO hl) ?_
      replace hG := zbnd hG
      obtain ⟨p45, e46, hG⟩ := hG
      refine bnd_eq (r232 hl e46) ?_
      refine bnd_eq rfl ?_
      replace hG := zgd_some hG
      obtain ⟨g49, hG⟩ := hG
      replace hG := zbnd hG
      obtain ⟨X47, e48, hG⟩ := hG
      refine bnd_eq (m_sI hl (i := 48) (by decide) rfl e48) ?_
      refine zgd_eq (m_isO hl) ?_
      replace hG := zbnd hG
      obtain ⟨p50, e51, hG⟩ := hG
      refine bnd_eq (r228 hl e51) ?_
      refine bnd_eq (mgR_52 hl) ?_
      refine bnd_eq (mgI_73 hl) ?_
      by_cases c53 : (p50.2.1 73) = (-1)
      · rw [if_pos c53] at hG
        refine (if_pos c53).trans ?_
        refine zgd_eq (m_isO hl) ?_
        replace hG := zbnd hG
        obtain ⟨p54, e55, hG⟩ := hG
        refine bnd_eq (r232 hl e55) ?_
        exact rb230_285 hl  hG
      · rw [if_neg c53] at hG
        refine (if_neg c53).trans ?_
        exact rb230_285 hl  hG
  · rw [if_neg c3] at hG
    refine (if_neg c3).trans ?_
    replace hG := Option.some.inj hG
    subst hG
    rfl
def gb230_90 (n : Nat)  (l1 : Int32) (l2 : Int32) (l3 : Int32) (l4 : Int32) (s0 : Int32) (X : zX) : Option (Int32 × zX) :=
  (g200 n s0 X).bind fun p1 =>
  if (p1.2.1 73) = (-1) then
    (g206 n  p1.2).bind fun p4 =>
    gb230_109 n  l1 l2 l3 l4 p4.1 p4.2
  else
    gb230_109 n  l1 l2 l3 l4 0 p1.2
set_option maxRecDepth 20000 in
theorem rb230_90 {n : Nat} {h0 : zH} (hl : Fx h0)   {l1 : Int32} {l2 : Int32} {l3 : Int32} {l4 : Int32} {s0 : Int32} {X : zX} {p : Int32 × zX} (hG : gb230_90 n  l1 l2 l3 l4 s0 X = some p) : b230_90 n  159 l1 l2 l3 l4 s0 159 (mq h0 X) = some (p.1, mq h0 p.2) := by
  unfold gb230_90 at hG
  unfold b230_90
  refine zgd_eq (m_isO hl) ?_
  replace hG := zbnd hG
  obtain ⟨p1, e2, hG⟩ := hG
  refine bnd_eq (r200 hl e2) ?_
  refine bnd_eq (mgI_73 hl) ?_
  by_cases c3 : (p1.2.1 73) = (-1)
  · rw [if_pos c3] at hG
    refine (if_pos c3).trans ?_
    refine zgd_eq (m_isO hl) ?_
    replace hG := zbnd hG
    obtain ⟨p4, e5, hG⟩ := hG
    refine bnd_eq (r206 hl e5) ?_
    exact rb230_109 hl  hG
  · rw [if_neg c3] at hG
    refine (if_neg c3).trans ?_
    exact rb230_109 hl  hG
def gb230_70 (n : Nat)  (l1 : Int32) (l2 : Int32) (l3 : Int32) (s0 : Int32) (X : zX) : Option (Int32 × zX) :=
  (g190 n  X).bind fun p1 =>
  if (p1.2.1 69) = 3 then
    gb230_90 n  l1 l2 l3 s0 1 p1.2
  else
    gb230_90 n  l1 l2 l3 s0 0 p1.2
set_option maxRecDepth 20000 in
theorem rb230_70 {n : Nat} {h0 : zH} (hl : Fx h0)   {l1 : Int32} {l2 : Int32} {l3 : Int32} {s0 : Int32} {X : zX} {p : Int32 × zX} (hG : gb230_70 n  l1 l2 l3 s0 X = some p) : b230_70 n  159 l1 l2 l3 s0 (mq h0 X) = some (p.1, mq h0 p.2) := by
  unfold gb230_70 at hG
  unfold b230_70
  refine zgd_eq (m_isO hl) ?_
  replace hG := zbnd hG
  obtain ⟨p1, e2, hG⟩ := hG
  refine bnd_eq (r190 hl e2) ?_
  refine bnd_eq (mgI_69 hl) ?_
  by_cases c3 : (p1.2.1 69) = 3
  · rw [if_pos c3] at hG
    refine (if_pos c3).trans ?_
    exact rb230_90 hl  hG
  · rw [if_neg c3] at hG
    refine (if_neg c3).trans ?_
    exact rb230_90 hl  hG
def gb230_46 (n : Nat)  (l1 : Int32) (l2 : Int32) (l3 : Int32) (X : zX) : Option (Int32 × zX) :=
  (g203 n  X).bind fun p1 =>
  (g200 n p1.1 p1.2).bind fun p3 =>
  if (p3.2.1 73) = (-1) then
    (g206 n  p3.2).bind fun p6 =>
    gb230_70 n  l1 l2 l3 p6.1 p6.2
  else
    gb230_70 n  l1 l2 l3 0 p3.2
set_option maxRecDepth 20000 in
theorem rb230_46 {n : Nat} {h0 : zH} (hl : Fx h0)   {l1 : Int32} {l2 : Int32} {l3 : Int32} {X : zX} {p : Int32 × zX} (hG : gb230_46 n  l1 l2 l3 X = some p) : b230_46 n  159 l1 l2 l3 (mq h0 X) = some (p.1, mq h0 p.2) := by
  unfold gb230_46 at hG
  unfold b230_46
  refine zgd_eq (m_isO hl) ?_
  replace hG := zbnd hG
  obtain ⟨p1, e2, hG⟩ := hG
  refine bnd_eq (r203 hl e2) ?_
  refine zgd_eq (m_isO hl) ?_
  replace hG := zbnd hG
  obtain ⟨p3, e4, hG⟩ := hG
  refine bnd_eq (r200 hl e4) ?_
  refine bnd_eq (mgI_73 hl) ?_
  by_cases c5 : (p3.2.1 73) = (-1)
  · rw [if_pos c5] at hG
    refine (if_pos c5).trans ?_
    refine zgd_eq (m_isO hl) ?_
    replace hG := zbnd hG
    obtain ⟨p6, e7, hG⟩ := hG
    refine bnd_eq (r206 hl e7) ?_
    exact rb230_70 hl  hG
  · rw [if_neg c5] at hG
    refine (if_neg c5).trans ?_
    exact rb230_70 hl  hG
def gb230_19 (n : Nat)  (l1 : Int32) (l2 : Int32) (X : zX) : Option (Int32 × zX) :=
  (g190 n  X).bind fun p1 =>
  if l2 = 0 then
    gb230_46 n  l1 l2 0 p1.2
  else
    if (p1.2.1 73) = (-1) then
      (g231 n  p1.2).bind fun p5 =>
      (g190 n  p5.2).bind fun p7 =>
      gb230_46 n  l1 l2 p5.1 p7.2
    else
      gb230_46 n  l1 l2 0 p1.2
set_option maxRecDepth 20000 in
theorem rb230_19 {n : Nat} {h0 : zH} (hl : Fx h0)   {l1 : Int32} {l2 : Int32} {X : zX} {p : Int32 × zX} (hG : gb230_19 n  l1 l2 X = some p) : b230_19 n  159 l1 l2 (mq h0 X) = some (p.1, mq h0 p.2) := by
  unfold gb230_19 at hG
  unfold b230_19
  refine zgd_eq (m_isO hl) ?_
  replace hG := zbnd hG
  obtain ⟨p1, e2, hG⟩ := hG
  refine bnd_eq (r190 hl e2) ?_
  by_cases c3 : l2 = 0
  · rw [if_pos c3] at hG
    refine (if_pos c3).trans ?_
    exact rb230_46 hl  hG
  · rw [if_neg c3] at hG
    refine (if_neg c3).trans ?_
    refine bnd_eq (mgI_73 hl) ?_
    by_cases c4 : (p1.2.1 73) = (-1)
    · rw [if_pos c4] at hG
      refine (if_pos c4).trans ?_
      refine zgd_eq (m_isO hl) ?_
      replace hG := zbnd hG
      obtain ⟨p5, e6, hG⟩ := hG
      refine bnd_eq (r231 hl e6) ?_
      refine zgd_eq (m_isO hl) ?_
      replace hG := zbnd hG
      obtain ⟨p7, e8, hG⟩ := hG
      refine bnd_eq (r190 hl e8) ?_
      exact rb230_46 hl  hG
    · rw [if_neg c4] at hG
      refine (if_neg c4).trans ?_
      exact rb230_46 hl  hG
def g230 (n : Nat) (y1 : Int32) (y2 : Int32) (X : zX) : Option (Int32 × zX) :=
  (rd (X.2.2 42) (X.1 4)).bind fun x2 =>
  if x2 = 100 then
    (g195 n 5 X).bind fun p5 =>
    gb230_19 n  y1 y2 p5.2
  else
    gb230_19 n  y1 y2 X
set_option maxRecDepth 20000 in
theorem r230 {n : Nat} {h0 : zH} (hl : Fx h0) {y1 : Int32} {y2 : Int32} {X : zX} {p : Int32 × zX} (hG : g230 n y1 y2 X = some p) : f230 n 159 y1 y2 (mq h0 X) = some (p.1, mq h0 p.2) := by
  unfold g230 at hG
  unfold f230
  refine bnd_eq (mgR_46 hl) ?_
  refine bnd_eq (mgI_4 hl) ?_
  refine bnd_eq rfl ?_
  replace hG := zbnd hG
  obtain ⟨x2, e3, hG⟩ := hG
  refine bnd_eq (m_aI hl (i := 42) (by decide) rfl e3) ?_
  by_cases c4 : x2 = 100
  · rw [if_pos c4] at hG
    refine (if_pos c4).trans ?_
    refine zgd_eq (m_isO hl) ?_
    replace hG := zbnd hG
    obtain ⟨p5, e6, hG⟩ := hG
    refine bnd_eq (r195 hl e6) ?_
    exact rb230_19 hl  hG
  · rw [if_neg c4] at hG
    refine (if_neg c4).trans ?_
    exact rb230_19 hl  hG
def gb229_44 (n : Nat)  (l1 : Int32) (l2 : Int32) (l3 : Int32) (l4 : Int32) (X : zX) : Option (Int32 × zX) :=
  if (X.1 73) = (-1) then
    (rd (X.2.2 39) (X.1 4)).bind fun x3 =>
    zgd (bkO (X.1 4) 40 ((240 * (X.1 4)) + x3)) <|
    (wr X 40 ((240 * (X.1 4)) + x3) l3).bind fun X6 =>
    zgd (bkO (X6.1 4) 41 ((240 * (X.1 4)) + x3)) <|
    (wr X6 41 ((240 * (X.1 4)) + x3) l4).bind fun X10 =>
    (rd (X10.2.2 39) (X10.1 4)).bind fun x14 =>
    zgd (bkO (X10.1 4) 39 (X10.1 4)) <|
    (wr X10 39 (X10.1 4) (x14 + 1)).bind fun X16 =>
    (rd (X16.2.2 39) (X16.1 4)).bind fun x20 =>
    some ((x20 - 1), X16)
  else
    some (0, X)
set_option maxRecDepth 20000 in
theorem rb229_44 {n : Nat} {h0 : zH} (hl : Fx h0)   {l1 : Int32} {l2 : Int32} {l3 : Int32} {l4 : Int32} {X : zX} {p : Int32 × zX} (hG : gb229_44 n  l1 l2 l3 l4 X = some p) : b229_44 n  159 l1 l2 l3 l4 (mq h0 X) = some (p.1, mq h0 p.2) := by
  unfold gb229_44 at hG
  unfold b229_44
  refine bnd_eq (mgI_73 hl) ?_
  by_cases c1 : (X.1 73) = (-1)
  · rw [if_pos c1] at hG
    refine (if_pos c1).trans ?_
    refine bnd_eq (mgI_4 hl) ?_
    refine bnd_eq (mgR_43 hl) ?_
    refine bnd_eq (mgI_4 hl) ?_
    refine bnd_eq rfl ?_
    replace hG := zbnd hG
    obtain ⟨x3, e4, hG⟩ := hG
    refine bnd_eq (m_aI hl (i := 39) (by decide) rfl e4) ?_
    refine bnd_eq (mgR_44 hl) ?_
    refine bnd_eq rfl ?_
    replace hG := zgd_some hG
    obtain ⟨g8, hG⟩ := hG
    replace hG := zbnd hG
    obtain ⟨X6, e7, hG⟩ := hG
    refine bnd_eq (m_sI hl (i := 40) (by decide) rfl e7) ?_
    refine bnd_eq (mgR_45 hl) ?_
    refine bnd_eq rfl ?_
    replace hG := zgd_some hG
    obtain ⟨g12, hG⟩ := hG
    replace hG := zbnd hG
    obtain ⟨X10, e11, hG⟩ := hG
    refine bnd_eq (m_sI hl (i := 41) (by decide) rfl e11) ?_
    refine bnd_eq (mgR_43 hl) ?_
    refine bnd_eq (mgI_4 hl) ?_
    refine bnd_eq rfl ?_
    replace hG := zbnd hG
    obtain ⟨x14, e15, hG⟩ := hG
    refine bnd_eq (m_aI hl (i := 39) (by decide) rfl e15) ?_
    replace hG := zgd_some hG
    obtain ⟨g18, hG⟩ := hG
    replace hG := zbnd hG
    obtain ⟨X16, e17, hG⟩ := hG
    refine bnd_eq (m_sI hl (i := 39) (by decide) rfl e17) ?_
    refine bnd_eq (mgR_43 hl) ?_
    refine bnd_eq (mgI_4 hl) ?_
    refine bnd_eq rfl ?_
    replace hG := zbnd hG
    obtain ⟨x20, e21, hG⟩ := hG
    refine bnd_eq (m_aI hl (i := 39) (by decide) rfl e21) ?_
    replace hG := Option.some.inj hG
    subst hG
    rfl
  · rw [if_neg c1] at hG
    refine (if_neg c1).trans ?_
    replace hG := Option.some.inj hG
    subst hG
    rfl
def gb229_27 (n : Nat)  (l1 : Int32) (l2 : Int32) (l3 : Int32) (l4 : Int32) (X : zX) : Option (Int32 × zX) :=
  (g230 n l1 l2 X).bind fun p1 =>
  gb229_44 n  l1 l2 p1.1 l4 p1.2
set_option maxRecDepth 20000 in
theorem rb229_27 {n : Nat} {h0 : zH} (hl : Fx h0)   {l1 : Int32} {l2 : Int32} {l3 : Int32} {l4 : Int32} {X : zX} {p : Int32 × zX} (hG : gb229_27 n  l1 l2 l3 l4 X = some p) : b229_27 n  159 l1 l2 l3 l4 (mq h0 X) = some (p.1, mq h0 p.2) := by
  unfold gb229_27 at hG
  unfold b229_27
  refine zgd_eq (m_isO hl) ?_
  replace hG := zbnd hG
  obtain ⟨p1, e2, hG⟩ := hG
  refine bnd_eq (r230 hl e2) ?_
  exact rb229_44 hl  hG
def g229 (n : Nat) (y1 : Int32) (X : zX) : Option (Int32 × zX) :=
  (g213 n 77 X).bind fun p1 =>
  if p1.1 = 0 then
    (g213 n 79 p1.2).bind fun p4 =>
    if p4.1 = 0 then
      (g232 n y1 p4.2).bind fun p7 =>
      gb229_44 n  y1 p1.1 (-1) p7.1 p7.2
    else
      gb229_27 n  y1 p1.1 (-1) 0 p4.2
  else
    gb229_27 n  y1 p1.1 (-1) 0 p1.2
set_option maxRecDepth 20000 in
theorem r229 {n : Nat} {h0 : zH} (hl : Fx h0) {y1 : Int32} {X : zX} {p : Int32 × zX} (hG : g229 n y1 X = some p) : f229 n 159 y1 (mq h0 X) = some (p.1, mq h0 p.2) := by
  unfold g229 at hG
  unfold f229
  refine zgd_eq (m_isO hl) ?_
  replace hG := zbnd hG
  obtain ⟨p1, e2, hG⟩ := hG
  refine bnd_eq (r213 hl e2) ?_
  by_cases c3 : p1.1 = 0
  · rw [if_pos c3] at hG
    refine (if_pos c3).trans ?_
    refine zgd_eq (m_isO hl) ?_
    replace hG := zbnd hG
    obtain ⟨p4, e5, hG⟩ := hG
    refine bnd_eq (r213 hl e5) ?_
    by_cases c6 : p4.1 = 0
    · rw [if_pos c6] at hG
      refine (if_pos c6).trans ?_
      refine zgd_eq (m_isO hl) ?_
      replace hG := zbnd hG
      obtain ⟨p7, e8, hG⟩ := hG
      refine bnd_eq (r232 hl e8) ?_
      exact rb229_44 hl  hG
    · rw [if_neg c6] at hG
      refine (if_neg c6).trans ?_
      exact rb229_27 hl  hG
  · rw [if_neg c3] at hG
    refine (if_neg c3).trans ?_
    exact rb229_27 hl  hG
def gb233_232 (n : Nat)  (l1 : Int32) (l2 : Int32) (l3 : Int32) (s0 : Int32) (s1 : Int32) (X : zX) : Option (Unit × zX) :=
  zgd (bkO (X.1 4) 22 s1) <|
  (wr X 22 s1 s0).bind fun X1 =>
  (rd (X1.2.2 16) l1).bind fun x5 =>
  zgd (bkO (X1.1 4) 16 l1) <|
  (wr X1 16 l1 (x5 + 1)).bind fun X7 =>
  (g190 n  X7).bind fun p10 =>
  (g208 n 59 p10.2).bind fun p12 =>
  some ((), p12.2)
set_option maxRecDepth 20000 in
theorem rb233_232 {n : Nat} {h0 : zH} (hl : Fx h0)   {l1 : Int32} {l2 : Int32} {l3 : Int32} {s0 : Int32} {s1 : Int32} {X : zX} {p : Unit × zX} (hG : gb233_232 n  l1 l2 l3 s0 s1 X = some p) : b233_232 n  159 l1 l2 l3 s0 s1 (some 182) (mq h0 X) = some (p.1, mq h0 p.2) := by
  unfold gb233_232 at hG
  unfold b233_232
  refine bnd_eq rfl ?_
  replace hG := zgd_some hG
  obtain ⟨g3, hG⟩ := hG
  replace hG := zbnd hG
  obtain ⟨X1, e2, hG⟩ := hG
  refine bnd_eq (m_sI hl (i := 22) (by decide) rfl e2) ?_
  refine bnd_eq (mgR_20 hl) ?_
  refine bnd_eq rfl ?_
  replace hG := zbnd hG
  obtain ⟨x5, e6, hG⟩ := hG
  refine bnd_eq (m_aI hl (i := 16) (by decide) rfl e6) ?_
  replace hG := zgd_some hG
  obtain ⟨g9, hG⟩ := hG
  replace hG := zbnd hG
  obtain ⟨X7, e8, hG⟩ := hG
  refine bnd_eq (m_sI hl (i := 16) (by decide) rfl e8) ?_
  refine zgd_eq (m_isO hl) ?_
  replace hG := zbnd hG
  obtain ⟨p10, e11, hG⟩ := hG
  refine bnd_eq (r190 hl e11) ?_
  refine zgd_eq (m_isO hl) ?_
  replace hG := zbnd hG
  obtain ⟨p12, e13, hG⟩ := hG
  refine bnd_eq (r208 hl e13) ?_
  replace hG := Option.some.inj hG
  subst hG
  rfl
def gb233_208 (n : Nat)  (l1 : Int32) (l2 : Int32) (l3 : Int32) (s0 : Int32) (s1 : Int32) (X : zX) : Option (Unit × zX) :=
  zgd (bkO (X.1 4) 21 s1) <|
  (wr X 21 s1 s0).bind fun X1 =>
  (rd (X1.2.2 20) l2).bind fun x6 =>
  if x6 = 2 then
    (g206 n  X1).bind fun p9 =>
    gb233_232 n  l1 l2 l3 p9.1 l2 p9.2
  else
    gb233_232 n  l1 l2 l3 0 l2 X1
set_option maxRecDepth 20000 in
theorem rb233_208 {n : Nat} {h0 : zH} (hl : Fx h0)   {l1 : Int32} {l2 : Int32} {l3 : Int32} {s0 : Int32} {s1 : Int32} {X : zX} {p : Unit × zX} (hG : gb233_208 n  l1 l2 l3 s0 s1 X = some p) : b233_208 n  159 l1 l2 l3 s0 s1 (some 181) (mq h0 X) = some (p.1, mq h0 p.2) := by
  unfold gb233_208 at hG
  unfold b233_208
  refine bnd_eq rfl ?_
  replace hG := zgd_some hG
  obtain ⟨g3, hG⟩ := hG
  replace hG := zbnd hG
  obtain ⟨X1, e2, hG⟩ := hG
  refine bnd_eq (m_sI hl (i := 21) (by decide) rfl e2) ?_
  refine bnd_eq (mgR_26 hl) ?_
  refine bnd_eq (mgR_24 hl) ?_
  refine bnd_eq rfl ?_
  replace hG := zbnd hG
  obtain ⟨x6, e7, hG⟩ := hG
  refine bnd_eq (m_aI hl (i := 20) (by decide) rfl e7) ?_
  by_cases c8 : x6 = 2
  · rw [if_pos c8] at hG
    refine (if_pos c8).trans ?_
    refine zgd_eq (m_isO hl) ?_
    replace hG := zbnd hG
    obtain ⟨p9, e10, hG⟩ := hG
    refine bnd_eq (r206 hl e10) ?_
    exact rb233_232 hl  hG
  · rw [if_neg c8] at hG
    refine (if_neg c8).trans ?_
    exact rb233_232 hl  hG
def gb233_176 (n : Nat)  (l1 : Int32) (l2 : Int32) (l3 : Int32) (s0 : Int32) (s1 : Int32) (X : zX) : Option (Unit × zX) :=
  zgd (bkO (X.1 4) 20 s1) <|
  (wr X 20 s1 s0).bind fun X1 =>
  if l3 = 0 then
    gb233_208 n  l1 l2 l3 (X1.1 72) l2 X1
  else
    (g213 n 83 X1).bind fun p6 =>
    if p6.1 = 0 then
      gb233_208 n  l1 l2 l3 0 l2 p6.2
    else
      gb233_208 n  l1 l2 l3 1 l2 p6.2
set_option maxRecDepth 20000 in
theorem rb233_176 {n : Nat} {h0 : zH} (hl : Fx h0)   {l1 : Int32} {l2 : Int32} {l3 : Int32} {s0 : Int32} {s1 : Int32} {X : zX} {p : Unit × zX} (hG : gb233_176 n  l1 l2 l3 s0 s1 X = some p) : b233_176 n  159 l1 l2 l3 s0 s1 (some 180) (mq h0 X) = some (p.1, mq h0 p.2) := by
  unfold gb233_176 at hG
  unfold b233_176
  refine bnd_eq rfl ?_
  replace hG := zgd_some hG
  obtain ⟨g3, hG⟩ := hG
  replace hG := zbnd hG
  obtain ⟨X1, e2, hG⟩ := hG
  refine bnd_eq (m_sI hl (i := 20) (by decide) rfl e2) ?_
  refine bnd_eq (mgR_25 hl) ?_
  by_cases c5 : l3 = 0
  · rw [if_pos c5] at hG
    refine (if_pos c5).trans ?_
    refine bnd_eq (mgI_72 hl) ?_
    exact rb233_208 hl  hG
  · rw [if_neg c5] at hG
    refine (if_neg c5).trans ?_
    refine zgd_eq (m_isO hl) ?_
    replace hG := zbnd hG
    obtain ⟨p6, e7, hG⟩ := hG
    refine bnd_eq (r213 hl e7) ?_
    by_cases c8 : p6.1 = 0
    · rw [if_pos c8] at hG
      refine (if_pos c8).trans ?_
      exact rb233_208 hl  hG
    · rw [if_neg c8] at hG
      refine (if_neg c8).trans ?_
      exact rb233_208 hl  hG
def gb233_128 (n : Nat)  (l1 : Int32) (l2 : Int32) (l3 : Int32) (s0 : Int32) (X : zX) : Option (Unit × zX) :=
  (g200 n s0 X).bind fun p1 =>
  if (p1.2.1 73) = (-1) then
    zgd (bkO (p1.2.1 4) 23 l2) <|
    (wr p1.2 23 l2 (p1.2.1 70)).bind fun X5 =>
    if l3 = 0 then
      if (X5.1 69) = 2 then
        gb233_176 n  l1 l2 l3 1 l2 X5
      else
        gb233_176 n  l1 l2 l3 2 l2 X5
    else
      gb233_176 n  l1 l2 l3 0 l2 X5
  else
    some ((), p1.2)
set_option maxRecDepth 20000 in
theorem rb233_128 {n : Nat} {h0 : zH} (hl : Fx h0)   {l1 : Int32} {l2 : Int32} {l3 : Int32} {s0 : Int32} {X : zX} {p : Unit × zX} (hG : gb233_128 n  l1 l2 l3 s0 X = some p) : b233_128 n  159 l1 l2 l3 s0 159 (mq h0 X) = some (p.1, mq h0 p.2) := by
  unfold gb233_128 at hG
  unfold b233_128
  refine zgd_eq (m_isO hl) ?_
  replace hG := zbnd hG
  obtain ⟨p1, e2, hG⟩ := hG
  refine bnd_eq (r200 hl e2) ?_
  refine bnd_eq (mgI_73 hl) ?_
  by_cases c3 : (p1.2.1 73) = (-1)
  · rw [if_pos c3] at hG
    refine (if_pos c3).trans ?_
    refine bnd_eq (mgR_27 hl) ?_
    refine bnd_eq (mgI_70 hl) ?_
    refine bnd_eq rfl ?_
    replace hG := zgd_some hG
    obtain ⟨g7, hG⟩ := hG
    replace hG := zbnd hG
    obtain ⟨X5, e6, hG⟩ := hG
    refine bnd_eq (m_sI hl (i := 23) (by decide) rfl e6) ?_
    refine bnd_eq (mgR_24 hl) ?_
    by_cases c9 : l3 = 0
    · rw [if_pos c9] at hG
      refine (if_pos c9).trans ?_
      refine bnd_eq (mgI_69 hl) ?_
      by_cases c10 : (X5.1 69) = 2
      · rw [if_pos c10] at hG
        refine (if_pos c10).trans ?_
        exact rb233_176 hl  hG
      · rw [if_neg c10] at hG
        refine (if_neg c10).trans ?_
        exact rb233_176 hl  hG
    · rw [if_neg c9] at hG
      refine (if_neg c9).trans ?_
      exact rb233_176 hl  hG
  · rw [if_neg c3] at hG
    refine (if_neg c3).trans ?_
    replace hG := Option.some.inj hG
    subst hG
    rfl
def gb233_123 (n : Nat)  (l1 : Int32) (l2 : Int32) (l3 : Int32) (X : zX) : Option (Unit × zX) :=
  gb233_128 n  l1 l2 l3 1 X
set_option maxRecDepth 20000 in
theorem rb233_123 {n : Nat} {h0 : zH} (hl : Fx h0)   {l1 : Int32} {l2 : Int32} {l3 : Int32} {X : zX} {p : Unit × zX} (hG : gb233_123 n  l1 l2 l3 X = some p) : b233_123 n  159 l1 l2 l3 159 (mq h0 X) = some (p.1, mq h0 p.2) := by
  unfold gb233_123 at hG
  unfold b233_123
  exact rb233_128 hl  hG
def gb233_102 (n : Nat)  (l1 : Int32) (l2 : Int32) (s0 : Int32) (X : zX) : Option (Unit × zX) :=
  if (X.1 69) = 2 then
    gb233_123 n  l1 l2 s0 X
  else
    if s0 = 0 then
      (g203 n  X).bind fun p3 =>
      if p3.1 = 0 then
        gb233_128 n  l1 l2 s0 0 p3.2
      else
        gb233_123 n  l1 l2 s0 p3.2
    else
      gb233_123 n  l1 l2 s0 X
set_option maxRecDepth 20000 in
theorem rb233_102 {n : Nat} {h0 : zH} (hl : Fx h0)   {l1 : Int32} {l2 : Int32} {s0 : Int32} {X : zX} {p : Unit × zX} (hG : gb233_102 n  l1 l2 s0 X = some p) : b233_102 n  159 l1 l2 s0 (mq h0 X) = some (p.1, mq h0 p.2) := by
  unfold gb233_102 at hG
  unfold b233_102
  refine bnd_eq (mgI_69 hl) ?_
  by_cases c1 : (X.1 69) = 2
  · rw [if_pos c1] at hG
    refine (if_pos c1).trans ?_
    exact rb233_123 hl  hG
  · rw [if_neg c1] at hG
    refine (if_neg c1).trans ?_
    by_cases c2 : s0 = 0
    · rw [if_pos c2] at hG
      refine (if_pos c2).trans ?_
      refine zgd_eq (m_isO hl) ?_
      replace hG := zbnd hG
      obtain ⟨p3, e4, hG⟩ := hG
      refine bnd_eq (r203 hl e4) ?_
      by_cases c5 : p3.1 = 0
      · rw [if_pos c5] at hG
        refine (if_pos c5).trans ?_
        exact rb233_128 hl  hG
      · rw [if_neg c5] at hG
        refine (if_neg c5).trans ?_
        exact rb233_123 hl  hG
    · rw [if_neg c2] at hG
      refine (if_neg c2).trans ?_
      exact rb233_123 hl  hG
def gb233_97 (n : Nat)  (l1 : Int32) (l2 : Int32) (X : zX) : Option (Unit × zX) :=
  gb233_102 n  l1 l2 1 X
set_option maxRecDepth 20000 in
theorem rb233_97 {n : Nat} {h0 : zH} (hl : Fx h0)   {l1 : Int32} {l2 : Int32} {X : zX} {p : Unit × zX} (hG : gb233_97 n  l1 l2 X = some p) : b233_97 n  159 l1 l2 (mq h0 X) = some (p.1, mq h0 p.2) := by
  unfold gb233_97 at hG
  unfold b233_97
  exact rb233_102 hl  hG
def gb233_15 (n : Nat)  (l1 : Int32) (X : zX) : Option (Unit × zX) :=
  (g190 n  X).bind fun p1 =>
  (g203 n  p1.2).bind fun p3 =>
  (g200 n p3.1 p3.2).bind fun p5 =>
  if (p5.2.1 73) = (-1) then
    (rd (p5.2.2.2 16) l1).bind fun x9 =>
    (g206 n  p5.2).bind fun p12 =>
    zgd (bkO (p12.2.1 4) 17 ((4 * l1) + x9)) <|
    (wr p12.2 17 ((4 * l1) + x9) p12.1).bind fun X14 =>
    zgd (bkO (X14.1 4) 18 ((4 * l1) + x9)) <|
    (wr X14 18 ((4 * l1) + x9) (X14.1 70)).bind fun X18 =>
    (g190 n  X18).bind fun p21 =>
    (g208 n 61 p21.2).bind fun p23 =>
    (g213 n 83 p23.2).bind fun p25 =>
    if p25.1 = 0 then
      (g213 n 85 p25.2).bind fun p28 =>
      if p28.1 = 0 then
        gb233_102 n  l1 ((4 * l1) + x9) 0 p28.2
      else
        gb233_97 n  l1 ((4 * l1) + x9) p28.2
    else
      gb233_97 n  l1 ((4 * l1) + x9) p25.2
  else
    some ((), p5.2)
set_option maxRecDepth 20000 in
theorem rb233_15 {n : Nat} {h0 : zH} (hl : Fx h0)   {l1 : Int32} {X : zX} {p : Unit × zX} (hG : gb233_15 n  l1 X = some p) : b233_15 n  159 l1 (mq h0 X) = some (p.1, mq h0 p.2) := by
  unfold gb233_15 at hG
  unfold b233_15
  refine zgd_eq (m_isO hl) ?_
  replace hG := zbnd hG
  obtain ⟨p1, e2, hG⟩ := hG
  refine bnd_eq (r190 hl e2) ?_
  refine zgd_eq (m_isO hl) ?_
  replace hG := zbnd hG
  obtain ⟨p3, e4, hG⟩ := hG
  refine bnd_eq (r203 hl e4) ?_
  refine zgd_eq (m_isO hl) ?_
  replace hG := zbnd hG
  obtain ⟨p5, e6, hG⟩ := hG
  refine bnd_eq (r200 hl e6) ?_
  refine bnd_eq (mgI_73 hl) ?_
  by_cases c7 : (p5.2.1 73) = (-1)
  · rw [if_pos c7] at hG
    refine (if_pos c7).trans ?_
    refine bnd_eq (mgR_20 hl) ?_
    refine bnd_eq rfl ?_
    replace hG := zbnd hG
    obtain ⟨x9, e10, hG⟩ := hG
    refine bnd_eq (m_aI hl (i := 16) (by decide) rfl e10) ?_
    refine bnd_eq (mgR_21 hl) ?_
    refine zgd_eq (m_isO hl) ?_
    replace hG := zbnd hG
    obtain ⟨p12, e13, hG⟩ := hG
    refine bnd_eq (r206 hl e13) ?_
    refine bnd_eq rfl ?_
    replace hG := zgd_some hG
    obtain ⟨g16, hG⟩ := hG
    replace hG := zbnd hG
    obtain ⟨X14, e15, hG⟩ := hG
    refine bnd_eq (m_sI hl (i := 17) (by decide) rfl e15) ?_
    refine bnd_eq (mgR_22 hl) ?_
    refine bnd_eq (mgI_70 hl) ?_
    refine bnd_eq rfl ?_
    replace hG := zgd_some hG
    obtain ⟨g20, hG⟩ := hG
    replace hG := zbnd hG
    obtain ⟨X18, e19, hG⟩ := hG
    refine bnd_eq (m_sI hl (i := 18) (by decide) rfl e19) ?_
    refine zgd_eq (m_isO hl) ?_
    replace hG := zbnd hG
    obtain ⟨p21, e22, hG⟩ := hG
    refine bnd_eq (r190 hl e22) ?_
    refine zgd_eq (m_isO hl) ?_
    replace hG := zbnd hG
    obtain ⟨p23, e24, hG⟩ := hG
    refine bnd_eq (r208 hl e24) ?_
    refine zgd_eq (m_isO hl) ?_
    replace hG := zbnd hG
    obtain ⟨p25, e26, hG⟩ := hG
    refine bnd_eq (r213 hl e26) ?_
    by_cases c27 : p25.1 = 0
    · rw [if_pos c27] at hG
      refine (if_pos c27).trans ?_
      refine zgd_eq (m_isO hl) ?_
      replace hG := zbnd hG
      obtain ⟨p28, e29, hG⟩ := hG
      refine bnd_eq (r213 hl e29) ?_
      by_cases c30 : p28.1 = 0
      · rw [if_pos c30] at hG
        refine (if_pos c30).trans ?_
        exact rb233_102 hl  hG
      · rw [if_neg c30] at hG
        refine (if_neg c30).trans ?_
        exact rb233_97 hl  hG
    · rw [if_neg c27] at hG
      refine (if_neg c27).trans ?_
      exact rb233_97 hl  hG
  · rw [if_neg c7] at hG
    refine (if_neg c7).trans ?_
    replace hG := Option.some.inj hG
    subst hG
    rfl
def g233 (n : Nat) (y1 : Int32) (X : zX) : Option (Unit × zX) :=
  (rd (X.2.2 16) y1).bind fun x2 =>
  if x2 = 4 then
    (g195 n 5 X).bind fun p5 =>
    gb233_15 n  y1 p5.2
  else
    gb233_15 n  y1 X
set_option maxRecDepth 20000 in
theorem r233 {n : Nat} {h0 : zH} (hl : Fx h0) {y1 : Int32} {X : zX} {p : Unit × zX} (hG : g233 n y1 X = some p) : f233 n 159 y1 (mq h0 X) = some (p.1, mq h0 p.2) := by
  unfold g233 at hG
  unfold f233
  refine bnd_eq (mgR_20 hl) ?_
  refine bnd_eq rfl ?_
  replace hG := zbnd hG
  obtain ⟨x2, e3, hG⟩ := hG
  refine bnd_eq (m_aI hl (i := 16) (by decide) rfl e3) ?_
  by_cases c4 : x2 = 4
  · rw [if_pos c4] at hG
    refine (if_pos c4).trans ?_
    refine zgd_eq (m_isO hl) ?_
    replace hG := zbnd hG
    obtain ⟨p5, e6, hG⟩ := hG
    refine bnd_eq (r195 hl e6) ?_
    exact rb233_15 hl  hG
  · rw [if_neg c4] at hG
    refine (if_neg c4).trans ?_
    exact rb233_15 hl  hG
def gb234_242 (n : Nat)  (l1 : Int32) (l2 : Int32) (l3 : Int32) (l4 : Int32) (l5 : Int32) (l6 : Int32) (X : zX) : Option (Unit × zX) :=
  (g208 n 59 X).bind fun p1 =>
  some ((), p1.2)
set_option maxRecDepth 20000 in
theorem rb234_242 {n : Nat} {h0 : zH} (hl : Fx h0)   {l1 : Int32} {l2 : Int32} {l3 : Int32} {l4 : Int32} {l5 : Int32} {l6 : Int32} {X : zX} {p : Unit × zX} (hG : gb234_242 n  l1 l2 l3 l4 l5 l6 X = some p) : b234_242 n  159 l1 l2 l3 l4 l5 l6 (mq h0 X) = some (p.1, mq h0 p.2) := by
  unfold gb234_242 at hG
  unfold b234_242
  refine zgd_eq (m_isO hl) ?_
  replace hG := zbnd hG
  obtain ⟨p1, e2, hG⟩ := hG
  refine bnd_eq (r208 hl e2) ?_
  replace hG := Option.some.inj hG
  subst hG
  rfl
def gb234_141 (n : Nat)  (l1 : Int32) (l2 : Int32) (l3 : Int32) (l4 : Int32) (l5 : Int32) (s0 : Int32) (X : zX) : Option (Unit × zX) :=
  if (X.1 73) = (-1) then
    (rd (X.2.2 28) (X.1 4)).bind fun x3 =>
    zgd (bkO (X.1 4) 29 ((100 * (X.1 4)) + x3)) <|
    (wr X 29 ((100 * (X.1 4)) + x3) l3).bind fun X6 =>
    zgd (bkO (X6.1 4) 30 ((100 * (X.1 4)) + x3)) <|
    (wr X6 30 ((100 * (X.1 4)) + x3) l2).bind fun X10 =>
    zgd (bkO (X10.1 4) 31 ((100 * (X.1 4)) + x3)) <|
    (wr X10 31 ((100 * (X.1 4)) + x3) l5).bind fun X14 =>
    zgd (bkO (X14.1 4) 32 ((100 * (X.1 4)) + x3)) <|
    (wr X14 32 ((100 * (X.1 4)) + x3) l4).bind fun X18 =>
    (rd (X18.2.2 58) (X18.1 4)).bind fun x23 =>
    zgd (bkO (X18.1 4) 33 ((100 * (X.1 4)) + x3)) <|
    (wr X18 33 ((100 * (X.1 4)) + x3) x23).bind fun X25 =>
    zgd (bkO (X25.1 4) 34 ((100 * (X.1 4)) + x3)) <|
    (wr X25 34 ((100 * (X.1 4)) + x3) s0).bind fun X29 =>
    (rd (X29.2.2 28) (X29.1 4)).bind fun x33 =>
    zgd (bkO (X29.1 4) 28 (X29.1 4)) <|
    (wr X29 28 (X29.1 4) (x33 + 1)).bind fun X35 =>
    gb234_242 n  l1 l2 l3 l4 l5 s0 X35
  else
    gb234_242 n  l1 l2 l3 l4 l5 s0 X
set_option maxRecDepth 20000 in
theorem rb234_141 {n : Nat} {h0 : zH} (hl : Fx h0)   {l1 : Int32} {l2 : Int32} {l3 : Int32} {l4 : Int32} {l5 : Int32} {s0 : Int32} {X : zX} {p : Unit × zX} (hG : gb234_141 n  l1 l2 l3 l4 l5 s0 X = some p) : b234_141 n  159 l1 l2 l3 l4 l5 s0 (mq h0 X) = some (p.1, mq h0 p.2) := by
  unfold gb234_141 at hG
  unfold b234_141
  refine bnd_eq (mgI_73 hl) ?_
  by_cases c1 : (X.1 73) = (-1)
  · rw [if_pos c1] at hG
    refine (if_pos c1).trans ?_
    refine bnd_eq (mgI_4 hl) ?_
    refine bnd_eq (mgR_32 hl) ?_
    refine bnd_eq (mgI_4 hl) ?_
    refine bnd_eq rfl ?_
    replace hG := zbnd hG
    obtain ⟨x3, e4, hG⟩ := hG
    refine bnd_eq (m_aI hl (i := 28) (by decide) rfl e4) ?_
    refine bnd_eq (mgR_33 hl) ?_
    refine bnd_eq rfl ?_
    replace hG := zgd_some hG
    obtain ⟨g8, hG⟩ := hG
    replace hG := zbnd hG
    obtain ⟨X6, e7, hG⟩ := hG
    refine bnd_eq (m_sI hl (i := 29) (by decide) rfl e7) ?_
    refine bnd_eq (mgR_34 hl) ?_
    refine bnd_eq rfl ?_
    replace hG := zgd_some hG
    obtain ⟨g12, hG⟩ := hG
    replace hG := zbnd hG
    obtain ⟨X10, e11, hG⟩ := hG
    refine bnd_eq (m_sI hl (i := 30) (by decide) rfl e11) ?_
    refine bnd_eq (mgR_35 hl) ?_
    refine bnd_eq rfl ?_
    replace hG := zgd_some hG
    obtain ⟨g16, hG⟩ := hG
    replace hG := zbnd hG
    obtain ⟨X14, e15, hG⟩ := hG
    refine bnd_eq (m_sI hl (i := 31) (by decide) rfl e15) ?_
    refine bnd_eq (mgR_36 hl) ?_
    refine bnd_eq rfl ?_
    replace hG := zgd_some hG
    obtain ⟨g20, hG⟩ := hG
    replace hG := zbnd hG
    obtain ⟨X18, e19, hG⟩ := hG
    refine bnd_eq (m_sI hl (i := 32) (by decide) rfl e19) ?_
    refine bnd_eq (mgR_37 hl) ?_
    refine bnd_eq (mgR_62 hl) ?_
    refine bnd_eq (mgI_4 hl) ?_
    refine bnd_eq rfl ?_
    replace hG := zbnd hG
    obtain ⟨x23, e24, hG⟩ := hG
    refine bnd_eq (m_aI hl (i := 58) (by decide) rfl e24) ?_
    refine bnd_eq rfl ?_
    replace hG := zgd_some hG
    obtain ⟨g27, hG⟩ := hG
    replace hG := zbnd hG
    obtain ⟨X25, e26, hG⟩ := hG
    refine bnd_eq (m_sI hl (i := 33) (by decide) rfl e26) ?_
    refine bnd_eq (mgR_38 hl) ?_
    refine bnd_eq rfl ?_
    replace hG := zgd_some hG
    obtain ⟨g31, hG⟩ := hG
    replace hG := zbnd hG
    obtain ⟨X29, e30, hG⟩ := hG
    refine bnd_eq (m_sI hl (i := 34) (by decide) rfl e30) ?_
    refine bnd_eq (mgR_32 hl) ?_
    refine bnd_eq (mgI_4 hl) ?_
    refine bnd_eq rfl ?_
    replace hG := zbnd hG
    obtain ⟨x33, e34, hG⟩ := hG
    refine bnd_eq (m_aI hl (i := 28) (by decide) rfl e34) ?_
    replace hG := zgd_some hG
    obtain ⟨g37, hG⟩ := hG
    replace hG := zbnd hG
    obtain ⟨X35, e36, hG⟩ := hG
    refine bnd_eq (m_sI hl (i := 28) (by decide) rfl e36) ?_
    exact rb234_242 hl  hG
  · rw [if_neg c1] at hG
    refine (if_neg c1).trans ?_
    exact rb234_242 hl  hG
def gb234_109 (n : Nat)  (l1 : Int32) (l2 : Int32) (l3 : Int32) (l4 : Int32) (l5 : Int32) (s0 : Int32) (X : zX) : Option (Unit × zX) :=
  (g200 n s0 X).bind fun p1 =>
  (g190 n  p1.2).bind fun p3 =>
  if (p3.2.1 73) = (-1) then
    (g229 n ((24 * (p3.2.1 4)) + l3) p3.2).bind fun p6 =>
    gb234_141 n  l1 l2 l3 l4 l5 p6.1 p6.2
  else
    gb234_141 n  l1 l2 l3 l4 l5 0 p3.2
set_option maxRecDepth 20000 in
theorem rb234_109 {n : Nat} {h0 : zH} (hl : Fx h0)   {l1 : Int32} {l2 : Int32} {l3 : Int32} {l4 : Int32} {l5 : Int32} {s0 : Int32} {X : zX} {p : Unit × zX} (hG : gb234_109 n  l1 l2 l3 l4 l5 s0 X = some p) : b234_109 n  159 l1 l2 l3 l4 l5 s0 159 (mq h0 X) = some (p.1, mq h0 p.2) := by
  unfold gb234_109 at hG
  unfold b234_109
  refine zgd_eq (m_isO hl) ?_
  replace hG := zbnd hG
  obtain ⟨p1, e2, hG⟩ := hG
  refine bnd_eq (r200 hl e2) ?_
  refine zgd_eq (m_isO hl) ?_
  replace hG := zbnd hG
  obtain ⟨p3, e4, hG⟩ := hG
  refine bnd_eq (r190 hl e4) ?_
  refine bnd_eq (mgI_73 hl) ?_
  by_cases c5 : (p3.2.1 73) = (-1)
  · rw [if_pos c5] at hG
    refine (if_pos c5).trans ?_
    refine bnd_eq (mgI_4 hl) ?_
    refine zgd_eq (m_isO hl) ?_
    replace hG := zbnd hG
    obtain ⟨p6, e7, hG⟩ := hG
    refine bnd_eq (r229 hl e7) ?_
    exact rb234_141 hl  hG
  · rw [if_neg c5] at hG
    refine (if_neg c5).trans ?_
    exact rb234_141 hl  hG
def gb234_92 (n : Nat)  (l1 : Int32) (l2 : Int32) (l3 : Int32) (l4 : Int32) (s0 : Int32) (X : zX) : Option (Unit × zX) :=
  if (X.1 69) = 6 then
    gb234_109 n  l1 l2 l3 l4 s0 1 X
  else
    gb234_109 n  l1 l2 l3 l4 s0 0 X
set_option maxRecDepth 20000 in
theorem rb234_92 {n : Nat} {h0 : zH} (hl : Fx h0)   {l1 : Int32} {l2 : Int32} {l3 : Int32} {l4 : Int32} {s0 : Int32} {X : zX} {p : Unit × zX} (hG : gb234_92 n  l1 l2 l3 l4 s0 X = some p) : b234_92 n  159 l1 l2 l3 l4 s0 (mq h0 X) = some (p.1, mq h0 p.2) := by
  unfold gb234_92 at hG
  unfold b234_92
  refine bnd_eq (mgI_69 hl) ?_
  by_cases c1 : (X.1 69) = 6
  · rw [if_pos c1] at hG
    refine (if_pos c1).trans ?_
    exact rb234_109 hl  hG
  · rw [if_neg c1] at hG
    refine (if_neg c1).trans ?_
    exact rb234_109 hl  hG
def gb234_64 (n : Nat)  (l1 : Int32) (l2 : Int32) (s0 : Int32) (X : zX) : Option (Unit × zX) :=
  (rd (X.2.2 58) (X.1 4)).bind fun x2 =>
  if (X.1 73) = (-1) then
    (g210 n  X).bind fun p5 =>
    gb234_92 n  l1 l2 s0 x2 p5.1 p5.2
  else
    gb234_92 n  l1 l2 s0 x2 0 X
set_option maxRecDepth 20000 in
theorem rb234_64 {n : Nat} {h0 : zH} (hl : Fx h0)   {l1 : Int32} {l2 : Int32} {s0 : Int32} {X : zX} {p : Unit × zX} (hG : gb234_64 n  l1 l2 s0 X = some p) : b234_64 n  159 l1 l2 s0 (mq h0 X) = some (p.1, mq h0 p.2) := by
  unfold gb234_64 at hG
  unfold b234_64
  refine bnd_eq (mgR_62 hl) ?_
  refine bnd_eq (mgI_4 hl) ?_
  refine bnd_eq rfl ?_
  replace hG := zbnd hG
  obtain ⟨x2, e3, hG⟩ := hG
  refine bnd_eq (m_aI hl (i := 58) (by decide) rfl e3) ?_
  refine bnd_eq (mgI_73 hl) ?_
  by_cases c4 : (X.1 73) = (-1)
  · rw [if_pos c4] at hG
    refine (if_pos c4).trans ?_
    refine zgd_eq (m_isO hl) ?_
    replace hG := zbnd hG
    obtain ⟨p5, e6, hG⟩ := hG
    refine bnd_eq (r210 hl e6) ?_
    exact rb234_92 hl  hG
  · rw [if_neg c4] at hG
    refine (if_neg c4).trans ?_
    exact rb234_92 hl  hG
def gb234_27 (n : Nat)  (l1 : Int32) (l2 : Int32) (X : zX) : Option (Unit × zX) :=
  (g190 n  X).bind fun p1 =>
  if l2 = (-1) then
    gb234_64 n  l1 l2 l1 p1.2
  else
    (rd (p1.2.2.2 9) (p1.2.1 4)).bind fun x6 =>
    (g216 n 10 (24 * (p1.2.1 4)) x6 p1.2).bind fun p8 =>
    gb234_64 n  l1 l2 p8.1 p8.2
set_option maxRecDepth 20000 in
theorem rb234_27 {n : Nat} {h0 : zH} (hl : Fx h0)   {l1 : Int32} {l2 : Int32} {X : zX} {p : Unit × zX} (hG : gb234_27 n  l1 l2 X = some p) : b234_27 n  159 l1 l2 (mq h0 X) = some (p.1, mq h0 p.2) := by
  unfold gb234_27 at hG
  unfold b234_27
  refine zgd_eq (m_isO hl) ?_
  replace hG := zbnd hG
  obtain ⟨p1, e2, hG⟩ := hG
  refine bnd_eq (r190 hl e2) ?_
  by_cases c3 : l2 = (-1)
  · rw [if_pos c3] at hG
    refine (if_pos c3).trans ?_
    exact rb234_64 hl  hG
  · rw [if_neg c3] at hG
    refine (if_neg c3).trans ?_
    refine bnd_eq (mgR_14 hl) ?_
    refine bnd_eq (mgI_4 hl) ?_
    refine bnd_eq (mgR_13 hl) ?_
    refine bnd_eq (mgI_4 hl) ?_
    refine bnd_eq rfl ?_
    replace hG := zbnd hG
    obtain ⟨x6, e7, hG⟩ := hG
    refine bnd_eq (m_aI hl (i := 9) (by decide) rfl e7) ?_
    refine zgd_eq (m_isO hl) ?_
    replace hG := zbnd hG
    obtain ⟨p8, e9, hG⟩ := hG
    refine bnd_eq (r216 hl e9) ?_
    exact rb234_64 hl  hG
def g234 (n : Nat) (y1 : Int32) (y2 : Int32) (X : zX) : Option (Unit × zX) :=
  if (X.1 73) = (-1) then
    (rd (X.2.2 28) (X.1 4)).bind fun x3 =>
    if x3 = 100 then
      (g195 n 5 X).bind fun p6 =>
      gb234_27 n  y1 y2 p6.2
    else
      gb234_27 n  y1 y2 X
  else
    gb234_27 n  y1 y2 X
set_option maxRecDepth 20000 in
theorem r234 {n : Nat} {h0 : zH} (hl : Fx h0) {y1 : Int32} {y2 : Int32} {X : zX} {p : Unit × zX} (hG : g234 n y1 y2 X = some p) : f234 n 159 y1 y2 (mq h0 X) = some (p.1, mq h0 p.2) := by
  unfold g234 at hG
  unfold f234
  refine bnd_eq (mgI_73 hl) ?_
  by_cases c1 : (X.1 73) = (-1)
  · rw [if_pos c1] at hG
    refine (if_pos c1).trans ?_
    refine bnd_eq (mgR_32 hl) ?_
    refine bnd_eq (mgI_4 hl) ?_
    refine bnd_eq rfl ?_
    replace hG := zbnd hG
    obtain ⟨x3, e4, hG⟩ := hG
    refine bnd_eq (m_aI hl (i := 28) (by decide) rfl e4) ?_
    by_cases c5 : x3 = 100
    · rw [if_pos c5] at hG
      refine (if_pos c5).trans ?_
      refine zgd_eq (m_isO hl) ?_
      replace hG := zbnd hG
      obtain ⟨p6, e7, hG⟩ := hG
      refine bnd_eq (r195 hl e7) ?_
      exact rb234_27 hl  hG
    · rw [if_neg c5] at hG
      refine (if_neg c5).trans ?_
      exact rb234_27 hl  hG
  · rw [if_neg c1] at hG
    refine (if_neg c1).trans ?_
    exact rb234_27 hl  hG
def gb226_327 (n : Nat)  (l1 : Int32) (l2 : Int32) (l3 : Int32) (l4 : Int32) (X : zX) : Option (Unit × zX) :=
  (g208 n 125 X).bind fun p1 =>
  some ((), p1.2)
set_option maxRecDepth 20000 in
theorem rb226_327 {n : Nat} {h0 : zH} (hl : Fx h0)   {l1 : Int32} {l2 : Int32} {l3 : Int32} {l4 : Int32} {X : zX} {p : Unit × zX} (hG : gb226_327 n  l1 l2 l3 l4 X = some p) : b226_327 n  159 l1 l2 l3 l4 (mq h0 X) = some (p.1, mq h0 p.2) := by
  unfold gb226_327 at hG
  unfold b226_327
  refine zgd_eq (m_isO hl) ?_
  replace hG := zbnd hG
  obtain ⟨p1, e2, hG⟩ := hG
  refine bnd_eq (r208 hl e2) ?_
  replace hG := Option.some.inj hG
  subst hG
  rfl
def gb226_306 (n : Nat)  (l1 : Int32) (l2 : Int32) (l3 : Int32) (l4 : Int32) (X : zX) : Option (Unit × zX) :=
  if (X.1 73) = (-1) then
    (rd (X.2.2 9) (X.1 4)).bind fun x3 =>
    zgd (bkO (X.1 4) 9 (X.1 4)) <|
    (wr X 9 (X.1 4) (x3 + 1)).bind fun X5 =>
    gb226_327 n  l1 l2 l3 l4 X5
  else
    gb226_327 n  l1 l2 l3 l4 X
set_option maxRecDepth 20000 in
theorem rb226_306 {n : Nat} {h0 : zH} (hl : Fx h0)   {l1 : Int32} {l2 : Int32} {l3 : Int32} {l4 : Int32} {X : zX} {p : Unit × zX} (hG : gb226_306 n  l1 l2 l3 l4 X = some p) : b226_306 n  159 l1 l2 l3 l4 (mq h0 X) = some (p.1, mq h0 p.2) := by
  unfold gb226_306 at hG
  unfold b226_306
  refine bnd_eq (mgI_73 hl) ?_
  by_cases c1 : (X.1 73) = (-1)
  · rw [if_pos c1] at hG
    refine (if_pos c1).trans ?_
    refine bnd_eq (mgR_13 hl) ?_
    refine bnd_eq (mgI_4 hl) ?_
    refine bnd_eq rfl ?_
    replace hG := zbnd hG
    obtain ⟨x3, e4, hG⟩ := hG
    refine bnd_eq (m_aI hl (i := 9) (by decide) rfl e4) ?_
    replace hG := zgd_some hG
    obtain ⟨g7, hG⟩ := hG
    replace hG := zbnd hG
    obtain ⟨X5, e6, hG⟩ := hG
    refine bnd_eq (m_sI hl (i := 9) (by decide) rfl e6) ?_
    exact rb226_327 hl  hG
  · rw [if_neg c1] at hG
    refine (if_neg c1).trans ?_
    exact rb226_327 hl  hG
def gb226_271 (n : Nat) (q271 : Int32 → Int32 → Int32 → Int32 → zX → Option (Unit × zX)) (l1 : Int32) (l2 : Int32) (l3 : Int32) (l4 : Int32) (X : zX) : Option (Unit × zX) :=
  if (X.1 73) = (-1) then
    (g213 n 75 X).bind fun p2 =>
    if p2.1 = 0 then
      gb226_306 n  l1 l2 l3 l4 p2.2
    else
      (rd (p2.2.2.2 9) (p2.2.1 4)).bind fun x6 =>
      (g234 n x6 (-1) p2.2).bind fun p8 =>
      q271 l1 l2 l3 l4 p8.2
  else
    gb226_306 n  l1 l2 l3 l4 X
set_option maxRecDepth 20000 in
theorem rb226_271 {n : Nat} {h0 : zH} (hl : Fx h0) {q271 : Int32 → Int32 → Int32 → Int32 → zX → Option (Unit × zX)} {r271 : Nat → Int32 → Int32 → Int32 → Int32 → zH → Option (Unit × zH)} (hr271 : ∀ {l1 : Int32} {l2 : Int32} {l3 : Int32} {l4 : Int32} {X : zX} {p : Unit × zX}, q271 l1 l2 l3 l4 X = some p → r271 159 l1 l2 l3 l4 (mq h0 X) = some (p.1, mq h0 p.2)) {l1 : Int32} {l2 : Int32} {l3 : Int32} {l4 : Int32} {X : zX} {p : Unit × zX} (hG : gb226_271 n q271 l1 l2 l3 l4 X = some p) : b226_271 n r271 159 l1 l2 l3 l4 (mq h0 X) = some (p.1, mq h0 p.2) := by
  unfold gb226_271 at hG
  unfold b226_271
  refine bnd_eq (mgI_73 hl) ?_
  by_cases c1 : (X.1 73) = (-1)
  · rw [if_pos c1] at hG
    refine (if_pos c1).trans ?_
    refine zgd_eq (m_isO hl) ?_
    replace hG := zbnd hG
    obtain ⟨p2, e3, hG⟩ := hG
    refine bnd_eq (r213 hl e3) ?_
    by_cases c4 : p2.1 = 0
    · rw [if_pos c4] at hG
      refine (if_pos c4).trans ?_
      exact rb226_306 hl  hG
    · rw [if_neg c4] at hG
      refine (if_neg c4).trans ?_
      refine bnd_eq (mgR_13 hl) ?_
      refine bnd_eq (mgI_4 hl) ?_
      refine bnd_eq rfl ?_
      replace hG := zbnd hG
      obtain ⟨x6, e7, hG⟩ := hG
      refine bnd_eq (m_aI hl (i := 9) (by decide) rfl e7) ?_
      refine zgd_eq (m_isO hl) ?_
      replace hG := zbnd hG
      obtain ⟨p8, e9, hG⟩ := hG
      refine bnd_eq (r234 hl e9) ?_
      exact hr271 hG
  · rw [if_neg c1] at hG
    refine (if_neg c1).trans ?_
    exact rb226_306 hl  hG
def gf226_271 (n : Nat)  (k : Nat) : Int32 → Int32 → Int32 → Int32 → zX → Option (Unit × zX) := Nat.rec (fun _ _ _ _ _ => none) (fun _ ih => gb226_271 n ih) k
theorem rf226_271 {n : Nat} {h0 : zH} (hl : Fx h0)   (k : Nat) : ∀ {l1 : Int32} {l2 : Int32} {l3 : Int32} {l4 : Int32} {X : zX} {p : Unit × zX}, gf226_271 n  k l1 l2 l3 l4 X = some p → f226_271 n  k 159 l1 l2 l3 l4 (mq h0 X) = some (p.1, mq h0 p.2) := by
  induction k with
  | zero => intros; rename_i hG; cases hG
  | succ k ih => intros; rename_i hG; exact rb226_271 (n := n) hl ih hG
def gb226_245 (n : Nat) (q245 : Int32 → Int32 → Int32 → Int32 → zX → Option (Unit × zX)) (l1 : Int32) (l2 : Int32) (l3 : Int32) (l4 : Int32) (X : zX) : Option (Unit × zX) :=
  if (X.1 73) = (-1) then
    (g213 n 73 X).bind fun p2 =>
    if p2.1 = 0 then
      gf226_271 n  n l1 l2 l3 l4 p2.2
    else
      (g233 n l2 p2.2).bind fun p5 =>
      q245 l1 l2 l3 l4 p5.2
  else
    gf226_271 n  n l1 l2 l3 l4 X
set_option maxRecDepth 20000 in
theorem rb226_245 {n : Nat} {h0 : zH} (hl : Fx h0) {q245 : Int32 → Int32 → Int32 → Int32 → zX → Option (Unit × zX)} {r245 : Nat → Int32 → Int32 → Int32 → Int32 → zH → Option (Unit × zH)} (hr245 : ∀ {l1 : Int32} {l2 : Int32} {l3 : Int32} {l4 : Int32} {X : zX} {p : Unit × zX}, q245 l1 l2 l3 l4 X = some p → r245 159 l1 l2 l3 l4 (mq h0 X) = some (p.1, mq h0 p.2)) {l1 : Int32} {l2 : Int32} {l3 : Int32} {l4 : Int32} {X : zX} {p : Unit × zX} (hG : gb226_245 n q245 l1 l2 l3 l4 X = some p) : b226_245 n r245 159 l1 l2 l3 l4 (mq h0 X) = some (p.1, mq h0 p.2) := by
  unfold gb226_245 at hG
  unfold b226_245
  refine bnd_eq (mgI_73 hl) ?_
  by_cases c1 : (X.1 73) = (-1)
  · rw [if_pos c1] at hG
    refine (if_pos c1).trans ?_
    refine zgd_eq (m_isO hl) ?_
    replace hG := zbnd hG
    obtain ⟨p2, e3, hG⟩ := hG
    refine bnd_eq (r213 hl e3) ?_
    by_cases c4 : p2.1 = 0
    · rw [if_pos c4] at hG
      refine (if_pos c4).trans ?_
      exact rf226_271 hl  n hG
    · rw [if_neg c4] at hG
      refine (if_neg c4).trans ?_
      refine zgd_eq (m_isO hl) ?_
      replace hG := zbnd hG
      obtain ⟨p5, e6, hG⟩ := hG
      refine bnd_eq (r233 hl e6) ?_
      exact hr245 hG
  · rw [if_neg c1] at hG
    refine (if_neg c1).trans ?_
    exact rf226_271 hl  n hG
def gf226_245 (n : Nat)  (k : Nat) : Int32 → Int32 → Int32 → Int32 → zX → Option (Unit × zX) := Nat.rec (fun _ _ _ _ _ => none) (fun _ ih => gb226_245 n ih) k
theorem rf226_245 {n : Nat} {h0 : zH} (hl : Fx h0)   (k : Nat) : ∀ {l1 : Int32} {l2 : Int32} {l3 : Int32} {l4 : Int32} {X : zX} {p : Unit × zX}, gf226_245 n  k l1 l2 l3 l4 X = some p → f226_245 n  k 159 l1 l2 l3 l4 (mq h0 X) = some (p.1, mq h0 p.2) := by
  induction k with
  | zero => intros; rename_i hG; cases hG
  | succ k ih => intros; rename_i hG; exact rb226_245 (n := n) hl ih hG
def gb226_222 (n : Nat)  (l1 : Int32) (l2 : Int32) (l3 : Int32) (s0 : Int32) (X : zX) : Option (Unit × zX) :=
  (g208 n 59 X).bind fun p1 =>
  zgd (bkO (p1.2.1 4) 14 l2) <|
  (wr p1.2 14 l2 l3).bind fun X4 =>
  zgd (bkO (X4.1 4) 15 l2) <|
  (wr X4 15 l2 s0).bind fun X8 =>
  gf226_245 n  n l1 l2 l3 s0 X8
set_option maxRecDepth 20000 in
theorem rb226_222 {n : Nat} {h0 : zH} (hl : Fx h0)   {l1 : Int32} {l2 : Int32} {l3 : Int32} {s0 : Int32} {X : zX} {p : Unit × zX} (hG : gb226_222 n  l1 l2 l3 s0 X = some p) : b226_222 n  159 l1 l2 l3 s0 (mq h0 X) = some (p.1, mq h0 p.2) := by
  unfold gb226_222 at hG
  unfold b226_222
  refine zgd_eq (m_isO hl) ?_
  replace hG := zbnd hG
  obtain ⟨p1, e2, hG⟩ := hG
  refine bnd_eq (r208 hl e2) ?_
  refine bnd_eq (mgR_18 hl) ?_
  refine bnd_eq rfl ?_
  replace hG := zgd_some hG
  obtain ⟨g6, hG⟩ := hG
  replace hG := zbnd hG
  obtain ⟨X4, e5, hG⟩ := hG
  refine bnd_eq (m_sI hl (i := 14) (by decide) rfl e5) ?_
  refine bnd_eq (mgR_19 hl) ?_
  refine bnd_eq rfl ?_
  replace hG := zgd_some hG
  obtain ⟨g10, hG⟩ := hG
  replace hG := zbnd hG
  obtain ⟨X8, e9, hG⟩ := hG
  refine bnd_eq (m_sI hl (i := 15) (by decide) rfl e9) ?_
  exact rf226_245 hl  n hG
def gb226_191 (n : Nat)  (l1 : Int32) (l2 : Int32) (s0 : Int32) (X : zX) : Option (Unit × zX) :=
  (g208 n 59 X).bind fun p1 =>
  (g228 n 71 p1.2).bind fun p3 =>
  if (p3.2.1 73) = (-1) then
    (g232 n l2 p3.2).bind fun p6 =>
    gb226_222 n  l1 l2 s0 p6.1 p6.2
  else
    gb226_222 n  l1 l2 s0 0 p3.2
set_option maxRecDepth 20000 in
theorem rb226_191 {n : Nat} {h0 : zH} (hl : Fx h0)   {l1 : Int32} {l2 : Int32} {s0 : Int32} {X : zX} {p : Unit × zX} (hG : gb226_191 n  l1 l2 s0 X = some p) : b226_191 n  159 l1 l2 s0 (mq h0 X) = some (p.1, mq h0 p.2) := by
  unfold gb226_191 at hG
  unfold b226_191
  refine zgd_eq (m_isO hl) ?_
  replace hG := zbnd hG
  obtain ⟨p1, e2, hG⟩ := hG
  refine bnd_eq (r208 hl e2) ?_
  refine zgd_eq (m_isO hl) ?_
  replace hG := zbnd hG
  obtain ⟨p3, e4, hG⟩ := hG
  refine bnd_eq (r228 hl e4) ?_
  refine bnd_eq (mgI_73 hl) ?_
  by_cases c5 : (p3.2.1 73) = (-1)
  · rw [if_pos c5] at hG
    refine (if_pos c5).trans ?_
    refine zgd_eq (m_isO hl) ?_
    replace hG := zbnd hG
    obtain ⟨p6, e7, hG⟩ := hG
    refine bnd_eq (r232 hl e7) ?_
    exact rb226_222 hl  hG
  · rw [if_neg c5] at hG
    refine (if_neg c5).trans ?_
    exact rb226_222 hl  hG
def gb226_161 (n : Nat)  (l1 : Int32) (l2 : Int32) (X : zX) : Option (Unit × zX) :=
  (g208 n 123 X).bind fun p1 =>
  (g228 n 69 p1.2).bind fun p3 =>
  if (p3.2.1 73) = (-1) then
    (g229 n l2 p3.2).bind fun p6 =>
    gb226_191 n  l1 l2 p6.1 p6.2
  else
    gb226_191 n  l1 l2 0 p3.2
set_option maxRecDepth 20000 in
theorem rb226_161 {n : Nat} {h0 : zH} (hl : Fx h0)   {l1 : Int32} {l2 : Int32} {X : zX} {p : Unit × zX} (hG : gb226_161 n  l1 l2 X = some p) : b226_161 n  159 l1 l2 (mq h0 X) = some (p.1, mq h0 p.2) := by
  unfold gb226_161 at hG
  unfold b226_161
  refine zgd_eq (m_isO hl) ?_
  replace hG := zbnd hG
  obtain ⟨p1, e2, hG⟩ := hG
  refine bnd_eq (r208 hl e2) ?_
  refine zgd_eq (m_isO hl) ?_
  replace hG := zbnd hG
  obtain ⟨p3, e4, hG⟩ := hG
  refine bnd_eq (r228 hl e4) ?_
  refine bnd_eq (mgI_73 hl) ?_
  by_cases c5 : (p3.2.1 73) = (-1)
  · rw [if_pos c5] at hG
    refine (if_pos c5).trans ?_
    refine zgd_eq (m_isO hl) ?_
    replace hG := zbnd hG
    obtain ⟨p6, e7, hG⟩ := hG
    refine bnd_eq (r229 hl e7) ?_
    exact rb226_191 hl  hG
  · rw [if_neg c5] at hG
    refine (if_neg c5).trans ?_
    exact rb226_191 hl  hG
def gb226_131 (n : Nat)  (l1 : Int32) (l2 : Int32) (s0 : Int32) (X : zX) : Option (Unit × zX) :=
  (g200 n s0 X).bind fun p1 =>
  (g190 n  p1.2).bind fun p3 =>
  if (p3.2.1 73) = (-1) then
    (rd (p3.2.2.2 11) l2).bind fun x7 =>
    if x7 = 2 then
      (g227 n l2 p3.2).bind fun p10 =>
      gb226_161 n  l1 l2 p10.2
    else
      gb226_161 n  l1 l2 p3.2
  else
    gb226_161 n  l1 l2 p3.2
set_option maxRecDepth 20000 in
theorem rb226_131 {n : Nat} {h0 : zH} (hl : Fx h0)   {l1 : Int32} {l2 : Int32} {s0 : Int32} {X : zX} {p : Unit × zX} (hG : gb226_131 n  l1 l2 s0 X = some p) : b226_131 n  159 l1 l2 s0 159 (mq h0 X) = some (p.1, mq h0 p.2) := by
  unfold gb226_131 at hG
  unfold b226_131
  refine zgd_eq (m_isO hl) ?_
  replace hG := zbnd hG
  obtain ⟨p1, e2, hG⟩ := hG
  refine bnd_eq (r200 hl e2) ?_
  refine zgd_eq (m_isO hl) ?_
  replace hG := zbnd hG
  obtain ⟨p3, e4, hG⟩ := hG
  refine bnd_eq (r190 hl e4) ?_
  refine bnd_eq (mgI_73 hl) ?_
  by_cases c5 : (p3.2.1 73) = (-1)
  · rw [if_pos c5] at hG
    refine (if_pos c5).trans ?_
    refine bnd_eq (mgR_15 hl) ?_
    refine bnd_eq rfl ?_
    replace hG := zbnd hG
    obtain ⟨x7, e8, hG⟩ := hG
    refine bnd_eq (m_aI hl (i := 11) (by decide) rfl e8) ?_
    by_cases c9 : x7 = 2
    · rw [if_pos c9] at hG
      refine (if_pos c9).trans ?_
      refine zgd_eq (m_isO hl) ?_
      replace hG := zbnd hG
      obtain ⟨p10, e11, hG⟩ := hG
      refine bnd_eq (r227 hl e11) ?_
      exact rb226_161 hl  hG
    · rw [if_neg c9] at hG
      refine (if_neg c9).trans ?_
      exact rb226_161 hl  hG
  · rw [if_neg c5] at hG
    refine (if_neg c5).trans ?_
    exact rb226_161 hl  hG
def gb226_19 (n : Nat)   (X : zX) : Option (Unit × zX) :=
  (g190 n  X).bind fun p1 =>
  (rd (p1.2.2.2 9) (p1.2.1 4)).bind fun x5 =>
  (g202 n 10 (24 * (p1.2.1 4)) x5 p1.2).bind fun p7 =>
  (g208 n 58 p7.2).bind fun p9 =>
  if (p9.2.1 73) = (-1) then
    (rd (p9.2.2.2 9) (p9.2.1 4)).bind fun x13 =>
    zgd (bkO (p9.2.1 4) 10 ((24 * (p9.2.1 4)) + x13)) <|
    (wr p9.2 10 ((24 * (p9.2.1 4)) + x13) p7.1).bind fun X16 =>
    (g199 n 67 X16).bind fun p20 =>
    zgd (bkO (p20.2.1 4) 11 ((24 * (p9.2.1 4)) + x13)) <|
    (wr p20.2 11 ((24 * (p9.2.1 4)) + x13) p20.1).bind fun X22 =>
    zgd (bkO (X22.1 4) 12 ((24 * (p9.2.1 4)) + x13)) <|
    (wr X22 12 ((24 * (p9.2.1 4)) + x13) 0).bind fun X26 =>
    zgd (bkO (X26.1 4) 16 ((24 * (p9.2.1 4)) + x13)) <|
    (wr X26 16 ((24 * (p9.2.1 4)) + x13) 0).bind fun X30 =>
    (rd (X30.2.2 11) ((24 * (p9.2.1 4)) + x13)).bind fun x34 =>
    if x34 = (-1) then
      gb226_131 n  p7.1 ((24 * (p9.2.1 4)) + x13) 0 X30
    else
      gb226_131 n  p7.1 ((24 * (p9.2.1 4)) + x13) 1 X30
  else
    some ((), p9.2)
set_option maxRecDepth 20000 in
theorem rb226_19 {n : Nat} {h0 : zH} (hl : Fx h0)    {X : zX} {p : Unit × zX} (hG : gb226_19 n   X = some p) : b226_19 n  159 (mq h0 X) = some (p.1, mq h0 p.2) := by
  unfold gb226_19 at hG
  unfold b226_19
  refine zgd_eq (m_isO hl) ?_
  replace hG := zbnd hG
  obtain ⟨p1, e2, hG⟩ := hG
  refine bnd_eq (r190 hl e2) ?_
  refine bnd_eq (mgR_14 hl) ?_
  refine bnd_eq (mgI_4 hl) ?_
  refine bnd_eq (mgR_13 hl) ?_
  refine bnd_eq (mgI_4 hl) ?_
  refine bnd_eq rfl ?_
  replace hG := zbnd hG
  obtain ⟨x5, e6, hG⟩ := hG
  refine bnd_eq (m_aI hl (i := 9) (by decide) rfl e6) ?_
  refine zgd_eq (m_isO hl) ?_
  replace hG := zbnd hG
  obtain ⟨p7, e8, hG⟩ := hG
  refine bnd_eq (r202 hl e8) ?_
  refine zgd_eq (m_isO hl) ?_
  replace hG := zbnd hG
  obtain ⟨p9, e10, hG⟩ := hG
  refine bnd_eq (r208 hl e10) ?_
  refine bnd_eq (mgI_73 hl) ?_
  by_cases c11 : (p9.2.1 73) = (-1)
  · rw [if_pos c11] at hG
    refine (if_pos c11).trans ?_
    refine bnd_eq (mgI_4 hl) ?_
    refine bnd_eq (mgR_13 hl) ?_
    refine bnd_eq (mgI_4 hl) ?_
    refine bnd_eq rfl ?_
    replace hG := zbnd hG
    obtain ⟨x13, e14, hG⟩ := hG
    refine bnd_eq (m_aI hl (i := 9) (by decide) rfl e14) ?_
    refine bnd_eq (mgR_14 hl) ?_
    refine bnd_eq rfl ?_
    replace hG := zgd_some hG
    obtain ⟨g18, hG⟩ := hG
    replace hG := zbnd hG
    obtain ⟨X16, e17, hG⟩ := hG
    refine bnd_eq (m_sI hl (i := 10) (by decide) rfl e17) ?_
    refine bnd_eq (mgR_15 hl) ?_
    refine zgd_eq (m_isO hl) ?_
    replace hG := zbnd hG
    obtain ⟨p20, e21, hG⟩ := hG
    refine bnd_eq (r199 hl e21) ?_
    refine bnd_eq rfl ?_
    replace hG := zgd_some hG
    obtain ⟨g24, hG⟩ := hG
    replace hG := zbnd hG
    obtain ⟨X22, e23, hG⟩ := hG
    refine bnd_eq (m_sI hl (i := 11) (by decide) rfl e23) ?_
    refine bnd_eq (mgR_16 hl) ?_
    refine bnd_eq rfl ?_
    replace hG := zgd_some hG
    obtain ⟨g28, hG⟩ := hG
    replace hG := zbnd hG
    obtain ⟨X26, e27, hG⟩ := hG
    refine bnd_eq (m_sI hl (i := 12) (by decide) rfl e27) ?_
    refine bnd_eq (mgR_20 hl) ?_
    refine bnd_eq rfl ?_
    replace hG := zgd_some hG
    obtain ⟨g32, hG⟩ := hG
    replace hG := zbnd hG
    obtain ⟨X30, e31, hG⟩ := hG
    refine bnd_eq (m_sI hl (i := 16) (by decide) rfl e31) ?_
    refine bnd_eq (mgR_15 hl) ?_
    refine bnd_eq rfl ?_
    replace hG := zbnd hG
    obtain ⟨x34, e35, hG⟩ := hG
    refine bnd_eq (m_aI hl (i := 11) (by decide) rfl e35) ?_
    by_cases c36 : x34 = (-1)
    · rw [if_pos c36] at hG
      refine (if_pos c36).trans ?_
      exact rb226_131 hl  hG
    · rw [if_neg c36] at hG
      refine (if_neg c36).trans ?_
      exact rb226_131 hl  hG
  · rw [if_neg c11] at hG
    refine (if_neg c11).trans ?_
    replace hG := Option.some.inj hG
    subst hG
    rfl
def g226 (n : Nat)  (X : zX) : Option (Unit × zX) :=
  (rd (X.2.2 9) (X.1 4)).bind fun x2 =>
  if x2 = 24 then
    (g195 n 5 X).bind fun p5 =>
    gb226_19 n  p5.2
  else
    gb226_19 n  X
set_option maxRecDepth 20000 in
theorem r226 {n : Nat} {h0 : zH} (hl : Fx h0)  {X : zX} {p : Unit × zX} (hG : g226 n  X = some p) : f226 n 159 (mq h0 X) = some (p.1, mq h0 p.2) := by
  unfold g226 at hG
  unfold f226
  refine bnd_eq (mgR_13 hl) ?_
  refine bnd_eq (mgI_4 hl) ?_
  refine bnd_eq rfl ?_
  replace hG := zbnd hG
  obtain ⟨x2, e3, hG⟩ := hG
  refine bnd_eq (m_aI hl (i := 9) (by decide) rfl e3) ?_
  by_cases c4 : x2 = 24
  · rw [if_pos c4] at hG
    refine (if_pos c4).trans ?_
    refine zgd_eq (m_isO hl) ?_
    replace hG := zbnd hG
    obtain ⟨p5, e6, hG⟩ := hG
    refine bnd_eq (r195 hl e6) ?_
    exact rb226_19 hl  hG
  · rw [if_neg c4] at hG
    refine (if_neg c4).trans ?_
    exact rb226_19 hl  hG
end ZREF

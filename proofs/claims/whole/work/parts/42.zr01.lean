/-! THE REFERENCE OVER ITS MEMORY, 1 (written by a program of the verifier's) -/
section ZREF
def gb216_56 (n : Nat)  (l1 : Nat) (l2 : Int32) (l3 : Int32) (l4 : Int32) (X : zX) : Option (Int32 × zX) :=
  (g190 n  X).bind fun p1 =>
  some (l4, p1.2)
set_option maxRecDepth 20000 in
theorem rb216_56 {n : Nat} {h0 : zH} (hl : Fx h0)   {l1 : Nat} {l2 : Int32} {l3 : Int32} {l4 : Int32} {X : zX} {p : Int32 × zX} (hG : gb216_56 n  l1 l2 l3 l4 X = some p) : b216_56 n  159 (some (160 + l1)) l2 l3 l4 (mq h0 X) = some (p.1, mq h0 p.2) := by
  unfold gb216_56 at hG
  unfold b216_56
  refine zgd_eq (m_isO hl) ?_
  replace hG := zbnd hG
  obtain ⟨p1, e2, hG⟩ := hG
  refine bnd_eq (r190 hl e2) ?_
  replace hG := Option.some.inj hG
  subst hG
  rfl
def gb216_35 (n : Nat)  (l1 : Nat) (l2 : Int32) (l3 : Int32) (s0 : Int32) (X : zX) : Option (Int32 × zX) :=
  if (X.1 73) = (-1) then
    if s0 = (-1) then
      (g195 n 3 X).bind fun p3 =>
      gb216_56 n  l1 l2 l3 s0 p3.2
    else
      gb216_56 n  l1 l2 l3 s0 X
  else
    gb216_56 n  l1 l2 l3 s0 X
set_option maxRecDepth 20000 in
theorem rb216_35 {n : Nat} {h0 : zH} (hl : Fx h0)   {l1 : Nat} {l2 : Int32} {l3 : Int32} {s0 : Int32} {X : zX} {p : Int32 × zX} (hG : gb216_35 n  l1 l2 l3 s0 X = some p) : b216_35 n  159 (some (160 + l1)) l2 l3 s0 (mq h0 X) = some (p.1, mq h0 p.2) := by
  unfold gb216_35 at hG
  unfold b216_35
  refine bnd_eq (mgI_73 hl) ?_
  by_cases c1 : (X.1 73) = (-1)
  · rw [if_pos c1] at hG
    refine (if_pos c1).trans ?_
    by_cases c2 : s0 = (-1)
    · rw [if_pos c2] at hG
      refine (if_pos c2).trans ?_
      refine zgd_eq (m_isO hl) ?_
      replace hG := zbnd hG
      obtain ⟨p3, e4, hG⟩ := hG
      refine bnd_eq (r195 hl e4) ?_
      exact rb216_56 hl  hG
    · rw [if_neg c2] at hG
      refine (if_neg c2).trans ?_
      exact rb216_56 hl  hG
  · rw [if_neg c1] at hG
    refine (if_neg c1).trans ?_
    exact rb216_56 hl  hG
def g216 (n : Nat) (y1 : Nat) (y2 : Int32) (y3 : Int32) (X : zX) : Option (Int32 × zX) :=
  (g203 n  X).bind fun p1 =>
  (g200 n p1.1 p1.2).bind fun p3 =>
  if (p3.2.1 73) = (-1) then
    (g204 n y1 y2 y3 (p3.2.1 70) (p3.2.1 71) p3.2).bind fun p6 =>
    gb216_35 n  y1 y2 y3 p6.1 p6.2
  else
    gb216_35 n  y1 y2 y3 0 p3.2
set_option maxRecDepth 20000 in
theorem r216 {n : Nat} {h0 : zH} (hl : Fx h0) {y1 : Nat} {y2 : Int32} {y3 : Int32} {X : zX} {p : Int32 × zX} (hG : g216 n y1 y2 y3 X = some p) : f216 n 159 (some (160 + y1)) y2 y3 (mq h0 X) = some (p.1, mq h0 p.2) := by
  unfold g216 at hG
  unfold f216
  refine zgd_eq (m_isO hl) ?_
  replace hG := zbnd hG
  obtain ⟨p1, e2, hG⟩ := hG
  refine bnd_eq (r203 hl e2) ?_
  refine zgd_eq (m_isO hl) ?_
  replace hG := zbnd hG
  obtain ⟨p3, e4, hG⟩ := hG
  refine bnd_eq (r200 hl e4) ?_
  refine bnd_eq (mgI_73 hl) ?_
  by_cases c5 : (p3.2.1 73) = (-1)
  · rw [if_pos c5] at hG
    refine (if_pos c5).trans ?_
    refine bnd_eq (mgI_70 hl) ?_
    refine bnd_eq (mgI_71 hl) ?_
    refine zgd_eq (m_isO hl) ?_
    replace hG := zbnd hG
    obtain ⟨p6, e7, hG⟩ := hG
    refine bnd_eq (r204 hl e7) ?_
    exact rb216_35 hl  hG
  · rw [if_neg c5] at hG
    refine (if_neg c5).trans ?_
    exact rb216_35 hl  hG
def gb218_84 (n : Nat)  (l1 : Int32) (X : zX) : Option (Unit × zX) :=
  (g190 n  X).bind fun p1 =>
  some ((), p1.2)
set_option maxRecDepth 20000 in
theorem rb218_84 {n : Nat} {h0 : zH} (hl : Fx h0)   {l1 : Int32} {X : zX} {p : Unit × zX} (hG : gb218_84 n  l1 X = some p) : b218_84 n  159 l1 (mq h0 X) = some (p.1, mq h0 p.2) := by
  unfold gb218_84 at hG
  unfold b218_84
  refine zgd_eq (m_isO hl) ?_
  replace hG := zbnd hG
  obtain ⟨p1, e2, hG⟩ := hG
  refine bnd_eq (r190 hl e2) ?_
  replace hG := Option.some.inj hG
  subst hG
  rfl
def gb218_83 (n : Nat)  (l1 : Int32) (s0 : Int32) (s1 : Int32) (X : zX) : Option (Unit × zX) :=
  zgd (bkO (X.1 4) 54 s1) <|
  (wr X 54 s1 s0).bind fun X1 =>
  gb218_84 n  l1 X1
set_option maxRecDepth 20000 in
theorem rb218_83 {n : Nat} {h0 : zH} (hl : Fx h0)   {l1 : Int32} {s0 : Int32} {s1 : Int32} {X : zX} {p : Unit × zX} (hG : gb218_83 n  l1 s0 s1 X = some p) : b218_83 n  159 l1 s0 s1 (some 214) (mq h0 X) = some (p.1, mq h0 p.2) := by
  unfold gb218_83 at hG
  unfold b218_83
  refine bnd_eq rfl ?_
  replace hG := zgd_some hG
  obtain ⟨g3, hG⟩ := hG
  replace hG := zbnd hG
  obtain ⟨X1, e2, hG⟩ := hG
  refine bnd_eq (m_sI hl (i := 54) (by decide) rfl e2) ?_
  exact rb218_84 hl  hG
def gb218_51 (n : Nat)  (l1 : Int32) (s0 : Int32) (s1 : Int32) (X : zX) : Option (Unit × zX) :=
  zgd (bkO (X.1 4) 52 s1) <|
  (wr X 52 s1 (s0 &&& 1)).bind fun X1 =>
  zgd (bkO (X1.1 4) 53 l1) <|
  (wr X1 53 l1 (X1.1 72)).bind fun X5 =>
  if (X5.1 69) = 3 then
    (g206 n  X5).bind fun p10 =>
    gb218_83 n  l1 p10.1 l1 p10.2
  else
    gb218_83 n  l1 (-1) l1 X5
set_option maxRecDepth 20000 in
theorem rb218_51 {n : Nat} {h0 : zH} (hl : Fx h0)   {l1 : Int32} {s0 : Int32} {s1 : Int32} {X : zX} {p : Unit × zX} (hG : gb218_51 n  l1 s0 s1 X = some p) : b218_51 n  159 l1 s0 s1 (some 212) (mq h0 X) = some (p.1, mq h0 p.2) := by
  unfold gb218_51 at hG
  unfold b218_51
  refine bnd_eq rfl ?_
  replace hG := zgd_some hG
  obtain ⟨g3, hG⟩ := hG
  replace hG := zbnd hG
  obtain ⟨X1, e2, hG⟩ := hG
  refine bnd_eq (m_sZ hl (i := 52) (by decide) rfl e2) ?_
  refine bnd_eq (mgR_57 hl) ?_
  refine bnd_eq (mgI_72 hl) ?_
  refine bnd_eq rfl ?_
  replace hG := zgd_some hG
  obtain ⟨g7, hG⟩ := hG
  replace hG := zbnd hG
  obtain ⟨X5, e6, hG⟩ := hG
  refine bnd_eq (m_sI hl (i := 53) (by decide) rfl e6) ?_
  refine bnd_eq (mgR_58 hl) ?_
  refine bnd_eq (mgI_69 hl) ?_
  by_cases c9 : (X5.1 69) = 3
  · rw [if_pos c9] at hG
    refine (if_pos c9).trans ?_
    refine zgd_eq (m_isO hl) ?_
    replace hG := zbnd hG
    obtain ⟨p10, e11, hG⟩ := hG
    refine bnd_eq (r206 hl e11) ?_
    exact rb218_83 hl  hG
  · rw [if_neg c9] at hG
    refine (if_neg c9).trans ?_
    exact rb218_83 hl  hG
def gb218_22 (n : Nat)  (l1 : Int32) (s0 : Int32) (X : zX) : Option (Unit × zX) :=
  (g200 n s0 X).bind fun p1 =>
  if (p1.2.1 73) = (-1) then
    if (p1.2.1 69) = 3 then
      gb218_51 n  l1 1 l1 p1.2
    else
      gb218_51 n  l1 0 l1 p1.2
  else
    gb218_84 n  l1 p1.2
set_option maxRecDepth 20000 in
theorem rb218_22 {n : Nat} {h0 : zH} (hl : Fx h0)   {l1 : Int32} {s0 : Int32} {X : zX} {p : Unit × zX} (hG : gb218_22 n  l1 s0 X = some p) : b218_22 n  159 l1 s0 159 (mq h0 X) = some (p.1, mq h0 p.2) := by
  unfold gb218_22 at hG
  unfold b218_22
  refine zgd_eq (m_isO hl) ?_
  replace hG := zbnd hG
  obtain ⟨p1, e2, hG⟩ := hG
  refine bnd_eq (r200 hl e2) ?_
  refine bnd_eq (mgI_73 hl) ?_
  by_cases c3 : (p1.2.1 73) = (-1)
  · rw [if_pos c3] at hG
    refine (if_pos c3).trans ?_
    refine bnd_eq (mgR_56 hl) ?_
    refine bnd_eq (mgI_69 hl) ?_
    by_cases c5 : (p1.2.1 69) = 3
    · rw [if_pos c5] at hG
      refine (if_pos c5).trans ?_
      exact rb218_51 hl  hG
    · rw [if_neg c5] at hG
      refine (if_neg c5).trans ?_
      exact rb218_51 hl  hG
  · rw [if_neg c3] at hG
    refine (if_neg c3).trans ?_
    exact rb218_84 hl  hG
def gb218_17 (n : Nat)  (l1 : Int32) (X : zX) : Option (Unit × zX) :=
  gb218_22 n  l1 1 X
set_option maxRecDepth 20000 in
theorem rb218_17 {n : Nat} {h0 : zH} (hl : Fx h0)   {l1 : Int32} {X : zX} {p : Unit × zX} (hG : gb218_17 n  l1 X = some p) : b218_17 n  159 l1 159 (mq h0 X) = some (p.1, mq h0 p.2) := by
  unfold gb218_17 at hG
  unfold b218_17
  exact rb218_22 hl  hG
def g218 (n : Nat) (y1 : Int32) (X : zX) : Option (Unit × zX) :=
  if (X.1 69) = 2 then
    gb218_17 n  y1 X
  else
    if (X.1 69) = 3 then
      gb218_17 n  y1 X
    else
      gb218_22 n  y1 0 X
set_option maxRecDepth 20000 in
theorem r218 {n : Nat} {h0 : zH} (hl : Fx h0) {y1 : Int32} {X : zX} {p : Unit × zX} (hG : g218 n y1 X = some p) : f218 n 159 y1 (mq h0 X) = some (p.1, mq h0 p.2) := by
  unfold g218 at hG
  unfold f218
  refine bnd_eq (mgI_69 hl) ?_
  by_cases c1 : (X.1 69) = 2
  · rw [if_pos c1] at hG
    refine (if_pos c1).trans ?_
    exact rb218_17 hl  hG
  · rw [if_neg c1] at hG
    refine (if_neg c1).trans ?_
    refine bnd_eq (mgI_69 hl) ?_
    by_cases c2 : (X.1 69) = 3
    · rw [if_pos c2] at hG
      refine (if_pos c2).trans ?_
      exact rb218_17 hl  hG
    · rw [if_neg c2] at hG
      refine (if_neg c2).trans ?_
      exact rb218_22 hl  hG
def g220 (n : Nat) (y1 : Int32) (y2 : Int32) (y3 : Int32) (X : zX) : Option (Unit × zX) :=
  if y2 = (-1) then
    zgd (bkO (X.1 4) 55 ((400 * (X.1 4)) + y1)) <|
    (wr X 55 ((400 * (X.1 4)) + y1) y3).bind fun X3 =>
    some ((), X3)
  else
    zgd (bkO (X.1 4) 56 ((400 * (X.1 4)) + y2)) <|
    (wr X 56 ((400 * (X.1 4)) + y2) y3).bind fun X7 =>
    some ((), X7)
set_option maxRecDepth 20000 in
theorem r220 {n : Nat} {h0 : zH} (hl : Fx h0) {y1 : Int32} {y2 : Int32} {y3 : Int32} {X : zX} {p : Unit × zX} (hG : g220 n y1 y2 y3 X = some p) : f220 n 159 y1 y2 y3 (mq h0 X) = some (p.1, mq h0 p.2) := by
  unfold g220 at hG
  unfold f220
  by_cases c1 : y2 = (-1)
  · rw [if_pos c1] at hG
    refine (if_pos c1).trans ?_
    refine bnd_eq (mgR_59 hl) ?_
    refine bnd_eq (mgI_4 hl) ?_
    refine bnd_eq rfl ?_
    replace hG := zgd_some hG
    obtain ⟨g5, hG⟩ := hG
    replace hG := zbnd hG
    obtain ⟨X3, e4, hG⟩ := hG
    refine bnd_eq (m_sI hl (i := 55) (by decide) rfl e4) ?_
    replace hG := Option.some.inj hG
    subst hG
    rfl
  · rw [if_neg c1] at hG
    refine (if_neg c1).trans ?_
    refine bnd_eq (mgR_60 hl) ?_
    refine bnd_eq (mgI_4 hl) ?_
    refine bnd_eq rfl ?_
    replace hG := zgd_some hG
    obtain ⟨g9, hG⟩ := hG
    replace hG := zbnd hG
    obtain ⟨X7, e8, hG⟩ := hG
    refine bnd_eq (m_sI hl (i := 56) (by decide) rfl e8) ?_
    replace hG := Option.some.inj hG
    subst hG
    rfl
def gb219_109 (n : Nat)  (l1 : Int32) (l2 : Int32) (X : zX) : Option (Unit × zX) :=
  (g208 n 41 X).bind fun p1 =>
  some ((), p1.2)
set_option maxRecDepth 20000 in
theorem rb219_109 {n : Nat} {h0 : zH} (hl : Fx h0)   {l1 : Int32} {l2 : Int32} {X : zX} {p : Unit × zX} (hG : gb219_109 n  l1 l2 X = some p) : b219_109 n  159 l1 l2 (mq h0 X) = some (p.1, mq h0 p.2) := by
  unfold gb219_109 at hG
  unfold b219_109
  refine zgd_eq (m_isO hl) ?_
  replace hG := zbnd hG
  obtain ⟨p1, e2, hG⟩ := hG
  refine bnd_eq (r208 hl e2) ?_
  replace hG := Option.some.inj hG
  subst hG
  rfl
def gb219_106 (n : Nat) (q13 : Int32 → Int32 → zX → Option (Unit × zX)) (l1 : Int32) (l2 : Int32) (l3 : Int32) (X : zX) : Option (Unit × zX) :=
  q13 l1 l2 X
set_option maxRecDepth 20000 in
theorem rb219_106 {n : Nat} {h0 : zH} (hl : Fx h0) {q13 : Int32 → Int32 → zX → Option (Unit × zX)} {r13 : Nat → Int32 → Int32 → zH → Option (Unit × zH)} (hr13 : ∀ {l1 : Int32} {l2 : Int32} {X : zX} {p : Unit × zX}, q13 l1 l2 X = some p → r13 159 l1 l2 (mq h0 X) = some (p.1, mq h0 p.2)) {l1 : Int32} {l2 : Int32} {l3 : Int32} {X : zX} {p : Unit × zX} (hG : gb219_106 n q13 l1 l2 l3 X = some p) : b219_106 n r13 159 l1 l2 l3 (mq h0 X) = some (p.1, mq h0 p.2) := by
  unfold gb219_106 at hG
  unfold b219_106
  exact hr13 hG
def gb219_56 (n : Nat) (q13 : Int32 → Int32 → zX → Option (Unit × zX)) (l1 : Int32) (l2 : Int32) (s0 : Int32) (X : zX) : Option (Unit × zX) :=
  (g200 n s0 X).bind fun p1 =>
  (g215 n 11 p1.2).bind fun p3 =>
  if (p3.2.1 73) = (-1) then
    (g218 n ((400 * (p3.2.1 4)) + p3.1) p3.2).bind fun p6 =>
    (g220 n (l1 - (400 * (p6.2.1 4))) l2 p3.1 p6.2).bind fun p8 =>
    gb219_106 n q13 l1 p3.1 p3.1 p8.2
  else
    gb219_106 n q13 l1 l2 p3.1 p3.2
set_option maxRecDepth 20000 in
theorem rb219_56 {n : Nat} {h0 : zH} (hl : Fx h0) {q13 : Int32 → Int32 → zX → Option (Unit × zX)} {r13 : Nat → Int32 → Int32 → zH → Option (Unit × zH)} (hr13 : ∀ {l1 : Int32} {l2 : Int32} {X : zX} {p : Unit × zX}, q13 l1 l2 X = some p → r13 159 l1 l2 (mq h0 X) = some (p.1, mq h0 p.2)) {l1 : Int32} {l2 : Int32} {s0 : Int32} {X : zX} {p : Unit × zX} (hG : gb219_56 n q13 l1 l2 s0 X = some p) : b219_56 n r13 159 l1 l2 s0 159 (mq h0 X) = some (p.1, mq h0 p.2) := by
  unfold gb219_56 at hG
  unfold b219_56
  refine zgd_eq (m_isO hl) ?_
  replace hG := zbnd hG
  obtain ⟨p1, e2, hG⟩ := hG
  refine bnd_eq (r200 hl e2) ?_
  refine zgd_eq (m_isO hl) ?_
  replace hG := zbnd hG
  obtain ⟨p3, e4, hG⟩ := hG
  refine bnd_eq (r215 hl e4) ?_
  refine bnd_eq (mgI_73 hl) ?_
  by_cases c5 : (p3.2.1 73) = (-1)
  · rw [if_pos c5] at hG
    refine (if_pos c5).trans ?_
    refine bnd_eq (mgI_4 hl) ?_
    refine zgd_eq (m_isO hl) ?_
    replace hG := zbnd hG
    obtain ⟨p6, e7, hG⟩ := hG
    refine bnd_eq (r218 hl e7) ?_
    refine bnd_eq (mgI_4 hl) ?_
    refine zgd_eq (m_isO hl) ?_
    replace hG := zbnd hG
    obtain ⟨p8, e9, hG⟩ := hG
    refine bnd_eq (r220 hl e9) ?_
    exact rb219_106 hl hr13 hG
  · rw [if_neg c5] at hG
    refine (if_neg c5).trans ?_
    exact rb219_106 hl hr13 hG
def gb219_51 (n : Nat) (q13 : Int32 → Int32 → zX → Option (Unit × zX)) (l1 : Int32) (l2 : Int32) (X : zX) : Option (Unit × zX) :=
  gb219_56 n q13 l1 l2 1 X
set_option maxRecDepth 20000 in
theorem rb219_51 {n : Nat} {h0 : zH} (hl : Fx h0) {q13 : Int32 → Int32 → zX → Option (Unit × zX)} {r13 : Nat → Int32 → Int32 → zH → Option (Unit × zH)} (hr13 : ∀ {l1 : Int32} {l2 : Int32} {X : zX} {p : Unit × zX}, q13 l1 l2 X = some p → r13 159 l1 l2 (mq h0 X) = some (p.1, mq h0 p.2)) {l1 : Int32} {l2 : Int32} {X : zX} {p : Unit × zX} (hG : gb219_51 n q13 l1 l2 X = some p) : b219_51 n r13 159 l1 l2 159 (mq h0 X) = some (p.1, mq h0 p.2) := by
  unfold gb219_51 at hG
  unfold b219_51
  exact rb219_56 hl hr13 hG
def gb219_13 (n : Nat) (q13 : Int32 → Int32 → zX → Option (Unit × zX)) (l1 : Int32) (l2 : Int32) (X : zX) : Option (Unit × zX) :=
  if (X.1 73) = (-1) then
    (g209 n 44 X).bind fun p2 =>
    if p2.1 = 0 then
      gb219_109 n  l1 l2 p2.2
    else
      (g190 n  p2.2).bind fun p5 =>
      if (p5.2.1 69) = 2 then
        gb219_51 n q13 l1 l2 p5.2
      else
        if (p5.2.1 69) = 3 then
          gb219_51 n q13 l1 l2 p5.2
        else
          gb219_56 n q13 l1 l2 0 p5.2
  else
    gb219_109 n  l1 l2 X
set_option maxRecDepth 20000 in
theorem rb219_13 {n : Nat} {h0 : zH} (hl : Fx h0) {q13 : Int32 → Int32 → zX → Option (Unit × zX)} {r13 : Nat → Int32 → Int32 → zH → Option (Unit × zH)} (hr13 : ∀ {l1 : Int32} {l2 : Int32} {X : zX} {p : Unit × zX}, q13 l1 l2 X = some p → r13 159 l1 l2 (mq h0 X) = some (p.1, mq h0 p.2)) {l1 : Int32} {l2 : Int32} {X : zX} {p : Unit × zX} (hG : gb219_13 n q13 l1 l2 X = some p) : b219_13 n r13 159 l1 l2 (mq h0 X) = some (p.1, mq h0 p.2) := by
  unfold gb219_13 at hG
  unfold b219_13
  refine bnd_eq (mgI_73 hl) ?_
  by_cases c1 : (X.1 73) = (-1)
  · rw [if_pos c1] at hG
    refine (if_pos c1).trans ?_
    refine zgd_eq (m_isO hl) ?_
    replace hG := zbnd hG
    obtain ⟨p2, e3, hG⟩ := hG
    refine bnd_eq (r209 hl e3) ?_
    by_cases c4 : p2.1 = 0
    · rw [if_pos c4] at hG
      refine (if_pos c4).trans ?_
      exact rb219_109 hl  hG
    · rw [if_neg c4] at hG
      refine (if_neg c4).trans ?_
      refine zgd_eq (m_isO hl) ?_
      replace hG := zbnd hG
      obtain ⟨p5, e6, hG⟩ := hG
      refine bnd_eq (r190 hl e6) ?_
      refine bnd_eq (mgI_69 hl) ?_
      by_cases c7 : (p5.2.1 69) = 2
      · rw [if_pos c7] at hG
        refine (if_pos c7).trans ?_
        exact rb219_51 hl hr13 hG
      · rw [if_neg c7] at hG
        refine (if_neg c7).trans ?_
        refine bnd_eq (mgI_69 hl) ?_
        by_cases c8 : (p5.2.1 69) = 3
        · rw [if_pos c8] at hG
          refine (if_pos c8).trans ?_
          exact rb219_51 hl hr13 hG
        · rw [if_neg c8] at hG
          refine (if_neg c8).trans ?_
          exact rb219_56 hl hr13 hG
  · rw [if_neg c1] at hG
    refine (if_neg c1).trans ?_
    exact rb219_109 hl  hG
def gf219_13 (n : Nat)  (k : Nat) : Int32 → Int32 → zX → Option (Unit × zX) := Nat.rec (fun _ _ _ => none) (fun _ ih => gb219_13 n ih) k
theorem rf219_13 {n : Nat} {h0 : zH} (hl : Fx h0)   (k : Nat) : ∀ {l1 : Int32} {l2 : Int32} {X : zX} {p : Unit × zX}, gf219_13 n  k l1 l2 X = some p → f219_13 n  k 159 l1 l2 (mq h0 X) = some (p.1, mq h0 p.2) := by
  induction k with
  | zero => intros; rename_i hG; cases hG
  | succ k ih => intros; rename_i hG; exact rb219_13 (n := n) hl ih hG
def g219 (n : Nat) (y1 : Int32) (X : zX) : Option (Unit × zX) :=
  (g208 n 40 X).bind fun p1 =>
  (g218 n y1 p1.2).bind fun p3 =>
  gf219_13 n  n y1 (-1) p3.2
set_option maxRecDepth 20000 in
theorem r219 {n : Nat} {h0 : zH} (hl : Fx h0) {y1 : Int32} {X : zX} {p : Unit × zX} (hG : g219 n y1 X = some p) : f219 n 159 y1 (mq h0 X) = some (p.1, mq h0 p.2) := by
  unfold g219 at hG
  unfold f219
  refine zgd_eq (m_isO hl) ?_
  replace hG := zbnd hG
  obtain ⟨p1, e2, hG⟩ := hG
  refine bnd_eq (r208 hl e2) ?_
  refine zgd_eq (m_isO hl) ?_
  replace hG := zbnd hG
  obtain ⟨p3, e4, hG⟩ := hG
  refine bnd_eq (r218 hl e4) ?_
  exact rf219_13 hl  n hG
def gb217_122 (n : Nat)  (l1 : Int32) (l2 : Int32) (s0 : Int32) (X : zX) : Option (Unit × zX) :=
  (g200 n s0 X).bind fun p1 =>
  zgd (bkO (p1.2.1 4) 53 l1) <|
  (wr p1.2 53 l1 (p1.2.1 72)).bind fun X4 =>
  (g190 n  X4).bind fun p7 =>
  some ((), p7.2)
set_option maxRecDepth 20000 in
theorem rb217_122 {n : Nat} {h0 : zH} (hl : Fx h0)   {l1 : Int32} {l2 : Int32} {s0 : Int32} {X : zX} {p : Unit × zX} (hG : gb217_122 n  l1 l2 s0 X = some p) : b217_122 n  159 l1 l2 s0 159 (mq h0 X) = some (p.1, mq h0 p.2) := by
  unfold gb217_122 at hG
  unfold b217_122
  refine zgd_eq (m_isO hl) ?_
  replace hG := zbnd hG
  obtain ⟨p1, e2, hG⟩ := hG
  refine bnd_eq (r200 hl e2) ?_
  refine bnd_eq (mgR_57 hl) ?_
  refine bnd_eq (mgI_72 hl) ?_
  refine bnd_eq rfl ?_
  replace hG := zgd_some hG
  obtain ⟨g6, hG⟩ := hG
  replace hG := zbnd hG
  obtain ⟨X4, e5, hG⟩ := hG
  refine bnd_eq (m_sI hl (i := 53) (by decide) rfl e5) ?_
  refine zgd_eq (m_isO hl) ?_
  replace hG := zbnd hG
  obtain ⟨p7, e8, hG⟩ := hG
  refine bnd_eq (r190 hl e8) ?_
  replace hG := Option.some.inj hG
  subst hG
  rfl
def gb217_108 (n : Nat)  (l1 : Int32) (l2 : Int32) (X : zX) : Option (Unit × zX) :=
  if (X.1 69) = 2 then
    gb217_122 n  l1 l2 1 X
  else
    gb217_122 n  l1 l2 0 X
set_option maxRecDepth 20000 in
theorem rb217_108 {n : Nat} {h0 : zH} (hl : Fx h0)   {l1 : Int32} {l2 : Int32} {X : zX} {p : Unit × zX} (hG : gb217_108 n  l1 l2 X = some p) : b217_108 n  159 l1 l2 (mq h0 X) = some (p.1, mq h0 p.2) := by
  unfold gb217_108 at hG
  unfold b217_108
  refine bnd_eq (mgI_69 hl) ?_
  by_cases c1 : (X.1 69) = 2
  · rw [if_pos c1] at hG
    refine (if_pos c1).trans ?_
    exact rb217_122 hl  hG
  · rw [if_neg c1] at hG
    refine (if_neg c1).trans ?_
    exact rb217_122 hl  hG
def gb217_203 (n : Nat)  (l1 : Int32) (l2 : Int32) (s0 : Int32) (s1 : Int32) (X : zX) : Option (Unit × zX) :=
  zgd (bkO (X.1 4) 54 s1) <|
  (wr X 54 s1 s0).bind fun X1 =>
  (g190 n  X1).bind fun p4 =>
  some ((), p4.2)
set_option maxRecDepth 20000 in
theorem rb217_203 {n : Nat} {h0 : zH} (hl : Fx h0)   {l1 : Int32} {l2 : Int32} {s0 : Int32} {s1 : Int32} {X : zX} {p : Unit × zX} (hG : gb217_203 n  l1 l2 s0 s1 X = some p) : b217_203 n  159 l1 l2 s0 s1 (some 214) (mq h0 X) = some (p.1, mq h0 p.2) := by
  unfold gb217_203 at hG
  unfold b217_203
  refine bnd_eq rfl ?_
  replace hG := zgd_some hG
  obtain ⟨g3, hG⟩ := hG
  replace hG := zbnd hG
  obtain ⟨X1, e2, hG⟩ := hG
  refine bnd_eq (m_sI hl (i := 54) (by decide) rfl e2) ?_
  refine zgd_eq (m_isO hl) ?_
  replace hG := zbnd hG
  obtain ⟨p4, e5, hG⟩ := hG
  refine bnd_eq (r190 hl e5) ?_
  replace hG := Option.some.inj hG
  subst hG
  rfl
def gb217_172 (n : Nat)  (l1 : Int32) (l2 : Int32) (s0 : Int32) (X : zX) : Option (Unit × zX) :=
  (g200 n s0 X).bind fun p1 =>
  zgd (bkO (p1.2.1 4) 52 l1) <|
  (wr p1.2 52 l1 (1 &&& 1)).bind fun X4 =>
  if (X4.1 73) = (-1) then
    (g206 n  X4).bind fun p9 =>
    gb217_203 n  l1 l2 p9.1 l1 p9.2
  else
    gb217_203 n  l1 l2 (-1) l1 X4
set_option maxRecDepth 20000 in
theorem rb217_172 {n : Nat} {h0 : zH} (hl : Fx h0)   {l1 : Int32} {l2 : Int32} {s0 : Int32} {X : zX} {p : Unit × zX} (hG : gb217_172 n  l1 l2 s0 X = some p) : b217_172 n  159 l1 l2 s0 159 (mq h0 X) = some (p.1, mq h0 p.2) := by
  unfold gb217_172 at hG
  unfold b217_172
  refine zgd_eq (m_isO hl) ?_
  replace hG := zbnd hG
  obtain ⟨p1, e2, hG⟩ := hG
  refine bnd_eq (r200 hl e2) ?_
  refine bnd_eq (mgR_56 hl) ?_
  refine bnd_eq rfl ?_
  replace hG := zgd_some hG
  obtain ⟨g6, hG⟩ := hG
  replace hG := zbnd hG
  obtain ⟨X4, e5, hG⟩ := hG
  refine bnd_eq (m_sZ hl (i := 52) (by decide) rfl e5) ?_
  refine bnd_eq (mgR_58 hl) ?_
  refine bnd_eq (mgI_73 hl) ?_
  by_cases c8 : (X4.1 73) = (-1)
  · rw [if_pos c8] at hG
    refine (if_pos c8).trans ?_
    refine zgd_eq (m_isO hl) ?_
    replace hG := zbnd hG
    obtain ⟨p9, e10, hG⟩ := hG
    refine bnd_eq (r206 hl e10) ?_
    exact rb217_203 hl  hG
  · rw [if_neg c8] at hG
    refine (if_neg c8).trans ?_
    exact rb217_203 hl  hG
def gb217_45 (n : Nat)  (l1 : Int32) (l2 : Int32) (s0 : Int32) (X : zX) : Option (Unit × zX) :=
  (g200 n s0 X).bind fun p1 =>
  if (p1.2.1 73) = (-1) then
    zgd (bkO (p1.2.1 4) 50 l1) <|
    (wr p1.2 50 l1 (3 + l2)).bind fun X5 =>
    (g190 n  X5).bind fun p8 =>
    (rd (p8.2.2.2 50) l1).bind fun x11 =>
    if x11 = 3 then
      (g218 n l1 p8.2).bind fun p14 =>
      some ((), p14.2)
    else
      (rd (p8.2.2.2 50) l1).bind fun x17 =>
      if x17 = 4 then
        gb217_108 n  l1 l2 p8.2
      else
        (rd (p8.2.2.2 50) l1).bind fun x21 =>
        if x21 = 5 then
          gb217_108 n  l1 l2 p8.2
        else
          (rd (p8.2.2.2 50) l1).bind fun x25 =>
          (g187 n x25 6 8 p8.2).bind fun p27 =>
          if p27.1 = 0 then
            (rd (p27.2.2.2 50) l1).bind fun x31 =>
            if x31 = 9 then
              (g219 n l1 p27.2).bind fun p34 =>
              some ((), p34.2)
            else
              some ((), p27.2)
          else
            if (p27.2.1 69) = 3 then
              gb217_172 n  l1 l2 1 p27.2
            else
              gb217_172 n  l1 l2 0 p27.2
  else
    some ((), p1.2)
set_option maxRecDepth 20000 in
theorem rb217_45 {n : Nat} {h0 : zH} (hl : Fx h0)   {l1 : Int32} {l2 : Int32} {s0 : Int32} {X : zX} {p : Unit × zX} (hG : gb217_45 n  l1 l2 s0 X = some p) : b217_45 n  159 l1 l2 s0 159 (mq h0 X) = some (p.1, mq h0 p.2) := by
  unfold gb217_45 at hG
  unfold b217_45
  refine zgd_eq (m_isO hl) ?_
  replace hG := zbnd hG
  obtain ⟨p1, e2, hG⟩ := hG
  refine bnd_eq (r200 hl e2) ?_
  refine bnd_eq (mgI_73 hl) ?_
  by_cases c3 : (p1.2.1 73) = (-1)
  · rw [if_pos c3] at hG
    refine (if_pos c3).trans ?_
    refine bnd_eq (mgR_54 hl) ?_
    refine bnd_eq rfl ?_
    replace hG := zgd_some hG
    obtain ⟨g7, hG⟩ := hG
    replace hG := zbnd hG
    obtain ⟨X5, e6, hG⟩ := hG
    refine bnd_eq (m_sI hl (i := 50) (by decide) rfl e6) ?_
    refine zgd_eq (m_isO hl) ?_
    replace hG := zbnd hG
    obtain ⟨p8, e9, hG⟩ := hG
    refine bnd_eq (r190 hl e9) ?_
    refine bnd_eq (mgR_54 hl) ?_
    refine bnd_eq rfl ?_
    replace hG := zbnd hG
    obtain ⟨x11, e12, hG⟩ := hG
    refine bnd_eq (m_aI hl (i := 50) (by decide) rfl e12) ?_
    by_cases c13 : x11 = 3
    · rw [if_pos c13] at hG
      refine (if_pos c13).trans ?_
      refine zgd_eq (m_isO hl) ?_
      replace hG := zbnd hG
      obtain ⟨p14, e15, hG⟩ := hG
      refine bnd_eq (r218 hl e15) ?_
      replace hG := Option.some.inj hG
      subst hG
      rfl
    · rw [if_neg c13] at hG
      refine (if_neg c13).trans ?_
      refine bnd_eq (mgR_54 hl) ?_
      refine bnd_eq rfl ?_
      replace hG := zbnd hG
      obtain ⟨x17, e18, hG⟩ := hG
      refine bnd_eq (m_aI hl (i := 50) (by decide) rfl e18) ?_
      by_cases c19 : x17 = 4
      · rw [if_pos c19] at hG
        refine (if_pos c19).trans ?_
        exact rb217_108 hl  hG
      · rw [if_neg c19] at hG
        refine (if_neg c19).trans ?_
        refine bnd_eq (mgR_54 hl) ?_
        refine bnd_eq rfl ?_
        replace hG := zbnd hG
        obtain ⟨x21, e22, hG⟩ := hG
        refine bnd_eq (m_aI hl (i := 50) (by decide) rfl e22) ?_
        by_cases c23 : x21 = 5
        · rw [if_pos c23] at hG
          refine (if_pos c23).trans ?_
          exact rb217_108 hl  hG
        · rw [if_neg c23] at hG
          refine (if_neg c23).trans ?_
          refine bnd_eq (mgR_54 hl) ?_
          refine bnd_eq rfl ?_
          replace hG := zbnd hG
          obtain ⟨x25, e26, hG⟩ := hG
          refine bnd_eq (m_aI hl (i := 50) (by decide) rfl e26) ?_
          replace hG := zbnd hG
          obtain ⟨p27, e28, hG⟩ := hG
          refine bnd_eq (r187 hl e28) ?_
          by_cases c29 : p27.1 = 0
          · rw [if_pos c29] at hG
            refine (if_pos c29).trans ?_
            refine bnd_eq (mgR_54 hl) ?_
            refine bnd_eq rfl ?_
            replace hG := zbnd hG
            obtain ⟨x31, e32, hG⟩ := hG
            refine bnd_eq (m_aI hl (i := 50) (by decide) rfl e32) ?_
            by_cases c33 : x31 = 9
            · rw [if_pos c33] at hG
              refine (if_pos c33).trans ?_
              refine zgd_eq (m_isO hl) ?_
              replace hG := zbnd hG
              obtain ⟨p34, e35, hG⟩ := hG
              refine bnd_eq (r219 hl e35) ?_
              replace hG := Option.some.inj hG
              subst hG
              rfl
            · rw [if_neg c33] at hG
              refine (if_neg c33).trans ?_
              replace hG := Option.some.inj hG
              subst hG
              rfl
          · rw [if_neg c29] at hG
            refine (if_neg c29).trans ?_
            refine bnd_eq (mgI_69 hl) ?_
            by_cases c36 : (p27.2.1 69) = 3
            · rw [if_pos c36] at hG
              refine (if_pos c36).trans ?_
              exact rb217_172 hl  hG
            · rw [if_neg c36] at hG
              refine (if_neg c36).trans ?_
              exact rb217_172 hl  hG
  · rw [if_neg c3] at hG
    refine (if_neg c3).trans ?_
    replace hG := Option.some.inj hG
    subst hG
    rfl
def gb217_33 (n : Nat)  (l1 : Int32) (s0 : Int32) (X : zX) : Option (Unit × zX) :=
  if s0 = (-1) then
    gb217_45 n  l1 s0 0 X
  else
    gb217_45 n  l1 s0 1 X
set_option maxRecDepth 20000 in
theorem rb217_33 {n : Nat} {h0 : zH} (hl : Fx h0)   {l1 : Int32} {s0 : Int32} {X : zX} {p : Unit × zX} (hG : gb217_33 n  l1 s0 X = some p) : b217_33 n  159 l1 s0 (mq h0 X) = some (p.1, mq h0 p.2) := by
  unfold gb217_33 at hG
  unfold b217_33
  by_cases c1 : s0 = (-1)
  · rw [if_pos c1] at hG
    refine (if_pos c1).trans ?_
    exact rb217_45 hl  hG
  · rw [if_neg c1] at hG
    refine (if_neg c1).trans ?_
    exact rb217_45 hl  hG
def g217 (n : Nat) (y1 : Int32) (X : zX) : Option (Unit × zX) :=
  (g206 n  X).bind fun p2 =>
  zgd (bkO (p2.2.1 4) 51 y1) <|
  (wr p2.2 51 y1 p2.1).bind fun X4 =>
  (g190 n  X4).bind fun p7 =>
  if (p7.2.1 73) = (-1) then
    (g199 n 65 p7.2).bind fun p10 =>
    gb217_33 n  y1 p10.1 p10.2
  else
    gb217_33 n  y1 (-1) p7.2
set_option maxRecDepth 20000 in
theorem r217 {n : Nat} {h0 : zH} (hl : Fx h0) {y1 : Int32} {X : zX} {p : Unit × zX} (hG : g217 n y1 X = some p) : f217 n 159 y1 (mq h0 X) = some (p.1, mq h0 p.2) := by
  unfold g217 at hG
  unfold f217
  refine bnd_eq (mgR_55 hl) ?_
  refine zgd_eq (m_isO hl) ?_
  replace hG := zbnd hG
  obtain ⟨p2, e3, hG⟩ := hG
  refine bnd_eq (r206 hl e3) ?_
  refine bnd_eq rfl ?_
  replace hG := zgd_some hG
  obtain ⟨g6, hG⟩ := hG
  replace hG := zbnd hG
  obtain ⟨X4, e5, hG⟩ := hG
  refine bnd_eq (m_sI hl (i := 51) (by decide) rfl e5) ?_
  refine zgd_eq (m_isO hl) ?_
  replace hG := zbnd hG
  obtain ⟨p7, e8, hG⟩ := hG
  refine bnd_eq (r190 hl e8) ?_
  refine bnd_eq (mgI_73 hl) ?_
  by_cases c9 : (p7.2.1 73) = (-1)
  · rw [if_pos c9] at hG
    refine (if_pos c9).trans ?_
    refine zgd_eq (m_isO hl) ?_
    replace hG := zbnd hG
    obtain ⟨p10, e11, hG⟩ := hG
    refine bnd_eq (r199 hl e11) ?_
    exact rb217_33 hl  hG
  · rw [if_neg c9] at hG
    refine (if_neg c9).trans ?_
    exact rb217_33 hl  hG
def g221 (n : Nat) (y1 : Int32) (X : zX) : Option (Unit × zX) :=
  (rd (X.2.2 58) (X.1 4)).bind fun x3 =>
  zgd (bkO (X.1 4) 57 ((400 * (X.1 4)) + x3)) <|
  (wr X 57 ((400 * (X.1 4)) + x3) y1).bind fun X5 =>
  (rd (X5.2.2 58) (X5.1 4)).bind fun x9 =>
  zgd (bkO (X5.1 4) 58 (X5.1 4)) <|
  (wr X5 58 (X5.1 4) (x9 + 1)).bind fun X11 =>
  some ((), X11)
set_option maxRecDepth 20000 in
theorem r221 {n : Nat} {h0 : zH} (hl : Fx h0) {y1 : Int32} {X : zX} {p : Unit × zX} (hG : g221 n y1 X = some p) : f221 n 159 y1 (mq h0 X) = some (p.1, mq h0 p.2) := by
  unfold g221 at hG
  unfold f221
  refine bnd_eq (mgR_61 hl) ?_
  refine bnd_eq (mgI_4 hl) ?_
  refine bnd_eq (mgR_62 hl) ?_
  refine bnd_eq (mgI_4 hl) ?_
  refine bnd_eq rfl ?_
  replace hG := zbnd hG
  obtain ⟨x3, e4, hG⟩ := hG
  refine bnd_eq (m_aI hl (i := 58) (by decide) rfl e4) ?_
  refine bnd_eq rfl ?_
  replace hG := zgd_some hG
  obtain ⟨g7, hG⟩ := hG
  replace hG := zbnd hG
  obtain ⟨X5, e6, hG⟩ := hG
  refine bnd_eq (m_sI hl (i := 57) (by decide) rfl e6) ?_
  refine bnd_eq (mgR_62 hl) ?_
  refine bnd_eq (mgI_4 hl) ?_
  refine bnd_eq rfl ?_
  replace hG := zbnd hG
  obtain ⟨x9, e10, hG⟩ := hG
  refine bnd_eq (m_aI hl (i := 58) (by decide) rfl e10) ?_
  replace hG := zgd_some hG
  obtain ⟨g13, hG⟩ := hG
  replace hG := zbnd hG
  obtain ⟨X11, e12, hG⟩ := hG
  refine bnd_eq (m_sI hl (i := 58) (by decide) rfl e12) ?_
  replace hG := Option.some.inj hG
  subst hG
  rfl
def gb222_100 (n : Nat)  (l1 : Int32) (l2 : Int32) (l3 : Int32) (X : zX) : Option (Unit × zX) :=
  (wr X 67 l3 l2).bind fun X2 =>
  some ((), X2)
set_option maxRecDepth 20000 in
theorem rb222_100 {n : Nat} {h0 : zH} (hl : Fx h0)   {l1 : Int32} {l2 : Int32} {l3 : Int32} {X : zX} {p : Unit × zX} (hG : gb222_100 n  l1 l2 l3 X = some p) : b222_100 n  159 l1 l2 l3 (mq h0 X) = some (p.1, mq h0 p.2) := by
  unfold gb222_100 at hG
  unfold b222_100
  refine bnd_eq (mgR_81 hl) ?_
  refine bnd_eq rfl ?_
  replace hG := zbnd hG
  obtain ⟨X2, e3, hG⟩ := hG
  refine bnd_eq (m_sI hl (i := 67) (by decide) rfl e3) ?_
  replace hG := Option.some.inj hG
  subst hG
  rfl
def gb222_2 (n : Nat) (q2 : Int32 → Int32 → zX → Option (Unit × zX)) (l1 : Int32) (l2 : Int32) (X : zX) : Option (Unit × zX) :=
  (rd (X.2.2 63) ((X.1 75) - 1)).bind fun x2 =>
  if x2 = (-1) then
    (rd (X.2.2 66) ((X.1 75) - 1)).bind fun x6 =>
    if x6 = (-1) then
      gb222_100 n  l1 l2 ((X.1 75) - 1) X
    else
      (rd (X.2.2 66) ((X.1 75) - 1)).bind fun x10 =>
      (rd (X.2.2 67) ((X.1 75) - 1)).bind fun x13 =>
      (g220 n x10 x13 l2 X).bind fun p15 =>
      gb222_100 n  l1 l2 ((X.1 75) - 1) p15.2
  else
    (rd (X.2.2 63) ((X.1 75) - 1)).bind fun x18 =>
    (g220 n x18 (-1) l2 X).bind fun p20 =>
    (g221 n x18 p20.2).bind fun p22 =>
    zlet (xF p22.2 75 ((p22.2.1 75) - 1)) fun X24 =>
    zlet (xF X24 76 ((X24.1 76) - 1)) fun X26 =>
    q2 l1 x18 X26
set_option maxRecDepth 20000 in
theorem rb222_2 {n : Nat} {h0 : zH} (hl : Fx h0) {q2 : Int32 → Int32 → zX → Option (Unit × zX)} {r2 : Nat → Int32 → Int32 → zH → Option (Unit × zH)} (hr2 : ∀ {l1 : Int32} {l2 : Int32} {X : zX} {p : Unit × zX}, q2 l1 l2 X = some p → r2 159 l1 l2 (mq h0 X) = some (p.1, mq h0 p.2)) {l1 : Int32} {l2 : Int32} {X : zX} {p : Unit × zX} (hG : gb222_2 n q2 l1 l2 X = some p) : b222_2 n r2 159 l1 l2 (mq h0 X) = some (p.1, mq h0 p.2) := by
  unfold gb222_2 at hG
  unfold b222_2
  refine bnd_eq (mgR_77 hl) ?_
  refine bnd_eq (mgI_75 hl) ?_
  refine bnd_eq rfl ?_
  replace hG := zbnd hG
  obtain ⟨x2, e3, hG⟩ := hG
  refine bnd_eq (m_aI hl (i := 63) (by decide) rfl e3) ?_
  by_cases c4 : x2 = (-1)
  · rw [if_pos c4] at hG
    refine (if_pos c4).trans ?_
    refine bnd_eq (mgI_75 hl) ?_
    refine bnd_eq (mgR_80 hl) ?_
    refine bnd_eq rfl ?_
    replace hG := zbnd hG
    obtain ⟨x6, e7, hG⟩ := hG
    refine bnd_eq (m_aI hl (i := 66) (by decide) rfl e7) ?_
    by_cases c8 : x6 = (-1)
    · rw [if_pos c8] at hG
      refine (if_pos c8).trans ?_
      exact rb222_100 hl  hG
    · rw [if_neg c8] at hG
      refine (if_neg c8).trans ?_
      refine bnd_eq (mgR_80 hl) ?_
      refine bnd_eq rfl ?_
      replace hG := zbnd hG
      obtain ⟨x10, e11, hG⟩ := hG
      refine bnd_eq (m_aI hl (i := 66) (by decide) rfl e11) ?_
      refine bnd_eq (mgR_81 hl) ?_
      refine bnd_eq rfl ?_
      replace hG := zbnd hG
      obtain ⟨x13, e14, hG⟩ := hG
      refine bnd_eq (m_aI hl (i := 67) (by decide) rfl e14) ?_
      refine zgd_eq (m_isO hl) ?_
      replace hG := zbnd hG
      obtain ⟨p15, e16, hG⟩ := hG
      refine bnd_eq (r220 hl e16) ?_
      exact rb222_100 hl  hG
  · rw [if_neg c4] at hG
    refine (if_neg c4).trans ?_
    refine bnd_eq (mgR_77 hl) ?_
    refine bnd_eq (mgI_75 hl) ?_
    refine bnd_eq rfl ?_
    replace hG := zbnd hG
    obtain ⟨x18, e19, hG⟩ := hG
    refine bnd_eq (m_aI hl (i := 63) (by decide) rfl e19) ?_
    refine zgd_eq (m_isO hl) ?_
    replace hG := zbnd hG
    obtain ⟨p20, e21, hG⟩ := hG
    refine bnd_eq (r220 hl e21) ?_
    refine zgd_eq (m_isO hl) ?_
    replace hG := zbnd hG
    obtain ⟨p22, e23, hG⟩ := hG
    refine bnd_eq (r221 hl e23) ?_
    refine bnd_eq (mgI_75 hl) ?_
    replace hG := zlet_ex hG
    obtain ⟨X24, e25, hG⟩ := hG
    refine bnd_eq (mpI_75 hl e25) ?_
    refine bnd_eq (mgI_76 hl) ?_
    replace hG := zlet_ex hG
    obtain ⟨X26, e27, hG⟩ := hG
    refine bnd_eq (mpI_76 hl e27) ?_
    exact hr2 hG
def gf222_2 (n : Nat)  (k : Nat) : Int32 → Int32 → zX → Option (Unit × zX) := Nat.rec (fun _ _ _ => none) (fun _ ih => gb222_2 n ih) k
theorem rf222_2 {n : Nat} {h0 : zH} (hl : Fx h0)   (k : Nat) : ∀ {l1 : Int32} {l2 : Int32} {X : zX} {p : Unit × zX}, gf222_2 n  k l1 l2 X = some p → f222_2 n  k 159 l1 l2 (mq h0 X) = some (p.1, mq h0 p.2) := by
  induction k with
  | zero => intros; rename_i hG; cases hG
  | succ k ih => intros; rename_i hG; exact rb222_2 (n := n) hl ih hG
def g222 (n : Nat) (y1 : Int32) (X : zX) : Option (Unit × zX) :=
  gf222_2 n  n y1 y1 X
set_option maxRecDepth 20000 in
theorem r222 {n : Nat} {h0 : zH} (hl : Fx h0) {y1 : Int32} {X : zX} {p : Unit × zX} (hG : g222 n y1 X = some p) : f222 n 159 y1 (mq h0 X) = some (p.1, mq h0 p.2) := by
  unfold g222 at hG
  unfold f222
  exact rf222_2 hl  n hG
def gb212_206 (n : Nat)  (l1 : Int32) (l2 : Int32) (X : zX) : Option (Int32 × zX) :=
  if (X.1 73) = (-1) then
    (g221 n l2 X).bind fun p2 =>
    (g222 n l2 p2.2).bind fun p4 =>
    some (0, p4.2)
  else
    some (0, X)
set_option maxRecDepth 20000 in
theorem rb212_206 {n : Nat} {h0 : zH} (hl : Fx h0)   {l1 : Int32} {l2 : Int32} {X : zX} {p : Int32 × zX} (hG : gb212_206 n  l1 l2 X = some p) : b212_206 n  159 l1 l2 (mq h0 X) = some (p.1, mq h0 p.2) := by
  unfold gb212_206 at hG
  unfold b212_206
  refine bnd_eq (mgI_73 hl) ?_
  by_cases c1 : (X.1 73) = (-1)
  · rw [if_pos c1] at hG
    refine (if_pos c1).trans ?_
    refine zgd_eq (m_isO hl) ?_
    replace hG := zbnd hG
    obtain ⟨p2, e3, hG⟩ := hG
    refine bnd_eq (r221 hl e3) ?_
    refine zgd_eq (m_isO hl) ?_
    replace hG := zbnd hG
    obtain ⟨p4, e5, hG⟩ := hG
    refine bnd_eq (r222 hl e5) ?_
    replace hG := Option.some.inj hG
    subst hG
    rfl
  · rw [if_neg c1] at hG
    refine (if_neg c1).trans ?_
    replace hG := Option.some.inj hG
    subst hG
    rfl
def gb212_164 (n : Nat)  (l1 : Int32) (l2 : Int32) (l3 : Int32) (s0 : Int32) (s1 : Int32) (X : zX) : Option (Int32 × zX) :=
  zgd (bkO (X.1 4) 51 (s1 + s0)) <|
  (wr X 51 (s1 + s0) l3).bind fun X1 =>
  gb212_206 n  l1 l2 X1
set_option maxRecDepth 20000 in
theorem rb212_164 {n : Nat} {h0 : zH} (hl : Fx h0)   {l1 : Int32} {l2 : Int32} {l3 : Int32} {s0 : Int32} {s1 : Int32} {X : zX} {p : Int32 × zX} (hG : gb212_164 n  l1 l2 l3 s0 s1 X = some p) : b212_164 n  159 l1 l2 l3 s0 s1 (some 211) (mq h0 X) = some (p.1, mq h0 p.2) := by
  unfold gb212_164 at hG
  unfold b212_164
  refine bnd_eq rfl ?_
  replace hG := zgd_some hG
  obtain ⟨g3, hG⟩ := hG
  replace hG := zbnd hG
  obtain ⟨X1, e2, hG⟩ := hG
  refine bnd_eq (m_sI hl (i := 51) (by decide) rfl e2) ?_
  exact rb212_206 hl  hG
def gb212_138 (n : Nat)  (l1 : Int32) (l2 : Int32) (s0 : Int32) (X : zX) : Option (Int32 × zX) :=
  if (X.1 73) = (-1) then
    gb212_164 n  l1 l2 s0 l2 (400 * (X.1 4)) X
  else
    gb212_164 n  l1 l2 s0 0 (400 * (X.1 4)) X
set_option maxRecDepth 20000 in
theorem rb212_138 {n : Nat} {h0 : zH} (hl : Fx h0)   {l1 : Int32} {l2 : Int32} {s0 : Int32} {X : zX} {p : Int32 × zX} (hG : gb212_138 n  l1 l2 s0 X = some p) : b212_138 n  159 l1 l2 s0 (mq h0 X) = some (p.1, mq h0 p.2) := by
  unfold gb212_138 at hG
  unfold b212_138
  refine bnd_eq (mgR_55 hl) ?_
  refine bnd_eq (mgI_4 hl) ?_
  refine bnd_eq (mgI_73 hl) ?_
  by_cases c2 : (X.1 73) = (-1)
  · rw [if_pos c2] at hG
    refine (if_pos c2).trans ?_
    exact rb212_164 hl  hG
  · rw [if_neg c2] at hG
    refine (if_neg c2).trans ?_
    exact rb212_164 hl  hG
def gb212_66 (n : Nat)   (X : zX) : Option (Int32 × zX) :=
  (g190 n  X).bind fun p1 =>
  some (1, p1.2)
set_option maxRecDepth 20000 in
theorem rb212_66 {n : Nat} {h0 : zH} (hl : Fx h0)    {X : zX} {p : Int32 × zX} (hG : gb212_66 n   X = some p) : b212_66 n  159 (mq h0 X) = some (p.1, mq h0 p.2) := by
  unfold gb212_66 at hG
  unfold b212_66
  refine zgd_eq (m_isO hl) ?_
  replace hG := zbnd hG
  obtain ⟨p1, e2, hG⟩ := hG
  refine bnd_eq (r190 hl e2) ?_
  replace hG := Option.some.inj hG
  subst hG
  rfl
def gb212_34 (n : Nat)  (l1 : Int32) (X : zX) : Option (Int32 × zX) :=
  (g190 n  X).bind fun p1 =>
  some (1, p1.2)
set_option maxRecDepth 20000 in
theorem rb212_34 {n : Nat} {h0 : zH} (hl : Fx h0)   {l1 : Int32} {X : zX} {p : Int32 × zX} (hG : gb212_34 n  l1 X = some p) : b212_34 n  159 l1 (mq h0 X) = some (p.1, mq h0 p.2) := by
  unfold gb212_34 at hG
  unfold b212_34
  refine zgd_eq (m_isO hl) ?_
  replace hG := zbnd hG
  obtain ⟨p1, e2, hG⟩ := hG
  refine bnd_eq (r190 hl e2) ?_
  replace hG := Option.some.inj hG
  subst hG
  rfl
def g212 (n : Nat)  (X : zX) : Option (Int32 × zX) :=
  (g213 n 61 X).bind fun p1 =>
  if p1.1 = 0 then
    (g209 n 40 p1.2).bind fun p4 =>
    if p4.1 = 0 then
      (g199 n 63 p4.2).bind fun p7 =>
      if p7.1 = (-1) then
        (g203 n  p7.2).bind fun p10 =>
        (g200 n p10.1 p10.2).bind fun p12 =>
        (g215 n 3 p12.2).bind fun p14 =>
        if (p14.2.1 73) = (-1) then
          (g217 n ((400 * (p14.2.1 4)) + p14.1) p14.2).bind fun p17 =>
          gb212_206 n  p7.1 p14.1 p17.2
        else
          gb212_206 n  p7.1 p14.1 p14.2
      else
        (g215 n p7.1 p7.2).bind fun p19 =>
        (g190 n  p19.2).bind fun p21 =>
        if p7.1 = 2 then
          if (p21.2.1 73) = (-1) then
            (rd (p21.2.2.2 4) (p21.2.1 4)).bind fun x27 =>
            (g216 n 5 (12 * (p21.2.1 4)) x27 p21.2).bind fun p29 =>
            gb212_138 n  p7.1 p19.1 p29.1 p29.2
          else
            gb212_138 n  p7.1 p19.1 0 p21.2
        else
          gb212_206 n  p7.1 p19.1 p21.2
    else
      (g214 n  p4.2).bind fun p31 =>
      if (p31.2.1 73) = (-1) then
        (g211 n (-1) p31.2).bind fun p34 =>
        gb212_66 n  p34.2
      else
        gb212_66 n  p31.2
  else
    (g214 n  p1.2).bind fun p36 =>
    (g215 n 12 p36.2).bind fun p38 =>
    if (p38.2.1 73) = (-1) then
      (g211 n p38.1 p38.2).bind fun p41 =>
      gb212_34 n  p38.1 p41.2
    else
      gb212_34 n  p38.1 p38.2
set_option maxRecDepth 20000 in
theorem r212 {n : Nat} {h0 : zH} (hl : Fx h0)  {X : zX} {p : Int32 × zX} (hG : g212 n  X = some p) : f212 n 159 (mq h0 X) = some (p.1, mq h0 p.2) := by
  unfold g212 at hG
  unfold f212
  refine zgd_eq (m_isO hl) ?_
  replace hG := zbnd hG
  obtain ⟨p1, e2, hG⟩ := hG
  refine bnd_eq (r213 hl e2) ?_
  by_cases c3 : p1.1 = 0
  · rw [if_pos c3] at hG
    refine (if_pos c3).trans ?_
    refine zgd_eq (m_isO hl) ?_
    replace hG := zbnd hG
    obtain ⟨p4, e5, hG⟩ := hG
    refine bnd_eq (r209 hl e5) ?_
    by_cases c6 : p4.1 = 0
    · rw [if_pos c6] at hG
      refine (if_pos c6).trans ?_
      refine zgd_eq (m_isO hl) ?_
      replace hG := zbnd hG
      obtain ⟨p7, e8, hG⟩ := hG
      refine bnd_eq (r199 hl e8) ?_
      by_cases c9 : p7.1 = (-1)
      · rw [if_pos c9] at hG
        refine (if_pos c9).trans ?_
        refine zgd_eq (m_isO hl) ?_
        replace hG := zbnd hG
        obtain ⟨p10, e11, hG⟩ := hG
        refine bnd_eq (r203 hl e11) ?_
        refine zgd_eq (m_isO hl) ?_
        replace hG := zbnd hG
        obtain ⟨p12, e13, hG⟩ := hG
        refine bnd_eq (r200 hl e13) ?_
        refine zgd_eq (m_isO hl) ?_
        replace hG := zbnd hG
        obtain ⟨p14, e15, hG⟩ := hG
        refine bnd_eq (r215 hl e15) ?_
        refine bnd_eq (mgI_73 hl) ?_
        by_cases c16 : (p14.2.1 73) = (-1)
        · rw [if_pos c16] at hG
          refine (if_pos c16).trans ?_
          refine bnd_eq (mgI_4 hl) ?_
          refine zgd_eq (m_isO hl) ?_
          replace hG := zbnd hG
          obtain ⟨p17, e18, hG⟩ := hG
          refine bnd_eq (r217 hl e18) ?_
          exact rb212_206 hl  hG
        · rw [if_neg c16] at hG
          refine (if_neg c16).trans ?_
          exact rb212_206 hl  hG
      · rw [if_neg c9] at hG
        refine (if_neg c9).trans ?_
        refine zgd_eq (m_isO hl) ?_
        replace hG := zbnd hG
        obtain ⟨p19, e20, hG⟩ := hG
        refine bnd_eq (r215 hl e20) ?_
        refine zgd_eq (m_isO hl) ?_
        replace hG := zbnd hG
        obtain ⟨p21, e22, hG⟩ := hG
        refine bnd_eq (r190 hl e22) ?_
        by_cases c23 : p7.1 = 2
        · rw [if_pos c23] at hG
          refine (if_pos c23).trans ?_
          refine bnd_eq (mgI_73 hl) ?_
          by_cases c24 : (p21.2.1 73) = (-1)
          · rw [if_pos c24] at hG
            refine (if_pos c24).trans ?_
            refine bnd_eq (mgR_9 hl) ?_
            refine bnd_eq (mgI_4 hl) ?_
            refine bnd_eq (mgR_8 hl) ?_
            refine bnd_eq (mgI_4 hl) ?_
            refine bnd_eq rfl ?_
            replace hG := zbnd hG
            obtain ⟨x27, e28, hG⟩ := hG
            refine bnd_eq (m_aI hl (i := 4) (by decide) rfl e28) ?_
            refine zgd_eq (m_isO hl) ?_
            replace hG := zbnd hG
            obtain ⟨p29, e30, hG⟩ := hG
            refine bnd_eq (r216 hl e30) ?_
            exact rb212_138 hl  hG
          · rw [if_neg c24] at hG
            refine (if_neg c24).trans ?_
            exact rb212_138 hl  hG
        · rw [if_neg c23] at hG
          refine (if_neg c23).trans ?_
          exact rb212_206 hl  hG
    · rw [if_neg c6] at hG
      refine (if_neg c6).trans ?_
      refine zgd_eq (m_isO hl) ?_
      replace hG := zbnd hG
      obtain ⟨p31, e32, hG⟩ := hG
      refine bnd_eq (r214 hl e32) ?_
      refine bnd_eq (mgI_73 hl) ?_
      by_cases c33 : (p31.2.1 73) = (-1)
      · rw [if_pos c33] at hG
        refine (if_pos c33).trans ?_
        refine zgd_eq (m_isO hl) ?_
        replace hG := zbnd hG
        obtain ⟨p34, e35, hG⟩ := hG
        refine bnd_eq (r211 hl e35) ?_
        exact rb212_66 hl  hG
      · rw [if_neg c33] at hG
        refine (if_neg c33).trans ?_
        exact rb212_66 hl  hG
  · rw [if_neg c3] at hG
    refine (if_neg c3).trans ?_
    refine zgd_eq (m_isO hl) ?_
    replace hG := zbnd hG
    obtain ⟨p36, e37, hG⟩ := hG
    refine bnd_eq (r214 hl e37) ?_
    refine zgd_eq (m_isO hl) ?_
    replace hG := zbnd hG
    obtain ⟨p38, e39, hG⟩ := hG
    refine bnd_eq (r215 hl e39) ?_
    refine bnd_eq (mgI_73 hl) ?_
    by_cases c40 : (p38.2.1 73) = (-1)
    · rw [if_pos c40] at hG
      refine (if_pos c40).trans ?_
      refine zgd_eq (m_isO hl) ?_
      replace hG := zbnd hG
      obtain ⟨p41, e42, hG⟩ := hG
      refine bnd_eq (r211 hl e42) ?_
      exact rb212_34 hl  hG
    · rw [if_neg c40] at hG
      refine (if_neg c40).trans ?_
      exact rb212_34 hl  hG
def gb224_36 (n : Nat)  (l1 : Int32) (l2 : Int32) (X : zX) : Option (Int32 × zX) :=
  (wr X 66 l1 (-1)).bind fun X2 =>
  (wr X2 67 l1 (-1)).bind fun X5 =>
  some (l2, X5)
set_option maxRecDepth 20000 in
theorem rb224_36 {n : Nat} {h0 : zH} (hl : Fx h0)   {l1 : Int32} {l2 : Int32} {X : zX} {p : Int32 × zX} (hG : gb224_36 n  l1 l2 X = some p) : b224_36 n  159 l1 l2 (mq h0 X) = some (p.1, mq h0 p.2) := by
  unfold gb224_36 at hG
  unfold b224_36
  refine bnd_eq (mgR_80 hl) ?_
  refine bnd_eq rfl ?_
  replace hG := zbnd hG
  obtain ⟨X2, e3, hG⟩ := hG
  refine bnd_eq (m_sI hl (i := 66) (by decide) rfl e3) ?_
  refine bnd_eq (mgR_81 hl) ?_
  refine bnd_eq rfl ?_
  replace hG := zbnd hG
  obtain ⟨X5, e6, hG⟩ := hG
  refine bnd_eq (m_sI hl (i := 67) (by decide) rfl e6) ?_
  replace hG := Option.some.inj hG
  subst hG
  rfl
def g224 (n : Nat)  (X : zX) : Option (Int32 × zX) :=
  (rd (X.2.2 67) ((X.1 75) - 1)).bind fun x2 =>
  (rd (X.2.2 66) ((X.1 75) - 1)).bind fun x5 =>
  if x5 = (-1) then
    gb224_36 n  ((X.1 75) - 1) x2 X
  else
    (rd (X.2.2 66) ((X.1 75) - 1)).bind fun x9 =>
    (g221 n x9 X).bind fun p11 =>
    gb224_36 n  ((X.1 75) - 1) x9 p11.2
set_option maxRecDepth 20000 in
theorem r224 {n : Nat} {h0 : zH} (hl : Fx h0)  {X : zX} {p : Int32 × zX} (hG : g224 n  X = some p) : f224 n 159 (mq h0 X) = some (p.1, mq h0 p.2) := by
  unfold g224 at hG
  unfold f224
  refine bnd_eq (mgI_75 hl) ?_
  refine bnd_eq (mgR_81 hl) ?_
  refine bnd_eq rfl ?_
  replace hG := zbnd hG
  obtain ⟨x2, e3, hG⟩ := hG
  refine bnd_eq (m_aI hl (i := 67) (by decide) rfl e3) ?_
  refine bnd_eq (mgR_80 hl) ?_
  refine bnd_eq rfl ?_
  replace hG := zbnd hG
  obtain ⟨x5, e6, hG⟩ := hG
  refine bnd_eq (m_aI hl (i := 66) (by decide) rfl e6) ?_
  by_cases c7 : x5 = (-1)
  · rw [if_pos c7] at hG
    refine (if_pos c7).trans ?_
    exact rb224_36 hl  hG
  · rw [if_neg c7] at hG
    refine (if_neg c7).trans ?_
    refine bnd_eq (mgR_80 hl) ?_
    refine bnd_eq rfl ?_
    replace hG := zbnd hG
    obtain ⟨x9, e10, hG⟩ := hG
    refine bnd_eq (m_aI hl (i := 66) (by decide) rfl e10) ?_
    refine zgd_eq (m_isO hl) ?_
    replace hG := zbnd hG
    obtain ⟨p11, e12, hG⟩ := hG
    refine bnd_eq (r221 hl e12) ?_
    exact rb224_36 hl  hG
def gb223_19 (n : Nat)  (l1 : Int32) (l2 : Int32) (s0 : Int32) (X : zX) : Option (Unit × zX) :=
  (g215 n s0 X).bind fun p1 =>
  if (p1.2.1 73) = (-1) then
    if l1 = 0 then
      (rd (p1.2.2.2 67) l2).bind fun x6 =>
      (g220 n p1.1 (-1) x6 p1.2).bind fun p8 =>
      (wr p8.2 66 l2 p1.1).bind fun X11 =>
      some ((), X11)
    else
      (g224 n  p1.2).bind fun p13 =>
      (g220 n p1.1 (-1) p13.1 p13.2).bind fun p15 =>
      (wr p15.2 64 l2 p1.1).bind fun X18 =>
      (wr X18 65 l2 p13.1).bind fun X21 =>
      some ((), X21)
  else
    some ((), p1.2)
set_option maxRecDepth 20000 in
theorem rb223_19 {n : Nat} {h0 : zH} (hl : Fx h0)   {l1 : Int32} {l2 : Int32} {s0 : Int32} {X : zX} {p : Unit × zX} (hG : gb223_19 n  l1 l2 s0 X = some p) : b223_19 n  159 l1 l2 s0 159 (mq h0 X) = some (p.1, mq h0 p.2) := by
  unfold gb223_19 at hG
  unfold b223_19
  refine zgd_eq (m_isO hl) ?_
  replace hG := zbnd hG
  obtain ⟨p1, e2, hG⟩ := hG
  refine bnd_eq (r215 hl e2) ?_
  refine bnd_eq (mgI_73 hl) ?_
  by_cases c3 : (p1.2.1 73) = (-1)
  · rw [if_pos c3] at hG
    refine (if_pos c3).trans ?_
    by_cases c4 : l1 = 0
    · rw [if_pos c4] at hG
      refine (if_pos c4).trans ?_
      refine bnd_eq (mgR_81 hl) ?_
      refine bnd_eq rfl ?_
      replace hG := zbnd hG
      obtain ⟨x6, e7, hG⟩ := hG
      refine bnd_eq (m_aI hl (i := 67) (by decide) rfl e7) ?_
      refine zgd_eq (m_isO hl) ?_
      replace hG := zbnd hG
      obtain ⟨p8, e9, hG⟩ := hG
      refine bnd_eq (r220 hl e9) ?_
      refine bnd_eq (mgR_80 hl) ?_
      refine bnd_eq rfl ?_
      replace hG := zbnd hG
      obtain ⟨X11, e12, hG⟩ := hG
      refine bnd_eq (m_sI hl (i := 66) (by decide) rfl e12) ?_
      replace hG := Option.some.inj hG
      subst hG
      rfl
    · rw [if_neg c4] at hG
      refine (if_neg c4).trans ?_
      refine zgd_eq (m_isO hl) ?_
      replace hG := zbnd hG
      obtain ⟨p13, e14, hG⟩ := hG
      refine bnd_eq (r224 hl e14) ?_
      refine zgd_eq (m_isO hl) ?_
      replace hG := zbnd hG
      obtain ⟨p15, e16, hG⟩ := hG
      refine bnd_eq (r220 hl e16) ?_
      refine bnd_eq (mgR_78 hl) ?_
      refine bnd_eq rfl ?_
      replace hG := zbnd hG
      obtain ⟨X18, e19, hG⟩ := hG
      refine bnd_eq (m_sI hl (i := 64) (by decide) rfl e19) ?_
      refine bnd_eq (mgR_79 hl) ?_
      refine bnd_eq rfl ?_
      replace hG := zbnd hG
      obtain ⟨X21, e22, hG⟩ := hG
      refine bnd_eq (m_sI hl (i := 65) (by decide) rfl e22) ?_
      replace hG := Option.some.inj hG
      subst hG
      rfl
  · rw [if_neg c3] at hG
    refine (if_neg c3).trans ?_
    replace hG := Option.some.inj hG
    subst hG
    rfl
def g223 (n : Nat) (y1 : Int32) (X : zX) : Option (Unit × zX) :=
  if y1 = 0 then
    gb223_19 n  y1 ((X.1 75) - 1) 14 X
  else
    gb223_19 n  y1 ((X.1 75) - 1) 13 X
set_option maxRecDepth 20000 in
theorem r223 {n : Nat} {h0 : zH} (hl : Fx h0) {y1 : Int32} {X : zX} {p : Unit × zX} (hG : g223 n y1 X = some p) : f223 n 159 y1 (mq h0 X) = some (p.1, mq h0 p.2) := by
  unfold g223 at hG
  unfold f223
  refine bnd_eq (mgI_75 hl) ?_
  by_cases c1 : y1 = 0
  · rw [if_pos c1] at hG
    refine (if_pos c1).trans ?_
    exact rb223_19 hl  hG
  · rw [if_neg c1] at hG
    refine (if_neg c1).trans ?_
    exact rb223_19 hl  hG
def g225 (n : Nat)  (X : zX) : Option (Int32 × zX) :=
  (g224 n  X).bind fun p1 =>
  (rd (p1.2.2.2 64) ((X.1 75) - 1)).bind fun x4 =>
  if x4 = (-1) then
    some (p1.1, p1.2)
  else
    (rd (p1.2.2.2 64) ((X.1 75) - 1)).bind fun x8 =>
    (rd (p1.2.2.2 65) ((X.1 75) - 1)).bind fun x11 =>
    (g220 n x8 x11 p1.1 p1.2).bind fun p13 =>
    (rd (p13.2.2.2 64) ((X.1 75) - 1)).bind fun x16 =>
    (g221 n x16 p13.2).bind fun p18 =>
    some (x16, p18.2)
set_option maxRecDepth 20000 in
theorem r225 {n : Nat} {h0 : zH} (hl : Fx h0)  {X : zX} {p : Int32 × zX} (hG : g225 n  X = some p) : f225 n 159 (mq h0 X) = some (p.1, mq h0 p.2) := by
  unfold g225 at hG
  unfold f225
  refine bnd_eq (mgI_75 hl) ?_
  refine zgd_eq (m_isO hl) ?_
  replace hG := zbnd hG
  obtain ⟨p1, e2, hG⟩ := hG
  refine bnd_eq (r224 hl e2) ?_
  refine bnd_eq (mgR_78 hl) ?_
  refine bnd_eq rfl ?_
  replace hG := zbnd hG
  obtain ⟨x4, e5, hG⟩ := hG
  refine bnd_eq (m_aI hl (i := 64) (by decide) rfl e5) ?_
  by_cases c6 : x4 = (-1)
  · rw [if_pos c6] at hG
    refine (if_pos c6).trans ?_
    replace hG := Option.some.inj hG
    subst hG
    rfl
  · rw [if_neg c6] at hG
    refine (if_neg c6).trans ?_
    refine bnd_eq (mgR_78 hl) ?_
    refine bnd_eq rfl ?_
    replace hG := zbnd hG
    obtain ⟨x8, e9, hG⟩ := hG
    refine bnd_eq (m_aI hl (i := 64) (by decide) rfl e9) ?_
    refine bnd_eq (mgR_79 hl) ?_
    refine bnd_eq rfl ?_
    replace hG := zbnd hG
    obtain ⟨x11, e12, hG⟩ := hG
    refine bnd_eq (m_aI hl (i := 65) (by decide) rfl e12) ?_
    refine zgd_eq (m_isO hl) ?_
    replace hG := zbnd hG
    obtain ⟨p13, e14, hG⟩ := hG
    refine bnd_eq (r220 hl e14) ?_
    refine bnd_eq (mgR_78 hl) ?_
    refine bnd_eq rfl ?_
    replace hG := zbnd hG
    obtain ⟨x16, e17, hG⟩ := hG
    refine bnd_eq (m_aI hl (i := 64) (by decide) rfl e17) ?_
    refine zgd_eq (m_isO hl) ?_
    replace hG := zbnd hG
    obtain ⟨p18, e19, hG⟩ := hG
    refine bnd_eq (r221 hl e19) ?_
    replace hG := Option.some.inj hG
    subst hG
    rfl
def gb210_212 (n : Nat) (q17 : Int32 → zX → Option (Int32 × zX)) (l1 : Int32) (l2 : Int32) (X : zX) : Option (Int32 × zX) :=
  q17 l1 X
set_option maxRecDepth 20000 in
theorem rb210_212 {n : Nat} {h0 : zH} (hl : Fx h0) {q17 : Int32 → zX → Option (Int32 × zX)} {r17 : Nat → Int32 → zH → Option (Int32 × zH)} (hr17 : ∀ {l1 : Int32} {X : zX} {p : Int32 × zX}, q17 l1 X = some p → r17 159 l1 (mq h0 X) = some (p.1, mq h0 p.2)) {l1 : Int32} {l2 : Int32} {X : zX} {p : Int32 × zX} (hG : gb210_212 n q17 l1 l2 X = some p) : b210_212 n r17 159 l1 l2 (mq h0 X) = some (p.1, mq h0 p.2) := by
  unfold gb210_212 at hG
  unfold b210_212
  exact hr17 hG
def gb210_135 (n : Nat) (q17 : Int32 → zX → Option (Int32 × zX)) (l1 : Int32) (l2 : Int32) (X : zX) : Option (Int32 × zX) :=
  (g190 n  X).bind fun p1 =>
  gb210_212 n q17 1 l2 p1.2
set_option maxRecDepth 20000 in
theorem rb210_135 {n : Nat} {h0 : zH} (hl : Fx h0) {q17 : Int32 → zX → Option (Int32 × zX)} {r17 : Nat → Int32 → zH → Option (Int32 × zH)} (hr17 : ∀ {l1 : Int32} {X : zX} {p : Int32 × zX}, q17 l1 X = some p → r17 159 l1 (mq h0 X) = some (p.1, mq h0 p.2)) {l1 : Int32} {l2 : Int32} {X : zX} {p : Int32 × zX} (hG : gb210_135 n q17 l1 l2 X = some p) : b210_135 n r17 159 l1 l2 (mq h0 X) = some (p.1, mq h0 p.2) := by
  unfold gb210_135 at hG
  unfold b210_135
  refine zgd_eq (m_isO hl) ?_
  replace hG := zbnd hG
  obtain ⟨p1, e2, hG⟩ := hG
  refine bnd_eq (r190 hl e2) ?_
  exact rb210_212 hl hr17 hG
def gb210_69 (n : Nat) (q17 : Int32 → zX → Option (Int32 × zX)) (l1 : Int32) (l2 : Int32) (X : zX) : Option (Int32 × zX) :=
  (g190 n  X).bind fun p1 =>
  gb210_212 n q17 1 l2 p1.2
set_option maxRecDepth 20000 in
theorem rb210_69 {n : Nat} {h0 : zH} (hl : Fx h0) {q17 : Int32 → zX → Option (Int32 × zX)} {r17 : Nat → Int32 → zH → Option (Int32 × zH)} (hr17 : ∀ {l1 : Int32} {X : zX} {p : Int32 × zX}, q17 l1 X = some p → r17 159 l1 (mq h0 X) = some (p.1, mq h0 p.2)) {l1 : Int32} {l2 : Int32} {X : zX} {p : Int32 × zX} (hG : gb210_69 n q17 l1 l2 X = some p) : b210_69 n r17 159 l1 l2 (mq h0 X) = some (p.1, mq h0 p.2) := by
  unfold gb210_69 at hG
  unfold b210_69
  refine zgd_eq (m_isO hl) ?_
  replace hG := zbnd hG
  obtain ⟨p1, e2, hG⟩ := hG
  refine bnd_eq (r190 hl e2) ?_
  exact rb210_212 hl hr17 hG
def gb210_17 (n : Nat) (q17 : Int32 → zX → Option (Int32 × zX)) (l1 : Int32) (X : zX) : Option (Int32 × zX) :=
  if (X.1 73) = (-1) then
    if l1 = 0 then
      (g213 n 57 X).bind fun p3 =>
      if p3.1 = 0 then
        (g213 n 59 p3.2).bind fun p6 =>
        if p6.1 = 0 then
          if (p6.2.1 75) ≤ 1 then
            (g225 n  p6.2).bind fun p10 =>
            some (p10.1, p10.2)
          else
            (g209 n 41 p6.2).bind fun p12 =>
            (g200 n p12.1 p12.2).bind fun p14 =>
            if (p14.2.1 73) = (-1) then
              (g225 n  p14.2).bind fun p17 =>
              zlet (xF p17.2 75 ((p17.2.1 75) - 1)) fun X19 =>
              zlet (xF X19 76 ((X19.1 76) - 1)) fun X21 =>
              (g222 n p17.1 X21).bind fun p23 =>
              (g190 n  p23.2).bind fun p25 =>
              gb210_212 n q17 l1 ((X.1 75) - 1) p25.2
            else
              gb210_212 n q17 l1 ((X.1 75) - 1) p14.2
        else
          (rd (p6.2.2.2 64) ((X.1 75) - 1)).bind fun x28 =>
          if x28 = (-1) then
            (g223 n 1 p6.2).bind fun p31 =>
            gb210_135 n q17 l1 ((X.1 75) - 1) p31.2
          else
            (g224 n  p6.2).bind fun p33 =>
            (rd (p33.2.2.2 64) ((X.1 75) - 1)).bind fun x36 =>
            (rd (p33.2.2.2 65) ((X.1 75) - 1)).bind fun x39 =>
            (g220 n x36 x39 p33.1 p33.2).bind fun p41 =>
            (wr p41.2 65 ((X.1 75) - 1) p33.1).bind fun X44 =>
            gb210_135 n q17 l1 ((X.1 75) - 1) X44
      else
        (rd (p3.2.2.2 66) ((X.1 75) - 1)).bind fun x47 =>
        if x47 = (-1) then
          (g223 n 0 p3.2).bind fun p50 =>
          gb210_69 n q17 l1 ((X.1 75) - 1) p50.2
        else
          gb210_69 n q17 l1 ((X.1 75) - 1) p3.2
    else
      (g212 n  X).bind fun p52 =>
      gb210_212 n q17 p52.1 ((X.1 75) - 1) p52.2
  else
    some ((-1), X)
set_option maxRecDepth 20000 in
theorem rb210_17 {n : Nat} {h0 : zH} (hl : Fx h0) {q17 : Int32 → zX → Option (Int32 × zX)} {r17 : Nat → Int32 → zH → Option (Int32 × zH)} (hr17 : ∀ {l1 : Int32} {X : zX} {p : Int32 × zX}, q17 l1 X = some p → r17 159 l1 (mq h0 X) = some (p.1, mq h0 p.2)) {l1 : Int32} {X : zX} {p : Int32 × zX} (hG : gb210_17 n q17 l1 X = some p) : b210_17 n r17 159 l1 (mq h0 X) = some (p.1, mq h0 p.2) := by
  unfold gb210_17 at hG
  unfold b210_17
  refine bnd_eq (mgI_73 hl) ?_
  by_cases c1 : (X.1 73) = (-1)
  · rw [if_pos c1] at hG
    refine (if_pos c1).trans ?_
    refine bnd_eq (mgI_75 hl) ?_
    by_cases c2 : l1 = 0
    · rw [if_pos c2] at hG
      refine (if_pos c2).trans ?_
      refine zgd_eq (m_isO hl) ?_
      replace hG := zbnd hG
      obtain ⟨p3, e4, hG⟩ := hG
      refine bnd_eq (r213 hl e4) ?_
      by_cases c5 : p3.1 = 0
      · rw [if_pos c5] at hG
        refine (if_pos c5).trans ?_
        refine zgd_eq (m_isO hl) ?_
        replace hG := zbnd hG
        obtain ⟨p6, e7, hG⟩ := hG
        refine bnd_eq (r213 hl e7) ?_
        by_cases c8 : p6.1 = 0
        · rw [if_pos c8] at hG
          refine (if_pos c8).trans ?_
          refine bnd_eq (mgI_75 hl) ?_
          by_cases c9 : (p6.2.1 75) ≤ 1
          · rw [if_pos c9] at hG
            refine (if_pos c9).trans ?_
            refine zgd_eq (m_isO hl) ?_
            replace hG := zbnd hG
            obtain ⟨p10, e11, hG⟩ := hG
            refine bnd_eq (r225 hl e11) ?_
            replace hG := Option.some.inj hG
            subst hG
            rfl
          · rw [if_neg c9] at hG
            refine (if_neg c9).trans ?_
            refine zgd_eq (m_isO hl) ?_
            replace hG := zbnd hG
            obtain ⟨p12, e13, hG⟩ := hG
            refine bnd_eq (r209 hl e13) ?_
            refine zgd_eq (m_isO hl) ?_
            replace hG := zbnd hG
            obtain ⟨p14, e15, hG⟩ := hG
            refine bnd_eq (r200 hl e15) ?_
            refine bnd_eq (mgI_73 hl) ?_
            by_cases c16 : (p14.2.1 73) = (-1)
            · rw [if_pos c16] at hG
              refine (if_pos c16).trans ?_
              refine zgd_eq (m_isO hl) ?_
              replace hG := zbnd hG
              obtain ⟨p17, e18, hG⟩ := hG
              refine bnd_eq (r225 hl e18) ?_
              refine bnd_eq (mgI_75 hl) ?_
              replace hG := zlet_ex hG
              obtain ⟨X19, e20, hG⟩ := hG
              refine bnd_eq (mpI_75 hl e20) ?_
              refine bnd_eq (mgI_76 hl) ?_
              replace hG := zlet_ex hG
              obtain ⟨X21, e22, hG⟩ := hG
              refine bnd_eq (mpI_76 hl e22) ?_
              refine zgd_eq (m_isO hl) ?_
              replace hG := zbnd hG
              obtain ⟨p23, e24, hG⟩ := hG
              refine bnd_eq (r222 hl e24) ?_
              refine zgd_eq (m_isO hl) ?_
              replace hG := zbnd hG
              obtain ⟨p25, e26, hG⟩ := hG
              refine bnd_eq (r190 hl e26) ?_
              exact rb210_212 hl hr17 hG
            · rw [if_neg c16] at hG
              refine (if_neg c16).trans ?_
              exact rb210_212 hl hr17 hG
        · rw [if_neg c8] at hG
          refine (if_neg c8).trans ?_
          refine bnd_eq (mgR_78 hl) ?_
          refine bnd_eq rfl ?_
          replace hG := zbnd hG
          obtain ⟨x28, e29, hG⟩ := hG
          refine bnd_eq (m_aI hl (i := 64) (by decide) rfl e29) ?_
          by_cases c30 : x28 = (-1)
          · rw [if_pos c30] at hG
            refine (if_pos c30).trans ?_
            refine zgd_eq (m_isO hl) ?_
            replace hG := zbnd hG
            obtain ⟨p31, e32, hG⟩ := hG
            refine bnd_eq (r223 hl e32) ?_
            exact rb210_135 hl hr17 hG
          · rw [if_neg c30] at hG
            refine (if_neg c30).trans ?_
            refine zgd_eq (m_isO hl) ?_
            replace hG := zbnd hG
            obtain ⟨p33, e34, hG⟩ := hG
            refine bnd_eq (r224 hl e34) ?_
            refine bnd_eq (mgR_78 hl) ?_
            refine bnd_eq rfl ?_
            replace hG := zbnd hG
            obtain ⟨x36, e37, hG⟩ := hG
            refine bnd_eq (m_aI hl (i := 64) (by decide) rfl e37) ?_
            refine bnd_eq (mgR_79 hl) ?_
            refine bnd_eq rfl ?_
            replace hG := zbnd hG
            obtain ⟨x39, e40, hG⟩ := hG
            refine bnd_eq (m_aI hl (i := 65) (by decide) rfl e40) ?_
            refine zgd_eq (m_isO hl) ?_
            replace hG := zbnd hG
            obtain ⟨p41, e42, hG⟩ := hG
            refine bnd_eq (r220 hl e42) ?_
            refine bnd_eq (mgR_79 hl) ?_
            refine bnd_eq rfl ?_
            replace hG := zbnd hG
            obtain ⟨X44, e45, hG⟩ := hG
            refine bnd_eq (m_sI hl (i := 65) (by decide) rfl e45) ?_
            exact rb210_135 hl hr17 hG
      · rw [if_neg c5] at hG
        refine (if_neg c5).trans ?_
        refine bnd_eq (mgR_80 hl) ?_
        refine bnd_eq rfl ?_
        replace hG := zbnd hG
        obtain ⟨x47, e48, hG⟩ := hG
        refine bnd_eq (m_aI hl (i := 66) (by decide) rfl e48) ?_
        by_cases c49 : x47 = (-1)
        · rw [if_pos c49] at hG
          refine (if_pos c49).trans ?_
          refine zgd_eq (m_isO hl) ?_
          replace hG := zbnd hG
          obtain ⟨p50, e51, hG⟩ := hG
          refine bnd_eq (r223 hl e51) ?_
          exact rb210_69 hl hr17 hG
        · rw [if_neg c49] at hG
          refine (if_neg c49).trans ?_
          exact rb210_69 hl hr17 hG
    · rw [if_neg c2] at hG
      refine (if_neg c2).trans ?_
      refine zgd_eq (m_isO hl) ?_
      replace hG := zbnd hG
      obtain ⟨p52, e53, hG⟩ := hG
      refine bnd_eq (r212 hl e53) ?_
      exact rb210_212 hl hr17 hG
  · rw [if_neg c1] at hG
    refine (if_neg c1).trans ?_
    replace hG := Option.some.inj hG
    subst hG
    rfl
def gf210_17 (n : Nat)  (k : Nat) : Int32 → zX → Option (Int32 × zX) := Nat.rec (fun _ _ => none) (fun _ ih => gb210_17 n ih) k
theorem rf210_17 {n : Nat} {h0 : zH} (hl : Fx h0)   (k : Nat) : ∀ {l1 : Int32} {X : zX} {p : Int32 × zX}, gf210_17 n  k l1 X = some p → f210_17 n  k 159 l1 (mq h0 X) = some (p.1, mq h0 p.2) := by
  induction k with
  | zero => intros; rename_i hG; cases hG
  | succ k ih => intros; rename_i hG; exact rb210_17 (n := n) hl ih hG
def g210 (n : Nat)  (X : zX) : Option (Int32 × zX) :=
  zlet (xF X 75 0) fun X1 =>
  zlet (xF X1 76 0) fun X3 =>
  (g211 n (-1) X3).bind fun p5 =>
  gf210_17 n  n 1 p5.2
set_option maxRecDepth 20000 in
theorem r210 {n : Nat} {h0 : zH} (hl : Fx h0)  {X : zX} {p : Int32 × zX} (hG : g210 n  X = some p) : f210 n 159 (mq h0 X) = some (p.1, mq h0 p.2) := by
  unfold g210 at hG
  unfold f210
  replace hG := zlet_ex hG
  obtain ⟨X1, e2, hG⟩ := hG
  refine bnd_eq (mpI_75 hl e2) ?_
  replace hG := zlet_ex hG
  obtain ⟨X3, e4, hG⟩ := hG
  refine bnd_eq (mpI_76 hl e4) ?_
  refine zgd_eq (m_isO hl) ?_
  replace hG := zbnd hG
  obtain ⟨p5, e6, hG⟩ := hG
  refine bnd_eq (r211 hl e6) ?_
  exact rf210_17 hl  n hG
def gb201_149 (n : Nat)  (l1 : Int32) (l2 : Int32) (l3 : Int32) (X : zX) : Option (Unit × zX) :=
  (g208 n 59 X).bind fun p1 =>
  some ((), p1.2)
set_option maxRecDepth 20000 in
theorem rb201_149 {n : Nat} {h0 : zH} (hl : Fx h0)   {l1 : Int32} {l2 : Int32} {l3 : Int32} {X : zX} {p : Unit × zX} (hG : gb201_149 n  l1 l2 l3 X = some p) : b201_149 n  159 l1 l2 l3 (mq h0 X) = some (p.1, mq h0 p.2) := by
  unfold gb201_149 at hG
  unfold b201_149
  refine zgd_eq (m_isO hl) ?_
  replace hG := zbnd hG
  obtain ⟨p1, e2, hG⟩ := hG
  refine bnd_eq (r208 hl e2) ?_
  replace hG := Option.some.inj hG
  subst hG
  rfl
def gb201_19 (n : Nat)   (X : zX) : Option (Unit × zX) :=
  (g190 n  X).bind fun p1 =>
  (rd (p1.2.2.2 4) (p1.2.1 4)).bind fun x5 =>
  (g202 n 5 (12 * (p1.2.1 4)) x5 p1.2).bind fun p7 =>
  (g208 n 61 p7.2).bind fun p9 =>
  (rd (p9.2.2.2 58) (p9.2.1 4)).bind fun x12 =>
  (g210 n  p9.2).bind fun p14 =>
  if (p14.2.1 73) = (-1) then
    (rd (p14.2.2.2 4) (p14.2.1 4)).bind fun x18 =>
    zgd (bkO (p14.2.1 4) 5 ((12 * (p14.2.1 4)) + x18)) <|
    (wr p14.2 5 ((12 * (p14.2.1 4)) + x18) p7.1).bind fun X21 =>
    zgd (bkO (X21.1 4) 6 ((12 * (p14.2.1 4)) + x18)) <|
    (wr X21 6 ((12 * (p14.2.1 4)) + x18) p14.1).bind fun X25 =>
    zgd (bkO (X25.1 4) 7 ((12 * (p14.2.1 4)) + x18)) <|
    (wr X25 7 ((12 * (p14.2.1 4)) + x18) x12).bind fun X29 =>
    (rd (X29.2.2 58) (X29.1 4)).bind fun x34 =>
    zgd (bkO (X29.1 4) 8 ((12 * (p14.2.1 4)) + x18)) <|
    (wr X29 8 ((12 * (p14.2.1 4)) + x18) x34).bind fun X36 =>
    (rd (X36.2.2 4) (X36.1 4)).bind fun x40 =>
    zgd (bkO (X36.1 4) 4 (X36.1 4)) <|
    (wr X36 4 (X36.1 4) (x40 + 1)).bind fun X42 =>
    gb201_149 n  p7.1 x12 p14.1 X42
  else
    gb201_149 n  p7.1 x12 p14.1 p14.2
set_option maxRecDepth 20000 in
theorem rb201_19 {n : Nat} {h0 : zH} (hl : Fx h0)    {X : zX} {p : Unit × zX} (hG : gb201_19 n   X = some p) : b201_19 n  159 (mq h0 X) = some (p.1, mq h0 p.2) := by
  unfold gb201_19 at hG
  unfold b201_19
  refine zgd_eq (m_isO hl) ?_
  replace hG := zbnd hG
  obtain ⟨p1, e2, hG⟩ := hG
  refine bnd_eq (r190 hl e2) ?_
  refine bnd_eq (mgR_9 hl) ?_
  refine bnd_eq (mgI_4 hl) ?_
  refine bnd_eq (mgR_8 hl) ?_
  refine bnd_eq (mgI_4 hl) ?_
  refine bnd_eq rfl ?_
  replace hG := zbnd hG
  obtain ⟨x5, e6, hG⟩ := hG
  refine bnd_eq (m_aI hl (i := 4) (by decide) rfl e6) ?_
  refine zgd_eq (m_isO hl) ?_
  replace hG := zbnd hG
  obtain ⟨p7, e8, hG⟩ := hG
  refine bnd_eq (r202 hl e8) ?_
  refine zgd_eq (m_isO hl) ?_
  replace hG := zbnd hG
  obtain ⟨p9, e10, hG⟩ := hG
  refine bnd_eq (r208 hl e10) ?_
  refine bnd_eq (mgR_62 hl) ?_
  refine bnd_eq (mgI_4 hl) ?_
  refine bnd_eq rfl ?_
  replace hG := zbnd hG
  obtain ⟨x12, e13, hG⟩ := hG
  refine bnd_eq (m_aI hl (i := 58) (by decide) rfl e13) ?_
  refine zgd_eq (m_isO hl) ?_
  replace hG := zbnd hG
  obtain ⟨p14, e15, hG⟩ := hG
  refine bnd_eq (r210 hl e15) ?_
  refine bnd_eq (mgI_73 hl) ?_
  by_cases c16 : (p14.2.1 73) = (-1)
  · rw [if_pos c16] at hG
    refine (if_pos c16).trans ?_
    refine bnd_eq (mgI_4 hl) ?_
    refine bnd_eq (mgR_8 hl) ?_
    refine bnd_eq (mgI_4 hl) ?_
    refine bnd_eq rfl ?_
    replace hG := zbnd hG
    obtain ⟨x18, e19, hG⟩ := hG
    refine bnd_eq (m_aI hl (i := 4) (by decide) rfl e19) ?_
    refine bnd_eq (mgR_9 hl) ?_
    refine bnd_eq rfl ?_
    replace hG := zgd_some hG
    obtain ⟨g23, hG⟩ := hG
    replace hG := zbnd hG
    obtain ⟨X21, e22, hG⟩ := hG
    refine bnd_eq (m_sI hl (i := 5) (by decide) rfl e22) ?_
    refine bnd_eq (mgR_10 hl) ?_
    refine bnd_eq rfl ?_
    replace hG := zgd_some hG
    obtain ⟨g27, hG⟩ := hG
    replace hG := zbnd hG
    obtain ⟨X25, e26, hG⟩ := hG
    refine bnd_eq (m_sI hl (i := 6) (by decide) rfl e26) ?_
    refine bnd_eq (mgR_11 hl) ?_
    refine bnd_eq rfl ?_
    replace hG := zgd_some hG
    obtain ⟨g31, hG⟩ := hG
    replace hG := zbnd hG
    obtain ⟨X29, e30, hG⟩ := hG
    refine bnd_eq (m_sI hl (i := 7) (by decide) rfl e30) ?_
    refine bnd_eq (mgR_12 hl) ?_
    refine bnd_eq (mgR_62 hl) ?_
    refine bnd_eq (mgI_4 hl) ?_
    refine bnd_eq rfl ?_
    replace hG := zbnd hG
    obtain ⟨x34, e35, hG⟩ := hG
    refine bnd_eq (m_aI hl (i := 58) (by decide) rfl e35) ?_
    refine bnd_eq rfl ?_
    replace hG := zgd_some hG
    obtain ⟨g38, hG⟩ := hG
    replace hG := zbnd hG
    obtain ⟨X36, e37, hG⟩ := hG
    refine bnd_eq (m_sI hl (i := 8) (by decide) rfl e37) ?_
    refine bnd_eq (mgR_8 hl) ?_
    refine bnd_eq (mgI_4 hl) ?_
    refine bnd_eq rfl ?_
    replace hG := zbnd hG
    obtain ⟨x40, e41, hG⟩ := hG
    refine bnd_eq (m_aI hl (i := 4) (by decide) rfl e41) ?_
    replace hG := zgd_some hG
    obtain ⟨g44, hG⟩ := hG
    replace hG := zbnd hG
    obtain ⟨X42, e43, hG⟩ := hG
    refine bnd_eq (m_sI hl (i := 4) (by decide) rfl e43) ?_
    exact rb201_149 hl  hG
  · rw [if_neg c16] at hG
    refine (if_neg c16).trans ?_
    exact rb201_149 hl  hG
def g201 (n : Nat)  (X : zX) : Option (Unit × zX) :=
  (rd (X.2.2 4) (X.1 4)).bind fun x2 =>
  if x2 = 12 then
    (g195 n 5 X).bind fun p5 =>
    gb201_19 n  p5.2
  else
    gb201_19 n  X
set_option maxRecDepth 20000 in
theorem r201 {n : Nat} {h0 : zH} (hl : Fx h0)  {X : zX} {p : Unit × zX} (hG : g201 n  X = some p) : f201 n 159 (mq h0 X) = some (p.1, mq h0 p.2) := by
  unfold g201 at hG
  unfold f201
  refine bnd_eq (mgR_8 hl) ?_
  refine bnd_eq (mgI_4 hl) ?_
  refine bnd_eq rfl ?_
  replace hG := zbnd hG
  obtain ⟨x2, e3, hG⟩ := hG
  refine bnd_eq (m_aI hl (i := 4) (by decide) rfl e3) ?_
  by_cases c4 : x2 = 12
  · rw [if_pos c4] at hG
    refine (if_pos c4).trans ?_
    refine zgd_eq (m_isO hl) ?_
    replace hG := zbnd hG
    obtain ⟨p5, e6, hG⟩ := hG
    refine bnd_eq (r195 hl e6) ?_
    exact rb201_19 hl  hG
  · rw [if_neg c4] at hG
    refine (if_neg c4).trans ?_
    exact rb201_19 hl  hG
def gb227_171 (n : Nat)  (l1 : Int32) (l2 : Int32) (X : zX) : Option (Unit × zX) :=
  (g208 n 41 X).bind fun p1 =>
  some ((), p1.2)
set_option maxRecDepth 20000 in
theorem rb227_171 {n : Nat} {h0 : zH} (hl : Fx h0)   {l1 : Int32} {l2 : Int32} {X : zX} {p : Unit × zX} (hG : gb227_171 n  l1 l2 X = some p) : b227_171 n  159 l1 l2 (mq h0 X) = some (p.1, mq h0 p.2) := by
  unfold gb227_171 at hG
  unfold b227_171
  refine zgd_eq (m_isO hl) ?_
  replace hG := zbnd hG
  obtain ⟨p1, e2, hG⟩ := hG
  refine bnd_eq (r208 hl e2) ?_
  replace hG := Option.some.inj hG
  subst hG
  rfl
def gb227_159 (n : Nat) (q8 : Int32 → Int32 → zX → Option (Unit × zX)) (l1 : Int32) (l2 : Int32) (s0 : Int32) (X : zX) : Option (Unit × zX) :=
  if s0 = 0 then
    q8 l1 s0 X
  else
    (g190 n  X).bind fun p2 =>
    q8 l1 s0 p2.2
set_option maxRecDepth 20000 in
theorem rb227_159 {n : Nat} {h0 : zH} (hl : Fx h0) {q8 : Int32 → Int32 → zX → Option (Unit × zX)} {r8 : Nat → Int32 → Int32 → zH → Option (Unit × zH)} (hr8 : ∀ {l1 : Int32} {l2 : Int32} {X : zX} {p : Unit × zX}, q8 l1 l2 X = some p → r8 159 l1 l2 (mq h0 X) = some (p.1, mq h0 p.2)) {l1 : Int32} {l2 : Int32} {s0 : Int32} {X : zX} {p : Unit × zX} (hG : gb227_159 n q8 l1 l2 s0 X = some p) : b227_159 n r8 159 l1 l2 s0 (mq h0 X) = some (p.1, mq h0 p.2) := by
  unfold gb227_159 at hG
  unfold b227_159
  by_cases c1 : s0 = 0
  · rw [if_pos c1] at hG
    refine (if_pos c1).trans ?_
    exact hr8 hG
  · rw [if_neg c1] at hG
    refine (if_neg c1).trans ?_
    refine zgd_eq (m_isO hl) ?_
    replace hG := zbnd hG
    obtain ⟨p2, e3, hG⟩ := hG
    refine bnd_eq (r190 hl e3) ?_
    exact hr8 hG
def gb227_158 (n : Nat) (q8 : Int32 → Int32 → zX → Option (Unit × zX)) (l1 : Int32) (l2 : Int32) (X : zX) : Option (Unit × zX) :=
  gb227_159 n q8 l1 l2 0 X
set_option maxRecDepth 20000 in
theorem rb227_158 {n : Nat} {h0 : zH} (hl : Fx h0) {q8 : Int32 → Int32 → zX → Option (Unit × zX)} {r8 : Nat → Int32 → Int32 → zH → Option (Unit × zH)} (hr8 : ∀ {l1 : Int32} {l2 : Int32} {X : zX} {p : Unit × zX}, q8 l1 l2 X = some p → r8 159 l1 l2 (mq h0 X) = some (p.1, mq h0 p.2)) {l1 : Int32} {l2 : Int32} {X : zX} {p : Unit × zX} (hG : gb227_158 n q8 l1 l2 X = some p) : b227_158 n r8 159 l1 l2 (mq h0 X) = some (p.1, mq h0 p.2) := by
  unfold gb227_158 at hG
  unfold b227_158
  exact rb227_159 hl hr8 hG
def gb227_133 (n : Nat) (q8 : Int32 → Int32 → zX → Option (Unit × zX)) (l1 : Int32) (l2 : Int32) (X : zX) : Option (Unit × zX) :=
  (g190 n  X).bind fun p1 =>
  if (p1.2.1 73) = (-1) then
    (g209 n 44 p1.2).bind fun p4 =>
    if p4.1 = 0 then
      gb227_158 n q8 l1 l2 p4.2
    else
      gb227_159 n q8 l1 l2 1 p4.2
  else
    gb227_158 n q8 l1 l2 p1.2
set_option maxRecDepth 20000 in
theorem rb227_133 {n : Nat} {h0 : zH} (hl : Fx h0) {q8 : Int32 → Int32 → zX → Option (Unit × zX)} {r8 : Nat → Int32 → Int32 → zH → Option (Unit × zH)} (hr8 : ∀ {l1 : Int32} {l2 : Int32} {X : zX} {p : Unit × zX}, q8 l1 l2 X = some p → r8 159 l1 l2 (mq h0 X) = some (p.1, mq h0 p.2)) {l1 : Int32} {l2 : Int32} {X : zX} {p : Unit × zX} (hG : gb227_133 n q8 l1 l2 X = some p) : b227_133 n r8 159 l1 l2 (mq h0 X) = some (p.1, mq h0 p.2) := by
  unfold gb227_133 at hG
  unfold b227_133
  refine zgd_eq (m_isO hl) ?_
  replace hG := zbnd hG
  obtain ⟨p1, e2, hG⟩ := hG
  refine bnd_eq (r190 hl e2) ?_
  refine bnd_eq (mgI_73 hl) ?_
  by_cases c3 : (p1.2.1 73) = (-1)
  · rw [if_pos c3] at hG
    refine (if_pos c3).trans ?_
    refine zgd_eq (m_isO hl) ?_
    replace hG := zbnd hG
    obtain ⟨p4, e5, hG⟩ := hG
    refine bnd_eq (r209 hl e5) ?_
    by_cases c6 : p4.1 = 0
    · rw [if_pos c6] at hG
      refine (if_pos c6).trans ?_
      exact rb227_158 hl hr8 hG
    · rw [if_neg c6] at hG
      refine (if_neg c6).trans ?_
      exact rb227_159 hl hr8 hG
  · rw [if_neg c3] at hG
    refine (if_neg c3).trans ?_
    exact rb227_158 hl hr8 hG
def gb227_95 (n : Nat) (q8 : Int32 → Int32 → zX → Option (Unit × zX)) (l1 : Int32) (l2 : Int32) (X : zX) : Option (Unit × zX) :=
  if (X.1 73) = (-1) then
    (rd (X.2.2 12) l1).bind fun x4 =>
    (g206 n  X).bind fun p6 =>
    zgd (bkO (p6.2.1 4) 13 ((8 * l1) + x4)) <|
    (wr p6.2 13 ((8 * l1) + x4) p6.1).bind fun X8 =>
    (rd (X8.2.2 12) l1).bind fun x12 =>
    zgd (bkO (X8.1 4) 12 l1) <|
    (wr X8 12 l1 (x12 + 1)).bind fun X14 =>
    gb227_133 n q8 l1 l2 X14
  else
    gb227_133 n q8 l1 l2 X
set_option maxRecDepth 20000 in
theorem rb227_95 {n : Nat} {h0 : zH} (hl : Fx h0) {q8 : Int32 → Int32 → zX → Option (Unit × zX)} {r8 : Nat → Int32 → Int32 → zH → Option (Unit × zH)} (hr8 : ∀ {l1 : Int32} {l2 : Int32} {X : zX} {p : Unit × zX}, q8 l1 l2 X = some p → r8 159 l1 l2 (mq h0 X) = some (p.1, mq h0 p.2)) {l1 : Int32} {l2 : Int32} {X : zX} {p : Unit × zX} (hG : gb227_95 n q8 l1 l2 X = some p) : b227_95 n r8 159 l1 l2 (mq h0 X) = some (p.1, mq h0 p.2) := by
  unfold gb227_95 at hG
  unfold b227_95
  refine bnd_eq (mgI_73 hl) ?_
  by_cases c1 : (X.1 73) = (-1)
  · rw [if_pos c1] at hG
    refine (if_pos c1).trans ?_
    refine bnd_eq (mgR_17 hl) ?_
    refine bnd_eq (mgR_16 hl) ?_
    refine bnd_eq rfl ?_
    replace hG := zbnd hG
    obtain ⟨x4, e5, hG⟩ := hG
    refine bnd_eq (m_aI hl (i := 12) (by decide) rfl e5) ?_
    refine zgd_eq (m_isO hl) ?_
    replace hG := zbnd hG
    obtain ⟨p6, e7, hG⟩ := hG
    refine bnd_eq (r206 hl e7) ?_
    refine bnd_eq rfl ?_
    replace hG := zgd_some hG
    obtain ⟨g10, hG⟩ := hG
    replace hG := zbnd hG
    obtain ⟨X8, e9, hG⟩ := hG
    refine bnd_eq (m_sI hl (i := 13) (by decide) rfl e9) ?_
    refine bnd_eq (mgR_16 hl) ?_
    refine bnd_eq rfl ?_
    replace hG := zbnd hG
    obtain ⟨x12, e13, hG⟩ := hG
    refine bnd_eq (m_aI hl (i := 12) (by decide) rfl e13) ?_
    replace hG := zgd_some hG
    obtain ⟨g16, hG⟩ := hG
    replace hG := zbnd hG
    obtain ⟨X14, e15, hG⟩ := hG
    refine bnd_eq (m_sI hl (i := 12) (by decide) rfl e15) ?_
    exact rb227_133 hl hr8 hG
  · rw [if_neg c1] at hG
    refine (if_neg c1).trans ?_
    exact rb227_133 hl hr8 hG
def gb227_71 (n : Nat) (q8 : Int32 → Int32 → zX → Option (Unit × zX)) (l1 : Int32) (l2 : Int32) (X : zX) : Option (Unit × zX) :=
  if (X.1 73) = (-1) then
    (rd (X.2.2 12) l1).bind fun x3 =>
    if x3 = 8 then
      (g195 n 5 X).bind fun p6 =>
      gb227_95 n q8 l1 l2 p6.2
    else
      gb227_95 n q8 l1 l2 X
  else
    gb227_95 n q8 l1 l2 X
set_option maxRecDepth 20000 in
theorem rb227_71 {n : Nat} {h0 : zH} (hl : Fx h0) {q8 : Int32 → Int32 → zX → Option (Unit × zX)} {r8 : Nat → Int32 → Int32 → zH → Option (Unit × zH)} (hr8 : ∀ {l1 : Int32} {l2 : Int32} {X : zX} {p : Unit × zX}, q8 l1 l2 X = some p → r8 159 l1 l2 (mq h0 X) = some (p.1, mq h0 p.2)) {l1 : Int32} {l2 : Int32} {X : zX} {p : Unit × zX} (hG : gb227_71 n q8 l1 l2 X = some p) : b227_71 n r8 159 l1 l2 (mq h0 X) = some (p.1, mq h0 p.2) := by
  unfold gb227_71 at hG
  unfold b227_71
  refine bnd_eq (mgI_73 hl) ?_
  by_cases c1 : (X.1 73) = (-1)
  · rw [if_pos c1] at hG
    refine (if_pos c1).trans ?_
    refine bnd_eq (mgR_16 hl) ?_
    refine bnd_eq rfl ?_
    replace hG := zbnd hG
    obtain ⟨x3, e4, hG⟩ := hG
    refine bnd_eq (m_aI hl (i := 12) (by decide) rfl e4) ?_
    by_cases c5 : x3 = 8
    · rw [if_pos c5] at hG
      refine (if_pos c5).trans ?_
      refine zgd_eq (m_isO hl) ?_
      replace hG := zbnd hG
      obtain ⟨p6, e7, hG⟩ := hG
      refine bnd_eq (r195 hl e7) ?_
      exact rb227_95 hl hr8 hG
    · rw [if_neg c5] at hG
      refine (if_neg c5).trans ?_
      exact rb227_95 hl hr8 hG
  · rw [if_neg c1] at hG
    refine (if_neg c1).trans ?_
    exact rb227_95 hl hr8 hG
def gb227_8 (n : Nat) (q8 : Int32 → Int32 → zX → Option (Unit × zX)) (l1 : Int32) (l2 : Int32) (X : zX) : Option (Unit × zX) :=
  if l2 = 0 then
    gb227_171 n  l1 l2 X
  else
    if (X.1 73) = (-1) then
      (g203 n  X).bind fun p3 =>
      (g200 n p3.1 p3.2).bind fun p5 =>
      if (p5.2.1 73) = (-1) then
        (rd (p5.2.2.2 12) l1).bind fun x10 =>
        (g204 n 13 (8 * l1) x10 (p5.2.1 70) (p5.2.1 71) p5.2).bind fun p12 =>
        if p12.1 = (-1) then
          gb227_71 n q8 l1 l2 p12.2
        else
          (g195 n 3 p12.2).bind fun p15 =>
          gb227_71 n q8 l1 l2 p15.2
      else
        gb227_71 n q8 l1 l2 p5.2
    else
      gb227_171 n  l1 l2 X
set_option maxRecDepth 20000 in
theorem rb227_8 {n : Nat} {h0 : zH} (hl : Fx h0) {q8 : Int32 → Int32 → zX → Option (Unit × zX)} {r8 : Nat → Int32 → Int32 → zH → Option (Unit × zH)} (hr8 : ∀ {l1 : Int32} {l2 : Int32} {X : zX} {p : Unit × zX}, q8 l1 l2 X = some p → r8 159 l1 l2 (mq h0 X) = some (p.1, mq h0 p.2)) {l1 : Int32} {l2 : Int32} {X : zX} {p : Unit × zX} (hG : gb227_8 n q8 l1 l2 X = some p) : b227_8 n r8 159 l1 l2 (mq h0 X) = some (p.1, mq h0 p.2) := by
  unfold gb227_8 at hG
  unfold b227_8
  by_cases c1 : l2 = 0
  · rw [if_pos c1] at hG
    refine (if_pos c1).trans ?_
    exact rb227_171 hl  hG
  · rw [if_neg c1] at hG
    refine (if_neg c1).trans ?_
    refine bnd_eq (mgI_73 hl) ?_
    by_cases c2 : (X.1 73) = (-1)
    · rw [if_pos c2] at hG
      refine (if_pos c2).trans ?_
      refine zgd_eq (m_isO hl) ?_
      replace hG := zbnd hG
      obtain ⟨p3, e4, hG⟩ := hG
      refine bnd_eq (r203 hl e4) ?_
      refine zgd_eq (m_isO hl) ?_
      replace hG := zbnd hG
      obtain ⟨p5, e6, hG⟩ := hG
      refine bnd_eq (r200 hl e6) ?_
      refine bnd_eq (mgI_73 hl) ?_
      by_cases c7 : (p5.2.1 73) = (-1)
      · rw [if_pos c7] at hG
        refine (if_pos c7).trans ?_
        refine bnd_eq (mgR_17 hl) ?_
        refine bnd_eq (mgR_16 hl) ?_
        refine bnd_eq rfl ?_
        replace hG := zbnd hG
        obtain ⟨x10, e11, hG⟩ := hG
        refine bnd_eq (m_aI hl (i := 12) (by decide) rfl e11) ?_
        refine bnd_eq (mgI_70 hl) ?_
        refine bnd_eq (mgI_71 hl) ?_
        refine zgd_eq (m_isO hl) ?_
        replace hG := zbnd hG
        obtain ⟨p12, e13, hG⟩ := hG
        refine bnd_eq (r204 hl e13) ?_
        by_cases c14 : p12.1 = (-1)
        · rw [if_pos c14] at hG
          refine (if_pos c14).trans ?_
          exact rb227_71 hl hr8 hG
        · rw [if_neg c14] at hG
          refine (if_neg c14).trans ?_
          refine zgd_eq (m_isO hl) ?_
          replace hG := zbnd hG
          obtain ⟨p15, e16, hG⟩ := hG
          refine bnd_eq (r195 hl e16) ?_
          exact rb227_71 hl hr8 hG
      · rw [if_neg c7] at hG
        refine (if_neg c7).trans ?_
        exact rb227_71 hl hr8 hG
    · rw [if_neg c2] at hG
      refine (if_neg c2).trans ?_
      exact rb227_171 hl  hG
def gf227_8 (n : Nat)  (k : Nat) : Int32 → Int32 → zX → Option (Unit × zX) := Nat.rec (fun _ _ _ => none) (fun _ ih => gb227_8 n ih) k
theorem rf227_8 {n : Nat} {h0 : zH} (hl : Fx h0)   (k : Nat) : ∀ {l1 : Int32} {l2 : Int32} {X : zX} {p : Unit × zX}, gf227_8 n  k l1 l2 X = some p → f227_8 n  k 159 l1 l2 (mq h0 X) = some (p.1, mq h0 p.2) := by
  induction k with
  | zero => intros; rename_i hG; cases hG
  | succ k ih => intros; rename_i hG; exact rb227_8 (n := n) hl ih hG
def g227 (n : Nat) (y1 : Int32) (X : zX) : Option (Unit × zX) :=
  (g208 n 40 X).bind fun p1 =>
  gf227_8 n  n y1 1 p1.2
set_option maxRecDepth 20000 in
theorem r227 {n : Nat} {h0 : zH} (hl : Fx h0) {y1 : Int32} {X : zX} {p : Unit × zX} (hG : g227 n y1 X = some p) : f227 n 159 y1 (mq h0 X) = some (p.1, mq h0 p.2) := by
  unfold g227 at hG
  unfold f227
  refine zgd_eq (m_isO hl) ?_
  replace hG := zbnd hG
  obtain ⟨p1, e2, hG⟩ := hG
  refine bnd_eq (r208 hl e2) ?_
  exact rf227_8 hl  n hG
end ZREF

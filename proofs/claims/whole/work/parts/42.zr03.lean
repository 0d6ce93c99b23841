/-! THE REFERENCE OVER ITS MEMORY, 3 (written by a program of the verifier's) -/
section ZREF
def gb236_153 (n : Nat)  (l1 : Int32) (l2 : Int32) (l3 : Int32) (l4 : Int32) (X : zX) : Option (Unit × zX) :=
  (g208 n 59 X).bind fun p1 =>
  some ((), p1.2)
set_option maxRecDepth 20000 in
theorem rb236_153 {n : Nat} {h0 : zH} (hl : Fx h0)   {l1 : Int32} {l2 : Int32} {l3 : Int32} {l4 : Int32} {X : zX} {p : Unit × zX} (hG : gb236_153 n  l1 l2 l3 l4 X = some p) : b236_153 n  159 l1 l2 l3 l4 (mq h0 X) = some (p.1, mq h0 p.2) := by
  unfold gb236_153 at hG
  unfold b236_153
  refine zgd_eq (m_isO hl) ?_
  replace hG := zbnd hG
  obtain ⟨p1, e2, hG⟩ := hG
  refine bnd_eq (r208 hl e2) ?_
  replace hG := Option.some.inj hG
  subst hG
  rfl
def gb236_88 (n : Nat)  (l1 : Int32) (l2 : Int32) (l3 : Int32) (l4 : Int32) (X : zX) : Option (Unit × zX) :=
  if (X.1 73) = (-1) then
    (rd (X.2.2 35) (X.1 4)).bind fun x3 =>
    zgd (bkO (X.1 4) 36 ((40 * (X.1 4)) + x3)) <|
    (wr X 36 ((40 * (X.1 4)) + x3) l1).bind fun X6 =>
    zgd (bkO (X6.1 4) 37 ((40 * (X.1 4)) + x3)) <|
    (wr X6 37 ((40 * (X.1 4)) + x3) l3).bind fun X10 =>
    zgd (bkO (X10.1 4) 38 ((40 * (X.1 4)) + x3)) <|
    (wr X10 38 ((40 * (X.1 4)) + x3) l4).bind fun X14 =>
    (rd (X14.2.2 35) (X14.1 4)).bind fun x18 =>
    zgd (bkO (X14.1 4) 35 (X14.1 4)) <|
    (wr X14 35 (X14.1 4) (x18 + 1)).bind fun X20 =>
    gb236_153 n  l1 l2 l3 l4 X20
  else
    gb236_153 n  l1 l2 l3 l4 X
set_option maxRecDepth 20000 in
theorem rb236_88 {n : Nat} {h0 : zH} (hl : Fx h0)   {l1 : Int32} {l2 : Int32} {l3 : Int32} {l4 : Int32} {X : zX} {p : Unit × zX} (hG : gb236_88 n  l1 l2 l3 l4 X = some p) : b236_88 n  159 l1 l2 l3 l4 (mq h0 X) = some (p.1, mq h0 p.2) := by
  unfold gb236_88 at hG
  unfold b236_88
  refine bnd_eq (mgI_73 hl) ?_
  by_cases c1 : (X.1 73) = (-1)
  · rw [if_pos c1] at hG
    refine (if_pos c1).trans ?_
    refine bnd_eq (mgI_4 hl) ?_
    refine bnd_eq (mgR_39 hl) ?_
    refine bnd_eq (mgI_4 hl) ?_
    refine bnd_eq rfl ?_
    replace hG := zbnd hG
    obtain ⟨x3, e4, hG⟩ := hG
    refine bnd_eq (m_aI hl (i := 35) (by decide) rfl e4) ?_
    refine bnd_eq (mgR_40 hl) ?_
    refine bnd_eq rfl ?_
    replace hG := zgd_some hG
    obtain ⟨g8, hG⟩ := hG
    replace hG := zbnd hG
    obtain ⟨X6, e7, hG⟩ := hG
    refine bnd_eq (m_sI hl (i := 36) (by decide) rfl e7) ?_
    refine bnd_eq (mgR_41 hl) ?_
    refine bnd_eq rfl ?_
    replace hG := zgd_some hG
    obtain ⟨g12, hG⟩ := hG
    replace hG := zbnd hG
    obtain ⟨X10, e11, hG⟩ := hG
    refine bnd_eq (m_sI hl (i := 37) (by decide) rfl e11) ?_
    refine bnd_eq (mgR_42 hl) ?_
    refine bnd_eq rfl ?_
    replace hG := zgd_some hG
    obtain ⟨g16, hG⟩ := hG
    replace hG := zbnd hG
    obtain ⟨X14, e15, hG⟩ := hG
    refine bnd_eq (m_sI hl (i := 38) (by decide) rfl e15) ?_
    refine bnd_eq (mgR_39 hl) ?_
    refine bnd_eq (mgI_4 hl) ?_
    refine bnd_eq rfl ?_
    replace hG := zbnd hG
    obtain ⟨x18, e19, hG⟩ := hG
    refine bnd_eq (m_aI hl (i := 35) (by decide) rfl e19) ?_
    replace hG := zgd_some hG
    obtain ⟨g22, hG⟩ := hG
    replace hG := zbnd hG
    obtain ⟨X20, e21, hG⟩ := hG
    refine bnd_eq (m_sI hl (i := 35) (by decide) rfl e21) ?_
    exact rb236_153 hl  hG
  · rw [if_neg c1] at hG
    refine (if_neg c1).trans ?_
    exact rb236_153 hl  hG
def gb236_86 (n : Nat)  (l1 : Int32) (l2 : Int32) (l3 : Int32) (l4 : Int32) (s0 : Int32) (X : zX) : Option (Unit × zX) :=
  gb236_88 n  l1 l2 l3 s0 X
set_option maxRecDepth 20000 in
theorem rb236_86 {n : Nat} {h0 : zH} (hl : Fx h0)   {l1 : Int32} {l2 : Int32} {l3 : Int32} {l4 : Int32} {s0 : Int32} {X : zX} {p : Unit × zX} (hG : gb236_86 n  l1 l2 l3 l4 s0 X = some p) : b236_86 n  159 l1 l2 l3 l4 s0 (mq h0 X) = some (p.1, mq h0 p.2) := by
  unfold gb236_86 at hG
  unfold b236_86
  exact rb236_88 hl  hG
def gb236_19 (n : Nat)  (l1 : Int32) (l2 : Int32) (X : zX) : Option (Unit × zX) :=
  (g190 n  X).bind fun p1 =>
  (rd (p1.2.2.2 9) (p1.2.1 4)).bind fun x5 =>
  (g216 n 10 (24 * (p1.2.1 4)) x5 p1.2).bind fun p7 =>
  if l2 = 0 then
    gb236_88 n  l1 l2 p7.1 (-1) p7.2
  else
    (g208 n 61 p7.2).bind fun p10 =>
    if (p10.2.1 73) = (-1) then
      (g229 n ((24 * (p10.2.1 4)) + p7.1) p10.2).bind fun p13 =>
      gb236_86 n  l1 l2 p7.1 (-1) p13.1 p13.2
    else
      gb236_86 n  l1 l2 p7.1 (-1) (-1) p10.2
set_option maxRecDepth 20000 in
theorem rb236_19 {n : Nat} {h0 : zH} (hl : Fx h0)   {l1 : Int32} {l2 : Int32} {X : zX} {p : Unit × zX} (hG : gb236_19 n  l1 l2 X = some p) : b236_19 n  159 l1 l2 (mq h0 X) = some (p.1, mq h0 p.2) := by
  unfold gb236_19 at hG
  unfold b236_19
  refine zgd_eq (m_isO hl) ?_
  replace hG := zbnd hG
  obtain ⟨p1, e2, hG⟩ := hG
  refine bnd_eq (r190 hl e2) ?_
  refine bnd_eq (mgR_14 hl) ?_
  refine bnd_eq (mgI_4 hl) ?_
  refine bnd_eq (mgR_13 hl) ?_
  refine bnd_eq (mgI_4 hl) ?_
  refine bnd_eq rfl ?_
  replace hG := zbnd hG
  obtain ⟨x5, e6, hG⟩ := hG
  refine bnd_eq (m_aI hl (i := 9) (by decide) rfl e6) ?_
  refine zgd_eq (m_isO hl) ?_
  replace hG := zbnd hG
  obtain ⟨p7, e8, hG⟩ := hG
  refine bnd_eq (r216 hl e8) ?_
  by_cases c9 : l2 = 0
  · rw [if_pos c9] at hG
    refine (if_pos c9).trans ?_
    exact rb236_88 hl  hG
  · rw [if_neg c9] at hG
    refine (if_neg c9).trans ?_
    refine zgd_eq (m_isO hl) ?_
    replace hG := zbnd hG
    obtain ⟨p10, e11, hG⟩ := hG
    refine bnd_eq (r208 hl e11) ?_
    refine bnd_eq (mgI_73 hl) ?_
    by_cases c12 : (p10.2.1 73) = (-1)
    · rw [if_pos c12] at hG
      refine (if_pos c12).trans ?_
      refine bnd_eq (mgI_4 hl) ?_
      refine zgd_eq (m_isO hl) ?_
      replace hG := zbnd hG
      obtain ⟨p13, e14, hG⟩ := hG
      refine bnd_eq (r229 hl e14) ?_
      exact rb236_86 hl  hG
    · rw [if_neg c12] at hG
      refine (if_neg c12).trans ?_
      exact rb236_86 hl  hG
def g236 (n : Nat) (y1 : Int32) (y2 : Int32) (X : zX) : Option (Unit × zX) :=
  (rd (X.2.2 35) (X.1 4)).bind fun x2 =>
  if x2 = 40 then
    (g195 n 5 X).bind fun p5 =>
    gb236_19 n  y1 y2 p5.2
  else
    gb236_19 n  y1 y2 X
set_option maxRecDepth 20000 in
theorem r236 {n : Nat} {h0 : zH} (hl : Fx h0) {y1 : Int32} {y2 : Int32} {X : zX} {p : Unit × zX} (hG : g236 n y1 y2 X = some p) : f236 n 159 y1 y2 (mq h0 X) = some (p.1, mq h0 p.2) := by
  unfold g236 at hG
  unfold f236
  refine bnd_eq (mgR_39 hl) ?_
  refine bnd_eq (mgI_4 hl) ?_
  refine bnd_eq rfl ?_
  replace hG := zbnd hG
  obtain ⟨x2, e3, hG⟩ := hG
  refine bnd_eq (m_aI hl (i := 35) (by decide) rfl e3) ?_
  by_cases c4 : x2 = 40
  · rw [if_pos c4] at hG
    refine (if_pos c4).trans ?_
    refine zgd_eq (m_isO hl) ?_
    replace hG := zbnd hG
    obtain ⟨p5, e6, hG⟩ := hG
    refine bnd_eq (r195 hl e6) ?_
    exact rb236_19 hl  hG
  · rw [if_neg c4] at hG
    refine (if_neg c4).trans ?_
    exact rb236_19 hl  hG
def gb235_241 (n : Nat)  (l1 : Int32) (l2 : Int32) (l3 : Int32) (l4 : Int32) (X : zX) : Option (Unit × zX) :=
  (g208 n 125 X).bind fun p1 =>
  some ((), p1.2)
set_option maxRecDepth 20000 in
theorem rb235_241 {n : Nat} {h0 : zH} (hl : Fx h0)   {l1 : Int32} {l2 : Int32} {l3 : Int32} {l4 : Int32} {X : zX} {p : Unit × zX} (hG : gb235_241 n  l1 l2 l3 l4 X = some p) : b235_241 n  159 l1 l2 l3 l4 (mq h0 X) = some (p.1, mq h0 p.2) := by
  unfold gb235_241 at hG
  unfold b235_241
  refine zgd_eq (m_isO hl) ?_
  replace hG := zbnd hG
  obtain ⟨p1, e2, hG⟩ := hG
  refine bnd_eq (r208 hl e2) ?_
  replace hG := Option.some.inj hG
  subst hG
  rfl
def gb235_220 (n : Nat) (q168 : Int32 → Int32 → Int32 → Int32 → zX → Option (Unit × zX)) (l1 : Int32) (l2 : Int32) (l3 : Int32) (l4 : Int32) (X : zX) : Option (Unit × zX) :=
  (g213 n 89 X).bind fun p1 =>
  (g236 n l3 p1.1 p1.2).bind fun p3 =>
  q168 l1 l2 l3 l4 p3.2
set_option maxRecDepth 20000 in
theorem rb235_220 {n : Nat} {h0 : zH} (hl : Fx h0) {q168 : Int32 → Int32 → Int32 → Int32 → zX → Option (Unit × zX)} {r168 : Nat → Int32 → Int32 → Int32 → Int32 → zH → Option (Unit × zH)} (hr168 : ∀ {l1 : Int32} {l2 : Int32} {l3 : Int32} {l4 : Int32} {X : zX} {p : Unit × zX}, q168 l1 l2 l3 l4 X = some p → r168 159 l1 l2 l3 l4 (mq h0 X) = some (p.1, mq h0 p.2)) {l1 : Int32} {l2 : Int32} {l3 : Int32} {l4 : Int32} {X : zX} {p : Unit × zX} (hG : gb235_220 n q168 l1 l2 l3 l4 X = some p) : b235_220 n r168 159 l1 l2 l3 l4 (mq h0 X) = some (p.1, mq h0 p.2) := by
  unfold gb235_220 at hG
  unfold b235_220
  refine zgd_eq (m_isO hl) ?_
  replace hG := zbnd hG
  obtain ⟨p1, e2, hG⟩ := hG
  refine bnd_eq (r213 hl e2) ?_
  refine zgd_eq (m_isO hl) ?_
  replace hG := zbnd hG
  obtain ⟨p3, e4, hG⟩ := hG
  refine bnd_eq (r236 hl e4) ?_
  exact hr168 hG
def gb235_168 (n : Nat) (q168 : Int32 → Int32 → Int32 → Int32 → zX → Option (Unit × zX)) (l1 : Int32) (l2 : Int32) (l3 : Int32) (l4 : Int32) (X : zX) : Option (Unit × zX) :=
  if l4 = 0 then
    gb235_241 n  l1 l2 l3 l4 X
  else
    if (X.1 73) = (-1) then
      (g213 n 75 X).bind fun p3 =>
      if p3.1 = 0 then
        (g213 n 71 p3.2).bind fun p6 =>
        if p6.1 = 0 then
          (g213 n 89 p6.2).bind fun p9 =>
          if p9.1 = 0 then
            q168 l1 l2 l3 0 p9.2
          else
            gb235_220 n q168 l1 l2 l3 l4 p9.2
        else
          gb235_220 n q168 l1 l2 l3 l4 p6.2
      else
        (g234 n (-1) l3 p3.2).bind fun p12 =>
        q168 l1 l2 l3 l4 p12.2
    else
      gb235_241 n  l1 l2 l3 l4 X
set_option maxRecDepth 20000 in
theorem rb235_168 {n : Nat} {h0 : zH} (hl : Fx h0) {q168 : Int32 → Int32 → Int32 → Int32 → zX → Option (Unit × zX)} {r168 : Nat → Int32 → Int32 → Int32 → Int32 → zH → Option (Unit × zH)} (hr168 : ∀ {l1 : Int32} {l2 : Int32} {l3 : Int32} {l4 : Int32} {X : zX} {p : Unit × zX}, q168 l1 l2 l3 l4 X = some p → r168 159 l1 l2 l3 l4 (mq h0 X) = some (p.1, mq h0 p.2)) {l1 : Int32} {l2 : Int32} {l3 : Int32} {l4 : Int32} {X : zX} {p : Unit × zX} (hG : gb235_168 n q168 l1 l2 l3 l4 X = some p) : b235_168 n r168 159 l1 l2 l3 l4 (mq h0 X) = some (p.1, mq h0 p.2) := by
  unfold gb235_168 at hG
  unfold b235_168
  by_cases c1 : l4 = 0
  · rw [if_pos c1] at hG
    refine (if_pos c1).trans ?_
    exact rb235_241 hl  hG
  · rw [if_neg c1] at hG
    refine (if_neg c1).trans ?_
    refine bnd_eq (mgI_73 hl) ?_
    by_cases c2 : (X.1 73) = (-1)
    · rw [if_pos c2] at hG
      refine (if_pos c2).trans ?_
      refine zgd_eq (m_isO hl) ?_
      replace hG := zbnd hG
      obtain ⟨p3, e4, hG⟩ := hG
      refine bnd_eq (r213 hl e4) ?_
      by_cases c5 : p3.1 = 0
      · rw [if_pos c5] at hG
        refine (if_pos c5).trans ?_
        refine zgd_eq (m_isO hl) ?_
        replace hG := zbnd hG
        obtain ⟨p6, e7, hG⟩ := hG
        refine bnd_eq (r213 hl e7) ?_
        by_cases c8 : p6.1 = 0
        · rw [if_pos c8] at hG
          refine (if_pos c8).trans ?_
          refine zgd_eq (m_isO hl) ?_
          replace hG := zbnd hG
          obtain ⟨p9, e10, hG⟩ := hG
          refine bnd_eq (r213 hl e10) ?_
          by_cases c11 : p9.1 = 0
          · rw [if_pos c11] at hG
            refine (if_pos c11).trans ?_
            exact hr168 hG
          · rw [if_neg c11] at hG
            refine (if_neg c11).trans ?_
            exact rb235_220 hl hr168 hG
        · rw [if_neg c8] at hG
          refine (if_neg c8).trans ?_
          exact rb235_220 hl hr168 hG
      · rw [if_neg c5] at hG
        refine (if_neg c5).trans ?_
        refine zgd_eq (m_isO hl) ?_
        replace hG := zbnd hG
        obtain ⟨p12, e13, hG⟩ := hG
        refine bnd_eq (r234 hl e13) ?_
        exact hr168 hG
    · rw [if_neg c2] at hG
      refine (if_neg c2).trans ?_
      exact rb235_241 hl  hG
def gf235_168 (n : Nat)  (k : Nat) : Int32 → Int32 → Int32 → Int32 → zX → Option (Unit × zX) := Nat.rec (fun _ _ _ _ _ => none) (fun _ ih => gb235_168 n ih) k
theorem rf235_168 {n : Nat} {h0 : zH} (hl : Fx h0)   (k : Nat) : ∀ {l1 : Int32} {l2 : Int32} {l3 : Int32} {l4 : Int32} {X : zX} {p : Unit × zX}, gf235_168 n  k l1 l2 l3 l4 X = some p → f235_168 n  k 159 l1 l2 l3 l4 (mq h0 X) = some (p.1, mq h0 p.2) := by
  induction k with
  | zero => intros; rename_i hG; cases hG
  | succ k ih => intros; rename_i hG; exact rb235_168 (n := n) hl ih hG
def gb235_97 (n : Nat)  (l1 : Int32) (l2 : Int32) (X : zX) : Option (Unit × zX) :=
  (g208 n 123 X).bind fun p1 =>
  if (p1.2.1 73) = (-1) then
    (rd (p1.2.2.2 25) (p1.2.1 4)).bind fun x5 =>
    zgd (bkO (p1.2.1 4) 26 ((8 * (p1.2.1 4)) + x5)) <|
    (wr p1.2 26 ((8 * (p1.2.1 4)) + x5) l1).bind fun X8 =>
    zgd (bkO (X8.1 4) 27 ((8 * (X8.1 4)) + x5)) <|
    (wr X8 27 ((8 * (X8.1 4)) + x5) l2).bind fun X12 =>
    (rd (X12.2.2 25) (X12.1 4)).bind fun x16 =>
    zgd (bkO (X12.1 4) 25 (X12.1 4)) <|
    (wr X12 25 (X12.1 4) (x16 + 1)).bind fun X18 =>
    gf235_168 n  n l1 l2 x5 1 X18
  else
    some ((), p1.2)
set_option maxRecDepth 20000 in
theorem rb235_97 {n : Nat} {h0 : zH} (hl : Fx h0)   {l1 : Int32} {l2 : Int32} {X : zX} {p : Unit × zX} (hG : gb235_97 n  l1 l2 X = some p) : b235_97 n  159 l1 l2 (mq h0 X) = some (p.1, mq h0 p.2) := by
  unfold gb235_97 at hG
  unfold b235_97
  refine zgd_eq (m_isO hl) ?_
  replace hG := zbnd hG
  obtain ⟨p1, e2, hG⟩ := hG
  refine bnd_eq (r208 hl e2) ?_
  refine bnd_eq (mgI_73 hl) ?_
  by_cases c3 : (p1.2.1 73) = (-1)
  · rw [if_pos c3] at hG
    refine (if_pos c3).trans ?_
    refine bnd_eq (mgR_29 hl) ?_
    refine bnd_eq (mgI_4 hl) ?_
    refine bnd_eq rfl ?_
    replace hG := zbnd hG
    obtain ⟨x5, e6, hG⟩ := hG
    refine bnd_eq (m_aI hl (i := 25) (by decide) rfl e6) ?_
    refine bnd_eq (mgR_30 hl) ?_
    refine bnd_eq (mgI_4 hl) ?_
    refine bnd_eq rfl ?_
    replace hG := zgd_some hG
    obtain ⟨g10, hG⟩ := hG
    replace hG := zbnd hG
    obtain ⟨X8, e9, hG⟩ := hG
    refine bnd_eq (m_sI hl (i := 26) (by decide) rfl e9) ?_
    refine bnd_eq (mgR_31 hl) ?_
    refine bnd_eq (mgI_4 hl) ?_
    refine bnd_eq rfl ?_
    replace hG := zgd_some hG
    obtain ⟨g14, hG⟩ := hG
    replace hG := zbnd hG
    obtain ⟨X12, e13, hG⟩ := hG
    refine bnd_eq (m_sI hl (i := 27) (by decide) rfl e13) ?_
    refine bnd_eq (mgR_29 hl) ?_
    refine bnd_eq (mgI_4 hl) ?_
    refine bnd_eq rfl ?_
    replace hG := zbnd hG
    obtain ⟨x16, e17, hG⟩ := hG
    refine bnd_eq (m_aI hl (i := 25) (by decide) rfl e17) ?_
    replace hG := zgd_some hG
    obtain ⟨g20, hG⟩ := hG
    replace hG := zbnd hG
    obtain ⟨X18, e19, hG⟩ := hG
    refine bnd_eq (m_sI hl (i := 25) (by decide) rfl e19) ?_
    exact rf235_168 hl  n hG
  · rw [if_neg c3] at hG
    refine (if_neg c3).trans ?_
    replace hG := Option.some.inj hG
    subst hG
    rfl
def gb235_19 (n : Nat)   (X : zX) : Option (Unit × zX) :=
  (g190 n  X).bind fun p1 =>
  (rd (p1.2.2.2 25) (p1.2.1 4)).bind fun x5 =>
  (g202 n 26 (8 * (p1.2.1 4)) x5 p1.2).bind fun p7 =>
  if (p7.2.1 73) = (-1) then
    (g213 n 87 p7.2).bind fun p10 =>
    if p10.1 = 0 then
      gb235_97 n  p7.1 (-1) p10.2
    else
      (g190 n  p10.2).bind fun p13 =>
      (rd (p13.2.2.2 25) (p13.2.1 4)).bind fun x17 =>
      (g216 n 26 (8 * (p13.2.1 4)) x17 p13.2).bind fun p19 =>
      gb235_97 n  p7.1 p19.1 p19.2
  else
    gb235_97 n  p7.1 (-1) p7.2
set_option maxRecDepth 20000 in
theorem rb235_19 {n : Nat} {h0 : zH} (hl : Fx h0)    {X : zX} {p : Unit × zX} (hG : gb235_19 n   X = some p) : b235_19 n  159 (mq h0 X) = some (p.1, mq h0 p.2) := by
  unfold gb235_19 at hG
  unfold b235_19
  refine zgd_eq (m_isO hl) ?_
  replace hG := zbnd hG
  obtain ⟨p1, e2, hG⟩ := hG
  refine bnd_eq (r190 hl e2) ?_
  refine bnd_eq (mgR_30 hl) ?_
  refine bnd_eq (mgI_4 hl) ?_
  refine bnd_eq (mgR_29 hl) ?_
  refine bnd_eq (mgI_4 hl) ?_
  refine bnd_eq rfl ?_
  replace hG := zbnd hG
  obtain ⟨x5, e6, hG⟩ := hG
  refine bnd_eq (m_aI hl (i := 25) (by decide) rfl e6) ?_
  refine zgd_eq (m_isO hl) ?_
  replace hG := zbnd hG
  obtain ⟨p7, e8, hG⟩ := hG
  refine bnd_eq (r202 hl e8) ?_
  refine bnd_eq (mgI_73 hl) ?_
  by_cases c9 : (p7.2.1 73) = (-1)
  · rw [if_pos c9] at hG
    refine (if_pos c9).trans ?_
    refine zgd_eq (m_isO hl) ?_
    replace hG := zbnd hG
    obtain ⟨p10, e11, hG⟩ := hG
    refine bnd_eq (r213 hl e11) ?_
    by_cases c12 : p10.1 = 0
    · rw [if_pos c12] at hG
      refine (if_pos c12).trans ?_
      exact rb235_97 hl  hG
    · rw [if_neg c12] at hG
      refine (if_neg c12).trans ?_
      refine zgd_eq (m_isO hl) ?_
      replace hG := zbnd hG
      obtain ⟨p13, e14, hG⟩ := hG
      refine bnd_eq (r190 hl e14) ?_
      refine bnd_eq (mgR_30 hl) ?_
      refine bnd_eq (mgI_4 hl) ?_
      refine bnd_eq (mgR_29 hl) ?_
      refine bnd_eq (mgI_4 hl) ?_
      refine bnd_eq rfl ?_
      replace hG := zbnd hG
      obtain ⟨x17, e18, hG⟩ := hG
      refine bnd_eq (m_aI hl (i := 25) (by decide) rfl e18) ?_
      refine zgd_eq (m_isO hl) ?_
      replace hG := zbnd hG
      obtain ⟨p19, e20, hG⟩ := hG
      refine bnd_eq (r216 hl e20) ?_
      exact rb235_97 hl  hG
  · rw [if_neg c9] at hG
    refine (if_neg c9).trans ?_
    exact rb235_97 hl  hG
def g235 (n : Nat)  (X : zX) : Option (Unit × zX) :=
  (rd (X.2.2 25) (X.1 4)).bind fun x2 =>
  if x2 = 8 then
    (g195 n 5 X).bind fun p5 =>
    gb235_19 n  p5.2
  else
    gb235_19 n  X
set_option maxRecDepth 20000 in
theorem r235 {n : Nat} {h0 : zH} (hl : Fx h0)  {X : zX} {p : Unit × zX} (hG : g235 n  X = some p) : f235 n 159 (mq h0 X) = some (p.1, mq h0 p.2) := by
  unfold g235 at hG
  unfold f235
  refine bnd_eq (mgR_29 hl) ?_
  refine bnd_eq (mgI_4 hl) ?_
  refine bnd_eq rfl ?_
  replace hG := zbnd hG
  obtain ⟨x2, e3, hG⟩ := hG
  refine bnd_eq (m_aI hl (i := 25) (by decide) rfl e3) ?_
  by_cases c4 : x2 = 8
  · rw [if_pos c4] at hG
    refine (if_pos c4).trans ?_
    refine zgd_eq (m_isO hl) ?_
    replace hG := zbnd hG
    obtain ⟨p5, e6, hG⟩ := hG
    refine bnd_eq (r195 hl e6) ?_
    exact rb235_19 hl  hG
  · rw [if_neg c4] at hG
    refine (if_neg c4).trans ?_
    exact rb235_19 hl  hG
def gb238_71 (n : Nat) (q24 : Int32 → Int32 → Int32 → Int32 → zX → Option (Int32 × zX)) (l1 : Int32) (l2 : Int32) (l3 : Int32) (l4 : Int32) (s0 : Int32) (X : zX) : Option (Int32 × zX) :=
  q24 l1 l2 s0 (l4 + 1) X
set_option maxRecDepth 20000 in
theorem rb238_71 {n : Nat} {h0 : zH} (hl : Fx h0) {q24 : Int32 → Int32 → Int32 → Int32 → zX → Option (Int32 × zX)} {r24 : Nat → Int32 → Int32 → Int32 → Int32 → zH → Option (Int32 × zH)} (hr24 : ∀ {l1 : Int32} {l2 : Int32} {l3 : Int32} {l4 : Int32} {X : zX} {p : Int32 × zX}, q24 l1 l2 l3 l4 X = some p → r24 159 l1 l2 l3 l4 (mq h0 X) = some (p.1, mq h0 p.2)) {l1 : Int32} {l2 : Int32} {l3 : Int32} {l4 : Int32} {s0 : Int32} {X : zX} {p : Int32 × zX} (hG : gb238_71 n q24 l1 l2 l3 l4 s0 X = some p) : b238_71 n r24 159 l1 l2 l3 l4 s0 (mq h0 X) = some (p.1, mq h0 p.2) := by
  unfold gb238_71 at hG
  unfold b238_71
  exact hr24 hG
def gb238_24 (n : Nat) (q24 : Int32 → Int32 → Int32 → Int32 → zX → Option (Int32 × zX)) (l1 : Int32) (l2 : Int32) (l3 : Int32) (l4 : Int32) (X : zX) : Option (Int32 × zX) :=
  (rd (X.2.2 2) l1).bind fun x2 =>
  if x2 ≤ l4 then
    zgd (zrtn .boolean l3) <|
    some (l3, X)
  else
    if l3 = 0 then
      zgd (zrtn .boolean l3) <|
      some (l3, X)
    else
      (rd (X.2.2 3) ((16 * l1) + l4)).bind fun x9 =>
      (rd (X.2.2 3) ((16 * l2) + l4)).bind fun x12 =>
      if x9 = x12 then
        gb238_71 n q24 l1 l2 l3 l4 1 X
      else
        gb238_71 n q24 l1 l2 l3 l4 0 X
set_option maxRecDepth 20000 in
theorem rb238_24 {n : Nat} {h0 : zH} (hl : Fx h0) {q24 : Int32 → Int32 → Int32 → Int32 → zX → Option (Int32 × zX)} {r24 : Nat → Int32 → Int32 → Int32 → Int32 → zH → Option (Int32 × zH)} (hr24 : ∀ {l1 : Int32} {l2 : Int32} {l3 : Int32} {l4 : Int32} {X : zX} {p : Int32 × zX}, q24 l1 l2 l3 l4 X = some p → r24 159 l1 l2 l3 l4 (mq h0 X) = some (p.1, mq h0 p.2)) {l1 : Int32} {l2 : Int32} {l3 : Int32} {l4 : Int32} {X : zX} {p : Int32 × zX} (hG : gb238_24 n q24 l1 l2 l3 l4 X = some p) : b238_24 n r24 159 l1 l2 l3 l4 (mq h0 X) = some (p.1, mq h0 p.2) := by
  unfold gb238_24 at hG
  unfold b238_24
  refine bnd_eq (mgR_6 hl) ?_
  refine bnd_eq rfl ?_
  replace hG := zbnd hG
  obtain ⟨x2, e3, hG⟩ := hG
  refine bnd_eq (m_aI hl (i := 2) (by decide) rfl e3) ?_
  by_cases c4 : x2 ≤ l4
  · rw [if_pos c4] at hG
    refine (if_pos c4).trans ?_
    replace hG := zgd_some hG
    obtain ⟨g5, hG⟩ := hG
    refine zgd_eq g5 ?_
    replace hG := Option.some.inj hG
    subst hG
    rfl
  · rw [if_neg c4] at hG
    refine (if_neg c4).trans ?_
    by_cases c6 : l3 = 0
    · rw [if_pos c6] at hG
      refine (if_pos c6).trans ?_
      replace hG := zgd_some hG
      obtain ⟨g7, hG⟩ := hG
      refine zgd_eq g7 ?_
      replace hG := Option.some.inj hG
      subst hG
      rfl
    · rw [if_neg c6] at hG
      refine (if_neg c6).trans ?_
      refine bnd_eq (mgR_7 hl) ?_
      refine bnd_eq rfl ?_
      replace hG := zbnd hG
      obtain ⟨x9, e10, hG⟩ := hG
      refine bnd_eq (m_aB hl (i := 3) (by decide) rfl e10) ?_
      refine bnd_eq (mgR_7 hl) ?_
      refine bnd_eq rfl ?_
      replace hG := zbnd hG
      obtain ⟨x12, e13, hG⟩ := hG
      refine bnd_eq (m_aB hl (i := 3) (by decide) rfl e13) ?_
      by_cases c14 : x9 = x12
      · rw [if_pos c14] at hG
        refine (if_pos c14).trans ?_
        exact rb238_71 hl hr24 hG
      · rw [if_neg c14] at hG
        refine (if_neg c14).trans ?_
        exact rb238_71 hl hr24 hG
def gf238_24 (n : Nat)  (k : Nat) : Int32 → Int32 → Int32 → Int32 → zX → Option (Int32 × zX) := Nat.rec (fun _ _ _ _ _ => none) (fun _ ih => gb238_24 n ih) k
theorem rf238_24 {n : Nat} {h0 : zH} (hl : Fx h0)   (k : Nat) : ∀ {l1 : Int32} {l2 : Int32} {l3 : Int32} {l4 : Int32} {X : zX} {p : Int32 × zX}, gf238_24 n  k l1 l2 l3 l4 X = some p → f238_24 n  k 159 l1 l2 l3 l4 (mq h0 X) = some (p.1, mq h0 p.2) := by
  induction k with
  | zero => intros; rename_i hG; cases hG
  | succ k ih => intros; rename_i hG; exact rb238_24 (n := n) hl ih hG
def gb238_20 (n : Nat)  (l1 : Int32) (l2 : Int32) (s0 : Int32) (X : zX) : Option (Int32 × zX) :=
  gf238_24 n  n l1 l2 s0 0 X
set_option maxRecDepth 20000 in
theorem rb238_20 {n : Nat} {h0 : zH} (hl : Fx h0)   {l1 : Int32} {l2 : Int32} {s0 : Int32} {X : zX} {p : Int32 × zX} (hG : gb238_20 n  l1 l2 s0 X = some p) : b238_20 n  159 l1 l2 s0 (mq h0 X) = some (p.1, mq h0 p.2) := by
  unfold gb238_20 at hG
  unfold b238_20
  exact rf238_24 hl  n hG
def g238 (n : Nat) (y1 : Int32) (y2 : Int32) (X : zX) : Option (Int32 × zX) :=
  (rd (X.2.2 2) y1).bind fun x2 =>
  (rd (X.2.2 2) y2).bind fun x5 =>
  if x2 = x5 then
    gb238_20 n  y1 y2 1 X
  else
    gb238_20 n  y1 y2 0 X
set_option maxRecDepth 20000 in
theorem r238 {n : Nat} {h0 : zH} (hl : Fx h0) {y1 : Int32} {y2 : Int32} {X : zX} {p : Int32 × zX} (hG : g238 n y1 y2 X = some p) : f238 n 159 y1 y2 (mq h0 X) = some (p.1, mq h0 p.2) := by
  unfold g238 at hG
  unfold f238
  refine bnd_eq (mgR_6 hl) ?_
  refine bnd_eq rfl ?_
  replace hG := zbnd hG
  obtain ⟨x2, e3, hG⟩ := hG
  refine bnd_eq (m_aI hl (i := 2) (by decide) rfl e3) ?_
  refine bnd_eq (mgR_6 hl) ?_
  refine bnd_eq rfl ?_
  replace hG := zbnd hG
  obtain ⟨x5, e6, hG⟩ := hG
  refine bnd_eq (m_aI hl (i := 2) (by decide) rfl e6) ?_
  by_cases c7 : x2 = x5
  · rw [if_pos c7] at hG
    refine (if_pos c7).trans ?_
    exact rb238_20 hl  hG
  · rw [if_neg c7] at hG
    refine (if_neg c7).trans ?_
    exact rb238_20 hl  hG
def gb237_311 (n : Nat) (q2 : Int32 → zX → Option (Unit × zX)) (l1 : Int32) (l2 : Int32) (X : zX) : Option (Unit × zX) :=
  q2 (l1 + 1) X
set_option maxRecDepth 20000 in
theorem rb237_311 {n : Nat} {h0 : zH} (hl : Fx h0) {q2 : Int32 → zX → Option (Unit × zX)} {r2 : Nat → Int32 → zH → Option (Unit × zH)} (hr2 : ∀ {l1 : Int32} {X : zX} {p : Unit × zX}, q2 l1 X = some p → r2 159 l1 (mq h0 X) = some (p.1, mq h0 p.2)) {l1 : Int32} {l2 : Int32} {X : zX} {p : Unit × zX} (hG : gb237_311 n q2 l1 l2 X = some p) : b237_311 n r2 159 l1 l2 (mq h0 X) = some (p.1, mq h0 p.2) := by
  unfold gb237_311 at hG
  unfold b237_311
  exact hr2 hG
def gb237_140 (n : Nat)  (l1 : Int32) (l2 : Int32) (l3 : Int32) (l4 : Int32) (l5 : Int32) (X : zX) : Option (Unit × zX) :=
  (rd (X.2.2 18) l3).bind fun x2 =>
  (g196 n 3 x2 X).bind fun p4 =>
  some ((), p4.2)
set_option maxRecDepth 20000 in
theorem rb237_140 {n : Nat} {h0 : zH} (hl : Fx h0)   {l1 : Int32} {l2 : Int32} {l3 : Int32} {l4 : Int32} {l5 : Int32} {X : zX} {p : Unit × zX} (hG : gb237_140 n  l1 l2 l3 l4 l5 X = some p) : b237_140 n  159 l1 l2 l3 l4 l5 (mq h0 X) = some (p.1, mq h0 p.2) := by
  unfold gb237_140 at hG
  unfold b237_140
  refine bnd_eq (mgR_22 hl) ?_
  refine bnd_eq rfl ?_
  replace hG := zbnd hG
  obtain ⟨x2, e3, hG⟩ := hG
  refine bnd_eq (m_aI hl (i := 18) (by decide) rfl e3) ?_
  refine zgd_eq (m_isO hl) ?_
  replace hG := zbnd hG
  obtain ⟨p4, e5, hG⟩ := hG
  refine bnd_eq (r196 hl e5) ?_
  replace hG := Option.some.inj hG
  subst hG
  rfl
def gb237_285 (n : Nat)  (l1 : Int32) (l2 : Int32) (l3 : Int32) (l4 : Int32) (l5 : Int32) (X : zX) : Option (Unit × zX) :=
  (rd (X.2.2 23) l3).bind fun x2 =>
  (g196 n 2 x2 X).bind fun p4 =>
  some ((), p4.2)
set_option maxRecDepth 20000 in
theorem rb237_285 {n : Nat} {h0 : zH} (hl : Fx h0)   {l1 : Int32} {l2 : Int32} {l3 : Int32} {l4 : Int32} {l5 : Int32} {X : zX} {p : Unit × zX} (hG : gb237_285 n  l1 l2 l3 l4 l5 X = some p) : b237_285 n  159 l1 l2 l3 l4 l5 (mq h0 X) = some (p.1, mq h0 p.2) := by
  unfold gb237_285 at hG
  unfold b237_285
  refine bnd_eq (mgR_27 hl) ?_
  refine bnd_eq rfl ?_
  replace hG := zbnd hG
  obtain ⟨x2, e3, hG⟩ := hG
  refine bnd_eq (m_aI hl (i := 23) (by decide) rfl e3) ?_
  refine zgd_eq (m_isO hl) ?_
  replace hG := zbnd hG
  obtain ⟨p4, e5, hG⟩ := hG
  refine bnd_eq (r196 hl e5) ?_
  replace hG := Option.some.inj hG
  subst hG
  rfl
def gb237_297 (n : Nat) (q2 : Int32 → zX → Option (Unit × zX)) (q17 : Int32 → Int32 → zX → Option (Unit × zX)) (l1 : Int32) (l2 : Int32) (l3 : Int32) (l4 : Int32) (l5 : Int32) (X : zX) : Option (Unit × zX) :=
  zgd (bkO (X.1 4) 24 l3) <|
  (wr X 24 l3 l5).bind fun X2 =>
  q17 l1 (l2 + 1) X2
set_option maxRecDepth 20000 in
theorem rb237_297 {n : Nat} {h0 : zH} (hl : Fx h0) {q2 : Int32 → zX → Option (Unit × zX)} {r2 : Nat → Int32 → zH → Option (Unit × zH)} {q17 : Int32 → Int32 → zX → Option (Unit × zX)} {r17 : Nat → Int32 → Int32 → zH → Option (Unit × zH)} (hr2 : ∀ {l1 : Int32} {X : zX} {p : Unit × zX}, q2 l1 X = some p → r2 159 l1 (mq h0 X) = some (p.1, mq h0 p.2)) (hr17 : ∀ {l1 : Int32} {l2 : Int32} {X : zX} {p : Unit × zX}, q17 l1 l2 X = some p → r17 159 l1 l2 (mq h0 X) = some (p.1, mq h0 p.2)) {l1 : Int32} {l2 : Int32} {l3 : Int32} {l4 : Int32} {l5 : Int32} {X : zX} {p : Unit × zX} (hG : gb237_297 n q2 q17 l1 l2 l3 l4 l5 X = some p) : b237_297 n r2 r17 159 l1 l2 l3 l4 l5 (mq h0 X) = some (p.1, mq h0 p.2) := by
  unfold gb237_297 at hG
  unfold b237_297
  refine bnd_eq (mgR_28 hl) ?_
  refine bnd_eq rfl ?_
  replace hG := zgd_some hG
  obtain ⟨g4, hG⟩ := hG
  replace hG := zbnd hG
  obtain ⟨X2, e3, hG⟩ := hG
  refine bnd_eq (m_sI hl (i := 24) (by decide) rfl e3) ?_
  exact hr17 hG
def gb237_245 (n : Nat) (q2 : Int32 → zX → Option (Unit × zX)) (q17 : Int32 → Int32 → zX → Option (Unit × zX)) (l1 : Int32) (l2 : Int32) (l3 : Int32) (l4 : Int32) (l5 : Int32) (X : zX) : Option (Unit × zX) :=
  (rd (X.2.2 20) l3).bind fun x2 =>
  (rd (X.2.2 11) ((24 * (X.1 4)) + l4)).bind fun x5 =>
  if x2 = x5 then
    (rd (X.2.2 20) l3).bind fun x9 =>
    if x9 = 2 then
      if l5 = (-1) then
        gb237_285 n  l1 l2 l3 l4 l5 X
      else
        gb237_297 n q2 q17 l1 l2 l3 l4 l5 X
    else
      gb237_297 n q2 q17 l1 l2 l3 l4 l5 X
  else
    gb237_285 n  l1 l2 l3 l4 l5 X
set_option maxRecDepth 20000 in
theorem rb237_245 {n : Nat} {h0 : zH} (hl : Fx h0) {q2 : Int32 → zX → Option (Unit × zX)} {r2 : Nat → Int32 → zH → Option (Unit × zH)} {q17 : Int32 → Int32 → zX → Option (Unit × zX)} {r17 : Nat → Int32 → Int32 → zH → Option (Unit × zH)} (hr2 : ∀ {l1 : Int32} {X : zX} {p : Unit × zX}, q2 l1 X = some p → r2 159 l1 (mq h0 X) = some (p.1, mq h0 p.2)) (hr17 : ∀ {l1 : Int32} {l2 : Int32} {X : zX} {p : Unit × zX}, q17 l1 l2 X = some p → r17 159 l1 l2 (mq h0 X) = some (p.1, mq h0 p.2)) {l1 : Int32} {l2 : Int32} {l3 : Int32} {l4 : Int32} {l5 : Int32} {X : zX} {p : Unit × zX} (hG : gb237_245 n q2 q17 l1 l2 l3 l4 l5 X = some p) : b237_245 n r2 r17 159 l1 l2 l3 l4 l5 (mq h0 X) = some (p.1, mq h0 p.2) := by
  unfold gb237_245 at hG
  unfold b237_245
  refine bnd_eq (mgR_24 hl) ?_
  refine bnd_eq rfl ?_
  replace hG := zbnd hG
  obtain ⟨x2, e3, hG⟩ := hG
  refine bnd_eq (m_aI hl (i := 20) (by decide) rfl e3) ?_
  refine bnd_eq (mgR_15 hl) ?_
  refine bnd_eq (mgI_4 hl) ?_
  refine bnd_eq rfl ?_
  replace hG := zbnd hG
  obtain ⟨x5, e6, hG⟩ := hG
  refine bnd_eq (m_aI hl (i := 11) (by decide) rfl e6) ?_
  by_cases c7 : x2 = x5
  · rw [if_pos c7] at hG
    refine (if_pos c7).trans ?_
    refine bnd_eq (mgR_24 hl) ?_
    refine bnd_eq rfl ?_
    replace hG := zbnd hG
    obtain ⟨x9, e10, hG⟩ := hG
    refine bnd_eq (m_aI hl (i := 20) (by decide) rfl e10) ?_
    by_cases c11 : x9 = 2
    · rw [if_pos c11] at hG
      refine (if_pos c11).trans ?_
      by_cases c12 : l5 = (-1)
      · rw [if_pos c12] at hG
        refine (if_pos c12).trans ?_
        exact rb237_285 hl  hG
      · rw [if_neg c12] at hG
        refine (if_neg c12).trans ?_
        exact rb237_297 hl hr2 hr17 hG
    · rw [if_neg c11] at hG
      refine (if_neg c11).trans ?_
      exact rb237_297 hl hr2 hr17 hG
  · rw [if_neg c7] at hG
    refine (if_neg c7).trans ?_
    exact rb237_285 hl  hG
def gb237_237 (n : Nat) (q2 : Int32 → zX → Option (Unit × zX)) (q17 : Int32 → Int32 → zX → Option (Unit × zX)) (q176 : Int32 → Int32 → Int32 → Int32 → Int32 → Int32 → zX → Option (Unit × zX)) (l1 : Int32) (l2 : Int32) (l3 : Int32) (l4 : Int32) (l5 : Int32) (l6 : Int32) (s0 : Int32) (X : zX) : Option (Unit × zX) :=
  q176 l1 l2 l3 l4 s0 (l6 + 1) X
set_option maxRecDepth 20000 in
theorem rb237_237 {n : Nat} {h0 : zH} (hl : Fx h0) {q2 : Int32 → zX → Option (Unit × zX)} {r2 : Nat → Int32 → zH → Option (Unit × zH)} {q17 : Int32 → Int32 → zX → Option (Unit × zX)} {r17 : Nat → Int32 → Int32 → zH → Option (Unit × zH)} {q176 : Int32 → Int32 → Int32 → Int32 → Int32 → Int32 → zX → Option (Unit × zX)} {r176 : Nat → Int32 → Int32 → Int32 → Int32 → Int32 → Int32 → zH → Option (Unit × zH)} (hr2 : ∀ {l1 : Int32} {X : zX} {p : Unit × zX}, q2 l1 X = some p → r2 159 l1 (mq h0 X) = some (p.1, mq h0 p.2)) (hr17 : ∀ {l1 : Int32} {l2 : Int32} {X : zX} {p : Unit × zX}, q17 l1 l2 X = some p → r17 159 l1 l2 (mq h0 X) = some (p.1, mq h0 p.2)) (hr176 : ∀ {l1 : Int32} {l2 : Int32} {l3 : Int32} {l4 : Int32} {l5 : Int32} {l6 : Int32} {X : zX} {p : Unit × zX}, q176 l1 l2 l3 l4 l5 l6 X = some p → r176 159 l1 l2 l3 l4 l5 l6 (mq h0 X) = some (p.1, mq h0 p.2)) {l1 : Int32} {l2 : Int32} {l3 : Int32} {l4 : Int32} {l5 : Int32} {l6 : Int32} {s0 : Int32} {X : zX} {p : Unit × zX} (hG : gb237_237 n q2 q17 q176 l1 l2 l3 l4 l5 l6 s0 X = some p) : b237_237 n r2 r17 r176 159 l1 l2 l3 l4 l5 l6 s0 (mq h0 X) = some (p.1, mq h0 p.2) := by
  unfold gb237_237 at hG
  unfold b237_237
  exact hr176 hG
def gb237_176 (n : Nat) (q2 : Int32 → zX → Option (Unit × zX)) (q17 : Int32 → Int32 → zX → Option (Unit × zX)) (q176 : Int32 → Int32 → Int32 → Int32 → Int32 → Int32 → zX → Option (Unit × zX)) (l1 : Int32) (l2 : Int32) (l3 : Int32) (l4 : Int32) (l5 : Int32) (l6 : Int32) (X : zX) : Option (Unit × zX) :=
  (rd (X.2.2 12) ((24 * (X.1 4)) + l4)).bind fun x2 =>
  if x2 ≤ l6 then
    gb237_245 n q2 q17 l1 l2 l3 l4 l5 X
  else
    (rd (X.2.2 13) ((8 * ((24 * (X.1 4)) + l4)) + l6)).bind fun x6 =>
    (rd (X.2.2 22) l3).bind fun x9 =>
    (g238 n x6 x9 X).bind fun p11 =>
    if p11.1 = 0 then
      gb237_237 n q2 q17 q176 l1 l2 l3 l4 l5 l6 l5 p11.2
    else
      gb237_237 n q2 q17 q176 l1 l2 l3 l4 l5 l6 l6 p11.2
set_option maxRecDepth 20000 in
theorem rb237_176 {n : Nat} {h0 : zH} (hl : Fx h0) {q2 : Int32 → zX → Option (Unit × zX)} {r2 : Nat → Int32 → zH → Option (Unit × zH)} {q17 : Int32 → Int32 → zX → Option (Unit × zX)} {r17 : Nat → Int32 → Int32 → zH → Option (Unit × zH)} {q176 : Int32 → Int32 → Int32 → Int32 → Int32 → Int32 → zX → Option (Unit × zX)} {r176 : Nat → Int32 → Int32 → Int32 → Int32 → Int32 → Int32 → zH → Option (Unit × zH)} (hr2 : ∀ {l1 : Int32} {X : zX} {p : Unit × zX}, q2 l1 X = some p → r2 159 l1 (mq h0 X) = some (p.1, mq h0 p.2)) (hr17 : ∀ {l1 : Int32} {l2 : Int32} {X : zX} {p : Unit × zX}, q17 l1 l2 X = some p → r17 159 l1 l2 (mq h0 X) = some (p.1, mq h0 p.2)) (hr176 : ∀ {l1 : Int32} {l2 : Int32} {l3 : Int32} {l4 : Int32} {l5 : Int32} {l6 : Int32} {X : zX} {p : Unit × zX}, q176 l1 l2 l3 l4 l5 l6 X = some p → r176 159 l1 l2 l3 l4 l5 l6 (mq h0 X) = some (p.1, mq h0 p.2)) {l1 : Int32} {l2 : Int32} {l3 : Int32} {l4 : Int32} {l5 : Int32} {l6 : Int32} {X : zX} {p : Unit × zX} (hG : gb237_176 n q2 q17 q176 l1 l2 l3 l4 l5 l6 X = some p) : b237_176 n r2 r17 r176 159 l1 l2 l3 l4 l5 l6 (mq h0 X) = some (p.1, mq h0 p.2) := by
  unfold gb237_176 at hG
  unfold b237_176
  refine bnd_eq (mgR_16 hl) ?_
  refine bnd_eq (mgI_4 hl) ?_
  refine bnd_eq rfl ?_
  replace hG := zbnd hG
  obtain ⟨x2, e3, hG⟩ := hG
  refine bnd_eq (m_aI hl (i := 12) (by decide) rfl e3) ?_
  by_cases c4 : x2 ≤ l6
  · rw [if_pos c4] at hG
    refine (if_pos c4).trans ?_
    exact rb237_245 hl hr2 hr17 hG
  · rw [if_neg c4] at hG
    refine (if_neg c4).trans ?_
    refine bnd_eq (mgR_17 hl) ?_
    refine bnd_eq (mgI_4 hl) ?_
    refine bnd_eq rfl ?_
    replace hG := zbnd hG
    obtain ⟨x6, e7, hG⟩ := hG
    refine bnd_eq (m_aI hl (i := 13) (by decide) rfl e7) ?_
    refine bnd_eq (mgR_26 hl) ?_
    refine bnd_eq rfl ?_
    replace hG := zbnd hG
    obtain ⟨x9, e10, hG⟩ := hG
    refine bnd_eq (m_aI hl (i := 22) (by decide) rfl e10) ?_
    refine zgd_eq (m_isO hl) ?_
    replace hG := zbnd hG
    obtain ⟨p11, e12, hG⟩ := hG
    refine bnd_eq (r238 hl e12) ?_
    by_cases c13 : p11.1 = 0
    · rw [if_pos c13] at hG
      refine (if_pos c13).trans ?_
      exact rb237_237 hl hr2 hr17 hr176 hG
    · rw [if_neg c13] at hG
      refine (if_neg c13).trans ?_
      exact rb237_237 hl hr2 hr17 hr176 hG
def gf237_176 (n : Nat) (q2 : Int32 → zX → Option (Unit × zX)) (q17 : Int32 → Int32 → zX → Option (Unit × zX)) (k : Nat) : Int32 → Int32 → Int32 → Int32 → Int32 → Int32 → zX → Option (Unit × zX) := Nat.rec (fun _ _ _ _ _ _ _ => none) (fun _ ih => gb237_176 n q2 q17 ih) k
theorem rf237_176 {n : Nat} {h0 : zH} (hl : Fx h0) {q2 : Int32 → zX → Option (Unit × zX)} {r2 : Nat → Int32 → zH → Option (Unit × zH)} {q17 : Int32 → Int32 → zX → Option (Unit × zX)} {r17 : Nat → Int32 → Int32 → zH → Option (Unit × zH)} (hr2 : ∀ {l1 : Int32} {X : zX} {p : Unit × zX}, q2 l1 X = some p → r2 159 l1 (mq h0 X) = some (p.1, mq h0 p.2)) (hr17 : ∀ {l1 : Int32} {l2 : Int32} {X : zX} {p : Unit × zX}, q17 l1 l2 X = some p → r17 159 l1 l2 (mq h0 X) = some (p.1, mq h0 p.2)) (k : Nat) : ∀ {l1 : Int32} {l2 : Int32} {l3 : Int32} {l4 : Int32} {l5 : Int32} {l6 : Int32} {X : zX} {p : Unit × zX}, gf237_176 n q2 q17 k l1 l2 l3 l4 l5 l6 X = some p → f237_176 n r2 r17 k 159 l1 l2 l3 l4 l5 l6 (mq h0 X) = some (p.1, mq h0 p.2) := by
  induction k with
  | zero => intros; rename_i hG; cases hG
  | succ k ih => intros; rename_i hG; exact rb237_176 (n := n) hl hr2 hr17 ih hG
def gb237_112 (n : Nat) (q2 : Int32 → zX → Option (Unit × zX)) (q17 : Int32 → Int32 → zX → Option (Unit × zX)) (q63 : Int32 → Int32 → Int32 → Int32 → Int32 → zX → Option (Unit × zX)) (l1 : Int32) (l2 : Int32) (l3 : Int32) (l4 : Int32) (l5 : Int32) (s0 : Int32) (X : zX) : Option (Unit × zX) :=
  q63 l1 l2 l3 s0 (l5 + 1) X
set_option maxRecDepth 20000 in
theorem rb237_112 {n : Nat} {h0 : zH} (hl : Fx h0) {q2 : Int32 → zX → Option (Unit × zX)} {r2 : Nat → Int32 → zH → Option (Unit × zH)} {q17 : Int32 → Int32 → zX → Option (Unit × zX)} {r17 : Nat → Int32 → Int32 → zH → Option (Unit × zH)} {q63 : Int32 → Int32 → Int32 → Int32 → Int32 → zX → Option (Unit × zX)} {r63 : Nat → Int32 → Int32 → Int32 → Int32 → Int32 → zH → Option (Unit × zH)} (hr2 : ∀ {l1 : Int32} {X : zX} {p : Unit × zX}, q2 l1 X = some p → r2 159 l1 (mq h0 X) = some (p.1, mq h0 p.2)) (hr17 : ∀ {l1 : Int32} {l2 : Int32} {X : zX} {p : Unit × zX}, q17 l1 l2 X = some p → r17 159 l1 l2 (mq h0 X) = some (p.1, mq h0 p.2)) (hr63 : ∀ {l1 : Int32} {l2 : Int32} {l3 : Int32} {l4 : Int32} {l5 : Int32} {X : zX} {p : Unit × zX}, q63 l1 l2 l3 l4 l5 X = some p → r63 159 l1 l2 l3 l4 l5 (mq h0 X) = some (p.1, mq h0 p.2)) {l1 : Int32} {l2 : Int32} {l3 : Int32} {l4 : Int32} {l5 : Int32} {s0 : Int32} {X : zX} {p : Unit × zX} (hG : gb237_112 n q2 q17 q63 l1 l2 l3 l4 l5 s0 X = some p) : b237_112 n r2 r17 r63 159 l1 l2 l3 l4 l5 s0 (mq h0 X) = some (p.1, mq h0 p.2) := by
  unfold gb237_112 at hG
  unfold b237_112
  exact hr63 hG
def gb237_63 (n : Nat) (q2 : Int32 → zX → Option (Unit × zX)) (q17 : Int32 → Int32 → zX → Option (Unit × zX)) (q63 : Int32 → Int32 → Int32 → Int32 → Int32 → zX → Option (Unit × zX)) (l1 : Int32) (l2 : Int32) (l3 : Int32) (l4 : Int32) (l5 : Int32) (X : zX) : Option (Unit × zX) :=
  (rd (X.2.2 9) (X.1 4)).bind fun x2 =>
  if x2 ≤ l5 then
    zgd (bkO (X.1 4) 19 l3) <|
    (wr X 19 l3 l4).bind fun X6 =>
    if l4 = (-1) then
      gb237_140 n  l1 l2 l3 l4 l5 X6
    else
      if l4 = l1 then
        gb237_140 n  l1 l2 l3 l4 l5 X6
      else
        (rd (X6.2.2 21) l3).bind fun x12 =>
        (rd (X6.2.2 20) l3).bind fun x15 =>
        if x15 = 2 then
          gf237_176 n q2 q17 n l1 l2 l3 l4 (-1) 0 X6
        else
          gb237_245 n q2 q17 l1 l2 l3 l4 x12 X6
  else
    (rd (X.2.2 10) ((24 * (X.1 4)) + l5)).bind fun x19 =>
    (rd (X.2.2 17) l3).bind fun x22 =>
    (g238 n x19 x22 X).bind fun p24 =>
    if p24.1 = 0 then
      gb237_112 n q2 q17 q63 l1 l2 l3 l4 l5 l4 p24.2
    else
      gb237_112 n q2 q17 q63 l1 l2 l3 l4 l5 l5 p24.2
set_option maxRecDepth 20000 in
theorem rb237_63 {n : Nat} {h0 : zH} (hl : Fx h0) {q2 : Int32 → zX → Option (Unit × zX)} {r2 : Nat → Int32 → zH → Option (Unit × zH)} {q17 : Int32 → Int32 → zX → Option (Unit × zX)} {r17 : Nat → Int32 → Int32 → zH → Option (Unit × zH)} {q63 : Int32 → Int32 → Int32 → Int32 → Int32 → zX → Option (Unit × zX)} {r63 : Nat → Int32 → Int32 → Int32 → Int32 → Int32 → zH → Option (Unit × zH)} (hr2 : ∀ {l1 : Int32} {X : zX} {p : Unit × zX}, q2 l1 X = some p → r2 159 l1 (mq h0 X) = some (p.1, mq h0 p.2)) (hr17 : ∀ {l1 : Int32} {l2 : Int32} {X : zX} {p : Unit × zX}, q17 l1 l2 X = some p → r17 159 l1 l2 (mq h0 X) = some (p.1, mq h0 p.2)) (hr63 : ∀ {l1 : Int32} {l2 : Int32} {l3 : Int32} {l4 : Int32} {l5 : Int32} {X : zX} {p : Unit × zX}, q63 l1 l2 l3 l4 l5 X = some p → r63 159 l1 l2 l3 l4 l5 (mq h0 X) = some (p.1, mq h0 p.2)) {l1 : Int32} {l2 : Int32} {l3 : Int32} {l4 : Int32} {l5 : Int32} {X : zX} {p : Unit × zX} (hG : gb237_63 n q2 q17 q63 l1 l2 l3 l4 l5 X = some p) : b237_63 n r2 r17 r63 159 l1 l2 l3 l4 l5 (mq h0 X) = some (p.1, mq h0 p.2) := by
  unfold gb237_63 at hG
  unfold b237_63
  refine bnd_eq (mgR_13 hl) ?_
  refine bnd_eq (mgI_4 hl) ?_
  refine bnd_eq rfl ?_
  replace hG := zbnd hG
  obtain ⟨x2, e3, hG⟩ := hG
  refine bnd_eq (m_aI hl (i := 9) (by decide) rfl e3) ?_
  by_cases c4 : x2 ≤ l5
  · rw [if_pos c4] at hG
    refine (if_pos c4).trans ?_
    refine bnd_eq (mgR_23 hl) ?_
    refine bnd_eq rfl ?_
    replace hG := zgd_some hG
    obtain ⟨g8, hG⟩ := hG
    replace hG := zbnd hG
    obtain ⟨X6, e7, hG⟩ := hG
    refine bnd_eq (m_sI hl (i := 19) (by decide) rfl e7) ?_
    by_cases c9 : l4 = (-1)
    · rw [if_pos c9] at hG
      refine (if_pos c9).trans ?_
      exact rb237_140 hl  hG
    · rw [if_neg c9] at hG
      refine (if_neg c9).trans ?_
      by_cases c10 : l4 = l1
      · rw [if_pos c10] at hG
        refine (if_pos c10).trans ?_
        exact rb237_140 hl  hG
      · rw [if_neg c10] at hG
        refine (if_neg c10).trans ?_
        refine bnd_eq (mgR_25 hl) ?_
        refine bnd_eq rfl ?_
        replace hG := zbnd hG
        obtain ⟨x12, e13, hG⟩ := hG
        refine bnd_eq (m_aI hl (i := 21) (by decide) rfl e13) ?_
        refine bnd_eq (mgR_24 hl) ?_
        refine bnd_eq rfl ?_
        replace hG := zbnd hG
        obtain ⟨x15, e16, hG⟩ := hG
        refine bnd_eq (m_aI hl (i := 20) (by decide) rfl e16) ?_
        by_cases c17 : x15 = 2
        · rw [if_pos c17] at hG
          refine (if_pos c17).trans ?_
          exact rf237_176 hl hr2 hr17 n hG
        · rw [if_neg c17] at hG
          refine (if_neg c17).trans ?_
          exact rb237_245 hl hr2 hr17 hG
  · rw [if_neg c4] at hG
    refine (if_neg c4).trans ?_
    refine bnd_eq (mgR_14 hl) ?_
    refine bnd_eq (mgI_4 hl) ?_
    refine bnd_eq rfl ?_
    replace hG := zbnd hG
    obtain ⟨x19, e20, hG⟩ := hG
    refine bnd_eq (m_aI hl (i := 10) (by decide) rfl e20) ?_
    refine bnd_eq (mgR_21 hl) ?_
    refine bnd_eq rfl ?_
    replace hG := zbnd hG
    obtain ⟨x22, e23, hG⟩ := hG
    refine bnd_eq (m_aI hl (i := 17) (by decide) rfl e23) ?_
    refine zgd_eq (m_isO hl) ?_
    replace hG := zbnd hG
    obtain ⟨p24, e25, hG⟩ := hG
    refine bnd_eq (r238 hl e25) ?_
    by_cases c26 : p24.1 = 0
    · rw [if_pos c26] at hG
      refine (if_pos c26).trans ?_
      exact rb237_112 hl hr2 hr17 hr63 hG
    · rw [if_neg c26] at hG
      refine (if_neg c26).trans ?_
      exact rb237_112 hl hr2 hr17 hr63 hG
def gf237_63 (n : Nat) (q2 : Int32 → zX → Option (Unit × zX)) (q17 : Int32 → Int32 → zX → Option (Unit × zX)) (k : Nat) : Int32 → Int32 → Int32 → Int32 → Int32 → zX → Option (Unit × zX) := Nat.rec (fun _ _ _ _ _ _ => none) (fun _ ih => gb237_63 n q2 q17 ih) k
theorem rf237_63 {n : Nat} {h0 : zH} (hl : Fx h0) {q2 : Int32 → zX → Option (Unit × zX)} {r2 : Nat → Int32 → zH → Option (Unit × zH)} {q17 : Int32 → Int32 → zX → Option (Unit × zX)} {r17 : Nat → Int32 → Int32 → zH → Option (Unit × zH)} (hr2 : ∀ {l1 : Int32} {X : zX} {p : Unit × zX}, q2 l1 X = some p → r2 159 l1 (mq h0 X) = some (p.1, mq h0 p.2)) (hr17 : ∀ {l1 : Int32} {l2 : Int32} {X : zX} {p : Unit × zX}, q17 l1 l2 X = some p → r17 159 l1 l2 (mq h0 X) = some (p.1, mq h0 p.2)) (k : Nat) : ∀ {l1 : Int32} {l2 : Int32} {l3 : Int32} {l4 : Int32} {l5 : Int32} {X : zX} {p : Unit × zX}, gf237_63 n q2 q17 k l1 l2 l3 l4 l5 X = some p → f237_63 n r2 r17 k 159 l1 l2 l3 l4 l5 (mq h0 X) = some (p.1, mq h0 p.2) := by
  induction k with
  | zero => intros; rename_i hG; cases hG
  | succ k ih => intros; rename_i hG; exact rb237_63 (n := n) hl hr2 hr17 ih hG
def gb237_17 (n : Nat) (q2 : Int32 → zX → Option (Unit × zX)) (q17 : Int32 → Int32 → zX → Option (Unit × zX)) (l1 : Int32) (l2 : Int32) (X : zX) : Option (Unit × zX) :=
  (rd (X.2.2 16) ((24 * (X.1 4)) + l1)).bind fun x2 =>
  if x2 ≤ l2 then
    gb237_311 n q2 l1 l2 X
  else
    if (X.1 73) = (-1) then
      gf237_63 n q2 q17 n l1 l2 ((4 * ((24 * (X.1 4)) + l1)) + l2) (-1) 0 X
    else
      gb237_311 n q2 l1 l2 X
set_option maxRecDepth 20000 in
theorem rb237_17 {n : Nat} {h0 : zH} (hl : Fx h0) {q2 : Int32 → zX → Option (Unit × zX)} {r2 : Nat → Int32 → zH → Option (Unit × zH)} {q17 : Int32 → Int32 → zX → Option (Unit × zX)} {r17 : Nat → Int32 → Int32 → zH → Option (Unit × zH)} (hr2 : ∀ {l1 : Int32} {X : zX} {p : Unit × zX}, q2 l1 X = some p → r2 159 l1 (mq h0 X) = some (p.1, mq h0 p.2)) (hr17 : ∀ {l1 : Int32} {l2 : Int32} {X : zX} {p : Unit × zX}, q17 l1 l2 X = some p → r17 159 l1 l2 (mq h0 X) = some (p.1, mq h0 p.2)) {l1 : Int32} {l2 : Int32} {X : zX} {p : Unit × zX} (hG : gb237_17 n q2 q17 l1 l2 X = some p) : b237_17 n r2 r17 159 l1 l2 (mq h0 X) = some (p.1, mq h0 p.2) := by
  unfold gb237_17 at hG
  unfold b237_17
  refine bnd_eq (mgR_20 hl) ?_
  refine bnd_eq (mgI_4 hl) ?_
  refine bnd_eq rfl ?_
  replace hG := zbnd hG
  obtain ⟨x2, e3, hG⟩ := hG
  refine bnd_eq (m_aI hl (i := 16) (by decide) rfl e3) ?_
  by_cases c4 : x2 ≤ l2
  · rw [if_pos c4] at hG
    refine (if_pos c4).trans ?_
    exact rb237_311 hl hr2 hG
  · rw [if_neg c4] at hG
    refine (if_neg c4).trans ?_
    refine bnd_eq (mgI_73 hl) ?_
    by_cases c5 : (X.1 73) = (-1)
    · rw [if_pos c5] at hG
      refine (if_pos c5).trans ?_
      refine bnd_eq (mgI_4 hl) ?_
      exact rf237_63 hl hr2 hr17 n hG
    · rw [if_neg c5] at hG
      refine (if_neg c5).trans ?_
      exact rb237_311 hl hr2 hG
def gf237_17 (n : Nat) (q2 : Int32 → zX → Option (Unit × zX)) (k : Nat) : Int32 → Int32 → zX → Option (Unit × zX) := Nat.rec (fun _ _ _ => none) (fun _ ih => gb237_17 n q2 ih) k
theorem rf237_17 {n : Nat} {h0 : zH} (hl : Fx h0) {q2 : Int32 → zX → Option (Unit × zX)} {r2 : Nat → Int32 → zH → Option (Unit × zH)} (hr2 : ∀ {l1 : Int32} {X : zX} {p : Unit × zX}, q2 l1 X = some p → r2 159 l1 (mq h0 X) = some (p.1, mq h0 p.2)) (k : Nat) : ∀ {l1 : Int32} {l2 : Int32} {X : zX} {p : Unit × zX}, gf237_17 n q2 k l1 l2 X = some p → f237_17 n r2 k 159 l1 l2 (mq h0 X) = some (p.1, mq h0 p.2) := by
  induction k with
  | zero => intros; rename_i hG; cases hG
  | succ k ih => intros; rename_i hG; exact rb237_17 (n := n) hl hr2 ih hG
def gb237_2 (n : Nat) (q2 : Int32 → zX → Option (Unit × zX)) (l1 : Int32) (X : zX) : Option (Unit × zX) :=
  (rd (X.2.2 9) (X.1 4)).bind fun x2 =>
  if x2 ≤ l1 then
    some ((), X)
  else
    gf237_17 n q2 n l1 0 X
set_option maxRecDepth 20000 in
theorem rb237_2 {n : Nat} {h0 : zH} (hl : Fx h0) {q2 : Int32 → zX → Option (Unit × zX)} {r2 : Nat → Int32 → zH → Option (Unit × zH)} (hr2 : ∀ {l1 : Int32} {X : zX} {p : Unit × zX}, q2 l1 X = some p → r2 159 l1 (mq h0 X) = some (p.1, mq h0 p.2)) {l1 : Int32} {X : zX} {p : Unit × zX} (hG : gb237_2 n q2 l1 X = some p) : b237_2 n r2 159 l1 (mq h0 X) = some (p.1, mq h0 p.2) := by
  unfold gb237_2 at hG
  unfold b237_2
  refine bnd_eq (mgR_13 hl) ?_
  refine bnd_eq (mgI_4 hl) ?_
  refine bnd_eq rfl ?_
  replace hG := zbnd hG
  obtain ⟨x2, e3, hG⟩ := hG
  refine bnd_eq (m_aI hl (i := 9) (by decide) rfl e3) ?_
  by_cases c4 : x2 ≤ l1
  · rw [if_pos c4] at hG
    refine (if_pos c4).trans ?_
    replace hG := Option.some.inj hG
    subst hG
    rfl
  · rw [if_neg c4] at hG
    refine (if_neg c4).trans ?_
    exact rf237_17 hl hr2 n hG
def gf237_2 (n : Nat)  (k : Nat) : Int32 → zX → Option (Unit × zX) := Nat.rec (fun _ _ => none) (fun _ ih => gb237_2 n ih) k
theorem rf237_2 {n : Nat} {h0 : zH} (hl : Fx h0)   (k : Nat) : ∀ {l1 : Int32} {X : zX} {p : Unit × zX}, gf237_2 n  k l1 X = some p → f237_2 n  k 159 l1 (mq h0 X) = some (p.1, mq h0 p.2) := by
  induction k with
  | zero => intros; rename_i hG; cases hG
  | succ k ih => intros; rename_i hG; exact rb237_2 (n := n) hl ih hG
def g237 (n : Nat)  (X : zX) : Option (Unit × zX) :=
  gf237_2 n  n 0 X
set_option maxRecDepth 20000 in
theorem r237 {n : Nat} {h0 : zH} (hl : Fx h0)  {X : zX} {p : Unit × zX} (hG : g237 n  X = some p) : f237 n 159 (mq h0 X) = some (p.1, mq h0 p.2) := by
  unfold g237 at hG
  unfold f237
  exact rf237_2 hl  n hG
def gb240_155 (n : Nat) (q80 : Int32 → Int32 → zX → Option (Unit × zX)) (q88 : Int32 → Int32 → Int32 → zX → Option (Unit × zX)) (q101 : Int32 → Int32 → Int32 → Int32 → zX → Option (Unit × zX)) (l1 : Int32) (l2 : Int32) (l3 : Int32) (l4 : Int32) (s0 : Int32) (s1 : Int32) (X : zX) : Option (Unit × zX) :=
  (wr X 62 s1 s0).bind fun X1 =>
  q101 l1 l2 l3 (l4 + 1) X1
set_option maxRecDepth 20000 in
theorem rb240_155 {n : Nat} {h0 : zH} (hl : Fx h0) {q80 : Int32 → Int32 → zX → Option (Unit × zX)} {r80 : Nat → Int32 → Int32 → zH → Option (Unit × zH)} {q88 : Int32 → Int32 → Int32 → zX → Option (Unit × zX)} {r88 : Nat → Int32 → Int32 → Int32 → zH → Option (Unit × zH)} {q101 : Int32 → Int32 → Int32 → Int32 → zX → Option (Unit × zX)} {r101 : Nat → Int32 → Int32 → Int32 → Int32 → zH → Option (Unit × zH)} (hr80 : ∀ {l1 : Int32} {l2 : Int32} {X : zX} {p : Unit × zX}, q80 l1 l2 X = some p → r80 159 l1 l2 (mq h0 X) = some (p.1, mq h0 p.2)) (hr88 : ∀ {l1 : Int32} {l2 : Int32} {l3 : Int32} {X : zX} {p : Unit × zX}, q88 l1 l2 l3 X = some p → r88 159 l1 l2 l3 (mq h0 X) = some (p.1, mq h0 p.2)) (hr101 : ∀ {l1 : Int32} {l2 : Int32} {l3 : Int32} {l4 : Int32} {X : zX} {p : Unit × zX}, q101 l1 l2 l3 l4 X = some p → r101 159 l1 l2 l3 l4 (mq h0 X) = some (p.1, mq h0 p.2)) {l1 : Int32} {l2 : Int32} {l3 : Int32} {l4 : Int32} {s0 : Int32} {s1 : Int32} {X : zX} {p : Unit × zX} (hG : gb240_155 n q80 q88 q101 l1 l2 l3 l4 s0 s1 X = some p) : b240_155 n r80 r88 r101 159 l1 l2 l3 l4 s0 s1 (some 222) (mq h0 X) = some (p.1, mq h0 p.2) := by
  unfold gb240_155 at hG
  unfold b240_155
  refine bnd_eq rfl ?_
  replace hG := zbnd hG
  obtain ⟨X1, e2, hG⟩ := hG
  refine bnd_eq (m_sI hl (i := 62) (by decide) rfl e2) ?_
  exact hr101 hG
def gb240_101 (n : Nat) (q80 : Int32 → Int32 → zX → Option (Unit × zX)) (q88 : Int32 → Int32 → Int32 → zX → Option (Unit × zX)) (q101 : Int32 → Int32 → Int32 → Int32 → zX → Option (Unit × zX)) (l1 : Int32) (l2 : Int32) (l3 : Int32) (l4 : Int32) (X : zX) : Option (Unit × zX) :=
  (rd (X.2.2 9) l1).bind fun x2 =>
  if x2 ≤ l4 then
    q88 l1 l2 (l3 + 1) X
  else
    (rd (X.2.2 62) l3).bind fun x7 =>
    if ((x7 >>> (l4 &&& 31)) &&& 1) = 1 then
      (rd (X.2.2 62) l3).bind fun x11 =>
      (rd (X.2.2 62) l4).bind fun x14 =>
      gb240_155 n q80 q88 q101 l1 l2 l3 l4 (x11 ||| x14) l3 X
    else
      (rd (X.2.2 62) l3).bind fun x17 =>
      gb240_155 n q80 q88 q101 l1 l2 l3 l4 x17 l3 X
set_option maxRecDepth 20000 in
theorem rb240_101 {n : Nat} {h0 : zH} (hl : Fx h0) {q80 : Int32 → Int32 → zX → Option (Unit × zX)} {r80 : Nat → Int32 → Int32 → zH → Option (Unit × zH)} {q88 : Int32 → Int32 → Int32 → zX → Option (Unit × zX)} {r88 : Nat → Int32 → Int32 → Int32 → zH → Option (Unit × zH)} {q101 : Int32 → Int32 → Int32 → Int32 → zX → Option (Unit × zX)} {r101 : Nat → Int32 → Int32 → Int32 → Int32 → zH → Option (Unit × zH)} (hr80 : ∀ {l1 : Int32} {l2 : Int32} {X : zX} {p : Unit × zX}, q80 l1 l2 X = some p → r80 159 l1 l2 (mq h0 X) = some (p.1, mq h0 p.2)) (hr88 : ∀ {l1 : Int32} {l2 : Int32} {l3 : Int32} {X : zX} {p : Unit × zX}, q88 l1 l2 l3 X = some p → r88 159 l1 l2 l3 (mq h0 X) = some (p.1, mq h0 p.2)) (hr101 : ∀ {l1 : Int32} {l2 : Int32} {l3 : Int32} {l4 : Int32} {X : zX} {p : Unit × zX}, q101 l1 l2 l3 l4 X = some p → r101 159 l1 l2 l3 l4 (mq h0 X) = some (p.1, mq h0 p.2)) {l1 : Int32} {l2 : Int32} {l3 : Int32} {l4 : Int32} {X : zX} {p : Unit × zX} (hG : gb240_101 n q80 q88 q101 l1 l2 l3 l4 X = some p) : b240_101 n r80 r88 r101 159 l1 l2 l3 l4 (mq h0 X) = some (p.1, mq h0 p.2) := by
  unfold gb240_101 at hG
  unfold b240_101
  refine bnd_eq (mgR_13 hl) ?_
  refine bnd_eq rfl ?_
  replace hG := zbnd hG
  obtain ⟨x2, e3, hG⟩ := hG
  refine bnd_eq (m_aI hl (i := 9) (by decide) rfl e3) ?_
  by_cases c4 : x2 ≤ l4
  · rw [if_pos c4] at hG
    refine (if_pos c4).trans ?_
    exact hr88 hG
  · rw [if_neg c4] at hG
    refine (if_neg c4).trans ?_
    refine bnd_eq (mgR_74 hl) ?_
    refine bnd_eq (mgR_74 hl) ?_
    refine bnd_eq rfl ?_
    replace hG := zbnd hG
    obtain ⟨x7, e8, hG⟩ := hG
    refine bnd_eq (m_aI hl (i := 62) (by decide) rfl e8) ?_
    by_cases c9 : ((x7 >>> (l4 &&& 31)) &&& 1) = 1
    · rw [if_pos c9] at hG
      refine (if_pos c9).trans ?_
      refine bnd_eq (mgR_74 hl) ?_
      refine bnd_eq rfl ?_
      replace hG := zbnd hG
      obtain ⟨x11, e12, hG⟩ := hG
      refine bnd_eq (m_aI hl (i := 62) (by decide) rfl e12) ?_
      refine bnd_eq (mgR_74 hl) ?_
      refine bnd_eq rfl ?_
      replace hG := zbnd hG
      obtain ⟨x14, e15, hG⟩ := hG
      refine bnd_eq (m_aI hl (i := 62) (by decide) rfl e15) ?_
      exact rb240_155 hl hr80 hr88 hr101 hG
    · rw [if_neg c9] at hG
      refine (if_neg c9).trans ?_
      refine bnd_eq (mgR_74 hl) ?_
      refine bnd_eq rfl ?_
      replace hG := zbnd hG
      obtain ⟨x17, e18, hG⟩ := hG
      refine bnd_eq (m_aI hl (i := 62) (by decide) rfl e18) ?_
      exact rb240_155 hl hr80 hr88 hr101 hG
def gf240_101 (n : Nat) (q80 : Int32 → Int32 → zX → Option (Unit × zX)) (q88 : Int32 → Int32 → Int32 → zX → Option (Unit × zX)) (k : Nat) : Int32 → Int32 → Int32 → Int32 → zX → Option (Unit × zX) := Nat.rec (fun _ _ _ _ _ => none) (fun _ ih => gb240_101 n q80 q88 ih) k
theorem rf240_101 {n : Nat} {h0 : zH} (hl : Fx h0) {q80 : Int32 → Int32 → zX → Option (Unit × zX)} {r80 : Nat → Int32 → Int32 → zH → Option (Unit × zH)} {q88 : Int32 → Int32 → Int32 → zX → Option (Unit × zX)} {r88 : Nat → Int32 → Int32 → Int32 → zH → Option (Unit × zH)} (hr80 : ∀ {l1 : Int32} {l2 : Int32} {X : zX} {p : Unit × zX}, q80 l1 l2 X = some p → r80 159 l1 l2 (mq h0 X) = some (p.1, mq h0 p.2)) (hr88 : ∀ {l1 : Int32} {l2 : Int32} {l3 : Int32} {X : zX} {p : Unit × zX}, q88 l1 l2 l3 X = some p → r88 159 l1 l2 l3 (mq h0 X) = some (p.1, mq h0 p.2)) (k : Nat) : ∀ {l1 : Int32} {l2 : Int32} {l3 : Int32} {l4 : Int32} {X : zX} {p : Unit × zX}, gf240_101 n q80 q88 k l1 l2 l3 l4 X = some p → f240_101 n r80 r88 k 159 l1 l2 l3 l4 (mq h0 X) = some (p.1, mq h0 p.2) := by
  induction k with
  | zero => intros; rename_i hG; cases hG
  | succ k ih => intros; rename_i hG; exact rb240_101 (n := n) hl hr80 hr88 ih hG
def gb240_88 (n : Nat) (q80 : Int32 → Int32 → zX → Option (Unit × zX)) (q88 : Int32 → Int32 → Int32 → zX → Option (Unit × zX)) (l1 : Int32) (l2 : Int32) (l3 : Int32) (X : zX) : Option (Unit × zX) :=
  (rd (X.2.2 9) l1).bind fun x2 =>
  if x2 ≤ l3 then
    q80 l1 (l2 + 1) X
  else
    gf240_101 n q80 q88 n l1 l2 l3 0 X
set_option maxRecDepth 20000 in
theorem rb240_88 {n : Nat} {h0 : zH} (hl : Fx h0) {q80 : Int32 → Int32 → zX → Option (Unit × zX)} {r80 : Nat → Int32 → Int32 → zH → Option (Unit × zH)} {q88 : Int32 → Int32 → Int32 → zX → Option (Unit × zX)} {r88 : Nat → Int32 → Int32 → Int32 → zH → Option (Unit × zH)} (hr80 : ∀ {l1 : Int32} {l2 : Int32} {X : zX} {p : Unit × zX}, q80 l1 l2 X = some p → r80 159 l1 l2 (mq h0 X) = some (p.1, mq h0 p.2)) (hr88 : ∀ {l1 : Int32} {l2 : Int32} {l3 : Int32} {X : zX} {p : Unit × zX}, q88 l1 l2 l3 X = some p → r88 159 l1 l2 l3 (mq h0 X) = some (p.1, mq h0 p.2)) {l1 : Int32} {l2 : Int32} {l3 : Int32} {X : zX} {p : Unit × zX} (hG : gb240_88 n q80 q88 l1 l2 l3 X = some p) : b240_88 n r80 r88 159 l1 l2 l3 (mq h0 X) = some (p.1, mq h0 p.2) := by
  unfold gb240_88 at hG
  unfold b240_88
  refine bnd_eq (mgR_13 hl) ?_
  refine bnd_eq rfl ?_
  replace hG := zbnd hG
  obtain ⟨x2, e3, hG⟩ := hG
  refine bnd_eq (m_aI hl (i := 9) (by decide) rfl e3) ?_
  by_cases c4 : x2 ≤ l3
  · rw [if_pos c4] at hG
    refine (if_pos c4).trans ?_
    exact hr80 hG
  · rw [if_neg c4] at hG
    refine (if_neg c4).trans ?_
    exact rf240_101 hl hr80 hr88 n hG
def gf240_88 (n : Nat) (q80 : Int32 → Int32 → zX → Option (Unit × zX)) (k : Nat) : Int32 → Int32 → Int32 → zX → Option (Unit × zX) := Nat.rec (fun _ _ _ _ => none) (fun _ ih => gb240_88 n q80 ih) k
theorem rf240_88 {n : Nat} {h0 : zH} (hl : Fx h0) {q80 : Int32 → Int32 → zX → Option (Unit × zX)} {r80 : Nat → Int32 → Int32 → zH → Option (Unit × zH)} (hr80 : ∀ {l1 : Int32} {l2 : Int32} {X : zX} {p : Unit × zX}, q80 l1 l2 X = some p → r80 159 l1 l2 (mq h0 X) = some (p.1, mq h0 p.2)) (k : Nat) : ∀ {l1 : Int32} {l2 : Int32} {l3 : Int32} {X : zX} {p : Unit × zX}, gf240_88 n q80 k l1 l2 l3 X = some p → f240_88 n r80 k 159 l1 l2 l3 (mq h0 X) = some (p.1, mq h0 p.2) := by
  induction k with
  | zero => intros; rename_i hG; cases hG
  | succ k ih => intros; rename_i hG; exact rb240_88 (n := n) hl hr80 ih hG
def gb240_80 (n : Nat) (q80 : Int32 → Int32 → zX → Option (Unit × zX)) (l1 : Int32) (l2 : Int32) (X : zX) : Option (Unit × zX) :=
  if (24 : Int32) ≤ l2 then
    some ((), X)
  else
    gf240_88 n q80 n l1 l2 0 X
set_option maxRecDepth 20000 in
theorem rb240_80 {n : Nat} {h0 : zH} (hl : Fx h0) {q80 : Int32 → Int32 → zX → Option (Unit × zX)} {r80 : Nat → Int32 → Int32 → zH → Option (Unit × zH)} (hr80 : ∀ {l1 : Int32} {l2 : Int32} {X : zX} {p : Unit × zX}, q80 l1 l2 X = some p → r80 159 l1 l2 (mq h0 X) = some (p.1, mq h0 p.2)) {l1 : Int32} {l2 : Int32} {X : zX} {p : Unit × zX} (hG : gb240_80 n q80 l1 l2 X = some p) : b240_80 n r80 159 l1 l2 (mq h0 X) = some (p.1, mq h0 p.2) := by
  unfold gb240_80 at hG
  unfold b240_80
  by_cases c1 : (24 : Int32) ≤ l2
  · rw [if_pos c1] at hG
    refine (if_pos c1).trans ?_
    replace hG := Option.some.inj hG
    subst hG
    rfl
  · rw [if_neg c1] at hG
    refine (if_neg c1).trans ?_
    exact rf240_88 hl hr80 n hG
def gf240_80 (n : Nat)  (k : Nat) : Int32 → Int32 → zX → Option (Unit × zX) := Nat.rec (fun _ _ _ => none) (fun _ ih => gb240_80 n ih) k
theorem rf240_80 {n : Nat} {h0 : zH} (hl : Fx h0)   (k : Nat) : ∀ {l1 : Int32} {l2 : Int32} {X : zX} {p : Unit × zX}, gf240_80 n  k l1 l2 X = some p → f240_80 n  k 159 l1 l2 (mq h0 X) = some (p.1, mq h0 p.2) := by
  induction k with
  | zero => intros; rename_i hG; cases hG
  | succ k ih => intros; rename_i hG; exact rb240_80 (n := n) hl ih hG
def gb240_21 (n : Nat) (q2 : Int32 → Int32 → zX → Option (Unit × zX)) (q21 : Int32 → Int32 → Int32 → zX → Option (Unit × zX)) (l1 : Int32) (l2 : Int32) (l3 : Int32) (X : zX) : Option (Unit × zX) :=
  (rd (X.2.2 16) ((24 * l1) + l2)).bind fun x2 =>
  if x2 ≤ l3 then
    q2 l1 (l2 + 1) X
  else
    (rd (X.2.2 62) l2).bind fun x7 =>
    (rd (X.2.2 19) ((4 * ((24 * l1) + l2)) + l3)).bind fun x10 =>
    (wr X 62 l2 (x7 ||| (1 <<< (x10 &&& 31)))).bind fun X12 =>
    q21 l1 l2 (l3 + 1) X12
set_option maxRecDepth 20000 in
theorem rb240_21 {n : Nat} {h0 : zH} (hl : Fx h0) {q2 : Int32 → Int32 → zX → Option (Unit × zX)} {r2 : Nat → Int32 → Int32 → zH → Option (Unit × zH)} {q21 : Int32 → Int32 → Int32 → zX → Option (Unit × zX)} {r21 : Nat → Int32 → Int32 → Int32 → zH → Option (Unit × zH)} (hr2 : ∀ {l1 : Int32} {l2 : Int32} {X : zX} {p : Unit × zX}, q2 l1 l2 X = some p → r2 159 l1 l2 (mq h0 X) = some (p.1, mq h0 p.2)) (hr21 : ∀ {l1 : Int32} {l2 : Int32} {l3 : Int32} {X : zX} {p : Unit × zX}, q21 l1 l2 l3 X = some p → r21 159 l1 l2 l3 (mq h0 X) = some (p.1, mq h0 p.2)) {l1 : Int32} {l2 : Int32} {l3 : Int32} {X : zX} {p : Unit × zX} (hG : gb240_21 n q2 q21 l1 l2 l3 X = some p) : b240_21 n r2 r21 159 l1 l2 l3 (mq h0 X) = some (p.1, mq h0 p.2) := by
  unfold gb240_21 at hG
  unfold b240_21
  refine bnd_eq (mgR_20 hl) ?_
  refine bnd_eq rfl ?_
  replace hG := zbnd hG
  obtain ⟨x2, e3, hG⟩ := hG
  refine bnd_eq (m_aI hl (i := 16) (by decide) rfl e3) ?_
  by_cases c4 : x2 ≤ l3
  · rw [if_pos c4] at hG
    refine (if_pos c4).trans ?_
    exact hr2 hG
  · rw [if_neg c4] at hG
    refine (if_neg c4).trans ?_
    refine bnd_eq (mgR_74 hl) ?_
    refine bnd_eq (mgR_74 hl) ?_
    refine bnd_eq rfl ?_
    replace hG := zbnd hG
    obtain ⟨x7, e8, hG⟩ := hG
    refine bnd_eq (m_aI hl (i := 62) (by decide) rfl e8) ?_
    refine bnd_eq (mgR_23 hl) ?_
    refine bnd_eq rfl ?_
    replace hG := zbnd hG
    obtain ⟨x10, e11, hG⟩ := hG
    refine bnd_eq (m_aI hl (i := 19) (by decide) rfl e11) ?_
    refine bnd_eq rfl ?_
    replace hG := zbnd hG
    obtain ⟨X12, e13, hG⟩ := hG
    refine bnd_eq (m_sI hl (i := 62) (by decide) rfl e13) ?_
    exact hr21 hG
def gf240_21 (n : Nat) (q2 : Int32 → Int32 → zX → Option (Unit × zX)) (k : Nat) : Int32 → Int32 → Int32 → zX → Option (Unit × zX) := Nat.rec (fun _ _ _ _ => none) (fun _ ih => gb240_21 n q2 ih) k
theorem rf240_21 {n : Nat} {h0 : zH} (hl : Fx h0) {q2 : Int32 → Int32 → zX → Option (Unit × zX)} {r2 : Nat → Int32 → Int32 → zH → Option (Unit × zH)} (hr2 : ∀ {l1 : Int32} {l2 : Int32} {X : zX} {p : Unit × zX}, q2 l1 l2 X = some p → r2 159 l1 l2 (mq h0 X) = some (p.1, mq h0 p.2)) (k : Nat) : ∀ {l1 : Int32} {l2 : Int32} {l3 : Int32} {X : zX} {p : Unit × zX}, gf240_21 n q2 k l1 l2 l3 X = some p → f240_21 n r2 k 159 l1 l2 l3 (mq h0 X) = some (p.1, mq h0 p.2) := by
  induction k with
  | zero => intros; rename_i hG; cases hG
  | succ k ih => intros; rename_i hG; exact rb240_21 (n := n) hl hr2 ih hG
def gb240_2 (n : Nat) (q2 : Int32 → Int32 → zX → Option (Unit × zX)) (l1 : Int32) (l2 : Int32) (X : zX) : Option (Unit × zX) :=
  (rd (X.2.2 9) l1).bind fun x2 =>
  if x2 ≤ l2 then
    gf240_80 n  n l1 0 X
  else
    (wr X 62 l2 0).bind fun X6 =>
    gf240_21 n q2 n l1 l2 0 X6
set_option maxRecDepth 20000 in
theorem rb240_2 {n : Nat} {h0 : zH} (hl : Fx h0) {q2 : Int32 → Int32 → zX → Option (Unit × zX)} {r2 : Nat → Int32 → Int32 → zH → Option (Unit × zH)} (hr2 : ∀ {l1 : Int32} {l2 : Int32} {X : zX} {p : Unit × zX}, q2 l1 l2 X = some p → r2 159 l1 l2 (mq h0 X) = some (p.1, mq h0 p.2)) {l1 : Int32} {l2 : Int32} {X : zX} {p : Unit × zX} (hG : gb240_2 n q2 l1 l2 X = some p) : b240_2 n r2 159 l1 l2 (mq h0 X) = some (p.1, mq h0 p.2) := by
  unfold gb240_2 at hG
  unfold b240_2
  refine bnd_eq (mgR_13 hl) ?_
  refine bnd_eq rfl ?_
  replace hG := zbnd hG
  obtain ⟨x2, e3, hG⟩ := hG
  refine bnd_eq (m_aI hl (i := 9) (by decide) rfl e3) ?_
  by_cases c4 : x2 ≤ l2
  · rw [if_pos c4] at hG
    refine (if_pos c4).trans ?_
    exact rf240_80 hl  n hG
  · rw [if_neg c4] at hG
    refine (if_neg c4).trans ?_
    refine bnd_eq (mgR_74 hl) ?_
    refine bnd_eq rfl ?_
    replace hG := zbnd hG
    obtain ⟨X6, e7, hG⟩ := hG
    refine bnd_eq (m_sI hl (i := 62) (by decide) rfl e7) ?_
    exact rf240_21 hl hr2 n hG
def gf240_2 (n : Nat)  (k : Nat) : Int32 → Int32 → zX → Option (Unit × zX) := Nat.rec (fun _ _ _ => none) (fun _ ih => gb240_2 n ih) k
theorem rf240_2 {n : Nat} {h0 : zH} (hl : Fx h0)   (k : Nat) : ∀ {l1 : Int32} {l2 : Int32} {X : zX} {p : Unit × zX}, gf240_2 n  k l1 l2 X = some p → f240_2 n  k 159 l1 l2 (mq h0 X) = some (p.1, mq h0 p.2) := by
  induction k with
  | zero => intros; rename_i hG; cases hG
  | succ k ih => intros; rename_i hG; exact rb240_2 (n := n) hl ih hG
def g240 (n : Nat) (y1 : Int32) (X : zX) : Option (Unit × zX) :=
  gf240_2 n  n y1 0 X
set_option maxRecDepth 20000 in
theorem r240 {n : Nat} {h0 : zH} (hl : Fx h0) {y1 : Int32} {X : zX} {p : Unit × zX} (hG : g240 n y1 X = some p) : f240 n 159 y1 (mq h0 X) = some (p.1, mq h0 p.2) := by
  unfold g240 at hG
  unfold f240
  exact rf240_2 hl  n hG
def gb239_167 (n : Nat) (q105 : Int32 → Int32 → zX → Option (Unit × zX)) (q133 : Int32 → Int32 → Int32 → Int32 → zX → Option (Unit × zX)) (l1 : Int32) (l2 : Int32) (l3 : Int32) (l4 : Int32) (s0 : Int32) (X : zX) : Option (Unit × zX) :=
  q133 l1 l2 s0 (l4 + (-1)) X
set_option maxRecDepth 20000 in
theorem rb239_167 {n : Nat} {h0 : zH} (hl : Fx h0) {q105 : Int32 → Int32 → zX → Option (Unit × zX)} {r105 : Nat → Int32 → Int32 → zH → Option (Unit × zH)} {q133 : Int32 → Int32 → Int32 → Int32 → zX → Option (Unit × zX)} {r133 : Nat → Int32 → Int32 → Int32 → Int32 → zH → Option (Unit × zH)} (hr105 : ∀ {l1 : Int32} {l2 : Int32} {X : zX} {p : Unit × zX}, q105 l1 l2 X = some p → r105 159 l1 l2 (mq h0 X) = some (p.1, mq h0 p.2)) (hr133 : ∀ {l1 : Int32} {l2 : Int32} {l3 : Int32} {l4 : Int32} {X : zX} {p : Unit × zX}, q133 l1 l2 l3 l4 X = some p → r133 159 l1 l2 l3 l4 (mq h0 X) = some (p.1, mq h0 p.2)) {l1 : Int32} {l2 : Int32} {l3 : Int32} {l4 : Int32} {s0 : Int32} {X : zX} {p : Unit × zX} (hG : gb239_167 n q105 q133 l1 l2 l3 l4 s0 X = some p) : b239_167 n r105 r133 159 l1 l2 l3 l4 s0 (mq h0 X) = some (p.1, mq h0 p.2) := by
  unfold gb239_167 at hG
  unfold b239_167
  exact hr133 hG
def gb239_166 (n : Nat) (q105 : Int32 → Int32 → zX → Option (Unit × zX)) (q133 : Int32 → Int32 → Int32 → Int32 → zX → Option (Unit × zX)) (l1 : Int32) (l2 : Int32) (l3 : Int32) (l4 : Int32) (X : zX) : Option (Unit × zX) :=
  gb239_167 n q105 q133 l1 l2 l3 l4 l3 X
set_option maxRecDepth 20000 in
theorem rb239_166 {n : Nat} {h0 : zH} (hl : Fx h0) {q105 : Int32 → Int32 → zX → Option (Unit × zX)} {r105 : Nat → Int32 → Int32 → zH → Option (Unit × zH)} {q133 : Int32 → Int32 → Int32 → Int32 → zX → Option (Unit × zX)} {r133 : Nat → Int32 → Int32 → Int32 → Int32 → zH → Option (Unit × zH)} (hr105 : ∀ {l1 : Int32} {l2 : Int32} {X : zX} {p : Unit × zX}, q105 l1 l2 X = some p → r105 159 l1 l2 (mq h0 X) = some (p.1, mq h0 p.2)) (hr133 : ∀ {l1 : Int32} {l2 : Int32} {l3 : Int32} {l4 : Int32} {X : zX} {p : Unit × zX}, q133 l1 l2 l3 l4 X = some p → r133 159 l1 l2 l3 l4 (mq h0 X) = some (p.1, mq h0 p.2)) {l1 : Int32} {l2 : Int32} {l3 : Int32} {l4 : Int32} {X : zX} {p : Unit × zX} (hG : gb239_166 n q105 q133 l1 l2 l3 l4 X = some p) : b239_166 n r105 r133 159 l1 l2 l3 l4 (mq h0 X) = some (p.1, mq h0 p.2) := by
  unfold gb239_166 at hG
  unfold b239_166
  exact rb239_167 hl hr105 hr133 hG
def gb239_133 (n : Nat) (q105 : Int32 → Int32 → zX → Option (Unit × zX)) (q133 : Int32 → Int32 → Int32 → Int32 → zX → Option (Unit × zX)) (l1 : Int32) (l2 : Int32) (l3 : Int32) (l4 : Int32) (X : zX) : Option (Unit × zX) :=
  if l4 < 0 then
    zgd (bkO (X.1 4) 59 ((24 * (X.1 4)) + l2)) <|
    (wr X 59 ((24 * (X.1 4)) + l2) l3).bind fun X3 =>
    q105 (l1 ||| (1 <<< (l3 &&& 31))) (l2 + 1) X3
  else
    if ((l1 >>> (l4 &&& 31)) &&& 1) = 0 then
      (rd (X.2.2 62) l4).bind fun x8 =>
      if (x8 &&& (l1 ^^^ (-1))) = 0 then
        gb239_167 n q105 q133 l1 l2 l3 l4 l4 X
      else
        gb239_166 n q105 q133 l1 l2 l3 l4 X
    else
      gb239_166 n q105 q133 l1 l2 l3 l4 X
set_option maxRecDepth 20000 in
theorem rb239_133 {n : Nat} {h0 : zH} (hl : Fx h0) {q105 : Int32 → Int32 → zX → Option (Unit × zX)} {r105 : Nat → Int32 → Int32 → zH → Option (Unit × zH)} {q133 : Int32 → Int32 → Int32 → Int32 → zX → Option (Unit × zX)} {r133 : Nat → Int32 → Int32 → Int32 → Int32 → zH → Option (Unit × zH)} (hr105 : ∀ {l1 : Int32} {l2 : Int32} {X : zX} {p : Unit × zX}, q105 l1 l2 X = some p → r105 159 l1 l2 (mq h0 X) = some (p.1, mq h0 p.2)) (hr133 : ∀ {l1 : Int32} {l2 : Int32} {l3 : Int32} {l4 : Int32} {X : zX} {p : Unit × zX}, q133 l1 l2 l3 l4 X = some p → r133 159 l1 l2 l3 l4 (mq h0 X) = some (p.1, mq h0 p.2)) {l1 : Int32} {l2 : Int32} {l3 : Int32} {l4 : Int32} {X : zX} {p : Unit × zX} (hG : gb239_133 n q105 q133 l1 l2 l3 l4 X = some p) : b239_133 n r105 r133 159 l1 l2 l3 l4 (mq h0 X) = some (p.1, mq h0 p.2) := by
  unfold gb239_133 at hG
  unfold b239_133
  by_cases c1 : l4 < 0
  · rw [if_pos c1] at hG
    refine (if_pos c1).trans ?_
    refine bnd_eq (mgR_63 hl) ?_
    refine bnd_eq (mgI_4 hl) ?_
    refine bnd_eq rfl ?_
    replace hG := zgd_some hG
    obtain ⟨g5, hG⟩ := hG
    replace hG := zbnd hG
    obtain ⟨X3, e4, hG⟩ := hG
    refine bnd_eq (m_sI hl (i := 59) (by decide) rfl e4) ?_
    exact hr105 hG
  · rw [if_neg c1] at hG
    refine (if_neg c1).trans ?_
    by_cases c6 : ((l1 >>> (l4 &&& 31)) &&& 1) = 0
    · rw [if_pos c6] at hG
      refine (if_pos c6).trans ?_
      refine bnd_eq (mgR_74 hl) ?_
      refine bnd_eq rfl ?_
      replace hG := zbnd hG
      obtain ⟨x8, e9, hG⟩ := hG
      refine bnd_eq (m_aI hl (i := 62) (by decide) rfl e9) ?_
      by_cases c10 : (x8 &&& (l1 ^^^ (-1))) = 0
      · rw [if_pos c10] at hG
        refine (if_pos c10).trans ?_
        exact rb239_167 hl hr105 hr133 hG
      · rw [if_neg c10] at hG
        refine (if_neg c10).trans ?_
        exact rb239_166 hl hr105 hr133 hG
    · rw [if_neg c6] at hG
      refine (if_neg c6).trans ?_
      exact rb239_166 hl hr105 hr133 hG
def gf239_133 (n : Nat) (q105 : Int32 → Int32 → zX → Option (Unit × zX)) (k : Nat) : Int32 → Int32 → Int32 → Int32 → zX → Option (Unit × zX) := Nat.rec (fun _ _ _ _ _ => none) (fun _ ih => gb239_133 n q105 ih) k
theorem rf239_133 {n : Nat} {h0 : zH} (hl : Fx h0) {q105 : Int32 → Int32 → zX → Option (Unit × zX)} {r105 : Nat → Int32 → Int32 → zH → Option (Unit × zH)} (hr105 : ∀ {l1 : Int32} {l2 : Int32} {X : zX} {p : Unit × zX}, q105 l1 l2 X = some p → r105 159 l1 l2 (mq h0 X) = some (p.1, mq h0 p.2)) (k : Nat) : ∀ {l1 : Int32} {l2 : Int32} {l3 : Int32} {l4 : Int32} {X : zX} {p : Unit × zX}, gf239_133 n q105 k l1 l2 l3 l4 X = some p → f239_133 n r105 k 159 l1 l2 l3 l4 (mq h0 X) = some (p.1, mq h0 p.2) := by
  induction k with
  | zero => intros; rename_i hG; cases hG
  | succ k ih => intros; rename_i hG; exact rb239_133 (n := n) hl hr105 ih hG
def gb239_105 (n : Nat) (q105 : Int32 → Int32 → zX → Option (Unit × zX)) (l1 : Int32) (l2 : Int32) (X : zX) : Option (Unit × zX) :=
  (rd (X.2.2 9) (X.1 4)).bind fun x2 =>
  if x2 ≤ l2 then
    some ((), X)
  else
    (rd (X.2.2 9) (X.1 4)).bind fun x6 =>
    gf239_133 n q105 n l1 l2 (-1) (x6 - 1) X
set_option maxRecDepth 20000 in
theorem rb239_105 {n : Nat} {h0 : zH} (hl : Fx h0) {q105 : Int32 → Int32 → zX → Option (Unit × zX)} {r105 : Nat → Int32 → Int32 → zH → Option (Unit × zH)} (hr105 : ∀ {l1 : Int32} {l2 : Int32} {X : zX} {p : Unit × zX}, q105 l1 l2 X = some p → r105 159 l1 l2 (mq h0 X) = some (p.1, mq h0 p.2)) {l1 : Int32} {l2 : Int32} {X : zX} {p : Unit × zX} (hG : gb239_105 n q105 l1 l2 X = some p) : b239_105 n r105 159 l1 l2 (mq h0 X) = some (p.1, mq h0 p.2) := by
  unfold gb239_105 at hG
  unfold b239_105
  refine bnd_eq (mgR_13 hl) ?_
  refine bnd_eq (mgI_4 hl) ?_
  refine bnd_eq rfl ?_
  replace hG := zbnd hG
  obtain ⟨x2, e3, hG⟩ := hG
  refine bnd_eq (m_aI hl (i := 9) (by decide) rfl e3) ?_
  by_cases c4 : x2 ≤ l2
  · rw [if_pos c4] at hG
    refine (if_pos c4).trans ?_
    replace hG := Option.some.inj hG
    subst hG
    rfl
  · rw [if_neg c4] at hG
    refine (if_neg c4).trans ?_
    refine bnd_eq (mgR_13 hl) ?_
    refine bnd_eq (mgI_4 hl) ?_
    refine bnd_eq rfl ?_
    replace hG := zbnd hG
    obtain ⟨x6, e7, hG⟩ := hG
    refine bnd_eq (m_aI hl (i := 9) (by decide) rfl e7) ?_
    exact rf239_133 hl hr105 n hG
def gf239_105 (n : Nat)  (k : Nat) : Int32 → Int32 → zX → Option (Unit × zX) := Nat.rec (fun _ _ _ => none) (fun _ ih => gb239_105 n ih) k
theorem rf239_105 {n : Nat} {h0 : zH} (hl : Fx h0)   (k : Nat) : ∀ {l1 : Int32} {l2 : Int32} {X : zX} {p : Unit × zX}, gf239_105 n  k l1 l2 X = some p → f239_105 n  k 159 l1 l2 (mq h0 X) = some (p.1, mq h0 p.2) := by
  induction k with
  | zero => intros; rename_i hG; cases hG
  | succ k ih => intros; rename_i hG; exact rb239_105 (n := n) hl ih hG
def gb239_25 (n : Nat) (q10 : Int32 → zX → Option (Unit × zX)) (q25 : Int32 → Int32 → zX → Option (Unit × zX)) (l1 : Int32) (l2 : Int32) (X : zX) : Option (Unit × zX) :=
  (rd (X.2.2 16) ((24 * (X.1 4)) + l1)).bind fun x2 =>
  if x2 ≤ l2 then
    q10 (l1 + 1) X
  else
    (rd (X.2.2 19) ((4 * ((24 * (X.1 4)) + l1)) + l2)).bind fun x7 =>
    (rd (X.2.2 62) x7).bind fun x9 =>
    if ((x9 >>> (l1 &&& 31)) &&& 1) = 1 then
      (rd (X.2.2 18) ((4 * ((24 * (X.1 4)) + l1)) + l2)).bind fun x13 =>
      (g196 n 6 x13 X).bind fun p15 =>
      some ((), p15.2)
    else
      q25 l1 (l2 + 1) X
set_option maxRecDepth 20000 in
theorem rb239_25 {n : Nat} {h0 : zH} (hl : Fx h0) {q10 : Int32 → zX → Option (Unit × zX)} {r10 : Nat → Int32 → zH → Option (Unit × zH)} {q25 : Int32 → Int32 → zX → Option (Unit × zX)} {r25 : Nat → Int32 → Int32 → zH → Option (Unit × zH)} (hr10 : ∀ {l1 : Int32} {X : zX} {p : Unit × zX}, q10 l1 X = some p → r10 159 l1 (mq h0 X) = some (p.1, mq h0 p.2)) (hr25 : ∀ {l1 : Int32} {l2 : Int32} {X : zX} {p : Unit × zX}, q25 l1 l2 X = some p → r25 159 l1 l2 (mq h0 X) = some (p.1, mq h0 p.2)) {l1 : Int32} {l2 : Int32} {X : zX} {p : Unit × zX} (hG : gb239_25 n q10 q25 l1 l2 X = some p) : b239_25 n r10 r25 159 l1 l2 (mq h0 X) = some (p.1, mq h0 p.2) := by
  unfold gb239_25 at hG
  unfold b239_25
  refine bnd_eq (mgR_20 hl) ?_
  refine bnd_eq (mgI_4 hl) ?_
  refine bnd_eq rfl ?_
  replace hG := zbnd hG
  obtain ⟨x2, e3, hG⟩ := hG
  refine bnd_eq (m_aI hl (i := 16) (by decide) rfl e3) ?_
  by_cases c4 : x2 ≤ l2
  · rw [if_pos c4] at hG
    refine (if_pos c4).trans ?_
    exact hr10 hG
  · rw [if_neg c4] at hG
    refine (if_neg c4).trans ?_
    refine bnd_eq (mgI_4 hl) ?_
    refine bnd_eq (mgR_74 hl) ?_
    refine bnd_eq (mgR_23 hl) ?_
    refine bnd_eq rfl ?_
    replace hG := zbnd hG
    obtain ⟨x7, e8, hG⟩ := hG
    refine bnd_eq (m_aI hl (i := 19) (by decide) rfl e8) ?_
    refine bnd_eq rfl ?_
    replace hG := zbnd hG
    obtain ⟨x9, e10, hG⟩ := hG
    refine bnd_eq (m_aI hl (i := 62) (by decide) rfl e10) ?_
    by_cases c11 : ((x9 >>> (l1 &&& 31)) &&& 1) = 1
    · rw [if_pos c11] at hG
      refine (if_pos c11).trans ?_
      refine bnd_eq (mgR_22 hl) ?_
      refine bnd_eq rfl ?_
      replace hG := zbnd hG
      obtain ⟨x13, e14, hG⟩ := hG
      refine bnd_eq (m_aI hl (i := 18) (by decide) rfl e14) ?_
      refine zgd_eq (m_isO hl) ?_
      replace hG := zbnd hG
      obtain ⟨p15, e16, hG⟩ := hG
      refine bnd_eq (r196 hl e16) ?_
      replace hG := Option.some.inj hG
      subst hG
      rfl
    · rw [if_neg c11] at hG
      refine (if_neg c11).trans ?_
      exact hr25 hG
def gf239_25 (n : Nat) (q10 : Int32 → zX → Option (Unit × zX)) (k : Nat) : Int32 → Int32 → zX → Option (Unit × zX) := Nat.rec (fun _ _ _ => none) (fun _ ih => gb239_25 n q10 ih) k
theorem rf239_25 {n : Nat} {h0 : zH} (hl : Fx h0) {q10 : Int32 → zX → Option (Unit × zX)} {r10 : Nat → Int32 → zH → Option (Unit × zH)} (hr10 : ∀ {l1 : Int32} {X : zX} {p : Unit × zX}, q10 l1 X = some p → r10 159 l1 (mq h0 X) = some (p.1, mq h0 p.2)) (k : Nat) : ∀ {l1 : Int32} {l2 : Int32} {X : zX} {p : Unit × zX}, gf239_25 n q10 k l1 l2 X = some p → f239_25 n r10 k 159 l1 l2 (mq h0 X) = some (p.1, mq h0 p.2) := by
  induction k with
  | zero => intros; rename_i hG; cases hG
  | succ k ih => intros; rename_i hG; exact rb239_25 (n := n) hl hr10 ih hG
def gb239_10 (n : Nat) (q10 : Int32 → zX → Option (Unit × zX)) (l1 : Int32) (X : zX) : Option (Unit × zX) :=
  (rd (X.2.2 9) (X.1 4)).bind fun x2 =>
  if x2 ≤ l1 then
    gf239_105 n  n 0 0 X
  else
    gf239_25 n q10 n l1 0 X
set_option maxRecDepth 20000 in
theorem rb239_10 {n : Nat} {h0 : zH} (hl : Fx h0) {q10 : Int32 → zX → Option (Unit × zX)} {r10 : Nat → Int32 → zH → Option (Unit × zH)} (hr10 : ∀ {l1 : Int32} {X : zX} {p : Unit × zX}, q10 l1 X = some p → r10 159 l1 (mq h0 X) = some (p.1, mq h0 p.2)) {l1 : Int32} {X : zX} {p : Unit × zX} (hG : gb239_10 n q10 l1 X = some p) : b239_10 n r10 159 l1 (mq h0 X) = some (p.1, mq h0 p.2) := by
  unfold gb239_10 at hG
  unfold b239_10
  refine bnd_eq (mgR_13 hl) ?_
  refine bnd_eq (mgI_4 hl) ?_
  refine bnd_eq rfl ?_
  replace hG := zbnd hG
  obtain ⟨x2, e3, hG⟩ := hG
  refine bnd_eq (m_aI hl (i := 9) (by decide) rfl e3) ?_
  by_cases c4 : x2 ≤ l1
  · rw [if_pos c4] at hG
    refine (if_pos c4).trans ?_
    exact rf239_105 hl  n hG
  · rw [if_neg c4] at hG
    refine (if_neg c4).trans ?_
    exact rf239_25 hl hr10 n hG
def gf239_10 (n : Nat)  (k : Nat) : Int32 → zX → Option (Unit × zX) := Nat.rec (fun _ _ => none) (fun _ ih => gb239_10 n ih) k
theorem rf239_10 {n : Nat} {h0 : zH} (hl : Fx h0)   (k : Nat) : ∀ {l1 : Int32} {X : zX} {p : Unit × zX}, gf239_10 n  k l1 X = some p → f239_10 n  k 159 l1 (mq h0 X) = some (p.1, mq h0 p.2) := by
  induction k with
  | zero => intros; rename_i hG; cases hG
  | succ k ih => intros; rename_i hG; exact rb239_10 (n := n) hl ih hG
def g239 (n : Nat)  (X : zX) : Option (Unit × zX) :=
  (g240 n (X.1 4) X).bind fun p1 =>
  gf239_10 n  n 0 p1.2
set_option maxRecDepth 20000 in
theorem r239 {n : Nat} {h0 : zH} (hl : Fx h0)  {X : zX} {p : Unit × zX} (hG : g239 n  X = some p) : f239 n 159 (mq h0 X) = some (p.1, mq h0 p.2) := by
  unfold g239 at hG
  unfold f239
  refine bnd_eq (mgI_4 hl) ?_
  refine zgd_eq (m_isO hl) ?_
  replace hG := zbnd hG
  obtain ⟨p1, e2, hG⟩ := hG
  refine bnd_eq (r240 hl e2) ?_
  exact rf239_10 hl  n hG
def gb189_207 (n : Nat)   (X : zX) : Option (Unit × zX) :=
  if (X.1 73) = (-1) then
    (g239 n  X).bind fun p2 =>
    some ((), p2.2)
  else
    some ((), X)
set_option maxRecDepth 20000 in
theorem rb189_207 {n : Nat} {h0 : zH} (hl : Fx h0)    {X : zX} {p : Unit × zX} (hG : gb189_207 n   X = some p) : b189_207 n  159 (mq h0 X) = some (p.1, mq h0 p.2) := by
  unfold gb189_207 at hG
  unfold b189_207
  refine bnd_eq (mgI_73 hl) ?_
  by_cases c1 : (X.1 73) = (-1)
  · rw [if_pos c1] at hG
    refine (if_pos c1).trans ?_
    refine zgd_eq (m_isO hl) ?_
    replace hG := zbnd hG
    obtain ⟨p2, e3, hG⟩ := hG
    refine bnd_eq (r239 hl e3) ?_
    replace hG := Option.some.inj hG
    subst hG
    rfl
  · rw [if_neg c1] at hG
    refine (if_neg c1).trans ?_
    replace hG := Option.some.inj hG
    subst hG
    rfl
def gb189_195 (n : Nat)   (X : zX) : Option (Unit × zX) :=
  if (X.1 73) = (-1) then
    (g237 n  X).bind fun p2 =>
    gb189_207 n  p2.2
  else
    gb189_207 n  X
set_option maxRecDepth 20000 in
theorem rb189_195 {n : Nat} {h0 : zH} (hl : Fx h0)    {X : zX} {p : Unit × zX} (hG : gb189_195 n   X = some p) : b189_195 n  159 (mq h0 X) = some (p.1, mq h0 p.2) := by
  unfold gb189_195 at hG
  unfold b189_195
  refine bnd_eq (mgI_73 hl) ?_
  by_cases c1 : (X.1 73) = (-1)
  · rw [if_pos c1] at hG
    refine (if_pos c1).trans ?_
    refine zgd_eq (m_isO hl) ?_
    replace hG := zbnd hG
    obtain ⟨p2, e3, hG⟩ := hG
    refine bnd_eq (r237 hl e3) ?_
    exact rb189_207 hl  hG
  · rw [if_neg c1] at hG
    refine (if_neg c1).trans ?_
    exact rb189_207 hl  hG
def gb189_192 (n : Nat) (q119 : zX → Option (Unit × zX)) (l1 : Int32) (X : zX) : Option (Unit × zX) :=
  q119 X
set_option maxRecDepth 20000 in
theorem rb189_192 {n : Nat} {h0 : zH} (hl : Fx h0) {q119 : zX → Option (Unit × zX)} {r119 : Nat → zH → Option (Unit × zH)} (hr119 : ∀  {X : zX} {p : Unit × zX}, q119  X = some p → r119 159 (mq h0 X) = some (p.1, mq h0 p.2)) {l1 : Int32} {X : zX} {p : Unit × zX} (hG : gb189_192 n q119 l1 X = some p) : b189_192 n r119 159 l1 (mq h0 X) = some (p.1, mq h0 p.2) := by
  unfold gb189_192 at hG
  unfold b189_192
  exact hr119 hG
def gb189_154 (n : Nat) (q119 : zX → Option (Unit × zX)) (l1 : Int32) (s0 : Int32) (X : zX) : Option (Unit × zX) :=
  (g200 n s0 X).bind fun p1 =>
  if (p1.2.1 73) = (-1) then
    if l1 = 0 then
      (g201 n  p1.2).bind fun p5 =>
      gb189_192 n q119 l1 p5.2
    else
      if l1 = 1 then
        (g226 n  p1.2).bind fun p8 =>
        gb189_192 n q119 l1 p8.2
      else
        (g235 n  p1.2).bind fun p10 =>
        gb189_192 n q119 l1 p10.2
  else
    gb189_192 n q119 l1 p1.2
set_option maxRecDepth 20000 in
theorem rb189_154 {n : Nat} {h0 : zH} (hl : Fx h0) {q119 : zX → Option (Unit × zX)} {r119 : Nat → zH → Option (Unit × zH)} (hr119 : ∀  {X : zX} {p : Unit × zX}, q119  X = some p → r119 159 (mq h0 X) = some (p.1, mq h0 p.2)) {l1 : Int32} {s0 : Int32} {X : zX} {p : Unit × zX} (hG : gb189_154 n q119 l1 s0 X = some p) : b189_154 n r119 159 l1 s0 159 (mq h0 X) = some (p.1, mq h0 p.2) := by
  unfold gb189_154 at hG
  unfold b189_154
  refine zgd_eq (m_isO hl) ?_
  replace hG := zbnd hG
  obtain ⟨p1, e2, hG⟩ := hG
  refine bnd_eq (r200 hl e2) ?_
  refine bnd_eq (mgI_73 hl) ?_
  by_cases c3 : (p1.2.1 73) = (-1)
  · rw [if_pos c3] at hG
    refine (if_pos c3).trans ?_
    by_cases c4 : l1 = 0
    · rw [if_pos c4] at hG
      refine (if_pos c4).trans ?_
      refine zgd_eq (m_isO hl) ?_
      replace hG := zbnd hG
      obtain ⟨p5, e6, hG⟩ := hG
      refine bnd_eq (r201 hl e6) ?_
      exact rb189_192 hl hr119 hG
    · rw [if_neg c4] at hG
      refine (if_neg c4).trans ?_
      by_cases c7 : l1 = 1
      · rw [if_pos c7] at hG
        refine (if_pos c7).trans ?_
        refine zgd_eq (m_isO hl) ?_
        replace hG := zbnd hG
        obtain ⟨p8, e9, hG⟩ := hG
        refine bnd_eq (r226 hl e9) ?_
        exact rb189_192 hl hr119 hG
      · rw [if_neg c7] at hG
        refine (if_neg c7).trans ?_
        refine zgd_eq (m_isO hl) ?_
        replace hG := zbnd hG
        obtain ⟨p10, e11, hG⟩ := hG
        refine bnd_eq (r235 hl e11) ?_
        exact rb189_192 hl hr119 hG
  · rw [if_neg c3] at hG
    refine (if_neg c3).trans ?_
    exact rb189_192 hl hr119 hG
def gb189_119 (n : Nat) (q119 : zX → Option (Unit × zX))  (X : zX) : Option (Unit × zX) :=
  if (X.1 73) = (-1) then
    if (X.1 69) = 5 then
      gb189_195 n  X
    else
      (g199 n 53 X).bind fun p3 =>
      if p3.1 = (-1) then
        gb189_154 n q119 p3.1 0 p3.2
      else
        gb189_154 n q119 p3.1 1 p3.2
  else
    gb189_195 n  X
set_option maxRecDepth 20000 in
theorem rb189_119 {n : Nat} {h0 : zH} (hl : Fx h0) {q119 : zX → Option (Unit × zX)} {r119 : Nat → zH → Option (Unit × zH)} (hr119 : ∀  {X : zX} {p : Unit × zX}, q119  X = some p → r119 159 (mq h0 X) = some (p.1, mq h0 p.2))  {X : zX} {p : Unit × zX} (hG : gb189_119 n q119  X = some p) : b189_119 n r119 159 (mq h0 X) = some (p.1, mq h0 p.2) := by
  unfold gb189_119 at hG
  unfold b189_119
  refine bnd_eq (mgI_73 hl) ?_
  by_cases c1 : (X.1 73) = (-1)
  · rw [if_pos c1] at hG
    refine (if_pos c1).trans ?_
    refine bnd_eq (mgI_69 hl) ?_
    by_cases c2 : (X.1 69) = 5
    · rw [if_pos c2] at hG
      refine (if_pos c2).trans ?_
      exact rb189_195 hl  hG
    · rw [if_neg c2] at hG
      refine (if_neg c2).trans ?_
      refine zgd_eq (m_isO hl) ?_
      replace hG := zbnd hG
      obtain ⟨p3, e4, hG⟩ := hG
      refine bnd_eq (r199 hl e4) ?_
      by_cases c5 : p3.1 = (-1)
      · rw [if_pos c5] at hG
        refine (if_pos c5).trans ?_
        exact rb189_154 hl hr119 hG
      · rw [if_neg c5] at hG
        refine (if_neg c5).trans ?_
        exact rb189_154 hl hr119 hG
  · rw [if_neg c1] at hG
    refine (if_neg c1).trans ?_
    exact rb189_195 hl  hG
def gf189_119 (n : Nat)  (k : Nat) : zX → Option (Unit × zX) := Nat.rec (fun _ => none) (fun _ ih => gb189_119 n ih) k
theorem rf189_119 {n : Nat} {h0 : zH} (hl : Fx h0)   (k : Nat) : ∀  {X : zX} {p : Unit × zX}, gf189_119 n  k  X = some p → f189_119 n  k 159 (mq h0 X) = some (p.1, mq h0 p.2) := by
  induction k with
  | zero => intros; rename_i hG; cases hG
  | succ k ih => intros; rename_i hG; exact rb189_119 (n := n) hl ih hG
def g189 (n : Nat)  (X : zX) : Option (Unit × zX) :=
  zgd (bkO (X.1 4) 1 (X.1 4)) <|
  (wr X 1 (X.1 4) 0).bind fun X2 =>
  zgd (bkO (X2.1 4) 4 (X2.1 4)) <|
  (wr X2 4 (X2.1 4) 0).bind fun X6 =>
  zgd (bkO (X6.1 4) 9 (X6.1 4)) <|
  (wr X6 9 (X6.1 4) 0).bind fun X10 =>
  zgd (bkO (X10.1 4) 25 (X10.1 4)) <|
  (wr X10 25 (X10.1 4) 0).bind fun X14 =>
  zgd (bkO (X14.1 4) 28 (X14.1 4)) <|
  (wr X14 28 (X14.1 4) 0).bind fun X18 =>
  zgd (bkO (X18.1 4) 35 (X18.1 4)) <|
  (wr X18 35 (X18.1 4) 0).bind fun X22 =>
  zgd (bkO (X22.1 4) 39 (X22.1 4)) <|
  (wr X22 39 (X22.1 4) 0).bind fun X26 =>
  zgd (bkO (X26.1 4) 42 (X26.1 4)) <|
  (wr X26 42 (X26.1 4) 0).bind fun X30 =>
  zgd (bkO (X30.1 4) 49 (X30.1 4)) <|
  (wr X30 49 (X30.1 4) 0).bind fun X34 =>
  zgd (bkO (X34.1 4) 58 (X34.1 4)) <|
  (wr X34 58 (X34.1 4) 0).bind fun X38 =>
  zlet (xF X38 68 0) fun X41 =>
  zlet (xF X41 73 (-1)) fun X43 =>
  zlet (xF X43 64 0) fun X45 =>
  (g190 n  X45).bind fun p47 =>
  gf189_119 n  n p47.2
set_option maxRecDepth 20000 in
theorem r189 {n : Nat} {h0 : zH} (hl : Fx h0)  {X : zX} {p : Unit × zX} (hG : g189 n  X = some p) : f189 n 159 (mq h0 X) = some (p.1, mq h0 p.2) := by
  unfold g189 at hG
  unfold f189
  refine bnd_eq (mgR_5 hl) ?_
  refine bnd_eq (mgI_4 hl) ?_
  refine bnd_eq rfl ?_
  replace hG := zgd_some hG
  obtain ⟨g4, hG⟩ := hG
  replace hG := zbnd hG
  obtain ⟨X2, e3, hG⟩ := hG
  refine bnd_eq (m_sI hl (i := 1) (by decide) rfl e3) ?_
  refine bnd_eq (mgR_8 hl) ?_
  refine bnd_eq (mgI_4 hl) ?_
  refine bnd_eq rfl ?_
  replace hG := zgd_some hG
  obtain ⟨g8, hG⟩ := hG
  replace hG := zbnd hG
  obtain ⟨X6, e7, hG⟩ := hG
  refine bnd_eq (m_sI hl (i := 4) (by decide) rfl e7) ?_
  refine bnd_eq (mgR_13 hl) ?_
  refine bnd_eq (mgI_4 hl) ?_
  refine bnd_eq rfl ?_
  replace hG := zgd_some hG
  obtain ⟨g12, hG⟩ := hG
  replace hG := zbnd hG
  obtain ⟨X10, e11, hG⟩ := hG
  refine bnd_eq (m_sI hl (i := 9) (by decide) rfl e11) ?_
  refine bnd_eq (mgR_29 hl) ?_
  refine bnd_eq (mgI_4 hl) ?_
  refine bnd_eq rfl ?_
  replace hG := zgd_some hG
  obtain ⟨g16, hG⟩ := hG
  replace hG := zbnd hG
  obtain ⟨X14, e15, hG⟩ := hG
  refine bnd_eq (m_sI hl (i := 25) (by decide) rfl e15) ?_
  refine bnd_eq (mgR_32 hl) ?_
  refine bnd_eq (mgI_4 hl) ?_
  refine bnd_eq rfl ?_
  replace hG := zgd_some hG
  obtain ⟨g20, hG⟩ := hG
  replace hG := zbnd hG
  obtain ⟨X18, e19, hG⟩ := hG
  refine bnd_eq (m_sI hl (i := 28) (by decide) rfl e19) ?_
  refine bnd_eq (mgR_39 hl) ?_
  refine bnd_eq (mgI_4 hl) ?_
  refine bnd_eq rfl ?_
  replace hG := zgd_some hG
  obtain ⟨g24, hG⟩ := hG
  replace hG := zbnd hG
  obtain ⟨X22, e23, hG⟩ := hG
  refine bnd_eq (m_sI hl (i := 35) (by decide) rfl e23) ?_
  refine bnd_eq (mgR_43 hl) ?_
  refine bnd_eq (mgI_4 hl) ?_
  refine bnd_eq rfl ?_
  replace hG := zgd_some hG
  obtain ⟨g28, hG⟩ := hG
  replace hG := zbnd hG
  obtain ⟨X26, e27, hG⟩ := hG
  refine bnd_eq (m_sI hl (i := 39) (by decide) rfl e27) ?_
  refine bnd_eq (mgR_46 hl) ?_
  refine bnd_eq (mgI_4 hl) ?_
  refine bnd_eq rfl ?_
  replace hG := zgd_some hG
  obtain ⟨g32, hG⟩ := hG
  replace hG := zbnd hG
  obtain ⟨X30, e31, hG⟩ := hG
  refine bnd_eq (m_sI hl (i := 42) (by decide) rfl e31) ?_
  refine bnd_eq (mgR_53 hl) ?_
  refine bnd_eq (mgI_4 hl) ?_
  refine bnd_eq rfl ?_
  replace hG := zgd_some hG
  obtain ⟨g36, hG⟩ := hG
  replace hG := zbnd hG
  obtain ⟨X34, e35, hG⟩ := hG
  refine bnd_eq (m_sI hl (i := 49) (by decide) rfl e35) ?_
  refine bnd_eq (mgR_62 hl) ?_
  refine bnd_eq (mgI_4 hl) ?_
  refine bnd_eq rfl ?_
  replace hG := zgd_some hG
  obtain ⟨g40, hG⟩ := hG
  replace hG := zbnd hG
  obtain ⟨X38, e39, hG⟩ := hG
  refine bnd_eq (m_sI hl (i := 58) (by decide) rfl e39) ?_
  replace hG := zlet_ex hG
  obtain ⟨X41, e42, hG⟩ := hG
  refine bnd_eq (mpI_68 hl e42) ?_
  replace hG := zlet_ex hG
  obtain ⟨X43, e44, hG⟩ := hG
  refine bnd_eq (mpI_73 hl e44) ?_
  replace hG := zlet_ex hG
  obtain ⟨X45, e46, hG⟩ := hG
  refine bnd_eq (mpI_64 hl e46) ?_
  refine zgd_eq (m_isO hl) ?_
  replace hG := zbnd hG
  obtain ⟨p47, e48, hG⟩ := hG
  refine bnd_eq (r190 hl e48) ?_
  exact rf189_119 hl  n hG
def g188 (n : Nat)  (X : zX) : Option (Int32 × zX) :=
  zlet (xF X 0 0) fun X1 =>
  (g189 n  X1).bind fun p3 =>
  zlet (xF p3.2 2 0) fun X5 =>
  if (X5.1 73) = (-1) then
    zlet (xF X5 3 (X5.1 4)) fun X8 =>
    zlet (xF X8 4 (1 - (X8.1 4))) fun X10 =>
    zlet (xF X10 85 0) fun X12 =>
    (rd (X12.2.2 9) (X12.1 3)).bind fun x15 =>
    some (x15, X12)
  else
    some (((-1) - (X5.1 73)), X5)
set_option maxRecDepth 20000 in
theorem r188 {n : Nat} {h0 : zH} (hl : Fx h0)  {X : zX} {p : Int32 × zX} (hG : g188 n  X = some p) : f188 n 159 (mq h0 X) = some (p.1, mq h0 p.2) := by
  unfold g188 at hG
  unfold f188
  replace hG := zlet_ex hG
  obtain ⟨X1, e2, hG⟩ := hG
  refine bnd_eq (mpI_0 hl e2) ?_
  refine zgd_eq (m_isO hl) ?_
  replace hG := zbnd hG
  obtain ⟨p3, e4, hG⟩ := hG
  refine bnd_eq (r189 hl e4) ?_
  replace hG := zlet_ex hG
  obtain ⟨X5, e6, hG⟩ := hG
  refine bnd_eq (mpI_2 hl e6) ?_
  refine bnd_eq (mgI_73 hl) ?_
  by_cases c7 : (X5.1 73) = (-1)
  · rw [if_pos c7] at hG
    refine (if_pos c7).trans ?_
    refine bnd_eq (mgI_4 hl) ?_
    replace hG := zlet_ex hG
    obtain ⟨X8, e9, hG⟩ := hG
    refine bnd_eq (mpI_3 hl e9) ?_
    refine bnd_eq (mgI_4 hl) ?_
    replace hG := zlet_ex hG
    obtain ⟨X10, e11, hG⟩ := hG
    refine bnd_eq (mpI_4 hl e11) ?_
    replace hG := zlet_ex hG
    obtain ⟨X12, e13, hG⟩ := hG
    refine bnd_eq (mpI_85 (by decide) hl e13) ?_
    refine bnd_eq (mgR_13 hl) ?_
    refine bnd_eq (mgI_3 hl) ?_
    refine bnd_eq rfl ?_
    replace hG := zbnd hG
    obtain ⟨x15, e16, hG⟩ := hG
    refine bnd_eq (m_aI hl (i := 9) (by decide) rfl e16) ?_
    replace hG := Option.some.inj hG
    subst hG
    rfl
  · rw [if_neg c7] at hG
    refine (if_neg c7).trans ?_
    refine bnd_eq (mgI_73 hl) ?_
    replace hG := Option.some.inj hG
    subst hG
    rfl
def g241 (n : Nat)  (X : zX) : Option (Int32 × zX) :=
  zlet (xF X 0 0) fun X1 =>
  some ((X1.1 64), X1)
set_option maxRecDepth 20000 in
theorem r241 {n : Nat} {h0 : zH} (hl : Fx h0)  {X : zX} {p : Int32 × zX} (hG : g241 n  X = some p) : f241 n 159 (mq h0 X) = some (p.1, mq h0 p.2) := by
  unfold g241 at hG
  unfold f241
  replace hG := zlet_ex hG
  obtain ⟨X1, e2, hG⟩ := hG
  refine bnd_eq (mpI_0 hl e2) ?_
  refine bnd_eq (mgI_64 hl) ?_
  replace hG := Option.some.inj hG
  subst hG
  rfl
def g242 (n : Nat) (y1 : Int32) (X : zX) : Option (Int32 × zX) :=
  (g187 n y1 0 7 X).bind fun p1 =>
  (g185 n p1.1 p1.2).bind fun p3 =>
  if p3.1 = 0 then
    some (0, p3.2)
  else
    if y1 = 0 then
      (rd (p3.2.2.2 4) (p3.2.1 3)).bind fun x8 =>
      some (x8, p3.2)
    else
    if y1 = 1 then
      (rd (p3.2.2.2 9) (p3.2.1 3)).bind fun x12 =>
      some (x12, p3.2)
    else
    if y1 = 2 then
      (rd (p3.2.2.2 25) (p3.2.1 3)).bind fun x16 =>
      some (x16, p3.2)
    else
    if y1 = 3 then
      (rd (p3.2.2.2 28) (p3.2.1 3)).bind fun x20 =>
      some (x20, p3.2)
    else
    if y1 = 4 then
      (rd (p3.2.2.2 35) (p3.2.1 3)).bind fun x24 =>
      some (x24, p3.2)
    else
    if y1 = 5 then
      (rd (p3.2.2.2 42) (p3.2.1 3)).bind fun x28 =>
      some (x28, p3.2)
    else
    if y1 = 6 then
      (rd (p3.2.2.2 49) (p3.2.1 3)).bind fun x32 =>
      some (x32, p3.2)
    else
    some ((p3.2.1 65), p3.2)
set_option maxRecDepth 20000 in
theorem r242 {n : Nat} {h0 : zH} (hl : Fx h0) {y1 : Int32} {X : zX} {p : Int32 × zX} (hG : g242 n y1 X = some p) : f242 n 159 y1 (mq h0 X) = some (p.1, mq h0 p.2) := by
  unfold g242 at hG
  unfold f242
  replace hG := zbnd hG
  obtain ⟨p1, e2, hG⟩ := hG
  refine bnd_eq (r187 hl e2) ?_
  refine zgd_eq (m_isO hl) ?_
  replace hG := zbnd hG
  obtain ⟨p3, e4, hG⟩ := hG
  refine bnd_eq (r185 hl e4) ?_
  by_cases c5 : p3.1 = 0
  · rw [if_pos c5] at hG
    refine (if_pos c5).trans ?_
    replace hG := Option.some.inj hG
    subst hG
    rfl
  · rw [if_neg c5] at hG
    refine (if_neg c5).trans ?_
    by_cases c6 : y1 = 0
    · rw [if_pos c6] at hG
      refine (if_pos c6).trans ?_
      refine bnd_eq (mgR_8 hl) ?_
      refine bnd_eq (mgI_3 hl) ?_
      refine bnd_eq rfl ?_
      replace hG := zbnd hG
      obtain ⟨x8, e9, hG⟩ := hG
      refine bnd_eq (m_aI hl (i := 4) (by decide) rfl e9) ?_
      replace hG := Option.some.inj hG
      subst hG
      rfl
    rw [if_neg c6] at hG
    refine (if_neg c6).trans ?_
    by_cases c10 : y1 = 1
    · rw [if_pos c10] at hG
      refine (if_pos c10).trans ?_
      refine bnd_eq (mgR_13 hl) ?_
      refine bnd_eq (mgI_3 hl) ?_
      refine bnd_eq rfl ?_
      replace hG := zbnd hG
      obtain ⟨x12, e13, hG⟩ := hG
      refine bnd_eq (m_aI hl (i := 9) (by decide) rfl e13) ?_
      replace hG := Option.some.inj hG
      subst hG
      rfl
    rw [if_neg c10] at hG
    refine (if_neg c10).trans ?_
    by_cases c14 : y1 = 2
    · rw [if_pos c14] at hG
      refine (if_pos c14).trans ?_
      refine bnd_eq (mgR_29 hl) ?_
      refine bnd_eq (mgI_3 hl) ?_
      refine bnd_eq rfl ?_
      replace hG := zbnd hG
      obtain ⟨x16, e17, hG⟩ := hG
      refine bnd_eq (m_aI hl (i := 25) (by decide) rfl e17) ?_
      replace hG := Option.some.inj hG
      subst hG
      rfl
    rw [if_neg c14] at hG
    refine (if_neg c14).trans ?_
    by_cases c18 : y1 = 3
    · rw [if_pos c18] at hG
      refine (if_pos c18).trans ?_
      refine bnd_eq (mgR_32 hl) ?_
      refine bnd_eq (mgI_3 hl) ?_
      refine bnd_eq rfl ?_
      replace hG := zbnd hG
      obtain ⟨x20, e21, hG⟩ := hG
      refine bnd_eq (m_aI hl (i := 28) (by decide) rfl e21) ?_
      replace hG := Option.some.inj hG
      subst hG
      rfl
    rw [if_neg c18] at hG
    refine (if_neg c18).trans ?_
    by_cases c22 : y1 = 4
    · rw [if_pos c22] at hG
      refine (if_pos c22).trans ?_
      refine bnd_eq (mgR_39 hl) ?_
      refine bnd_eq (mgI_3 hl) ?_
      refine bnd_eq rfl ?_
      replace hG := zbnd hG
      obtain ⟨x24, e25, hG⟩ := hG
      refine bnd_eq (m_aI hl (i := 35) (by decide) rfl e25) ?_
      replace hG := Option.some.inj hG
      subst hG
      rfl
    rw [if_neg c22] at hG
    refine (if_neg c22).trans ?_
    by_cases c26 : y1 = 5
    · rw [if_pos c26] at hG
      refine (if_pos c26).trans ?_
      refine bnd_eq (mgR_46 hl) ?_
      refine bnd_eq (mgI_3 hl) ?_
      refine bnd_eq rfl ?_
      replace hG := zbnd hG
      obtain ⟨x28, e29, hG⟩ := hG
      refine bnd_eq (m_aI hl (i := 42) (by decide) rfl e29) ?_
      replace hG := Option.some.inj hG
      subst hG
      rfl
    rw [if_neg c26] at hG
    refine (if_neg c26).trans ?_
    by_cases c30 : y1 = 6
    · rw [if_pos c30] at hG
      refine (if_pos c30).trans ?_
      refine bnd_eq (mgR_53 hl) ?_
      refine bnd_eq (mgI_3 hl) ?_
      refine bnd_eq rfl ?_
      replace hG := zbnd hG
      obtain ⟨x32, e33, hG⟩ := hG
      refine bnd_eq (m_aI hl (i := 49) (by decide) rfl e33) ?_
      replace hG := Option.some.inj hG
      subst hG
      rfl
    rw [if_neg c30] at hG
    refine (if_neg c30).trans ?_
    refine bnd_eq (mgI_65 hl) ?_
    replace hG := Option.some.inj hG
    subst hG
    rfl
end ZREF

/-! THE REFERENCE OVER ITS MEMORY, 5 (written by a program of the verifier's) -/
section ZREF
def gb259_76 (n : Nat) (q9 : Int32 → Int32 → Int32 → Int32 → zX → Option (Int32 × zX)) (l1 : Int32) (l2 : Int32) (l3 : Int32) (l4 : Int32) (X : zX) : Option (Int32 × zX) :=
  q9 l1 l2 l3 (l4 + 1) X
set_option maxRecDepth 20000 in
theorem rb259_76 {n : Nat} {h0 : zH} (hl : Fx h0) {q9 : Int32 → Int32 → Int32 → Int32 → zX → Option (Int32 × zX)} {r9 : Nat → Int32 → Int32 → Int32 → Int32 → zH → Option (Int32 × zH)} (hr9 : ∀ {l1 : Int32} {l2 : Int32} {l3 : Int32} {l4 : Int32} {X : zX} {p : Int32 × zX}, q9 l1 l2 l3 l4 X = some p → r9 159 l1 l2 l3 l4 (mq h0 X) = some (p.1, mq h0 p.2)) {l1 : Int32} {l2 : Int32} {l3 : Int32} {l4 : Int32} {X : zX} {p : Int32 × zX} (hG : gb259_76 n q9 l1 l2 l3 l4 X = some p) : b259_76 n r9 159 l1 l2 l3 l4 (mq h0 X) = some (p.1, mq h0 p.2) := by
  unfold gb259_76 at hG
  unfold b259_76
  exact hr9 hG
def gb259_69 (n : Nat) (q9 : Int32 → Int32 → Int32 → Int32 → zX → Option (Int32 × zX)) (l1 : Int32) (l2 : Int32) (l3 : Int32) (l4 : Int32) (s0 : Int32) (X : zX) : Option (Int32 × zX) :=
  if s0 = l3 then
    some (l4, X)
  else
    gb259_76 n q9 l1 l2 l3 l4 X
set_option maxRecDepth 20000 in
theorem rb259_69 {n : Nat} {h0 : zH} (hl : Fx h0) {q9 : Int32 → Int32 → Int32 → Int32 → zX → Option (Int32 × zX)} {r9 : Nat → Int32 → Int32 → Int32 → Int32 → zH → Option (Int32 × zH)} (hr9 : ∀ {l1 : Int32} {l2 : Int32} {l3 : Int32} {l4 : Int32} {X : zX} {p : Int32 × zX}, q9 l1 l2 l3 l4 X = some p → r9 159 l1 l2 l3 l4 (mq h0 X) = some (p.1, mq h0 p.2)) {l1 : Int32} {l2 : Int32} {l3 : Int32} {l4 : Int32} {s0 : Int32} {X : zX} {p : Int32 × zX} (hG : gb259_69 n q9 l1 l2 l3 l4 s0 X = some p) : b259_69 n r9 159 l1 l2 l3 l4 s0 (mq h0 X) = some (p.1, mq h0 p.2) := by
  unfold gb259_69 at hG
  unfold b259_69
  by_cases c1 : s0 = l3
  · rw [if_pos c1] at hG
    refine (if_pos c1).trans ?_
    replace hG := Option.some.inj hG
    subst hG
    rfl
  · rw [if_neg c1] at hG
    refine (if_neg c1).trans ?_
    exact rb259_76 hl hr9 hG
def gb259_9 (n : Nat) (q9 : Int32 → Int32 → Int32 → Int32 → zX → Option (Int32 × zX)) (l1 : Int32) (l2 : Int32) (l3 : Int32) (l4 : Int32) (X : zX) : Option (Int32 × zX) :=
  (rd (X.2.2 35) (X.1 3)).bind fun x2 =>
  if ((40 * (X.1 3)) + x2) ≤ l4 then
    some ((-1), X)
  else
    (rd (X.2.2 37) l4).bind fun x6 =>
    if x6 = l1 then
      (rd (X.2.2 36) l4).bind fun x10 =>
      if x10 = l2 then
        (rd (X.2.2 38) l4).bind fun x14 =>
        if x14 = (-1) then
          gb259_69 n q9 l1 l2 l3 l4 0 X
        else
          gb259_69 n q9 l1 l2 l3 l4 1 X
      else
        gb259_76 n q9 l1 l2 l3 l4 X
    else
      gb259_76 n q9 l1 l2 l3 l4 X
set_option maxRecDepth 20000 in
theorem rb259_9 {n : Nat} {h0 : zH} (hl : Fx h0) {q9 : Int32 → Int32 → Int32 → Int32 → zX → Option (Int32 × zX)} {r9 : Nat → Int32 → Int32 → Int32 → Int32 → zH → Option (Int32 × zH)} (hr9 : ∀ {l1 : Int32} {l2 : Int32} {l3 : Int32} {l4 : Int32} {X : zX} {p : Int32 × zX}, q9 l1 l2 l3 l4 X = some p → r9 159 l1 l2 l3 l4 (mq h0 X) = some (p.1, mq h0 p.2)) {l1 : Int32} {l2 : Int32} {l3 : Int32} {l4 : Int32} {X : zX} {p : Int32 × zX} (hG : gb259_9 n q9 l1 l2 l3 l4 X = some p) : b259_9 n r9 159 l1 l2 l3 l4 (mq h0 X) = some (p.1, mq h0 p.2) := by
  unfold gb259_9 at hG
  unfold b259_9
  refine bnd_eq (mgI_3 hl) ?_
  refine bnd_eq (mgR_39 hl) ?_
  refine bnd_eq (mgI_3 hl) ?_
  refine bnd_eq rfl ?_
  replace hG := zbnd hG
  obtain ⟨x2, e3, hG⟩ := hG
  refine bnd_eq (m_aI hl (i := 35) (by decide) rfl e3) ?_
  by_cases c4 : ((40 * (X.1 3)) + x2) ≤ l4
  · rw [if_pos c4] at hG
    refine (if_pos c4).trans ?_
    replace hG := Option.some.inj hG
    subst hG
    rfl
  · rw [if_neg c4] at hG
    refine (if_neg c4).trans ?_
    refine bnd_eq (mgR_41 hl) ?_
    refine bnd_eq rfl ?_
    replace hG := zbnd hG
    obtain ⟨x6, e7, hG⟩ := hG
    refine bnd_eq (m_aI hl (i := 37) (by decide) rfl e7) ?_
    by_cases c8 : x6 = l1
    · rw [if_pos c8] at hG
      refine (if_pos c8).trans ?_
      refine bnd_eq (mgR_40 hl) ?_
      refine bnd_eq rfl ?_
      replace hG := zbnd hG
      obtain ⟨x10, e11, hG⟩ := hG
      refine bnd_eq (m_aI hl (i := 36) (by decide) rfl e11) ?_
      by_cases c12 : x10 = l2
      · rw [if_pos c12] at hG
        refine (if_pos c12).trans ?_
        refine bnd_eq (mgR_42 hl) ?_
        refine bnd_eq rfl ?_
        replace hG := zbnd hG
        obtain ⟨x14, e15, hG⟩ := hG
        refine bnd_eq (m_aI hl (i := 38) (by decide) rfl e15) ?_
        by_cases c16 : x14 = (-1)
        · rw [if_pos c16] at hG
          refine (if_pos c16).trans ?_
          exact rb259_69 hl hr9 hG
        · rw [if_neg c16] at hG
          refine (if_neg c16).trans ?_
          exact rb259_69 hl hr9 hG
      · rw [if_neg c12] at hG
        refine (if_neg c12).trans ?_
        exact rb259_76 hl hr9 hG
    · rw [if_neg c8] at hG
      refine (if_neg c8).trans ?_
      exact rb259_76 hl hr9 hG
def gf259_9 (n : Nat)  (k : Nat) : Int32 → Int32 → Int32 → Int32 → zX → Option (Int32 × zX) := Nat.rec (fun _ _ _ _ _ => none) (fun _ ih => gb259_9 n ih) k
theorem rf259_9 {n : Nat} {h0 : zH} (hl : Fx h0)   (k : Nat) : ∀ {l1 : Int32} {l2 : Int32} {l3 : Int32} {l4 : Int32} {X : zX} {p : Int32 × zX}, gf259_9 n  k l1 l2 l3 l4 X = some p → f259_9 n  k 159 l1 l2 l3 l4 (mq h0 X) = some (p.1, mq h0 p.2) := by
  induction k with
  | zero => intros; rename_i hG; cases hG
  | succ k ih => intros; rename_i hG; exact rb259_9 (n := n) hl ih hG
def g259 (n : Nat) (y1 : Int32) (y2 : Int32) (y3 : Int32) (X : zX) : Option (Int32 × zX) :=
  gf259_9 n  n y1 y2 y3 (40 * (X.1 3)) X
set_option maxRecDepth 20000 in
theorem r259 {n : Nat} {h0 : zH} (hl : Fx h0) {y1 : Int32} {y2 : Int32} {y3 : Int32} {X : zX} {p : Int32 × zX} (hG : g259 n y1 y2 y3 X = some p) : f259 n 159 y1 y2 y3 (mq h0 X) = some (p.1, mq h0 p.2) := by
  unfold g259 at hG
  unfold f259
  refine bnd_eq (mgI_3 hl) ?_
  exact rf259_9 hl  n hG
def g260 (n : Nat) (y1 : Int32) (y2 : Int32) (y3 : Int32) (y4 : Int32) (X : zX) : Option (Unit × zX) :=
  zlet (xF X 86 y1) fun X1 =>
  zlet (xF X1 87 y2) fun X3 =>
  zlet (xF X3 88 y3) fun X5 =>
  zlet (xF X5 90 y4) fun X7 =>
  zlet (xF X7 89 (-1)) fun X9 =>
  some ((), X9)
set_option maxRecDepth 20000 in
theorem r260 {n : Nat} {h0 : zH} (hl : Fx h0) {y1 : Int32} {y2 : Int32} {y3 : Int32} {y4 : Int32} {X : zX} {p : Unit × zX} (hG : g260 n y1 y2 y3 y4 X = some p) : f260 n 159 y1 y2 y3 y4 (mq h0 X) = some (p.1, mq h0 p.2) := by
  unfold g260 at hG
  unfold f260
  replace hG := zlet_ex hG
  obtain ⟨X1, e2, hG⟩ := hG
  refine bnd_eq (mpI_86 hl e2) ?_
  replace hG := zlet_ex hG
  obtain ⟨X3, e4, hG⟩ := hG
  refine bnd_eq (mpI_87 hl e4) ?_
  replace hG := zlet_ex hG
  obtain ⟨X5, e6, hG⟩ := hG
  refine bnd_eq (mpI_88 hl e6) ?_
  replace hG := zlet_ex hG
  obtain ⟨X7, e8, hG⟩ := hG
  refine bnd_eq (mpI_90 hl e8) ?_
  replace hG := zlet_ex hG
  obtain ⟨X9, e10, hG⟩ := hG
  refine bnd_eq (mpI_89 hl e10) ?_
  replace hG := Option.some.inj hG
  subst hG
  rfl
def gb261_78 (n : Nat) (q2 : Int32 → Int32 → Int32 → zX → Option (Int32 × zX)) (l1 : Int32) (l2 : Int32) (l3 : Int32) (l4 : Int32) (X : zX) : Option (Int32 × zX) :=
  q2 l1 l2 (l3 + 1) X
set_option maxRecDepth 20000 in
theorem rb261_78 {n : Nat} {h0 : zH} (hl : Fx h0) {q2 : Int32 → Int32 → Int32 → zX → Option (Int32 × zX)} {r2 : Nat → Int32 → Int32 → Int32 → zH → Option (Int32 × zH)} (hr2 : ∀ {l1 : Int32} {l2 : Int32} {l3 : Int32} {X : zX} {p : Int32 × zX}, q2 l1 l2 l3 X = some p → r2 159 l1 l2 l3 (mq h0 X) = some (p.1, mq h0 p.2)) {l1 : Int32} {l2 : Int32} {l3 : Int32} {l4 : Int32} {X : zX} {p : Int32 × zX} (hG : gb261_78 n q2 l1 l2 l3 l4 X = some p) : b261_78 n r2 159 l1 l2 l3 l4 (mq h0 X) = some (p.1, mq h0 p.2) := by
  unfold gb261_78 at hG
  unfold b261_78
  exact hr2 hG
def gb261_2 (n : Nat) (q2 : Int32 → Int32 → Int32 → zX → Option (Int32 × zX)) (l1 : Int32) (l2 : Int32) (l3 : Int32) (X : zX) : Option (Int32 × zX) :=
  (rd (X.2.2 28) (X.1 3)).bind fun x2 =>
  if x2 ≤ l3 then
    some ((-1), X)
  else
    (rd (X.2.2 29) ((100 * (X.1 3)) + l3)).bind fun x6 =>
    if x6 = l1 then
      (rd (X.2.2 30) ((100 * (X.1 3)) + l3)).bind fun x10 =>
      if x10 = l2 then
        (rd (X.2.2 31) ((100 * (X.1 3)) + l3)).bind fun x14 =>
        (rd (X.2.2 32) ((100 * (X.1 3)) + l3)).bind fun x17 =>
        (rd (X.2.2 33) ((100 * (X.1 3)) + l3)).bind fun x20 =>
        (g252 n x14 x17 x20 X).bind fun p22 =>
        if p22.1 = 0 then
          gb261_78 n q2 l1 l2 l3 ((100 * (X.1 3)) + l3) p22.2
        else
          some (l3, p22.2)
      else
        gb261_78 n q2 l1 l2 l3 ((100 * (X.1 3)) + l3) X
    else
      gb261_78 n q2 l1 l2 l3 ((100 * (X.1 3)) + l3) X
set_option maxRecDepth 20000 in
theorem rb261_2 {n : Nat} {h0 : zH} (hl : Fx h0) {q2 : Int32 → Int32 → Int32 → zX → Option (Int32 × zX)} {r2 : Nat → Int32 → Int32 → Int32 → zH → Option (Int32 × zH)} (hr2 : ∀ {l1 : Int32} {l2 : Int32} {l3 : Int32} {X : zX} {p : Int32 × zX}, q2 l1 l2 l3 X = some p → r2 159 l1 l2 l3 (mq h0 X) = some (p.1, mq h0 p.2)) {l1 : Int32} {l2 : Int32} {l3 : Int32} {X : zX} {p : Int32 × zX} (hG : gb261_2 n q2 l1 l2 l3 X = some p) : b261_2 n r2 159 l1 l2 l3 (mq h0 X) = some (p.1, mq h0 p.2) := by
  unfold gb261_2 at hG
  unfold b261_2
  refine bnd_eq (mgR_32 hl) ?_
  refine bnd_eq (mgI_3 hl) ?_
  refine bnd_eq rfl ?_
  replace hG := zbnd hG
  obtain ⟨x2, e3, hG⟩ := hG
  refine bnd_eq (m_aI hl (i := 28) (by decide) rfl e3) ?_
  by_cases c4 : x2 ≤ l3
  · rw [if_pos c4] at hG
    refine (if_pos c4).trans ?_
    replace hG := Option.some.inj hG
    subst hG
    rfl
  · rw [if_neg c4] at hG
    refine (if_neg c4).trans ?_
    refine bnd_eq (mgI_3 hl) ?_
    refine bnd_eq (mgR_33 hl) ?_
    refine bnd_eq rfl ?_
    replace hG := zbnd hG
    obtain ⟨x6, e7, hG⟩ := hG
    refine bnd_eq (m_aI hl (i := 29) (by decide) rfl e7) ?_
    by_cases c8 : x6 = l1
    · rw [if_pos c8] at hG
      refine (if_pos c8).trans ?_
      refine bnd_eq (mgR_34 hl) ?_
      refine bnd_eq rfl ?_
      replace hG := zbnd hG
      obtain ⟨x10, e11, hG⟩ := hG
      refine bnd_eq (m_aI hl (i := 30) (by decide) rfl e11) ?_
      by_cases c12 : x10 = l2
      · rw [if_pos c12] at hG
        refine (if_pos c12).trans ?_
        refine bnd_eq (mgR_35 hl) ?_
        refine bnd_eq rfl ?_
        replace hG := zbnd hG
        obtain ⟨x14, e15, hG⟩ := hG
        refine bnd_eq (m_aI hl (i := 31) (by decide) rfl e15) ?_
        refine bnd_eq (mgR_36 hl) ?_
        refine bnd_eq rfl ?_
        replace hG := zbnd hG
        obtain ⟨x17, e18, hG⟩ := hG
        refine bnd_eq (m_aI hl (i := 32) (by decide) rfl e18) ?_
        refine bnd_eq (mgR_37 hl) ?_
        refine bnd_eq rfl ?_
        replace hG := zbnd hG
        obtain ⟨x20, e21, hG⟩ := hG
        refine bnd_eq (m_aI hl (i := 33) (by decide) rfl e21) ?_
        refine zgd_eq (m_isO hl) ?_
        replace hG := zbnd hG
        obtain ⟨p22, e23, hG⟩ := hG
        refine bnd_eq (r252 hl e23) ?_
        by_cases c24 : p22.1 = 0
        · rw [if_pos c24] at hG
          refine (if_pos c24).trans ?_
          exact rb261_78 hl hr2 hG
        · rw [if_neg c24] at hG
          refine (if_neg c24).trans ?_
          replace hG := Option.some.inj hG
          subst hG
          rfl
      · rw [if_neg c12] at hG
        refine (if_neg c12).trans ?_
        exact rb261_78 hl hr2 hG
    · rw [if_neg c8] at hG
      refine (if_neg c8).trans ?_
      exact rb261_78 hl hr2 hG
def gf261_2 (n : Nat)  (k : Nat) : Int32 → Int32 → Int32 → zX → Option (Int32 × zX) := Nat.rec (fun _ _ _ _ => none) (fun _ ih => gb261_2 n ih) k
theorem rf261_2 {n : Nat} {h0 : zH} (hl : Fx h0)   (k : Nat) : ∀ {l1 : Int32} {l2 : Int32} {l3 : Int32} {X : zX} {p : Int32 × zX}, gf261_2 n  k l1 l2 l3 X = some p → f261_2 n  k 159 l1 l2 l3 (mq h0 X) = some (p.1, mq h0 p.2) := by
  induction k with
  | zero => intros; rename_i hG; cases hG
  | succ k ih => intros; rename_i hG; exact rb261_2 (n := n) hl ih hG
def g261 (n : Nat) (y1 : Int32) (y2 : Int32) (X : zX) : Option (Int32 × zX) :=
  gf261_2 n  n y1 y2 0 X
set_option maxRecDepth 20000 in
theorem r261 {n : Nat} {h0 : zH} (hl : Fx h0) {y1 : Int32} {y2 : Int32} {X : zX} {p : Int32 × zX} (hG : g261 n y1 y2 X = some p) : f261 n 159 y1 y2 (mq h0 X) = some (p.1, mq h0 p.2) := by
  unfold g261 at hG
  unfold f261
  exact rf261_2 hl  n hG
def g264 (n : Nat) (y1 : Int32) (X : zX) : Option (Unit × zX) :=
  zlet (xH X ((X.2.1 ^^^ y1.toInt64) * (1099511628211))) fun X1 =>
  some ((), X1)
set_option maxRecDepth 20000 in
theorem r264 {n : Nat} {h0 : zH} (hl : Fx h0) {y1 : Int32} {X : zX} {p : Unit × zX} (hG : g264 n y1 X = some p) : f264 n 159 y1 (mq h0 X) = some (p.1, mq h0 p.2) := by
  unfold g264 at hG
  unfold f264
  refine bnd_eq (mgJ_84 hl) ?_
  replace hG := zlet_ex hG
  obtain ⟨X1, e2, hG⟩ := hG
  refine bnd_eq (mpJ_84 hl e2) ?_
  replace hG := Option.some.inj hG
  subst hG
  rfl
def gb265_39 (n : Nat) (q39 : Int32 → Int32 → Int32 → zX → Option (Unit × zX)) (l1 : Int32) (l2 : Int32) (l3 : Int32) (X : zX) : Option (Unit × zX) :=
  if l3 ≤ 0 then
    some ((), X)
  else
    zgd (!decide (l3 = 0)) <|
    (g264 n (48 + ((l2 / l3) - (l2 / l3) / 10 * 10)) X).bind fun p3 =>
    q39 l1 l2 (l3 / 10) p3.2
set_option maxRecDepth 20000 in
theorem rb265_39 {n : Nat} {h0 : zH} (hl : Fx h0) {q39 : Int32 → Int32 → Int32 → zX → Option (Unit × zX)} {r39 : Nat → Int32 → Int32 → Int32 → zH → Option (Unit × zH)} (hr39 : ∀ {l1 : Int32} {l2 : Int32} {l3 : Int32} {X : zX} {p : Unit × zX}, q39 l1 l2 l3 X = some p → r39 159 l1 l2 l3 (mq h0 X) = some (p.1, mq h0 p.2)) {l1 : Int32} {l2 : Int32} {l3 : Int32} {X : zX} {p : Unit × zX} (hG : gb265_39 n q39 l1 l2 l3 X = some p) : b265_39 n r39 159 l1 l2 l3 (mq h0 X) = some (p.1, mq h0 p.2) := by
  unfold gb265_39 at hG
  unfold b265_39
  by_cases c1 : l3 ≤ 0
  · rw [if_pos c1] at hG
    refine (if_pos c1).trans ?_
    replace hG := Option.some.inj hG
    subst hG
    rfl
  · rw [if_neg c1] at hG
    refine (if_neg c1).trans ?_
    replace hG := zgd_some hG
    obtain ⟨g2, hG⟩ := hG
    refine zgd_eq g2 ?_
    refine zgd_eq (m_isO hl) ?_
    replace hG := zbnd hG
    obtain ⟨p3, e4, hG⟩ := hG
    refine bnd_eq (r264 hl e4) ?_
    exact hr39 hG
def gf265_39 (n : Nat)  (k : Nat) : Int32 → Int32 → Int32 → zX → Option (Unit × zX) := Nat.rec (fun _ _ _ _ => none) (fun _ ih => gb265_39 n ih) k
theorem rf265_39 {n : Nat} {h0 : zH} (hl : Fx h0)   (k : Nat) : ∀ {l1 : Int32} {l2 : Int32} {l3 : Int32} {X : zX} {p : Unit × zX}, gf265_39 n  k l1 l2 l3 X = some p → f265_39 n  k 159 l1 l2 l3 (mq h0 X) = some (p.1, mq h0 p.2) := by
  induction k with
  | zero => intros; rename_i hG; cases hG
  | succ k ih => intros; rename_i hG; exact rb265_39 (n := n) hl ih hG
def gb265_23 (n : Nat) (q23 : Int32 → Int32 → Int32 → zX → Option (Unit × zX)) (l1 : Int32) (l2 : Int32) (l3 : Int32) (X : zX) : Option (Unit × zX) :=
  zgd (!decide (l3 = 0)) <|
  if (l2 / l3) < 10 then
    gf265_39 n  n l1 l2 l3 X
  else
    q23 l1 l2 (10 * l3) X
set_option maxRecDepth 20000 in
theorem rb265_23 {n : Nat} {h0 : zH} (hl : Fx h0) {q23 : Int32 → Int32 → Int32 → zX → Option (Unit × zX)} {r23 : Nat → Int32 → Int32 → Int32 → zH → Option (Unit × zH)} (hr23 : ∀ {l1 : Int32} {l2 : Int32} {l3 : Int32} {X : zX} {p : Unit × zX}, q23 l1 l2 l3 X = some p → r23 159 l1 l2 l3 (mq h0 X) = some (p.1, mq h0 p.2)) {l1 : Int32} {l2 : Int32} {l3 : Int32} {X : zX} {p : Unit × zX} (hG : gb265_23 n q23 l1 l2 l3 X = some p) : b265_23 n r23 159 l1 l2 l3 (mq h0 X) = some (p.1, mq h0 p.2) := by
  unfold gb265_23 at hG
  unfold b265_23
  replace hG := zgd_some hG
  obtain ⟨g1, hG⟩ := hG
  refine zgd_eq g1 ?_
  by_cases c2 : (l2 / l3) < 10
  · rw [if_pos c2] at hG
    refine (if_pos c2).trans ?_
    exact rf265_39 hl  n hG
  · rw [if_neg c2] at hG
    refine (if_neg c2).trans ?_
    exact hr23 hG
def gf265_23 (n : Nat)  (k : Nat) : Int32 → Int32 → Int32 → zX → Option (Unit × zX) := Nat.rec (fun _ _ _ _ => none) (fun _ ih => gb265_23 n ih) k
theorem rf265_23 {n : Nat} {h0 : zH} (hl : Fx h0)   (k : Nat) : ∀ {l1 : Int32} {l2 : Int32} {l3 : Int32} {X : zX} {p : Unit × zX}, gf265_23 n  k l1 l2 l3 X = some p → f265_23 n  k 159 l1 l2 l3 (mq h0 X) = some (p.1, mq h0 p.2) := by
  induction k with
  | zero => intros; rename_i hG; cases hG
  | succ k ih => intros; rename_i hG; exact rb265_23 (n := n) hl ih hG
def gb265_20 (n : Nat)  (l1 : Int32) (s0 : Int32) (X : zX) : Option (Unit × zX) :=
  gf265_23 n  n l1 s0 1 X
set_option maxRecDepth 20000 in
theorem rb265_20 {n : Nat} {h0 : zH} (hl : Fx h0)   {l1 : Int32} {s0 : Int32} {X : zX} {p : Unit × zX} (hG : gb265_20 n  l1 s0 X = some p) : b265_20 n  159 l1 s0 (mq h0 X) = some (p.1, mq h0 p.2) := by
  unfold gb265_20 at hG
  unfold b265_20
  exact rf265_23 hl  n hG
def gb265_10 (n : Nat)  (l1 : Int32) (X : zX) : Option (Unit × zX) :=
  if (0 : Int32) ≤ l1 then
    gb265_20 n  l1 l1 X
  else
    gb265_20 n  l1 (-l1) X
set_option maxRecDepth 20000 in
theorem rb265_10 {n : Nat} {h0 : zH} (hl : Fx h0)   {l1 : Int32} {X : zX} {p : Unit × zX} (hG : gb265_10 n  l1 X = some p) : b265_10 n  159 l1 (mq h0 X) = some (p.1, mq h0 p.2) := by
  unfold gb265_10 at hG
  unfold b265_10
  by_cases c1 : (0 : Int32) ≤ l1
  · rw [if_pos c1] at hG
    refine (if_pos c1).trans ?_
    exact rb265_20 hl  hG
  · rw [if_neg c1] at hG
    refine (if_neg c1).trans ?_
    exact rb265_20 hl  hG
def g265 (n : Nat) (y1 : Int32) (X : zX) : Option (Unit × zX) :=
  if (0 : Int32) ≤ y1 then
    gb265_10 n  y1 X
  else
    (g264 n 45 X).bind fun p2 =>
    gb265_10 n  y1 p2.2
set_option maxRecDepth 20000 in
theorem r265 {n : Nat} {h0 : zH} (hl : Fx h0) {y1 : Int32} {X : zX} {p : Unit × zX} (hG : g265 n y1 X = some p) : f265 n 159 y1 (mq h0 X) = some (p.1, mq h0 p.2) := by
  unfold g265 at hG
  unfold f265
  by_cases c1 : (0 : Int32) ≤ y1
  · rw [if_pos c1] at hG
    refine (if_pos c1).trans ?_
    exact rb265_10 hl  hG
  · rw [if_neg c1] at hG
    refine (if_neg c1).trans ?_
    refine zgd_eq (m_isO hl) ?_
    replace hG := zbnd hG
    obtain ⟨p2, e3, hG⟩ := hG
    refine bnd_eq (r264 hl e3) ?_
    exact rb265_10 hl  hG
def gb263_108 (n : Nat)  (l1 : Int32) (l2 : Int32) (l3 : Int32) (X : zX) : Option (Int32 × zX) :=
  some (((((2) * (((X.2.1 ^^^ (X.2.1.toUInt64 >>> ((32 : Int32).toInt64.toUInt64 &&& Int64.toUInt64 63)).toInt64).toUInt64 >>> ((1 : Int32).toInt64.toUInt64 &&& Int64.toUInt64 63)).toInt64 - ((X.2.1 ^^^ (X.2.1.toUInt64 >>> ((32 : Int32).toInt64.toUInt64 &&& Int64.toUInt64 63)).toInt64).toUInt64 >>> ((1 : Int32).toInt64.toUInt64 &&& Int64.toUInt64 63)).toInt64 / (10000) * (10000))) + ((X.2.1 ^^^ (X.2.1.toUInt64 >>> ((32 : Int32).toInt64.toUInt64 &&& Int64.toUInt64 63)).toInt64) &&& 1)) - (((2) * (((X.2.1 ^^^ (X.2.1.toUInt64 >>> ((32 : Int32).toInt64.toUInt64 &&& Int64.toUInt64 63)).toInt64).toUInt64 >>> ((1 : Int32).toInt64.toUInt64 &&& Int64.toUInt64 63)).toInt64 - ((X.2.1 ^^^ (X.2.1.toUInt64 >>> ((32 : Int32).toInt64.toUInt64 &&& Int64.toUInt64 63)).toInt64).toUInt64 >>> ((1 : Int32).toInt64.toUInt64 &&& Int64.toUInt64 63)).toInt64 / (10000) * (10000))) + ((X.2.1 ^^^ (X.2.1.toUInt64 >>> ((32 : Int32).toInt64.toUInt64 &&& Int64.toUInt64 63)).toInt64) &&& 1)) / (10000) * (10000)).toInt32, X)
set_option maxRecDepth 20000 in
theorem rb263_108 {n : Nat} {h0 : zH} (hl : Fx h0)   {l1 : Int32} {l2 : Int32} {l3 : Int32} {X : zX} {p : Int32 × zX} (hG : gb263_108 n  l1 l2 l3 X = some p) : b263_108 n  159 l1 l2 l3 (mq h0 X) = some (p.1, mq h0 p.2) := by
  unfold gb263_108 at hG
  unfold b263_108
  refine bnd_eq (mgJ_84 hl) ?_
  refine bnd_eq (mgJ_84 hl) ?_
  replace hG := Option.some.inj hG
  subst hG
  rfl
def gb263_56 (n : Nat) (q56 : Int32 → Int32 → Int32 → zX → Option (Int32 × zX)) (l1 : Int32) (l2 : Int32) (l3 : Int32) (X : zX) : Option (Int32 × zX) :=
  (rd (X.2.2 2) (3008 + l2)).bind fun x2 =>
  if x2 ≤ l3 then
    gb263_108 n  l1 l2 l3 X
  else
    (rd (X.2.2 3) ((16 * (3008 + l2)) + l3)).bind fun x6 =>
    (g264 n x6 X).bind fun p8 =>
    q56 l1 l2 (l3 + 1) p8.2
set_option maxRecDepth 20000 in
theorem rb263_56 {n : Nat} {h0 : zH} (hl : Fx h0) {q56 : Int32 → Int32 → Int32 → zX → Option (Int32 × zX)} {r56 : Nat → Int32 → Int32 → Int32 → zH → Option (Int32 × zH)} (hr56 : ∀ {l1 : Int32} {l2 : Int32} {l3 : Int32} {X : zX} {p : Int32 × zX}, q56 l1 l2 l3 X = some p → r56 159 l1 l2 l3 (mq h0 X) = some (p.1, mq h0 p.2)) {l1 : Int32} {l2 : Int32} {l3 : Int32} {X : zX} {p : Int32 × zX} (hG : gb263_56 n q56 l1 l2 l3 X = some p) : b263_56 n r56 159 l1 l2 l3 (mq h0 X) = some (p.1, mq h0 p.2) := by
  unfold gb263_56 at hG
  unfold b263_56
  refine bnd_eq (mgR_6 hl) ?_
  refine bnd_eq rfl ?_
  replace hG := zbnd hG
  obtain ⟨x2, e3, hG⟩ := hG
  refine bnd_eq (m_aI hl (i := 2) (by decide) rfl e3) ?_
  by_cases c4 : x2 ≤ l3
  · rw [if_pos c4] at hG
    refine (if_pos c4).trans ?_
    exact rb263_108 hl  hG
  · rw [if_neg c4] at hG
    refine (if_neg c4).trans ?_
    refine bnd_eq (mgR_7 hl) ?_
    refine bnd_eq rfl ?_
    replace hG := zbnd hG
    obtain ⟨x6, e7, hG⟩ := hG
    refine bnd_eq (m_aB hl (i := 3) (by decide) rfl e7) ?_
    refine zgd_eq (m_isO hl) ?_
    replace hG := zbnd hG
    obtain ⟨p8, e9, hG⟩ := hG
    refine bnd_eq (r264 hl e9) ?_
    exact hr56 hG
def gf263_56 (n : Nat)  (k : Nat) : Int32 → Int32 → Int32 → zX → Option (Int32 × zX) := Nat.rec (fun _ _ _ _ => none) (fun _ ih => gb263_56 n ih) k
theorem rf263_56 {n : Nat} {h0 : zH} (hl : Fx h0)   (k : Nat) : ∀ {l1 : Int32} {l2 : Int32} {l3 : Int32} {X : zX} {p : Int32 × zX}, gf263_56 n  k l1 l2 l3 X = some p → f263_56 n  k 159 l1 l2 l3 (mq h0 X) = some (p.1, mq h0 p.2) := by
  induction k with
  | zero => intros; rename_i hG; cases hG
  | succ k ih => intros; rename_i hG; exact rb263_56 (n := n) hl ih hG
def gb263_9 (n : Nat) (q9 : Int32 → Int32 → Int32 → zX → Option (Int32 × zX)) (l1 : Int32) (l2 : Int32) (l3 : Int32) (X : zX) : Option (Int32 × zX) :=
  (rd (X.2.2 2) l1).bind fun x2 =>
  if x2 ≤ l3 then
    (g264 n 0 X).bind fun p5 =>
    (rd (p5.2.2.2 60) l2).bind fun x8 =>
    if x8 = 0 then
      (rd (p5.2.2.2 61) l2).bind fun x12 =>
      (g265 n x12 p5.2).bind fun p14 =>
      gb263_108 n  l1 l2 l3 p14.2
    else
      gf263_56 n  n l1 l2 0 p5.2
  else
    (rd (X.2.2 3) ((16 * l1) + l3)).bind fun x17 =>
    (g264 n x17 X).bind fun p19 =>
    q9 l1 l2 (l3 + 1) p19.2
set_option maxRecDepth 20000 in
theorem rb263_9 {n : Nat} {h0 : zH} (hl : Fx h0) {q9 : Int32 → Int32 → Int32 → zX → Option (Int32 × zX)} {r9 : Nat → Int32 → Int32 → Int32 → zH → Option (Int32 × zH)} (hr9 : ∀ {l1 : Int32} {l2 : Int32} {l3 : Int32} {X : zX} {p : Int32 × zX}, q9 l1 l2 l3 X = some p → r9 159 l1 l2 l3 (mq h0 X) = some (p.1, mq h0 p.2)) {l1 : Int32} {l2 : Int32} {l3 : Int32} {X : zX} {p : Int32 × zX} (hG : gb263_9 n q9 l1 l2 l3 X = some p) : b263_9 n r9 159 l1 l2 l3 (mq h0 X) = some (p.1, mq h0 p.2) := by
  unfold gb263_9 at hG
  unfold b263_9
  refine bnd_eq (mgR_6 hl) ?_
  refine bnd_eq rfl ?_
  replace hG := zbnd hG
  obtain ⟨x2, e3, hG⟩ := hG
  refine bnd_eq (m_aI hl (i := 2) (by decide) rfl e3) ?_
  by_cases c4 : x2 ≤ l3
  · rw [if_pos c4] at hG
    refine (if_pos c4).trans ?_
    refine zgd_eq (m_isO hl) ?_
    replace hG := zbnd hG
    obtain ⟨p5, e6, hG⟩ := hG
    refine bnd_eq (r264 hl e6) ?_
    refine bnd_eq (mgR_66 hl) ?_
    refine bnd_eq rfl ?_
    replace hG := zbnd hG
    obtain ⟨x8, e9, hG⟩ := hG
    refine bnd_eq (m_aB hl (i := 60) (by decide) rfl e9) ?_
    by_cases c10 : x8 = 0
    · rw [if_pos c10] at hG
      refine (if_pos c10).trans ?_
      refine bnd_eq (mgR_67 hl) ?_
      refine bnd_eq rfl ?_
      replace hG := zbnd hG
      obtain ⟨x12, e13, hG⟩ := hG
      refine bnd_eq (m_aI hl (i := 61) (by decide) rfl e13) ?_
      refine zgd_eq (m_isO hl) ?_
      replace hG := zbnd hG
      obtain ⟨p14, e15, hG⟩ := hG
      refine bnd_eq (r265 hl e15) ?_
      exact rb263_108 hl  hG
    · rw [if_neg c10] at hG
      refine (if_neg c10).trans ?_
      exact rf263_56 hl  n hG
  · rw [if_neg c4] at hG
    refine (if_neg c4).trans ?_
    refine bnd_eq (mgR_7 hl) ?_
    refine bnd_eq rfl ?_
    replace hG := zbnd hG
    obtain ⟨x17, e18, hG⟩ := hG
    refine bnd_eq (m_aB hl (i := 3) (by decide) rfl e18) ?_
    refine zgd_eq (m_isO hl) ?_
    replace hG := zbnd hG
    obtain ⟨p19, e20, hG⟩ := hG
    refine bnd_eq (r264 hl e20) ?_
    exact hr9 hG
def gf263_9 (n : Nat)  (k : Nat) : Int32 → Int32 → Int32 → zX → Option (Int32 × zX) := Nat.rec (fun _ _ _ _ => none) (fun _ ih => gb263_9 n ih) k
theorem rf263_9 {n : Nat} {h0 : zH} (hl : Fx h0)   (k : Nat) : ∀ {l1 : Int32} {l2 : Int32} {l3 : Int32} {X : zX} {p : Int32 × zX}, gf263_9 n  k l1 l2 l3 X = some p → f263_9 n  k 159 l1 l2 l3 (mq h0 X) = some (p.1, mq h0 p.2) := by
  induction k with
  | zero => intros; rename_i hG; cases hG
  | succ k ih => intros; rename_i hG; exact rb263_9 (n := n) hl ih hG
def g263 (n : Nat) (y1 : Int32) (y2 : Int32) (X : zX) : Option (Int32 × zX) :=
  zlet (xH X (-3750763034362895579)) fun X1 =>
  gf263_9 n  n y1 y2 0 X1
set_option maxRecDepth 20000 in
theorem r263 {n : Nat} {h0 : zH} (hl : Fx h0) {y1 : Int32} {y2 : Int32} {X : zX} {p : Int32 × zX} (hG : g263 n y1 y2 X = some p) : f263 n 159 y1 y2 (mq h0 X) = some (p.1, mq h0 p.2) := by
  unfold g263 at hG
  unfold f263
  replace hG := zlet_ex hG
  obtain ⟨X1, e2, hG⟩ := hG
  refine bnd_eq (mpJ_84 hl e2) ?_
  exact rf263_9 hl  n hG
def gb262_109 (n : Nat) (q109 : Int32 → Int32 → Int32 → Int32 → Int32 → Int32 → Int32 → zX → Option (Int32 × zX)) (l1 : Int32) (l2 : Int32) (l3 : Int32) (l4 : Int32) (l5 : Int32) (l6 : Int32) (l7 : Int32) (X : zX) : Option (Int32 × zX) :=
  if l5 < l7 then
    (rd (X.2.2 48) l5).bind fun x3 =>
    some (x3, X)
  else
    (rd (X.2.2 47) l7).bind fun x6 =>
    if (l6 + x6) ≤ (X.1 89) then
      q109 l1 l2 l3 l4 l5 (l6 + x6) (l7 + 1) X
    else
      (rd (X.2.2 48) l7).bind fun x10 =>
      some (x10, X)
set_option maxRecDepth 20000 in
theorem rb262_109 {n : Nat} {h0 : zH} (hl : Fx h0) {q109 : Int32 → Int32 → Int32 → Int32 → Int32 → Int32 → Int32 → zX → Option (Int32 × zX)} {r109 : Nat → Int32 → Int32 → Int32 → Int32 → Int32 → Int32 → Int32 → zH → Option (Int32 × zH)} (hr109 : ∀ {l1 : Int32} {l2 : Int32} {l3 : Int32} {l4 : Int32} {l5 : Int32} {l6 : Int32} {l7 : Int32} {X : zX} {p : Int32 × zX}, q109 l1 l2 l3 l4 l5 l6 l7 X = some p → r109 159 l1 l2 l3 l4 l5 l6 l7 (mq h0 X) = some (p.1, mq h0 p.2)) {l1 : Int32} {l2 : Int32} {l3 : Int32} {l4 : Int32} {l5 : Int32} {l6 : Int32} {l7 : Int32} {X : zX} {p : Int32 × zX} (hG : gb262_109 n q109 l1 l2 l3 l4 l5 l6 l7 X = some p) : b262_109 n r109 159 l1 l2 l3 l4 l5 l6 l7 (mq h0 X) = some (p.1, mq h0 p.2) := by
  unfold gb262_109 at hG
  unfold b262_109
  by_cases c1 : l5 < l7
  · rw [if_pos c1] at hG
    refine (if_pos c1).trans ?_
    refine bnd_eq (mgR_52 hl) ?_
    refine bnd_eq rfl ?_
    replace hG := zbnd hG
    obtain ⟨x3, e4, hG⟩ := hG
    refine bnd_eq (m_aI hl (i := 48) (by decide) rfl e4) ?_
    replace hG := Option.some.inj hG
    subst hG
    rfl
  · rw [if_neg c1] at hG
    refine (if_neg c1).trans ?_
    refine bnd_eq (mgR_51 hl) ?_
    refine bnd_eq rfl ?_
    replace hG := zbnd hG
    obtain ⟨x6, e7, hG⟩ := hG
    refine bnd_eq (m_aI hl (i := 47) (by decide) rfl e7) ?_
    refine bnd_eq (mgI_89 hl) ?_
    by_cases c8 : (l6 + x6) ≤ (X.1 89)
    · rw [if_pos c8] at hG
      refine (if_pos c8).trans ?_
      exact hr109 hG
    · rw [if_neg c8] at hG
      refine (if_neg c8).trans ?_
      refine bnd_eq (mgR_52 hl) ?_
      refine bnd_eq rfl ?_
      replace hG := zbnd hG
      obtain ⟨x10, e11, hG⟩ := hG
      refine bnd_eq (m_aI hl (i := 48) (by decide) rfl e11) ?_
      replace hG := Option.some.inj hG
      subst hG
      rfl
def gf262_109 (n : Nat)  (k : Nat) : Int32 → Int32 → Int32 → Int32 → Int32 → Int32 → Int32 → zX → Option (Int32 × zX) := Nat.rec (fun _ _ _ _ _ _ _ _ => none) (fun _ ih => gb262_109 n ih) k
theorem rf262_109 {n : Nat} {h0 : zH} (hl : Fx h0)   (k : Nat) : ∀ {l1 : Int32} {l2 : Int32} {l3 : Int32} {l4 : Int32} {l5 : Int32} {l6 : Int32} {l7 : Int32} {X : zX} {p : Int32 × zX}, gf262_109 n  k l1 l2 l3 l4 l5 l6 l7 X = some p → f262_109 n  k 159 l1 l2 l3 l4 l5 l6 l7 (mq h0 X) = some (p.1, mq h0 p.2) := by
  induction k with
  | zero => intros; rename_i hG; cases hG
  | succ k ih => intros; rename_i hG; exact rb262_109 (n := n) hl ih hG
def g262 (n : Nat) (y1 : Int32) (X : zX) : Option (Int32 × zX) :=
  (rd (X.2.2 40) ((240 * (X.1 3)) + y1)).bind fun x2 =>
  if x2 = (-1) then
    (rd (X.2.2 41) ((240 * (X.1 3)) + y1)).bind fun x6 =>
    some (x6, X)
  else
    (rd (X.2.2 40) ((240 * (X.1 3)) + y1)).bind fun x9 =>
    (rd (X.2.2 44) ((100 * (X.1 3)) + x9)).bind fun x12 =>
    (g254 n x12 X).bind fun p14 =>
    (rd (p14.2.2.2 46) ((100 * (X.1 3)) + x9)).bind fun x17 =>
    if p14.1 = (-1) then
      (rd (p14.2.2.2 48) (((8 * ((100 * (X.1 3)) + x9)) + x17) - 1)).bind fun x21 =>
      some (x21, p14.2)
    else
      (rd (p14.2.2.2 45) ((100 * (X.1 3)) + x9)).bind fun x24 =>
      (g263 n x24 p14.1 p14.2).bind fun p26 =>
      zlet (xF p26.2 89 p26.1) fun X28 =>
      gf262_109 n  n y1 ((240 * (X.1 3)) + y1) ((100 * (X.1 3)) + x9) p14.1 (((8 * ((100 * (X.1 3)) + x9)) + x17) - 1) 0 (8 * ((100 * (X.1 3)) + x9)) X28
set_option maxRecDepth 20000 in
theorem r262 {n : Nat} {h0 : zH} (hl : Fx h0) {y1 : Int32} {X : zX} {p : Int32 × zX} (hG : g262 n y1 X = some p) : f262 n 159 y1 (mq h0 X) = some (p.1, mq h0 p.2) := by
  unfold g262 at hG
  unfold f262
  refine bnd_eq (mgI_3 hl) ?_
  refine bnd_eq (mgR_44 hl) ?_
  refine bnd_eq rfl ?_
  replace hG := zbnd hG
  obtain ⟨x2, e3, hG⟩ := hG
  refine bnd_eq (m_aI hl (i := 40) (by decide) rfl e3) ?_
  by_cases c4 : x2 = (-1)
  · rw [if_pos c4] at hG
    refine (if_pos c4).trans ?_
    refine bnd_eq (mgR_45 hl) ?_
    refine bnd_eq rfl ?_
    replace hG := zbnd hG
    obtain ⟨x6, e7, hG⟩ := hG
    refine bnd_eq (m_aI hl (i := 41) (by decide) rfl e7) ?_
    replace hG := Option.some.inj hG
    subst hG
    rfl
  · rw [if_neg c4] at hG
    refine (if_neg c4).trans ?_
    refine bnd_eq (mgI_3 hl) ?_
    refine bnd_eq (mgR_44 hl) ?_
    refine bnd_eq rfl ?_
    replace hG := zbnd hG
    obtain ⟨x9, e10, hG⟩ := hG
    refine bnd_eq (m_aI hl (i := 40) (by decide) rfl e10) ?_
    refine bnd_eq (mgR_48 hl) ?_
    refine bnd_eq rfl ?_
    replace hG := zbnd hG
    obtain ⟨x12, e13, hG⟩ := hG
    refine bnd_eq (m_aI hl (i := 44) (by decide) rfl e13) ?_
    refine zgd_eq (m_isO hl) ?_
    replace hG := zbnd hG
    obtain ⟨p14, e15, hG⟩ := hG
    refine bnd_eq (r254 hl e15) ?_
    refine bnd_eq (mgR_50 hl) ?_
    refine bnd_eq rfl ?_
    replace hG := zbnd hG
    obtain ⟨x17, e18, hG⟩ := hG
    refine bnd_eq (m_aI hl (i := 46) (by decide) rfl e18) ?_
    by_cases c19 : p14.1 = (-1)
    · rw [if_pos c19] at hG
      refine (if_pos c19).trans ?_
      refine bnd_eq (mgR_52 hl) ?_
      refine bnd_eq rfl ?_
      replace hG := zbnd hG
      obtain ⟨x21, e22, hG⟩ := hG
      refine bnd_eq (m_aI hl (i := 48) (by decide) rfl e22) ?_
      replace hG := Option.some.inj hG
      subst hG
      rfl
    · rw [if_neg c19] at hG
      refine (if_neg c19).trans ?_
      refine bnd_eq (mgR_49 hl) ?_
      refine bnd_eq rfl ?_
      replace hG := zbnd hG
      obtain ⟨x24, e25, hG⟩ := hG
      refine bnd_eq (m_aI hl (i := 45) (by decide) rfl e25) ?_
      refine zgd_eq (m_isO hl) ?_
      replace hG := zbnd hG
      obtain ⟨p26, e27, hG⟩ := hG
      refine bnd_eq (r263 hl e27) ?_
      replace hG := zlet_ex hG
      obtain ⟨X28, e29, hG⟩ := hG
      refine bnd_eq (mpI_89 hl e29) ?_
      exact rf262_109 hl  n hG
def gb258_297 (n : Nat)  (l1 : Int32) (l2 : Int32) (l3 : Int32) (l4 : Int32) (s0 : Int32) (X : zX) : Option (Int32 × zX) :=
  (g262 n s0 X).bind fun p1 =>
  some (p1.1, p1.2)
set_option maxRecDepth 20000 in
theorem rb258_297 {n : Nat} {h0 : zH} (hl : Fx h0)   {l1 : Int32} {l2 : Int32} {l3 : Int32} {l4 : Int32} {s0 : Int32} {X : zX} {p : Int32 × zX} (hG : gb258_297 n  l1 l2 l3 l4 s0 X = some p) : b258_297 n  159 l1 l2 l3 l4 s0 159 (mq h0 X) = some (p.1, mq h0 p.2) := by
  unfold gb258_297 at hG
  unfold b258_297
  refine zgd_eq (m_isO hl) ?_
  replace hG := zbnd hG
  obtain ⟨p1, e2, hG⟩ := hG
  refine bnd_eq (r262 hl e2) ?_
  replace hG := Option.some.inj hG
  subst hG
  rfl
def gb258_251 (n : Nat)  (l1 : Int32) (l2 : Int32) (l3 : Int32) (l4 : Int32) (s0 : Int32) (X : zX) : Option (Int32 × zX) :=
  (g260 n s0 (-1) l4 (-1) X).bind fun p1 =>
  if l4 = (-1) then
    (rd (p1.2.2.2 14) ((24 * (p1.2.1 3)) + l1)).bind fun x5 =>
    gb258_297 n  l1 l2 l3 l4 x5 p1.2
  else
    (rd (p1.2.2.2 34) ((100 * (p1.2.1 3)) + l4)).bind fun x8 =>
    gb258_297 n  l1 l2 l3 l4 x8 p1.2
set_option maxRecDepth 20000 in
theorem rb258_251 {n : Nat} {h0 : zH} (hl : Fx h0)   {l1 : Int32} {l2 : Int32} {l3 : Int32} {l4 : Int32} {s0 : Int32} {X : zX} {p : Int32 × zX} (hG : gb258_251 n  l1 l2 l3 l4 s0 X = some p) : b258_251 n  159 l1 l2 l3 l4 s0 159 (mq h0 X) = some (p.1, mq h0 p.2) := by
  unfold gb258_251 at hG
  unfold b258_251
  refine zgd_eq (m_isO hl) ?_
  replace hG := zbnd hG
  obtain ⟨p1, e2, hG⟩ := hG
  refine bnd_eq (r260 hl e2) ?_
  by_cases c3 : l4 = (-1)
  · rw [if_pos c3] at hG
    refine (if_pos c3).trans ?_
    refine bnd_eq (mgR_18 hl) ?_
    refine bnd_eq (mgI_3 hl) ?_
    refine bnd_eq rfl ?_
    replace hG := zbnd hG
    obtain ⟨x5, e6, hG⟩ := hG
    refine bnd_eq (m_aI hl (i := 14) (by decide) rfl e6) ?_
    exact rb258_297 hl  hG
  · rw [if_neg c3] at hG
    refine (if_neg c3).trans ?_
    refine bnd_eq (mgR_38 hl) ?_
    refine bnd_eq (mgI_3 hl) ?_
    refine bnd_eq rfl ?_
    replace hG := zbnd hG
    obtain ⟨x8, e9, hG⟩ := hG
    refine bnd_eq (m_aI hl (i := 34) (by decide) rfl e9) ?_
    exact rb258_297 hl  hG
def gb258_152 (n : Nat) (q152 : Int32 → Int32 → Int32 → Int32 → zX → Option (Int32 × zX)) (l1 : Int32) (l2 : Int32) (l3 : Int32) (l4 : Int32) (X : zX) : Option (Int32 × zX) :=
  (rd (X.2.2 16) ((24 * (X.1 3)) + l1)).bind fun x2 =>
  if x2 ≤ l4 then
    (g261 n l1 (-1) X).bind fun p5 =>
    if p5.1 = (-1) then
      gb258_251 n  l1 l2 l3 p5.1 0 p5.2
    else
      gb258_251 n  l1 l2 l3 p5.1 2 p5.2
  else
    (rd (X.2.2 19) ((4 * ((24 * (X.1 3)) + l1)) + l4)).bind fun x10 =>
    (rd (X.2.2 70) x10).bind fun x12 =>
    (rd (X.2.2 24) ((4 * ((24 * (X.1 3)) + l1)) + l4)).bind fun x15 =>
    if x12 = x15 then
      q152 l1 l2 l3 (l4 + 1) X
    else
      (rd (X.2.2 19) ((4 * ((24 * (X.1 3)) + l1)) + l4)).bind fun x19 =>
      (g260 n 1 (-1) (-1) x19 X).bind fun p21 =>
      some (l3, p21.2)
set_option maxRecDepth 20000 in
theorem rb258_152 {n : Nat} {h0 : zH} (hl : Fx h0) {q152 : Int32 → Int32 → Int32 → Int32 → zX → Option (Int32 × zX)} {r152 : Nat → Int32 → Int32 → Int32 → Int32 → zH → Option (Int32 × zH)} (hr152 : ∀ {l1 : Int32} {l2 : Int32} {l3 : Int32} {l4 : Int32} {X : zX} {p : Int32 × zX}, q152 l1 l2 l3 l4 X = some p → r152 159 l1 l2 l3 l4 (mq h0 X) = some (p.1, mq h0 p.2)) {l1 : Int32} {l2 : Int32} {l3 : Int32} {l4 : Int32} {X : zX} {p : Int32 × zX} (hG : gb258_152 n q152 l1 l2 l3 l4 X = some p) : b258_152 n r152 159 l1 l2 l3 l4 (mq h0 X) = some (p.1, mq h0 p.2) := by
  unfold gb258_152 at hG
  unfold b258_152
  refine bnd_eq (mgR_20 hl) ?_
  refine bnd_eq (mgI_3 hl) ?_
  refine bnd_eq rfl ?_
  replace hG := zbnd hG
  obtain ⟨x2, e3, hG⟩ := hG
  refine bnd_eq (m_aI hl (i := 16) (by decide) rfl e3) ?_
  by_cases c4 : x2 ≤ l4
  · rw [if_pos c4] at hG
    refine (if_pos c4).trans ?_
    refine zgd_eq (m_isO hl) ?_
    replace hG := zbnd hG
    obtain ⟨p5, e6, hG⟩ := hG
    refine bnd_eq (r261 hl e6) ?_
    by_cases c7 : p5.1 = (-1)
    · rw [if_pos c7] at hG
      refine (if_pos c7).trans ?_
      exact rb258_251 hl  hG
    · rw [if_neg c7] at hG
      refine (if_neg c7).trans ?_
      exact rb258_251 hl  hG
  · rw [if_neg c4] at hG
    refine (if_neg c4).trans ?_
    refine bnd_eq (mgI_3 hl) ?_
    refine bnd_eq (mgR_91 hl) ?_
    refine bnd_eq (mgR_23 hl) ?_
    refine bnd_eq rfl ?_
    replace hG := zbnd hG
    obtain ⟨x10, e11, hG⟩ := hG
    refine bnd_eq (m_aI hl (i := 19) (by decide) rfl e11) ?_
    refine bnd_eq rfl ?_
    replace hG := zbnd hG
    obtain ⟨x12, e13, hG⟩ := hG
    refine bnd_eq (m_aI hl (i := 70) (by decide) rfl e13) ?_
    refine bnd_eq (mgR_28 hl) ?_
    refine bnd_eq rfl ?_
    replace hG := zbnd hG
    obtain ⟨x15, e16, hG⟩ := hG
    refine bnd_eq (m_aI hl (i := 24) (by decide) rfl e16) ?_
    by_cases c17 : x12 = x15
    · rw [if_pos c17] at hG
      refine (if_pos c17).trans ?_
      exact hr152 hG
    · rw [if_neg c17] at hG
      refine (if_neg c17).trans ?_
      refine bnd_eq (mgR_23 hl) ?_
      refine bnd_eq rfl ?_
      replace hG := zbnd hG
      obtain ⟨x19, e20, hG⟩ := hG
      refine bnd_eq (m_aI hl (i := 19) (by decide) rfl e20) ?_
      refine zgd_eq (m_isO hl) ?_
      replace hG := zbnd hG
      obtain ⟨p21, e22, hG⟩ := hG
      refine bnd_eq (r260 hl e22) ?_
      replace hG := Option.some.inj hG
      subst hG
      rfl
def gf258_152 (n : Nat)  (k : Nat) : Int32 → Int32 → Int32 → Int32 → zX → Option (Int32 × zX) := Nat.rec (fun _ _ _ _ _ => none) (fun _ ih => gb258_152 n ih) k
theorem rf258_152 {n : Nat} {h0 : zH} (hl : Fx h0)   (k : Nat) : ∀ {l1 : Int32} {l2 : Int32} {l3 : Int32} {l4 : Int32} {X : zX} {p : Int32 × zX}, gf258_152 n  k l1 l2 l3 l4 X = some p → f258_152 n  k 159 l1 l2 l3 l4 (mq h0 X) = some (p.1, mq h0 p.2) := by
  induction k with
  | zero => intros; rename_i hG; cases hG
  | succ k ih => intros; rename_i hG; exact rb258_152 (n := n) hl ih hG
def gb258_18 (n : Nat) (q18 : Int32 → Int32 → Int32 → Int32 → zX → Option (Int32 × zX)) (l1 : Int32) (l2 : Int32) (l3 : Int32) (l4 : Int32) (X : zX) : Option (Int32 × zX) :=
  if l4 = (-1) then
    gf258_152 n  n l1 l2 l3 0 X
  else
    (g259 n l1 l4 0 X).bind fun p2 =>
    if p2.1 = (-1) then
      (g261 n l1 l4 p2.2).bind fun p5 =>
      if p5.1 = (-1) then
        (g259 n l1 l4 1 p5.2).bind fun p8 =>
        if p8.1 = (-1) then
          (rd (p8.2.2.2 27) ((8 * (p8.2.1 3)) + l4)).bind fun x12 =>
          q18 l1 l2 l3 x12 p8.2
        else
          (g260 n 5 l4 (-1) (-1) p8.2).bind fun p14 =>
          (rd (p14.2.2.2 38) p8.1).bind fun x17 =>
          (g262 n x17 p14.2).bind fun p19 =>
          some (p19.1, p19.2)
      else
        (g260 n 4 l4 p5.1 (-1) p5.2).bind fun p21 =>
        (rd (p21.2.2.2 34) ((100 * (p21.2.1 3)) + p5.1)).bind fun x24 =>
        (g262 n x24 p21.2).bind fun p26 =>
        some (p26.1, p26.2)
    else
      (g260 n 3 l4 (-1) (-1) p2.2).bind fun p28 =>
      some (l3, p28.2)
set_option maxRecDepth 20000 in
theorem rb258_18 {n : Nat} {h0 : zH} (hl : Fx h0) {q18 : Int32 → Int32 → Int32 → Int32 → zX → Option (Int32 × zX)} {r18 : Nat → Int32 → Int32 → Int32 → Int32 → zH → Option (Int32 × zH)} (hr18 : ∀ {l1 : Int32} {l2 : Int32} {l3 : Int32} {l4 : Int32} {X : zX} {p : Int32 × zX}, q18 l1 l2 l3 l4 X = some p → r18 159 l1 l2 l3 l4 (mq h0 X) = some (p.1, mq h0 p.2)) {l1 : Int32} {l2 : Int32} {l3 : Int32} {l4 : Int32} {X : zX} {p : Int32 × zX} (hG : gb258_18 n q18 l1 l2 l3 l4 X = some p) : b258_18 n r18 159 l1 l2 l3 l4 (mq h0 X) = some (p.1, mq h0 p.2) := by
  unfold gb258_18 at hG
  unfold b258_18
  by_cases c1 : l4 = (-1)
  · rw [if_pos c1] at hG
    refine (if_pos c1).trans ?_
    exact rf258_152 hl  n hG
  · rw [if_neg c1] at hG
    refine (if_neg c1).trans ?_
    refine zgd_eq (m_isO hl) ?_
    replace hG := zbnd hG
    obtain ⟨p2, e3, hG⟩ := hG
    refine bnd_eq (r259 hl e3) ?_
    by_cases c4 : p2.1 = (-1)
    · rw [if_pos c4] at hG
      refine (if_pos c4).trans ?_
      refine zgd_eq (m_isO hl) ?_
      replace hG := zbnd hG
      obtain ⟨p5, e6, hG⟩ := hG
      refine bnd_eq (r261 hl e6) ?_
      by_cases c7 : p5.1 = (-1)
      · rw [if_pos c7] at hG
        refine (if_pos c7).trans ?_
        refine zgd_eq (m_isO hl) ?_
        replace hG := zbnd hG
        obtain ⟨p8, e9, hG⟩ := hG
        refine bnd_eq (r259 hl e9) ?_
        by_cases c10 : p8.1 = (-1)
        · rw [if_pos c10] at hG
          refine (if_pos c10).trans ?_
          refine bnd_eq (mgR_31 hl) ?_
          refine bnd_eq (mgI_3 hl) ?_
          refine bnd_eq rfl ?_
          replace hG := zbnd hG
          obtain ⟨x12, e13, hG⟩ := hG
          refine bnd_eq (m_aI hl (i := 27) (by decide) rfl e13) ?_
          exact hr18 hG
        · rw [if_neg c10] at hG
          refine (if_neg c10).trans ?_
          refine zgd_eq (m_isO hl) ?_
          replace hG := zbnd hG
          obtain ⟨p14, e15, hG⟩ := hG
          refine bnd_eq (r260 hl e15) ?_
          refine bnd_eq (mgR_42 hl) ?_
          refine bnd_eq rfl ?_
          replace hG := zbnd hG
          obtain ⟨x17, e18, hG⟩ := hG
          refine bnd_eq (m_aI hl (i := 38) (by decide) rfl e18) ?_
          refine zgd_eq (m_isO hl) ?_
          replace hG := zbnd hG
          obtain ⟨p19, e20, hG⟩ := hG
          refine bnd_eq (r262 hl e20) ?_
          replace hG := Option.some.inj hG
          subst hG
          rfl
      · rw [if_neg c7] at hG
        refine (if_neg c7).trans ?_
        refine zgd_eq (m_isO hl) ?_
        replace hG := zbnd hG
        obtain ⟨p21, e22, hG⟩ := hG
        refine bnd_eq (r260 hl e22) ?_
        refine bnd_eq (mgR_38 hl) ?_
        refine bnd_eq (mgI_3 hl) ?_
        refine bnd_eq rfl ?_
        replace hG := zbnd hG
        obtain ⟨x24, e25, hG⟩ := hG
        refine bnd_eq (m_aI hl (i := 34) (by decide) rfl e25) ?_
        refine zgd_eq (m_isO hl) ?_
        replace hG := zbnd hG
        obtain ⟨p26, e27, hG⟩ := hG
        refine bnd_eq (r262 hl e27) ?_
        replace hG := Option.some.inj hG
        subst hG
        rfl
    · rw [if_neg c4] at hG
      refine (if_neg c4).trans ?_
      refine zgd_eq (m_isO hl) ?_
      replace hG := zbnd hG
      obtain ⟨p28, e29, hG⟩ := hG
      refine bnd_eq (r260 hl e29) ?_
      replace hG := Option.some.inj hG
      subst hG
      rfl
def gf258_18 (n : Nat)  (k : Nat) : Int32 → Int32 → Int32 → Int32 → zX → Option (Int32 × zX) := Nat.rec (fun _ _ _ _ _ => none) (fun _ ih => gb258_18 n ih) k
theorem rf258_18 {n : Nat} {h0 : zH} (hl : Fx h0)   (k : Nat) : ∀ {l1 : Int32} {l2 : Int32} {l3 : Int32} {l4 : Int32} {X : zX} {p : Int32 × zX}, gf258_18 n  k l1 l2 l3 l4 X = some p → f258_18 n  k 159 l1 l2 l3 l4 (mq h0 X) = some (p.1, mq h0 p.2) := by
  induction k with
  | zero => intros; rename_i hG; cases hG
  | succ k ih => intros; rename_i hG; exact rb258_18 (n := n) hl ih hG
def g258 (n : Nat) (y1 : Int32) (y2 : Int32) (X : zX) : Option (Int32 × zX) :=
  (rd (X.2.2 15) ((24 * (X.1 3)) + y1)).bind fun x2 =>
  gf258_18 n  n y1 y2 x2 y2 X
set_option maxRecDepth 20000 in
theorem r258 {n : Nat} {h0 : zH} (hl : Fx h0) {y1 : Int32} {y2 : Int32} {X : zX} {p : Int32 × zX} (hG : g258 n y1 y2 X = some p) : f258 n 159 y1 y2 (mq h0 X) = some (p.1, mq h0 p.2) := by
  unfold g258 at hG
  unfold f258
  refine bnd_eq (mgR_19 hl) ?_
  refine bnd_eq (mgI_3 hl) ?_
  refine bnd_eq rfl ?_
  replace hG := zbnd hG
  obtain ⟨x2, e3, hG⟩ := hG
  refine bnd_eq (m_aI hl (i := 15) (by decide) rfl e3) ?_
  exact rf258_18 hl  n hG
def gb250_47 (n : Nat) (q47 : Int32 → Int32 → Int32 → zX → Option (Int32 × zX)) (l1 : Int32) (l2 : Int32) (l3 : Int32) (X : zX) : Option (Int32 × zX) :=
  (rd (X.2.2 9) (X.1 3)).bind fun x2 =>
  if x2 ≤ l3 then
    zlet (xF X 85 1) fun X5 =>
    (g258 n l1 l2 X5).bind fun p7 =>
    some (p7.1, p7.2)
  else
    (rd (X.2.2 59) ((24 * (X.1 3)) + l3)).bind fun x10 =>
    (g258 n x10 l2 X).bind fun p13 =>
    (wr p13.2 70 x10 p13.1).bind fun X15 =>
    q47 l1 l2 (l3 + 1) X15
set_option maxRecDepth 20000 in
theorem rb250_47 {n : Nat} {h0 : zH} (hl : Fx h0) {q47 : Int32 → Int32 → Int32 → zX → Option (Int32 × zX)} {r47 : Nat → Int32 → Int32 → Int32 → zH → Option (Int32 × zH)} (hr47 : ∀ {l1 : Int32} {l2 : Int32} {l3 : Int32} {X : zX} {p : Int32 × zX}, q47 l1 l2 l3 X = some p → r47 159 l1 l2 l3 (mq h0 X) = some (p.1, mq h0 p.2)) {l1 : Int32} {l2 : Int32} {l3 : Int32} {X : zX} {p : Int32 × zX} (hG : gb250_47 n q47 l1 l2 l3 X = some p) : b250_47 n r47 159 l1 l2 l3 (mq h0 X) = some (p.1, mq h0 p.2) := by
  unfold gb250_47 at hG
  unfold b250_47
  refine bnd_eq (mgR_13 hl) ?_
  refine bnd_eq (mgI_3 hl) ?_
  refine bnd_eq rfl ?_
  replace hG := zbnd hG
  obtain ⟨x2, e3, hG⟩ := hG
  refine bnd_eq (m_aI hl (i := 9) (by decide) rfl e3) ?_
  by_cases c4 : x2 ≤ l3
  · rw [if_pos c4] at hG
    refine (if_pos c4).trans ?_
    replace hG := zlet_ex hG
    obtain ⟨X5, e6, hG⟩ := hG
    refine bnd_eq (mpI_85 (by decide) hl e6) ?_
    refine zgd_eq (m_isO hl) ?_
    replace hG := zbnd hG
    obtain ⟨p7, e8, hG⟩ := hG
    refine bnd_eq (r258 hl e8) ?_
    replace hG := Option.some.inj hG
    subst hG
    rfl
  · rw [if_neg c4] at hG
    refine (if_neg c4).trans ?_
    refine bnd_eq (mgR_63 hl) ?_
    refine bnd_eq (mgI_3 hl) ?_
    refine bnd_eq rfl ?_
    replace hG := zbnd hG
    obtain ⟨x10, e11, hG⟩ := hG
    refine bnd_eq (m_aI hl (i := 59) (by decide) rfl e11) ?_
    refine bnd_eq (mgR_91 hl) ?_
    refine zgd_eq (m_isO hl) ?_
    replace hG := zbnd hG
    obtain ⟨p13, e14, hG⟩ := hG
    refine bnd_eq (r258 hl e14) ?_
    refine bnd_eq rfl ?_
    replace hG := zbnd hG
    obtain ⟨X15, e16, hG⟩ := hG
    refine bnd_eq (m_sI hl (i := 70) (by decide) rfl e16) ?_
    exact hr47 hG
def gf250_47 (n : Nat)  (k : Nat) : Int32 → Int32 → Int32 → zX → Option (Int32 × zX) := Nat.rec (fun _ _ _ _ => none) (fun _ ih => gb250_47 n ih) k
theorem rf250_47 {n : Nat} {h0 : zH} (hl : Fx h0)   (k : Nat) : ∀ {l1 : Int32} {l2 : Int32} {l3 : Int32} {X : zX} {p : Int32 × zX}, gf250_47 n  k l1 l2 l3 X = some p → f250_47 n  k 159 l1 l2 l3 (mq h0 X) = some (p.1, mq h0 p.2) := by
  induction k with
  | zero => intros; rename_i hG; cases hG
  | succ k ih => intros; rename_i hG; exact rb250_47 (n := n) hl ih hG
def gb250_33 (n : Nat)  (l1 : Int32) (l2 : Int32) (s0 : Int32) (X : zX) : Option (Int32 × zX) :=
  (g185 n s0 X).bind fun p1 =>
  if p1.1 = 0 then
    some (0, p1.2)
  else
    (g251 n  p1.2).bind fun p4 =>
    gf250_47 n  n l1 l2 0 p4.2
set_option maxRecDepth 20000 in
theorem rb250_33 {n : Nat} {h0 : zH} (hl : Fx h0)   {l1 : Int32} {l2 : Int32} {s0 : Int32} {X : zX} {p : Int32 × zX} (hG : gb250_33 n  l1 l2 s0 X = some p) : b250_33 n  159 l1 l2 s0 159 (mq h0 X) = some (p.1, mq h0 p.2) := by
  unfold gb250_33 at hG
  unfold b250_33
  refine zgd_eq (m_isO hl) ?_
  replace hG := zbnd hG
  obtain ⟨p1, e2, hG⟩ := hG
  refine bnd_eq (r185 hl e2) ?_
  by_cases c3 : p1.1 = 0
  · rw [if_pos c3] at hG
    refine (if_pos c3).trans ?_
    replace hG := Option.some.inj hG
    subst hG
    rfl
  · rw [if_neg c3] at hG
    refine (if_neg c3).trans ?_
    refine zgd_eq (m_isO hl) ?_
    replace hG := zbnd hG
    obtain ⟨p4, e5, hG⟩ := hG
    refine bnd_eq (r251 hl e5) ?_
    exact rf250_47 hl  n hG
def gb250_32 (n : Nat)  (l1 : Int32) (l2 : Int32) (X : zX) : Option (Int32 × zX) :=
  gb250_33 n  l1 l2 0 X
set_option maxRecDepth 20000 in
theorem rb250_32 {n : Nat} {h0 : zH} (hl : Fx h0)   {l1 : Int32} {l2 : Int32} {X : zX} {p : Int32 × zX} (hG : gb250_32 n  l1 l2 X = some p) : b250_32 n  159 l1 l2 159 (mq h0 X) = some (p.1, mq h0 p.2) := by
  unfold gb250_32 at hG
  unfold b250_32
  exact rb250_33 hl  hG
def g250 (n : Nat) (y1 : Int32) (y2 : Int32) (X : zX) : Option (Int32 × zX) :=
  (g248 n y1 X).bind fun p1 =>
  if p1.1 = 0 then
    gb250_32 n  y1 y2 p1.2
  else
    (rd (p1.2.2.2 25) (p1.2.1 3)).bind fun x5 =>
    (g187 n y2 (-1) (x5 - 1) p1.2).bind fun p7 =>
    if p7.1 = 0 then
      gb250_32 n  y1 y2 p7.2
    else
      gb250_33 n  y1 y2 1 p7.2
set_option maxRecDepth 20000 in
theorem r250 {n : Nat} {h0 : zH} (hl : Fx h0) {y1 : Int32} {y2 : Int32} {X : zX} {p : Int32 × zX} (hG : g250 n y1 y2 X = some p) : f250 n 159 y1 y2 (mq h0 X) = some (p.1, mq h0 p.2) := by
  unfold g250 at hG
  unfold f250
  refine zgd_eq (m_isO hl) ?_
  replace hG := zbnd hG
  obtain ⟨p1, e2, hG⟩ := hG
  refine bnd_eq (r248 hl e2) ?_
  by_cases c3 : p1.1 = 0
  · rw [if_pos c3] at hG
    refine (if_pos c3).trans ?_
    exact rb250_32 hl  hG
  · rw [if_neg c3] at hG
    refine (if_neg c3).trans ?_
    refine bnd_eq (mgR_29 hl) ?_
    refine bnd_eq (mgI_3 hl) ?_
    refine bnd_eq rfl ?_
    replace hG := zbnd hG
    obtain ⟨x5, e6, hG⟩ := hG
    refine bnd_eq (m_aI hl (i := 25) (by decide) rfl e6) ?_
    replace hG := zbnd hG
    obtain ⟨p7, e8, hG⟩ := hG
    refine bnd_eq (r187 hl e8) ?_
    by_cases c9 : p7.1 = 0
    · rw [if_pos c9] at hG
      refine (if_pos c9).trans ?_
      exact rb250_32 hl  hG
    · rw [if_neg c9] at hG
      refine (if_neg c9).trans ?_
      exact rb250_33 hl  hG
def g266 (n : Nat) (y1 : Int32) (X : zX) : Option (Int32 × zX) :=
  (g187 n y1 0 4 X).bind fun p1 =>
  (g185 n p1.1 p1.2).bind fun p3 =>
  if p3.1 = 0 then
    some (0, p3.2)
  else
    if (p3.2.1 85) = 0 then
      some ((-1), p3.2)
    else
      if y1 = 0 then
        some ((p3.2.1 86), p3.2)
      else
        if y1 = 1 then
          some ((p3.2.1 87), p3.2)
        else
          if y1 = 2 then
            some ((p3.2.1 88), p3.2)
          else
            if y1 = 3 then
              some ((p3.2.1 89), p3.2)
            else
              some ((p3.2.1 90), p3.2)
set_option maxRecDepth 20000 in
theorem r266 {n : Nat} {h0 : zH} (hl : Fx h0) {y1 : Int32} {X : zX} {p : Int32 × zX} (hG : g266 n y1 X = some p) : f266 n 159 y1 (mq h0 X) = some (p.1, mq h0 p.2) := by
  unfold g266 at hG
  unfold f266
  replace hG := zbnd hG
  obtain ⟨p1, e2, hG⟩ := hG
  refine bnd_eq (r187 hl e2) ?_
  refine zgd_eq (m_isO hl) ?_
  replace hG := zbnd hG
  obtain ⟨p3, e4, hG⟩ := hG
  refine bnd_eq (r185 hl e4) ?_
  by_cases c5 : p3.1 = 0
  · rw [if_pos c5] at hG
    refine (if_pos c5).trans ?_
    replace hG := Option.some.inj hG
    subst hG
    rfl
  · rw [if_neg c5] at hG
    refine (if_neg c5).trans ?_
    refine bnd_eq (mgI_85 hl) ?_
    by_cases c6 : (p3.2.1 85) = 0
    · rw [if_pos c6] at hG
      refine (if_pos c6).trans ?_
      replace hG := Option.some.inj hG
      subst hG
      rfl
    · rw [if_neg c6] at hG
      refine (if_neg c6).trans ?_
      by_cases c7 : y1 = 0
      · rw [if_pos c7] at hG
        refine (if_pos c7).trans ?_
        refine bnd_eq (mgI_86 hl) ?_
        replace hG := Option.some.inj hG
        subst hG
        rfl
      · rw [if_neg c7] at hG
        refine (if_neg c7).trans ?_
        by_cases c8 : y1 = 1
        · rw [if_pos c8] at hG
          refine (if_pos c8).trans ?_
          refine bnd_eq (mgI_87 hl) ?_
          replace hG := Option.some.inj hG
          subst hG
          rfl
        · rw [if_neg c8] at hG
          refine (if_neg c8).trans ?_
          by_cases c9 : y1 = 2
          · rw [if_pos c9] at hG
            refine (if_pos c9).trans ?_
            refine bnd_eq (mgI_88 hl) ?_
            replace hG := Option.some.inj hG
            subst hG
            rfl
          · rw [if_neg c9] at hG
            refine (if_neg c9).trans ?_
            by_cases c10 : y1 = 3
            · rw [if_pos c10] at hG
              refine (if_pos c10).trans ?_
              refine bnd_eq (mgI_89 hl) ?_
              replace hG := Option.some.inj hG
              subst hG
              rfl
            · rw [if_neg c10] at hG
              refine (if_neg c10).trans ?_
              refine bnd_eq (mgI_90 hl) ?_
              replace hG := Option.some.inj hG
              subst hG
              rfl
def g267 (n : Nat) (y1 : Int32) (X : zX) : Option (Int32 × zX) :=
  (rd (X.2.2 4) (X.1 3)).bind fun x2 =>
  (g187 n y1 0 (x2 - 1) X).bind fun p4 =>
  (g185 n p4.1 p4.2).bind fun p6 =>
  if p6.1 = 0 then
    some (0, p6.2)
  else
    (g251 n  p6.2).bind fun p9 =>
    (rd (p9.2.2.2 69) y1).bind fun x12 =>
    if x12 = 0 then
      some (0, p9.2)
    else
      some (1, p9.2)
set_option maxRecDepth 20000 in
theorem r267 {n : Nat} {h0 : zH} (hl : Fx h0) {y1 : Int32} {X : zX} {p : Int32 × zX} (hG : g267 n y1 X = some p) : f267 n 159 y1 (mq h0 X) = some (p.1, mq h0 p.2) := by
  unfold g267 at hG
  unfold f267
  refine bnd_eq (mgR_8 hl) ?_
  refine bnd_eq (mgI_3 hl) ?_
  refine bnd_eq rfl ?_
  replace hG := zbnd hG
  obtain ⟨x2, e3, hG⟩ := hG
  refine bnd_eq (m_aI hl (i := 4) (by decide) rfl e3) ?_
  replace hG := zbnd hG
  obtain ⟨p4, e5, hG⟩ := hG
  refine bnd_eq (r187 hl e5) ?_
  refine zgd_eq (m_isO hl) ?_
  replace hG := zbnd hG
  obtain ⟨p6, e7, hG⟩ := hG
  refine bnd_eq (r185 hl e7) ?_
  by_cases c8 : p6.1 = 0
  · rw [if_pos c8] at hG
    refine (if_pos c8).trans ?_
    replace hG := Option.some.inj hG
    subst hG
    rfl
  · rw [if_neg c8] at hG
    refine (if_neg c8).trans ?_
    refine zgd_eq (m_isO hl) ?_
    replace hG := zbnd hG
    obtain ⟨p9, e10, hG⟩ := hG
    refine bnd_eq (r251 hl e10) ?_
    refine bnd_eq (mgR_83 hl) ?_
    refine bnd_eq rfl ?_
    replace hG := zbnd hG
    obtain ⟨x12, e13, hG⟩ := hG
    refine bnd_eq (m_aB hl (i := 69) (by decide) rfl e13) ?_
    by_cases c14 : x12 = 0
    · rw [if_pos c14] at hG
      refine (if_pos c14).trans ?_
      replace hG := Option.some.inj hG
      subst hG
      rfl
    · rw [if_neg c14] at hG
      refine (if_neg c14).trans ?_
      replace hG := Option.some.inj hG
      subst hG
      rfl
def g268 (n : Nat) (y1 : Int32) (X : zX) : Option (Int32 × zX) :=
  (g248 n y1 X).bind fun p1 =>
  (g185 n p1.1 p1.2).bind fun p3 =>
  if p3.1 = 0 then
    some (0, p3.2)
  else
    (g240 n (p3.2.1 3) p3.2).bind fun p6 =>
    (rd (p6.2.2.2 62) y1).bind fun x9 =>
    some (x9, p6.2)
set_option maxRecDepth 20000 in
theorem r268 {n : Nat} {h0 : zH} (hl : Fx h0) {y1 : Int32} {X : zX} {p : Int32 × zX} (hG : g268 n y1 X = some p) : f268 n 159 y1 (mq h0 X) = some (p.1, mq h0 p.2) := by
  unfold g268 at hG
  unfold f268
  refine zgd_eq (m_isO hl) ?_
  replace hG := zbnd hG
  obtain ⟨p1, e2, hG⟩ := hG
  refine bnd_eq (r248 hl e2) ?_
  refine zgd_eq (m_isO hl) ?_
  replace hG := zbnd hG
  obtain ⟨p3, e4, hG⟩ := hG
  refine bnd_eq (r185 hl e4) ?_
  by_cases c5 : p3.1 = 0
  · rw [if_pos c5] at hG
    refine (if_pos c5).trans ?_
    replace hG := Option.some.inj hG
    subst hG
    rfl
  · rw [if_neg c5] at hG
    refine (if_neg c5).trans ?_
    refine bnd_eq (mgI_3 hl) ?_
    refine zgd_eq (m_isO hl) ?_
    replace hG := zbnd hG
    obtain ⟨p6, e7, hG⟩ := hG
    refine bnd_eq (r240 hl e7) ?_
    refine bnd_eq (mgR_74 hl) ?_
    refine bnd_eq rfl ?_
    replace hG := zbnd hG
    obtain ⟨x9, e10, hG⟩ := hG
    refine bnd_eq (m_aI hl (i := 62) (by decide) rfl e10) ?_
    replace hG := Option.some.inj hG
    subst hG
    rfl
def g269 (n : Nat) (y1 : Int32) (X : zX) : Option (Int32 × zX) :=
  (g248 n y1 X).bind fun p1 =>
  (g185 n p1.1 p1.2).bind fun p3 =>
  if p3.1 = 0 then
    some (0, p3.2)
  else
    (rd (p3.2.2.2 59) ((24 * (p3.2.1 3)) + y1)).bind fun x7 =>
    some (x7, p3.2)
set_option maxRecDepth 20000 in
theorem r269 {n : Nat} {h0 : zH} (hl : Fx h0) {y1 : Int32} {X : zX} {p : Int32 × zX} (hG : g269 n y1 X = some p) : f269 n 159 y1 (mq h0 X) = some (p.1, mq h0 p.2) := by
  unfold g269 at hG
  unfold f269
  refine zgd_eq (m_isO hl) ?_
  replace hG := zbnd hG
  obtain ⟨p1, e2, hG⟩ := hG
  refine bnd_eq (r248 hl e2) ?_
  refine zgd_eq (m_isO hl) ?_
  replace hG := zbnd hG
  obtain ⟨p3, e4, hG⟩ := hG
  refine bnd_eq (r185 hl e4) ?_
  by_cases c5 : p3.1 = 0
  · rw [if_pos c5] at hG
    refine (if_pos c5).trans ?_
    replace hG := Option.some.inj hG
    subst hG
    rfl
  · rw [if_neg c5] at hG
    refine (if_neg c5).trans ?_
    refine bnd_eq (mgR_63 hl) ?_
    refine bnd_eq (mgI_3 hl) ?_
    refine bnd_eq rfl ?_
    replace hG := zbnd hG
    obtain ⟨x7, e8, hG⟩ := hG
    refine bnd_eq (m_aI hl (i := 59) (by decide) rfl e8) ?_
    replace hG := Option.some.inj hG
    subst hG
    rfl
def gb270_88 (n : Nat) (q41 : Int32 → Int32 → Int32 → Int32 → Int32 → zX → Option (Int32 × zX)) (l1 : Int32) (l2 : Int32) (l3 : Int32) (l4 : Int32) (l5 : Int32) (s0 : Int32) (X : zX) : Option (Int32 × zX) :=
  q41 l1 l2 l3 s0 (l5 + 1) X
set_option maxRecDepth 20000 in
theorem rb270_88 {n : Nat} {h0 : zH} (hl : Fx h0) {q41 : Int32 → Int32 → Int32 → Int32 → Int32 → zX → Option (Int32 × zX)} {r41 : Nat → Int32 → Int32 → Int32 → Int32 → Int32 → zH → Option (Int32 × zH)} (hr41 : ∀ {l1 : Int32} {l2 : Int32} {l3 : Int32} {l4 : Int32} {l5 : Int32} {X : zX} {p : Int32 × zX}, q41 l1 l2 l3 l4 l5 X = some p → r41 159 l1 l2 l3 l4 l5 (mq h0 X) = some (p.1, mq h0 p.2)) {l1 : Int32} {l2 : Int32} {l3 : Int32} {l4 : Int32} {l5 : Int32} {s0 : Int32} {X : zX} {p : Int32 × zX} (hG : gb270_88 n q41 l1 l2 l3 l4 l5 s0 X = some p) : b270_88 n r41 159 l1 l2 l3 l4 l5 s0 (mq h0 X) = some (p.1, mq h0 p.2) := by
  unfold gb270_88 at hG
  unfold b270_88
  exact hr41 hG
def gb270_41 (n : Nat) (q41 : Int32 → Int32 → Int32 → Int32 → Int32 → zX → Option (Int32 × zX)) (l1 : Int32) (l2 : Int32) (l3 : Int32) (l4 : Int32) (l5 : Int32) (X : zX) : Option (Int32 × zX) :=
  (rd (X.2.2 46) l3).bind fun x2 =>
  if x2 ≤ l5 then
    some (l4, X)
  else
    (rd (X.2.2 48) ((8 * l3) + l5)).bind fun x6 =>
    if x6 = l2 then
      (rd (X.2.2 47) ((8 * l3) + l5)).bind fun x10 =>
      gb270_88 n q41 l1 l2 l3 l4 l5 (l4 + x10) X
    else
      gb270_88 n q41 l1 l2 l3 l4 l5 l4 X
set_option maxRecDepth 20000 in
theorem rb270_41 {n : Nat} {h0 : zH} (hl : Fx h0) {q41 : Int32 → Int32 → Int32 → Int32 → Int32 → zX → Option (Int32 × zX)} {r41 : Nat → Int32 → Int32 → Int32 → Int32 → Int32 → zH → Option (Int32 × zH)} (hr41 : ∀ {l1 : Int32} {l2 : Int32} {l3 : Int32} {l4 : Int32} {l5 : Int32} {X : zX} {p : Int32 × zX}, q41 l1 l2 l3 l4 l5 X = some p → r41 159 l1 l2 l3 l4 l5 (mq h0 X) = some (p.1, mq h0 p.2)) {l1 : Int32} {l2 : Int32} {l3 : Int32} {l4 : Int32} {l5 : Int32} {X : zX} {p : Int32 × zX} (hG : gb270_41 n q41 l1 l2 l3 l4 l5 X = some p) : b270_41 n r41 159 l1 l2 l3 l4 l5 (mq h0 X) = some (p.1, mq h0 p.2) := by
  unfold gb270_41 at hG
  unfold b270_41
  refine bnd_eq (mgR_50 hl) ?_
  refine bnd_eq rfl ?_
  replace hG := zbnd hG
  obtain ⟨x2, e3, hG⟩ := hG
  refine bnd_eq (m_aI hl (i := 46) (by decide) rfl e3) ?_
  by_cases c4 : x2 ≤ l5
  · rw [if_pos c4] at hG
    refine (if_pos c4).trans ?_
    replace hG := Option.some.inj hG
    subst hG
    rfl
  · rw [if_neg c4] at hG
    refine (if_neg c4).trans ?_
    refine bnd_eq (mgR_52 hl) ?_
    refine bnd_eq rfl ?_
    replace hG := zbnd hG
    obtain ⟨x6, e7, hG⟩ := hG
    refine bnd_eq (m_aI hl (i := 48) (by decide) rfl e7) ?_
    by_cases c8 : x6 = l2
    · rw [if_pos c8] at hG
      refine (if_pos c8).trans ?_
      refine bnd_eq (mgR_51 hl) ?_
      refine bnd_eq rfl ?_
      replace hG := zbnd hG
      obtain ⟨x10, e11, hG⟩ := hG
      refine bnd_eq (m_aI hl (i := 47) (by decide) rfl e11) ?_
      exact rb270_88 hl hr41 hG
    · rw [if_neg c8] at hG
      refine (if_neg c8).trans ?_
      exact rb270_88 hl hr41 hG
def gf270_41 (n : Nat)  (k : Nat) : Int32 → Int32 → Int32 → Int32 → Int32 → zX → Option (Int32 × zX) := Nat.rec (fun _ _ _ _ _ _ => none) (fun _ ih => gb270_41 n ih) k
theorem rf270_41 {n : Nat} {h0 : zH} (hl : Fx h0)   (k : Nat) : ∀ {l1 : Int32} {l2 : Int32} {l3 : Int32} {l4 : Int32} {l5 : Int32} {X : zX} {p : Int32 × zX}, gf270_41 n  k l1 l2 l3 l4 l5 X = some p → f270_41 n  k 159 l1 l2 l3 l4 l5 (mq h0 X) = some (p.1, mq h0 p.2) := by
  induction k with
  | zero => intros; rename_i hG; cases hG
  | succ k ih => intros; rename_i hG; exact rb270_41 (n := n) hl ih hG
def g270 (n : Nat) (y1 : Int32) (y2 : Int32) (X : zX) : Option (Int32 × zX) :=
  (rd (X.2.2 42) (X.1 3)).bind fun x2 =>
  (g187 n y1 0 (x2 - 1) X).bind fun p4 =>
  (g185 n p4.1 p4.2).bind fun p6 =>
  if p6.1 = 0 then
    some (0, p6.2)
  else
    gf270_41 n  n y1 y2 ((100 * (p6.2.1 3)) + y1) 0 0 p6.2
set_option maxRecDepth 20000 in
theorem r270 {n : Nat} {h0 : zH} (hl : Fx h0) {y1 : Int32} {y2 : Int32} {X : zX} {p : Int32 × zX} (hG : g270 n y1 y2 X = some p) : f270 n 159 y1 y2 (mq h0 X) = some (p.1, mq h0 p.2) := by
  unfold g270 at hG
  unfold f270
  refine bnd_eq (mgR_46 hl) ?_
  refine bnd_eq (mgI_3 hl) ?_
  refine bnd_eq rfl ?_
  replace hG := zbnd hG
  obtain ⟨x2, e3, hG⟩ := hG
  refine bnd_eq (m_aI hl (i := 42) (by decide) rfl e3) ?_
  replace hG := zbnd hG
  obtain ⟨p4, e5, hG⟩ := hG
  refine bnd_eq (r187 hl e5) ?_
  refine zgd_eq (m_isO hl) ?_
  replace hG := zbnd hG
  obtain ⟨p6, e7, hG⟩ := hG
  refine bnd_eq (r185 hl e7) ?_
  by_cases c8 : p6.1 = 0
  · rw [if_pos c8] at hG
    refine (if_pos c8).trans ?_
    replace hG := Option.some.inj hG
    subst hG
    rfl
  · rw [if_neg c8] at hG
    refine (if_neg c8).trans ?_
    refine bnd_eq (mgI_3 hl) ?_
    exact rf270_41 hl  n hG
end ZREF

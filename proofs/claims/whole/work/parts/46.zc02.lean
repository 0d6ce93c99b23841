/-! THE CLASS OVER AN ABSTRACT HEAP, 2 (written by a program of the verifier's) -/
section ZCLS
def cb103_4 (n : Nat)  (r4 : Nat → Int32 → Int32 → zY → Option (Int32 × zY)) (l0 : Nat) (l1 : Int32) (l2 : Int32) (h : zY) : Option (Int32 × zY) :=
  (yI h l0 7 4).bind fun x1 =>
  if x1 ≤ l2 then
    some (l1, h)
  else
    (yR h l0 7 2).bind fun x4 =>
    x4.bind fun a6 =>
    (yL h a6).bind fun x7 =>
    if x7 ≤ l2 then
      some (l1, h)
    else
      (yR h l0 7 2).bind fun x10 =>
      x10.bind fun a12 =>
      (yaI h a12 l2).bind fun x13 =>
      r4 l0 (l1 + x13) (l2 + 1) h
set_option maxRecDepth 20000 in
theorem kb103_4 {n : Nat} {Mm : Nat → Option zO}  {q4 : Nat → Int32 → Int32 → zY → Option (Int32 × zY)} {r4 : Nat → Int32 → Int32 → zH → Option (Int32 × zH)}  (hr4 : ∀ {l0 : Nat} {l1 : Int32} {l2 : Int32}  {kh : zH} {h : zY} {p : Int32 × zY}, Rep Mm kh h → q4 l0 l1 l2 h = some p → ∃ kh1 : zH, r4 l0 l1 l2 kh = some (p.1, kh1) ∧ Rep Mm kh1 p.2) {l0 : Nat} {l1 : Int32} {l2 : Int32}  {kh : zH} {h : zY} {p : Int32 × zY} (hR : Rep Mm kh h) (hG : cb103_4 n  q4 l0 l1 l2 h = some p) : ∃ kh1 : zH, b103_4 n  r4 l0 l1 l2 kh = some (p.1, kh1) ∧ Rep Mm kh1 p.2 := by
  unfold cb103_4 at hG
  unfold b103_4
  replace hG := zbnd hG
  obtain ⟨x1, e1, hG⟩ := hG
  refine bE (k_gI hR e1) ?_
  by_cases c2 : x1 ≤ l2
  · rw [if_pos c2] at hG
    refine iE1 c2 ?_
    replace hG := Option.some.inj hG
    subst hG
    exact ⟨_, rfl, hR⟩
  · rw [if_neg c2] at hG
    refine iE2 c2 ?_
    replace hG := zbnd hG
    obtain ⟨x4, e3, hG⟩ := hG
    refine bE (k_gR hR e3) ?_
    replace hG := zbnd hG
    obtain ⟨a6, rfl, hG⟩ := hG
    refine bE rfl ?_
    replace hG := zbnd hG
    obtain ⟨x7, e5, hG⟩ := hG
    refine bE (k_aN hR e5) ?_
    by_cases c6 : x7 ≤ l2
    · rw [if_pos c6] at hG
      refine iE1 c6 ?_
      replace hG := Option.some.inj hG
      subst hG
      exact ⟨_, rfl, hR⟩
    · rw [if_neg c6] at hG
      refine iE2 c6 ?_
      replace hG := zbnd hG
      obtain ⟨x10, e7, hG⟩ := hG
      refine bE (k_gR hR e7) ?_
      replace hG := zbnd hG
      obtain ⟨a12, rfl, hG⟩ := hG
      refine bE rfl ?_
      replace hG := zbnd hG
      obtain ⟨x13, e9, hG⟩ := hG
      refine bE (k_aI hR e9) ?_
      exact hr4 hR hG
def cf103_4 (n : Nat)   (k : Nat) : Nat → Int32 → Int32 → zY → Option (Int32 × zY) := Nat.rec (fun _ _ _ _ => none) (fun _ ih => cb103_4 n  ih) k
theorem kf103_4 {n : Nat} {Mm : Nat → Option zO}     (k : Nat) : ∀ {l0 : Nat} {l1 : Int32} {l2 : Int32}  {kh : zH} {h : zY} {p : Int32 × zY}, Rep Mm kh h → cf103_4 n   k l0 l1 l2 h = some p → ∃ kh1 : zH, f103_4 n   k l0 l1 l2 kh = some (p.1, kh1) ∧ Rep Mm kh1 p.2 := by
  induction k with
  | zero => intros; rename_i hG; cases hG
  | succ k ih => intros; rename_i hR hG; exact kb103_4 (n := n) (q4 := cf103_4 n   k) (r4 := f103_4 n   k)  ih hR hG
def c103 (n : Nat)  (y0 : Nat) (h : zY) : Option (Int32 × zY) :=
  cf103_4 n  n y0 0 0 h
set_option maxRecDepth 20000 in
theorem k103 {n : Nat} {Mm : Nat → Option zO}   {y0 : Nat} {kh : zH} {h : zY} {p : Int32 × zY} (hR : Rep Mm kh h) (hG : c103 n  y0 h = some p) : ∃ kh1 : zH, f103 n  y0 kh = some (p.1, kh1) ∧ Rep Mm kh1 p.2 := by
  unfold c103 at hG
  unfold f103
  exact kf103_4 (n := n) n hR hG
def cb96_187 (n : Nat)   (l0 : Nat) (l1 : Option Nat) (l2 : Option Nat) (l3 : Option Nat) (l4 : Nat) (l5 : Int32) (l6 : Int32) (h : zY) : Option ((Option Nat ⊕ Nat) × zY) :=
  zgd (yisO h l0 5) <|
  (c71 n l0 (some 9) h).bind fun p6 => zth p6 (fun r3 h4 =>
    some (.inl (some l4), h4))
    (fun x5 h4 =>
    zgd (exOk x5) <| some (.inr x5, h4))
set_option maxRecDepth 20000 in
theorem kb96_187 {n : Nat} {Mm : Nat → Option zO}     {l0 : Nat} {l1 : Option Nat} {l2 : Option Nat} {l3 : Option Nat} {l4 : Nat} {l5 : Int32} {l6 : Int32}  {kh : zH} {h : zY} {p : (Option Nat ⊕ Nat) × zY} (hR : Rep Mm kh h) (hG : cb96_187 n   l0 l1 l2 l3 l4 l5 l6 h = some p) : ∃ kh1 : zH, b96_187 n   l0 l1 l2 l3 l4 l5 l6 kh = some (p.1, kh1) ∧ Rep Mm kh1 p.2 := by
  unfold cb96_187 at hG
  unfold b96_187
  replace hG := zgd_some hG
  obtain ⟨g1, hG⟩ := hG
  refine zE (k_isO hR g1) ?_
  replace hG := zbnd hG
  obtain ⟨⟨r3, h4⟩, e2, hG⟩ := hG
  have hT := k71 hR e2
  clear hR
  obtain ⟨kh3, e4, hR⟩ := hT
  refine bE e4 ?_
  rcases r3 with r3 | x5
  · replace hG := zthG hG
    refine zthEl ?_
    replace hG := Option.some.inj hG
    subst hG
    exact ⟨_, rfl, hR⟩
  · replace hG := zthH hG
    refine zthEr ?_
    replace hG := zgd_some hG
    obtain ⟨g5, hG⟩ := hG
    refine zE g5 ?_
    replace hG := Option.some.inj hG
    subst hG
    exact ⟨_, rfl, hR⟩
def cb96_154 (n : Nat)   (l0 : Nat) (l1 : Option Nat) (l2 : Option Nat) (l3 : Option Nat) (l4 : Nat) (l5 : Int32) (l6 : Int32) (h : zY) : Option ((Option Nat ⊕ Nat) × zY) :=
  (yR h l0 5 3).bind fun x1 =>
  x1.bind fun a3 =>
  (yR h a3 9 0).bind fun x4 =>
  (rEq x4 (some 9)).bind fun b6 =>
  if b6 = true then
    zgd (yisO h l4 7) <|
    (c103 n l4 h).bind fun p11 =>
    if p11.1 = 10000 then
      cb96_187 n  l0 l1 l2 l3 l4 l5 l6 p11.2
    else
      (yR p11.2 l0 5 3).bind fun x13 =>
      zgd (yisO p11.2 l0 5) <|
      (c70 n l0 4 x13 p11.2).bind fun p20 => zth p20 (fun r17 h18 =>
        cb96_187 n  l0 l1 l2 l3 l4 l5 l6 h18)
        (fun x19 h18 =>
        zgd (exOk x19) <| some (.inr x19, h18))
  else
    cb96_187 n  l0 l1 l2 l3 l4 l5 l6 h
set_option maxRecDepth 20000 in
theorem kb96_154 {n : Nat} {Mm : Nat → Option zO}     {l0 : Nat} {l1 : Option Nat} {l2 : Option Nat} {l3 : Option Nat} {l4 : Nat} {l5 : Int32} {l6 : Int32}  {kh : zH} {h : zY} {p : (Option Nat ⊕ Nat) × zY} (hR : Rep Mm kh h) (hG : cb96_154 n   l0 l1 l2 l3 l4 l5 l6 h = some p) : ∃ kh1 : zH, b96_154 n   l0 l1 l2 l3 l4 l5 l6 kh = some (p.1, kh1) ∧ Rep Mm kh1 p.2 := by
  unfold cb96_154 at hG
  unfold b96_154
  replace hG := zbnd hG
  obtain ⟨x1, e1, hG⟩ := hG
  refine bE (k_gR hR e1) ?_
  replace hG := zbnd hG
  obtain ⟨a3, rfl, hG⟩ := hG
  refine bE rfl ?_
  replace hG := zbnd hG
  obtain ⟨x4, e3, hG⟩ := hG
  refine bE (k_gR hR e3) ?_
  replace hG := zbnd hG
  obtain ⟨b6, e4, hG⟩ := hG
  refine bE e4 ?_
  by_cases c5 : b6 = true
  · rw [if_pos c5] at hG
    refine iE1 c5 ?_
    replace hG := zgd_some hG
    obtain ⟨g6, hG⟩ := hG
    refine zE (k_isO hR g6) ?_
    replace hG := zbnd hG
    obtain ⟨p11, e7, hG⟩ := hG
    have hT := k103 hR e7
    clear hR
    obtain ⟨kh8, e9, hR⟩ := hT
    refine bE e9 ?_
    by_cases c10 : p11.1 = 10000
    · rw [if_pos c10] at hG
      refine iE1 c10 ?_
      exact kb96_187 (n := n) hR hG
    · rw [if_neg c10] at hG
      refine iE2 c10 ?_
      replace hG := zbnd hG
      obtain ⟨x13, e11, hG⟩ := hG
      refine bE (k_gR hR e11) ?_
      replace hG := zgd_some hG
      obtain ⟨g12, hG⟩ := hG
      refine zE (k_isO hR g12) ?_
      replace hG := zbnd hG
      obtain ⟨⟨r17, h18⟩, e13, hG⟩ := hG
      have hT := k70 hR e13
      clear hR
      obtain ⟨kh14, e15, hR⟩ := hT
      refine bE e15 ?_
      rcases r17 with r17 | x19
      · replace hG := zthG hG
        refine zthEl ?_
        exact kb96_187 (n := n) hR hG
      · replace hG := zthH hG
        refine zthEr ?_
        replace hG := zgd_some hG
        obtain ⟨g16, hG⟩ := hG
        refine zE g16 ?_
        replace hG := Option.some.inj hG
        subst hG
        exact ⟨_, rfl, hR⟩
  · rw [if_neg c5] at hG
    refine iE2 c5 ?_
    exact kb96_187 (n := n) hR hG
def cb96_148 (n : Nat)  (r72 : Nat → Option Nat → Option Nat → Option Nat → Nat → Int32 → Int32 → zY → Option ((Option Nat ⊕ Nat) × zY)) (l0 : Nat) (l1 : Option Nat) (l2 : Option Nat) (l3 : Option Nat) (l4 : Nat) (l5 : Int32) (l6 : Int32) (l7 : Int32) (h : zY) : Option ((Option Nat ⊕ Nat) × zY) :=
  r72 l0 l1 l2 l3 l4 l5 (l6 + 1) h
set_option maxRecDepth 20000 in
theorem kb96_148 {n : Nat} {Mm : Nat → Option zO}  {q72 : Nat → Option Nat → Option Nat → Option Nat → Nat → Int32 → Int32 → zY → Option ((Option Nat ⊕ Nat) × zY)} {r72 : Nat → Option Nat → Option Nat → Option Nat → Nat → Int32 → Int32 → zH → Option ((Option Nat ⊕ Nat) × zH)}  (hr72 : ∀ {l0 : Nat} {l1 : Option Nat} {l2 : Option Nat} {l3 : Option Nat} {l4 : Nat} {l5 : Int32} {l6 : Int32}  {kh : zH} {h : zY} {p : (Option Nat ⊕ Nat) × zY}, Rep Mm kh h → q72 l0 l1 l2 l3 l4 l5 l6 h = some p → ∃ kh1 : zH, r72 l0 l1 l2 l3 l4 l5 l6 kh = some (p.1, kh1) ∧ Rep Mm kh1 p.2) {l0 : Nat} {l1 : Option Nat} {l2 : Option Nat} {l3 : Option Nat} {l4 : Nat} {l5 : Int32} {l6 : Int32} {l7 : Int32}  {kh : zH} {h : zY} {p : (Option Nat ⊕ Nat) × zY} (hR : Rep Mm kh h) (hG : cb96_148 n  q72 l0 l1 l2 l3 l4 l5 l6 l7 h = some p) : ∃ kh1 : zH, b96_148 n  r72 l0 l1 l2 l3 l4 l5 l6 l7 kh = some (p.1, kh1) ∧ Rep Mm kh1 p.2 := by
  unfold cb96_148 at hG
  unfold b96_148
  exact hr72 hR hG
def cb96_133 (n : Nat)  (r72 : Nat → Option Nat → Option Nat → Option Nat → Nat → Int32 → Int32 → zY → Option ((Option Nat ⊕ Nat) × zY)) (l0 : Nat) (l1 : Option Nat) (l2 : Option Nat) (l3 : Option Nat) (l4 : Nat) (l5 : Int32) (l6 : Int32) (l7 : Int32) (s0 : Int32) (h : zY) : Option ((Option Nat ⊕ Nat) × zY) :=
  if s0 = 0 then
    cb96_148 n r72 l0 l1 l2 l3 l4 s0 l6 l7 h
  else
    zgd (yisO h l0 5) <|
    (c71 n l0 (some 11) h).bind fun p7 => zth p7 (fun r4 h5 =>
      cb96_148 n r72 l0 l1 l2 l3 l4 s0 l6 l7 h5)
      (fun x6 h5 =>
      zgd (exOk x6) <| some (.inr x6, h5))
set_option maxRecDepth 20000 in
theorem kb96_133 {n : Nat} {Mm : Nat → Option zO}  {q72 : Nat → Option Nat → Option Nat → Option Nat → Nat → Int32 → Int32 → zY → Option ((Option Nat ⊕ Nat) × zY)} {r72 : Nat → Option Nat → Option Nat → Option Nat → Nat → Int32 → Int32 → zH → Option ((Option Nat ⊕ Nat) × zH)}  (hr72 : ∀ {l0 : Nat} {l1 : Option Nat} {l2 : Option Nat} {l3 : Option Nat} {l4 : Nat} {l5 : Int32} {l6 : Int32}  {kh : zH} {h : zY} {p : (Option Nat ⊕ Nat) × zY}, Rep Mm kh h → q72 l0 l1 l2 l3 l4 l5 l6 h = some p → ∃ kh1 : zH, r72 l0 l1 l2 l3 l4 l5 l6 kh = some (p.1, kh1) ∧ Rep Mm kh1 p.2) {l0 : Nat} {l1 : Option Nat} {l2 : Option Nat} {l3 : Option Nat} {l4 : Nat} {l5 : Int32} {l6 : Int32} {l7 : Int32} {s0 : Int32} {kh : zH} {h : zY} {p : (Option Nat ⊕ Nat) × zY} (hR : Rep Mm kh h) (hG : cb96_133 n  q72 l0 l1 l2 l3 l4 l5 l6 l7 s0 h = some p) : ∃ kh1 : zH, b96_133 n  r72 l0 l1 l2 l3 l4 l5 l6 l7 s0 kh = some (p.1, kh1) ∧ Rep Mm kh1 p.2 := by
  unfold cb96_133 at hG
  unfold b96_133
  by_cases c1 : s0 = 0
  · rw [if_pos c1] at hG
    refine iE1 c1 ?_
    exact kb96_148 (n := n) (q72 := q72) (r72 := r72) hr72 hR hG
  · rw [if_neg c1] at hG
    refine iE2 c1 ?_
    replace hG := zgd_some hG
    obtain ⟨g2, hG⟩ := hG
    refine zE (k_isO hR g2) ?_
    replace hG := zbnd hG
    obtain ⟨⟨r4, h5⟩, e3, hG⟩ := hG
    have hT := k71 hR e3
    clear hR
    obtain ⟨kh4, e5, hR⟩ := hT
    refine bE e5 ?_
    rcases r4 with r4 | x6
    · replace hG := zthG hG
      refine zthEl ?_
      exact kb96_148 (n := n) (q72 := q72) (r72 := r72) hr72 hR hG
    · replace hG := zthH hG
      refine zthEr ?_
      replace hG := zgd_some hG
      obtain ⟨g6, hG⟩ := hG
      refine zE g6 ?_
      replace hG := Option.some.inj hG
      subst hG
      exact ⟨_, rfl, hR⟩
def cb96_72 (n : Nat)  (r72 : Nat → Option Nat → Option Nat → Option Nat → Nat → Int32 → Int32 → zY → Option ((Option Nat ⊕ Nat) × zY)) (l0 : Nat) (l1 : Option Nat) (l2 : Option Nat) (l3 : Option Nat) (l4 : Nat) (l5 : Int32) (l6 : Int32) (h : zY) : Option ((Option Nat ⊕ Nat) × zY) :=
  if (8 : Int32) < l6 then
    cb96_154 n  l0 l1 l2 l3 l4 l5 l6 h
  else
    if l5 = 0 then
      cb96_154 n  l0 l1 l2 l3 l4 l5 l6 h
    else
      zgd (yisO h l4 7) <|
      (c97 n l4 h).bind fun p5 =>
      zgd (yisO p5.2 l0 5) <|
      (c98 n l0 p5.1 p5.2).bind fun p11 => zth p11 (fun r8 h9 =>
        zgd (yisO h9 l0 5) <|
        (c71 n l0 (some 12) h9).bind fun p17 => zth p17 (fun r14 h15 =>
          zgd (yisO h15 l0 5) <|
          (c99 n l0 l1 h15).bind fun p23 => zth p23 (fun r20 h21 =>
            zgd (yisO h21 l4 7) <|
            (c102 n l4 r8 r20 h21).bind fun p26 =>
            (yR p26.2 l0 5 3).bind fun x27 =>
            x27.bind fun a29 =>
            (yR p26.2 a29 9 0).bind fun x30 =>
            (rEq x30 (some 11)).bind fun b32 =>
            if b32 = true then
              cb96_133 n r72 l0 l1 l2 l3 l4 l5 l6 r8 1 p26.2
            else
              cb96_133 n r72 l0 l1 l2 l3 l4 l5 l6 r8 0 p26.2)
            (fun x22 h21 =>
            zgd (exOk x22) <| some (.inr x22, h21)))
          (fun x16 h15 =>
          zgd (exOk x16) <| some (.inr x16, h15)))
        (fun x10 h9 =>
        zgd (exOk x10) <| some (.inr x10, h9))
set_option maxRecDepth 20000 in
theorem kb96_72 {n : Nat} {Mm : Nat → Option zO}  {q72 : Nat → Option Nat → Option Nat → Option Nat → Nat → Int32 → Int32 → zY → Option ((Option Nat ⊕ Nat) × zY)} {r72 : Nat → Option Nat → Option Nat → Option Nat → Nat → Int32 → Int32 → zH → Option ((Option Nat ⊕ Nat) × zH)}  (hr72 : ∀ {l0 : Nat} {l1 : Option Nat} {l2 : Option Nat} {l3 : Option Nat} {l4 : Nat} {l5 : Int32} {l6 : Int32}  {kh : zH} {h : zY} {p : (Option Nat ⊕ Nat) × zY}, Rep Mm kh h → q72 l0 l1 l2 l3 l4 l5 l6 h = some p → ∃ kh1 : zH, r72 l0 l1 l2 l3 l4 l5 l6 kh = some (p.1, kh1) ∧ Rep Mm kh1 p.2) {l0 : Nat} {l1 : Option Nat} {l2 : Option Nat} {l3 : Option Nat} {l4 : Nat} {l5 : Int32} {l6 : Int32}  {kh : zH} {h : zY} {p : (Option Nat ⊕ Nat) × zY} (hR : Rep Mm kh h) (hG : cb96_72 n  q72 l0 l1 l2 l3 l4 l5 l6 h = some p) : ∃ kh1 : zH, b96_72 n  r72 l0 l1 l2 l3 l4 l5 l6 kh = some (p.1, kh1) ∧ Rep Mm kh1 p.2 := by
  unfold cb96_72 at hG
  unfold b96_72
  by_cases c1 : (8 : Int32) < l6
  · rw [if_pos c1] at hG
    refine iE1 c1 ?_
    exact kb96_154 (n := n) hR hG
  · rw [if_neg c1] at hG
    refine iE2 c1 ?_
    by_cases c2 : l5 = 0
    · rw [if_pos c2] at hG
      refine iE1 c2 ?_
      exact kb96_154 (n := n) hR hG
    · rw [if_neg c2] at hG
      refine iE2 c2 ?_
      replace hG := zgd_some hG
      obtain ⟨g3, hG⟩ := hG
      refine zE (k_isO hR g3) ?_
      replace hG := zbnd hG
      obtain ⟨p5, e4, hG⟩ := hG
      have hT := k97 hR e4
      clear hR
      obtain ⟨kh5, e6, hR⟩ := hT
      refine bE e6 ?_
      replace hG := zgd_some hG
      obtain ⟨g7, hG⟩ := hG
      refine zE (k_isO hR g7) ?_
      replace hG := zbnd hG
      obtain ⟨⟨r8, h9⟩, e8, hG⟩ := hG
      have hT := k98 hR e8
      clear hR
      obtain ⟨kh9, e10, hR⟩ := hT
      refine bE e10 ?_
      rcases r8 with r8 | x10
      · replace hG := zthG hG
        refine zthEl ?_
        replace hG := zgd_some hG
        obtain ⟨g11, hG⟩ := hG
        refine zE (k_isO hR g11) ?_
        replace hG := zbnd hG
        obtain ⟨⟨r14, h15⟩, e12, hG⟩ := hG
        have hT := k71 hR e12
        clear hR
        obtain ⟨kh13, e14, hR⟩ := hT
        refine bE e14 ?_
        rcases r14 with r14 | x16
        · replace hG := zthG hG
          refine zthEl ?_
          replace hG := zgd_some hG
          obtain ⟨g15, hG⟩ := hG
          refine zE (k_isO hR g15) ?_
          replace hG := zbnd hG
          obtain ⟨⟨r20, h21⟩, e16, hG⟩ := hG
          have hT := k99 hR e16
          clear hR
          obtain ⟨kh17, e18, hR⟩ := hT
          refine bE e18 ?_
          rcases r20 with r20 | x22
          · replace hG := zthG hG
            refine zthEl ?_
            replace hG := zgd_some hG
            obtain ⟨g19, hG⟩ := hG
            refine zE (k_isO hR g19) ?_
            replace hG := zbnd hG
            obtain ⟨p26, e20, hG⟩ := hG
            have hT := k102 hR e20
            clear hR
            obtain ⟨kh21, e22, hR⟩ := hT
            refine bE e22 ?_
            replace hG := zbnd hG
            obtain ⟨x27, e23, hG⟩ := hG
            refine bE (k_gR hR e23) ?_
            replace hG := zbnd hG
            obtain ⟨a29, rfl, hG⟩ := hG
            refine bE rfl ?_
            replace hG := zbnd hG
            obtain ⟨x30, e25, hG⟩ := hG
            refine bE (k_gR hR e25) ?_
            replace hG := zbnd hG
            obtain ⟨b32, e26, hG⟩ := hG
            refine bE e26 ?_
            by_cases c27 : b32 = true
            · rw [if_pos c27] at hG
              refine iE1 c27 ?_
              exact kb96_133 (n := n) (q72 := q72) (r72 := r72) hr72 hR hG
            · rw [if_neg c27] at hG
              refine iE2 c27 ?_
              exact kb96_133 (n := n) (q72 := q72) (r72 := r72) hr72 hR hG
          · replace hG := zthH hG
            refine zthEr ?_
            replace hG := zgd_some hG
            obtain ⟨g28, hG⟩ := hG
            refine zE g28 ?_
            replace hG := Option.some.inj hG
            subst hG
            exact ⟨_, rfl, hR⟩
        · replace hG := zthH hG
          refine zthEr ?_
          replace hG := zgd_some hG
          obtain ⟨g29, hG⟩ := hG
          refine zE g29 ?_
          replace hG := Option.some.inj hG
          subst hG
          exact ⟨_, rfl, hR⟩
      · replace hG := zthH hG
        refine zthEr ?_
        replace hG := zgd_some hG
        obtain ⟨g30, hG⟩ := hG
        refine zE g30 ?_
        replace hG := Option.some.inj hG
        subst hG
        exact ⟨_, rfl, hR⟩
def cf96_72 (n : Nat)   (k : Nat) : Nat → Option Nat → Option Nat → Option Nat → Nat → Int32 → Int32 → zY → Option ((Option Nat ⊕ Nat) × zY) := Nat.rec (fun _ _ _ _ _ _ _ _ => none) (fun _ ih => cb96_72 n  ih) k
theorem kf96_72 {n : Nat} {Mm : Nat → Option zO}     (k : Nat) : ∀ {l0 : Nat} {l1 : Option Nat} {l2 : Option Nat} {l3 : Option Nat} {l4 : Nat} {l5 : Int32} {l6 : Int32}  {kh : zH} {h : zY} {p : (Option Nat ⊕ Nat) × zY}, Rep Mm kh h → cf96_72 n   k l0 l1 l2 l3 l4 l5 l6 h = some p → ∃ kh1 : zH, f96_72 n   k l0 l1 l2 l3 l4 l5 l6 kh = some (p.1, kh1) ∧ Rep Mm kh1 p.2 := by
  induction k with
  | zero => intros; rename_i hG; cases hG
  | succ k ih => intros; rename_i hR hG; exact kb96_72 (n := n) (q72 := cf96_72 n   k) (r72 := f96_72 n   k)  ih hR hG
def c96 (n : Nat)  (y0 : Nat) (y1 : Option Nat) (h : zY) : Option ((Option Nat ⊕ Nat) × zY) :=
  (yR h y0 5 0).bind fun x1 =>
  x1.bind fun a3 =>
  (yR h a3 4 7).bind fun x4 =>
  x4.bind fun a6 =>
  zgd (yisO h a6 14) <|
  (c68 n a6 h).bind fun p9 =>
  zgd (yisO p9.2 y0 5) <|
  (c69 n y0 p9.1 100 p9.2).bind fun p15 => zth p15 (fun r12 h13 =>
    zgd (yisO h13 y0 5) <|
    (c71 n y0 (some 3) h13).bind fun p21 => zth p21 (fun r18 h19 =>
      zgd (yisO h19 y0 5) <|
      (c71 n y0 (some 5) h19).bind fun p27 => zth p27 (fun r24 h25 =>
        (c92 n h25.2.1 r18 r24 8 (yN h25 7 5)).bind fun p29 =>
        (yR p29.2 y0 5 0).bind fun x30 =>
        x30.bind fun a32 =>
        (yR p29.2 a32 4 7).bind fun x33 =>
        x33.bind fun a35 =>
        zgd (yisO p29.2 a35 14) <|
        (c86 n a35 (some h25.2.1) p29.2).bind fun p38 =>
        zgd (yisO p38.2 y0 5) <|
        (c71 n y0 (some 8) p38.2).bind fun p44 => zth p44 (fun r41 h42 =>
          cf96_72 n  n y0 y1 r18 r24 h25.2.1 1 0 h42)
          (fun x43 h42 =>
          zgd (exOk x43) <| some (.inr x43, h42)))
        (fun x26 h25 =>
        zgd (exOk x26) <| some (.inr x26, h25)))
      (fun x20 h19 =>
      zgd (exOk x20) <| some (.inr x20, h19)))
    (fun x14 h13 =>
    zgd (exOk x14) <| some (.inr x14, h13))
set_option maxRecDepth 20000 in
theorem k96 {n : Nat} {Mm : Nat → Option zO}   {y0 : Nat} {y1 : Option Nat} {kh : zH} {h : zY} {p : (Option Nat ⊕ Nat) × zY} (hR : Rep Mm kh h) (hG : c96 n  y0 y1 h = some p) : ∃ kh1 : zH, f96 n  y0 y1 kh = some (p.1, kh1) ∧ Rep Mm kh1 p.2 := by
  unfold c96 at hG
  unfold f96
  replace hG := zbnd hG
  obtain ⟨x1, e1, hG⟩ := hG
  refine bE (k_gR hR e1) ?_
  replace hG := zbnd hG
  obtain ⟨a3, rfl, hG⟩ := hG
  refine bE rfl ?_
  replace hG := zbnd hG
  obtain ⟨x4, e3, hG⟩ := hG
  refine bE (k_gR hR e3) ?_
  replace hG := zbnd hG
  obtain ⟨a6, rfl, hG⟩ := hG
  refine bE rfl ?_
  replace hG := zgd_some hG
  obtain ⟨g5, hG⟩ := hG
  refine zE (k_isO hR g5) ?_
  replace hG := zbnd hG
  obtain ⟨p9, e6, hG⟩ := hG
  have hT := k68 hR e6
  clear hR
  obtain ⟨kh7, e8, hR⟩ := hT
  refine bE e8 ?_
  replace hG := zgd_some hG
  obtain ⟨g9, hG⟩ := hG
  refine zE (k_isO hR g9) ?_
  replace hG := zbnd hG
  obtain ⟨⟨r12, h13⟩, e10, hG⟩ := hG
  have hT := k69 hR e10
  clear hR
  obtain ⟨kh11, e12, hR⟩ := hT
  refine bE e12 ?_
  rcases r12 with r12 | x14
  · replace hG := zthG hG
    refine zthEl ?_
    replace hG := zgd_some hG
    obtain ⟨g13, hG⟩ := hG
    refine zE (k_isO hR g13) ?_
    replace hG := zbnd hG
    obtain ⟨⟨r18, h19⟩, e14, hG⟩ := hG
    have hT := k71 hR e14
    clear hR
    obtain ⟨kh15, e16, hR⟩ := hT
    refine bE e16 ?_
    rcases r18 with r18 | x20
    · replace hG := zthG hG
      refine zthEl ?_
      replace hG := zgd_some hG
      obtain ⟨g17, hG⟩ := hG
      refine zE (k_isO hR g17) ?_
      replace hG := zbnd hG
      obtain ⟨⟨r24, h25⟩, e18, hG⟩ := hG
      have hT := k71 hR e18
      clear hR
      obtain ⟨kh19, e20, hR⟩ := hT
      refine bE e20 ?_
      rcases r24 with r24 | x26
      · replace hG := zthG hG
        refine zthEl ?_
        try rw [rep_n hR] at hG
        replace hR := k_nO (ci := 7) (n := 5) hR
        replace hG := zbnd hG
        obtain ⟨p29, e21, hG⟩ := hG
        have hT := k92 hR e21
        clear hR
        obtain ⟨kh22, e23, hR⟩ := hT
        refine bE e23 ?_
        replace hG := zbnd hG
        obtain ⟨x30, e24, hG⟩ := hG
        refine bE (k_gR hR e24) ?_
        replace hG := zbnd hG
        obtain ⟨a32, rfl, hG⟩ := hG
        refine bE rfl ?_
        replace hG := zbnd hG
        obtain ⟨x33, e26, hG⟩ := hG
        refine bE (k_gR hR e26) ?_
        replace hG := zbnd hG
        obtain ⟨a35, rfl, hG⟩ := hG
        refine bE rfl ?_
        replace hG := zgd_some hG
        obtain ⟨g28, hG⟩ := hG
        refine zE (k_isO hR g28) ?_
        replace hG := zbnd hG
        obtain ⟨p38, e29, hG⟩ := hG
        have hT := k86 hR e29
        clear hR
        obtain ⟨kh30, e31, hR⟩ := hT
        refine bE e31 ?_
        replace hG := zgd_some hG
        obtain ⟨g32, hG⟩ := hG
        refine zE (k_isO hR g32) ?_
        replace hG := zbnd hG
        obtain ⟨⟨r41, h42⟩, e33, hG⟩ := hG
        have hT := k71 hR e33
        clear hR
        obtain ⟨kh34, e35, hR⟩ := hT
        refine bE e35 ?_
        rcases r41 with r41 | x43
        · replace hG := zthG hG
          refine zthEl ?_
          exact kf96_72 (n := n) n hR hG
        · replace hG := zthH hG
          refine zthEr ?_
          replace hG := zgd_some hG
          obtain ⟨g36, hG⟩ := hG
          refine zE g36 ?_
          replace hG := Option.some.inj hG
          subst hG
          exact ⟨_, rfl, hR⟩
      · replace hG := zthH hG
        refine zthEr ?_
        replace hG := zgd_some hG
        obtain ⟨g37, hG⟩ := hG
        refine zE g37 ?_
        replace hG := Option.some.inj hG
        subst hG
        exact ⟨_, rfl, hR⟩
    · replace hG := zthH hG
      refine zthEr ?_
      replace hG := zgd_some hG
      obtain ⟨g38, hG⟩ := hG
      refine zE g38 ?_
      replace hG := Option.some.inj hG
      subst hG
      exact ⟨_, rfl, hR⟩
  · replace hG := zthH hG
    refine zthEr ?_
    replace hG := zgd_some hG
    obtain ⟨g39, hG⟩ := hG
    refine zE g39 ?_
    replace hG := Option.some.inj hG
    subst hG
    exact ⟨_, rfl, hR⟩
def c104 (n : Nat)  (y0 : Nat) (y1 : Option Nat) (h : zY) : Option ((Option Nat ⊕ Nat) × zY) :=
  (yR h y0 5 0).bind fun x1 =>
  x1.bind fun a3 =>
  (yR h a3 4 7).bind fun x4 =>
  x4.bind fun a6 =>
  zgd (yisO h a6 14) <|
  (c68 n a6 h).bind fun p9 =>
  zgd (yisO p9.2 y0 5) <|
  (c69 n y0 p9.1 100 p9.2).bind fun p15 => zth p15 (fun r12 h13 =>
    zgd (yisO h13 y0 5) <|
    (c98 n y0 0 h13).bind fun p21 => zth p21 (fun r18 h19 =>
      zgd (yisO h19 y0 5) <|
      (c71 n y0 (some 3) h19).bind fun p27 => zth p27 (fun r24 h25 =>
        zgd (yisO h25 y0 5) <|
        (c71 n y0 (some 5) h25).bind fun p33 => zth p33 (fun r30 h31 =>
          (c92 n h31.2.1 r24 r30 2 (yN h31 7 5)).bind fun p35 =>
          (yR p35.2 y0 5 0).bind fun x36 =>
          x36.bind fun a38 =>
          (yR p35.2 a38 4 7).bind fun x39 =>
          x39.bind fun a41 =>
          zgd (yisO p35.2 a41 14) <|
          (c86 n a41 (some h31.2.1) p35.2).bind fun p44 =>
          zgd (yisO p44.2 y0 5) <|
          (c99 n y0 y1 p44.2).bind fun p50 => zth p50 (fun r47 h48 =>
            zgd (yisO h48 h31.2.1 7) <|
            (c102 n h31.2.1 r18 r47 h48).bind fun p53 =>
            zgd (yisO p53.2 y0 5) <|
            (c71 n y0 (some 29) p53.2).bind fun p59 => zth p59 (fun r56 h57 =>
              zgd (yisO h57 y0 5) <|
              (c99 n y0 y1 h57).bind fun p65 => zth p65 (fun r62 h63 =>
                zgd (yisO h63 h31.2.1 7) <|
                (c102 n h31.2.1 (10000 - r18) r62 h63).bind fun p68 =>
                some (.inl (some h31.2.1), p68.2))
                (fun x64 h63 =>
                zgd (exOk x64) <| some (.inr x64, h63)))
              (fun x58 h57 =>
              zgd (exOk x58) <| some (.inr x58, h57)))
            (fun x49 h48 =>
            zgd (exOk x49) <| some (.inr x49, h48)))
          (fun x32 h31 =>
          zgd (exOk x32) <| some (.inr x32, h31)))
        (fun x26 h25 =>
        zgd (exOk x26) <| some (.inr x26, h25)))
      (fun x20 h19 =>
      zgd (exOk x20) <| some (.inr x20, h19)))
    (fun x14 h13 =>
    zgd (exOk x14) <| some (.inr x14, h13))
set_option maxRecDepth 20000 in
theorem k104 {n : Nat} {Mm : Nat → Option zO}   {y0 : Nat} {y1 : Option Nat} {kh : zH} {h : zY} {p : (Option Nat ⊕ Nat) × zY} (hR : Rep Mm kh h) (hG : c104 n  y0 y1 h = some p) : ∃ kh1 : zH, f104 n  y0 y1 kh = some (p.1, kh1) ∧ Rep Mm kh1 p.2 := by
  unfold c104 at hG
  unfold f104
  replace hG := zbnd hG
  obtain ⟨x1, e1, hG⟩ := hG
  refine bE (k_gR hR e1) ?_
  replace hG := zbnd hG
  obtain ⟨a3, rfl, hG⟩ := hG
  refine bE rfl ?_
  replace hG := zbnd hG
  obtain ⟨x4, e3, hG⟩ := hG
  refine bE (k_gR hR e3) ?_
  replace hG := zbnd hG
  obtain ⟨a6, rfl, hG⟩ := hG
  refine bE rfl ?_
  replace hG := zgd_some hG
  obtain ⟨g5, hG⟩ := hG
  refine zE (k_isO hR g5) ?_
  replace hG := zbnd hG
  obtain ⟨p9, e6, hG⟩ := hG
  have hT := k68 hR e6
  clear hR
  obtain ⟨kh7, e8, hR⟩ := hT
  refine bE e8 ?_
  replace hG := zgd_some hG
  obtain ⟨g9, hG⟩ := hG
  refine zE (k_isO hR g9) ?_
  replace hG := zbnd hG
  obtain ⟨⟨r12, h13⟩, e10, hG⟩ := hG
  have hT := k69 hR e10
  clear hR
  obtain ⟨kh11, e12, hR⟩ := hT
  refine bE e12 ?_
  rcases r12 with r12 | x14
  · replace hG := zthG hG
    refine zthEl ?_
    replace hG := zgd_some hG
    obtain ⟨g13, hG⟩ := hG
    refine zE (k_isO hR g13) ?_
    replace hG := zbnd hG
    obtain ⟨⟨r18, h19⟩, e14, hG⟩ := hG
    have hT := k98 hR e14
    clear hR
    obtain ⟨kh15, e16, hR⟩ := hT
    refine bE e16 ?_
    rcases r18 with r18 | x20
    · replace hG := zthG hG
      refine zthEl ?_
      replace hG := zgd_some hG
      obtain ⟨g17, hG⟩ := hG
      refine zE (k_isO hR g17) ?_
      replace hG := zbnd hG
      obtain ⟨⟨r24, h25⟩, e18, hG⟩ := hG
      have hT := k71 hR e18
      clear hR
      obtain ⟨kh19, e20, hR⟩ := hT
      refine bE e20 ?_
      rcases r24 with r24 | x26
      · replace hG := zthG hG
        refine zthEl ?_
        replace hG := zgd_some hG
        obtain ⟨g21, hG⟩ := hG
        refine zE (k_isO hR g21) ?_
        replace hG := zbnd hG
        obtain ⟨⟨r30, h31⟩, e22, hG⟩ := hG
        have hT := k71 hR e22
        clear hR
        obtain ⟨kh23, e24, hR⟩ := hT
        refine bE e24 ?_
        rcases r30 with r30 | x32
        · replace hG := zthG hG
          refine zthEl ?_
          try rw [rep_n hR] at hG
          replace hR := k_nO (ci := 7) (n := 5) hR
          replace hG := zbnd hG
          obtain ⟨p35, e25, hG⟩ := hG
          have hT := k92 hR e25
          clear hR
          obtain ⟨kh26, e27, hR⟩ := hT
          refine bE e27 ?_
          replace hG := zbnd hG
          obtain ⟨x36, e28, hG⟩ := hG
          refine bE (k_gR hR e28) ?_
          replace hG := zbnd hG
          obtain ⟨a38, rfl, hG⟩ := hG
          refine bE rfl ?_
          replace hG := zbnd hG
          obtain ⟨x39, e30, hG⟩ := hG
          refine bE (k_gR hR e30) ?_
          replace hG := zbnd hG
          obtain ⟨a41, rfl, hG⟩ := hG
          refine bE rfl ?_
          replace hG := zgd_some hG
          obtain ⟨g32, hG⟩ := hG
          refine zE (k_isO hR g32) ?_
          replace hG := zbnd hG
          obtain ⟨p44, e33, hG⟩ := hG
          have hT := k86 hR e33
          clear hR
          obtain ⟨kh34, e35, hR⟩ := hT
          refine bE e35 ?_
          replace hG := zgd_some hG
          obtain ⟨g36, hG⟩ := hG
          refine zE (k_isO hR g36) ?_
          replace hG := zbnd hG
          obtain ⟨⟨r47, h48⟩, e37, hG⟩ := hG
          have hT := k99 hR e37
          clear hR
          obtain ⟨kh38, e39, hR⟩ := hT
          refine bE e39 ?_
          rcases r47 with r47 | x49
          · replace hG := zthG hG
            refine zthEl ?_
            replace hG := zgd_some hG
            obtain ⟨g40, hG⟩ := hG
            refine zE (k_isO hR g40) ?_
            replace hG := zbnd hG
            obtain ⟨p53, e41, hG⟩ := hG
            have hT := k102 hR e41
            clear hR
            obtain ⟨kh42, e43, hR⟩ := hT
            refine bE e43 ?_
            replace hG := zgd_some hG
            obtain ⟨g44, hG⟩ := hG
            refine zE (k_isO hR g44) ?_
            replace hG := zbnd hG
            obtain ⟨⟨r56, h57⟩, e45, hG⟩ := hG
            have hT := k71 hR e45
            clear hR
            obtain ⟨kh46, e47, hR⟩ := hT
            refine bE e47 ?_
            rcases r56 with r56 | x58
            · replace hG := zthG hG
              refine zthEl ?_
              replace hG := zgd_some hG
              obtain ⟨g48, hG⟩ := hG
              refine zE (k_isO hR g48) ?_
              replace hG := zbnd hG
              obtain ⟨⟨r62, h63⟩, e49, hG⟩ := hG
              have hT := k99 hR e49
              clear hR
              obtain ⟨kh50, e51, hR⟩ := hT
              refine bE e51 ?_
              rcases r62 with r62 | x64
              · replace hG := zthG hG
                refine zthEl ?_
                replace hG := zgd_some hG
                obtain ⟨g52, hG⟩ := hG
                refine zE (k_isO hR g52) ?_
                replace hG := zbnd hG
                obtain ⟨p68, e53, hG⟩ := hG
                have hT := k102 hR e53
                clear hR
                obtain ⟨kh54, e55, hR⟩ := hT
                refine bE e55 ?_
                replace hG := Option.some.inj hG
                subst hG
                exact ⟨_, rfl, hR⟩
              · replace hG := zthH hG
                refine zthEr ?_
                replace hG := zgd_some hG
                obtain ⟨g56, hG⟩ := hG
                refine zE g56 ?_
                replace hG := Option.some.inj hG
                subst hG
                exact ⟨_, rfl, hR⟩
            · replace hG := zthH hG
              refine zthEr ?_
              replace hG := zgd_some hG
              obtain ⟨g57, hG⟩ := hG
              refine zE g57 ?_
              replace hG := Option.some.inj hG
              subst hG
              exact ⟨_, rfl, hR⟩
          · replace hG := zthH hG
            refine zthEr ?_
            replace hG := zgd_some hG
            obtain ⟨g58, hG⟩ := hG
            refine zE g58 ?_
            replace hG := Option.some.inj hG
            subst hG
            exact ⟨_, rfl, hR⟩
        · replace hG := zthH hG
          refine zthEr ?_
          replace hG := zgd_some hG
          obtain ⟨g59, hG⟩ := hG
          refine zE g59 ?_
          replace hG := Option.some.inj hG
          subst hG
          exact ⟨_, rfl, hR⟩
      · replace hG := zthH hG
        refine zthEr ?_
        replace hG := zgd_some hG
        obtain ⟨g60, hG⟩ := hG
        refine zE g60 ?_
        replace hG := Option.some.inj hG
        subst hG
        exact ⟨_, rfl, hR⟩
    · replace hG := zthH hG
      refine zthEr ?_
      replace hG := zgd_some hG
      obtain ⟨g61, hG⟩ := hG
      refine zE g61 ?_
      replace hG := Option.some.inj hG
      subst hG
      exact ⟨_, rfl, hR⟩
  · replace hG := zthH hG
    refine zthEr ?_
    replace hG := zgd_some hG
    obtain ⟨g62, hG⟩ := hG
    refine zE g62 ?_
    replace hG := Option.some.inj hG
    subst hG
    exact ⟨_, rfl, hR⟩
def cb95_67 (n : Nat)   (l0 : Nat) (l1 : Option Nat) (l2 : Option Nat) (h : zY) : Option ((Option Nat ⊕ Nat) × zY) :=
  zgd (yisO h l0 5) <|
  (c71 n l0 (some 10) h).bind fun p6 => zth p6 (fun r3 h4 =>
    some (.inl l2, h4))
    (fun x5 h4 =>
    zgd (exOk x5) <| some (.inr x5, h4))
set_option maxRecDepth 20000 in
theorem kb95_67 {n : Nat} {Mm : Nat → Option zO}     {l0 : Nat} {l1 : Option Nat} {l2 : Option Nat}  {kh : zH} {h : zY} {p : (Option Nat ⊕ Nat) × zY} (hR : Rep Mm kh h) (hG : cb95_67 n   l0 l1 l2 h = some p) : ∃ kh1 : zH, b95_67 n   l0 l1 l2 kh = some (p.1, kh1) ∧ Rep Mm kh1 p.2 := by
  unfold cb95_67 at hG
  unfold b95_67
  replace hG := zgd_some hG
  obtain ⟨g1, hG⟩ := hG
  refine zE (k_isO hR g1) ?_
  replace hG := zbnd hG
  obtain ⟨⟨r3, h4⟩, e2, hG⟩ := hG
  have hT := k71 hR e2
  clear hR
  obtain ⟨kh3, e4, hR⟩ := hT
  refine bE e4 ?_
  rcases r3 with r3 | x5
  · replace hG := zthG hG
    refine zthEl ?_
    replace hG := Option.some.inj hG
    subst hG
    exact ⟨_, rfl, hR⟩
  · replace hG := zthH hG
    refine zthEr ?_
    replace hG := zgd_some hG
    obtain ⟨g5, hG⟩ := hG
    refine zE g5 ?_
    replace hG := Option.some.inj hG
    subst hG
    exact ⟨_, rfl, hR⟩
def c95 (n : Nat)  (y0 : Nat) (y1 : Option Nat) (h : zY) : Option ((Option Nat ⊕ Nat) × zY) :=
  (yR h y0 5 3).bind fun x1 =>
  x1.bind fun a3 =>
  (yR h a3 9 0).bind fun x4 =>
  (rEq x4 (some 27)).bind fun b6 =>
  if b6 = true then
    zgd (yisO h y0 5) <|
    (c96 n y0 y1 h).bind fun p14 => zth p14 (fun r11 h12 =>
      cb95_67 n  y0 y1 r11 h12)
      (fun x13 h12 =>
      zgd (exOk x13) <| some (.inr x13, h12))
  else
    (yR h y0 5 3).bind fun x15 =>
    x15.bind fun a17 =>
    (yR h a17 9 0).bind fun x18 =>
    (rEq x18 (some 28)).bind fun b20 =>
    if b20 = true then
      zgd (yisO h y0 5) <|
      (c104 n y0 y1 h).bind fun p28 => zth p28 (fun r25 h26 =>
        cb95_67 n  y0 y1 r25 h26)
        (fun x27 h26 =>
        zgd (exOk x27) <| some (.inr x27, h26))
    else
      (c92 n h.2.1 none none 1 (yN h 7 5)).bind fun p30 =>
      zgd (yisO p30.2 y0 5) <|
      (c99 n y0 y1 p30.2).bind fun p36 => zth p36 (fun r33 h34 =>
        zgd (yisO h34 h.2.1 7) <|
        (c102 n h.2.1 10000 r33 h34).bind fun p39 =>
        cb95_67 n  y0 y1 (some h.2.1) p39.2)
        (fun x35 h34 =>
        zgd (exOk x35) <| some (.inr x35, h34))
set_option maxRecDepth 20000 in
theorem k95 {n : Nat} {Mm : Nat → Option zO}   {y0 : Nat} {y1 : Option Nat} {kh : zH} {h : zY} {p : (Option Nat ⊕ Nat) × zY} (hR : Rep Mm kh h) (hG : c95 n  y0 y1 h = some p) : ∃ kh1 : zH, f95 n  y0 y1 kh = some (p.1, kh1) ∧ Rep Mm kh1 p.2 := by
  unfold c95 at hG
  unfold f95
  replace hG := zbnd hG
  obtain ⟨x1, e1, hG⟩ := hG
  refine bE (k_gR hR e1) ?_
  replace hG := zbnd hG
  obtain ⟨a3, rfl, hG⟩ := hG
  refine bE rfl ?_
  replace hG := zbnd hG
  obtain ⟨x4, e3, hG⟩ := hG
  refine bE (k_gR hR e3) ?_
  replace hG := zbnd hG
  obtain ⟨b6, e4, hG⟩ := hG
  refine bE e4 ?_
  by_cases c5 : b6 = true
  · rw [if_pos c5] at hG
    refine iE1 c5 ?_
    replace hG := zgd_some hG
    obtain ⟨g6, hG⟩ := hG
    refine zE (k_isO hR g6) ?_
    replace hG := zbnd hG
    obtain ⟨⟨r11, h12⟩, e7, hG⟩ := hG
    have hT := k96 hR e7
    clear hR
    obtain ⟨kh8, e9, hR⟩ := hT
    refine bE e9 ?_
    rcases r11 with r11 | x13
    · replace hG := zthG hG
      refine zthEl ?_
      exact kb95_67 (n := n) hR hG
    · replace hG := zthH hG
      refine zthEr ?_
      replace hG := zgd_some hG
      obtain ⟨g10, hG⟩ := hG
      refine zE g10 ?_
      replace hG := Option.some.inj hG
      subst hG
      exact ⟨_, rfl, hR⟩
  · rw [if_neg c5] at hG
    refine iE2 c5 ?_
    replace hG := zbnd hG
    obtain ⟨x15, e11, hG⟩ := hG
    refine bE (k_gR hR e11) ?_
    replace hG := zbnd hG
    obtain ⟨a17, rfl, hG⟩ := hG
    refine bE rfl ?_
    replace hG := zbnd hG
    obtain ⟨x18, e13, hG⟩ := hG
    refine bE (k_gR hR e13) ?_
    replace hG := zbnd hG
    obtain ⟨b20, e14, hG⟩ := hG
    refine bE e14 ?_
    by_cases c15 : b20 = true
    · rw [if_pos c15] at hG
      refine iE1 c15 ?_
      replace hG := zgd_some hG
      obtain ⟨g16, hG⟩ := hG
      refine zE (k_isO hR g16) ?_
      replace hG := zbnd hG
      obtain ⟨⟨r25, h26⟩, e17, hG⟩ := hG
      have hT := k104 hR e17
      clear hR
      obtain ⟨kh18, e19, hR⟩ := hT
      refine bE e19 ?_
      rcases r25 with r25 | x27
      · replace hG := zthG hG
        refine zthEl ?_
        exact kb95_67 (n := n) hR hG
      · replace hG := zthH hG
        refine zthEr ?_
        replace hG := zgd_some hG
        obtain ⟨g20, hG⟩ := hG
        refine zE g20 ?_
        replace hG := Option.some.inj hG
        subst hG
        exact ⟨_, rfl, hR⟩
    · rw [if_neg c15] at hG
      refine iE2 c15 ?_
      try rw [rep_n hR] at hG
      replace hR := k_nO (ci := 7) (n := 5) hR
      replace hG := zbnd hG
      obtain ⟨p30, e21, hG⟩ := hG
      have hT := k92 hR e21
      clear hR
      obtain ⟨kh22, e23, hR⟩ := hT
      refine bE e23 ?_
      replace hG := zgd_some hG
      obtain ⟨g24, hG⟩ := hG
      refine zE (k_isO hR g24) ?_
      replace hG := zbnd hG
      obtain ⟨⟨r33, h34⟩, e25, hG⟩ := hG
      have hT := k99 hR e25
      clear hR
      obtain ⟨kh26, e27, hR⟩ := hT
      refine bE e27 ?_
      rcases r33 with r33 | x35
      · replace hG := zthG hG
        refine zthEl ?_
        replace hG := zgd_some hG
        obtain ⟨g28, hG⟩ := hG
        refine zE (k_isO hR g28) ?_
        replace hG := zbnd hG
        obtain ⟨p39, e29, hG⟩ := hG
        have hT := k102 hR e29
        clear hR
        obtain ⟨kh30, e31, hR⟩ := hT
        refine bE e31 ?_
        exact kb95_67 (n := n) hR hG
      · replace hG := zthH hG
        refine zthEr ?_
        replace hG := zgd_some hG
        obtain ⟨g32, hG⟩ := hG
        refine zE g32 ?_
        replace hG := Option.some.inj hG
        subst hG
        exact ⟨_, rfl, hR⟩
def cb105_106 (n : Nat)   (l0 : Nat) (l1 : Option Nat) (l2 : Int32) (h : zY) : Option ((Unit ⊕ Nat) × zY) :=
  l1.bind fun a1 =>
  (yR h a1 0 3).bind fun x2 =>
  (yR h l0 5 3).bind fun x4 =>
  x4.bind fun a6 =>
  (yR h a6 9 0).bind fun x7 =>
  zgd (yisO h l0 5) <|
  (c71 n l0 x7 h).bind fun p14 => zth p14 (fun r11 h12 =>
    x2.bind fun a15 =>
    zgd (yisO h12 a15 14) <|
    (c86 n a15 r11 h12).bind fun p18 =>
    zgd (yisO p18.2 l0 5) <|
    (c71 n l0 (some 10) p18.2).bind fun p24 => zth p24 (fun r21 h22 =>
      some (.inl (), h22))
      (fun x23 h22 =>
      zgd (exOk x23) <| some (.inr x23, h22)))
    (fun x13 h12 =>
    zgd (exOk x13) <| some (.inr x13, h12))
set_option maxRecDepth 20000 in
theorem kb105_106 {n : Nat} {Mm : Nat → Option zO}     {l0 : Nat} {l1 : Option Nat} {l2 : Int32}  {kh : zH} {h : zY} {p : (Unit ⊕ Nat) × zY} (hR : Rep Mm kh h) (hG : cb105_106 n   l0 l1 l2 h = some p) : ∃ kh1 : zH, b105_106 n   l0 l1 l2 kh = some (p.1, kh1) ∧ Rep Mm kh1 p.2 := by
  unfold cb105_106 at hG
  unfold b105_106
  replace hG := zbnd hG
  obtain ⟨a1, rfl, hG⟩ := hG
  refine bE rfl ?_
  replace hG := zbnd hG
  obtain ⟨x2, e2, hG⟩ := hG
  refine bE (k_gR hR e2) ?_
  replace hG := zbnd hG
  obtain ⟨x4, e3, hG⟩ := hG
  refine bE (k_gR hR e3) ?_
  replace hG := zbnd hG
  obtain ⟨a6, rfl, hG⟩ := hG
  refine bE rfl ?_
  replace hG := zbnd hG
  obtain ⟨x7, e5, hG⟩ := hG
  refine bE (k_gR hR e5) ?_
  replace hG := zgd_some hG
  obtain ⟨g6, hG⟩ := hG
  refine zE (k_isO hR g6) ?_
  replace hG := zbnd hG
  obtain ⟨⟨r11, h12⟩, e7, hG⟩ := hG
  have hT := k71 hR e7
  clear hR
  obtain ⟨kh8, e9, hR⟩ := hT
  refine bE e9 ?_
  rcases r11 with r11 | x13
  · replace hG := zthG hG
    refine zthEl ?_
    replace hG := zbnd hG
    obtain ⟨a15, rfl, hG⟩ := hG
    refine bE rfl ?_
    replace hG := zgd_some hG
    obtain ⟨g11, hG⟩ := hG
    refine zE (k_isO hR g11) ?_
    replace hG := zbnd hG
    obtain ⟨p18, e12, hG⟩ := hG
    have hT := k86 hR e12
    clear hR
    obtain ⟨kh13, e14, hR⟩ := hT
    refine bE e14 ?_
    replace hG := zgd_some hG
    obtain ⟨g15, hG⟩ := hG
    refine zE (k_isO hR g15) ?_
    replace hG := zbnd hG
    obtain ⟨⟨r21, h22⟩, e16, hG⟩ := hG
    have hT := k71 hR e16
    clear hR
    obtain ⟨kh17, e18, hR⟩ := hT
    refine bE e18 ?_
    rcases r21 with r21 | x23
    · replace hG := zthG hG
      refine zthEl ?_
      replace hG := Option.some.inj hG
      subst hG
      exact ⟨_, rfl, hR⟩
    · replace hG := zthH hG
      refine zthEr ?_
      replace hG := zgd_some hG
      obtain ⟨g19, hG⟩ := hG
      refine zE g19 ?_
      replace hG := Option.some.inj hG
      subst hG
      exact ⟨_, rfl, hR⟩
  · replace hG := zthH hG
    refine zthEr ?_
    replace hG := zgd_some hG
    obtain ⟨g20, hG⟩ := hG
    refine zE g20 ?_
    replace hG := Option.some.inj hG
    subst hG
    exact ⟨_, rfl, hR⟩
def cb105_92 (n : Nat)   (l0 : Nat) (l1 : Option Nat) (s0 : Int32) (h : zY) : Option ((Unit ⊕ Nat) × zY) :=
  if s0 = 0 then
    (yR h l0 5 3).bind fun x2 =>
    zgd (yisO h l0 5) <|
    (c70 n l0 2 x2 h).bind fun p9 => zth p9 (fun r6 h7 =>
      cb105_106 n  l0 l1 s0 h7)
      (fun x8 h7 =>
      zgd (exOk x8) <| some (.inr x8, h7))
  else
    cb105_106 n  l0 l1 s0 h
set_option maxRecDepth 20000 in
theorem kb105_92 {n : Nat} {Mm : Nat → Option zO}     {l0 : Nat} {l1 : Option Nat} {s0 : Int32} {kh : zH} {h : zY} {p : (Unit ⊕ Nat) × zY} (hR : Rep Mm kh h) (hG : cb105_92 n   l0 l1 s0 h = some p) : ∃ kh1 : zH, b105_92 n   l0 l1 s0 kh = some (p.1, kh1) ∧ Rep Mm kh1 p.2 := by
  unfold cb105_92 at hG
  unfold b105_92
  by_cases c1 : s0 = 0
  · rw [if_pos c1] at hG
    refine iE1 c1 ?_
    replace hG := zbnd hG
    obtain ⟨x2, e2, hG⟩ := hG
    refine bE (k_gR hR e2) ?_
    replace hG := zgd_some hG
    obtain ⟨g3, hG⟩ := hG
    refine zE (k_isO hR g3) ?_
    replace hG := zbnd hG
    obtain ⟨⟨r6, h7⟩, e4, hG⟩ := hG
    have hT := k70 hR e4
    clear hR
    obtain ⟨kh5, e6, hR⟩ := hT
    refine bE e6 ?_
    rcases r6 with r6 | x8
    · replace hG := zthG hG
      refine zthEl ?_
      exact kb105_106 (n := n) hR hG
    · replace hG := zthH hG
      refine zthEr ?_
      replace hG := zgd_some hG
      obtain ⟨g7, hG⟩ := hG
      refine zE g7 ?_
      replace hG := Option.some.inj hG
      subst hG
      exact ⟨_, rfl, hR⟩
  · rw [if_neg c1] at hG
    refine iE2 c1 ?_
    exact kb105_106 (n := n) hR hG
def cb105_87 (n : Nat)   (l0 : Nat) (l1 : Option Nat) (h : zY) : Option ((Unit ⊕ Nat) × zY) :=
  cb105_92 n  l0 l1 1 h
set_option maxRecDepth 20000 in
theorem kb105_87 {n : Nat} {Mm : Nat → Option zO}     {l0 : Nat} {l1 : Option Nat}  {kh : zH} {h : zY} {p : (Unit ⊕ Nat) × zY} (hR : Rep Mm kh h) (hG : cb105_87 n   l0 l1 h = some p) : ∃ kh1 : zH, b105_87 n   l0 l1 kh = some (p.1, kh1) ∧ Rep Mm kh1 p.2 := by
  unfold cb105_87 at hG
  unfold b105_87
  exact kb105_92 (n := n) hR hG
def c105 (n : Nat)  (y0 : Nat) (y1 : Option Nat) (h : zY) : Option ((Unit ⊕ Nat) × zY) :=
  y1.bind fun a1 =>
  (yR h a1 0 2).bind fun x2 =>
  x2.bind fun a4 =>
  zgd (yisO h a4 14) <|
  (c68 n a4 h).bind fun p7 =>
  zgd (yisO p7.2 y0 5) <|
  (c69 n y0 p7.1 4 p7.2).bind fun p13 => zth p13 (fun r10 h11 =>
    (yR h11 a1 0 2).bind fun x14 =>
    zgd (yisO h11 y0 5) <|
    (c71 n y0 (some 3) h11).bind fun p21 => zth p21 (fun r18 h19 =>
      x14.bind fun a22 =>
      zgd (yisO h19 a22 14) <|
      (c86 n a22 r18 h19).bind fun p25 =>
      zgd (yisO p25.2 y0 5) <|
      (c71 n y0 (some 13) p25.2).bind fun p31 => zth p31 (fun r28 h29 =>
        (yR h29 y0 5 3).bind fun x32 =>
        x32.bind fun a34 =>
        (yR h29 a34 9 0).bind fun x35 =>
        (rEq x35 (some 34)).bind fun b37 =>
        if b37 = true then
          cb105_87 n  y0 (some a1) h29
        else
          (yR h29 y0 5 3).bind fun x40 =>
          x40.bind fun a42 =>
          (yR h29 a42 9 0).bind fun x43 =>
          (rEq x43 (some 35)).bind fun b45 =>
          if b45 = true then
            cb105_87 n  y0 (some a1) h29
          else
            (yR h29 y0 5 3).bind fun x48 =>
            x48.bind fun a50 =>
            (yR h29 a50 9 0).bind fun x51 =>
            (rEq x51 (some 3)).bind fun b53 =>
            if b53 = true then
              cb105_87 n  y0 (some a1) h29
            else
              (yR h29 y0 5 3).bind fun x56 =>
              x56.bind fun a58 =>
              (yR h29 a58 9 0).bind fun x59 =>
              (rEq x59 (some 4)).bind fun b61 =>
              if b61 = true then
                cb105_87 n  y0 (some a1) h29
              else
                cb105_92 n  y0 (some a1) 0 h29)
        (fun x30 h29 =>
        zgd (exOk x30) <| some (.inr x30, h29)))
      (fun x20 h19 =>
      zgd (exOk x20) <| some (.inr x20, h19)))
    (fun x12 h11 =>
    zgd (exOk x12) <| some (.inr x12, h11))
set_option maxRecDepth 20000 in
theorem k105 {n : Nat} {Mm : Nat → Option zO}   {y0 : Nat} {y1 : Option Nat} {kh : zH} {h : zY} {p : (Unit ⊕ Nat) × zY} (hR : Rep Mm kh h) (hG : c105 n  y0 y1 h = some p) : ∃ kh1 : zH, f105 n  y0 y1 kh = some (p.1, kh1) ∧ Rep Mm kh1 p.2 := by
  unfold c105 at hG
  unfold f105
  replace hG := zbnd hG
  obtain ⟨a1, rfl, hG⟩ := hG
  refine bE rfl ?_
  replace hG := zbnd hG
  obtain ⟨x2, e2, hG⟩ := hG
  refine bE (k_gR hR e2) ?_
  replace hG := zbnd hG
  obtain ⟨a4, rfl, hG⟩ := hG
  refine bE rfl ?_
  replace hG := zgd_some hG
  obtain ⟨g4, hG⟩ := hG
  refine zE (k_isO hR g4) ?_
  replace hG := zbnd hG
  obtain ⟨p7, e5, hG⟩ := hG
  have hT := k68 hR e5
  clear hR
  obtain ⟨kh6, e7, hR⟩ := hT
  refine bE e7 ?_
  replace hG := zgd_some hG
  obtain ⟨g8, hG⟩ := hG
  refine zE (k_isO hR g8) ?_
  replace hG := zbnd hG
  obtain ⟨⟨r10, h11⟩, e9, hG⟩ := hG
  have hT := k69 hR e9
  clear hR
  obtain ⟨kh10, e11, hR⟩ := hT
  refine bE e11 ?_
  rcases r10 with r10 | x12
  · replace hG := zthG hG
    refine zthEl ?_
    replace hG := zbnd hG
    obtain ⟨x14, e12, hG⟩ := hG
    refine bE (k_gR hR e12) ?_
    replace hG := zgd_some hG
    obtain ⟨g13, hG⟩ := hG
    refine zE (k_isO hR g13) ?_
    replace hG := zbnd hG
    obtain ⟨⟨r18, h19⟩, e14, hG⟩ := hG
    have hT := k71 hR e14
    clear hR
    obtain ⟨kh15, e16, hR⟩ := hT
    refine bE e16 ?_
    rcases r18 with r18 | x20
    · replace hG := zthG hG
      refine zthEl ?_
      replace hG := zbnd hG
      obtain ⟨a22, rfl, hG⟩ := hG
      refine bE rfl ?_
      replace hG := zgd_some hG
      obtain ⟨g18, hG⟩ := hG
      refine zE (k_isO hR g18) ?_
      replace hG := zbnd hG
      obtain ⟨p25, e19, hG⟩ := hG
      have hT := k86 hR e19
      clear hR
      obtain ⟨kh20, e21, hR⟩ := hT
      refine bE e21 ?_
      replace hG := zgd_some hG
      obtain ⟨g22, hG⟩ := hG
      refine zE (k_isO hR g22) ?_
      replace hG := zbnd hG
      obtain ⟨⟨r28, h29⟩, e23, hG⟩ := hG
      have hT := k71 hR e23
      clear hR
      obtain ⟨kh24, e25, hR⟩ := hT
      refine bE e25 ?_
      rcases r28 with r28 | x30
      · replace hG := zthG hG
        refine zthEl ?_
        replace hG := zbnd hG
        obtain ⟨x32, e26, hG⟩ := hG
        refine bE (k_gR hR e26) ?_
        replace hG := zbnd hG
        obtain ⟨a34, rfl, hG⟩ := hG
        refine bE rfl ?_
        replace hG := zbnd hG
        obtain ⟨x35, e28, hG⟩ := hG
        refine bE (k_gR hR e28) ?_
        replace hG := zbnd hG
        obtain ⟨b37, e29, hG⟩ := hG
        refine bE e29 ?_
        by_cases c30 : b37 = true
        · rw [if_pos c30] at hG
          refine iE1 c30 ?_
          exact kb105_87 (n := n) hR hG
        · rw [if_neg c30] at hG
          refine iE2 c30 ?_
          replace hG := zbnd hG
          obtain ⟨x40, e31, hG⟩ := hG
          refine bE (k_gR hR e31) ?_
          replace hG := zbnd hG
          obtain ⟨a42, rfl, hG⟩ := hG
          refine bE rfl ?_
          replace hG := zbnd hG
          obtain ⟨x43, e33, hG⟩ := hG
          refine bE (k_gR hR e33) ?_
          replace hG := zbnd hG
          obtain ⟨b45, e34, hG⟩ := hG
          refine bE e34 ?_
          by_cases c35 : b45 = true
          · rw [if_pos c35] at hG
            refine iE1 c35 ?_
            exact kb105_87 (n := n) hR hG
          · rw [if_neg c35] at hG
            refine iE2 c35 ?_
            replace hG := zbnd hG
            obtain ⟨x48, e36, hG⟩ := hG
            refine bE (k_gR hR e36) ?_
            replace hG := zbnd hG
            obtain ⟨a50, rfl, hG⟩ := hG
            refine bE rfl ?_
            replace hG := zbnd hG
            obtain ⟨x51, e38, hG⟩ := hG
            refine bE (k_gR hR e38) ?_
            replace hG := zbnd hG
            obtain ⟨b53, e39, hG⟩ := hG
            refine bE e39 ?_
            by_cases c40 : b53 = true
            · rw [if_pos c40] at hG
              refine iE1 c40 ?_
              exact kb105_87 (n := n) hR hG
            · rw [if_neg c40] at hG
              refine iE2 c40 ?_
              replace hG := zbnd hG
              obtain ⟨x56, e41, hG⟩ := hG
              refine bE (k_gR hR e41) ?_
              replace hG := zbnd hG
              obtain ⟨a58, rfl, hG⟩ := hG
              refine bE rfl ?_
              replace hG := zbnd hG
              obtain ⟨x59, e43, hG⟩ := hG
              refine bE (k_gR hR e43) ?_
              replace hG := zbnd hG
              obtain ⟨b61, e44, hG⟩ := hG
              refine bE e44 ?_
              by_cases c45 : b61 = true
              · rw [if_pos c45] at hG
                refine iE1 c45 ?_
                exact kb105_87 (n := n) hR hG
              · rw [if_neg c45] at hG
                refine iE2 c45 ?_
                exact kb105_92 (n := n) hR hG
      · replace hG := zthH hG
        refine zthEr ?_
        replace hG := zgd_some hG
        obtain ⟨g46, hG⟩ := hG
        refine zE g46 ?_
        replace hG := Option.some.inj hG
        subst hG
        exact ⟨_, rfl, hR⟩
    · replace hG := zthH hG
      refine zthEr ?_
      replace hG := zgd_some hG
      obtain ⟨g47, hG⟩ := hG
      refine zE g47 ?_
      replace hG := Option.some.inj hG
      subst hG
      exact ⟨_, rfl, hR⟩
  · replace hG := zthH hG
    refine zthEr ?_
    replace hG := zgd_some hG
    obtain ⟨g48, hG⟩ := hG
    refine zE g48 ?_
    replace hG := Option.some.inj hG
    subst hG
    exact ⟨_, rfl, hR⟩
def c106 (n : Nat)  (y0 : Nat) (y1 : Int32) (y2 : Option Nat) (y3 : Option Nat) (h : zY) : Option (Unit × zY) :=
  (yP h y0 6 0 (.int y1)).bind fun h1 =>
  (yP h1 y0 6 1 (va_rf y2)).bind fun h3 =>
  (yP h3 y0 6 2 (va_rf y3)).bind fun h5 =>
  some ((), h5)
set_option maxRecDepth 20000 in
theorem k106 {n : Nat} {Mm : Nat → Option zO}   {y0 : Nat} {y1 : Int32} {y2 : Option Nat} {y3 : Option Nat} {kh : zH} {h : zY} {p : Unit × zY} (hR : Rep Mm kh h) (hG : c106 n  y0 y1 y2 y3 h = some p) : ∃ kh1 : zH, f106 n  y0 y1 y2 y3 kh = some (p.1, kh1) ∧ Rep Mm kh1 p.2 := by
  unfold c106 at hG
  unfold f106
  replace hG := zbnd hG
  obtain ⟨h1, e1, hG⟩ := hG
  have hT := k_pF hR e1
  clear hR
  obtain ⟨kh2, e3, hR⟩ := hT
  refine bE e3 ?_
  replace hG := zbnd hG
  obtain ⟨h3, e4, hG⟩ := hG
  have hT := k_pF hR e4
  clear hR
  obtain ⟨kh5, e6, hR⟩ := hT
  refine bE e6 ?_
  replace hG := zbnd hG
  obtain ⟨h5, e7, hG⟩ := hG
  have hT := k_pF hR e7
  clear hR
  obtain ⟨kh8, e9, hR⟩ := hT
  refine bE e9 ?_
  replace hG := Option.some.inj hG
  subst hG
  exact ⟨_, rfl, hR⟩
def cb90_260 (n : Nat)   (l0 : Nat) (l1 : Int32) (l2 : Nat) (l3 : Int32) (h : zY) : Option ((Unit ⊕ Nat) × zY) :=
  (yR h l0 5 0).bind fun x1 =>
  x1.bind fun a3 =>
  (yR h a3 4 6).bind fun x4 =>
  x4.bind fun a6 =>
  zgd (yisO h a6 14) <|
  (c68 n a6 h).bind fun p9 =>
  (yP p9.2 l2 0 9 (.int p9.1)).bind fun h10 =>
  zgd (yisO h10 l0 5) <|
  (c71 n l0 (some 7) h10).bind fun p17 => zth p17 (fun r14 h15 =>
    some (.inl (), h15))
    (fun x16 h15 =>
    zgd (exOk x16) <| some (.inr x16, h15))
set_option maxRecDepth 20000 in
theorem kb90_260 {n : Nat} {Mm : Nat → Option zO}     {l0 : Nat} {l1 : Int32} {l2 : Nat} {l3 : Int32}  {kh : zH} {h : zY} {p : (Unit ⊕ Nat) × zY} (hR : Rep Mm kh h) (hG : cb90_260 n   l0 l1 l2 l3 h = some p) : ∃ kh1 : zH, b90_260 n   l0 l1 l2 l3 kh = some (p.1, kh1) ∧ Rep Mm kh1 p.2 := by
  unfold cb90_260 at hG
  unfold b90_260
  replace hG := zbnd hG
  obtain ⟨x1, e1, hG⟩ := hG
  refine bE (k_gR hR e1) ?_
  replace hG := zbnd hG
  obtain ⟨a3, rfl, hG⟩ := hG
  refine bE rfl ?_
  replace hG := zbnd hG
  obtain ⟨x4, e3, hG⟩ := hG
  refine bE (k_gR hR e3) ?_
  replace hG := zbnd hG
  obtain ⟨a6, rfl, hG⟩ := hG
  refine bE rfl ?_
  replace hG := zgd_some hG
  obtain ⟨g5, hG⟩ := hG
  refine zE (k_isO hR g5) ?_
  replace hG := zbnd hG
  obtain ⟨p9, e6, hG⟩ := hG
  have hT := k68 hR e6
  clear hR
  obtain ⟨kh7, e8, hR⟩ := hT
  refine bE e8 ?_
  replace hG := zbnd hG
  obtain ⟨h10, e9, hG⟩ := hG
  have hT := k_pF hR e9
  clear hR
  obtain ⟨kh10, e11, hR⟩ := hT
  refine bE e11 ?_
  replace hG := zgd_some hG
  obtain ⟨g12, hG⟩ := hG
  refine zE (k_isO hR g12) ?_
  replace hG := zbnd hG
  obtain ⟨⟨r14, h15⟩, e13, hG⟩ := hG
  have hT := k71 hR e13
  clear hR
  obtain ⟨kh14, e15, hR⟩ := hT
  refine bE e15 ?_
  rcases r14 with r14 | x16
  · replace hG := zthG hG
    refine zthEl ?_
    replace hG := Option.some.inj hG
    subst hG
    exact ⟨_, rfl, hR⟩
  · replace hG := zthH hG
    refine zthEr ?_
    replace hG := zgd_some hG
    obtain ⟨g16, hG⟩ := hG
    refine zE g16 ?_
    replace hG := Option.some.inj hG
    subst hG
    exact ⟨_, rfl, hR⟩
def cb90_175 (n : Nat)  (r175 : Nat → Int32 → Nat → Int32 → zY → Option ((Unit ⊕ Nat) × zY)) (l0 : Nat) (l1 : Int32) (l2 : Nat) (l3 : Int32) (h : zY) : Option ((Unit ⊕ Nat) × zY) :=
  if (100 : Int32) < l3 then
    cb90_260 n  l0 l1 l2 l3 h
  else
    (yR h l0 5 3).bind fun x2 =>
    x2.bind fun a4 =>
    (yR h a4 9 0).bind fun x5 =>
    (rEq x5 (some 22)).bind fun b7 =>
    if b7 = true then
      (yR h l0 5 0).bind fun x10 =>
      x10.bind fun a12 =>
      (yR h a12 4 6).bind fun x13 =>
      x13.bind fun a15 =>
      zgd (yisO h a15 14) <|
      (c68 n a15 h).bind fun p18 =>
      zgd (yisO p18.2 l0 5) <|
      (c69 n l0 p18.1 100 p18.2).bind fun p24 => zth p24 (fun r21 h22 =>
        zgd (yisO h22 l0 5) <|
        (c77 n 64 l0 (some 32) 0 h22).bind fun p30 => zth p30 (fun r27 h28 =>
          zgd (yisO h28 l0 5) <|
          (c71 n l0 (some 14) h28).bind fun p36 => zth p36 (fun r33 h34 =>
            (yR h34 l0 5 0).bind fun x37 =>
            x37.bind fun a39 =>
            (yR h34 a39 4 6).bind fun x40 =>
            zgd (yisO (yN h34 6 3) l0 5) <|
            (c95 n l0 (some l2) (yN h34 6 3)).bind fun p47 => zth p47 (fun r44 h45 =>
              (c106 n h34.2.1 l1 r27 r44 h45).bind fun p49 =>
              x40.bind fun a50 =>
              zgd (yisO p49.2 a50 14) <|
              (c86 n a50 (some h34.2.1) p49.2).bind fun p53 =>
              r175 l0 l1 l2 (l3 + 1) p53.2)
              (fun x46 h45 =>
              zgd (exOk x46) <| some (.inr x46, h45)))
            (fun x35 h34 =>
            zgd (exOk x35) <| some (.inr x35, h34)))
          (fun x29 h28 =>
          zgd (exOk x29) <| some (.inr x29, h28)))
        (fun x23 h22 =>
        zgd (exOk x23) <| some (.inr x23, h22))
    else
      cb90_260 n  l0 l1 l2 l3 h
set_option maxRecDepth 20000 in
theorem kb90_175 {n : Nat} {Mm : Nat → Option zO}  {q175 : Nat → Int32 → Nat → Int32 → zY → Option ((Unit ⊕ Nat) × zY)} {r175 : Nat → Int32 → Nat → Int32 → zH → Option ((Unit ⊕ Nat) × zH)}  (hr175 : ∀ {l0 : Nat} {l1 : Int32} {l2 : Nat} {l3 : Int32}  {kh : zH} {h : zY} {p : (Unit ⊕ Nat) × zY}, Rep Mm kh h → q175 l0 l1 l2 l3 h = some p → ∃ kh1 : zH, r175 l0 l1 l2 l3 kh = some (p.1, kh1) ∧ Rep Mm kh1 p.2) {l0 : Nat} {l1 : Int32} {l2 : Nat} {l3 : Int32}  {kh : zH} {h : zY} {p : (Unit ⊕ Nat) × zY} (hR : Rep Mm kh h) (hG : cb90_175 n  q175 l0 l1 l2 l3 h = some p) : ∃ kh1 : zH, b90_175 n  r175 l0 l1 l2 l3 kh = some (p.1, kh1) ∧ Rep Mm kh1 p.2 := by
  unfold cb90_175 at hG
  unfold b90_175
  by_cases c1 : (100 : Int32) < l3
  · rw [if_pos c1] at hG
    refine iE1 c1 ?_
    exact kb90_260 (n := n) hR hG
  · rw [if_neg c1] at hG
    refine iE2 c1 ?_
    replace hG := zbnd hG
    obtain ⟨x2, e2, hG⟩ := hG
    refine bE (k_gR hR e2) ?_
    replace hG := zbnd hG
    obtain ⟨a4, rfl, hG⟩ := hG
    refine bE rfl ?_
    replace hG := zbnd hG
    obtain ⟨x5, e4, hG⟩ := hG
    refine bE (k_gR hR e4) ?_
    replace hG := zbnd hG
    obtain ⟨b7, e5, hG⟩ := hG
    refine bE e5 ?_
    by_cases c6 : b7 = true
    · rw [if_pos c6] at hG
      refine iE1 c6 ?_
      replace hG := zbnd hG
      obtain ⟨x10, e7, hG⟩ := hG
      refine bE (k_gR hR e7) ?_
      replace hG := zbnd hG
      obtain ⟨a12, rfl, hG⟩ := hG
      refine bE rfl ?_
      replace hG := zbnd hG
      obtain ⟨x13, e9, hG⟩ := hG
      refine bE (k_gR hR e9) ?_
      replace hG := zbnd hG
      obtain ⟨a15, rfl, hG⟩ := hG
      refine bE rfl ?_
      replace hG := zgd_some hG
      obtain ⟨g11, hG⟩ := hG
      refine zE (k_isO hR g11) ?_
      replace hG := zbnd hG
      obtain ⟨p18, e12, hG⟩ := hG
      have hT := k68 hR e12
      clear hR
      obtain ⟨kh13, e14, hR⟩ := hT
      refine bE e14 ?_
      replace hG := zgd_some hG
      obtain ⟨g15, hG⟩ := hG
      refine zE (k_isO hR g15) ?_
      replace hG := zbnd hG
      obtain ⟨⟨r21, h22⟩, e16, hG⟩ := hG
      have hT := k69 hR e16
      clear hR
      obtain ⟨kh17, e18, hR⟩ := hT
      refine bE e18 ?_
      rcases r21 with r21 | x23
      · replace hG := zthG hG
        refine zthEl ?_
        replace hG := zgd_some hG
        obtain ⟨g19, hG⟩ := hG
        refine zE (k_isO hR g19) ?_
        replace hG := zbnd hG
        obtain ⟨⟨r27, h28⟩, e20, hG⟩ := hG
        have hT := k77 64 hR e20
        clear hR
        obtain ⟨kh21, e22, hR⟩ := hT
        refine bE e22 ?_
        rcases r27 with r27 | x29
        · replace hG := zthG hG
          refine zthEl ?_
          replace hG := zgd_some hG
          obtain ⟨g23, hG⟩ := hG
          refine zE (k_isO hR g23) ?_
          replace hG := zbnd hG
          obtain ⟨⟨r33, h34⟩, e24, hG⟩ := hG
          have hT := k71 hR e24
          clear hR
          obtain ⟨kh25, e26, hR⟩ := hT
          refine bE e26 ?_
          rcases r33 with r33 | x35
          · replace hG := zthG hG
            refine zthEl ?_
            replace hG := zbnd hG
            obtain ⟨x37, e27, hG⟩ := hG
            refine bE (k_gR hR e27) ?_
            replace hG := zbnd hG
            obtain ⟨a39, rfl, hG⟩ := hG
            refine bE rfl ?_
            replace hG := zbnd hG
            obtain ⟨x40, e29, hG⟩ := hG
            refine bE (k_gR hR e29) ?_
            try rw [rep_n hR] at hG
            replace hR := k_nO (ci := 6) (n := 3) hR
            replace hG := zgd_some hG
            obtain ⟨g30, hG⟩ := hG
            refine zE (k_isO hR g30) ?_
            replace hG := zbnd hG
            obtain ⟨⟨r44, h45⟩, e31, hG⟩ := hG
            have hT := k95 hR e31
            clear hR
            obtain ⟨kh32, e33, hR⟩ := hT
            refine bE e33 ?_
            rcases r44 with r44 | x46
            · replace hG := zthG hG
              refine zthEl ?_
              replace hG := zbnd hG
              obtain ⟨p49, e34, hG⟩ := hG
              have hT := k106 hR e34
              clear hR
              obtain ⟨kh35, e36, hR⟩ := hT
              refine bE e36 ?_
              replace hG := zbnd hG
              obtain ⟨a50, rfl, hG⟩ := hG
              refine bE rfl ?_
              replace hG := zgd_some hG
              obtain ⟨g38, hG⟩ := hG
              refine zE (k_isO hR g38) ?_
              replace hG := zbnd hG
              obtain ⟨p53, e39, hG⟩ := hG
              have hT := k86 hR e39
              clear hR
              obtain ⟨kh40, e41, hR⟩ := hT
              refine bE e41 ?_
              exact hr175 hR hG
            · replace hG := zthH hG
              refine zthEr ?_
              replace hG := zgd_some hG
              obtain ⟨g42, hG⟩ := hG
              refine zE g42 ?_
              replace hG := Option.some.inj hG
              subst hG
              exact ⟨_, rfl, hR⟩
          · replace hG := zthH hG
            refine zthEr ?_
            replace hG := zgd_some hG
            obtain ⟨g43, hG⟩ := hG
            refine zE g43 ?_
            replace hG := Option.some.inj hG
            subst hG
            exact ⟨_, rfl, hR⟩
        · replace hG := zthH hG
          refine zthEr ?_
          replace hG := zgd_some hG
          obtain ⟨g44, hG⟩ := hG
          refine zE g44 ?_
          replace hG := Option.some.inj hG
          subst hG
          exact ⟨_, rfl, hR⟩
      · replace hG := zthH hG
        refine zthEr ?_
        replace hG := zgd_some hG
        obtain ⟨g45, hG⟩ := hG
        refine zE g45 ?_
        replace hG := Option.some.inj hG
        subst hG
        exact ⟨_, rfl, hR⟩
    · rw [if_neg c6] at hG
      refine iE2 c6 ?_
      exact kb90_260 (n := n) hR hG
def cf90_175 (n : Nat)   (k : Nat) : Nat → Int32 → Nat → Int32 → zY → Option ((Unit ⊕ Nat) × zY) := Nat.rec (fun _ _ _ _ _ => none) (fun _ ih => cb90_175 n  ih) k
theorem kf90_175 {n : Nat} {Mm : Nat → Option zO}     (k : Nat) : ∀ {l0 : Nat} {l1 : Int32} {l2 : Nat} {l3 : Int32}  {kh : zH} {h : zY} {p : (Unit ⊕ Nat) × zY}, Rep Mm kh h → cf90_175 n   k l0 l1 l2 l3 h = some p → ∃ kh1 : zH, f90_175 n   k l0 l1 l2 l3 kh = some (p.1, kh1) ∧ Rep Mm kh1 p.2 := by
  induction k with
  | zero => intros; rename_i hG; cases hG
  | succ k ih => intros; rename_i hR hG; exact kb90_175 (n := n) (q175 := cf90_175 n   k) (r175 := f90_175 n   k)  ih hR hG
def cb90_173 (n : Nat)   (l0 : Nat) (l1 : Int32) (l2 : Nat) (l3 : Int32) (h : zY) : Option ((Unit ⊕ Nat) × zY) :=
  cf90_175 n  n l0 l1 l2 0 h
set_option maxRecDepth 20000 in
theorem kb90_173 {n : Nat} {Mm : Nat → Option zO}     {l0 : Nat} {l1 : Int32} {l2 : Nat} {l3 : Int32}  {kh : zH} {h : zY} {p : (Unit ⊕ Nat) × zY} (hR : Rep Mm kh h) (hG : cb90_173 n   l0 l1 l2 l3 h = some p) : ∃ kh1 : zH, b90_173 n   l0 l1 l2 l3 kh = some (p.1, kh1) ∧ Rep Mm kh1 p.2 := by
  unfold cb90_173 at hG
  unfold b90_173
  exact kf90_175 (n := n) n hR hG
def cb90_144 (n : Nat)  (r144 : Nat → Int32 → Nat → Int32 → zY → Option ((Unit ⊕ Nat) × zY)) (l0 : Nat) (l1 : Int32) (l2 : Nat) (l3 : Int32) (h : zY) : Option ((Unit ⊕ Nat) × zY) :=
  if (4 : Int32) < l3 then
    cb90_173 n  l0 l1 l2 l3 h
  else
    (yR h l0 5 3).bind fun x2 =>
    x2.bind fun a4 =>
    (yR h a4 9 0).bind fun x5 =>
    (rEq x5 (some 21)).bind fun b7 =>
    if b7 = true then
      zgd (yisO h l0 5) <|
      (c105 n l0 (some l2) h).bind fun p15 => zth p15 (fun r12 h13 =>
        r144 l0 l1 l2 (l3 + 1) h13)
        (fun x14 h13 =>
        zgd (exOk x14) <| some (.inr x14, h13))
    else
      cb90_173 n  l0 l1 l2 l3 h
set_option maxRecDepth 20000 in
theorem kb90_144 {n : Nat} {Mm : Nat → Option zO}  {q144 : Nat → Int32 → Nat → Int32 → zY → Option ((Unit ⊕ Nat) × zY)} {r144 : Nat → Int32 → Nat → Int32 → zH → Option ((Unit ⊕ Nat) × zH)}  (hr144 : ∀ {l0 : Nat} {l1 : Int32} {l2 : Nat} {l3 : Int32}  {kh : zH} {h : zY} {p : (Unit ⊕ Nat) × zY}, Rep Mm kh h → q144 l0 l1 l2 l3 h = some p → ∃ kh1 : zH, r144 l0 l1 l2 l3 kh = some (p.1, kh1) ∧ Rep Mm kh1 p.2) {l0 : Nat} {l1 : Int32} {l2 : Nat} {l3 : Int32}  {kh : zH} {h : zY} {p : (Unit ⊕ Nat) × zY} (hR : Rep Mm kh h) (hG : cb90_144 n  q144 l0 l1 l2 l3 h = some p) : ∃ kh1 : zH, b90_144 n  r144 l0 l1 l2 l3 kh = some (p.1, kh1) ∧ Rep Mm kh1 p.2 := by
  unfold cb90_144 at hG
  unfold b90_144
  by_cases c1 : (4 : Int32) < l3
  · rw [if_pos c1] at hG
    refine iE1 c1 ?_
    exact kb90_173 (n := n) hR hG
  · rw [if_neg c1] at hG
    refine iE2 c1 ?_
    replace hG := zbnd hG
    obtain ⟨x2, e2, hG⟩ := hG
    refine bE (k_gR hR e2) ?_
    replace hG := zbnd hG
    obtain ⟨a4, rfl, hG⟩ := hG
    refine bE rfl ?_
    replace hG := zbnd hG
    obtain ⟨x5, e4, hG⟩ := hG
    refine bE (k_gR hR e4) ?_
    replace hG := zbnd hG
    obtain ⟨b7, e5, hG⟩ := hG
    refine bE e5 ?_
    by_cases c6 : b7 = true
    · rw [if_pos c6] at hG
      refine iE1 c6 ?_
      replace hG := zgd_some hG
      obtain ⟨g7, hG⟩ := hG
      refine zE (k_isO hR g7) ?_
      replace hG := zbnd hG
      obtain ⟨⟨r12, h13⟩, e8, hG⟩ := hG
      have hT := k105 hR e8
      clear hR
      obtain ⟨kh9, e10, hR⟩ := hT
      refine bE e10 ?_
      rcases r12 with r12 | x14
      · replace hG := zthG hG
        refine zthEl ?_
        exact hr144 hR hG
      · replace hG := zthH hG
        refine zthEr ?_
        replace hG := zgd_some hG
        obtain ⟨g11, hG⟩ := hG
        refine zE g11 ?_
        replace hG := Option.some.inj hG
        subst hG
        exact ⟨_, rfl, hR⟩
    · rw [if_neg c6] at hG
      refine iE2 c6 ?_
      exact kb90_173 (n := n) hR hG
def cf90_144 (n : Nat)   (k : Nat) : Nat → Int32 → Nat → Int32 → zY → Option ((Unit ⊕ Nat) × zY) := Nat.rec (fun _ _ _ _ _ => none) (fun _ ih => cb90_144 n  ih) k
theorem kf90_144 {n : Nat} {Mm : Nat → Option zO}     (k : Nat) : ∀ {l0 : Nat} {l1 : Int32} {l2 : Nat} {l3 : Int32}  {kh : zH} {h : zY} {p : (Unit ⊕ Nat) × zY}, Rep Mm kh h → cf90_144 n   k l0 l1 l2 l3 h = some p → ∃ kh1 : zH, f90_144 n   k l0 l1 l2 l3 kh = some (p.1, kh1) ∧ Rep Mm kh1 p.2 := by
  induction k with
  | zero => intros; rename_i hG; cases hG
  | succ k ih => intros; rename_i hR hG; exact kb90_144 (n := n) (q144 := cf90_144 n   k) (r144 := f90_144 n   k)  ih hR hG
def c90 (n : Nat)  (y0 : Nat) (h : zY) : Option ((Unit ⊕ Nat) × zY) :=
  (yR h y0 5 0).bind fun x1 =>
  x1.bind fun a3 =>
  (yR h a3 4 4).bind fun x4 =>
  x4.bind fun a6 =>
  zgd (yisO h a6 14) <|
  (c68 n a6 h).bind fun p9 =>
  zgd (yisO p9.2 y0 5) <|
  (c69 n y0 p9.1 24 p9.2).bind fun p15 => zth p15 (fun r12 h13 =>
    (yR h13 y0 5 0).bind fun x16 =>
    x16.bind fun a18 =>
    (yR h13 a18 4 4).bind fun x19 =>
    x19.bind fun a21 =>
    zgd (yisO h13 a21 14) <|
    (c68 n a21 h13).bind fun p24 =>
    (yR (yN p24.2 0 10) y0 5 0).bind fun x25 =>
    x25.bind fun a27 =>
    (yR (yN p24.2 0 10) a27 4 6).bind fun x28 =>
    x28.bind fun a30 =>
    zgd (yisO (yN p24.2 0 10) a30 14) <|
    (c68 n a30 (yN p24.2 0 10)).bind fun p33 =>
    (c91 n p24.2.2.1 p33.1 p33.2).bind fun p35 =>
    (yR p35.2 y0 5 0).bind fun x36 =>
    x36.bind fun a38 =>
    (yR p35.2 a38 4 1).bind fun x39 =>
    (yR p35.2 y0 5 0).bind fun x41 =>
    x41.bind fun a43 =>
    (yR p35.2 a43 4 1).bind fun x44 =>
    zgd (yisO p35.2 y0 5) <|
    (c72 n y0 x44 p35.2).bind fun p51 => zth p51 (fun r48 h49 =>
      x39.bind fun a52 =>
      zgd (yisO h49 a52 14) <|
      (c86 n a52 r48 h49).bind fun p55 =>
      (yR p55.2 y0 5 0).bind fun x56 =>
      x56.bind fun a58 =>
      (yR p55.2 a58 4 4).bind fun x59 =>
      x59.bind fun a61 =>
      zgd (yisO p55.2 a61 14) <|
      (c86 n a61 (some p24.2.2.1) p55.2).bind fun p64 =>
      zgd (yisO p64.2 y0 5) <|
      (c71 n y0 (some 12) p64.2).bind fun p70 => zth p70 (fun r67 h68 =>
        zgd (yisO h68 y0 5) <|
        (c93 n y0 (some p24.2.2.1) h68).bind fun p76 => zth p76 (fun r73 h74 =>
          zgd (yisO h74 y0 5) <|
          (c71 n y0 (some 6) h74).bind fun p82 => zth p82 (fun r79 h80 =>
            zgd (yisO h80 y0 5) <|
            (c71 n y0 (some 19) h80).bind fun p88 => zth p88 (fun r85 h86 =>
              zgd (yisO h86 y0 5) <|
              (c95 n y0 (some p24.2.2.1) h86).bind fun p94 => zth p94 (fun r91 h92 =>
                (yP h92 p24.2.2.1 0 6 (va_rf r91)).bind fun h95 =>
                zgd (yisO h95 y0 5) <|
                (c71 n y0 (some 20) h95).bind fun p102 => zth p102 (fun r99 h100 =>
                  zgd (yisO h100 y0 5) <|
                  (c99 n y0 (some p24.2.2.1) h100).bind fun p108 => zth p108 (fun r105 h106 =>
                    (yP h106 p24.2.2.1 0 7 (.int r105)).bind fun h109 =>
                    zgd (yisO h109 y0 5) <|
                    (c71 n y0 (some 10) h109).bind fun p116 => zth p116 (fun r113 h114 =>
                      cf90_144 n  n y0 p24.1 p24.2.2.1 0 h114)
                      (fun x115 h114 =>
                      zgd (exOk x115) <| some (.inr x115, h114)))
                    (fun x107 h106 =>
                    zgd (exOk x107) <| some (.inr x107, h106)))
                  (fun x101 h100 =>
                  zgd (exOk x101) <| some (.inr x101, h100)))
                (fun x93 h92 =>
                zgd (exOk x93) <| some (.inr x93, h92)))
              (fun x87 h86 =>
              zgd (exOk x87) <| some (.inr x87, h86)))
            (fun x81 h80 =>
            zgd (exOk x81) <| some (.inr x81, h80)))
          (fun x75 h74 =>
          zgd (exOk x75) <| some (.inr x75, h74)))
        (fun x69 h68 =>
        zgd (exOk x69) <| some (.inr x69, h68)))
      (fun x50 h49 =>
      zgd (exOk x50) <| some (.inr x50, h49)))
    (fun x14 h13 =>
    zgd (exOk x14) <| some (.inr x14, h13))
set_option maxRecDepth 20000 in
theorem k90 {n : Nat} {Mm : Nat → Option zO}   {y0 : Nat} {kh : zH} {h : zY} {p : (Unit ⊕ Nat) × zY} (hR : Rep Mm kh h) (hG : c90 n  y0 h = some p) : ∃ kh1 : zH, f90 n  y0 kh = some (p.1, kh1) ∧ Rep Mm kh1 p.2 := by
  unfold c90 at hG
  unfold f90
  replace hG := zbnd hG
  obtain ⟨x1, e1, hG⟩ := hG
  refine bE (k_gR hR e1) ?_
  replace hG := zbnd hG
  obtain ⟨a3, rfl, hG⟩ := hG
  refine bE rfl ?_
  replace hG := zbnd hG
  obtain ⟨x4, e3, hG⟩ := hG
  refine bE (k_gR hR e3) ?_
  replace hG := zbnd hG
  obtain ⟨a6, rfl, hG⟩ := hG
  refine bE rfl ?_
  replace hG := zgd_some hG
  obtain ⟨g5, hG⟩ := hG
  refine zE (k_isO hR g5) ?_
  replace hG := zbnd hG
  obtain ⟨p9, e6, hG⟩ := hG
  have hT := k68 hR e6
  clear hR
  obtain ⟨kh7, e8, hR⟩ := hT
  refine bE e8 ?_
  replace hG := zgd_some hG
  obtain ⟨g9, hG⟩ := hG
  refine zE (k_isO hR g9) ?_
  replace hG := zbnd hG
  obtain ⟨⟨r12, h13⟩, e10, hG⟩ := hG
  have hT := k69 hR e10
  clear hR
  obtain ⟨kh11, e12, hR⟩ := hT
  refine bE e12 ?_
  rcases r12 with r12 | x14
  · replace hG := zthG hG
    refine zthEl ?_
    replace hG := zbnd hG
    obtain ⟨x16, e13, hG⟩ := hG
    refine bE (k_gR hR e13) ?_
    replace hG := zbnd hG
    obtain ⟨a18, rfl, hG⟩ := hG
    refine bE rfl ?_
    replace hG := zbnd hG
    obtain ⟨x19, e15, hG⟩ := hG
    refine bE (k_gR hR e15) ?_
    replace hG := zbnd hG
    obtain ⟨a21, rfl, hG⟩ := hG
    refine bE rfl ?_
    replace hG := zgd_some hG
    obtain ⟨g17, hG⟩ := hG
    refine zE (k_isO hR g17) ?_
    replace hG := zbnd hG
    obtain ⟨p24, e18, hG⟩ := hG
    have hT := k68 hR e18
    clear hR
    obtain ⟨kh19, e20, hR⟩ := hT
    refine bE e20 ?_
    try rw [rep_n hR] at hG
    replace hR := k_nO (ci := 0) (n := 10) hR
    replace hG := zbnd hG
    obtain ⟨x25, e21, hG⟩ := hG
    refine bE (k_gR hR e21) ?_
    replace hG := zbnd hG
    obtain ⟨a27, rfl, hG⟩ := hG
    refine bE rfl ?_
    replace hG := zbnd hG
    obtain ⟨x28, e23, hG⟩ := hG
    refine bE (k_gR hR e23) ?_
    replace hG := zbnd hG
    obtain ⟨a30, rfl, hG⟩ := hG
    refine bE rfl ?_
    replace hG := zgd_some hG
    obtain ⟨g25, hG⟩ := hG
    refine zE (k_isO hR g25) ?_
    replace hG := zbnd hG
    obtain ⟨p33, e26, hG⟩ := hG
    have hT := k68 hR e26
    clear hR
    obtain ⟨kh27, e28, hR⟩ := hT
    refine bE e28 ?_
    replace hG := zbnd hG
    obtain ⟨p35, e29, hG⟩ := hG
    have hT := k91 hR e29
    clear hR
    obtain ⟨kh30, e31, hR⟩ := hT
    refine bE e31 ?_
    replace hG := zbnd hG
    obtain ⟨x36, e32, hG⟩ := hG
    refine bE (k_gR hR e32) ?_
    replace hG := zbnd hG
    obtain ⟨a38, rfl, hG⟩ := hG
    refine bE rfl ?_
    replace hG := zbnd hG
    obtain ⟨x39, e34, hG⟩ := hG
    refine bE (k_gR hR e34) ?_
    replace hG := zbnd hG
    obtain ⟨x41, e35, hG⟩ := hG
    refine bE (k_gR hR e35) ?_
    replace hG := zbnd hG
    obtain ⟨a43, rfl, hG⟩ := hG
    refine bE rfl ?_
    replace hG := zbnd hG
    obtain ⟨x44, e37, hG⟩ := hG
    refine bE (k_gR hR e37) ?_
    replace hG := zgd_some hG
    obtain ⟨g38, hG⟩ := hG
    refine zE (k_isO hR g38) ?_
    replace hG := zbnd hG
    obtain ⟨⟨r48, h49⟩, e39, hG⟩ := hG
    have hT := k72 hR e39
    clear hR
    obtain ⟨kh40, e41, hR⟩ := hT
    refine bE e41 ?_
    rcases r48 with r48 | x50
    · replace hG := zthG hG
      refine zthEl ?_
      replace hG := zbnd hG
      obtain ⟨a52, rfl, hG⟩ := hG
      refine bE rfl ?_
      replace hG := zgd_some hG
      obtain ⟨g43, hG⟩ := hG
      refine zE (k_isO hR g43) ?_
      replace hG := zbnd hG
      obtain ⟨p55, e44, hG⟩ := hG
      have hT := k86 hR e44
      clear hR
      obtain ⟨kh45, e46, hR⟩ := hT
      refine bE e46 ?_
      replace hG := zbnd hG
      obtain ⟨x56, e47, hG⟩ := hG
      refine bE (k_gR hR e47) ?_
      replace hG := zbnd hG
      obtain ⟨a58, rfl, hG⟩ := hG
      refine bE rfl ?_
      replace hG := zbnd hG
      obtain ⟨x59, e49, hG⟩ := hG
      refine bE (k_gR hR e49) ?_
      replace hG := zbnd hG
      obtain ⟨a61, rfl, hG⟩ := hG
      refine bE rfl ?_
      replace hG := zgd_some hG
      obtain ⟨g51, hG⟩ := hG
      refine zE (k_isO hR g51) ?_
      replace hG := zbnd hG
      obtain ⟨p64, e52, hG⟩ := hG
      have hT := k86 hR e52
      clear hR
      obtain ⟨kh53, e54, hR⟩ := hT
      refine bE e54 ?_
      replace hG := zgd_some hG
      obtain ⟨g55, hG⟩ := hG
      refine zE (k_isO hR g55) ?_
      replace hG := zbnd hG
      obtain ⟨⟨r67, h68⟩, e56, hG⟩ := hG
      have hT := k71 hR e56
      clear hR
      obtain ⟨kh57, e58, hR⟩ := hT
      refine bE e58 ?_
      rcases r67 with r67 | x69
      · replace hG := zthG hG
        refine zthEl ?_
        replace hG := zgd_some hG
        obtain ⟨g59, hG⟩ := hG
        refine zE (k_isO hR g59) ?_
        replace hG := zbnd hG
        obtain ⟨⟨r73, h74⟩, e60, hG⟩ := hG
        have hT := k93 hR e60
        clear hR
        obtain ⟨kh61, e62, hR⟩ := hT
        refine bE e62 ?_
        rcases r73 with r73 | x75
        · replace hG := zthG hG
          refine zthEl ?_
          replace hG := zgd_some hG
          obtain ⟨g63, hG⟩ := hG
          refine zE (k_isO hR g63) ?_
          replace hG := zbnd hG
          obtain ⟨⟨r79, h80⟩, e64, hG⟩ := hG
          have hT := k71 hR e64
          clear hR
          obtain ⟨kh65, e66, hR⟩ := hT
          refine bE e66 ?_
          rcases r79 with r79 | x81
          · replace hG := zthG hG
            refine zthEl ?_
            replace hG := zgd_some hG
            obtain ⟨g67, hG⟩ := hG
            refine zE (k_isO hR g67) ?_
            replace hG := zbnd hG
            obtain ⟨⟨r85, h86⟩, e68, hG⟩ := hG
            have hT := k71 hR e68
            clear hR
            obtain ⟨kh69, e70, hR⟩ := hT
            refine bE e70 ?_
            rcases r85 with r85 | x87
            · replace hG := zthG hG
              refine zthEl ?_
              replace hG := zgd_some hG
              obtain ⟨g71, hG⟩ := hG
              refine zE (k_isO hR g71) ?_
              replace hG := zbnd hG
              obtain ⟨⟨r91, h92⟩, e72, hG⟩ := hG
              have hT := k95 hR e72
              clear hR
              obtain ⟨kh73, e74, hR⟩ := hT
              refine bE e74 ?_
              rcases r91 with r91 | x93
              · replace hG := zthG hG
                refine zthEl ?_
                replace hG := zbnd hG
                obtain ⟨h95, e75, hG⟩ := hG
                have hT := k_pF hR e75
                clear hR
                obtain ⟨kh76, e77, hR⟩ := hT
                refine bE e77 ?_
                replace hG := zgd_some hG
                obtain ⟨g78, hG⟩ := hG
                refine zE (k_isO hR g78) ?_
                replace hG := zbnd hG
                obtain ⟨⟨r99, h100⟩, e79, hG⟩ := hG
                have hT := k71 hR e79
                clear hR
                obtain ⟨kh80, e81, hR⟩ := hT
                refine bE e81 ?_
                rcases r99 with r99 | x101
                · replace hG := zthG hG
                  refine zthEl ?_
                  replace hG := zgd_some hG
                  obtain ⟨g82, hG⟩ := hG
                  refine zE (k_isO hR g82) ?_
                  replace hG := zbnd hG
                  obtain ⟨⟨r105, h106⟩, e83, hG⟩ := hG
                  have hT := k99 hR e83
                  clear hR
                  obtain ⟨kh84, e85, hR⟩ := hT
                  refine bE e85 ?_
                  rcases r105 with r105 | x107
                  · replace hG := zthG hG
                    refine zthEl ?_
                    replace hG := zbnd hG
                    obtain ⟨h109, e86, hG⟩ := hG
                    have hT := k_pF hR e86
                    clear hR
                    obtain ⟨kh87, e88, hR⟩ := hT
                    refine bE e88 ?_
                    replace hG := zgd_some hG
                    obtain ⟨g89, hG⟩ := hG
                    refine zE (k_isO hR g89) ?_
                    replace hG := zbnd hG
                    obtain ⟨⟨r113, h114⟩, e90, hG⟩ := hG
                    have hT := k71 hR e90
                    clear hR
                    obtain ⟨kh91, e92, hR⟩ := hT
                    refine bE e92 ?_
                    rcases r113 with r113 | x115
                    · replace hG := zthG hG
                      refine zthEl ?_
                      exact kf90_144 (n := n) n hR hG
                    · replace hG := zthH hG
                      refine zthEr ?_
                      replace hG := zgd_some hG
                      obtain ⟨g93, hG⟩ := hG
                      refine zE g93 ?_
                      replace hG := Option.some.inj hG
                      subst hG
                      exact ⟨_, rfl, hR⟩
                  · replace hG := zthH hG
                    refine zthEr ?_
                    replace hG := zgd_some hG
                    obtain ⟨g94, hG⟩ := hG
                    refine zE g94 ?_
                    replace hG := Option.some.inj hG
                    subst hG
                    exact ⟨_, rfl, hR⟩
                · replace hG := zthH hG
                  refine zthEr ?_
                  replace hG := zgd_some hG
                  obtain ⟨g95, hG⟩ := hG
                  refine zE g95 ?_
                  replace hG := Option.some.inj hG
                  subst hG
                  exact ⟨_, rfl, hR⟩
              · replace hG := zthH hG
                refine zthEr ?_
                replace hG := zgd_some hG
                obtain ⟨g96, hG⟩ := hG
                refine zE g96 ?_
                replace hG := Option.some.inj hG
                subst hG
                exact ⟨_, rfl, hR⟩
            · replace hG := zthH hG
              refine zthEr ?_
              replace hG := zgd_some hG
              obtain ⟨g97, hG⟩ := hG
              refine zE g97 ?_
              replace hG := Option.some.inj hG
              subst hG
              exact ⟨_, rfl, hR⟩
          · replace hG := zthH hG
            refine zthEr ?_
            replace hG := zgd_some hG
            obtain ⟨g98, hG⟩ := hG
            refine zE g98 ?_
            replace hG := Option.some.inj hG
            subst hG
            exact ⟨_, rfl, hR⟩
        · replace hG := zthH hG
          refine zthEr ?_
          replace hG := zgd_some hG
          obtain ⟨g99, hG⟩ := hG
          refine zE g99 ?_
          replace hG := Option.some.inj hG
          subst hG
          exact ⟨_, rfl, hR⟩
      · replace hG := zthH hG
        refine zthEr ?_
        replace hG := zgd_some hG
        obtain ⟨g100, hG⟩ := hG
        refine zE g100 ?_
        replace hG := Option.some.inj hG
        subst hG
        exact ⟨_, rfl, hR⟩
    · replace hG := zthH hG
      refine zthEr ?_
      replace hG := zgd_some hG
      obtain ⟨g101, hG⟩ := hG
      refine zE g101 ?_
      replace hG := Option.some.inj hG
      subst hG
      exact ⟨_, rfl, hR⟩
  · replace hG := zthH hG
    refine zthEr ?_
    replace hG := zgd_some hG
    obtain ⟨g102, hG⟩ := hG
    refine zE g102 ?_
    replace hG := Option.some.inj hG
    subst hG
    exact ⟨_, rfl, hR⟩
def c108 (n : Nat)  (y0 : Nat) (y1 : Int32) (y2 : Int32) (h : zY) : Option (Unit × zY) :=
  (yP h y0 2 3 (.int 0)).bind fun h1 =>
  (yW h1 7 24).bind fun h3 =>
  (yP h3 y0 2 4 (.ref h1.2.1)).bind fun h5 =>
  (yP h5 y0 2 0 (.int y1)).bind fun h7 =>
  (yP h7 y0 2 1 (.int y2)).bind fun h9 =>
  (yP h9 y0 2 2 (.int y2)).bind fun h11 =>
  some ((), h11)
set_option maxRecDepth 20000 in
theorem k108 {n : Nat} {Mm : Nat → Option zO}   {y0 : Nat} {y1 : Int32} {y2 : Int32} {kh : zH} {h : zY} {p : Unit × zY} (hR : Rep Mm kh h) (hG : c108 n  y0 y1 y2 h = some p) : ∃ kh1 : zH, f108 n  y0 y1 y2 kh = some (p.1, kh1) ∧ Rep Mm kh1 p.2 := by
  unfold c108 at hG
  unfold f108
  replace hG := zbnd hG
  obtain ⟨h1, e1, hG⟩ := hG
  have hT := k_pF hR e1
  clear hR
  obtain ⟨kh2, e3, hR⟩ := hT
  refine bE e3 ?_
  try rw [rep_n hR] at hG
  replace hG := zbnd hG
  obtain ⟨h3, e4, hG⟩ := hG
  have hT := k_nV hR e4
  clear hR
  obtain ⟨kh5, e6, hR⟩ := hT
  refine bE e6 ?_
  replace hG := zbnd hG
  obtain ⟨h5, e7, hG⟩ := hG
  have hT := k_pF hR e7
  clear hR
  obtain ⟨kh8, e9, hR⟩ := hT
  refine bE e9 ?_
  replace hG := zbnd hG
  obtain ⟨h7, e10, hG⟩ := hG
  have hT := k_pF hR e10
  clear hR
  obtain ⟨kh11, e12, hR⟩ := hT
  refine bE e12 ?_
  replace hG := zbnd hG
  obtain ⟨h9, e13, hG⟩ := hG
  have hT := k_pF hR e13
  clear hR
  obtain ⟨kh14, e15, hR⟩ := hT
  refine bE e15 ?_
  replace hG := zbnd hG
  obtain ⟨h11, e16, hG⟩ := hG
  have hT := k_pF hR e16
  clear hR
  obtain ⟨kh17, e18, hR⟩ := hT
  refine bE e18 ?_
  replace hG := Option.some.inj hG
  subst hG
  exact ⟨_, rfl, hR⟩
def cb109_48 (n : Nat)   (l0 : Nat) (l1 : Option Nat) (h : zY) : Option ((Option Nat ⊕ Nat) × zY) :=
  (yR h l0 5 0).bind fun x1 =>
  x1.bind fun a3 =>
  (yI h a3 4 8).bind fun x4 =>
  zgd (yisO h l0 5) <|
  (c69 n l0 x4 40 h).bind fun p11 => zth p11 (fun r8 h9 =>
    (yR h9 l0 5 0).bind fun x12 =>
    x12.bind fun a14 =>
    (yI h9 a14 4 8).bind fun x15 =>
    (yP h9 a14 4 8 (.int (x15 + 1))).bind fun h17 =>
    some (.inl l1, h17))
    (fun x10 h9 =>
    zgd (exOk x10) <| some (.inr x10, h9))
set_option maxRecDepth 20000 in
theorem kb109_48 {n : Nat} {Mm : Nat → Option zO}     {l0 : Nat} {l1 : Option Nat}  {kh : zH} {h : zY} {p : (Option Nat ⊕ Nat) × zY} (hR : Rep Mm kh h) (hG : cb109_48 n   l0 l1 h = some p) : ∃ kh1 : zH, b109_48 n   l0 l1 kh = some (p.1, kh1) ∧ Rep Mm kh1 p.2 := by
  unfold cb109_48 at hG
  unfold b109_48
  replace hG := zbnd hG
  obtain ⟨x1, e1, hG⟩ := hG
  refine bE (k_gR hR e1) ?_
  replace hG := zbnd hG
  obtain ⟨a3, rfl, hG⟩ := hG
  refine bE rfl ?_
  replace hG := zbnd hG
  obtain ⟨x4, e3, hG⟩ := hG
  refine bE (k_gI hR e3) ?_
  replace hG := zgd_some hG
  obtain ⟨g4, hG⟩ := hG
  refine zE (k_isO hR g4) ?_
  replace hG := zbnd hG
  obtain ⟨⟨r8, h9⟩, e5, hG⟩ := hG
  have hT := k69 hR e5
  clear hR
  obtain ⟨kh6, e7, hR⟩ := hT
  refine bE e7 ?_
  rcases r8 with r8 | x10
  · replace hG := zthG hG
    refine zthEl ?_
    replace hG := zbnd hG
    obtain ⟨x12, e8, hG⟩ := hG
    refine bE (k_gR hR e8) ?_
    replace hG := zbnd hG
    obtain ⟨a14, rfl, hG⟩ := hG
    refine bE rfl ?_
    replace hG := zbnd hG
    obtain ⟨x15, e10, hG⟩ := hG
    refine bE (k_gI hR e10) ?_
    replace hG := zbnd hG
    obtain ⟨h17, e11, hG⟩ := hG
    have hT := k_pF hR e11
    clear hR
    obtain ⟨kh12, e13, hR⟩ := hT
    refine bE e13 ?_
    replace hG := Option.some.inj hG
    subst hG
    exact ⟨_, rfl, hR⟩
  · replace hG := zthH hG
    refine zthEr ?_
    replace hG := zgd_some hG
    obtain ⟨g14, hG⟩ := hG
    refine zE g14 ?_
    replace hG := Option.some.inj hG
    subst hG
    exact ⟨_, rfl, hR⟩
def c109 (n : Nat)  (y0 : Nat) (h : zY) : Option ((Option Nat ⊕ Nat) × zY) :=
  (yR h y0 5 3).bind fun x1 =>
  x1.bind fun a3 =>
  (yR h a3 9 0).bind fun x4 =>
  (rEq x4 (some 22)).bind fun b6 =>
  if b6 = true then
    (yR h y0 5 0).bind fun x9 =>
    x9.bind fun a11 =>
    (yR h a11 4 6).bind fun x12 =>
    x12.bind fun a14 =>
    zgd (yisO h a14 14) <|
    (c68 n a14 h).bind fun p17 =>
    zgd (yisO p17.2 y0 5) <|
    (c69 n y0 p17.1 100 p17.2).bind fun p23 => zth p23 (fun r20 h21 =>
      some (.inl x4, h21))
      (fun x22 h21 =>
      zgd (exOk x22) <| some (.inr x22, h21))
  else
    (rEq x4 (some 20)).bind fun b24 =>
    if b24 = true then
      cb109_48 n  y0 x4 h
    else
      (rEq x4 (some 25)).bind fun b27 =>
      if b27 = true then
        cb109_48 n  y0 x4 h
      else
        (yR h y0 5 3).bind fun x30 =>
        zgd (yisO h y0 5) <|
        (c70 n y0 2 x30 h).bind fun p37 => zth p37 (fun r34 h35 =>
          some (.inl x4, h35))
          (fun x36 h35 =>
          zgd (exOk x36) <| some (.inr x36, h35))
set_option maxRecDepth 20000 in
theorem k109 {n : Nat} {Mm : Nat → Option zO}   {y0 : Nat} {kh : zH} {h : zY} {p : (Option Nat ⊕ Nat) × zY} (hR : Rep Mm kh h) (hG : c109 n  y0 h = some p) : ∃ kh1 : zH, f109 n  y0 kh = some (p.1, kh1) ∧ Rep Mm kh1 p.2 := by
  unfold c109 at hG
  unfold f109
  replace hG := zbnd hG
  obtain ⟨x1, e1, hG⟩ := hG
  refine bE (k_gR hR e1) ?_
  replace hG := zbnd hG
  obtain ⟨a3, rfl, hG⟩ := hG
  refine bE rfl ?_
  replace hG := zbnd hG
  obtain ⟨x4, e3, hG⟩ := hG
  refine bE (k_gR hR e3) ?_
  replace hG := zbnd hG
  obtain ⟨b6, e4, hG⟩ := hG
  refine bE e4 ?_
  by_cases c5 : b6 = true
  · rw [if_pos c5] at hG
    refine iE1 c5 ?_
    replace hG := zbnd hG
    obtain ⟨x9, e6, hG⟩ := hG
    refine bE (k_gR hR e6) ?_
    replace hG := zbnd hG
    obtain ⟨a11, rfl, hG⟩ := hG
    refine bE rfl ?_
    replace hG := zbnd hG
    obtain ⟨x12, e8, hG⟩ := hG
    refine bE (k_gR hR e8) ?_
    replace hG := zbnd hG
    obtain ⟨a14, rfl, hG⟩ := hG
    refine bE rfl ?_
    replace hG := zgd_some hG
    obtain ⟨g10, hG⟩ := hG
    refine zE (k_isO hR g10) ?_
    replace hG := zbnd hG
    obtain ⟨p17, e11, hG⟩ := hG
    have hT := k68 hR e11
    clear hR
    obtain ⟨kh12, e13, hR⟩ := hT
    refine bE e13 ?_
    replace hG := zgd_some hG
    obtain ⟨g14, hG⟩ := hG
    refine zE (k_isO hR g14) ?_
    replace hG := zbnd hG
    obtain ⟨⟨r20, h21⟩, e15, hG⟩ := hG
    have hT := k69 hR e15
    clear hR
    obtain ⟨kh16, e17, hR⟩ := hT
    refine bE e17 ?_
    rcases r20 with r20 | x22
    · replace hG := zthG hG
      refine zthEl ?_
      replace hG := Option.some.inj hG
      subst hG
      exact ⟨_, rfl, hR⟩
    · replace hG := zthH hG
      refine zthEr ?_
      replace hG := zgd_some hG
      obtain ⟨g18, hG⟩ := hG
      refine zE g18 ?_
      replace hG := Option.some.inj hG
      subst hG
      exact ⟨_, rfl, hR⟩
  · rw [if_neg c5] at hG
    refine iE2 c5 ?_
    replace hG := zbnd hG
    obtain ⟨b24, e19, hG⟩ := hG
    refine bE e19 ?_
    by_cases c20 : b24 = true
    · rw [if_pos c20] at hG
      refine iE1 c20 ?_
      exact kb109_48 (n := n) hR hG
    · rw [if_neg c20] at hG
      refine iE2 c20 ?_
      replace hG := zbnd hG
      obtain ⟨b27, e21, hG⟩ := hG
      refine bE e21 ?_
      by_cases c22 : b27 = true
      · rw [if_pos c22] at hG
        refine iE1 c22 ?_
        exact kb109_48 (n := n) hR hG
      · rw [if_neg c22] at hG
        refine iE2 c22 ?_
        replace hG := zbnd hG
        obtain ⟨x30, e23, hG⟩ := hG
        refine bE (k_gR hR e23) ?_
        replace hG := zgd_some hG
        obtain ⟨g24, hG⟩ := hG
        refine zE (k_isO hR g24) ?_
        replace hG := zbnd hG
        obtain ⟨⟨r34, h35⟩, e25, hG⟩ := hG
        have hT := k70 hR e25
        clear hR
        obtain ⟨kh26, e27, hR⟩ := hT
        refine bE e27 ?_
        rcases r34 with r34 | x36
        · replace hG := zthG hG
          refine zthEl ?_
          replace hG := Option.some.inj hG
          subst hG
          exact ⟨_, rfl, hR⟩
        · replace hG := zthH hG
          refine zthEr ?_
          replace hG := zgd_some hG
          obtain ⟨g28, hG⟩ := hG
          refine zE g28 ?_
          replace hG := Option.some.inj hG
          subst hG
          exact ⟨_, rfl, hR⟩
def c110 (n : Nat)  (y0 : Nat) (y1 : Int32) (y2 : Option Nat) (h : zY) : Option (Unit × zY) :=
  (yR h y0 2 4).bind fun x1 =>
  x1.bind fun a3 =>
  (yL h a3).bind fun x4 =>
  (c13 n y1 x4 h).bind fun p7 =>
  if p7.1 = 0 then
    some ((), p7.2)
  else
    (yR p7.2 y0 2 4).bind fun x9 =>
    x9.bind fun a11 =>
    (yaR p7.2 a11 y1).bind fun x12 =>
    match x12 with
    | none =>
      (yR p7.2 y0 2 4).bind fun x15 =>
      x15.bind fun a17 =>
      (yS (ysA p7.2) p7.2 a17 y1 (va_rf y2)).bind fun h18 =>
      some ((), h18)
    | some a14 =>
      some ((), p7.2)
set_option maxRecDepth 20000 in
theorem k110 {n : Nat} {Mm : Nat → Option zO}   {y0 : Nat} {y1 : Int32} {y2 : Option Nat} {kh : zH} {h : zY} {p : Unit × zY} (hR : Rep Mm kh h) (hG : c110 n  y0 y1 y2 h = some p) : ∃ kh1 : zH, f110 n  y0 y1 y2 kh = some (p.1, kh1) ∧ Rep Mm kh1 p.2 := by
  unfold c110 at hG
  unfold f110
  replace hG := zbnd hG
  obtain ⟨x1, e1, hG⟩ := hG
  refine bE (k_gR hR e1) ?_
  replace hG := zbnd hG
  obtain ⟨a3, rfl, hG⟩ := hG
  refine bE rfl ?_
  replace hG := zbnd hG
  obtain ⟨x4, e3, hG⟩ := hG
  refine bE (k_aN hR e3) ?_
  replace hG := zbnd hG
  obtain ⟨p7, e4, hG⟩ := hG
  have hT := k13 hR e4
  clear hR
  obtain ⟨kh5, e6, hR⟩ := hT
  refine bE e6 ?_
  by_cases c7 : p7.1 = 0
  · rw [if_pos c7] at hG
    refine iE1 c7 ?_
    replace hG := Option.some.inj hG
    subst hG
    exact ⟨_, rfl, hR⟩
  · rw [if_neg c7] at hG
    refine iE2 c7 ?_
    replace hG := zbnd hG
    obtain ⟨x9, e8, hG⟩ := hG
    refine bE (k_gR hR e8) ?_
    replace hG := zbnd hG
    obtain ⟨a11, rfl, hG⟩ := hG
    refine bE rfl ?_
    replace hG := zbnd hG
    obtain ⟨x12, e10, hG⟩ := hG
    refine bE (k_aR hR e10) ?_
    cases x12 with
    | none =>
      dsimp only at hG ⊢
      replace hG := zbnd hG
      obtain ⟨x15, e11, hG⟩ := hG
      refine bE (k_gR hR e11) ?_
      replace hG := zbnd hG
      obtain ⟨a17, rfl, hG⟩ := hG
      refine bE rfl ?_
      replace hG := zbnd hG
      obtain ⟨h18, e13, hG⟩ := hG
      have hT := k_sR hR e13
      clear hR
      obtain ⟨kh14, e15, hR⟩ := hT
      refine bE e15 ?_
      replace hG := Option.some.inj hG
      subst hG
      exact ⟨_, rfl, hR⟩
    | some a14 =>
      dsimp only at hG ⊢
      replace hG := Option.some.inj hG
      subst hG
      exact ⟨_, rfl, hR⟩
def cb107_289 (n : Nat)   (l0 : Nat) (l1 : Option Nat) (l2 : Int32) (l3 : Nat) (l4 : Int32) (h : zY) : Option ((Unit ⊕ Nat) × zY) :=
  (yR h l0 5 0).bind fun x1 =>
  x1.bind fun a3 =>
  (yR h a3 4 6).bind fun x4 =>
  x4.bind fun a6 =>
  zgd (yisO h a6 14) <|
  (c68 n a6 h).bind fun p9 =>
  (yP p9.2 l3 2 2 (.int p9.1)).bind fun h10 =>
  zgd (yisO h10 l0 5) <|
  (c71 n l0 (some 7) h10).bind fun p17 => zth p17 (fun r14 h15 =>
    some (.inl (), h15))
    (fun x16 h15 =>
    zgd (exOk x16) <| some (.inr x16, h15))
set_option maxRecDepth 20000 in
theorem kb107_289 {n : Nat} {Mm : Nat → Option zO}     {l0 : Nat} {l1 : Option Nat} {l2 : Int32} {l3 : Nat} {l4 : Int32}  {kh : zH} {h : zY} {p : (Unit ⊕ Nat) × zY} (hR : Rep Mm kh h) (hG : cb107_289 n   l0 l1 l2 l3 l4 h = some p) : ∃ kh1 : zH, b107_289 n   l0 l1 l2 l3 l4 kh = some (p.1, kh1) ∧ Rep Mm kh1 p.2 := by
  unfold cb107_289 at hG
  unfold b107_289
  replace hG := zbnd hG
  obtain ⟨x1, e1, hG⟩ := hG
  refine bE (k_gR hR e1) ?_
  replace hG := zbnd hG
  obtain ⟨a3, rfl, hG⟩ := hG
  refine bE rfl ?_
  replace hG := zbnd hG
  obtain ⟨x4, e3, hG⟩ := hG
  refine bE (k_gR hR e3) ?_
  replace hG := zbnd hG
  obtain ⟨a6, rfl, hG⟩ := hG
  refine bE rfl ?_
  replace hG := zgd_some hG
  obtain ⟨g5, hG⟩ := hG
  refine zE (k_isO hR g5) ?_
  replace hG := zbnd hG
  obtain ⟨p9, e6, hG⟩ := hG
  have hT := k68 hR e6
  clear hR
  obtain ⟨kh7, e8, hR⟩ := hT
  refine bE e8 ?_
  replace hG := zbnd hG
  obtain ⟨h10, e9, hG⟩ := hG
  have hT := k_pF hR e9
  clear hR
  obtain ⟨kh10, e11, hR⟩ := hT
  refine bE e11 ?_
  replace hG := zgd_some hG
  obtain ⟨g12, hG⟩ := hG
  refine zE (k_isO hR g12) ?_
  replace hG := zbnd hG
  obtain ⟨⟨r14, h15⟩, e13, hG⟩ := hG
  have hT := k71 hR e13
  clear hR
  obtain ⟨kh14, e15, hR⟩ := hT
  refine bE e15 ?_
  rcases r14 with r14 | x16
  · replace hG := zthG hG
    refine zthEl ?_
    replace hG := Option.some.inj hG
    subst hG
    exact ⟨_, rfl, hR⟩
  · replace hG := zthH hG
    refine zthEr ?_
    replace hG := zgd_some hG
    obtain ⟨g16, hG⟩ := hG
    refine zE g16 ?_
    replace hG := Option.some.inj hG
    subst hG
    exact ⟨_, rfl, hR⟩
def cb107_283 (n : Nat)  (r117 : Nat → Option Nat → Int32 → Nat → Int32 → zY → Option ((Unit ⊕ Nat) × zY)) (l0 : Nat) (l1 : Option Nat) (l2 : Int32) (l3 : Nat) (l4 : Int32) (l5 : Option Nat) (l6 : Int32) (l7 : Option Nat) (h : zY) : Option ((Unit ⊕ Nat) × zY) :=
  r117 l0 l1 l2 l3 (l4 + 1) h
set_option maxRecDepth 20000 in
theorem kb107_283 {n : Nat} {Mm : Nat → Option zO}  {q117 : Nat → Option Nat → Int32 → Nat → Int32 → zY → Option ((Unit ⊕ Nat) × zY)} {r117 : Nat → Option Nat → Int32 → Nat → Int32 → zH → Option ((Unit ⊕ Nat) × zH)}  (hr117 : ∀ {l0 : Nat} {l1 : Option Nat} {l2 : Int32} {l3 : Nat} {l4 : Int32}  {kh : zH} {h : zY} {p : (Unit ⊕ Nat) × zY}, Rep Mm kh h → q117 l0 l1 l2 l3 l4 h = some p → ∃ kh1 : zH, r117 l0 l1 l2 l3 l4 kh = some (p.1, kh1) ∧ Rep Mm kh1 p.2) {l0 : Nat} {l1 : Option Nat} {l2 : Int32} {l3 : Nat} {l4 : Int32} {l5 : Option Nat} {l6 : Int32} {l7 : Option Nat}  {kh : zH} {h : zY} {p : (Unit ⊕ Nat) × zY} (hR : Rep Mm kh h) (hG : cb107_283 n  q117 l0 l1 l2 l3 l4 l5 l6 l7 h = some p) : ∃ kh1 : zH, b107_283 n  r117 l0 l1 l2 l3 l4 l5 l6 l7 kh = some (p.1, kh1) ∧ Rep Mm kh1 p.2 := by
  unfold cb107_283 at hG
  unfold b107_283
  exact hr117 hR hG
def cb107_117 (n : Nat)  (r117 : Nat → Option Nat → Int32 → Nat → Int32 → zY → Option ((Unit ⊕ Nat) × zY)) (l0 : Nat) (l1 : Option Nat) (l2 : Int32) (l3 : Nat) (l4 : Int32) (h : zY) : Option ((Unit ⊕ Nat) × zY) :=
  if (6000 : Int32) ≤ l4 then
    cb107_289 n  l0 l1 l2 l3 l4 h
  else
    (yR h l0 5 3).bind fun x2 =>
    x2.bind fun a4 =>
    (yR h a4 9 0).bind fun x5 =>
    (rEq x5 (some 7)).bind fun b7 =>
    if b7 = true then
      cb107_289 n  l0 l1 l2 l3 l4 h
    else
      zgd (yisO h l0 5) <|
      (c109 n l0 h).bind fun p15 => zth p15 (fun r12 h13 =>
        (yR h13 l0 5 0).bind fun x16 =>
        x16.bind fun a18 =>
        (yR h13 a18 4 1).bind fun x19 =>
        zgd (yisO h13 l0 5) <|
        (c81 n l0 x19 h13).bind fun p26 => zth p26 (fun r23 h24 =>
          (yR h24 l0 5 0).bind fun x27 =>
          x27.bind fun a29 =>
          (yR h24 a29 4 4).bind fun x30 =>
          x30.bind fun a32 =>
          zgd (yisO h24 a32 14) <|
          (c74 n a32 r23 h24).bind fun p35 =>
          zgd (ykC p35.2 p35.1 0 0) <|
          (rEq r12 (some 20)).bind fun b37 =>
          if b37 = true then
            (yI p35.2 l3 2 3).bind fun x40 =>
            (yP p35.2 l3 2 3 (.int (x40 ||| (1 <<< (r23 &&& 31))))).bind fun h42 =>
            zgd (yisO h42 l0 5) <|
            (c71 n l0 (some 10) h42).bind fun p49 => zth p49 (fun r46 h47 =>
              cb107_283 n r117 l0 l1 l2 l3 l4 r12 r23 p35.1 h47)
              (fun x48 h47 =>
              zgd (exOk x48) <| some (.inr x48, h47))
          else
            (rEq r12 (some 25)).bind fun b50 =>
            if b50 = true then
              zgd (yisO p35.2 l0 5) <|
              (c71 n l0 (some 13) p35.2).bind fun p58 => zth p58 (fun r55 h56 =>
                zgd (yisO h56 l0 5) <|
                (c95 n l0 p35.1 h56).bind fun p64 => zth p64 (fun r61 h62 =>
                  zgd (yisO h62 l3 2) <|
                  (c110 n l3 r23 r61 h62).bind fun p67 =>
                  cb107_283 n r117 l0 l1 l2 l3 l4 r12 r23 p35.1 p67.2)
                  (fun x63 h62 =>
                  zgd (exOk x63) <| some (.inr x63, h62)))
                (fun x57 h56 =>
                zgd (exOk x57) <| some (.inr x57, h56))
            else
              zgd (yisO p35.2 l0 5) <|
              (c77 n 64 l0 (some 32) 0 p35.2).bind fun p73 => zth p73 (fun r70 h71 =>
                zgd (yisO h71 l0 5) <|
                (c71 n l0 (some 14) h71).bind fun p79 => zth p79 (fun r76 h77 =>
                  (yR h77 l0 5 0).bind fun x80 =>
                  x80.bind fun a82 =>
                  (yR h77 a82 4 6).bind fun x83 =>
                  zgd (yisO (yN h77 6 3) l0 5) <|
                  (c95 n l0 p35.1 (yN h77 6 3)).bind fun p90 => zth p90 (fun r87 h88 =>
                    (c106 n h77.2.1 r23 r70 r87 h88).bind fun p92 =>
                    x83.bind fun a93 =>
                    zgd (yisO p92.2 a93 14) <|
                    (c86 n a93 (some h77.2.1) p92.2).bind fun p96 =>
                    cb107_283 n r117 l0 l1 l2 l3 l4 r12 r23 p35.1 p96.2)
                    (fun x89 h88 =>
                    zgd (exOk x89) <| some (.inr x89, h88)))
                  (fun x78 h77 =>
                  zgd (exOk x78) <| some (.inr x78, h77)))
                (fun x72 h71 =>
                zgd (exOk x72) <| some (.inr x72, h71)))
          (fun x25 h24 =>
          zgd (exOk x25) <| some (.inr x25, h24)))
        (fun x14 h13 =>
        zgd (exOk x14) <| some (.inr x14, h13))
set_option maxRecDepth 20000 in
theorem kb107_117 {n : Nat} {Mm : Nat → Option zO}  {q117 : Nat → Option Nat → Int32 → Nat → Int32 → zY → Option ((Unit ⊕ Nat) × zY)} {r117 : Nat → Option Nat → Int32 → Nat → Int32 → zH → Option ((Unit ⊕ Nat) × zH)}  (hr117 : ∀ {l0 : Nat} {l1 : Option Nat} {l2 : Int32} {l3 : Nat} {l4 : Int32}  {kh : zH} {h : zY} {p : (Unit ⊕ Nat) × zY}, Rep Mm kh h → q117 l0 l1 l2 l3 l4 h = some p → ∃ kh1 : zH, r117 l0 l1 l2 l3 l4 kh = some (p.1, kh1) ∧ Rep Mm kh1 p.2) {l0 : Nat} {l1 : Option Nat} {l2 : Int32} {l3 : Nat} {l4 : Int32}  {kh : zH} {h : zY} {p : (Unit ⊕ Nat) × zY} (hR : Rep Mm kh h) (hG : cb107_117 n  q117 l0 l1 l2 l3 l4 h = some p) : ∃ kh1 : zH, b107_117 n  r117 l0 l1 l2 l3 l4 kh = some (p.1, kh1) ∧ Rep Mm kh1 p.2 := by
  unfold cb107_117 at hG
  unfold b107_117
  by_cases c1 : (6000 : Int32) ≤ l4
  · rw [if_pos c1] at hG
    refine iE1 c1 ?_
    exact kb107_289 (n := n) hR hG
  · rw [if_neg c1] at hG
    refine iE2 c1 ?_
    replace hG := zbnd hG
    obtain ⟨x2, e2, hG⟩ := hG
    refine bE (k_gR hR e2) ?_
    replace hG := zbnd hG
    obtain ⟨a4, rfl, hG⟩ := hG
    refine bE rfl ?_
    replace hG := zbnd hG
    obtain ⟨x5, e4, hG⟩ := hG
    refine bE (k_gR hR e4) ?_
    replace hG := zbnd hG
    obtain ⟨b7, e5, hG⟩ := hG
    refine bE e5 ?_
    by_cases c6 : b7 = true
    · rw [if_pos c6] at hG
      refine iE1 c6 ?_
      exact kb107_289 (n := n) hR hG
    · rw [if_neg c6] at hG
      refine iE2 c6 ?_
      replace hG := zgd_some hG
      obtain ⟨g7, hG⟩ := hG
      refine zE (k_isO hR g7) ?_
      replace hG := zbnd hG
      obtain ⟨⟨r12, h13⟩, e8, hG⟩ := hG
      have hT := k109 hR e8
      clear hR
      obtain ⟨kh9, e10, hR⟩ := hT
      refine bE e10 ?_
      rcases r12 with r12 | x14
      · replace hG := zthG hG
        refine zthEl ?_
        replace hG := zbnd hG
        obtain ⟨x16, e11, hG⟩ := hG
        refine bE (k_gR hR e11) ?_
        replace hG := zbnd hG
        obtain ⟨a18, rfl, hG⟩ := hG
        refine bE rfl ?_
        replace hG := zbnd hG
        obtain ⟨x19, e13, hG⟩ := hG
        refine bE (k_gR hR e13) ?_
        replace hG := zgd_some hG
        obtain ⟨g14, hG⟩ := hG
        refine zE (k_isO hR g14) ?_
        replace hG := zbnd hG
        obtain ⟨⟨r23, h24⟩, e15, hG⟩ := hG
        have hT := k81 hR e15
        clear hR
        obtain ⟨kh16, e17, hR⟩ := hT
        refine bE e17 ?_
        rcases r23 with r23 | x25
        · replace hG := zthG hG
          refine zthEl ?_
          replace hG := zbnd hG
          obtain ⟨x27, e18, hG⟩ := hG
          refine bE (k_gR hR e18) ?_
          replace hG := zbnd hG
          obtain ⟨a29, rfl, hG⟩ := hG
          refine bE rfl ?_
          replace hG := zbnd hG
          obtain ⟨x30, e20, hG⟩ := hG
          refine bE (k_gR hR e20) ?_
          replace hG := zbnd hG
          obtain ⟨a32, rfl, hG⟩ := hG
          refine bE rfl ?_
          replace hG := zgd_some hG
          obtain ⟨g22, hG⟩ := hG
          refine zE (k_isO hR g22) ?_
          replace hG := zbnd hG
          obtain ⟨p35, e23, hG⟩ := hG
          have hT := k74 hR e23
          clear hR
          obtain ⟨kh24, e25, hR⟩ := hT
          refine bE e25 ?_
          replace hG := zgd_some hG
          obtain ⟨g26, hG⟩ := hG
          refine zE (k_kC hR g26) ?_
          replace hG := zbnd hG
          obtain ⟨b37, e27, hG⟩ := hG
          refine bE e27 ?_
          by_cases c28 : b37 = true
          · rw [if_pos c28] at hG
            refine iE1 c28 ?_
            replace hG := zbnd hG
            obtain ⟨x40, e29, hG⟩ := hG
            refine bE (k_gI hR e29) ?_
            replace hG := zbnd hG
            obtain ⟨h42, e30, hG⟩ := hG
            have hT := k_pF hR e30
            clear hR
            obtain ⟨kh31, e32, hR⟩ := hT
            refine bE e32 ?_
            replace hG := zgd_some hG
            obtain ⟨g33, hG⟩ := hG
            refine zE (k_isO hR g33) ?_
            replace hG := zbnd hG
            obtain ⟨⟨r46, h47⟩, e34, hG⟩ := hG
            have hT := k71 hR e34
            clear hR
            obtain ⟨kh35, e36, hR⟩ := hT
            refine bE e36 ?_
            rcases r46 with r46 | x48
            · replace hG := zthG hG
              refine zthEl ?_
              exact kb107_283 (n := n) (q117 := q117) (r117 := r117) hr117 hR hG
            · replace hG := zthH hG
              refine zthEr ?_
              replace hG := zgd_some hG
              obtain ⟨g37, hG⟩ := hG
              refine zE g37 ?_
              replace hG := Option.some.inj hG
              subst hG
              exact ⟨_, rfl, hR⟩
          · rw [if_neg c28] at hG
            refine iE2 c28 ?_
            replace hG := zbnd hG
            obtain ⟨b50, e38, hG⟩ := hG
            refine bE e38 ?_
            by_cases c39 : b50 = true
            · rw [if_pos c39] at hG
              refine iE1 c39 ?_
              replace hG := zgd_some hG
              obtain ⟨g40, hG⟩ := hG
              refine zE (k_isO hR g40) ?_
              replace hG := zbnd hG
              obtain ⟨⟨r55, h56⟩, e41, hG⟩ := hG
              have hT := k71 hR e41
              clear hR
              obtain ⟨kh42, e43, hR⟩ := hT
              refine bE e43 ?_
              rcases r55 with r55 | x57
              · replace hG := zthG hG
                refine zthEl ?_
                replace hG := zgd_some hG
                obtain ⟨g44, hG⟩ := hG
                refine zE (k_isO hR g44) ?_
                replace hG := zbnd hG
                obtain ⟨⟨r61, h62⟩, e45, hG⟩ := hG
                have hT := k95 hR e45
                clear hR
                obtain ⟨kh46, e47, hR⟩ := hT
                refine bE e47 ?_
                rcases r61 with r61 | x63
                · replace hG := zthG hG
                  refine zthEl ?_
                  replace hG := zgd_some hG
                  obtain ⟨g48, hG⟩ := hG
                  refine zE (k_isO hR g48) ?_
                  replace hG := zbnd hG
                  obtain ⟨p67, e49, hG⟩ := hG
                  have hT := k110 hR e49
                  clear hR
                  obtain ⟨kh50, e51, hR⟩ := hT
                  refine bE e51 ?_
                  exact kb107_283 (n := n) (q117 := q117) (r117 := r117) hr117 hR hG
                · replace hG := zthH hG
                  refine zthEr ?_
                  replace hG := zgd_some hG
                  obtain ⟨g52, hG⟩ := hG
                  refine zE g52 ?_
                  replace hG := Option.some.inj hG
                  subst hG
                  exact ⟨_, rfl, hR⟩
              · replace hG := zthH hG
                refine zthEr ?_
                replace hG := zgd_some hG
                obtain ⟨g53, hG⟩ := hG
                refine zE g53 ?_
                replace hG := Option.some.inj hG
                subst hG
                exact ⟨_, rfl, hR⟩
            · rw [if_neg c39] at hG
              refine iE2 c39 ?_
              replace hG := zgd_some hG
              obtain ⟨g54, hG⟩ := hG
              refine zE (k_isO hR g54) ?_
              replace hG := zbnd hG
              obtain ⟨⟨r70, h71⟩, e55, hG⟩ := hG
              have hT := k77 64 hR e55
              clear hR
              obtain ⟨kh56, e57, hR⟩ := hT
              refine bE e57 ?_
              rcases r70 with r70 | x72
              · replace hG := zthG hG
                refine zthEl ?_
                replace hG := zgd_some hG
                obtain ⟨g58, hG⟩ := hG
                refine zE (k_isO hR g58) ?_
                replace hG := zbnd hG
                obtain ⟨⟨r76, h77⟩, e59, hG⟩ := hG
                have hT := k71 hR e59
                clear hR
                obtain ⟨kh60, e61, hR⟩ := hT
                refine bE e61 ?_
                rcases r76 with r76 | x78
                · replace hG := zthG hG
                  refine zthEl ?_
                  replace hG := zbnd hG
                  obtain ⟨x80, e62, hG⟩ := hG
                  refine bE (k_gR hR e62) ?_
                  replace hG := zbnd hG
                  obtain ⟨a82, rfl, hG⟩ := hG
                  refine bE rfl ?_
                  replace hG := zbnd hG
                  obtain ⟨x83, e64, hG⟩ := hG
                  refine bE (k_gR hR e64) ?_
                  try rw [rep_n hR] at hG
                  replace hR := k_nO (ci := 6) (n := 3) hR
                  replace hG := zgd_some hG
                  obtain ⟨g65, hG⟩ := hG
                  refine zE (k_isO hR g65) ?_
                  replace hG := zbnd hG
                  obtain ⟨⟨r87, h88⟩, e66, hG⟩ := hG
                  have hT := k95 hR e66
                  clear hR
                  obtain ⟨kh67, e68, hR⟩ := hT
                  refine bE e68 ?_
                  rcases r87 with r87 | x89
                  · replace hG := zthG hG
                    refine zthEl ?_
                    replace hG := zbnd hG
                    obtain ⟨p92, e69, hG⟩ := hG
                    have hT := k106 hR e69
                    clear hR
                    obtain ⟨kh70, e71, hR⟩ := hT
                    refine bE e71 ?_
                    replace hG := zbnd hG
                    obtain ⟨a93, rfl, hG⟩ := hG
                    refine bE rfl ?_
                    replace hG := zgd_some hG
                    obtain ⟨g73, hG⟩ := hG
                    refine zE (k_isO hR g73) ?_
                    replace hG := zbnd hG
                    obtain ⟨p96, e74, hG⟩ := hG
                    have hT := k86 hR e74
                    clear hR
                    obtain ⟨kh75, e76, hR⟩ := hT
                    refine bE e76 ?_
                    exact kb107_283 (n := n) (q117 := q117) (r117 := r117) hr117 hR hG
                  · replace hG := zthH hG
                    refine zthEr ?_
                    replace hG := zgd_some hG
                    obtain ⟨g77, hG⟩ := hG
                    refine zE g77 ?_
                    replace hG := Option.some.inj hG
                    subst hG
                    exact ⟨_, rfl, hR⟩
                · replace hG := zthH hG
                  refine zthEr ?_
                  replace hG := zgd_some hG
                  obtain ⟨g78, hG⟩ := hG
                  refine zE g78 ?_
                  replace hG := Option.some.inj hG
                  subst hG
                  exact ⟨_, rfl, hR⟩
              · replace hG := zthH hG
                refine zthEr ?_
                replace hG := zgd_some hG
                obtain ⟨g79, hG⟩ := hG
                refine zE g79 ?_
                replace hG := Option.some.inj hG
                subst hG
                exact ⟨_, rfl, hR⟩
        · replace hG := zthH hG
          refine zthEr ?_
          replace hG := zgd_some hG
          obtain ⟨g80, hG⟩ := hG
          refine zE g80 ?_
          replace hG := Option.some.inj hG
          subst hG
          exact ⟨_, rfl, hR⟩
      · replace hG := zthH hG
        refine zthEr ?_
        replace hG := zgd_some hG
        obtain ⟨g81, hG⟩ := hG
        refine zE g81 ?_
        replace hG := Option.some.inj hG
        subst hG
        exact ⟨_, rfl, hR⟩
def cf107_117 (n : Nat)   (k : Nat) : Nat → Option Nat → Int32 → Nat → Int32 → zY → Option ((Unit ⊕ Nat) × zY) := Nat.rec (fun _ _ _ _ _ _ => none) (fun _ ih => cb107_117 n  ih) k
theorem kf107_117 {n : Nat} {Mm : Nat → Option zO}     (k : Nat) : ∀ {l0 : Nat} {l1 : Option Nat} {l2 : Int32} {l3 : Nat} {l4 : Int32}  {kh : zH} {h : zY} {p : (Unit ⊕ Nat) × zY}, Rep Mm kh h → cf107_117 n   k l0 l1 l2 l3 l4 h = some p → ∃ kh1 : zH, f107_117 n   k l0 l1 l2 l3 l4 kh = some (p.1, kh1) ∧ Rep Mm kh1 p.2 := by
  induction k with
  | zero => intros; rename_i hG; cases hG
  | succ k ih => intros; rename_i hR hG; exact kb107_117 (n := n) (q117 := cf107_117 n   k) (r117 := f107_117 n   k)  ih hR hG
def cb107_63 (n : Nat)   (l0 : Nat) (l1 : Option Nat) (l2 : Int32) (h : zY) : Option ((Unit ⊕ Nat) × zY) :=
  zgd (yisO h l0 5) <|
  (c71 n l0 (some 6) h).bind fun p6 => zth p6 (fun r3 h4 =>
    (yR (yN h4 2 5) l0 5 0).bind fun x7 =>
    x7.bind fun a9 =>
    (yR (yN h4 2 5) a9 4 6).bind fun x10 =>
    x10.bind fun a12 =>
    zgd (yisO (yN h4 2 5) a12 14) <|
    (c68 n a12 (yN h4 2 5)).bind fun p15 =>
    (c108 n h4.2.1 l2 p15.1 p15.2).bind fun p17 =>
    (yR p17.2 l0 5 0).bind fun x18 =>
    x18.bind fun a20 =>
    (yR p17.2 a20 4 2).bind fun x21 =>
    x21.bind fun a23 =>
    zgd (yisO p17.2 a23 14) <|
    (c86 n a23 l1 p17.2).bind fun p26 =>
    (yR p26.2 l0 5 0).bind fun x27 =>
    x27.bind fun a29 =>
    (yR p26.2 a29 4 5).bind fun x30 =>
    x30.bind fun a32 =>
    zgd (yisO p26.2 a32 14) <|
    (c86 n a32 (some h4.2.1) p26.2).bind fun p35 =>
    cf107_117 n  n l0 l1 l2 h4.2.1 0 p35.2)
    (fun x5 h4 =>
    zgd (exOk x5) <| some (.inr x5, h4))
set_option maxRecDepth 20000 in
theorem kb107_63 {n : Nat} {Mm : Nat → Option zO}     {l0 : Nat} {l1 : Option Nat} {l2 : Int32}  {kh : zH} {h : zY} {p : (Unit ⊕ Nat) × zY} (hR : Rep Mm kh h) (hG : cb107_63 n   l0 l1 l2 h = some p) : ∃ kh1 : zH, b107_63 n   l0 l1 l2 kh = some (p.1, kh1) ∧ Rep Mm kh1 p.2 := by
  unfold cb107_63 at hG
  unfold b107_63
  replace hG := zgd_some hG
  obtain ⟨g1, hG⟩ := hG
  refine zE (k_isO hR g1) ?_
  replace hG := zbnd hG
  obtain ⟨⟨r3, h4⟩, e2, hG⟩ := hG
  have hT := k71 hR e2
  clear hR
  obtain ⟨kh3, e4, hR⟩ := hT
  refine bE e4 ?_
  rcases r3 with r3 | x5
  · replace hG := zthG hG
    refine zthEl ?_
    try rw [rep_n hR] at hG
    replace hR := k_nO (ci := 2) (n := 5) hR
    replace hG := zbnd hG
    obtain ⟨x7, e5, hG⟩ := hG
    refine bE (k_gR hR e5) ?_
    replace hG := zbnd hG
    obtain ⟨a9, rfl, hG⟩ := hG
    refine bE rfl ?_
    replace hG := zbnd hG
    obtain ⟨x10, e7, hG⟩ := hG
    refine bE (k_gR hR e7) ?_
    replace hG := zbnd hG
    obtain ⟨a12, rfl, hG⟩ := hG
    refine bE rfl ?_
    replace hG := zgd_some hG
    obtain ⟨g9, hG⟩ := hG
    refine zE (k_isO hR g9) ?_
    replace hG := zbnd hG
    obtain ⟨p15, e10, hG⟩ := hG
    have hT := k68 hR e10
    clear hR
    obtain ⟨kh11, e12, hR⟩ := hT
    refine bE e12 ?_
    replace hG := zbnd hG
    obtain ⟨p17, e13, hG⟩ := hG
    have hT := k108 hR e13
    clear hR
    obtain ⟨kh14, e15, hR⟩ := hT
    refine bE e15 ?_
    replace hG := zbnd hG
    obtain ⟨x18, e16, hG⟩ := hG
    refine bE (k_gR hR e16) ?_
    replace hG := zbnd hG
    obtain ⟨a20, rfl, hG⟩ := hG
    refine bE rfl ?_
    replace hG := zbnd hG
    obtain ⟨x21, e18, hG⟩ := hG
    refine bE (k_gR hR e18) ?_
    replace hG := zbnd hG
    obtain ⟨a23, rfl, hG⟩ := hG
    refine bE rfl ?_
    replace hG := zgd_some hG
    obtain ⟨g20, hG⟩ := hG
    refine zE (k_isO hR g20) ?_
    replace hG := zbnd hG
    obtain ⟨p26, e21, hG⟩ := hG
    have hT := k86 hR e21
    clear hR
    obtain ⟨kh22, e23, hR⟩ := hT
    refine bE e23 ?_
    replace hG := zbnd hG
    obtain ⟨x27, e24, hG⟩ := hG
    refine bE (k_gR hR e24) ?_
    replace hG := zbnd hG
    obtain ⟨a29, rfl, hG⟩ := hG
    refine bE rfl ?_
    replace hG := zbnd hG
    obtain ⟨x30, e26, hG⟩ := hG
    refine bE (k_gR hR e26) ?_
    replace hG := zbnd hG
    obtain ⟨a32, rfl, hG⟩ := hG
    refine bE rfl ?_
    replace hG := zgd_some hG
    obtain ⟨g28, hG⟩ := hG
    refine zE (k_isO hR g28) ?_
    replace hG := zbnd hG
    obtain ⟨p35, e29, hG⟩ := hG
    have hT := k86 hR e29
    clear hR
    obtain ⟨kh30, e31, hR⟩ := hT
    refine bE e31 ?_
    exact kf107_117 (n := n) n hR hG
  · replace hG := zthH hG
    refine zthEr ?_
    replace hG := zgd_some hG
    obtain ⟨g32, hG⟩ := hG
    refine zE g32 ?_
    replace hG := Option.some.inj hG
    subst hG
    exact ⟨_, rfl, hR⟩
def c107 (n : Nat)  (y0 : Nat) (h : zY) : Option ((Unit ⊕ Nat) × zY) :=
  (yR h y0 5 0).bind fun x1 =>
  x1.bind fun a3 =>
  (yR h a3 4 5).bind fun x4 =>
  x4.bind fun a6 =>
  zgd (yisO h a6 14) <|
  (c68 n a6 h).bind fun p9 =>
  zgd (yisO p9.2 y0 5) <|
  (c69 n y0 p9.1 8 p9.2).bind fun p15 => zth p15 (fun r12 h13 =>
    (yR h13 y0 5 0).bind fun x16 =>
    x16.bind fun a18 =>
    (yR h13 a18 4 2).bind fun x19 =>
    zgd (yisO h13 y0 5) <|
    (c72 n y0 x19 h13).bind fun p26 => zth p26 (fun r23 h24 =>
      (yR h24 y0 5 3).bind fun x27 =>
      x27.bind fun a29 =>
      (yR h24 a29 9 0).bind fun x30 =>
      (rEq x30 (some 24)).bind fun b32 =>
      if b32 = true then
        zgd (yisO h24 y0 5) <|
        (c71 n y0 (some 24) h24).bind fun p40 => zth p40 (fun r37 h38 =>
          (yR h38 y0 5 0).bind fun x41 =>
          x41.bind fun a43 =>
          (yR h38 a43 4 2).bind fun x44 =>
          zgd (yisO h38 y0 5) <|
          (c81 n y0 x44 h38).bind fun p51 => zth p51 (fun r48 h49 =>
            cb107_63 n  y0 r23 r48 h49)
            (fun x50 h49 =>
            zgd (exOk x50) <| some (.inr x50, h49)))
          (fun x39 h38 =>
          zgd (exOk x39) <| some (.inr x39, h38))
      else
        cb107_63 n  y0 r23 (-1) h24)
      (fun x25 h24 =>
      zgd (exOk x25) <| some (.inr x25, h24)))
    (fun x14 h13 =>
    zgd (exOk x14) <| some (.inr x14, h13))
set_option maxRecDepth 20000 in
theorem k107 {n : Nat} {Mm : Nat → Option zO}   {y0 : Nat} {kh : zH} {h : zY} {p : (Unit ⊕ Nat) × zY} (hR : Rep Mm kh h) (hG : c107 n  y0 h = some p) : ∃ kh1 : zH, f107 n  y0 kh = some (p.1, kh1) ∧ Rep Mm kh1 p.2 := by
  unfold c107 at hG
  unfold f107
  replace hG := zbnd hG
  obtain ⟨x1, e1, hG⟩ := hG
  refine bE (k_gR hR e1) ?_
  replace hG := zbnd hG
  obtain ⟨a3, rfl, hG⟩ := hG
  refine bE rfl ?_
  replace hG := zbnd hG
  obtain ⟨x4, e3, hG⟩ := hG
  refine bE (k_gR hR e3) ?_
  replace hG := zbnd hG
  obtain ⟨a6, rfl, hG⟩ := hG
  refine bE rfl ?_
  replace hG := zgd_some hG
  obtain ⟨g5, hG⟩ := hG
  refine zE (k_isO hR g5) ?_
  replace hG := zbnd hG
  obtain ⟨p9, e6, hG⟩ := hG
  have hT := k68 hR e6
  clear hR
  obtain ⟨kh7, e8, hR⟩ := hT
  refine bE e8 ?_
  replace hG := zgd_some hG
  obtain ⟨g9, hG⟩ := hG
  refine zE (k_isO hR g9) ?_
  replace hG := zbnd hG
  obtain ⟨⟨r12, h13⟩, e10, hG⟩ := hG
  have hT := k69 hR e10
  clear hR
  obtain ⟨kh11, e12, hR⟩ := hT
  refine bE e12 ?_
  rcases r12 with r12 | x14
  · replace hG := zthG hG
    refine zthEl ?_
    replace hG := zbnd hG
    obtain ⟨x16, e13, hG⟩ := hG
    refine bE (k_gR hR e13) ?_
    replace hG := zbnd hG
    obtain ⟨a18, rfl, hG⟩ := hG
    refine bE rfl ?_
    replace hG := zbnd hG
    obtain ⟨x19, e15, hG⟩ := hG
    refine bE (k_gR hR e15) ?_
    replace hG := zgd_some hG
    obtain ⟨g16, hG⟩ := hG
    refine zE (k_isO hR g16) ?_
    replace hG := zbnd hG
    obtain ⟨⟨r23, h24⟩, e17, hG⟩ := hG
    have hT := k72 hR e17
    clear hR
    obtain ⟨kh18, e19, hR⟩ := hT
    refine bE e19 ?_
    rcases r23 with r23 | x25
    · replace hG := zthG hG
      refine zthEl ?_
      replace hG := zbnd hG
      obtain ⟨x27, e20, hG⟩ := hG
      refine bE (k_gR hR e20) ?_
      replace hG := zbnd hG
      obtain ⟨a29, rfl, hG⟩ := hG
      refine bE rfl ?_
      replace hG := zbnd hG
      obtain ⟨x30, e22, hG⟩ := hG
      refine bE (k_gR hR e22) ?_
      replace hG := zbnd hG
      obtain ⟨b32, e23, hG⟩ := hG
      refine bE e23 ?_
      by_cases c24 : b32 = true
      · rw [if_pos c24] at hG
        refine iE1 c24 ?_
        replace hG := zgd_some hG
        obtain ⟨g25, hG⟩ := hG
        refine zE (k_isO hR g25) ?_
        replace hG := zbnd hG
        obtain ⟨⟨r37, h38⟩, e26, hG⟩ := hG
        have hT := k71 hR e26
        clear hR
        obtain ⟨kh27, e28, hR⟩ := hT
        refine bE e28 ?_
        rcases r37 with r37 | x39
        · replace hG := zthG hG
          refine zthEl ?_
          replace hG := zbnd hG
          obtain ⟨x41, e29, hG⟩ := hG
          refine bE (k_gR hR e29) ?_
          replace hG := zbnd hG
          obtain ⟨a43, rfl, hG⟩ := hG
          refine bE rfl ?_
          replace hG := zbnd hG
          obtain ⟨x44, e31, hG⟩ := hG
          refine bE (k_gR hR e31) ?_
          replace hG := zgd_some hG
          obtain ⟨g32, hG⟩ := hG
          refine zE (k_isO hR g32) ?_
          replace hG := zbnd hG
          obtain ⟨⟨r48, h49⟩, e33, hG⟩ := hG
          have hT := k81 hR e33
          clear hR
          obtain ⟨kh34, e35, hR⟩ := hT
          refine bE e35 ?_
          rcases r48 with r48 | x50
          · replace hG := zthG hG
            refine zthEl ?_
            exact kb107_63 (n := n) hR hG
          · replace hG := zthH hG
            refine zthEr ?_
            replace hG := zgd_some hG
            obtain ⟨g36, hG⟩ := hG
            refine zE g36 ?_
            replace hG := Option.some.inj hG
            subst hG
            exact ⟨_, rfl, hR⟩
        · replace hG := zthH hG
          refine zthEr ?_
          replace hG := zgd_some hG
          obtain ⟨g37, hG⟩ := hG
          refine zE g37 ?_
          replace hG := Option.some.inj hG
          subst hG
          exact ⟨_, rfl, hR⟩
      · rw [if_neg c24] at hG
        refine iE2 c24 ?_
        exact kb107_63 (n := n) hR hG
    · replace hG := zthH hG
      refine zthEr ?_
      replace hG := zgd_some hG
      obtain ⟨g38, hG⟩ := hG
      refine zE g38 ?_
      replace hG := Option.some.inj hG
      subst hG
      exact ⟨_, rfl, hR⟩
  · replace hG := zthH hG
    refine zthEr ?_
    replace hG := zgd_some hG
    obtain ⟨g39, hG⟩ := hG
    refine zE g39 ?_
    replace hG := Option.some.inj hG
    subst hG
    exact ⟨_, rfl, hR⟩
def c112 (n : Nat)  (y0 : Nat) (h : zY) : Option (Int32 × zY) :=
  (yR h y0 0 2).bind fun x1 =>
  x1.bind fun a3 =>
  zgd (yisO h a3 14) <|
  (c68 n a3 h).bind fun p6 =>
  (c43 n p6.1 4 p6.2).bind fun p8 =>
  some (p8.1, p8.2)
set_option maxRecDepth 20000 in
theorem k112 {n : Nat} {Mm : Nat → Option zO}   {y0 : Nat} {kh : zH} {h : zY} {p : Int32 × zY} (hR : Rep Mm kh h) (hG : c112 n  y0 h = some p) : ∃ kh1 : zH, f112 n  y0 kh = some (p.1, kh1) ∧ Rep Mm kh1 p.2 := by
  unfold c112 at hG
  unfold f112
  replace hG := zbnd hG
  obtain ⟨x1, e1, hG⟩ := hG
  refine bE (k_gR hR e1) ?_
  replace hG := zbnd hG
  obtain ⟨a3, rfl, hG⟩ := hG
  refine bE rfl ?_
  replace hG := zgd_some hG
  obtain ⟨g3, hG⟩ := hG
  refine zE (k_isO hR g3) ?_
  replace hG := zbnd hG
  obtain ⟨p6, e4, hG⟩ := hG
  have hT := k68 hR e4
  clear hR
  obtain ⟨kh5, e6, hR⟩ := hT
  refine bE e6 ?_
  replace hG := zbnd hG
  obtain ⟨p8, e7, hG⟩ := hG
  have hT := k43 hR e7
  clear hR
  obtain ⟨kh8, e9, hR⟩ := hT
  refine bE e9 ?_
  replace hG := Option.some.inj hG
  subst hG
  exact ⟨_, rfl, hR⟩
def cb113_92 (n : Nat)   (l0 : Nat) (l1 : Int32) (l2 : Option Nat) (l3 : Int32) (l4 : Option Nat) (l5 : Option Nat) (l6 : Int32) (h : zY) : Option ((Unit ⊕ Nat) × zY) :=
  l2.bind fun a1 =>
  (yR h a1 0 4).bind fun x2 =>
  x2.bind fun a4 =>
  (yS zsI h a4 l3 (.int l6)).bind fun h5 =>
  (yR h5 a1 0 5).bind fun x7 =>
  (yR h5 l0 5 0).bind fun x9 =>
  x9.bind fun a11 =>
  (yR h5 a11 4 4).bind fun x12 =>
  x12.bind fun a14 =>
  zgd (yisO h5 a14 14) <|
  (c74 n a14 l6 h5).bind fun p17 =>
  zgd (ykC p17.2 p17.1 0 0) <|
  p17.1.bind fun a19 =>
  zgd (yisO p17.2 a19 0) <|
  (c101 n a19 l5 p17.2).bind fun p23 =>
  x7.bind fun a24 =>
  (yS zsI p23.2 a24 l3 (.int p23.1)).bind fun h25 =>
  some (.inl (), h25)
set_option maxRecDepth 20000 in
theorem kb113_92 {n : Nat} {Mm : Nat → Option zO}     {l0 : Nat} {l1 : Int32} {l2 : Option Nat} {l3 : Int32} {l4 : Option Nat} {l5 : Option Nat} {l6 : Int32}  {kh : zH} {h : zY} {p : (Unit ⊕ Nat) × zY} (hR : Rep Mm kh h) (hG : cb113_92 n   l0 l1 l2 l3 l4 l5 l6 h = some p) : ∃ kh1 : zH, b113_92 n   l0 l1 l2 l3 l4 l5 l6 kh = some (p.1, kh1) ∧ Rep Mm kh1 p.2 := by
  unfold cb113_92 at hG
  unfold b113_92
  replace hG := zbnd hG
  obtain ⟨a1, rfl, hG⟩ := hG
  refine bE rfl ?_
  replace hG := zbnd hG
  obtain ⟨x2, e2, hG⟩ := hG
  refine bE (k_gR hR e2) ?_
  replace hG := zbnd hG
  obtain ⟨a4, rfl, hG⟩ := hG
  refine bE rfl ?_
  replace hG := zbnd hG
  obtain ⟨h5, e4, hG⟩ := hG
  have hT := k_sI hR e4
  clear hR
  obtain ⟨kh5, e6, hR⟩ := hT
  refine bE e6 ?_
  replace hG := zbnd hG
  obtain ⟨x7, e7, hG⟩ := hG
  refine bE (k_gR hR e7) ?_
  replace hG := zbnd hG
  obtain ⟨x9, e8, hG⟩ := hG
  refine bE (k_gR hR e8) ?_
  replace hG := zbnd hG
  obtain ⟨a11, rfl, hG⟩ := hG
  refine bE rfl ?_
  replace hG := zbnd hG
  obtain ⟨x12, e10, hG⟩ := hG
  refine bE (k_gR hR e10) ?_
  replace hG := zbnd hG
  obtain ⟨a14, rfl, hG⟩ := hG
  refine bE rfl ?_
  replace hG := zgd_some hG
  obtain ⟨g12, hG⟩ := hG
  refine zE (k_isO hR g12) ?_
  replace hG := zbnd hG
  obtain ⟨p17, e13, hG⟩ := hG
  have hT := k74 hR e13
  clear hR
  obtain ⟨kh14, e15, hR⟩ := hT
  refine bE e15 ?_
  replace hG := zgd_some hG
  obtain ⟨g16, hG⟩ := hG
  refine zE (k_kC hR g16) ?_
  replace hG := zbnd hG
  obtain ⟨a19, e17, hG⟩ := hG
  refine bE e17 ?_
  replace hG := zgd_some hG
  obtain ⟨g18, hG⟩ := hG
  refine zE (k_isO hR g18) ?_
  replace hG := zbnd hG
  obtain ⟨p23, e19, hG⟩ := hG
  have hT := k101 hR e19
  clear hR
  obtain ⟨kh20, e21, hR⟩ := hT
  refine bE e21 ?_
  replace hG := zbnd hG
  obtain ⟨a24, rfl, hG⟩ := hG
  refine bE rfl ?_
  replace hG := zbnd hG
  obtain ⟨h25, e23, hG⟩ := hG
  have hT := k_sI hR e23
  clear hR
  obtain ⟨kh24, e25, hR⟩ := hT
  refine bE e25 ?_
  replace hG := Option.some.inj hG
  subst hG
  exact ⟨_, rfl, hR⟩
def cb113_62 (n : Nat)   (l0 : Nat) (l1 : Int32) (l2 : Option Nat) (l3 : Int32) (l4 : Option Nat) (l5 : Option Nat) (l6 : Int32) (h : zY) : Option ((Unit ⊕ Nat) × zY) :=
  (yR h l0 5 0).bind fun x1 =>
  x1.bind fun a3 =>
  (yR h a3 4 4).bind fun x4 =>
  x4.bind fun a6 =>
  zgd (yisO h a6 14) <|
  (c74 n a6 l6 h).bind fun p9 =>
  zgd (ykC p9.2 p9.1 0 0) <|
  p9.1.bind fun a11 =>
  zgd (yisO p9.2 a11 0) <|
  (c100 n a11 l5 p9.2).bind fun p15 =>
  if p15.1 = 0 then
    zgd (yisO p15.2 l0 5) <|
    (c70 n l0 2 l5 p15.2).bind fun p22 => zth p22 (fun r19 h20 =>
      cb113_92 n  l0 l1 l2 l3 l4 l5 l6 h20)
      (fun x21 h20 =>
      zgd (exOk x21) <| some (.inr x21, h20))
  else
    cb113_92 n  l0 l1 l2 l3 l4 l5 l6 p15.2
set_option maxRecDepth 20000 in
theorem kb113_62 {n : Nat} {Mm : Nat → Option zO}     {l0 : Nat} {l1 : Int32} {l2 : Option Nat} {l3 : Int32} {l4 : Option Nat} {l5 : Option Nat} {l6 : Int32}  {kh : zH} {h : zY} {p : (Unit ⊕ Nat) × zY} (hR : Rep Mm kh h) (hG : cb113_62 n   l0 l1 l2 l3 l4 l5 l6 h = some p) : ∃ kh1 : zH, b113_62 n   l0 l1 l2 l3 l4 l5 l6 kh = some (p.1, kh1) ∧ Rep Mm kh1 p.2 := by
  unfold cb113_62 at hG
  unfold b113_62
  replace hG := zbnd hG
  obtain ⟨x1, e1, hG⟩ := hG
  refine bE (k_gR hR e1) ?_
  replace hG := zbnd hG
  obtain ⟨a3, rfl, hG⟩ := hG
  refine bE rfl ?_
  replace hG := zbnd hG
  obtain ⟨x4, e3, hG⟩ := hG
  refine bE (k_gR hR e3) ?_
  replace hG := zbnd hG
  obtain ⟨a6, rfl, hG⟩ := hG
  refine bE rfl ?_
  replace hG := zgd_some hG
  obtain ⟨g5, hG⟩ := hG
  refine zE (k_isO hR g5) ?_
  replace hG := zbnd hG
  obtain ⟨p9, e6, hG⟩ := hG
  have hT := k74 hR e6
  clear hR
  obtain ⟨kh7, e8, hR⟩ := hT
  refine bE e8 ?_
  replace hG := zgd_some hG
  obtain ⟨g9, hG⟩ := hG
  refine zE (k_kC hR g9) ?_
  replace hG := zbnd hG
  obtain ⟨a11, e10, hG⟩ := hG
  refine bE e10 ?_
  replace hG := zgd_some hG
  obtain ⟨g11, hG⟩ := hG
  refine zE (k_isO hR g11) ?_
  replace hG := zbnd hG
  obtain ⟨p15, e12, hG⟩ := hG
  have hT := k100 hR e12
  clear hR
  obtain ⟨kh13, e14, hR⟩ := hT
  refine bE e14 ?_
  by_cases c15 : p15.1 = 0
  · rw [if_pos c15] at hG
    refine iE1 c15 ?_
    replace hG := zgd_some hG
    obtain ⟨g16, hG⟩ := hG
    refine zE (k_isO hR g16) ?_
    replace hG := zbnd hG
    obtain ⟨⟨r19, h20⟩, e17, hG⟩ := hG
    have hT := k70 hR e17
    clear hR
    obtain ⟨kh18, e19, hR⟩ := hT
    refine bE e19 ?_
    rcases r19 with r19 | x21
    · replace hG := zthG hG
      refine zthEl ?_
      exact kb113_92 (n := n) hR hG
    · replace hG := zthH hG
      refine zthEr ?_
      replace hG := zgd_some hG
      obtain ⟨g20, hG⟩ := hG
      refine zE g20 ?_
      replace hG := Option.some.inj hG
      subst hG
      exact ⟨_, rfl, hR⟩
  · rw [if_neg c15] at hG
    refine iE2 c15 ?_
    exact kb113_92 (n := n) hR hG
def cb113_55 (n : Nat)   (l0 : Nat) (l1 : Int32) (l2 : Option Nat) (l3 : Int32) (l4 : Option Nat) (l5 : Option Nat) (l6 : Int32) (h : zY) : Option ((Unit ⊕ Nat) × zY) :=
  zgd (yisO h l0 5) <|
  (c70 n l0 3 l4 h).bind fun p6 => zth p6 (fun r3 h4 =>
    cb113_62 n  l0 l1 l2 l3 l4 l5 l6 h4)
    (fun x5 h4 =>
    zgd (exOk x5) <| some (.inr x5, h4))
set_option maxRecDepth 20000 in
theorem kb113_55 {n : Nat} {Mm : Nat → Option zO}     {l0 : Nat} {l1 : Int32} {l2 : Option Nat} {l3 : Int32} {l4 : Option Nat} {l5 : Option Nat} {l6 : Int32}  {kh : zH} {h : zY} {p : (Unit ⊕ Nat) × zY} (hR : Rep Mm kh h) (hG : cb113_55 n   l0 l1 l2 l3 l4 l5 l6 h = some p) : ∃ kh1 : zH, b113_55 n   l0 l1 l2 l3 l4 l5 l6 kh = some (p.1, kh1) ∧ Rep Mm kh1 p.2 := by
  unfold cb113_55 at hG
  unfold b113_55
  replace hG := zgd_some hG
  obtain ⟨g1, hG⟩ := hG
  refine zE (k_isO hR g1) ?_
  replace hG := zbnd hG
  obtain ⟨⟨r3, h4⟩, e2, hG⟩ := hG
  have hT := k70 hR e2
  clear hR
  obtain ⟨kh3, e4, hR⟩ := hT
  refine bE e4 ?_
  rcases r3 with r3 | x5
  · replace hG := zthG hG
    refine zthEl ?_
    exact kb113_62 (n := n) hR hG
  · replace hG := zthH hG
    refine zthEr ?_
    replace hG := zgd_some hG
    obtain ⟨g5, hG⟩ := hG
    refine zE g5 ?_
    replace hG := Option.some.inj hG
    subst hG
    exact ⟨_, rfl, hR⟩
def c113 (n : Nat)  (y0 : Nat) (y1 : Int32) (y2 : Option Nat) (y3 : Int32) (h : zY) : Option ((Unit ⊕ Nat) × zY) :=
  y2.bind fun a1 =>
  (yR h a1 0 2).bind fun x2 =>
  x2.bind fun a4 =>
  zgd (yisO h a4 14) <|
  (c74 n a4 y3 h).bind fun p7 =>
  zgd (ykC p7.2 p7.1 9 0) <|
  (yR p7.2 a1 0 3).bind fun x9 =>
  x9.bind fun a11 =>
  zgd (yisO p7.2 a11 14) <|
  (c74 n a11 y3 p7.2).bind fun p14 =>
  zgd (ykC p14.2 p14.1 9 0) <|
  (yR p14.2 y0 5 0).bind fun x16 =>
  x16.bind fun a18 =>
  (yR p14.2 a18 4 1).bind fun x19 =>
  p7.1.bind fun a21 =>
  (yR p14.2 a21 9 3).bind fun x23 =>
  (c73 n x19 x23 p14.2).bind fun p26 =>
  if p26.1 = (-1) then
    cb113_55 n  y0 y1 (some a1) y3 (some a21) p14.1 p26.1 p26.2
  else
    if p26.1 = y1 then
      cb113_55 n  y0 y1 (some a1) y3 (some a21) p14.1 p26.1 p26.2
    else
      cb113_62 n  y0 y1 (some a1) y3 (some a21) p14.1 p26.1 p26.2
set_option maxRecDepth 20000 in
theorem k113 {n : Nat} {Mm : Nat → Option zO}   {y0 : Nat} {y1 : Int32} {y2 : Option Nat} {y3 : Int32} {kh : zH} {h : zY} {p : (Unit ⊕ Nat) × zY} (hR : Rep Mm kh h) (hG : c113 n  y0 y1 y2 y3 h = some p) : ∃ kh1 : zH, f113 n  y0 y1 y2 y3 kh = some (p.1, kh1) ∧ Rep Mm kh1 p.2 := by
  unfold c113 at hG
  unfold f113
  replace hG := zbnd hG
  obtain ⟨a1, rfl, hG⟩ := hG
  refine bE rfl ?_
  replace hG := zbnd hG
  obtain ⟨x2, e2, hG⟩ := hG
  refine bE (k_gR hR e2) ?_
  replace hG := zbnd hG
  obtain ⟨a4, rfl, hG⟩ := hG
  refine bE rfl ?_
  replace hG := zgd_some hG
  obtain ⟨g4, hG⟩ := hG
  refine zE (k_isO hR g4) ?_
  replace hG := zbnd hG
  obtain ⟨p7, e5, hG⟩ := hG
  have hT := k74 hR e5
  clear hR
  obtain ⟨kh6, e7, hR⟩ := hT
  refine bE e7 ?_
  replace hG := zgd_some hG
  obtain ⟨g8, hG⟩ := hG
  refine zE (k_kC hR g8) ?_
  replace hG := zbnd hG
  obtain ⟨x9, e9, hG⟩ := hG
  refine bE (k_gR hR e9) ?_
  replace hG := zbnd hG
  obtain ⟨a11, rfl, hG⟩ := hG
  refine bE rfl ?_
  replace hG := zgd_some hG
  obtain ⟨g11, hG⟩ := hG
  refine zE (k_isO hR g11) ?_
  replace hG := zbnd hG
  obtain ⟨p14, e12, hG⟩ := hG
  have hT := k74 hR e12
  clear hR
  obtain ⟨kh13, e14, hR⟩ := hT
  refine bE e14 ?_
  replace hG := zgd_some hG
  obtain ⟨g15, hG⟩ := hG
  refine zE (k_kC hR g15) ?_
  replace hG := zbnd hG
  obtain ⟨x16, e16, hG⟩ := hG
  refine bE (k_gR hR e16) ?_
  replace hG := zbnd hG
  obtain ⟨a18, rfl, hG⟩ := hG
  refine bE rfl ?_
  replace hG := zbnd hG
  obtain ⟨x19, e18, hG⟩ := hG
  refine bE (k_gR hR e18) ?_
  replace hG := zbnd hG
  obtain ⟨a21, e19, hG⟩ := hG
  refine bE e19 ?_
  replace hG := zbnd hG
  obtain ⟨x23, e20, hG⟩ := hG
  refine bE (k_gR hR e20) ?_
  replace hG := zbnd hG
  obtain ⟨p26, e21, hG⟩ := hG
  have hT := k73 hR e21
  clear hR
  obtain ⟨kh22, e23, hR⟩ := hT
  refine bE e23 ?_
  by_cases c24 : p26.1 = (-1)
  · rw [if_pos c24] at hG
    refine iE1 c24 ?_
    exact kb113_55 (n := n) hR hG
  · rw [if_neg c24] at hG
    refine iE2 c24 ?_
    by_cases c25 : p26.1 = y1
    · rw [if_pos c25] at hG
      refine iE1 c25 ?_
      exact kb113_55 (n := n) hR hG
    · rw [if_neg c25] at hG
      refine iE2 c25 ?_
      exact kb113_62 (n := n) hR hG
def cb111_33 (n : Nat)  (r2 : Nat → Int32 → zY → Option ((Unit ⊕ Nat) × zY)) (r33 : Nat → Int32 → Option Nat → Int32 → zY → Option ((Unit ⊕ Nat) × zY)) (l0 : Nat) (l1 : Int32) (l2 : Option Nat) (l3 : Int32) (h : zY) : Option ((Unit ⊕ Nat) × zY) :=
  l2.bind fun a1 =>
  zgd (yisO h a1 0) <|
  (c112 n a1 h).bind fun p4 =>
  if p4.1 ≤ l3 then
    r2 l0 (l1 + 1) p4.2
  else
    zgd (yisO p4.2 l0 5) <|
    (c113 n l0 l1 (some a1) l3 p4.2).bind fun p11 => zth p11 (fun r8 h9 =>
      r33 l0 l1 (some a1) (l3 + 1) h9)
      (fun x10 h9 =>
      zgd (exOk x10) <| some (.inr x10, h9))
set_option maxRecDepth 20000 in
theorem kb111_33 {n : Nat} {Mm : Nat → Option zO}  {q2 : Nat → Int32 → zY → Option ((Unit ⊕ Nat) × zY)} {r2 : Nat → Int32 → zH → Option ((Unit ⊕ Nat) × zH)} {q33 : Nat → Int32 → Option Nat → Int32 → zY → Option ((Unit ⊕ Nat) × zY)} {r33 : Nat → Int32 → Option Nat → Int32 → zH → Option ((Unit ⊕ Nat) × zH)}  (hr2 : ∀ {l0 : Nat} {l1 : Int32}  {kh : zH} {h : zY} {p : (Unit ⊕ Nat) × zY}, Rep Mm kh h → q2 l0 l1 h = some p → ∃ kh1 : zH, r2 l0 l1 kh = some (p.1, kh1) ∧ Rep Mm kh1 p.2) (hr33 : ∀ {l0 : Nat} {l1 : Int32} {l2 : Option Nat} {l3 : Int32}  {kh : zH} {h : zY} {p : (Unit ⊕ Nat) × zY}, Rep Mm kh h → q33 l0 l1 l2 l3 h = some p → ∃ kh1 : zH, r33 l0 l1 l2 l3 kh = some (p.1, kh1) ∧ Rep Mm kh1 p.2) {l0 : Nat} {l1 : Int32} {l2 : Option Nat} {l3 : Int32}  {kh : zH} {h : zY} {p : (Unit ⊕ Nat) × zY} (hR : Rep Mm kh h) (hG : cb111_33 n  q2 q33 l0 l1 l2 l3 h = some p) : ∃ kh1 : zH, b111_33 n  r2 r33 l0 l1 l2 l3 kh = some (p.1, kh1) ∧ Rep Mm kh1 p.2 := by
  unfold cb111_33 at hG
  unfold b111_33
  replace hG := zbnd hG
  obtain ⟨a1, rfl, hG⟩ := hG
  refine bE rfl ?_
  replace hG := zgd_some hG
  obtain ⟨g2, hG⟩ := hG
  refine zE (k_isO hR g2) ?_
  replace hG := zbnd hG
  obtain ⟨p4, e3, hG⟩ := hG
  have hT := k112 hR e3
  clear hR
  obtain ⟨kh4, e5, hR⟩ := hT
  refine bE e5 ?_
  by_cases c6 : p4.1 ≤ l3
  · rw [if_pos c6] at hG
    refine iE1 c6 ?_
    exact hr2 hR hG
  · rw [if_neg c6] at hG
    refine iE2 c6 ?_
    replace hG := zgd_some hG
    obtain ⟨g7, hG⟩ := hG
    refine zE (k_isO hR g7) ?_
    replace hG := zbnd hG
    obtain ⟨⟨r8, h9⟩, e8, hG⟩ := hG
    have hT := k113 hR e8
    clear hR
    obtain ⟨kh9, e10, hR⟩ := hT
    refine bE e10 ?_
    rcases r8 with r8 | x10
    · replace hG := zthG hG
      refine zthEl ?_
      exact hr33 hR hG
    · replace hG := zthH hG
      refine zthEr ?_
      replace hG := zgd_some hG
      obtain ⟨g11, hG⟩ := hG
      refine zE g11 ?_
      replace hG := Option.some.inj hG
      subst hG
      exact ⟨_, rfl, hR⟩
def cf111_33 (n : Nat)  (r2 : Nat → Int32 → zY → Option ((Unit ⊕ Nat) × zY)) (k : Nat) : Nat → Int32 → Option Nat → Int32 → zY → Option ((Unit ⊕ Nat) × zY) := Nat.rec (fun _ _ _ _ _ => none) (fun _ ih => cb111_33 n  r2 ih) k
theorem kf111_33 {n : Nat} {Mm : Nat → Option zO}  {q2 : Nat → Int32 → zY → Option ((Unit ⊕ Nat) × zY)} {r2 : Nat → Int32 → zH → Option ((Unit ⊕ Nat) × zH)}  (hr2 : ∀ {l0 : Nat} {l1 : Int32}  {kh : zH} {h : zY} {p : (Unit ⊕ Nat) × zY}, Rep Mm kh h → q2 l0 l1 h = some p → ∃ kh1 : zH, r2 l0 l1 kh = some (p.1, kh1) ∧ Rep Mm kh1 p.2) (k : Nat) : ∀ {l0 : Nat} {l1 : Int32} {l2 : Option Nat} {l3 : Int32}  {kh : zH} {h : zY} {p : (Unit ⊕ Nat) × zY}, Rep Mm kh h → cf111_33 n  q2 k l0 l1 l2 l3 h = some p → ∃ kh1 : zH, f111_33 n  r2 k l0 l1 l2 l3 kh = some (p.1, kh1) ∧ Rep Mm kh1 p.2 := by
  induction k with
  | zero => intros; rename_i hG; cases hG
  | succ k ih => intros; rename_i hR hG; exact kb111_33 (n := n) (q2 := q2) (r2 := r2) (q33 := cf111_33 n  q2 k) (r33 := f111_33 n  r2 k)  hr2 ih hR hG
def cb111_2 (n : Nat)  (r2 : Nat → Int32 → zY → Option ((Unit ⊕ Nat) × zY)) (l0 : Nat) (l1 : Int32) (h : zY) : Option ((Unit ⊕ Nat) × zY) :=
  (yR h l0 5 0).bind fun x1 =>
  x1.bind fun a3 =>
  (yR h a3 4 4).bind fun x4 =>
  x4.bind fun a6 =>
  zgd (yisO h a6 14) <|
  (c68 n a6 h).bind fun p9 =>
  if p9.1 ≤ l1 then
    some (.inl (), p9.2)
  else
    (yR p9.2 l0 5 0).bind fun x11 =>
    x11.bind fun a13 =>
    (yR p9.2 a13 4 4).bind fun x14 =>
    x14.bind fun a16 =>
    zgd (yisO p9.2 a16 14) <|
    (c74 n a16 l1 p9.2).bind fun p19 =>
    zgd (ykC p19.2 p19.1 0 0) <|
    cf111_33 n r2 n l0 l1 p19.1 0 p19.2
set_option maxRecDepth 20000 in
theorem kb111_2 {n : Nat} {Mm : Nat → Option zO}  {q2 : Nat → Int32 → zY → Option ((Unit ⊕ Nat) × zY)} {r2 : Nat → Int32 → zH → Option ((Unit ⊕ Nat) × zH)}  (hr2 : ∀ {l0 : Nat} {l1 : Int32}  {kh : zH} {h : zY} {p : (Unit ⊕ Nat) × zY}, Rep Mm kh h → q2 l0 l1 h = some p → ∃ kh1 : zH, r2 l0 l1 kh = some (p.1, kh1) ∧ Rep Mm kh1 p.2) {l0 : Nat} {l1 : Int32}  {kh : zH} {h : zY} {p : (Unit ⊕ Nat) × zY} (hR : Rep Mm kh h) (hG : cb111_2 n  q2 l0 l1 h = some p) : ∃ kh1 : zH, b111_2 n  r2 l0 l1 kh = some (p.1, kh1) ∧ Rep Mm kh1 p.2 := by
  unfold cb111_2 at hG
  unfold b111_2
  replace hG := zbnd hG
  obtain ⟨x1, e1, hG⟩ := hG
  refine bE (k_gR hR e1) ?_
  replace hG := zbnd hG
  obtain ⟨a3, rfl, hG⟩ := hG
  refine bE rfl ?_
  replace hG := zbnd hG
  obtain ⟨x4, e3, hG⟩ := hG
  refine bE (k_gR hR e3) ?_
  replace hG := zbnd hG
  obtain ⟨a6, rfl, hG⟩ := hG
  refine bE rfl ?_
  replace hG := zgd_some hG
  obtain ⟨g5, hG⟩ := hG
  refine zE (k_isO hR g5) ?_
  replace hG := zbnd hG
  obtain ⟨p9, e6, hG⟩ := hG
  have hT := k68 hR e6
  clear hR
  obtain ⟨kh7, e8, hR⟩ := hT
  refine bE e8 ?_
  by_cases c9 : p9.1 ≤ l1
  · rw [if_pos c9] at hG
    refine iE1 c9 ?_
    replace hG := Option.some.inj hG
    subst hG
    exact ⟨_, rfl, hR⟩
  · rw [if_neg c9] at hG
    refine iE2 c9 ?_
    replace hG := zbnd hG
    obtain ⟨x11, e10, hG⟩ := hG
    refine bE (k_gR hR e10) ?_
    replace hG := zbnd hG
    obtain ⟨a13, rfl, hG⟩ := hG
    refine bE rfl ?_
    replace hG := zbnd hG
    obtain ⟨x14, e12, hG⟩ := hG
    refine bE (k_gR hR e12) ?_
    replace hG := zbnd hG
    obtain ⟨a16, rfl, hG⟩ := hG
    refine bE rfl ?_
    replace hG := zgd_some hG
    obtain ⟨g14, hG⟩ := hG
    refine zE (k_isO hR g14) ?_
    replace hG := zbnd hG
    obtain ⟨p19, e15, hG⟩ := hG
    have hT := k74 hR e15
    clear hR
    obtain ⟨kh16, e17, hR⟩ := hT
    refine bE e17 ?_
    replace hG := zgd_some hG
    obtain ⟨g18, hG⟩ := hG
    refine zE (k_kC hR g18) ?_
    exact kf111_33 (n := n) (q2 := q2) (r2 := r2) hr2 n hR hG
def cf111_2 (n : Nat)   (k : Nat) : Nat → Int32 → zY → Option ((Unit ⊕ Nat) × zY) := Nat.rec (fun _ _ _ => none) (fun _ ih => cb111_2 n  ih) k
theorem kf111_2 {n : Nat} {Mm : Nat → Option zO}     (k : Nat) : ∀ {l0 : Nat} {l1 : Int32}  {kh : zH} {h : zY} {p : (Unit ⊕ Nat) × zY}, Rep Mm kh h → cf111_2 n   k l0 l1 h = some p → ∃ kh1 : zH, f111_2 n   k l0 l1 kh = some (p.1, kh1) ∧ Rep Mm kh1 p.2 := by
  induction k with
  | zero => intros; rename_i hG; cases hG
  | succ k ih => intros; rename_i hR hG; exact kb111_2 (n := n) (q2 := cf111_2 n   k) (r2 := f111_2 n   k)  ih hR hG
def c111 (n : Nat)  (y0 : Nat) (h : zY) : Option ((Unit ⊕ Nat) × zY) :=
  cf111_2 n  n y0 0 h
set_option maxRecDepth 20000 in
theorem k111 {n : Nat} {Mm : Nat → Option zO}   {y0 : Nat} {kh : zH} {h : zY} {p : (Unit ⊕ Nat) × zY} (hR : Rep Mm kh h) (hG : c111 n  y0 h = some p) : ∃ kh1 : zH, f111 n  y0 kh = some (p.1, kh1) ∧ Rep Mm kh1 p.2 := by
  unfold c111 at hG
  unfold f111
  exact kf111_2 (n := n) n hR hG
def c115 (n : Nat)  (y0 : Nat) (h : zY) : Option (Int32 × zY) :=
  (yR h y0 4 4).bind fun x1 =>
  x1.bind fun a3 =>
  zgd (yisO h a3 14) <|
  (c68 n a3 h).bind fun p6 =>
  (c43 n p6.1 24 p6.2).bind fun p8 =>
  some (p8.1, p8.2)
set_option maxRecDepth 20000 in
theorem k115 {n : Nat} {Mm : Nat → Option zO}   {y0 : Nat} {kh : zH} {h : zY} {p : Int32 × zY} (hR : Rep Mm kh h) (hG : c115 n  y0 h = some p) : ∃ kh1 : zH, f115 n  y0 kh = some (p.1, kh1) ∧ Rep Mm kh1 p.2 := by
  unfold c115 at hG
  unfold f115
  replace hG := zbnd hG
  obtain ⟨x1, e1, hG⟩ := hG
  refine bE (k_gR hR e1) ?_
  replace hG := zbnd hG
  obtain ⟨a3, rfl, hG⟩ := hG
  refine bE rfl ?_
  replace hG := zgd_some hG
  obtain ⟨g3, hG⟩ := hG
  refine zE (k_isO hR g3) ?_
  replace hG := zbnd hG
  obtain ⟨p6, e4, hG⟩ := hG
  have hT := k68 hR e4
  clear hR
  obtain ⟨kh5, e6, hR⟩ := hT
  refine bE e6 ?_
  replace hG := zbnd hG
  obtain ⟨p8, e7, hG⟩ := hG
  have hT := k43 hR e7
  clear hR
  obtain ⟨kh8, e9, hR⟩ := hT
  refine bE e9 ?_
  replace hG := Option.some.inj hG
  subst hG
  exact ⟨_, rfl, hR⟩
def cb116_4 (n : Nat)  (r4 : Nat → Int32 → Int32 → zY → Option (Int32 × zY)) (l0 : Nat) (l1 : Int32) (l2 : Int32) (h : zY) : Option (Int32 × zY) :=
  zgd (yisO h l0 0) <|
  (c112 n l0 h).bind fun p3 =>
  if p3.1 ≤ l2 then
    some (l1, p3.2)
  else
    (yR p3.2 l0 0 4).bind fun x5 =>
    x5.bind fun a7 =>
    (yaI p3.2 a7 l2).bind fun x8 =>
    r4 l0 (l1 ||| (1 <<< (x8 &&& 31))) (l2 + 1) p3.2
set_option maxRecDepth 20000 in
theorem kb116_4 {n : Nat} {Mm : Nat → Option zO}  {q4 : Nat → Int32 → Int32 → zY → Option (Int32 × zY)} {r4 : Nat → Int32 → Int32 → zH → Option (Int32 × zH)}  (hr4 : ∀ {l0 : Nat} {l1 : Int32} {l2 : Int32}  {kh : zH} {h : zY} {p : Int32 × zY}, Rep Mm kh h → q4 l0 l1 l2 h = some p → ∃ kh1 : zH, r4 l0 l1 l2 kh = some (p.1, kh1) ∧ Rep Mm kh1 p.2) {l0 : Nat} {l1 : Int32} {l2 : Int32}  {kh : zH} {h : zY} {p : Int32 × zY} (hR : Rep Mm kh h) (hG : cb116_4 n  q4 l0 l1 l2 h = some p) : ∃ kh1 : zH, b116_4 n  r4 l0 l1 l2 kh = some (p.1, kh1) ∧ Rep Mm kh1 p.2 := by
  unfold cb116_4 at hG
  unfold b116_4
  replace hG := zgd_some hG
  obtain ⟨g1, hG⟩ := hG
  refine zE (k_isO hR g1) ?_
  replace hG := zbnd hG
  obtain ⟨p3, e2, hG⟩ := hG
  have hT := k112 hR e2
  clear hR
  obtain ⟨kh3, e4, hR⟩ := hT
  refine bE e4 ?_
  by_cases c5 : p3.1 ≤ l2
  · rw [if_pos c5] at hG
    refine iE1 c5 ?_
    replace hG := Option.some.inj hG
    subst hG
    exact ⟨_, rfl, hR⟩
  · rw [if_neg c5] at hG
    refine iE2 c5 ?_
    replace hG := zbnd hG
    obtain ⟨x5, e6, hG⟩ := hG
    refine bE (k_gR hR e6) ?_
    replace hG := zbnd hG
    obtain ⟨a7, rfl, hG⟩ := hG
    refine bE rfl ?_
    replace hG := zbnd hG
    obtain ⟨x8, e8, hG⟩ := hG
    refine bE (k_aI hR e8) ?_
    exact hr4 hR hG
def cf116_4 (n : Nat)   (k : Nat) : Nat → Int32 → Int32 → zY → Option (Int32 × zY) := Nat.rec (fun _ _ _ _ => none) (fun _ ih => cb116_4 n  ih) k
theorem kf116_4 {n : Nat} {Mm : Nat → Option zO}     (k : Nat) : ∀ {l0 : Nat} {l1 : Int32} {l2 : Int32}  {kh : zH} {h : zY} {p : Int32 × zY}, Rep Mm kh h → cf116_4 n   k l0 l1 l2 h = some p → ∃ kh1 : zH, f116_4 n   k l0 l1 l2 kh = some (p.1, kh1) ∧ Rep Mm kh1 p.2 := by
  induction k with
  | zero => intros; rename_i hG; cases hG
  | succ k ih => intros; rename_i hR hG; exact kb116_4 (n := n) (q4 := cf116_4 n   k) (r4 := f116_4 n   k)  ih hR hG
def c116 (n : Nat)  (y0 : Nat) (h : zY) : Option (Int32 × zY) :=
  cf116_4 n  n y0 0 0 h
set_option maxRecDepth 20000 in
theorem k116 {n : Nat} {Mm : Nat → Option zO}   {y0 : Nat} {kh : zH} {h : zY} {p : Int32 × zY} (hR : Rep Mm kh h) (hG : c116 n  y0 h = some p) : ∃ kh1 : zH, f116 n  y0 kh = some (p.1, kh1) ∧ Rep Mm kh1 p.2 := by
  unfold c116 at hG
  unfold f116
  exact kf116_4 (n := n) n hR hG
def cb114_80 (n : Nat)  (r40 : Nat → Int32 → Int32 → zY → Option (Unit × zY)) (r47 : Nat → Int32 → Int32 → Int32 → zY → Option (Unit × zY)) (l0 : Nat) (l1 : Int32) (l2 : Int32) (l3 : Int32) (h : zY) : Option (Unit × zY) :=
  r47 l0 l1 l2 (l3 + 1) h
set_option maxRecDepth 20000 in
theorem kb114_80 {n : Nat} {Mm : Nat → Option zO}  {q40 : Nat → Int32 → Int32 → zY → Option (Unit × zY)} {r40 : Nat → Int32 → Int32 → zH → Option (Unit × zH)} {q47 : Nat → Int32 → Int32 → Int32 → zY → Option (Unit × zY)} {r47 : Nat → Int32 → Int32 → Int32 → zH → Option (Unit × zH)}  (hr40 : ∀ {l0 : Nat} {l1 : Int32} {l2 : Int32}  {kh : zH} {h : zY} {p : Unit × zY}, Rep Mm kh h → q40 l0 l1 l2 h = some p → ∃ kh1 : zH, r40 l0 l1 l2 kh = some (p.1, kh1) ∧ Rep Mm kh1 p.2) (hr47 : ∀ {l0 : Nat} {l1 : Int32} {l2 : Int32} {l3 : Int32}  {kh : zH} {h : zY} {p : Unit × zY}, Rep Mm kh h → q47 l0 l1 l2 l3 h = some p → ∃ kh1 : zH, r47 l0 l1 l2 l3 kh = some (p.1, kh1) ∧ Rep Mm kh1 p.2) {l0 : Nat} {l1 : Int32} {l2 : Int32} {l3 : Int32}  {kh : zH} {h : zY} {p : Unit × zY} (hR : Rep Mm kh h) (hG : cb114_80 n  q40 q47 l0 l1 l2 l3 h = some p) : ∃ kh1 : zH, b114_80 n  r40 r47 l0 l1 l2 l3 kh = some (p.1, kh1) ∧ Rep Mm kh1 p.2 := by
  unfold cb114_80 at hG
  unfold b114_80
  exact hr47 hR hG
def cb114_47 (n : Nat)  (r40 : Nat → Int32 → Int32 → zY → Option (Unit × zY)) (r47 : Nat → Int32 → Int32 → Int32 → zY → Option (Unit × zY)) (l0 : Nat) (l1 : Int32) (l2 : Int32) (l3 : Int32) (h : zY) : Option (Unit × zY) :=
  if l1 ≤ l3 then
    r40 l0 l1 (l2 + 1) h
  else
    (yR h l0 4 10).bind fun x2 =>
    x2.bind fun a4 =>
    (yaI h a4 l3).bind fun x5 =>
    if ((x5 >>> (l2 &&& 31)) &&& 1) = 0 then
      cb114_80 n r40 r47 l0 l1 l2 l3 h
    else
      (yR h l0 4 10).bind fun x8 =>
      x8.bind fun a10 =>
      (yaI h a10 l3).bind fun x11 =>
      (yR h l0 4 10).bind fun x13 =>
      x13.bind fun a15 =>
      (yaI h a15 l2).bind fun x16 =>
      (yS zsI h a10 l3 (.int (x11 ||| x16))).bind fun h18 =>
      cb114_80 n r40 r47 l0 l1 l2 l3 h18
set_option maxRecDepth 20000 in
theorem kb114_47 {n : Nat} {Mm : Nat → Option zO}  {q40 : Nat → Int32 → Int32 → zY → Option (Unit × zY)} {r40 : Nat → Int32 → Int32 → zH → Option (Unit × zH)} {q47 : Nat → Int32 → Int32 → Int32 → zY → Option (Unit × zY)} {r47 : Nat → Int32 → Int32 → Int32 → zH → Option (Unit × zH)}  (hr40 : ∀ {l0 : Nat} {l1 : Int32} {l2 : Int32}  {kh : zH} {h : zY} {p : Unit × zY}, Rep Mm kh h → q40 l0 l1 l2 h = some p → ∃ kh1 : zH, r40 l0 l1 l2 kh = some (p.1, kh1) ∧ Rep Mm kh1 p.2) (hr47 : ∀ {l0 : Nat} {l1 : Int32} {l2 : Int32} {l3 : Int32}  {kh : zH} {h : zY} {p : Unit × zY}, Rep Mm kh h → q47 l0 l1 l2 l3 h = some p → ∃ kh1 : zH, r47 l0 l1 l2 l3 kh = some (p.1, kh1) ∧ Rep Mm kh1 p.2) {l0 : Nat} {l1 : Int32} {l2 : Int32} {l3 : Int32}  {kh : zH} {h : zY} {p : Unit × zY} (hR : Rep Mm kh h) (hG : cb114_47 n  q40 q47 l0 l1 l2 l3 h = some p) : ∃ kh1 : zH, b114_47 n  r40 r47 l0 l1 l2 l3 kh = some (p.1, kh1) ∧ Rep Mm kh1 p.2 := by
  unfold cb114_47 at hG
  unfold b114_47
  by_cases c1 : l1 ≤ l3
  · rw [if_pos c1] at hG
    refine iE1 c1 ?_
    exact hr40 hR hG
  · rw [if_neg c1] at hG
    refine iE2 c1 ?_
    replace hG := zbnd hG
    obtain ⟨x2, e2, hG⟩ := hG
    refine bE (k_gR hR e2) ?_
    replace hG := zbnd hG
    obtain ⟨a4, rfl, hG⟩ := hG
    refine bE rfl ?_
    replace hG := zbnd hG
    obtain ⟨x5, e4, hG⟩ := hG
    refine bE (k_aI hR e4) ?_
    by_cases c5 : ((x5 >>> (l2 &&& 31)) &&& 1) = 0
    · rw [if_pos c5] at hG
      refine iE1 c5 ?_
      exact kb114_80 (n := n) (q40 := q40) (r40 := r40) (q47 := q47) (r47 := r47) hr40 hr47 hR hG
    · rw [if_neg c5] at hG
      refine iE2 c5 ?_
      replace hG := zbnd hG
      obtain ⟨x8, e6, hG⟩ := hG
      refine bE (k_gR hR e6) ?_
      replace hG := zbnd hG
      obtain ⟨a10, rfl, hG⟩ := hG
      refine bE rfl ?_
      replace hG := zbnd hG
      obtain ⟨x11, e8, hG⟩ := hG
      refine bE (k_aI hR e8) ?_
      replace hG := zbnd hG
      obtain ⟨x13, e9, hG⟩ := hG
      refine bE (k_gR hR e9) ?_
      replace hG := zbnd hG
      obtain ⟨a15, rfl, hG⟩ := hG
      refine bE rfl ?_
      replace hG := zbnd hG
      obtain ⟨x16, e11, hG⟩ := hG
      refine bE (k_aI hR e11) ?_
      replace hG := zbnd hG
      obtain ⟨h18, e12, hG⟩ := hG
      have hT := k_sI hR e12
      clear hR
      obtain ⟨kh13, e14, hR⟩ := hT
      refine bE e14 ?_
      exact kb114_80 (n := n) (q40 := q40) (r40 := r40) (q47 := q47) (r47 := r47) hr40 hr47 hR hG
def cf114_47 (n : Nat)  (r40 : Nat → Int32 → Int32 → zY → Option (Unit × zY)) (k : Nat) : Nat → Int32 → Int32 → Int32 → zY → Option (Unit × zY) := Nat.rec (fun _ _ _ _ _ => none) (fun _ ih => cb114_47 n  r40 ih) k
theorem kf114_47 {n : Nat} {Mm : Nat → Option zO}  {q40 : Nat → Int32 → Int32 → zY → Option (Unit × zY)} {r40 : Nat → Int32 → Int32 → zH → Option (Unit × zH)}  (hr40 : ∀ {l0 : Nat} {l1 : Int32} {l2 : Int32}  {kh : zH} {h : zY} {p : Unit × zY}, Rep Mm kh h → q40 l0 l1 l2 h = some p → ∃ kh1 : zH, r40 l0 l1 l2 kh = some (p.1, kh1) ∧ Rep Mm kh1 p.2) (k : Nat) : ∀ {l0 : Nat} {l1 : Int32} {l2 : Int32} {l3 : Int32}  {kh : zH} {h : zY} {p : Unit × zY}, Rep Mm kh h → cf114_47 n  q40 k l0 l1 l2 l3 h = some p → ∃ kh1 : zH, f114_47 n  r40 k l0 l1 l2 l3 kh = some (p.1, kh1) ∧ Rep Mm kh1 p.2 := by
  induction k with
  | zero => intros; rename_i hG; cases hG
  | succ k ih => intros; rename_i hR hG; exact kb114_47 (n := n) (q40 := q40) (r40 := r40) (q47 := cf114_47 n  q40 k) (r47 := f114_47 n  r40 k)  hr40 ih hR hG
def cb114_40 (n : Nat)  (r40 : Nat → Int32 → Int32 → zY → Option (Unit × zY)) (l0 : Nat) (l1 : Int32) (l2 : Int32) (h : zY) : Option (Unit × zY) :=
  if l1 ≤ l2 then
    some ((), h)
  else
    cf114_47 n r40 n l0 l1 l2 0 h
set_option maxRecDepth 20000 in
theorem kb114_40 {n : Nat} {Mm : Nat → Option zO}  {q40 : Nat → Int32 → Int32 → zY → Option (Unit × zY)} {r40 : Nat → Int32 → Int32 → zH → Option (Unit × zH)}  (hr40 : ∀ {l0 : Nat} {l1 : Int32} {l2 : Int32}  {kh : zH} {h : zY} {p : Unit × zY}, Rep Mm kh h → q40 l0 l1 l2 h = some p → ∃ kh1 : zH, r40 l0 l1 l2 kh = some (p.1, kh1) ∧ Rep Mm kh1 p.2) {l0 : Nat} {l1 : Int32} {l2 : Int32}  {kh : zH} {h : zY} {p : Unit × zY} (hR : Rep Mm kh h) (hG : cb114_40 n  q40 l0 l1 l2 h = some p) : ∃ kh1 : zH, b114_40 n  r40 l0 l1 l2 kh = some (p.1, kh1) ∧ Rep Mm kh1 p.2 := by
  unfold cb114_40 at hG
  unfold b114_40
  by_cases c1 : l1 ≤ l2
  · rw [if_pos c1] at hG
    refine iE1 c1 ?_
    replace hG := Option.some.inj hG
    subst hG
    exact ⟨_, rfl, hR⟩
  · rw [if_neg c1] at hG
    refine iE2 c1 ?_
    exact kf114_47 (n := n) (q40 := q40) (r40 := r40) hr40 n hR hG
def cf114_40 (n : Nat)   (k : Nat) : Nat → Int32 → Int32 → zY → Option (Unit × zY) := Nat.rec (fun _ _ _ _ => none) (fun _ ih => cb114_40 n  ih) k
theorem kf114_40 {n : Nat} {Mm : Nat → Option zO}     (k : Nat) : ∀ {l0 : Nat} {l1 : Int32} {l2 : Int32}  {kh : zH} {h : zY} {p : Unit × zY}, Rep Mm kh h → cf114_40 n   k l0 l1 l2 h = some p → ∃ kh1 : zH, f114_40 n   k l0 l1 l2 kh = some (p.1, kh1) ∧ Rep Mm kh1 p.2 := by
  induction k with
  | zero => intros; rename_i hG; cases hG
  | succ k ih => intros; rename_i hR hG; exact kb114_40 (n := n) (q40 := cf114_40 n   k) (r40 := f114_40 n   k)  ih hR hG
def cb114_7 (n : Nat)  (r7 : Nat → Int32 → Int32 → zY → Option (Unit × zY)) (l0 : Nat) (l1 : Int32) (l2 : Int32) (h : zY) : Option (Unit × zY) :=
  if l1 ≤ l2 then
    cf114_40 n  n l0 l1 0 h
  else
    (yR h l0 4 10).bind fun x2 =>
    (yR h l0 4 4).bind fun x4 =>
    x4.bind fun a6 =>
    zgd (yisO h a6 14) <|
    (c74 n a6 l2 h).bind fun p9 =>
    zgd (ykC p9.2 p9.1 0 0) <|
    p9.1.bind fun a11 =>
    zgd (yisO p9.2 a11 0) <|
    (c116 n a11 p9.2).bind fun p15 =>
    x2.bind fun a16 =>
    (yS zsI p15.2 a16 l2 (.int p15.1)).bind fun h17 =>
    r7 l0 l1 (l2 + 1) h17
set_option maxRecDepth 20000 in
theorem kb114_7 {n : Nat} {Mm : Nat → Option zO}  {q7 : Nat → Int32 → Int32 → zY → Option (Unit × zY)} {r7 : Nat → Int32 → Int32 → zH → Option (Unit × zH)}  (hr7 : ∀ {l0 : Nat} {l1 : Int32} {l2 : Int32}  {kh : zH} {h : zY} {p : Unit × zY}, Rep Mm kh h → q7 l0 l1 l2 h = some p → ∃ kh1 : zH, r7 l0 l1 l2 kh = some (p.1, kh1) ∧ Rep Mm kh1 p.2) {l0 : Nat} {l1 : Int32} {l2 : Int32}  {kh : zH} {h : zY} {p : Unit × zY} (hR : Rep Mm kh h) (hG : cb114_7 n  q7 l0 l1 l2 h = some p) : ∃ kh1 : zH, b114_7 n  r7 l0 l1 l2 kh = some (p.1, kh1) ∧ Rep Mm kh1 p.2 := by
  unfold cb114_7 at hG
  unfold b114_7
  by_cases c1 : l1 ≤ l2
  · rw [if_pos c1] at hG
    refine iE1 c1 ?_
    exact kf114_40 (n := n) n hR hG
  · rw [if_neg c1] at hG
    refine iE2 c1 ?_
    replace hG := zbnd hG
    obtain ⟨x2, e2, hG⟩ := hG
    refine bE (k_gR hR e2) ?_
    replace hG := zbnd hG
    obtain ⟨x4, e3, hG⟩ := hG
    refine bE (k_gR hR e3) ?_
    replace hG := zbnd hG
    obtain ⟨a6, rfl, hG⟩ := hG
    refine bE rfl ?_
    replace hG := zgd_some hG
    obtain ⟨g5, hG⟩ := hG
    refine zE (k_isO hR g5) ?_
    replace hG := zbnd hG
    obtain ⟨p9, e6, hG⟩ := hG
    have hT := k74 hR e6
    clear hR
    obtain ⟨kh7, e8, hR⟩ := hT
    refine bE e8 ?_
    replace hG := zgd_some hG
    obtain ⟨g9, hG⟩ := hG
    refine zE (k_kC hR g9) ?_
    replace hG := zbnd hG
    obtain ⟨a11, e10, hG⟩ := hG
    refine bE e10 ?_
    replace hG := zgd_some hG
    obtain ⟨g11, hG⟩ := hG
    refine zE (k_isO hR g11) ?_
    replace hG := zbnd hG
    obtain ⟨p15, e12, hG⟩ := hG
    have hT := k116 hR e12
    clear hR
    obtain ⟨kh13, e14, hR⟩ := hT
    refine bE e14 ?_
    replace hG := zbnd hG
    obtain ⟨a16, rfl, hG⟩ := hG
    refine bE rfl ?_
    replace hG := zbnd hG
    obtain ⟨h17, e16, hG⟩ := hG
    have hT := k_sI hR e16
    clear hR
    obtain ⟨kh17, e18, hR⟩ := hT
    refine bE e18 ?_
    exact hr7 hR hG
def cf114_7 (n : Nat)   (k : Nat) : Nat → Int32 → Int32 → zY → Option (Unit × zY) := Nat.rec (fun _ _ _ _ => none) (fun _ ih => cb114_7 n  ih) k
theorem kf114_7 {n : Nat} {Mm : Nat → Option zO}     (k : Nat) : ∀ {l0 : Nat} {l1 : Int32} {l2 : Int32}  {kh : zH} {h : zY} {p : Unit × zY}, Rep Mm kh h → cf114_7 n   k l0 l1 l2 h = some p → ∃ kh1 : zH, f114_7 n   k l0 l1 l2 kh = some (p.1, kh1) ∧ Rep Mm kh1 p.2 := by
  induction k with
  | zero => intros; rename_i hG; cases hG
  | succ k ih => intros; rename_i hR hG; exact kb114_7 (n := n) (q7 := cf114_7 n   k) (r7 := f114_7 n   k)  ih hR hG
def c114 (n : Nat)  (y0 : Nat) (h : zY) : Option (Unit × zY) :=
  zgd (yisO h y0 4) <|
  (c115 n y0 h).bind fun p3 =>
  cf114_7 n  n y0 p3.1 0 p3.2
set_option maxRecDepth 20000 in
theorem k114 {n : Nat} {Mm : Nat → Option zO}   {y0 : Nat} {kh : zH} {h : zY} {p : Unit × zY} (hR : Rep Mm kh h) (hG : c114 n  y0 h = some p) : ∃ kh1 : zH, f114 n  y0 kh = some (p.1, kh1) ∧ Rep Mm kh1 p.2 := by
  unfold c114 at hG
  unfold f114
  replace hG := zgd_some hG
  obtain ⟨g1, hG⟩ := hG
  refine zE (k_isO hR g1) ?_
  replace hG := zbnd hG
  obtain ⟨p3, e2, hG⟩ := hG
  have hT := k115 hR e2
  clear hR
  obtain ⟨kh3, e4, hR⟩ := hT
  refine bE e4 ?_
  exact kf114_7 (n := n) n hR hG
def cb117_76 (n : Nat)  (r2 : Nat → Int32 → zY → Option ((Unit ⊕ Nat) × zY)) (r30 : Nat → Int32 → Option Nat → Int32 → zY → Option ((Unit ⊕ Nat) × zY)) (l0 : Nat) (l1 : Int32) (l2 : Option Nat) (l3 : Int32) (h : zY) : Option ((Unit ⊕ Nat) × zY) :=
  r30 l0 l1 l2 (l3 + 1) h
set_option maxRecDepth 20000 in
theorem kb117_76 {n : Nat} {Mm : Nat → Option zO}  {q2 : Nat → Int32 → zY → Option ((Unit ⊕ Nat) × zY)} {r2 : Nat → Int32 → zH → Option ((Unit ⊕ Nat) × zH)} {q30 : Nat → Int32 → Option Nat → Int32 → zY → Option ((Unit ⊕ Nat) × zY)} {r30 : Nat → Int32 → Option Nat → Int32 → zH → Option ((Unit ⊕ Nat) × zH)}  (hr2 : ∀ {l0 : Nat} {l1 : Int32}  {kh : zH} {h : zY} {p : (Unit ⊕ Nat) × zY}, Rep Mm kh h → q2 l0 l1 h = some p → ∃ kh1 : zH, r2 l0 l1 kh = some (p.1, kh1) ∧ Rep Mm kh1 p.2) (hr30 : ∀ {l0 : Nat} {l1 : Int32} {l2 : Option Nat} {l3 : Int32}  {kh : zH} {h : zY} {p : (Unit ⊕ Nat) × zY}, Rep Mm kh h → q30 l0 l1 l2 l3 h = some p → ∃ kh1 : zH, r30 l0 l1 l2 l3 kh = some (p.1, kh1) ∧ Rep Mm kh1 p.2) {l0 : Nat} {l1 : Int32} {l2 : Option Nat} {l3 : Int32}  {kh : zH} {h : zY} {p : (Unit ⊕ Nat) × zY} (hR : Rep Mm kh h) (hG : cb117_76 n  q2 q30 l0 l1 l2 l3 h = some p) : ∃ kh1 : zH, b117_76 n  r2 r30 l0 l1 l2 l3 kh = some (p.1, kh1) ∧ Rep Mm kh1 p.2 := by
  unfold cb117_76 at hG
  unfold b117_76
  exact hr30 hR hG
def cb117_30 (n : Nat)  (r2 : Nat → Int32 → zY → Option ((Unit ⊕ Nat) × zY)) (r30 : Nat → Int32 → Option Nat → Int32 → zY → Option ((Unit ⊕ Nat) × zY)) (l0 : Nat) (l1 : Int32) (l2 : Option Nat) (l3 : Int32) (h : zY) : Option ((Unit ⊕ Nat) × zY) :=
  l2.bind fun a1 =>
  zgd (yisO h a1 0) <|
  (c112 n a1 h).bind fun p4 =>
  if p4.1 ≤ l3 then
    r2 l0 (l1 + 1) p4.2
  else
    (yR p4.2 l0 5 0).bind fun x6 =>
    x6.bind fun a8 =>
    (yR p4.2 a8 4 10).bind fun x9 =>
    (yR p4.2 a1 0 4).bind fun x11 =>
    x11.bind fun a13 =>
    (yaI p4.2 a13 l3).bind fun x14 =>
    x9.bind fun a16 =>
    (yaI p4.2 a16 x14).bind fun x17 =>
    if ((x17 >>> (l1 &&& 31)) &&& 1) = 0 then
      cb117_76 n r2 r30 l0 l1 (some a1) l3 p4.2
    else
      (yR p4.2 a1 0 2).bind fun x20 =>
      x20.bind fun a22 =>
      zgd (yisO p4.2 a22 14) <|
      (c74 n a22 l3 p4.2).bind fun p25 =>
      zgd (ykC p25.2 p25.1 9 0) <|
      zgd (yisO p25.2 l0 5) <|
      (c70 n l0 6 p25.1 p25.2).bind fun p32 => zth p32 (fun r29 h30 =>
        cb117_76 n r2 r30 l0 l1 (some a1) l3 h30)
        (fun x31 h30 =>
        zgd (exOk x31) <| some (.inr x31, h30))
set_option maxRecDepth 20000 in
theorem kb117_30 {n : Nat} {Mm : Nat → Option zO}  {q2 : Nat → Int32 → zY → Option ((Unit ⊕ Nat) × zY)} {r2 : Nat → Int32 → zH → Option ((Unit ⊕ Nat) × zH)} {q30 : Nat → Int32 → Option Nat → Int32 → zY → Option ((Unit ⊕ Nat) × zY)} {r30 : Nat → Int32 → Option Nat → Int32 → zH → Option ((Unit ⊕ Nat) × zH)}  (hr2 : ∀ {l0 : Nat} {l1 : Int32}  {kh : zH} {h : zY} {p : (Unit ⊕ Nat) × zY}, Rep Mm kh h → q2 l0 l1 h = some p → ∃ kh1 : zH, r2 l0 l1 kh = some (p.1, kh1) ∧ Rep Mm kh1 p.2) (hr30 : ∀ {l0 : Nat} {l1 : Int32} {l2 : Option Nat} {l3 : Int32}  {kh : zH} {h : zY} {p : (Unit ⊕ Nat) × zY}, Rep Mm kh h → q30 l0 l1 l2 l3 h = some p → ∃ kh1 : zH, r30 l0 l1 l2 l3 kh = some (p.1, kh1) ∧ Rep Mm kh1 p.2) {l0 : Nat} {l1 : Int32} {l2 : Option Nat} {l3 : Int32}  {kh : zH} {h : zY} {p : (Unit ⊕ Nat) × zY} (hR : Rep Mm kh h) (hG : cb117_30 n  q2 q30 l0 l1 l2 l3 h = some p) : ∃ kh1 : zH, b117_30 n  r2 r30 l0 l1 l2 l3 kh = some (p.1, kh1) ∧ Rep Mm kh1 p.2 := by
  unfold cb117_30 at hG
  unfold b117_30
  replace hG := zbnd hG
  obtain ⟨a1, rfl, hG⟩ := hG
  refine bE rfl ?_
  replace hG := zgd_some hG
  obtain ⟨g2, hG⟩ := hG
  refine zE (k_isO hR g2) ?_
  replace hG := zbnd hG
  obtain ⟨p4, e3, hG⟩ := hG
  have hT := k112 hR e3
  clear hR
  obtain ⟨kh4, e5, hR⟩ := hT
  refine bE e5 ?_
  by_cases c6 : p4.1 ≤ l3
  · rw [if_pos c6] at hG
    refine iE1 c6 ?_
    exact hr2 hR hG
  · rw [if_neg c6] at hG
    refine iE2 c6 ?_
    replace hG := zbnd hG
    obtain ⟨x6, e7, hG⟩ := hG
    refine bE (k_gR hR e7) ?_
    replace hG := zbnd hG
    obtain ⟨a8, rfl, hG⟩ := hG
    refine bE rfl ?_
    replace hG := zbnd hG
    obtain ⟨x9, e9, hG⟩ := hG
    refine bE (k_gR hR e9) ?_
    replace hG := zbnd hG
    obtain ⟨x11, e10, hG⟩ := hG
    refine bE (k_gR hR e10) ?_
    replace hG := zbnd hG
    obtain ⟨a13, rfl, hG⟩ := hG
    refine bE rfl ?_
    replace hG := zbnd hG
    obtain ⟨x14, e12, hG⟩ := hG
    refine bE (k_aI hR e12) ?_
    replace hG := zbnd hG
    obtain ⟨a16, rfl, hG⟩ := hG
    refine bE rfl ?_
    replace hG := zbnd hG
    obtain ⟨x17, e14, hG⟩ := hG
    refine bE (k_aI hR e14) ?_
    by_cases c15 : ((x17 >>> (l1 &&& 31)) &&& 1) = 0
    · rw [if_pos c15] at hG
      refine iE1 c15 ?_
      exact kb117_76 (n := n) (q2 := q2) (r2 := r2) (q30 := q30) (r30 := r30) hr2 hr30 hR hG
    · rw [if_neg c15] at hG
      refine iE2 c15 ?_
      replace hG := zbnd hG
      obtain ⟨x20, e16, hG⟩ := hG
      refine bE (k_gR hR e16) ?_
      replace hG := zbnd hG
      obtain ⟨a22, rfl, hG⟩ := hG
      refine bE rfl ?_
      replace hG := zgd_some hG
      obtain ⟨g18, hG⟩ := hG
      refine zE (k_isO hR g18) ?_
      replace hG := zbnd hG
      obtain ⟨p25, e19, hG⟩ := hG
      have hT := k74 hR e19
      clear hR
      obtain ⟨kh20, e21, hR⟩ := hT
      refine bE e21 ?_
      replace hG := zgd_some hG
      obtain ⟨g22, hG⟩ := hG
      refine zE (k_kC hR g22) ?_
      replace hG := zgd_some hG
      obtain ⟨g23, hG⟩ := hG
      refine zE (k_isO hR g23) ?_
      replace hG := zbnd hG
      obtain ⟨⟨r29, h30⟩, e24, hG⟩ := hG
      have hT := k70 hR e24
      clear hR
      obtain ⟨kh25, e26, hR⟩ := hT
      refine bE e26 ?_
      rcases r29 with r29 | x31
      · replace hG := zthG hG
        refine zthEl ?_
        exact kb117_76 (n := n) (q2 := q2) (r2 := r2) (q30 := q30) (r30 := r30) hr2 hr30 hR hG
      · replace hG := zthH hG
        refine zthEr ?_
        replace hG := zgd_some hG
        obtain ⟨g27, hG⟩ := hG
        refine zE g27 ?_
        replace hG := Option.some.inj hG
        subst hG
        exact ⟨_, rfl, hR⟩
def cf117_30 (n : Nat)  (r2 : Nat → Int32 → zY → Option ((Unit ⊕ Nat) × zY)) (k : Nat) : Nat → Int32 → Option Nat → Int32 → zY → Option ((Unit ⊕ Nat) × zY) := Nat.rec (fun _ _ _ _ _ => none) (fun _ ih => cb117_30 n  r2 ih) k
theorem kf117_30 {n : Nat} {Mm : Nat → Option zO}  {q2 : Nat → Int32 → zY → Option ((Unit ⊕ Nat) × zY)} {r2 : Nat → Int32 → zH → Option ((Unit ⊕ Nat) × zH)}  (hr2 : ∀ {l0 : Nat} {l1 : Int32}  {kh : zH} {h : zY} {p : (Unit ⊕ Nat) × zY}, Rep Mm kh h → q2 l0 l1 h = some p → ∃ kh1 : zH, r2 l0 l1 kh = some (p.1, kh1) ∧ Rep Mm kh1 p.2) (k : Nat) : ∀ {l0 : Nat} {l1 : Int32} {l2 : Option Nat} {l3 : Int32}  {kh : zH} {h : zY} {p : (Unit ⊕ Nat) × zY}, Rep Mm kh h → cf117_30 n  q2 k l0 l1 l2 l3 h = some p → ∃ kh1 : zH, f117_30 n  r2 k l0 l1 l2 l3 kh = some (p.1, kh1) ∧ Rep Mm kh1 p.2 := by
  induction k with
  | zero => intros; rename_i hG; cases hG
  | succ k ih => intros; rename_i hR hG; exact kb117_30 (n := n) (q2 := q2) (r2 := r2) (q30 := cf117_30 n  q2 k) (r30 := f117_30 n  r2 k)  hr2 ih hR hG
def cb117_2 (n : Nat)  (r2 : Nat → Int32 → zY → Option ((Unit ⊕ Nat) × zY)) (l0 : Nat) (l1 : Int32) (h : zY) : Option ((Unit ⊕ Nat) × zY) :=
  (yR h l0 5 0).bind fun x1 =>
  x1.bind fun a3 =>
  zgd (yisO h a3 4) <|
  (c115 n a3 h).bind fun p6 =>
  if p6.1 ≤ l1 then
    some (.inl (), p6.2)
  else
    (yR p6.2 l0 5 0).bind fun x8 =>
    x8.bind fun a10 =>
    (yR p6.2 a10 4 4).bind fun x11 =>
    x11.bind fun a13 =>
    zgd (yisO p6.2 a13 14) <|
    (c74 n a13 l1 p6.2).bind fun p16 =>
    zgd (ykC p16.2 p16.1 0 0) <|
    cf117_30 n r2 n l0 l1 p16.1 0 p16.2
set_option maxRecDepth 20000 in
theorem kb117_2 {n : Nat} {Mm : Nat → Option zO}  {q2 : Nat → Int32 → zY → Option ((Unit ⊕ Nat) × zY)} {r2 : Nat → Int32 → zH → Option ((Unit ⊕ Nat) × zH)}  (hr2 : ∀ {l0 : Nat} {l1 : Int32}  {kh : zH} {h : zY} {p : (Unit ⊕ Nat) × zY}, Rep Mm kh h → q2 l0 l1 h = some p → ∃ kh1 : zH, r2 l0 l1 kh = some (p.1, kh1) ∧ Rep Mm kh1 p.2) {l0 : Nat} {l1 : Int32}  {kh : zH} {h : zY} {p : (Unit ⊕ Nat) × zY} (hR : Rep Mm kh h) (hG : cb117_2 n  q2 l0 l1 h = some p) : ∃ kh1 : zH, b117_2 n  r2 l0 l1 kh = some (p.1, kh1) ∧ Rep Mm kh1 p.2 := by
  unfold cb117_2 at hG
  unfold b117_2
  replace hG := zbnd hG
  obtain ⟨x1, e1, hG⟩ := hG
  refine bE (k_gR hR e1) ?_
  replace hG := zbnd hG
  obtain ⟨a3, rfl, hG⟩ := hG
  refine bE rfl ?_
  replace hG := zgd_some hG
  obtain ⟨g3, hG⟩ := hG
  refine zE (k_isO hR g3) ?_
  replace hG := zbnd hG
  obtain ⟨p6, e4, hG⟩ := hG
  have hT := k115 hR e4
  clear hR
  obtain ⟨kh5, e6, hR⟩ := hT
  refine bE e6 ?_
  by_cases c7 : p6.1 ≤ l1
  · rw [if_pos c7] at hG
    refine iE1 c7 ?_
    replace hG := Option.some.inj hG
    subst hG
    exact ⟨_, rfl, hR⟩
  · rw [if_neg c7] at hG
    refine iE2 c7 ?_
    replace hG := zbnd hG
    obtain ⟨x8, e8, hG⟩ := hG
    refine bE (k_gR hR e8) ?_
    replace hG := zbnd hG
    obtain ⟨a10, rfl, hG⟩ := hG
    refine bE rfl ?_
    replace hG := zbnd hG
    obtain ⟨x11, e10, hG⟩ := hG
    refine bE (k_gR hR e10) ?_
    replace hG := zbnd hG
    obtain ⟨a13, rfl, hG⟩ := hG
    refine bE rfl ?_
    replace hG := zgd_some hG
    obtain ⟨g12, hG⟩ := hG
    refine zE (k_isO hR g12) ?_
    replace hG := zbnd hG
    obtain ⟨p16, e13, hG⟩ := hG
    have hT := k74 hR e13
    clear hR
    obtain ⟨kh14, e15, hR⟩ := hT
    refine bE e15 ?_
    replace hG := zgd_some hG
    obtain ⟨g16, hG⟩ := hG
    refine zE (k_kC hR g16) ?_
    exact kf117_30 (n := n) (q2 := q2) (r2 := r2) hr2 n hR hG
def cf117_2 (n : Nat)   (k : Nat) : Nat → Int32 → zY → Option ((Unit ⊕ Nat) × zY) := Nat.rec (fun _ _ _ => none) (fun _ ih => cb117_2 n  ih) k
theorem kf117_2 {n : Nat} {Mm : Nat → Option zO}     (k : Nat) : ∀ {l0 : Nat} {l1 : Int32}  {kh : zH} {h : zY} {p : (Unit ⊕ Nat) × zY}, Rep Mm kh h → cf117_2 n   k l0 l1 h = some p → ∃ kh1 : zH, f117_2 n   k l0 l1 kh = some (p.1, kh1) ∧ Rep Mm kh1 p.2 := by
  induction k with
  | zero => intros; rename_i hG; cases hG
  | succ k ih => intros; rename_i hR hG; exact kb117_2 (n := n) (q2 := cf117_2 n   k) (r2 := f117_2 n   k)  ih hR hG
def c117 (n : Nat)  (y0 : Nat) (h : zY) : Option ((Unit ⊕ Nat) × zY) :=
  cf117_2 n  n y0 0 h
set_option maxRecDepth 20000 in
theorem k117 {n : Nat} {Mm : Nat → Option zO}   {y0 : Nat} {kh : zH} {h : zY} {p : (Unit ⊕ Nat) × zY} (hR : Rep Mm kh h) (hG : c117 n  y0 h = some p) : ∃ kh1 : zH, f117 n  y0 kh = some (p.1, kh1) ∧ Rep Mm kh1 p.2 := by
  unfold c117 at hG
  unfold f117
  exact kf117_2 (n := n) n hR hG
def cb119_30 (n : Nat)  (r2 : Nat → Int32 → Int32 → Int32 → zY → Option (Int32 × zY)) (l0 : Nat) (l1 : Int32) (l2 : Int32) (l3 : Int32) (h : zY) : Option (Int32 × zY) :=
  r2 l0 l1 l2 (l3 + 1) h
set_option maxRecDepth 20000 in
theorem kb119_30 {n : Nat} {Mm : Nat → Option zO}  {q2 : Nat → Int32 → Int32 → Int32 → zY → Option (Int32 × zY)} {r2 : Nat → Int32 → Int32 → Int32 → zH → Option (Int32 × zH)}  (hr2 : ∀ {l0 : Nat} {l1 : Int32} {l2 : Int32} {l3 : Int32}  {kh : zH} {h : zY} {p : Int32 × zY}, Rep Mm kh h → q2 l0 l1 l2 l3 h = some p → ∃ kh1 : zH, r2 l0 l1 l2 l3 kh = some (p.1, kh1) ∧ Rep Mm kh1 p.2) {l0 : Nat} {l1 : Int32} {l2 : Int32} {l3 : Int32}  {kh : zH} {h : zY} {p : Int32 × zY} (hR : Rep Mm kh h) (hG : cb119_30 n  q2 l0 l1 l2 l3 h = some p) : ∃ kh1 : zH, b119_30 n  r2 l0 l1 l2 l3 kh = some (p.1, kh1) ∧ Rep Mm kh1 p.2 := by
  unfold cb119_30 at hG
  unfold b119_30
  exact hr2 hR hG
def cb119_2 (n : Nat)  (r2 : Nat → Int32 → Int32 → Int32 → zY → Option (Int32 × zY)) (l0 : Nat) (l1 : Int32) (l2 : Int32) (l3 : Int32) (h : zY) : Option (Int32 × zY) :=
  if l2 ≤ l3 then
    some (0, h)
  else
    if ((l1 >>> (l3 &&& 31)) &&& 1) = 0 then
      (yR h l0 4 10).bind fun x3 =>
      x3.bind fun a5 =>
      (yaI h a5 l3).bind fun x6 =>
      if (x6 &&& (l1 ^^^ (-1))) = 0 then
        some (l3, h)
      else
        cb119_30 n r2 l0 l1 l2 l3 h
    else
      cb119_30 n r2 l0 l1 l2 l3 h
set_option maxRecDepth 20000 in
theorem kb119_2 {n : Nat} {Mm : Nat → Option zO}  {q2 : Nat → Int32 → Int32 → Int32 → zY → Option (Int32 × zY)} {r2 : Nat → Int32 → Int32 → Int32 → zH → Option (Int32 × zH)}  (hr2 : ∀ {l0 : Nat} {l1 : Int32} {l2 : Int32} {l3 : Int32}  {kh : zH} {h : zY} {p : Int32 × zY}, Rep Mm kh h → q2 l0 l1 l2 l3 h = some p → ∃ kh1 : zH, r2 l0 l1 l2 l3 kh = some (p.1, kh1) ∧ Rep Mm kh1 p.2) {l0 : Nat} {l1 : Int32} {l2 : Int32} {l3 : Int32}  {kh : zH} {h : zY} {p : Int32 × zY} (hR : Rep Mm kh h) (hG : cb119_2 n  q2 l0 l1 l2 l3 h = some p) : ∃ kh1 : zH, b119_2 n  r2 l0 l1 l2 l3 kh = some (p.1, kh1) ∧ Rep Mm kh1 p.2 := by
  unfold cb119_2 at hG
  unfold b119_2
  by_cases c1 : l2 ≤ l3
  · rw [if_pos c1] at hG
    refine iE1 c1 ?_
    replace hG := Option.some.inj hG
    subst hG
    exact ⟨_, rfl, hR⟩
  · rw [if_neg c1] at hG
    refine iE2 c1 ?_
    by_cases c2 : ((l1 >>> (l3 &&& 31)) &&& 1) = 0
    · rw [if_pos c2] at hG
      refine iE1 c2 ?_
      replace hG := zbnd hG
      obtain ⟨x3, e3, hG⟩ := hG
      refine bE (k_gR hR e3) ?_
      replace hG := zbnd hG
      obtain ⟨a5, rfl, hG⟩ := hG
      refine bE rfl ?_
      replace hG := zbnd hG
      obtain ⟨x6, e5, hG⟩ := hG
      refine bE (k_aI hR e5) ?_
      by_cases c6 : (x6 &&& (l1 ^^^ (-1))) = 0
      · rw [if_pos c6] at hG
        refine iE1 c6 ?_
        replace hG := Option.some.inj hG
        subst hG
        exact ⟨_, rfl, hR⟩
      · rw [if_neg c6] at hG
        refine iE2 c6 ?_
        exact kb119_30 (n := n) (q2 := q2) (r2 := r2) hr2 hR hG
    · rw [if_neg c2] at hG
      refine iE2 c2 ?_
      exact kb119_30 (n := n) (q2 := q2) (r2 := r2) hr2 hR hG
def cf119_2 (n : Nat)   (k : Nat) : Nat → Int32 → Int32 → Int32 → zY → Option (Int32 × zY) := Nat.rec (fun _ _ _ _ _ => none) (fun _ ih => cb119_2 n  ih) k
theorem kf119_2 {n : Nat} {Mm : Nat → Option zO}     (k : Nat) : ∀ {l0 : Nat} {l1 : Int32} {l2 : Int32} {l3 : Int32}  {kh : zH} {h : zY} {p : Int32 × zY}, Rep Mm kh h → cf119_2 n   k l0 l1 l2 l3 h = some p → ∃ kh1 : zH, f119_2 n   k l0 l1 l2 l3 kh = some (p.1, kh1) ∧ Rep Mm kh1 p.2 := by
  induction k with
  | zero => intros; rename_i hG; cases hG
  | succ k ih => intros; rename_i hR hG; exact kb119_2 (n := n) (q2 := cf119_2 n   k) (r2 := f119_2 n   k)  ih hR hG
def c119 (n : Nat)  (y0 : Nat) (y1 : Int32) (y2 : Int32) (h : zY) : Option (Int32 × zY) :=
  cf119_2 n  n y0 y1 y2 0 h
set_option maxRecDepth 20000 in
theorem k119 {n : Nat} {Mm : Nat → Option zO}   {y0 : Nat} {y1 : Int32} {y2 : Int32} {kh : zH} {h : zY} {p : Int32 × zY} (hR : Rep Mm kh h) (hG : c119 n  y0 y1 y2 h = some p) : ∃ kh1 : zH, f119 n  y0 y1 y2 kh = some (p.1, kh1) ∧ Rep Mm kh1 p.2 := by
  unfold c119 at hG
  unfold f119
  exact kf119_2 (n := n) n hR hG
def cb118_9 (n : Nat)  (r9 : Nat → Int32 → Int32 → Int32 → zY → Option (Unit × zY)) (l0 : Nat) (l1 : Int32) (l2 : Int32) (l3 : Int32) (h : zY) : Option (Unit × zY) :=
  if l1 ≤ l3 then
    some ((), h)
  else
    zgd (yisO h l0 4) <|
    (c119 n l0 l2 l1 h).bind fun p4 =>
    (yR p4.2 l0 4 11).bind fun x5 =>
    x5.bind fun a7 =>
    (yS zsI p4.2 a7 l3 (.int p4.1)).bind fun h8 =>
    r9 l0 l1 (l2 ||| (1 <<< (p4.1 &&& 31))) (l3 + 1) h8
set_option maxRecDepth 20000 in
theorem kb118_9 {n : Nat} {Mm : Nat → Option zO}  {q9 : Nat → Int32 → Int32 → Int32 → zY → Option (Unit × zY)} {r9 : Nat → Int32 → Int32 → Int32 → zH → Option (Unit × zH)}  (hr9 : ∀ {l0 : Nat} {l1 : Int32} {l2 : Int32} {l3 : Int32}  {kh : zH} {h : zY} {p : Unit × zY}, Rep Mm kh h → q9 l0 l1 l2 l3 h = some p → ∃ kh1 : zH, r9 l0 l1 l2 l3 kh = some (p.1, kh1) ∧ Rep Mm kh1 p.2) {l0 : Nat} {l1 : Int32} {l2 : Int32} {l3 : Int32}  {kh : zH} {h : zY} {p : Unit × zY} (hR : Rep Mm kh h) (hG : cb118_9 n  q9 l0 l1 l2 l3 h = some p) : ∃ kh1 : zH, b118_9 n  r9 l0 l1 l2 l3 kh = some (p.1, kh1) ∧ Rep Mm kh1 p.2 := by
  unfold cb118_9 at hG
  unfold b118_9
  by_cases c1 : l1 ≤ l3
  · rw [if_pos c1] at hG
    refine iE1 c1 ?_
    replace hG := Option.some.inj hG
    subst hG
    exact ⟨_, rfl, hR⟩
  · rw [if_neg c1] at hG
    refine iE2 c1 ?_
    replace hG := zgd_some hG
    obtain ⟨g2, hG⟩ := hG
    refine zE (k_isO hR g2) ?_
    replace hG := zbnd hG
    obtain ⟨p4, e3, hG⟩ := hG
    have hT := k119 hR e3
    clear hR
    obtain ⟨kh4, e5, hR⟩ := hT
    refine bE e5 ?_
    replace hG := zbnd hG
    obtain ⟨x5, e6, hG⟩ := hG
    refine bE (k_gR hR e6) ?_
    replace hG := zbnd hG
    obtain ⟨a7, rfl, hG⟩ := hG
    refine bE rfl ?_
    replace hG := zbnd hG
    obtain ⟨h8, e8, hG⟩ := hG
    have hT := k_sI hR e8
    clear hR
    obtain ⟨kh9, e10, hR⟩ := hT
    refine bE e10 ?_
    exact hr9 hR hG
def cf118_9 (n : Nat)   (k : Nat) : Nat → Int32 → Int32 → Int32 → zY → Option (Unit × zY) := Nat.rec (fun _ _ _ _ _ => none) (fun _ ih => cb118_9 n  ih) k
theorem kf118_9 {n : Nat} {Mm : Nat → Option zO}     (k : Nat) : ∀ {l0 : Nat} {l1 : Int32} {l2 : Int32} {l3 : Int32}  {kh : zH} {h : zY} {p : Unit × zY}, Rep Mm kh h → cf118_9 n   k l0 l1 l2 l3 h = some p → ∃ kh1 : zH, f118_9 n   k l0 l1 l2 l3 kh = some (p.1, kh1) ∧ Rep Mm kh1 p.2 := by
  induction k with
  | zero => intros; rename_i hG; cases hG
  | succ k ih => intros; rename_i hR hG; exact kb118_9 (n := n) (q9 := cf118_9 n   k) (r9 := f118_9 n   k)  ih hR hG
def c118 (n : Nat)  (y0 : Nat) (h : zY) : Option (Unit × zY) :=
  zgd (yisO h y0 4) <|
  (c115 n y0 h).bind fun p3 =>
  cf118_9 n  n y0 p3.1 0 0 p3.2
set_option maxRecDepth 20000 in
theorem k118 {n : Nat} {Mm : Nat → Option zO}   {y0 : Nat} {kh : zH} {h : zY} {p : Unit × zY} (hR : Rep Mm kh h) (hG : c118 n  y0 h = some p) : ∃ kh1 : zH, f118 n  y0 kh = some (p.1, kh1) ∧ Rep Mm kh1 p.2 := by
  unfold c118 at hG
  unfold f118
  replace hG := zgd_some hG
  obtain ⟨g1, hG⟩ := hG
  refine zE (k_isO hR g1) ?_
  replace hG := zbnd hG
  obtain ⟨p3, e2, hG⟩ := hG
  have hT := k115 hR e2
  clear hR
  obtain ⟨kh3, e4, hR⟩ := hT
  refine bE e4 ?_
  exact kf118_9 (n := n) n hR hG
end ZCLS

/-! THE CLASS OVER AN ABSTRACT HEAP, 4 (written by a program of the verifier's) -/
section ZCLS
def c161 (n : Nat)  (y0 : Nat) (y1 : Int32) (y2 : Int32) (y3 : Int32) (y4 : Int32) (h : zY) : Option (Unit × zY) :=
  (yR h y0 1 5).bind fun x1 =>
  x1.bind fun a3 =>
  (yS zsI h a3 0 (.int y1)).bind fun h4 =>
  (yR h4 y0 1 5).bind fun x6 =>
  x6.bind fun a8 =>
  (yS zsI h4 a8 1 (.int y2)).bind fun h9 =>
  (yR h9 y0 1 5).bind fun x11 =>
  x11.bind fun a13 =>
  (yS zsI h9 a13 2 (.int y3)).bind fun h14 =>
  (yR h14 y0 1 5).bind fun x16 =>
  x16.bind fun a18 =>
  (yS zsI h14 a18 3 (.int y4)).bind fun h19 =>
  (yR h19 y0 1 5).bind fun x21 =>
  x21.bind fun a23 =>
  (yS zsI h19 a23 4 (.int (-1))).bind fun h24 =>
  some ((), h24)
set_option maxRecDepth 20000 in
theorem k161 {n : Nat} {Mm : Nat → Option zO}   {y0 : Nat} {y1 : Int32} {y2 : Int32} {y3 : Int32} {y4 : Int32} {kh : zH} {h : zY} {p : Unit × zY} (hR : Rep Mm kh h) (hG : c161 n  y0 y1 y2 y3 y4 h = some p) : ∃ kh1 : zH, f161 n  y0 y1 y2 y3 y4 kh = some (p.1, kh1) ∧ Rep Mm kh1 p.2 := by
  unfold c161 at hG
  unfold f161
  replace hG := zbnd hG
  obtain ⟨x1, e1, hG⟩ := hG
  refine bE (k_gR hR e1) ?_
  replace hG := zbnd hG
  obtain ⟨a3, rfl, hG⟩ := hG
  refine bE rfl ?_
  replace hG := zbnd hG
  obtain ⟨h4, e3, hG⟩ := hG
  have hT := k_sI hR e3
  clear hR
  obtain ⟨kh4, e5, hR⟩ := hT
  refine bE e5 ?_
  replace hG := zbnd hG
  obtain ⟨x6, e6, hG⟩ := hG
  refine bE (k_gR hR e6) ?_
  replace hG := zbnd hG
  obtain ⟨a8, rfl, hG⟩ := hG
  refine bE rfl ?_
  replace hG := zbnd hG
  obtain ⟨h9, e8, hG⟩ := hG
  have hT := k_sI hR e8
  clear hR
  obtain ⟨kh9, e10, hR⟩ := hT
  refine bE e10 ?_
  replace hG := zbnd hG
  obtain ⟨x11, e11, hG⟩ := hG
  refine bE (k_gR hR e11) ?_
  replace hG := zbnd hG
  obtain ⟨a13, rfl, hG⟩ := hG
  refine bE rfl ?_
  replace hG := zbnd hG
  obtain ⟨h14, e13, hG⟩ := hG
  have hT := k_sI hR e13
  clear hR
  obtain ⟨kh14, e15, hR⟩ := hT
  refine bE e15 ?_
  replace hG := zbnd hG
  obtain ⟨x16, e16, hG⟩ := hG
  refine bE (k_gR hR e16) ?_
  replace hG := zbnd hG
  obtain ⟨a18, rfl, hG⟩ := hG
  refine bE rfl ?_
  replace hG := zbnd hG
  obtain ⟨h19, e18, hG⟩ := hG
  have hT := k_sI hR e18
  clear hR
  obtain ⟨kh19, e20, hR⟩ := hT
  refine bE e20 ?_
  replace hG := zbnd hG
  obtain ⟨x21, e21, hG⟩ := hG
  refine bE (k_gR hR e21) ?_
  replace hG := zbnd hG
  obtain ⟨a23, rfl, hG⟩ := hG
  refine bE rfl ?_
  replace hG := zbnd hG
  obtain ⟨h24, e23, hG⟩ := hG
  have hT := k_sI hR e23
  clear hR
  obtain ⟨kh24, e25, hR⟩ := hT
  refine bE e25 ?_
  replace hG := Option.some.inj hG
  subst hG
  exact ⟨_, rfl, hR⟩
def c160 (n : Nat)  (y0 : Nat) (y1 : Int32) (y2 : Int32) (y3 : Int32) (h : zY) : Option (Unit × zY) :=
  zgd (yisO h y0 1) <|
  (c161 n y0 y1 y2 (-1) (-1) h).bind fun p3 =>
  (yP p3.2 y0 1 6 (.int y3)).bind fun h4 =>
  some ((), h4)
set_option maxRecDepth 20000 in
theorem k160 {n : Nat} {Mm : Nat → Option zO}   {y0 : Nat} {y1 : Int32} {y2 : Int32} {y3 : Int32} {kh : zH} {h : zY} {p : Unit × zY} (hR : Rep Mm kh h) (hG : c160 n  y0 y1 y2 y3 h = some p) : ∃ kh1 : zH, f160 n  y0 y1 y2 y3 kh = some (p.1, kh1) ∧ Rep Mm kh1 p.2 := by
  unfold c160 at hG
  unfold f160
  replace hG := zgd_some hG
  obtain ⟨g1, hG⟩ := hG
  refine zE (k_isO hR g1) ?_
  replace hG := zbnd hG
  obtain ⟨p3, e2, hG⟩ := hG
  have hT := k161 hR e2
  clear hR
  obtain ⟨kh3, e4, hR⟩ := hT
  refine bE e4 ?_
  replace hG := zbnd hG
  obtain ⟨h4, e5, hG⟩ := hG
  have hT := k_pF hR e5
  clear hR
  obtain ⟨kh6, e7, hR⟩ := hT
  refine bE e7 ?_
  replace hG := Option.some.inj hG
  subst hG
  exact ⟨_, rfl, hR⟩
def cb162_65 (n : Nat)  (r7 : Nat → Option Nat → Int32 → Int32 → Int32 → Int32 → zY → Option (Int32 × zY)) (l0 : Nat) (l1 : Option Nat) (l2 : Int32) (l3 : Int32) (l4 : Int32) (l5 : Int32) (l6 : Option Nat) (h : zY) : Option (Int32 × zY) :=
  r7 l0 l1 l2 l3 l4 (l5 + 1) h
set_option maxRecDepth 20000 in
theorem kb162_65 {n : Nat} {Mm : Nat → Option zO}  {q7 : Nat → Option Nat → Int32 → Int32 → Int32 → Int32 → zY → Option (Int32 × zY)} {r7 : Nat → Option Nat → Int32 → Int32 → Int32 → Int32 → zH → Option (Int32 × zH)}  (hr7 : ∀ {l0 : Nat} {l1 : Option Nat} {l2 : Int32} {l3 : Int32} {l4 : Int32} {l5 : Int32}  {kh : zH} {h : zY} {p : Int32 × zY}, Rep Mm kh h → q7 l0 l1 l2 l3 l4 l5 h = some p → ∃ kh1 : zH, r7 l0 l1 l2 l3 l4 l5 kh = some (p.1, kh1) ∧ Rep Mm kh1 p.2) {l0 : Nat} {l1 : Option Nat} {l2 : Int32} {l3 : Int32} {l4 : Int32} {l5 : Int32} {l6 : Option Nat}  {kh : zH} {h : zY} {p : Int32 × zY} (hR : Rep Mm kh h) (hG : cb162_65 n  q7 l0 l1 l2 l3 l4 l5 l6 h = some p) : ∃ kh1 : zH, b162_65 n  r7 l0 l1 l2 l3 l4 l5 l6 kh = some (p.1, kh1) ∧ Rep Mm kh1 p.2 := by
  unfold cb162_65 at hG
  unfold b162_65
  exact hr7 hR hG
def cb162_7 (n : Nat)  (r7 : Nat → Option Nat → Int32 → Int32 → Int32 → Int32 → zY → Option (Int32 × zY)) (l0 : Nat) (l1 : Option Nat) (l2 : Int32) (l3 : Int32) (l4 : Int32) (l5 : Int32) (h : zY) : Option (Int32 × zY) :=
  if l3 ≤ l5 then
    some ((-1), h)
  else
    l1.bind fun a2 =>
    (yR h a2 4 6).bind fun x3 =>
    x3.bind fun a5 =>
    zgd (yisO h a5 14) <|
    (c68 n a5 h).bind fun p8 =>
    if p8.1 ≤ l5 then
      some ((-1), p8.2)
    else
      (yR p8.2 a2 4 6).bind fun x10 =>
      x10.bind fun a12 =>
      zgd (yisO p8.2 a12 14) <|
      (c74 n a12 l5 p8.2).bind fun p15 =>
      zgd (ykC p15.2 p15.1 6 0) <|
      p15.1.bind fun a17 =>
      (yI p15.2 a17 6 0).bind fun x19 =>
      if x19 = l4 then
        (yR p15.2 a17 6 1).bind fun x22 =>
        zgd (yisO p15.2 l0 1) <|
        (c150 n 64 l0 x22 0 p15.2).bind fun p26 =>
        if p26.1 = 0 then
          cb162_65 n r7 l0 (some a2) l2 l3 l4 l5 (some a17) p26.2
        else
          some (l5, p26.2)
      else
        cb162_65 n r7 l0 (some a2) l2 l3 l4 l5 (some a17) p15.2
set_option maxRecDepth 20000 in
theorem kb162_7 {n : Nat} {Mm : Nat → Option zO}  {q7 : Nat → Option Nat → Int32 → Int32 → Int32 → Int32 → zY → Option (Int32 × zY)} {r7 : Nat → Option Nat → Int32 → Int32 → Int32 → Int32 → zH → Option (Int32 × zH)}  (hr7 : ∀ {l0 : Nat} {l1 : Option Nat} {l2 : Int32} {l3 : Int32} {l4 : Int32} {l5 : Int32}  {kh : zH} {h : zY} {p : Int32 × zY}, Rep Mm kh h → q7 l0 l1 l2 l3 l4 l5 h = some p → ∃ kh1 : zH, r7 l0 l1 l2 l3 l4 l5 kh = some (p.1, kh1) ∧ Rep Mm kh1 p.2) {l0 : Nat} {l1 : Option Nat} {l2 : Int32} {l3 : Int32} {l4 : Int32} {l5 : Int32}  {kh : zH} {h : zY} {p : Int32 × zY} (hR : Rep Mm kh h) (hG : cb162_7 n  q7 l0 l1 l2 l3 l4 l5 h = some p) : ∃ kh1 : zH, b162_7 n  r7 l0 l1 l2 l3 l4 l5 kh = some (p.1, kh1) ∧ Rep Mm kh1 p.2 := by
  unfold cb162_7 at hG
  unfold b162_7
  by_cases c1 : l3 ≤ l5
  · rw [if_pos c1] at hG
    refine iE1 c1 ?_
    replace hG := Option.some.inj hG
    subst hG
    exact ⟨_, rfl, hR⟩
  · rw [if_neg c1] at hG
    refine iE2 c1 ?_
    replace hG := zbnd hG
    obtain ⟨a2, rfl, hG⟩ := hG
    refine bE rfl ?_
    replace hG := zbnd hG
    obtain ⟨x3, e3, hG⟩ := hG
    refine bE (k_gR hR e3) ?_
    replace hG := zbnd hG
    obtain ⟨a5, rfl, hG⟩ := hG
    refine bE rfl ?_
    replace hG := zgd_some hG
    obtain ⟨g5, hG⟩ := hG
    refine zE (k_isO hR g5) ?_
    replace hG := zbnd hG
    obtain ⟨p8, e6, hG⟩ := hG
    have hT := k68 hR e6
    clear hR
    obtain ⟨kh7, e8, hR⟩ := hT
    refine bE e8 ?_
    by_cases c9 : p8.1 ≤ l5
    · rw [if_pos c9] at hG
      refine iE1 c9 ?_
      replace hG := Option.some.inj hG
      subst hG
      exact ⟨_, rfl, hR⟩
    · rw [if_neg c9] at hG
      refine iE2 c9 ?_
      replace hG := zbnd hG
      obtain ⟨x10, e10, hG⟩ := hG
      refine bE (k_gR hR e10) ?_
      replace hG := zbnd hG
      obtain ⟨a12, rfl, hG⟩ := hG
      refine bE rfl ?_
      replace hG := zgd_some hG
      obtain ⟨g12, hG⟩ := hG
      refine zE (k_isO hR g12) ?_
      replace hG := zbnd hG
      obtain ⟨p15, e13, hG⟩ := hG
      have hT := k74 hR e13
      clear hR
      obtain ⟨kh14, e15, hR⟩ := hT
      refine bE e15 ?_
      replace hG := zgd_some hG
      obtain ⟨g16, hG⟩ := hG
      refine zE (k_kC hR g16) ?_
      replace hG := zbnd hG
      obtain ⟨a17, e17, hG⟩ := hG
      refine bE e17 ?_
      replace hG := zbnd hG
      obtain ⟨x19, e18, hG⟩ := hG
      refine bE (k_gI hR e18) ?_
      by_cases c19 : x19 = l4
      · rw [if_pos c19] at hG
        refine iE1 c19 ?_
        replace hG := zbnd hG
        obtain ⟨x22, e20, hG⟩ := hG
        refine bE (k_gR hR e20) ?_
        replace hG := zgd_some hG
        obtain ⟨g21, hG⟩ := hG
        refine zE (k_isO hR g21) ?_
        replace hG := zbnd hG
        obtain ⟨p26, e22, hG⟩ := hG
        have hT := k150 64 hR e22
        clear hR
        obtain ⟨kh23, e24, hR⟩ := hT
        refine bE e24 ?_
        by_cases c25 : p26.1 = 0
        · rw [if_pos c25] at hG
          refine iE1 c25 ?_
          exact kb162_65 (n := n) (q7 := q7) (r7 := r7) hr7 hR hG
        · rw [if_neg c25] at hG
          refine iE2 c25 ?_
          replace hG := Option.some.inj hG
          subst hG
          exact ⟨_, rfl, hR⟩
      · rw [if_neg c19] at hG
        refine iE2 c19 ?_
        exact kb162_65 (n := n) (q7 := q7) (r7 := r7) hr7 hR hG
def cf162_7 (n : Nat)   (k : Nat) : Nat → Option Nat → Int32 → Int32 → Int32 → Int32 → zY → Option (Int32 × zY) := Nat.rec (fun _ _ _ _ _ _ _ => none) (fun _ ih => cb162_7 n  ih) k
theorem kf162_7 {n : Nat} {Mm : Nat → Option zO}     (k : Nat) : ∀ {l0 : Nat} {l1 : Option Nat} {l2 : Int32} {l3 : Int32} {l4 : Int32} {l5 : Int32}  {kh : zH} {h : zY} {p : Int32 × zY}, Rep Mm kh h → cf162_7 n   k l0 l1 l2 l3 l4 l5 h = some p → ∃ kh1 : zH, f162_7 n   k l0 l1 l2 l3 l4 l5 kh = some (p.1, kh1) ∧ Rep Mm kh1 p.2 := by
  induction k with
  | zero => intros; rename_i hG; cases hG
  | succ k ih => intros; rename_i hR hG; exact kb162_7 (n := n) (q7 := cf162_7 n   k) (r7 := f162_7 n   k)  ih hR hG
def c162 (n : Nat)  (y0 : Nat) (y1 : Option Nat) (y2 : Int32) (y3 : Int32) (y4 : Int32) (h : zY) : Option (Int32 × zY) :=
  (c22 n 0 y2 h).bind fun p2 =>
  cf162_7 n  n y0 y1 y2 y3 y4 p2.1 p2.2
set_option maxRecDepth 20000 in
theorem k162 {n : Nat} {Mm : Nat → Option zO}   {y0 : Nat} {y1 : Option Nat} {y2 : Int32} {y3 : Int32} {y4 : Int32} {kh : zH} {h : zY} {p : Int32 × zY} (hR : Rep Mm kh h) (hG : c162 n  y0 y1 y2 y3 y4 h = some p) : ∃ kh1 : zH, f162 n  y0 y1 y2 y3 y4 kh = some (p.1, kh1) ∧ Rep Mm kh1 p.2 := by
  unfold c162 at hG
  unfold f162
  replace hG := zbnd hG
  obtain ⟨p2, e1, hG⟩ := hG
  have hT := k22 hR e1
  clear hR
  obtain ⟨kh2, e3, hR⟩ := hT
  refine bE e3 ?_
  exact kf162_7 (n := n) n hR hG
def c164 (n : Nat)  (y0 : Nat) (h : zY) : Option (Int32 × zY) :=
  (yI h y0 7 4).bind fun x1 =>
  (yR h y0 7 3).bind fun x3 =>
  x3.bind fun a5 =>
  (yL h a5).bind fun x6 =>
  (c13 n (x1 - 1) x6 h).bind fun p9 =>
  if p9.1 = 0 then
    some (0, p9.2)
  else
    (yR p9.2 y0 7 3).bind fun x11 =>
    (yI p9.2 y0 7 4).bind fun x13 =>
    x11.bind fun a15 =>
    (yaI p9.2 a15 (x13 - 1)).bind fun x16 =>
    some (x16, p9.2)
set_option maxRecDepth 20000 in
theorem k164 {n : Nat} {Mm : Nat → Option zO}   {y0 : Nat} {kh : zH} {h : zY} {p : Int32 × zY} (hR : Rep Mm kh h) (hG : c164 n  y0 h = some p) : ∃ kh1 : zH, f164 n  y0 kh = some (p.1, kh1) ∧ Rep Mm kh1 p.2 := by
  unfold c164 at hG
  unfold f164
  replace hG := zbnd hG
  obtain ⟨x1, e1, hG⟩ := hG
  refine bE (k_gI hR e1) ?_
  replace hG := zbnd hG
  obtain ⟨x3, e2, hG⟩ := hG
  refine bE (k_gR hR e2) ?_
  replace hG := zbnd hG
  obtain ⟨a5, rfl, hG⟩ := hG
  refine bE rfl ?_
  replace hG := zbnd hG
  obtain ⟨x6, e4, hG⟩ := hG
  refine bE (k_aN hR e4) ?_
  replace hG := zbnd hG
  obtain ⟨p9, e5, hG⟩ := hG
  have hT := k13 hR e5
  clear hR
  obtain ⟨kh6, e7, hR⟩ := hT
  refine bE e7 ?_
  by_cases c8 : p9.1 = 0
  · rw [if_pos c8] at hG
    refine iE1 c8 ?_
    replace hG := Option.some.inj hG
    subst hG
    exact ⟨_, rfl, hR⟩
  · rw [if_neg c8] at hG
    refine iE2 c8 ?_
    replace hG := zbnd hG
    obtain ⟨x11, e9, hG⟩ := hG
    refine bE (k_gR hR e9) ?_
    replace hG := zbnd hG
    obtain ⟨x13, e10, hG⟩ := hG
    refine bE (k_gI hR e10) ?_
    replace hG := zbnd hG
    obtain ⟨a15, rfl, hG⟩ := hG
    refine bE rfl ?_
    replace hG := zbnd hG
    obtain ⟨x16, e12, hG⟩ := hG
    refine bE (k_aI hR e12) ?_
    replace hG := Option.some.inj hG
    subst hG
    exact ⟨_, rfl, hR⟩
def c167 (n : Nat)  (y0 : Int64) (y1 : Int32) (h : zY) : Option (Int64 × zY) :=
  some (((y0 ^^^ y1.toInt64) * (1099511628211)), h)
set_option maxRecDepth 20000 in
theorem k167 {n : Nat} {Mm : Nat → Option zO}   {y0 : Int64} {y1 : Int32} {kh : zH} {h : zY} {p : Int64 × zY} (hR : Rep Mm kh h) (hG : c167 n  y0 y1 h = some p) : ∃ kh1 : zH, f167 n  y0 y1 kh = some (p.1, kh1) ∧ Rep Mm kh1 p.2 := by
  unfold c167 at hG
  unfold f167
  replace hG := Option.some.inj hG
  subst hG
  exact ⟨_, rfl, hR⟩
def cb166_5 (n : Nat)  (r5 : Int64 → Option Nat → Int64 → Int32 → zY → Option (Int64 × zY)) (l0 : Int64) (l2 : Option Nat) (l3 : Int64) (l5 : Int32) (h : zY) : Option (Int64 × zY) :=
  l2.bind fun a1 =>
  zgd (yisO h a1 12) <|
  (c55 n a1 h).bind fun p4 =>
  if p4.1 ≤ l5 then
    some (l3, p4.2)
  else
    zgd (yisO p4.2 a1 12) <|
    (c59 n a1 l5 p4.2).bind fun p8 =>
    (c167 n l3 p8.1 p8.2).bind fun p10 =>
    r5 l0 (some a1) p10.1 (l5 + 1) p10.2
set_option maxRecDepth 20000 in
theorem kb166_5 {n : Nat} {Mm : Nat → Option zO}  {q5 : Int64 → Option Nat → Int64 → Int32 → zY → Option (Int64 × zY)} {r5 : Int64 → Option Nat → Int64 → Int32 → zH → Option (Int64 × zH)}  (hr5 : ∀ {l0 : Int64} {l2 : Option Nat} {l3 : Int64} {l5 : Int32}  {kh : zH} {h : zY} {p : Int64 × zY}, Rep Mm kh h → q5 l0 l2 l3 l5 h = some p → ∃ kh1 : zH, r5 l0 l2 l3 l5 kh = some (p.1, kh1) ∧ Rep Mm kh1 p.2) {l0 : Int64} {l2 : Option Nat} {l3 : Int64} {l5 : Int32}  {kh : zH} {h : zY} {p : Int64 × zY} (hR : Rep Mm kh h) (hG : cb166_5 n  q5 l0 l2 l3 l5 h = some p) : ∃ kh1 : zH, b166_5 n  r5 l0 l2 l3 l5 kh = some (p.1, kh1) ∧ Rep Mm kh1 p.2 := by
  unfold cb166_5 at hG
  unfold b166_5
  replace hG := zbnd hG
  obtain ⟨a1, rfl, hG⟩ := hG
  refine bE rfl ?_
  replace hG := zgd_some hG
  obtain ⟨g2, hG⟩ := hG
  refine zE (k_isO hR g2) ?_
  replace hG := zbnd hG
  obtain ⟨p4, e3, hG⟩ := hG
  have hT := k55 hR e3
  clear hR
  obtain ⟨kh4, e5, hR⟩ := hT
  refine bE e5 ?_
  by_cases c6 : p4.1 ≤ l5
  · rw [if_pos c6] at hG
    refine iE1 c6 ?_
    replace hG := Option.some.inj hG
    subst hG
    exact ⟨_, rfl, hR⟩
  · rw [if_neg c6] at hG
    refine iE2 c6 ?_
    replace hG := zgd_some hG
    obtain ⟨g7, hG⟩ := hG
    refine zE (k_isO hR g7) ?_
    replace hG := zbnd hG
    obtain ⟨p8, e8, hG⟩ := hG
    have hT := k59 hR e8
    clear hR
    obtain ⟨kh9, e10, hR⟩ := hT
    refine bE e10 ?_
    replace hG := zbnd hG
    obtain ⟨p10, e11, hG⟩ := hG
    have hT := k167 hR e11
    clear hR
    obtain ⟨kh12, e13, hR⟩ := hT
    refine bE e13 ?_
    exact hr5 hR hG
def cf166_5 (n : Nat)   (k : Nat) : Int64 → Option Nat → Int64 → Int32 → zY → Option (Int64 × zY) := Nat.rec (fun _ _ _ _ _ => none) (fun _ ih => cb166_5 n  ih) k
theorem kf166_5 {n : Nat} {Mm : Nat → Option zO}     (k : Nat) : ∀ {l0 : Int64} {l2 : Option Nat} {l3 : Int64} {l5 : Int32}  {kh : zH} {h : zY} {p : Int64 × zY}, Rep Mm kh h → cf166_5 n   k l0 l2 l3 l5 h = some p → ∃ kh1 : zH, f166_5 n   k l0 l2 l3 l5 kh = some (p.1, kh1) ∧ Rep Mm kh1 p.2 := by
  induction k with
  | zero => intros; rename_i hG; cases hG
  | succ k ih => intros; rename_i hR hG; exact kb166_5 (n := n) (q5 := cf166_5 n   k) (r5 := f166_5 n   k)  ih hR hG
def c166 (n : Nat)  (y0 : Int64) (y1 : Option Nat) (h : zY) : Option (Int64 × zY) :=
  cf166_5 n  n y0 y1 y0 0 h
set_option maxRecDepth 20000 in
theorem k166 {n : Nat} {Mm : Nat → Option zO}   {y0 : Int64} {y1 : Option Nat} {kh : zH} {h : zY} {p : Int64 × zY} (hR : Rep Mm kh h) (hG : c166 n  y0 y1 h = some p) : ∃ kh1 : zH, f166 n  y0 y1 kh = some (p.1, kh1) ∧ Rep Mm kh1 p.2 := by
  unfold c166 at hG
  unfold f166
  exact kf166_5 (n := n) n hR hG
def c165 (n : Nat)  (y0 : Option Nat) (y1 : Option Nat) (h : zY) : Option (Int32 × zY) :=
  (c166 n (-3750763034362895579) y0 h).bind fun p2 =>
  (c167 n p2.1 0 p2.2).bind fun p4 =>
  (c166 n p4.1 y1 p4.2).bind fun p6 =>
  some ((((((p6.1 ^^^ (p6.1.toUInt64 >>> ((32 : Int32).toInt64.toUInt64 &&& Int64.toUInt64 63)).toInt64).toUInt64 >>> ((1 : Int32).toInt64.toUInt64 &&& Int64.toUInt64 63)).toInt64 - ((p6.1 ^^^ (p6.1.toUInt64 >>> ((32 : Int32).toInt64.toUInt64 &&& Int64.toUInt64 63)).toInt64).toUInt64 >>> ((1 : Int32).toInt64.toUInt64 &&& Int64.toUInt64 63)).toInt64 / (5000) * (5000)) * (2)) + ((p6.1 ^^^ (p6.1.toUInt64 >>> ((32 : Int32).toInt64.toUInt64 &&& Int64.toUInt64 63)).toInt64) &&& 1)).toInt32, p6.2)
set_option maxRecDepth 20000 in
theorem k165 {n : Nat} {Mm : Nat → Option zO}   {y0 : Option Nat} {y1 : Option Nat} {kh : zH} {h : zY} {p : Int32 × zY} (hR : Rep Mm kh h) (hG : c165 n  y0 y1 h = some p) : ∃ kh1 : zH, f165 n  y0 y1 kh = some (p.1, kh1) ∧ Rep Mm kh1 p.2 := by
  unfold c165 at hG
  unfold f165
  replace hG := zbnd hG
  obtain ⟨p2, e1, hG⟩ := hG
  have hT := k166 hR e1
  clear hR
  obtain ⟨kh2, e3, hR⟩ := hT
  refine bE e3 ?_
  replace hG := zbnd hG
  obtain ⟨p4, e4, hG⟩ := hG
  have hT := k167 hR e4
  clear hR
  obtain ⟨kh5, e6, hR⟩ := hT
  refine bE e6 ?_
  replace hG := zbnd hG
  obtain ⟨p6, e7, hG⟩ := hG
  have hT := k166 hR e7
  clear hR
  obtain ⟨kh8, e9, hR⟩ := hT
  refine bE e9 ?_
  replace hG := Option.some.inj hG
  subst hG
  exact ⟨_, rfl, hR⟩
def cb168_57 (n : Nat)   (l0 : Nat) (l1 : Int32) (l2 : Int32) (l3 : Int32) (h : zY) : Option (Int32 × zY) :=
  zgd (yisO h l0 7) <|
  (c164 n l0 h).bind fun p3 =>
  some (p3.1, p3.2)
set_option maxRecDepth 20000 in
theorem kb168_57 {n : Nat} {Mm : Nat → Option zO}     {l0 : Nat} {l1 : Int32} {l2 : Int32} {l3 : Int32}  {kh : zH} {h : zY} {p : Int32 × zY} (hR : Rep Mm kh h) (hG : cb168_57 n   l0 l1 l2 l3 h = some p) : ∃ kh1 : zH, b168_57 n   l0 l1 l2 l3 kh = some (p.1, kh1) ∧ Rep Mm kh1 p.2 := by
  unfold cb168_57 at hG
  unfold b168_57
  replace hG := zgd_some hG
  obtain ⟨g1, hG⟩ := hG
  refine zE (k_isO hR g1) ?_
  replace hG := zbnd hG
  obtain ⟨p3, e2, hG⟩ := hG
  have hT := k164 hR e2
  clear hR
  obtain ⟨kh3, e4, hR⟩ := hT
  refine bE e4 ?_
  replace hG := Option.some.inj hG
  subst hG
  exact ⟨_, rfl, hR⟩
def cb168_4 (n : Nat)  (r4 : Nat → Int32 → Int32 → Int32 → zY → Option (Int32 × zY)) (l0 : Nat) (l1 : Int32) (l2 : Int32) (l3 : Int32) (h : zY) : Option (Int32 × zY) :=
  (yI h l0 7 4).bind fun x1 =>
  if x1 ≤ l3 then
    cb168_57 n  l0 l1 l2 l3 h
  else
    (yR h l0 7 2).bind fun x4 =>
    x4.bind fun a6 =>
    (yL h a6).bind fun x7 =>
    if x7 ≤ l3 then
      cb168_57 n  l0 l1 l2 l3 h
    else
      (yR h l0 7 3).bind fun x10 =>
      x10.bind fun a12 =>
      (yL h a12).bind fun x13 =>
      if x13 ≤ l3 then
        cb168_57 n  l0 l1 l2 l3 h
      else
        (yR h l0 7 2).bind fun x16 =>
        x16.bind fun a18 =>
        (yaI h a18 l3).bind fun x19 =>
        if (l2 + x19) ≤ l1 then
          r4 l0 l1 (l2 + x19) (l3 + 1) h
        else
          (yR h l0 7 3).bind fun x22 =>
          x22.bind fun a24 =>
          (yaI h a24 l3).bind fun x25 =>
          some (x25, h)
set_option maxRecDepth 20000 in
theorem kb168_4 {n : Nat} {Mm : Nat → Option zO}  {q4 : Nat → Int32 → Int32 → Int32 → zY → Option (Int32 × zY)} {r4 : Nat → Int32 → Int32 → Int32 → zH → Option (Int32 × zH)}  (hr4 : ∀ {l0 : Nat} {l1 : Int32} {l2 : Int32} {l3 : Int32}  {kh : zH} {h : zY} {p : Int32 × zY}, Rep Mm kh h → q4 l0 l1 l2 l3 h = some p → ∃ kh1 : zH, r4 l0 l1 l2 l3 kh = some (p.1, kh1) ∧ Rep Mm kh1 p.2) {l0 : Nat} {l1 : Int32} {l2 : Int32} {l3 : Int32}  {kh : zH} {h : zY} {p : Int32 × zY} (hR : Rep Mm kh h) (hG : cb168_4 n  q4 l0 l1 l2 l3 h = some p) : ∃ kh1 : zH, b168_4 n  r4 l0 l1 l2 l3 kh = some (p.1, kh1) ∧ Rep Mm kh1 p.2 := by
  unfold cb168_4 at hG
  unfold b168_4
  replace hG := zbnd hG
  obtain ⟨x1, e1, hG⟩ := hG
  refine bE (k_gI hR e1) ?_
  by_cases c2 : x1 ≤ l3
  · rw [if_pos c2] at hG
    refine iE1 c2 ?_
    exact kb168_57 (n := n) hR hG
  · rw [if_neg c2] at hG
    refine iE2 c2 ?_
    replace hG := zbnd hG
    obtain ⟨x4, e3, hG⟩ := hG
    refine bE (k_gR hR e3) ?_
    replace hG := zbnd hG
    obtain ⟨a6, rfl, hG⟩ := hG
    refine bE rfl ?_
    replace hG := zbnd hG
    obtain ⟨x7, e5, hG⟩ := hG
    refine bE (k_aN hR e5) ?_
    by_cases c6 : x7 ≤ l3
    · rw [if_pos c6] at hG
      refine iE1 c6 ?_
      exact kb168_57 (n := n) hR hG
    · rw [if_neg c6] at hG
      refine iE2 c6 ?_
      replace hG := zbnd hG
      obtain ⟨x10, e7, hG⟩ := hG
      refine bE (k_gR hR e7) ?_
      replace hG := zbnd hG
      obtain ⟨a12, rfl, hG⟩ := hG
      refine bE rfl ?_
      replace hG := zbnd hG
      obtain ⟨x13, e9, hG⟩ := hG
      refine bE (k_aN hR e9) ?_
      by_cases c10 : x13 ≤ l3
      · rw [if_pos c10] at hG
        refine iE1 c10 ?_
        exact kb168_57 (n := n) hR hG
      · rw [if_neg c10] at hG
        refine iE2 c10 ?_
        replace hG := zbnd hG
        obtain ⟨x16, e11, hG⟩ := hG
        refine bE (k_gR hR e11) ?_
        replace hG := zbnd hG
        obtain ⟨a18, rfl, hG⟩ := hG
        refine bE rfl ?_
        replace hG := zbnd hG
        obtain ⟨x19, e13, hG⟩ := hG
        refine bE (k_aI hR e13) ?_
        by_cases c14 : (l2 + x19) ≤ l1
        · rw [if_pos c14] at hG
          refine iE1 c14 ?_
          exact hr4 hR hG
        · rw [if_neg c14] at hG
          refine iE2 c14 ?_
          replace hG := zbnd hG
          obtain ⟨x22, e15, hG⟩ := hG
          refine bE (k_gR hR e15) ?_
          replace hG := zbnd hG
          obtain ⟨a24, rfl, hG⟩ := hG
          refine bE rfl ?_
          replace hG := zbnd hG
          obtain ⟨x25, e17, hG⟩ := hG
          refine bE (k_aI hR e17) ?_
          replace hG := Option.some.inj hG
          subst hG
          exact ⟨_, rfl, hR⟩
def cf168_4 (n : Nat)   (k : Nat) : Nat → Int32 → Int32 → Int32 → zY → Option (Int32 × zY) := Nat.rec (fun _ _ _ _ _ => none) (fun _ ih => cb168_4 n  ih) k
theorem kf168_4 {n : Nat} {Mm : Nat → Option zO}     (k : Nat) : ∀ {l0 : Nat} {l1 : Int32} {l2 : Int32} {l3 : Int32}  {kh : zH} {h : zY} {p : Int32 × zY}, Rep Mm kh h → cf168_4 n   k l0 l1 l2 l3 h = some p → ∃ kh1 : zH, f168_4 n   k l0 l1 l2 l3 kh = some (p.1, kh1) ∧ Rep Mm kh1 p.2 := by
  induction k with
  | zero => intros; rename_i hG; cases hG
  | succ k ih => intros; rename_i hR hG; exact kb168_4 (n := n) (q4 := cf168_4 n   k) (r4 := f168_4 n   k)  ih hR hG
def c168 (n : Nat)  (y0 : Nat) (y1 : Int32) (h : zY) : Option (Int32 × zY) :=
  cf168_4 n  n y0 y1 0 0 h
set_option maxRecDepth 20000 in
theorem k168 {n : Nat} {Mm : Nat → Option zO}   {y0 : Nat} {y1 : Int32} {kh : zH} {h : zY} {p : Int32 × zY} (hR : Rep Mm kh h) (hG : c168 n  y0 y1 h = some p) : ∃ kh1 : zH, f168 n  y0 y1 kh = some (p.1, kh1) ∧ Rep Mm kh1 p.2 := by
  unfold c168 at hG
  unfold f168
  exact kf168_4 (n := n) n hR hG
def cb163_39 (n : Nat)   (l0 : Nat) (l1 : Int32) (l2 : Int32) (l3 : Int32) (l4 : Option Nat) (l5 : Option Nat) (h : zY) : Option (Unit × zY) :=
  zgd (yisO h l0 1) <|
  (c161 n l0 l1 l2 l3 (-1) h).bind fun p3 =>
  l4.bind fun a4 =>
  zgd (yisO p3.2 a4 7) <|
  (c164 n a4 p3.2).bind fun p7 =>
  (yP p7.2 l0 1 6 (.int p7.1)).bind fun h8 =>
  some ((), h8)
set_option maxRecDepth 20000 in
theorem kb163_39 {n : Nat} {Mm : Nat → Option zO}     {l0 : Nat} {l1 : Int32} {l2 : Int32} {l3 : Int32} {l4 : Option Nat} {l5 : Option Nat}  {kh : zH} {h : zY} {p : Unit × zY} (hR : Rep Mm kh h) (hG : cb163_39 n   l0 l1 l2 l3 l4 l5 h = some p) : ∃ kh1 : zH, b163_39 n   l0 l1 l2 l3 l4 l5 kh = some (p.1, kh1) ∧ Rep Mm kh1 p.2 := by
  unfold cb163_39 at hG
  unfold b163_39
  replace hG := zgd_some hG
  obtain ⟨g1, hG⟩ := hG
  refine zE (k_isO hR g1) ?_
  replace hG := zbnd hG
  obtain ⟨p3, e2, hG⟩ := hG
  have hT := k161 hR e2
  clear hR
  obtain ⟨kh3, e4, hR⟩ := hT
  refine bE e4 ?_
  replace hG := zbnd hG
  obtain ⟨a4, rfl, hG⟩ := hG
  refine bE rfl ?_
  replace hG := zgd_some hG
  obtain ⟨g6, hG⟩ := hG
  refine zE (k_isO hR g6) ?_
  replace hG := zbnd hG
  obtain ⟨p7, e7, hG⟩ := hG
  have hT := k164 hR e7
  clear hR
  obtain ⟨kh8, e9, hR⟩ := hT
  refine bE e9 ?_
  replace hG := zbnd hG
  obtain ⟨h8, e10, hG⟩ := hG
  have hT := k_pF hR e10
  clear hR
  obtain ⟨kh11, e12, hR⟩ := hT
  refine bE e12 ?_
  replace hG := Option.some.inj hG
  subst hG
  exact ⟨_, rfl, hR⟩
def cb163_24 (n : Nat)   (l0 : Nat) (l1 : Int32) (l2 : Int32) (l3 : Int32) (l4 : Option Nat) (s0 : Option Nat) (h : zY) : Option (Unit × zY) :=
  match s0 with
  | none =>
    cb163_39 n  l0 l1 l2 l3 l4 none h
  | some a1 =>
    l4.bind fun a2 =>
    (yR h a2 7 1).bind fun x3 =>
    match x3 with
    | none =>
      cb163_39 n  l0 l1 l2 l3 (some a2) (some a1) h
    | some a5 =>
      (yR h a2 7 1).bind fun x6 =>
      x6.bind fun a8 =>
      (yR h a8 9 3).bind fun x9 =>
      (yR h a1 9 3).bind fun x11 =>
      (c165 n x9 x11 h).bind fun p14 =>
      zgd (yisO p14.2 l0 1) <|
      (c161 n l0 l1 l2 l3 p14.1 p14.2).bind fun p17 =>
      zgd (yisO p17.2 a2 7) <|
      (c168 n a2 p14.1 p17.2).bind fun p20 =>
      (yP p20.2 l0 1 6 (.int p20.1)).bind fun h21 =>
      some ((), h21)
set_option maxRecDepth 20000 in
theorem kb163_24 {n : Nat} {Mm : Nat → Option zO}     {l0 : Nat} {l1 : Int32} {l2 : Int32} {l3 : Int32} {l4 : Option Nat} {s0 : Option Nat} {kh : zH} {h : zY} {p : Unit × zY} (hR : Rep Mm kh h) (hG : cb163_24 n   l0 l1 l2 l3 l4 s0 h = some p) : ∃ kh1 : zH, b163_24 n   l0 l1 l2 l3 l4 s0 kh = some (p.1, kh1) ∧ Rep Mm kh1 p.2 := by
  unfold cb163_24 at hG
  unfold b163_24
  cases s0 with
  | none =>
    dsimp only at hG ⊢
    exact kb163_39 (n := n) hR hG
  | some a1 =>
    dsimp only at hG ⊢
    replace hG := zbnd hG
    obtain ⟨a2, rfl, hG⟩ := hG
    refine bE rfl ?_
    replace hG := zbnd hG
    obtain ⟨x3, e2, hG⟩ := hG
    refine bE (k_gR hR e2) ?_
    cases x3 with
    | none =>
      dsimp only at hG ⊢
      exact kb163_39 (n := n) hR hG
    | some a5 =>
      dsimp only at hG ⊢
      replace hG := zbnd hG
      obtain ⟨x6, e3, hG⟩ := hG
      refine bE (k_gR hR e3) ?_
      replace hG := zbnd hG
      obtain ⟨a8, rfl, hG⟩ := hG
      refine bE rfl ?_
      replace hG := zbnd hG
      obtain ⟨x9, e5, hG⟩ := hG
      refine bE (k_gR hR e5) ?_
      replace hG := zbnd hG
      obtain ⟨x11, e6, hG⟩ := hG
      refine bE (k_gR hR e6) ?_
      replace hG := zbnd hG
      obtain ⟨p14, e7, hG⟩ := hG
      have hT := k165 hR e7
      clear hR
      obtain ⟨kh8, e9, hR⟩ := hT
      refine bE e9 ?_
      replace hG := zgd_some hG
      obtain ⟨g10, hG⟩ := hG
      refine zE (k_isO hR g10) ?_
      replace hG := zbnd hG
      obtain ⟨p17, e11, hG⟩ := hG
      have hT := k161 hR e11
      clear hR
      obtain ⟨kh12, e13, hR⟩ := hT
      refine bE e13 ?_
      replace hG := zgd_some hG
      obtain ⟨g14, hG⟩ := hG
      refine zE (k_isO hR g14) ?_
      replace hG := zbnd hG
      obtain ⟨p20, e15, hG⟩ := hG
      have hT := k168 hR e15
      clear hR
      obtain ⟨kh16, e17, hR⟩ := hT
      refine bE e17 ?_
      replace hG := zbnd hG
      obtain ⟨h21, e18, hG⟩ := hG
      have hT := k_pF hR e18
      clear hR
      obtain ⟨kh19, e20, hR⟩ := hT
      refine bE e20 ?_
      replace hG := Option.some.inj hG
      subst hG
      exact ⟨_, rfl, hR⟩
def c163 (n : Nat)  (y0 : Nat) (y1 : Int32) (y2 : Int32) (y3 : Int32) (y4 : Option Nat) (h : zY) : Option (Unit × zY) :=
  y4.bind fun a1 =>
  (yR h a1 7 0).bind fun x2 =>
  match x2 with
  | none =>
    cb163_24 n  y0 y1 y2 y3 (some a1) none h
  | some a4 =>
    (yR h a1 7 0).bind fun x5 =>
    x5.bind fun a7 =>
    (yR h a7 9 3).bind fun x8 =>
    zgd (yisO h y0 1) <|
    (c153 n y0 x8 h).bind fun p12 =>
    cb163_24 n  y0 y1 y2 y3 (some a1) p12.1 p12.2
set_option maxRecDepth 20000 in
theorem k163 {n : Nat} {Mm : Nat → Option zO}   {y0 : Nat} {y1 : Int32} {y2 : Int32} {y3 : Int32} {y4 : Option Nat} {kh : zH} {h : zY} {p : Unit × zY} (hR : Rep Mm kh h) (hG : c163 n  y0 y1 y2 y3 y4 h = some p) : ∃ kh1 : zH, f163 n  y0 y1 y2 y3 y4 kh = some (p.1, kh1) ∧ Rep Mm kh1 p.2 := by
  unfold c163 at hG
  unfold f163
  replace hG := zbnd hG
  obtain ⟨a1, rfl, hG⟩ := hG
  refine bE rfl ?_
  replace hG := zbnd hG
  obtain ⟨x2, e2, hG⟩ := hG
  refine bE (k_gR hR e2) ?_
  cases x2 with
  | none =>
    dsimp only at hG ⊢
    exact kb163_24 (n := n) hR hG
  | some a4 =>
    dsimp only at hG ⊢
    replace hG := zbnd hG
    obtain ⟨x5, e3, hG⟩ := hG
    refine bE (k_gR hR e3) ?_
    replace hG := zbnd hG
    obtain ⟨a7, rfl, hG⟩ := hG
    refine bE rfl ?_
    replace hG := zbnd hG
    obtain ⟨x8, e5, hG⟩ := hG
    refine bE (k_gR hR e5) ?_
    replace hG := zgd_some hG
    obtain ⟨g6, hG⟩ := hG
    refine zE (k_isO hR g6) ?_
    replace hG := zbnd hG
    obtain ⟨p12, e7, hG⟩ := hG
    have hT := k153 hR e7
    clear hR
    obtain ⟨kh8, e9, hR⟩ := hT
    refine bE e9 ?_
    exact kb163_24 (n := n) hR hG
def c169 (n : Nat)  (y0 : Nat) (y1 : Int32) (h : zY) : Option (Option Nat × zY) :=
  (yR h y0 2 4).bind fun x1 =>
  x1.bind fun a3 =>
  (yL h a3).bind fun x4 =>
  (c13 n y1 x4 h).bind fun p7 =>
  if p7.1 = 0 then
    some (none, p7.2)
  else
    (yR p7.2 y0 2 4).bind fun x9 =>
    x9.bind fun a11 =>
    (yaR p7.2 a11 y1).bind fun x12 =>
    some (x12, p7.2)
set_option maxRecDepth 20000 in
theorem k169 {n : Nat} {Mm : Nat → Option zO}   {y0 : Nat} {y1 : Int32} {kh : zH} {h : zY} {p : Option Nat × zY} (hR : Rep Mm kh h) (hG : c169 n  y0 y1 h = some p) : ∃ kh1 : zH, f169 n  y0 y1 kh = some (p.1, kh1) ∧ Rep Mm kh1 p.2 := by
  unfold c169 at hG
  unfold f169
  replace hG := zbnd hG
  obtain ⟨x1, e1, hG⟩ := hG
  refine bE (k_gR hR e1) ?_
  replace hG := zbnd hG
  obtain ⟨a3, rfl, hG⟩ := hG
  refine bE rfl ?_
  replace hG := zbnd hG
  obtain ⟨x4, e3, hG⟩ := hG
  refine bE (k_aN hR e3) ?_
  replace hG := zbnd hG
  obtain ⟨p7, e4, hG⟩ := hG
  have hT := k13 hR e4
  clear hR
  obtain ⟨kh5, e6, hR⟩ := hT
  refine bE e6 ?_
  by_cases c7 : p7.1 = 0
  · rw [if_pos c7] at hG
    refine iE1 c7 ?_
    replace hG := Option.some.inj hG
    subst hG
    exact ⟨_, rfl, hR⟩
  · rw [if_neg c7] at hG
    refine iE2 c7 ?_
    replace hG := zbnd hG
    obtain ⟨x9, e8, hG⟩ := hG
    refine bE (k_gR hR e8) ?_
    replace hG := zbnd hG
    obtain ⟨a11, rfl, hG⟩ := hG
    refine bE rfl ?_
    replace hG := zbnd hG
    obtain ⟨x12, e10, hG⟩ := hG
    refine bE (k_aR hR e10) ?_
    replace hG := Option.some.inj hG
    subst hG
    exact ⟨_, rfl, hR⟩
def cb158_6 (n : Nat)  (r6 : Nat → Option Nat → Int32 → Int32 → Int32 → Int32 → zY → Option (Int32 × zY)) (l0 : Nat) (l1 : Option Nat) (l2 : Int32) (l3 : Int32) (l4 : Int32) (l5 : Int32) (h : zY) : Option (Int32 × zY) :=
  if (8 : Int32) ≤ l5 then
    some (0, h)
  else
    l1.bind fun a2 =>
    (yR h a2 4 5).bind fun x3 =>
    x3.bind fun a5 =>
    zgd (yisO h a5 14) <|
    (c68 n a5 h).bind fun p8 =>
    (c13 n l4 p8.1 p8.2).bind fun p10 =>
    if p10.1 = 0 then
      some (0, p10.2)
    else
      (yR p10.2 a2 4 5).bind fun x12 =>
      x12.bind fun a14 =>
      zgd (yisO p10.2 a14 14) <|
      (c74 n a14 l4 p10.2).bind fun p17 =>
      zgd (ykC p17.2 p17.1 2 0) <|
      p17.1.bind fun a19 =>
      zgd (yisO p17.2 a19 2) <|
      (c159 n a19 l2 p17.2).bind fun p23 =>
      if p23.1 = 0 then
        (yI p23.2 a19 2 1).bind fun x25 =>
        (yI p23.2 a19 2 2).bind fun x27 =>
        zgd (yisO p23.2 l0 1) <|
        (c162 n l0 (some a2) x25 x27 l2 p23.2).bind fun p31 =>
        if p31.1 = (-1) then
          zgd (yisO p31.2 a19 2) <|
          (c169 n a19 l2 p31.2).bind fun p35 =>
          match p35.1 with
          | none =>
            (yI p35.2 a19 2 0).bind fun x38 =>
            r6 l0 (some a2) l2 l3 x38 (l5 + 1) p35.2
          | some a36 =>
            zgd (yisO p35.2 l0 1) <|
            (c163 n l0 5 l4 (-1) (some a36) p35.2).bind fun p42 =>
            some (1, p42.2)
        else
          (yR p31.2 a2 4 6).bind fun x43 =>
          x43.bind fun a45 =>
          zgd (yisO p31.2 a45 14) <|
          (c74 n a45 p31.1 p31.2).bind fun p48 =>
          zgd (ykC p48.2 p48.1 6 0) <|
          p48.1.bind fun a50 =>
          (yR p48.2 a50 6 2).bind fun x52 =>
          zgd (yisO p48.2 l0 1) <|
          (c163 n l0 4 l4 p31.1 x52 p48.2).bind fun p56 =>
          some (1, p56.2)
      else
        (yR p23.2 a2 4 4).bind fun x57 =>
        x57.bind fun a59 =>
        zgd (yisO p23.2 a59 14) <|
        (c74 n a59 l2 p23.2).bind fun p62 =>
        zgd (ykC p62.2 p62.1 0 0) <|
        p62.1.bind fun a64 =>
        (yI p62.2 a64 0 7).bind fun x66 =>
        zgd (yisO p62.2 l0 1) <|
        (c160 n l0 3 l4 x66 p62.2).bind fun p70 =>
        some (1, p70.2)
set_option maxRecDepth 20000 in
theorem kb158_6 {n : Nat} {Mm : Nat → Option zO}  {q6 : Nat → Option Nat → Int32 → Int32 → Int32 → Int32 → zY → Option (Int32 × zY)} {r6 : Nat → Option Nat → Int32 → Int32 → Int32 → Int32 → zH → Option (Int32 × zH)}  (hr6 : ∀ {l0 : Nat} {l1 : Option Nat} {l2 : Int32} {l3 : Int32} {l4 : Int32} {l5 : Int32}  {kh : zH} {h : zY} {p : Int32 × zY}, Rep Mm kh h → q6 l0 l1 l2 l3 l4 l5 h = some p → ∃ kh1 : zH, r6 l0 l1 l2 l3 l4 l5 kh = some (p.1, kh1) ∧ Rep Mm kh1 p.2) {l0 : Nat} {l1 : Option Nat} {l2 : Int32} {l3 : Int32} {l4 : Int32} {l5 : Int32}  {kh : zH} {h : zY} {p : Int32 × zY} (hR : Rep Mm kh h) (hG : cb158_6 n  q6 l0 l1 l2 l3 l4 l5 h = some p) : ∃ kh1 : zH, b158_6 n  r6 l0 l1 l2 l3 l4 l5 kh = some (p.1, kh1) ∧ Rep Mm kh1 p.2 := by
  unfold cb158_6 at hG
  unfold b158_6
  by_cases c1 : (8 : Int32) ≤ l5
  · rw [if_pos c1] at hG
    refine iE1 c1 ?_
    replace hG := Option.some.inj hG
    subst hG
    exact ⟨_, rfl, hR⟩
  · rw [if_neg c1] at hG
    refine iE2 c1 ?_
    replace hG := zbnd hG
    obtain ⟨a2, rfl, hG⟩ := hG
    refine bE rfl ?_
    replace hG := zbnd hG
    obtain ⟨x3, e3, hG⟩ := hG
    refine bE (k_gR hR e3) ?_
    replace hG := zbnd hG
    obtain ⟨a5, rfl, hG⟩ := hG
    refine bE rfl ?_
    replace hG := zgd_some hG
    obtain ⟨g5, hG⟩ := hG
    refine zE (k_isO hR g5) ?_
    replace hG := zbnd hG
    obtain ⟨p8, e6, hG⟩ := hG
    have hT := k68 hR e6
    clear hR
    obtain ⟨kh7, e8, hR⟩ := hT
    refine bE e8 ?_
    replace hG := zbnd hG
    obtain ⟨p10, e9, hG⟩ := hG
    have hT := k13 hR e9
    clear hR
    obtain ⟨kh10, e11, hR⟩ := hT
    refine bE e11 ?_
    by_cases c12 : p10.1 = 0
    · rw [if_pos c12] at hG
      refine iE1 c12 ?_
      replace hG := Option.some.inj hG
      subst hG
      exact ⟨_, rfl, hR⟩
    · rw [if_neg c12] at hG
      refine iE2 c12 ?_
      replace hG := zbnd hG
      obtain ⟨x12, e13, hG⟩ := hG
      refine bE (k_gR hR e13) ?_
      replace hG := zbnd hG
      obtain ⟨a14, rfl, hG⟩ := hG
      refine bE rfl ?_
      replace hG := zgd_some hG
      obtain ⟨g15, hG⟩ := hG
      refine zE (k_isO hR g15) ?_
      replace hG := zbnd hG
      obtain ⟨p17, e16, hG⟩ := hG
      have hT := k74 hR e16
      clear hR
      obtain ⟨kh17, e18, hR⟩ := hT
      refine bE e18 ?_
      replace hG := zgd_some hG
      obtain ⟨g19, hG⟩ := hG
      refine zE (k_kC hR g19) ?_
      replace hG := zbnd hG
      obtain ⟨a19, e20, hG⟩ := hG
      refine bE e20 ?_
      replace hG := zgd_some hG
      obtain ⟨g21, hG⟩ := hG
      refine zE (k_isO hR g21) ?_
      replace hG := zbnd hG
      obtain ⟨p23, e22, hG⟩ := hG
      have hT := k159 hR e22
      clear hR
      obtain ⟨kh23, e24, hR⟩ := hT
      refine bE e24 ?_
      by_cases c25 : p23.1 = 0
      · rw [if_pos c25] at hG
        refine iE1 c25 ?_
        replace hG := zbnd hG
        obtain ⟨x25, e26, hG⟩ := hG
        refine bE (k_gI hR e26) ?_
        replace hG := zbnd hG
        obtain ⟨x27, e27, hG⟩ := hG
        refine bE (k_gI hR e27) ?_
        replace hG := zgd_some hG
        obtain ⟨g28, hG⟩ := hG
        refine zE (k_isO hR g28) ?_
        replace hG := zbnd hG
        obtain ⟨p31, e29, hG⟩ := hG
        have hT := k162 hR e29
        clear hR
        obtain ⟨kh30, e31, hR⟩ := hT
        refine bE e31 ?_
        by_cases c32 : p31.1 = (-1)
        · rw [if_pos c32] at hG
          refine iE1 c32 ?_
          replace hG := zgd_some hG
          obtain ⟨g33, hG⟩ := hG
          refine zE (k_isO hR g33) ?_
          replace hG := zbnd hG
          obtain ⟨p35, e34, hG⟩ := hG
          have hT := k169 hR e34
          clear hR
          obtain ⟨kh35, e36, hR⟩ := hT
          refine bE e36 ?_
          rcases p35 with ⟨p35x, p35y⟩
          dsimp only at hG ⊢
          cases p35x with
          | none =>
            dsimp only at hG ⊢
            replace hG := zbnd hG
            obtain ⟨x38, e37, hG⟩ := hG
            refine bE (k_gI hR e37) ?_
            exact hr6 hR hG
          | some a36 =>
            dsimp only at hG ⊢
            replace hG := zgd_some hG
            obtain ⟨g38, hG⟩ := hG
            refine zE (k_isO hR g38) ?_
            replace hG := zbnd hG
            obtain ⟨p42, e39, hG⟩ := hG
            have hT := k163 hR e39
            clear hR
            obtain ⟨kh40, e41, hR⟩ := hT
            refine bE e41 ?_
            replace hG := Option.some.inj hG
            subst hG
            exact ⟨_, rfl, hR⟩
        · rw [if_neg c32] at hG
          refine iE2 c32 ?_
          replace hG := zbnd hG
          obtain ⟨x43, e42, hG⟩ := hG
          refine bE (k_gR hR e42) ?_
          replace hG := zbnd hG
          obtain ⟨a45, rfl, hG⟩ := hG
          refine bE rfl ?_
          replace hG := zgd_some hG
          obtain ⟨g44, hG⟩ := hG
          refine zE (k_isO hR g44) ?_
          replace hG := zbnd hG
          obtain ⟨p48, e45, hG⟩ := hG
          have hT := k74 hR e45
          clear hR
          obtain ⟨kh46, e47, hR⟩ := hT
          refine bE e47 ?_
          replace hG := zgd_some hG
          obtain ⟨g48, hG⟩ := hG
          refine zE (k_kC hR g48) ?_
          replace hG := zbnd hG
          obtain ⟨a50, e49, hG⟩ := hG
          refine bE e49 ?_
          replace hG := zbnd hG
          obtain ⟨x52, e50, hG⟩ := hG
          refine bE (k_gR hR e50) ?_
          replace hG := zgd_some hG
          obtain ⟨g51, hG⟩ := hG
          refine zE (k_isO hR g51) ?_
          replace hG := zbnd hG
          obtain ⟨p56, e52, hG⟩ := hG
          have hT := k163 hR e52
          clear hR
          obtain ⟨kh53, e54, hR⟩ := hT
          refine bE e54 ?_
          replace hG := Option.some.inj hG
          subst hG
          exact ⟨_, rfl, hR⟩
      · rw [if_neg c25] at hG
        refine iE2 c25 ?_
        replace hG := zbnd hG
        obtain ⟨x57, e55, hG⟩ := hG
        refine bE (k_gR hR e55) ?_
        replace hG := zbnd hG
        obtain ⟨a59, rfl, hG⟩ := hG
        refine bE rfl ?_
        replace hG := zgd_some hG
        obtain ⟨g57, hG⟩ := hG
        refine zE (k_isO hR g57) ?_
        replace hG := zbnd hG
        obtain ⟨p62, e58, hG⟩ := hG
        have hT := k74 hR e58
        clear hR
        obtain ⟨kh59, e60, hR⟩ := hT
        refine bE e60 ?_
        replace hG := zgd_some hG
        obtain ⟨g61, hG⟩ := hG
        refine zE (k_kC hR g61) ?_
        replace hG := zbnd hG
        obtain ⟨a64, e62, hG⟩ := hG
        refine bE e62 ?_
        replace hG := zbnd hG
        obtain ⟨x66, e63, hG⟩ := hG
        refine bE (k_gI hR e63) ?_
        replace hG := zgd_some hG
        obtain ⟨g64, hG⟩ := hG
        refine zE (k_isO hR g64) ?_
        replace hG := zbnd hG
        obtain ⟨p70, e65, hG⟩ := hG
        have hT := k160 hR e65
        clear hR
        obtain ⟨kh66, e67, hR⟩ := hT
        refine bE e67 ?_
        replace hG := Option.some.inj hG
        subst hG
        exact ⟨_, rfl, hR⟩
def cf158_6 (n : Nat)   (k : Nat) : Nat → Option Nat → Int32 → Int32 → Int32 → Int32 → zY → Option (Int32 × zY) := Nat.rec (fun _ _ _ _ _ _ _ => none) (fun _ ih => cb158_6 n  ih) k
theorem kf158_6 {n : Nat} {Mm : Nat → Option zO}     (k : Nat) : ∀ {l0 : Nat} {l1 : Option Nat} {l2 : Int32} {l3 : Int32} {l4 : Int32} {l5 : Int32}  {kh : zH} {h : zY} {p : Int32 × zY}, Rep Mm kh h → cf158_6 n   k l0 l1 l2 l3 l4 l5 h = some p → ∃ kh1 : zH, f158_6 n   k l0 l1 l2 l3 l4 l5 kh = some (p.1, kh1) ∧ Rep Mm kh1 p.2 := by
  induction k with
  | zero => intros; rename_i hG; cases hG
  | succ k ih => intros; rename_i hR hG; exact kb158_6 (n := n) (q6 := cf158_6 n   k) (r6 := f158_6 n   k)  ih hR hG
def c158 (n : Nat)  (y0 : Nat) (y1 : Option Nat) (y2 : Int32) (y3 : Int32) (h : zY) : Option (Int32 × zY) :=
  cf158_6 n  n y0 y1 y2 y3 y3 0 h
set_option maxRecDepth 20000 in
theorem k158 {n : Nat} {Mm : Nat → Option zO}   {y0 : Nat} {y1 : Option Nat} {y2 : Int32} {y3 : Int32} {kh : zH} {h : zY} {p : Int32 × zY} (hR : Rep Mm kh h) (hG : c158 n  y0 y1 y2 y3 h = some p) : ∃ kh1 : zH, f158 n  y0 y1 y2 y3 kh = some (p.1, kh1) ∧ Rep Mm kh1 p.2 := by
  unfold c158 at hG
  unfold f158
  exact kf158_6 (n := n) n hR hG
def cb170_15 (n : Nat)  (r15 : Nat → Option Nat → Int32 → Option Nat → Int32 → zY → Option (Unit × zY)) (l0 : Nat) (l1 : Option Nat) (l2 : Int32) (l3 : Option Nat) (l4 : Int32) (h : zY) : Option (Unit × zY) :=
  l3.bind fun a1 =>
  zgd (yisO h a1 0) <|
  (c112 n a1 h).bind fun p4 =>
  if p4.1 ≤ l4 then
    (yI p4.2 a1 0 8).bind fun x6 =>
    (yI p4.2 a1 0 9).bind fun x8 =>
    zgd (yisO p4.2 l0 1) <|
    (c162 n l0 l1 x6 x8 l2 p4.2).bind fun p12 =>
    if p12.1 = (-1) then
      (yR p12.2 a1 0 6).bind fun x14 =>
      zgd (yisO p12.2 l0 1) <|
      (c163 n l0 0 (-1) (-1) x14 p12.2).bind fun p18 =>
      some ((), p18.2)
    else
      l1.bind fun a19 =>
      (yR p12.2 a19 4 6).bind fun x20 =>
      x20.bind fun a22 =>
      zgd (yisO p12.2 a22 14) <|
      (c74 n a22 p12.1 p12.2).bind fun p25 =>
      zgd (ykC p25.2 p25.1 6 0) <|
      p25.1.bind fun a27 =>
      (yR p25.2 a27 6 2).bind fun x29 =>
      zgd (yisO p25.2 l0 1) <|
      (c163 n l0 2 (-1) p12.1 x29 p25.2).bind fun p33 =>
      some ((), p33.2)
  else
    (yR p4.2 a1 0 4).bind fun x34 =>
    x34.bind fun a36 =>
    (yaI p4.2 a36 l4).bind fun x37 =>
    (yR p4.2 l0 1 4).bind fun x39 =>
    x39.bind fun a41 =>
    (yaI p4.2 a41 x37).bind fun x42 =>
    (yR p4.2 a1 0 5).bind fun x44 =>
    x44.bind fun a46 =>
    (yaI p4.2 a46 l4).bind fun x47 =>
    if x42 = x47 then
      r15 l0 l1 l2 (some a1) (l4 + 1) p4.2
    else
      (yI p4.2 a1 0 7).bind fun x50 =>
      zgd (yisO p4.2 l0 1) <|
      (c160 n l0 1 (-1) x50 p4.2).bind fun p54 =>
      (yR p54.2 l0 1 5).bind fun x55 =>
      x55.bind fun a57 =>
      (yS zsI p54.2 a57 4 (.int x37)).bind fun h58 =>
      some ((), h58)
set_option maxRecDepth 20000 in
theorem kb170_15 {n : Nat} {Mm : Nat → Option zO}  {q15 : Nat → Option Nat → Int32 → Option Nat → Int32 → zY → Option (Unit × zY)} {r15 : Nat → Option Nat → Int32 → Option Nat → Int32 → zH → Option (Unit × zH)}  (hr15 : ∀ {l0 : Nat} {l1 : Option Nat} {l2 : Int32} {l3 : Option Nat} {l4 : Int32}  {kh : zH} {h : zY} {p : Unit × zY}, Rep Mm kh h → q15 l0 l1 l2 l3 l4 h = some p → ∃ kh1 : zH, r15 l0 l1 l2 l3 l4 kh = some (p.1, kh1) ∧ Rep Mm kh1 p.2) {l0 : Nat} {l1 : Option Nat} {l2 : Int32} {l3 : Option Nat} {l4 : Int32}  {kh : zH} {h : zY} {p : Unit × zY} (hR : Rep Mm kh h) (hG : cb170_15 n  q15 l0 l1 l2 l3 l4 h = some p) : ∃ kh1 : zH, b170_15 n  r15 l0 l1 l2 l3 l4 kh = some (p.1, kh1) ∧ Rep Mm kh1 p.2 := by
  unfold cb170_15 at hG
  unfold b170_15
  replace hG := zbnd hG
  obtain ⟨a1, rfl, hG⟩ := hG
  refine bE rfl ?_
  replace hG := zgd_some hG
  obtain ⟨g2, hG⟩ := hG
  refine zE (k_isO hR g2) ?_
  replace hG := zbnd hG
  obtain ⟨p4, e3, hG⟩ := hG
  have hT := k112 hR e3
  clear hR
  obtain ⟨kh4, e5, hR⟩ := hT
  refine bE e5 ?_
  by_cases c6 : p4.1 ≤ l4
  · rw [if_pos c6] at hG
    refine iE1 c6 ?_
    replace hG := zbnd hG
    obtain ⟨x6, e7, hG⟩ := hG
    refine bE (k_gI hR e7) ?_
    replace hG := zbnd hG
    obtain ⟨x8, e8, hG⟩ := hG
    refine bE (k_gI hR e8) ?_
    replace hG := zgd_some hG
    obtain ⟨g9, hG⟩ := hG
    refine zE (k_isO hR g9) ?_
    replace hG := zbnd hG
    obtain ⟨p12, e10, hG⟩ := hG
    have hT := k162 hR e10
    clear hR
    obtain ⟨kh11, e12, hR⟩ := hT
    refine bE e12 ?_
    by_cases c13 : p12.1 = (-1)
    · rw [if_pos c13] at hG
      refine iE1 c13 ?_
      replace hG := zbnd hG
      obtain ⟨x14, e14, hG⟩ := hG
      refine bE (k_gR hR e14) ?_
      replace hG := zgd_some hG
      obtain ⟨g15, hG⟩ := hG
      refine zE (k_isO hR g15) ?_
      replace hG := zbnd hG
      obtain ⟨p18, e16, hG⟩ := hG
      have hT := k163 hR e16
      clear hR
      obtain ⟨kh17, e18, hR⟩ := hT
      refine bE e18 ?_
      replace hG := Option.some.inj hG
      subst hG
      exact ⟨_, rfl, hR⟩
    · rw [if_neg c13] at hG
      refine iE2 c13 ?_
      replace hG := zbnd hG
      obtain ⟨a19, rfl, hG⟩ := hG
      refine bE rfl ?_
      replace hG := zbnd hG
      obtain ⟨x20, e20, hG⟩ := hG
      refine bE (k_gR hR e20) ?_
      replace hG := zbnd hG
      obtain ⟨a22, rfl, hG⟩ := hG
      refine bE rfl ?_
      replace hG := zgd_some hG
      obtain ⟨g22, hG⟩ := hG
      refine zE (k_isO hR g22) ?_
      replace hG := zbnd hG
      obtain ⟨p25, e23, hG⟩ := hG
      have hT := k74 hR e23
      clear hR
      obtain ⟨kh24, e25, hR⟩ := hT
      refine bE e25 ?_
      replace hG := zgd_some hG
      obtain ⟨g26, hG⟩ := hG
      refine zE (k_kC hR g26) ?_
      replace hG := zbnd hG
      obtain ⟨a27, e27, hG⟩ := hG
      refine bE e27 ?_
      replace hG := zbnd hG
      obtain ⟨x29, e28, hG⟩ := hG
      refine bE (k_gR hR e28) ?_
      replace hG := zgd_some hG
      obtain ⟨g29, hG⟩ := hG
      refine zE (k_isO hR g29) ?_
      replace hG := zbnd hG
      obtain ⟨p33, e30, hG⟩ := hG
      have hT := k163 hR e30
      clear hR
      obtain ⟨kh31, e32, hR⟩ := hT
      refine bE e32 ?_
      replace hG := Option.some.inj hG
      subst hG
      exact ⟨_, rfl, hR⟩
  · rw [if_neg c6] at hG
    refine iE2 c6 ?_
    replace hG := zbnd hG
    obtain ⟨x34, e33, hG⟩ := hG
    refine bE (k_gR hR e33) ?_
    replace hG := zbnd hG
    obtain ⟨a36, rfl, hG⟩ := hG
    refine bE rfl ?_
    replace hG := zbnd hG
    obtain ⟨x37, e35, hG⟩ := hG
    refine bE (k_aI hR e35) ?_
    replace hG := zbnd hG
    obtain ⟨x39, e36, hG⟩ := hG
    refine bE (k_gR hR e36) ?_
    replace hG := zbnd hG
    obtain ⟨a41, rfl, hG⟩ := hG
    refine bE rfl ?_
    replace hG := zbnd hG
    obtain ⟨x42, e38, hG⟩ := hG
    refine bE (k_aI hR e38) ?_
    replace hG := zbnd hG
    obtain ⟨x44, e39, hG⟩ := hG
    refine bE (k_gR hR e39) ?_
    replace hG := zbnd hG
    obtain ⟨a46, rfl, hG⟩ := hG
    refine bE rfl ?_
    replace hG := zbnd hG
    obtain ⟨x47, e41, hG⟩ := hG
    refine bE (k_aI hR e41) ?_
    by_cases c42 : x42 = x47
    · rw [if_pos c42] at hG
      refine iE1 c42 ?_
      exact hr15 hR hG
    · rw [if_neg c42] at hG
      refine iE2 c42 ?_
      replace hG := zbnd hG
      obtain ⟨x50, e43, hG⟩ := hG
      refine bE (k_gI hR e43) ?_
      replace hG := zgd_some hG
      obtain ⟨g44, hG⟩ := hG
      refine zE (k_isO hR g44) ?_
      replace hG := zbnd hG
      obtain ⟨p54, e45, hG⟩ := hG
      have hT := k160 hR e45
      clear hR
      obtain ⟨kh46, e47, hR⟩ := hT
      refine bE e47 ?_
      replace hG := zbnd hG
      obtain ⟨x55, e48, hG⟩ := hG
      refine bE (k_gR hR e48) ?_
      replace hG := zbnd hG
      obtain ⟨a57, rfl, hG⟩ := hG
      refine bE rfl ?_
      replace hG := zbnd hG
      obtain ⟨h58, e50, hG⟩ := hG
      have hT := k_sI hR e50
      clear hR
      obtain ⟨kh51, e52, hR⟩ := hT
      refine bE e52 ?_
      replace hG := Option.some.inj hG
      subst hG
      exact ⟨_, rfl, hR⟩
def cf170_15 (n : Nat)   (k : Nat) : Nat → Option Nat → Int32 → Option Nat → Int32 → zY → Option (Unit × zY) := Nat.rec (fun _ _ _ _ _ _ => none) (fun _ ih => cb170_15 n  ih) k
theorem kf170_15 {n : Nat} {Mm : Nat → Option zO}     (k : Nat) : ∀ {l0 : Nat} {l1 : Option Nat} {l2 : Int32} {l3 : Option Nat} {l4 : Int32}  {kh : zH} {h : zY} {p : Unit × zY}, Rep Mm kh h → cf170_15 n   k l0 l1 l2 l3 l4 h = some p → ∃ kh1 : zH, f170_15 n   k l0 l1 l2 l3 l4 kh = some (p.1, kh1) ∧ Rep Mm kh1 p.2 := by
  induction k with
  | zero => intros; rename_i hG; cases hG
  | succ k ih => intros; rename_i hR hG; exact kb170_15 (n := n) (q15 := cf170_15 n   k) (r15 := f170_15 n   k)  ih hR hG
def c170 (n : Nat)  (y0 : Nat) (y1 : Option Nat) (y2 : Int32) (h : zY) : Option (Unit × zY) :=
  y1.bind fun a1 =>
  (yR h a1 4 4).bind fun x2 =>
  x2.bind fun a4 =>
  zgd (yisO h a4 14) <|
  (c74 n a4 y2 h).bind fun p7 =>
  zgd (ykC p7.2 p7.1 0 0) <|
  cf170_15 n  n y0 (some a1) y2 p7.1 0 p7.2
set_option maxRecDepth 20000 in
theorem k170 {n : Nat} {Mm : Nat → Option zO}   {y0 : Nat} {y1 : Option Nat} {y2 : Int32} {kh : zH} {h : zY} {p : Unit × zY} (hR : Rep Mm kh h) (hG : c170 n  y0 y1 y2 h = some p) : ∃ kh1 : zH, f170 n  y0 y1 y2 kh = some (p.1, kh1) ∧ Rep Mm kh1 p.2 := by
  unfold c170 at hG
  unfold f170
  replace hG := zbnd hG
  obtain ⟨a1, rfl, hG⟩ := hG
  refine bE rfl ?_
  replace hG := zbnd hG
  obtain ⟨x2, e2, hG⟩ := hG
  refine bE (k_gR hR e2) ?_
  replace hG := zbnd hG
  obtain ⟨a4, rfl, hG⟩ := hG
  refine bE rfl ?_
  replace hG := zgd_some hG
  obtain ⟨g4, hG⟩ := hG
  refine zE (k_isO hR g4) ?_
  replace hG := zbnd hG
  obtain ⟨p7, e5, hG⟩ := hG
  have hT := k74 hR e5
  clear hR
  obtain ⟨kh6, e7, hR⟩ := hT
  refine bE e7 ?_
  replace hG := zgd_some hG
  obtain ⟨g8, hG⟩ := hG
  refine zE (k_kC hR g8) ?_
  exact kf170_15 (n := n) n hR hG
def cb148_77 (n : Nat)  (r20 : Nat → Option Nat → Int32 → Int32 → Int32 → Int32 → zY → Option (Int32 × zY)) (l0 : Nat) (l1 : Option Nat) (l2 : Int32) (l3 : Int32) (l4 : Int32) (l5 : Int32) (l6 : Int32) (h : zY) : Option (Int32 × zY) :=
  r20 l0 l1 l2 l3 l4 (l5 + 1) h
set_option maxRecDepth 20000 in
theorem kb148_77 {n : Nat} {Mm : Nat → Option zO}  {q20 : Nat → Option Nat → Int32 → Int32 → Int32 → Int32 → zY → Option (Int32 × zY)} {r20 : Nat → Option Nat → Int32 → Int32 → Int32 → Int32 → zH → Option (Int32 × zH)}  (hr20 : ∀ {l0 : Nat} {l1 : Option Nat} {l2 : Int32} {l3 : Int32} {l4 : Int32} {l5 : Int32}  {kh : zH} {h : zY} {p : Int32 × zY}, Rep Mm kh h → q20 l0 l1 l2 l3 l4 l5 h = some p → ∃ kh1 : zH, r20 l0 l1 l2 l3 l4 l5 kh = some (p.1, kh1) ∧ Rep Mm kh1 p.2) {l0 : Nat} {l1 : Option Nat} {l2 : Int32} {l3 : Int32} {l4 : Int32} {l5 : Int32} {l6 : Int32}  {kh : zH} {h : zY} {p : Int32 × zY} (hR : Rep Mm kh h) (hG : cb148_77 n  q20 l0 l1 l2 l3 l4 l5 l6 h = some p) : ∃ kh1 : zH, b148_77 n  r20 l0 l1 l2 l3 l4 l5 l6 kh = some (p.1, kh1) ∧ Rep Mm kh1 p.2 := by
  unfold cb148_77 at hG
  unfold b148_77
  exact hr20 hR hG
def cb148_66 (n : Nat)  (r20 : Nat → Option Nat → Int32 → Int32 → Int32 → Int32 → zY → Option (Int32 × zY)) (l0 : Nat) (l1 : Option Nat) (l2 : Int32) (l3 : Int32) (l4 : Int32) (l5 : Int32) (l6 : Int32) (h : zY) : Option (Int32 × zY) :=
  (yR h l0 1 4).bind fun x1 =>
  (yI h l0 1 6).bind fun x3 =>
  x1.bind fun a5 =>
  (yS zsI h a5 l6 (.int x3)).bind fun h6 =>
  cb148_77 n r20 l0 l1 l2 l3 l4 l5 l6 h6
set_option maxRecDepth 20000 in
theorem kb148_66 {n : Nat} {Mm : Nat → Option zO}  {q20 : Nat → Option Nat → Int32 → Int32 → Int32 → Int32 → zY → Option (Int32 × zY)} {r20 : Nat → Option Nat → Int32 → Int32 → Int32 → Int32 → zH → Option (Int32 × zH)}  (hr20 : ∀ {l0 : Nat} {l1 : Option Nat} {l2 : Int32} {l3 : Int32} {l4 : Int32} {l5 : Int32}  {kh : zH} {h : zY} {p : Int32 × zY}, Rep Mm kh h → q20 l0 l1 l2 l3 l4 l5 h = some p → ∃ kh1 : zH, r20 l0 l1 l2 l3 l4 l5 kh = some (p.1, kh1) ∧ Rep Mm kh1 p.2) {l0 : Nat} {l1 : Option Nat} {l2 : Int32} {l3 : Int32} {l4 : Int32} {l5 : Int32} {l6 : Int32}  {kh : zH} {h : zY} {p : Int32 × zY} (hR : Rep Mm kh h) (hG : cb148_66 n  q20 l0 l1 l2 l3 l4 l5 l6 h = some p) : ∃ kh1 : zH, b148_66 n  r20 l0 l1 l2 l3 l4 l5 l6 kh = some (p.1, kh1) ∧ Rep Mm kh1 p.2 := by
  unfold cb148_66 at hG
  unfold b148_66
  replace hG := zbnd hG
  obtain ⟨x1, e1, hG⟩ := hG
  refine bE (k_gR hR e1) ?_
  replace hG := zbnd hG
  obtain ⟨x3, e2, hG⟩ := hG
  refine bE (k_gI hR e2) ?_
  replace hG := zbnd hG
  obtain ⟨a5, rfl, hG⟩ := hG
  refine bE rfl ?_
  replace hG := zbnd hG
  obtain ⟨h6, e4, hG⟩ := hG
  have hT := k_sI hR e4
  clear hR
  obtain ⟨kh5, e6, hR⟩ := hT
  refine bE e6 ?_
  exact kb148_77 (n := n) (q20 := q20) (r20 := r20) hr20 hR hG
def cb148_20 (n : Nat)  (r20 : Nat → Option Nat → Int32 → Int32 → Int32 → Int32 → zY → Option (Int32 × zY)) (l0 : Nat) (l1 : Option Nat) (l2 : Int32) (l3 : Int32) (l4 : Int32) (l5 : Int32) (h : zY) : Option (Int32 × zY) :=
  l1.bind fun a1 =>
  zgd (yisO h a1 4) <|
  (c115 n a1 h).bind fun p4 =>
  if p4.1 ≤ l5 then
    (yR p4.2 l0 1 4).bind fun x6 =>
    x6.bind fun a8 =>
    (yaI p4.2 a8 l2).bind fun x9 =>
    some (x9, p4.2)
  else
    (yR p4.2 a1 4 11).bind fun x11 =>
    x11.bind fun a13 =>
    (yaI p4.2 a13 l5).bind fun x14 =>
    if ((l4 >>> (x14 &&& 31)) &&& 1) = 0 then
      cb148_77 n r20 l0 (some a1) l2 l3 l4 l5 x14 p4.2
    else
      zgd (yisO p4.2 l0 1) <|
      (c158 n l0 (some a1) x14 l3 p4.2).bind fun p19 =>
      if p19.1 = 0 then
        zgd (yisO p19.2 l0 1) <|
        (c170 n l0 (some a1) x14 p19.2).bind fun p23 =>
        cb148_66 n r20 l0 (some a1) l2 l3 l4 l5 x14 p23.2
      else
        cb148_66 n r20 l0 (some a1) l2 l3 l4 l5 x14 p19.2
set_option maxRecDepth 20000 in
theorem kb148_20 {n : Nat} {Mm : Nat → Option zO}  {q20 : Nat → Option Nat → Int32 → Int32 → Int32 → Int32 → zY → Option (Int32 × zY)} {r20 : Nat → Option Nat → Int32 → Int32 → Int32 → Int32 → zH → Option (Int32 × zH)}  (hr20 : ∀ {l0 : Nat} {l1 : Option Nat} {l2 : Int32} {l3 : Int32} {l4 : Int32} {l5 : Int32}  {kh : zH} {h : zY} {p : Int32 × zY}, Rep Mm kh h → q20 l0 l1 l2 l3 l4 l5 h = some p → ∃ kh1 : zH, r20 l0 l1 l2 l3 l4 l5 kh = some (p.1, kh1) ∧ Rep Mm kh1 p.2) {l0 : Nat} {l1 : Option Nat} {l2 : Int32} {l3 : Int32} {l4 : Int32} {l5 : Int32}  {kh : zH} {h : zY} {p : Int32 × zY} (hR : Rep Mm kh h) (hG : cb148_20 n  q20 l0 l1 l2 l3 l4 l5 h = some p) : ∃ kh1 : zH, b148_20 n  r20 l0 l1 l2 l3 l4 l5 kh = some (p.1, kh1) ∧ Rep Mm kh1 p.2 := by
  unfold cb148_20 at hG
  unfold b148_20
  replace hG := zbnd hG
  obtain ⟨a1, rfl, hG⟩ := hG
  refine bE rfl ?_
  replace hG := zgd_some hG
  obtain ⟨g2, hG⟩ := hG
  refine zE (k_isO hR g2) ?_
  replace hG := zbnd hG
  obtain ⟨p4, e3, hG⟩ := hG
  have hT := k115 hR e3
  clear hR
  obtain ⟨kh4, e5, hR⟩ := hT
  refine bE e5 ?_
  by_cases c6 : p4.1 ≤ l5
  · rw [if_pos c6] at hG
    refine iE1 c6 ?_
    replace hG := zbnd hG
    obtain ⟨x6, e7, hG⟩ := hG
    refine bE (k_gR hR e7) ?_
    replace hG := zbnd hG
    obtain ⟨a8, rfl, hG⟩ := hG
    refine bE rfl ?_
    replace hG := zbnd hG
    obtain ⟨x9, e9, hG⟩ := hG
    refine bE (k_aI hR e9) ?_
    replace hG := Option.some.inj hG
    subst hG
    exact ⟨_, rfl, hR⟩
  · rw [if_neg c6] at hG
    refine iE2 c6 ?_
    replace hG := zbnd hG
    obtain ⟨x11, e10, hG⟩ := hG
    refine bE (k_gR hR e10) ?_
    replace hG := zbnd hG
    obtain ⟨a13, rfl, hG⟩ := hG
    refine bE rfl ?_
    replace hG := zbnd hG
    obtain ⟨x14, e12, hG⟩ := hG
    refine bE (k_aI hR e12) ?_
    by_cases c13 : ((l4 >>> (x14 &&& 31)) &&& 1) = 0
    · rw [if_pos c13] at hG
      refine iE1 c13 ?_
      exact kb148_77 (n := n) (q20 := q20) (r20 := r20) hr20 hR hG
    · rw [if_neg c13] at hG
      refine iE2 c13 ?_
      replace hG := zgd_some hG
      obtain ⟨g14, hG⟩ := hG
      refine zE (k_isO hR g14) ?_
      replace hG := zbnd hG
      obtain ⟨p19, e15, hG⟩ := hG
      have hT := k158 hR e15
      clear hR
      obtain ⟨kh16, e17, hR⟩ := hT
      refine bE e17 ?_
      by_cases c18 : p19.1 = 0
      · rw [if_pos c18] at hG
        refine iE1 c18 ?_
        replace hG := zgd_some hG
        obtain ⟨g19, hG⟩ := hG
        refine zE (k_isO hR g19) ?_
        replace hG := zbnd hG
        obtain ⟨p23, e20, hG⟩ := hG
        have hT := k170 hR e20
        clear hR
        obtain ⟨kh21, e22, hR⟩ := hT
        refine bE e22 ?_
        exact kb148_66 (n := n) (q20 := q20) (r20 := r20) hr20 hR hG
      · rw [if_neg c18] at hG
        refine iE2 c18 ?_
        exact kb148_66 (n := n) (q20 := q20) (r20 := r20) hr20 hR hG
def cf148_20 (n : Nat)   (k : Nat) : Nat → Option Nat → Int32 → Int32 → Int32 → Int32 → zY → Option (Int32 × zY) := Nat.rec (fun _ _ _ _ _ _ _ => none) (fun _ ih => cb148_20 n  ih) k
theorem kf148_20 {n : Nat} {Mm : Nat → Option zO}     (k : Nat) : ∀ {l0 : Nat} {l1 : Option Nat} {l2 : Int32} {l3 : Int32} {l4 : Int32} {l5 : Int32}  {kh : zH} {h : zY} {p : Int32 × zY}, Rep Mm kh h → cf148_20 n   k l0 l1 l2 l3 l4 l5 h = some p → ∃ kh1 : zH, f148_20 n   k l0 l1 l2 l3 l4 l5 kh = some (p.1, kh1) ∧ Rep Mm kh1 p.2 := by
  induction k with
  | zero => intros; rename_i hG; cases hG
  | succ k ih => intros; rename_i hR hG; exact kb148_20 (n := n) (q20 := cf148_20 n   k) (r20 := f148_20 n   k)  ih hR hG
def c148 (n : Nat)  (y0 : Nat) (y1 : Option Nat) (y2 : Int32) (y3 : Int32) (h : zY) : Option (Int32 × zY) :=
  zgd (yisO h y0 1) <|
  (c149 n y0 y1 h).bind fun p3 =>
  y1.bind fun a4 =>
  (yR p3.2 a4 4 10).bind fun x5 =>
  x5.bind fun a7 =>
  (yaI p3.2 a7 y2).bind fun x8 =>
  cf148_20 n  n y0 (some a4) y2 y3 (x8 ||| (1 <<< (y2 &&& 31))) 0 p3.2
set_option maxRecDepth 20000 in
theorem k148 {n : Nat} {Mm : Nat → Option zO}   {y0 : Nat} {y1 : Option Nat} {y2 : Int32} {y3 : Int32} {kh : zH} {h : zY} {p : Int32 × zY} (hR : Rep Mm kh h) (hG : c148 n  y0 y1 y2 y3 h = some p) : ∃ kh1 : zH, f148 n  y0 y1 y2 y3 kh = some (p.1, kh1) ∧ Rep Mm kh1 p.2 := by
  unfold c148 at hG
  unfold f148
  replace hG := zgd_some hG
  obtain ⟨g1, hG⟩ := hG
  refine zE (k_isO hR g1) ?_
  replace hG := zbnd hG
  obtain ⟨p3, e2, hG⟩ := hG
  have hT := k149 hR e2
  clear hR
  obtain ⟨kh3, e4, hR⟩ := hT
  refine bE e4 ?_
  replace hG := zbnd hG
  obtain ⟨a4, rfl, hG⟩ := hG
  refine bE rfl ?_
  replace hG := zbnd hG
  obtain ⟨x5, e6, hG⟩ := hG
  refine bE (k_gR hR e6) ?_
  replace hG := zbnd hG
  obtain ⟨a7, rfl, hG⟩ := hG
  refine bE rfl ?_
  replace hG := zbnd hG
  obtain ⟨x8, e8, hG⟩ := hG
  refine bE (k_aI hR e8) ?_
  exact kf148_20 (n := n) n hR hG
def cb147_49 (n : Nat)   (l0 : Nat) (l1 : Int32) (l2 : Int32) (l3 : Int32) (h : zY) : Option ((Int32 ⊕ Nat) × zY) :=
  some (.inr 20, thY h)
set_option maxRecDepth 20000 in
theorem kb147_49 {n : Nat} {Mm : Nat → Option zO}     {l0 : Nat} {l1 : Int32} {l2 : Int32} {l3 : Int32}  {kh : zH} {h : zY} {p : (Int32 ⊕ Nat) × zY} (hR : Rep Mm kh h) (hG : cb147_49 n   l0 l1 l2 l3 h = some p) : ∃ kh1 : zH, b147_49 n   l0 l1 l2 l3 kh = some (p.1, kh1) ∧ Rep Mm kh1 p.2 := by
  unfold cb147_49 at hG
  unfold b147_49
  replace hG := Option.some.inj hG
  subst hG
  exact ⟨_, rfl, k_th hR⟩
def cb147_27 (n : Nat)   (l0 : Nat) (l1 : Int32) (l2 : Int32) (s0 : Int32) (h : zY) : Option ((Int32 ⊕ Nat) × zY) :=
  if s0 = 0 then
    cb147_49 n  l0 l1 l2 s0 h
  else
    (yR h l0 10 2).bind fun x2 =>
    x2.bind fun a4 =>
    (yR h a4 4 4).bind fun x5 =>
    x5.bind fun a7 =>
    zgd (yisO h a7 14) <|
    (c68 n a7 h).bind fun p10 =>
    (c13 n l1 p10.1 p10.2).bind fun p12 =>
    if p12.1 = 0 then
      cb147_49 n  l0 l1 l2 s0 p12.2
    else
      (yR p12.2 l0 10 1).bind fun x14 =>
      (yR p12.2 l0 10 2).bind fun x16 =>
      x14.bind fun a18 =>
      zgd (yisO p12.2 a18 1) <|
      (c148 n a18 x16 l1 l2 p12.2).bind fun p21 =>
      some (.inl p21.1, p21.2)
set_option maxRecDepth 20000 in
theorem kb147_27 {n : Nat} {Mm : Nat → Option zO}     {l0 : Nat} {l1 : Int32} {l2 : Int32} {s0 : Int32} {kh : zH} {h : zY} {p : (Int32 ⊕ Nat) × zY} (hR : Rep Mm kh h) (hG : cb147_27 n   l0 l1 l2 s0 h = some p) : ∃ kh1 : zH, b147_27 n   l0 l1 l2 s0 kh = some (p.1, kh1) ∧ Rep Mm kh1 p.2 := by
  unfold cb147_27 at hG
  unfold b147_27
  by_cases c1 : s0 = 0
  · rw [if_pos c1] at hG
    refine iE1 c1 ?_
    exact kb147_49 (n := n) hR hG
  · rw [if_neg c1] at hG
    refine iE2 c1 ?_
    replace hG := zbnd hG
    obtain ⟨x2, e2, hG⟩ := hG
    refine bE (k_gR hR e2) ?_
    replace hG := zbnd hG
    obtain ⟨a4, rfl, hG⟩ := hG
    refine bE rfl ?_
    replace hG := zbnd hG
    obtain ⟨x5, e4, hG⟩ := hG
    refine bE (k_gR hR e4) ?_
    replace hG := zbnd hG
    obtain ⟨a7, rfl, hG⟩ := hG
    refine bE rfl ?_
    replace hG := zgd_some hG
    obtain ⟨g6, hG⟩ := hG
    refine zE (k_isO hR g6) ?_
    replace hG := zbnd hG
    obtain ⟨p10, e7, hG⟩ := hG
    have hT := k68 hR e7
    clear hR
    obtain ⟨kh8, e9, hR⟩ := hT
    refine bE e9 ?_
    replace hG := zbnd hG
    obtain ⟨p12, e10, hG⟩ := hG
    have hT := k13 hR e10
    clear hR
    obtain ⟨kh11, e12, hR⟩ := hT
    refine bE e12 ?_
    by_cases c13 : p12.1 = 0
    · rw [if_pos c13] at hG
      refine iE1 c13 ?_
      exact kb147_49 (n := n) hR hG
    · rw [if_neg c13] at hG
      refine iE2 c13 ?_
      replace hG := zbnd hG
      obtain ⟨x14, e14, hG⟩ := hG
      refine bE (k_gR hR e14) ?_
      replace hG := zbnd hG
      obtain ⟨x16, e15, hG⟩ := hG
      refine bE (k_gR hR e15) ?_
      replace hG := zbnd hG
      obtain ⟨a18, rfl, hG⟩ := hG
      refine bE rfl ?_
      replace hG := zgd_some hG
      obtain ⟨g17, hG⟩ := hG
      refine zE (k_isO hR g17) ?_
      replace hG := zbnd hG
      obtain ⟨p21, e18, hG⟩ := hG
      have hT := k148 hR e18
      clear hR
      obtain ⟨kh19, e20, hR⟩ := hT
      refine bE e20 ?_
      replace hG := Option.some.inj hG
      subst hG
      exact ⟨_, rfl, hR⟩
def cb147_22 (n : Nat)   (l0 : Nat) (l1 : Int32) (l2 : Int32) (h : zY) : Option ((Int32 ⊕ Nat) × zY) :=
  cb147_27 n  l0 l1 l2 1 h
set_option maxRecDepth 20000 in
theorem kb147_22 {n : Nat} {Mm : Nat → Option zO}     {l0 : Nat} {l1 : Int32} {l2 : Int32}  {kh : zH} {h : zY} {p : (Int32 ⊕ Nat) × zY} (hR : Rep Mm kh h) (hG : cb147_22 n   l0 l1 l2 h = some p) : ∃ kh1 : zH, b147_22 n   l0 l1 l2 kh = some (p.1, kh1) ∧ Rep Mm kh1 p.2 := by
  unfold cb147_22 at hG
  unfold b147_22
  exact kb147_27 (n := n) hR hG
def c147 (n : Nat)  (y0 : Nat) (y1 : Int32) (y2 : Int32) (h : zY) : Option ((Int32 ⊕ Nat) × zY) :=
  if y2 = (-1) then
    cb147_22 n  y0 y1 y2 h
  else
    (yR h y0 10 2).bind fun x2 =>
    x2.bind fun a4 =>
    (yR h a4 4 5).bind fun x5 =>
    x5.bind fun a7 =>
    zgd (yisO h a7 14) <|
    (c68 n a7 h).bind fun p10 =>
    (c13 n y2 p10.1 p10.2).bind fun p12 =>
    if p12.1 = 0 then
      cb147_27 n  y0 y1 y2 0 p12.2
    else
      cb147_22 n  y0 y1 y2 p12.2
set_option maxRecDepth 20000 in
theorem k147 {n : Nat} {Mm : Nat → Option zO}   {y0 : Nat} {y1 : Int32} {y2 : Int32} {kh : zH} {h : zY} {p : (Int32 ⊕ Nat) × zY} (hR : Rep Mm kh h) (hG : c147 n  y0 y1 y2 h = some p) : ∃ kh1 : zH, f147 n  y0 y1 y2 kh = some (p.1, kh1) ∧ Rep Mm kh1 p.2 := by
  unfold c147 at hG
  unfold f147
  by_cases c1 : y2 = (-1)
  · rw [if_pos c1] at hG
    refine iE1 c1 ?_
    exact kb147_22 (n := n) hR hG
  · rw [if_neg c1] at hG
    refine iE2 c1 ?_
    replace hG := zbnd hG
    obtain ⟨x2, e2, hG⟩ := hG
    refine bE (k_gR hR e2) ?_
    replace hG := zbnd hG
    obtain ⟨a4, rfl, hG⟩ := hG
    refine bE rfl ?_
    replace hG := zbnd hG
    obtain ⟨x5, e4, hG⟩ := hG
    refine bE (k_gR hR e4) ?_
    replace hG := zbnd hG
    obtain ⟨a7, rfl, hG⟩ := hG
    refine bE rfl ?_
    replace hG := zgd_some hG
    obtain ⟨g6, hG⟩ := hG
    refine zE (k_isO hR g6) ?_
    replace hG := zbnd hG
    obtain ⟨p10, e7, hG⟩ := hG
    have hT := k68 hR e7
    clear hR
    obtain ⟨kh8, e9, hR⟩ := hT
    refine bE e9 ?_
    replace hG := zbnd hG
    obtain ⟨p12, e10, hG⟩ := hG
    have hT := k13 hR e10
    clear hR
    obtain ⟨kh11, e12, hR⟩ := hT
    refine bE e12 ?_
    by_cases c13 : p12.1 = 0
    · rw [if_pos c13] at hG
      refine iE1 c13 ?_
      exact kb147_27 (n := n) hR hG
    · rw [if_neg c13] at hG
      refine iE2 c13 ?_
      exact kb147_22 (n := n) hR hG
def c146 (n : Nat)  (y0 : Option Nat) (y1 : Int32) (y2 : Int32) (y3 : Option Nat) (h : zY) : Option (Int32 × zY) :=
  y0.bind fun a1 =>
  zgd (yisO h a1 10) <|
  (c147 n a1 y1 y2 h).bind fun p7 => zth p7 (fun r4 h5 =>
    y3.bind fun a9 =>
    (yS zsL h5 a9 0 (.long r4.toInt64)).bind fun h10 =>
    some (0, h10))
    (fun x6 h5 =>
    if x6 = 20 then
      some (1, h5)
    else
    none)
set_option maxRecDepth 20000 in
theorem k146 {n : Nat} {Mm : Nat → Option zO}   {y0 : Option Nat} {y1 : Int32} {y2 : Int32} {y3 : Option Nat} {kh : zH} {h : zY} {p : Int32 × zY} (hR : Rep Mm kh h) (hG : c146 n  y0 y1 y2 y3 h = some p) : ∃ kh1 : zH, f146 n  y0 y1 y2 y3 kh = some (p.1, kh1) ∧ Rep Mm kh1 p.2 := by
  unfold c146 at hG
  unfold f146
  replace hG := zbnd hG
  obtain ⟨a1, rfl, hG⟩ := hG
  refine bE rfl ?_
  replace hG := zgd_some hG
  obtain ⟨g2, hG⟩ := hG
  refine zE (k_isO hR g2) ?_
  replace hG := zbnd hG
  obtain ⟨⟨r4, h5⟩, e3, hG⟩ := hG
  have hT := k147 hR e3
  clear hR
  obtain ⟨kh4, e5, hR⟩ := hT
  refine bE e5 ?_
  rcases r4 with r4 | x6
  · replace hG := zthG hG
    refine zthEl ?_
    replace hG := zbnd hG
    obtain ⟨a9, rfl, hG⟩ := hG
    refine bE rfl ?_
    replace hG := zbnd hG
    obtain ⟨h10, e7, hG⟩ := hG
    have hT := k_sJ hR e7
    clear hR
    obtain ⟨kh8, e9, hR⟩ := hT
    refine bE e9 ?_
    replace hG := Option.some.inj hG
    subst hG
    exact ⟨_, rfl, hR⟩
  · replace hG := zthH hG
    refine zthEr ?_
    by_cases c10 : x6 = 20
    · rw [if_pos c10] at hG
      refine iE1 c10 ?_
      replace hG := Option.some.inj hG
      subst hG
      exact ⟨_, rfl, hR⟩
    · rw [if_neg c10] at hG
      refine iE2 c10 ?_
      cases hG
def c172 (n : Nat)  (y0 : Nat) (y1 : Int32) (h : zY) : Option ((Int32 ⊕ Nat) × zY) :=
  (yR h y0 10 1).bind fun x1 =>
  x1.bind fun a3 =>
  (yR h a3 1 5).bind fun x4 =>
  x4.bind fun a6 =>
  (yL h a6).bind fun x7 =>
  (c13 n y1 x7 h).bind fun p10 =>
  if p10.1 = 0 then
    some (.inr 20, thY p10.2)
  else
    (yR p10.2 y0 10 1).bind fun x12 =>
    x12.bind fun a14 =>
    (yR p10.2 a14 1 5).bind fun x15 =>
    x15.bind fun a17 =>
    (yaI p10.2 a17 y1).bind fun x18 =>
    some (.inl x18, p10.2)
set_option maxRecDepth 20000 in
theorem k172 {n : Nat} {Mm : Nat → Option zO}   {y0 : Nat} {y1 : Int32} {kh : zH} {h : zY} {p : (Int32 ⊕ Nat) × zY} (hR : Rep Mm kh h) (hG : c172 n  y0 y1 h = some p) : ∃ kh1 : zH, f172 n  y0 y1 kh = some (p.1, kh1) ∧ Rep Mm kh1 p.2 := by
  unfold c172 at hG
  unfold f172
  replace hG := zbnd hG
  obtain ⟨x1, e1, hG⟩ := hG
  refine bE (k_gR hR e1) ?_
  replace hG := zbnd hG
  obtain ⟨a3, rfl, hG⟩ := hG
  refine bE rfl ?_
  replace hG := zbnd hG
  obtain ⟨x4, e3, hG⟩ := hG
  refine bE (k_gR hR e3) ?_
  replace hG := zbnd hG
  obtain ⟨a6, rfl, hG⟩ := hG
  refine bE rfl ?_
  replace hG := zbnd hG
  obtain ⟨x7, e5, hG⟩ := hG
  refine bE (k_aN hR e5) ?_
  replace hG := zbnd hG
  obtain ⟨p10, e6, hG⟩ := hG
  have hT := k13 hR e6
  clear hR
  obtain ⟨kh7, e8, hR⟩ := hT
  refine bE e8 ?_
  by_cases c9 : p10.1 = 0
  · rw [if_pos c9] at hG
    refine iE1 c9 ?_
    replace hG := Option.some.inj hG
    subst hG
    exact ⟨_, rfl, k_th hR⟩
  · rw [if_neg c9] at hG
    refine iE2 c9 ?_
    replace hG := zbnd hG
    obtain ⟨x12, e10, hG⟩ := hG
    refine bE (k_gR hR e10) ?_
    replace hG := zbnd hG
    obtain ⟨a14, rfl, hG⟩ := hG
    refine bE rfl ?_
    replace hG := zbnd hG
    obtain ⟨x15, e12, hG⟩ := hG
    refine bE (k_gR hR e12) ?_
    replace hG := zbnd hG
    obtain ⟨a17, rfl, hG⟩ := hG
    refine bE rfl ?_
    replace hG := zbnd hG
    obtain ⟨x18, e14, hG⟩ := hG
    refine bE (k_aI hR e14) ?_
    replace hG := Option.some.inj hG
    subst hG
    exact ⟨_, rfl, hR⟩
def c171 (n : Nat)  (y0 : Option Nat) (y1 : Int32) (y2 : Option Nat) (h : zY) : Option (Int32 × zY) :=
  y0.bind fun a1 =>
  zgd (yisO h a1 10) <|
  (c172 n a1 y1 h).bind fun p7 => zth p7 (fun r4 h5 =>
    y2.bind fun a9 =>
    (yS zsL h5 a9 0 (.long r4.toInt64)).bind fun h10 =>
    some (0, h10))
    (fun x6 h5 =>
    if x6 = 20 then
      some (1, h5)
    else
    none)
set_option maxRecDepth 20000 in
theorem k171 {n : Nat} {Mm : Nat → Option zO}   {y0 : Option Nat} {y1 : Int32} {y2 : Option Nat} {kh : zH} {h : zY} {p : Int32 × zY} (hR : Rep Mm kh h) (hG : c171 n  y0 y1 y2 h = some p) : ∃ kh1 : zH, f171 n  y0 y1 y2 kh = some (p.1, kh1) ∧ Rep Mm kh1 p.2 := by
  unfold c171 at hG
  unfold f171
  replace hG := zbnd hG
  obtain ⟨a1, rfl, hG⟩ := hG
  refine bE rfl ?_
  replace hG := zgd_some hG
  obtain ⟨g2, hG⟩ := hG
  refine zE (k_isO hR g2) ?_
  replace hG := zbnd hG
  obtain ⟨⟨r4, h5⟩, e3, hG⟩ := hG
  have hT := k172 hR e3
  clear hR
  obtain ⟨kh4, e5, hR⟩ := hT
  refine bE e5 ?_
  rcases r4 with r4 | x6
  · replace hG := zthG hG
    refine zthEl ?_
    replace hG := zbnd hG
    obtain ⟨a9, rfl, hG⟩ := hG
    refine bE rfl ?_
    replace hG := zbnd hG
    obtain ⟨h10, e7, hG⟩ := hG
    have hT := k_sJ hR e7
    clear hR
    obtain ⟨kh8, e9, hR⟩ := hT
    refine bE e9 ?_
    replace hG := Option.some.inj hG
    subst hG
    exact ⟨_, rfl, hR⟩
  · replace hG := zthH hG
    refine zthEr ?_
    by_cases c10 : x6 = 20
    · rw [if_pos c10] at hG
      refine iE1 c10 ?_
      replace hG := Option.some.inj hG
      subst hG
      exact ⟨_, rfl, hR⟩
    · rw [if_neg c10] at hG
      refine iE2 c10 ?_
      cases hG
def c174 (n : Nat)  (y0 : Nat) (y1 : Int32) (h : zY) : Option ((Int32 ⊕ Nat) × zY) :=
  (yR h y0 10 2).bind fun x1 =>
  x1.bind fun a3 =>
  (yR h a3 4 3).bind fun x4 =>
  x4.bind fun a6 =>
  zgd (yisO h a6 14) <|
  (c68 n a6 h).bind fun p9 =>
  (c13 n y1 p9.1 p9.2).bind fun p11 =>
  if p11.1 = 0 then
    some (.inr 20, thY p11.2)
  else
    (yR p11.2 y0 10 1).bind fun x13 =>
    (yR p11.2 y0 10 2).bind fun x15 =>
    x13.bind fun a17 =>
    zgd (yisO p11.2 a17 1) <|
    (c149 n a17 x15 p11.2).bind fun p20 =>
    (yR p20.2 y0 10 1).bind fun x21 =>
    x21.bind fun a23 =>
    zgd (yisO p20.2 a23 1) <|
    (c151 n a23 y1 p20.2).bind fun p26 =>
    if p26.1 = 0 then
      some (.inl 0, p26.2)
    else
      some (.inl 1, p26.2)
set_option maxRecDepth 20000 in
theorem k174 {n : Nat} {Mm : Nat → Option zO}   {y0 : Nat} {y1 : Int32} {kh : zH} {h : zY} {p : (Int32 ⊕ Nat) × zY} (hR : Rep Mm kh h) (hG : c174 n  y0 y1 h = some p) : ∃ kh1 : zH, f174 n  y0 y1 kh = some (p.1, kh1) ∧ Rep Mm kh1 p.2 := by
  unfold c174 at hG
  unfold f174
  replace hG := zbnd hG
  obtain ⟨x1, e1, hG⟩ := hG
  refine bE (k_gR hR e1) ?_
  replace hG := zbnd hG
  obtain ⟨a3, rfl, hG⟩ := hG
  refine bE rfl ?_
  replace hG := zbnd hG
  obtain ⟨x4, e3, hG⟩ := hG
  refine bE (k_gR hR e3) ?_
  replace hG := zbnd hG
  obtain ⟨a6, rfl, hG⟩ := hG
  refine bE rfl ?_
  replace hG := zgd_some hG
  obtain ⟨g5, hG⟩ := hG
  refine zE (k_isO hR g5) ?_
  replace hG := zbnd hG
  obtain ⟨p9, e6, hG⟩ := hG
  have hT := k68 hR e6
  clear hR
  obtain ⟨kh7, e8, hR⟩ := hT
  refine bE e8 ?_
  replace hG := zbnd hG
  obtain ⟨p11, e9, hG⟩ := hG
  have hT := k13 hR e9
  clear hR
  obtain ⟨kh10, e11, hR⟩ := hT
  refine bE e11 ?_
  by_cases c12 : p11.1 = 0
  · rw [if_pos c12] at hG
    refine iE1 c12 ?_
    replace hG := Option.some.inj hG
    subst hG
    exact ⟨_, rfl, k_th hR⟩
  · rw [if_neg c12] at hG
    refine iE2 c12 ?_
    replace hG := zbnd hG
    obtain ⟨x13, e13, hG⟩ := hG
    refine bE (k_gR hR e13) ?_
    replace hG := zbnd hG
    obtain ⟨x15, e14, hG⟩ := hG
    refine bE (k_gR hR e14) ?_
    replace hG := zbnd hG
    obtain ⟨a17, rfl, hG⟩ := hG
    refine bE rfl ?_
    replace hG := zgd_some hG
    obtain ⟨g16, hG⟩ := hG
    refine zE (k_isO hR g16) ?_
    replace hG := zbnd hG
    obtain ⟨p20, e17, hG⟩ := hG
    have hT := k149 hR e17
    clear hR
    obtain ⟨kh18, e19, hR⟩ := hT
    refine bE e19 ?_
    replace hG := zbnd hG
    obtain ⟨x21, e20, hG⟩ := hG
    refine bE (k_gR hR e20) ?_
    replace hG := zbnd hG
    obtain ⟨a23, rfl, hG⟩ := hG
    refine bE rfl ?_
    replace hG := zgd_some hG
    obtain ⟨g22, hG⟩ := hG
    refine zE (k_isO hR g22) ?_
    replace hG := zbnd hG
    obtain ⟨p26, e23, hG⟩ := hG
    have hT := k151 hR e23
    clear hR
    obtain ⟨kh24, e25, hR⟩ := hT
    refine bE e25 ?_
    by_cases c26 : p26.1 = 0
    · rw [if_pos c26] at hG
      refine iE1 c26 ?_
      replace hG := Option.some.inj hG
      subst hG
      exact ⟨_, rfl, hR⟩
    · rw [if_neg c26] at hG
      refine iE2 c26 ?_
      replace hG := Option.some.inj hG
      subst hG
      exact ⟨_, rfl, hR⟩
def c173 (n : Nat)  (y0 : Option Nat) (y1 : Int32) (y2 : Option Nat) (h : zY) : Option (Int32 × zY) :=
  y0.bind fun a1 =>
  zgd (yisO h a1 10) <|
  (c174 n a1 y1 h).bind fun p7 => zth p7 (fun r4 h5 =>
    y2.bind fun a9 =>
    (yS zsL h5 a9 0 (.long r4.toInt64)).bind fun h10 =>
    some (0, h10))
    (fun x6 h5 =>
    if x6 = 20 then
      some (1, h5)
    else
    none)
set_option maxRecDepth 20000 in
theorem k173 {n : Nat} {Mm : Nat → Option zO}   {y0 : Option Nat} {y1 : Int32} {y2 : Option Nat} {kh : zH} {h : zY} {p : Int32 × zY} (hR : Rep Mm kh h) (hG : c173 n  y0 y1 y2 h = some p) : ∃ kh1 : zH, f173 n  y0 y1 y2 kh = some (p.1, kh1) ∧ Rep Mm kh1 p.2 := by
  unfold c173 at hG
  unfold f173
  replace hG := zbnd hG
  obtain ⟨a1, rfl, hG⟩ := hG
  refine bE rfl ?_
  replace hG := zgd_some hG
  obtain ⟨g2, hG⟩ := hG
  refine zE (k_isO hR g2) ?_
  replace hG := zbnd hG
  obtain ⟨⟨r4, h5⟩, e3, hG⟩ := hG
  have hT := k174 hR e3
  clear hR
  obtain ⟨kh4, e5, hR⟩ := hT
  refine bE e5 ?_
  rcases r4 with r4 | x6
  · replace hG := zthG hG
    refine zthEl ?_
    replace hG := zbnd hG
    obtain ⟨a9, rfl, hG⟩ := hG
    refine bE rfl ?_
    replace hG := zbnd hG
    obtain ⟨h10, e7, hG⟩ := hG
    have hT := k_sJ hR e7
    clear hR
    obtain ⟨kh8, e9, hR⟩ := hT
    refine bE e9 ?_
    replace hG := Option.some.inj hG
    subst hG
    exact ⟨_, rfl, hR⟩
  · replace hG := zthH hG
    refine zthEr ?_
    by_cases c10 : x6 = 20
    · rw [if_pos c10] at hG
      refine iE1 c10 ?_
      replace hG := Option.some.inj hG
      subst hG
      exact ⟨_, rfl, hR⟩
    · rw [if_neg c10] at hG
      refine iE2 c10 ?_
      cases hG
def c176 (n : Nat)  (y0 : Nat) (y1 : Int32) (h : zY) : Option ((Int32 ⊕ Nat) × zY) :=
  (yR h y0 10 2).bind fun x1 =>
  x1.bind fun a3 =>
  (yR h a3 4 4).bind fun x4 =>
  x4.bind fun a6 =>
  zgd (yisO h a6 14) <|
  (c68 n a6 h).bind fun p9 =>
  (c13 n y1 p9.1 p9.2).bind fun p11 =>
  if p11.1 = 0 then
    some (.inr 20, thY p11.2)
  else
    (yR p11.2 y0 10 2).bind fun x13 =>
    x13.bind fun a15 =>
    (yR p11.2 a15 4 10).bind fun x16 =>
    x16.bind fun a18 =>
    (yaI p11.2 a18 y1).bind fun x19 =>
    some (.inl x19, p11.2)
set_option maxRecDepth 20000 in
theorem k176 {n : Nat} {Mm : Nat → Option zO}   {y0 : Nat} {y1 : Int32} {kh : zH} {h : zY} {p : (Int32 ⊕ Nat) × zY} (hR : Rep Mm kh h) (hG : c176 n  y0 y1 h = some p) : ∃ kh1 : zH, f176 n  y0 y1 kh = some (p.1, kh1) ∧ Rep Mm kh1 p.2 := by
  unfold c176 at hG
  unfold f176
  replace hG := zbnd hG
  obtain ⟨x1, e1, hG⟩ := hG
  refine bE (k_gR hR e1) ?_
  replace hG := zbnd hG
  obtain ⟨a3, rfl, hG⟩ := hG
  refine bE rfl ?_
  replace hG := zbnd hG
  obtain ⟨x4, e3, hG⟩ := hG
  refine bE (k_gR hR e3) ?_
  replace hG := zbnd hG
  obtain ⟨a6, rfl, hG⟩ := hG
  refine bE rfl ?_
  replace hG := zgd_some hG
  obtain ⟨g5, hG⟩ := hG
  refine zE (k_isO hR g5) ?_
  replace hG := zbnd hG
  obtain ⟨p9, e6, hG⟩ := hG
  have hT := k68 hR e6
  clear hR
  obtain ⟨kh7, e8, hR⟩ := hT
  refine bE e8 ?_
  replace hG := zbnd hG
  obtain ⟨p11, e9, hG⟩ := hG
  have hT := k13 hR e9
  clear hR
  obtain ⟨kh10, e11, hR⟩ := hT
  refine bE e11 ?_
  by_cases c12 : p11.1 = 0
  · rw [if_pos c12] at hG
    refine iE1 c12 ?_
    replace hG := Option.some.inj hG
    subst hG
    exact ⟨_, rfl, k_th hR⟩
  · rw [if_neg c12] at hG
    refine iE2 c12 ?_
    replace hG := zbnd hG
    obtain ⟨x13, e13, hG⟩ := hG
    refine bE (k_gR hR e13) ?_
    replace hG := zbnd hG
    obtain ⟨a15, rfl, hG⟩ := hG
    refine bE rfl ?_
    replace hG := zbnd hG
    obtain ⟨x16, e15, hG⟩ := hG
    refine bE (k_gR hR e15) ?_
    replace hG := zbnd hG
    obtain ⟨a18, rfl, hG⟩ := hG
    refine bE rfl ?_
    replace hG := zbnd hG
    obtain ⟨x19, e17, hG⟩ := hG
    refine bE (k_aI hR e17) ?_
    replace hG := Option.some.inj hG
    subst hG
    exact ⟨_, rfl, hR⟩
def c175 (n : Nat)  (y0 : Option Nat) (y1 : Int32) (y2 : Option Nat) (h : zY) : Option (Int32 × zY) :=
  y0.bind fun a1 =>
  zgd (yisO h a1 10) <|
  (c176 n a1 y1 h).bind fun p7 => zth p7 (fun r4 h5 =>
    y2.bind fun a9 =>
    (yS zsL h5 a9 0 (.long r4.toInt64)).bind fun h10 =>
    some (0, h10))
    (fun x6 h5 =>
    if x6 = 20 then
      some (1, h5)
    else
    none)
set_option maxRecDepth 20000 in
theorem k175 {n : Nat} {Mm : Nat → Option zO}   {y0 : Option Nat} {y1 : Int32} {y2 : Option Nat} {kh : zH} {h : zY} {p : Int32 × zY} (hR : Rep Mm kh h) (hG : c175 n  y0 y1 y2 h = some p) : ∃ kh1 : zH, f175 n  y0 y1 y2 kh = some (p.1, kh1) ∧ Rep Mm kh1 p.2 := by
  unfold c175 at hG
  unfold f175
  replace hG := zbnd hG
  obtain ⟨a1, rfl, hG⟩ := hG
  refine bE rfl ?_
  replace hG := zgd_some hG
  obtain ⟨g2, hG⟩ := hG
  refine zE (k_isO hR g2) ?_
  replace hG := zbnd hG
  obtain ⟨⟨r4, h5⟩, e3, hG⟩ := hG
  have hT := k176 hR e3
  clear hR
  obtain ⟨kh4, e5, hR⟩ := hT
  refine bE e5 ?_
  rcases r4 with r4 | x6
  · replace hG := zthG hG
    refine zthEl ?_
    replace hG := zbnd hG
    obtain ⟨a9, rfl, hG⟩ := hG
    refine bE rfl ?_
    replace hG := zbnd hG
    obtain ⟨h10, e7, hG⟩ := hG
    have hT := k_sJ hR e7
    clear hR
    obtain ⟨kh8, e9, hR⟩ := hT
    refine bE e9 ?_
    replace hG := Option.some.inj hG
    subst hG
    exact ⟨_, rfl, hR⟩
  · replace hG := zthH hG
    refine zthEr ?_
    by_cases c10 : x6 = 20
    · rw [if_pos c10] at hG
      refine iE1 c10 ?_
      replace hG := Option.some.inj hG
      subst hG
      exact ⟨_, rfl, hR⟩
    · rw [if_neg c10] at hG
      refine iE2 c10 ?_
      cases hG
def c178 (n : Nat)  (y0 : Nat) (y1 : Int32) (h : zY) : Option ((Int32 ⊕ Nat) × zY) :=
  (yR h y0 10 2).bind fun x1 =>
  x1.bind fun a3 =>
  (yR h a3 4 4).bind fun x4 =>
  x4.bind fun a6 =>
  zgd (yisO h a6 14) <|
  (c68 n a6 h).bind fun p9 =>
  (c13 n y1 p9.1 p9.2).bind fun p11 =>
  if p11.1 = 0 then
    some (.inr 20, thY p11.2)
  else
    (yR p11.2 y0 10 2).bind fun x13 =>
    x13.bind fun a15 =>
    (yR p11.2 a15 4 11).bind fun x16 =>
    x16.bind fun a18 =>
    (yaI p11.2 a18 y1).bind fun x19 =>
    some (.inl x19, p11.2)
set_option maxRecDepth 20000 in
theorem k178 {n : Nat} {Mm : Nat → Option zO}   {y0 : Nat} {y1 : Int32} {kh : zH} {h : zY} {p : (Int32 ⊕ Nat) × zY} (hR : Rep Mm kh h) (hG : c178 n  y0 y1 h = some p) : ∃ kh1 : zH, f178 n  y0 y1 kh = some (p.1, kh1) ∧ Rep Mm kh1 p.2 := by
  unfold c178 at hG
  unfold f178
  replace hG := zbnd hG
  obtain ⟨x1, e1, hG⟩ := hG
  refine bE (k_gR hR e1) ?_
  replace hG := zbnd hG
  obtain ⟨a3, rfl, hG⟩ := hG
  refine bE rfl ?_
  replace hG := zbnd hG
  obtain ⟨x4, e3, hG⟩ := hG
  refine bE (k_gR hR e3) ?_
  replace hG := zbnd hG
  obtain ⟨a6, rfl, hG⟩ := hG
  refine bE rfl ?_
  replace hG := zgd_some hG
  obtain ⟨g5, hG⟩ := hG
  refine zE (k_isO hR g5) ?_
  replace hG := zbnd hG
  obtain ⟨p9, e6, hG⟩ := hG
  have hT := k68 hR e6
  clear hR
  obtain ⟨kh7, e8, hR⟩ := hT
  refine bE e8 ?_
  replace hG := zbnd hG
  obtain ⟨p11, e9, hG⟩ := hG
  have hT := k13 hR e9
  clear hR
  obtain ⟨kh10, e11, hR⟩ := hT
  refine bE e11 ?_
  by_cases c12 : p11.1 = 0
  · rw [if_pos c12] at hG
    refine iE1 c12 ?_
    replace hG := Option.some.inj hG
    subst hG
    exact ⟨_, rfl, k_th hR⟩
  · rw [if_neg c12] at hG
    refine iE2 c12 ?_
    replace hG := zbnd hG
    obtain ⟨x13, e13, hG⟩ := hG
    refine bE (k_gR hR e13) ?_
    replace hG := zbnd hG
    obtain ⟨a15, rfl, hG⟩ := hG
    refine bE rfl ?_
    replace hG := zbnd hG
    obtain ⟨x16, e15, hG⟩ := hG
    refine bE (k_gR hR e15) ?_
    replace hG := zbnd hG
    obtain ⟨a18, rfl, hG⟩ := hG
    refine bE rfl ?_
    replace hG := zbnd hG
    obtain ⟨x19, e17, hG⟩ := hG
    refine bE (k_aI hR e17) ?_
    replace hG := Option.some.inj hG
    subst hG
    exact ⟨_, rfl, hR⟩
def c177 (n : Nat)  (y0 : Option Nat) (y1 : Int32) (y2 : Option Nat) (h : zY) : Option (Int32 × zY) :=
  y0.bind fun a1 =>
  zgd (yisO h a1 10) <|
  (c178 n a1 y1 h).bind fun p7 => zth p7 (fun r4 h5 =>
    y2.bind fun a9 =>
    (yS zsL h5 a9 0 (.long r4.toInt64)).bind fun h10 =>
    some (0, h10))
    (fun x6 h5 =>
    if x6 = 20 then
      some (1, h5)
    else
    none)
set_option maxRecDepth 20000 in
theorem k177 {n : Nat} {Mm : Nat → Option zO}   {y0 : Option Nat} {y1 : Int32} {y2 : Option Nat} {kh : zH} {h : zY} {p : Int32 × zY} (hR : Rep Mm kh h) (hG : c177 n  y0 y1 y2 h = some p) : ∃ kh1 : zH, f177 n  y0 y1 y2 kh = some (p.1, kh1) ∧ Rep Mm kh1 p.2 := by
  unfold c177 at hG
  unfold f177
  replace hG := zbnd hG
  obtain ⟨a1, rfl, hG⟩ := hG
  refine bE rfl ?_
  replace hG := zgd_some hG
  obtain ⟨g2, hG⟩ := hG
  refine zE (k_isO hR g2) ?_
  replace hG := zbnd hG
  obtain ⟨⟨r4, h5⟩, e3, hG⟩ := hG
  have hT := k178 hR e3
  clear hR
  obtain ⟨kh4, e5, hR⟩ := hT
  refine bE e5 ?_
  rcases r4 with r4 | x6
  · replace hG := zthG hG
    refine zthEl ?_
    replace hG := zbnd hG
    obtain ⟨a9, rfl, hG⟩ := hG
    refine bE rfl ?_
    replace hG := zbnd hG
    obtain ⟨h10, e7, hG⟩ := hG
    have hT := k_sJ hR e7
    clear hR
    obtain ⟨kh8, e9, hR⟩ := hT
    refine bE e9 ?_
    replace hG := Option.some.inj hG
    subst hG
    exact ⟨_, rfl, hR⟩
  · replace hG := zthH hG
    refine zthEr ?_
    by_cases c10 : x6 = 20
    · rw [if_pos c10] at hG
      refine iE1 c10 ?_
      replace hG := Option.some.inj hG
      subst hG
      exact ⟨_, rfl, hR⟩
    · rw [if_neg c10] at hG
      refine iE2 c10 ?_
      cases hG
def cb181_49 (n : Nat)  (r4 : Nat → Int32 → Int32 → Int32 → zY → Option (Int32 × zY)) (l0 : Nat) (l1 : Int32) (l2 : Int32) (l3 : Int32) (h : zY) : Option (Int32 × zY) :=
  r4 l0 l1 l2 (l3 + 1) h
set_option maxRecDepth 20000 in
theorem kb181_49 {n : Nat} {Mm : Nat → Option zO}  {q4 : Nat → Int32 → Int32 → Int32 → zY → Option (Int32 × zY)} {r4 : Nat → Int32 → Int32 → Int32 → zH → Option (Int32 × zH)}  (hr4 : ∀ {l0 : Nat} {l1 : Int32} {l2 : Int32} {l3 : Int32}  {kh : zH} {h : zY} {p : Int32 × zY}, Rep Mm kh h → q4 l0 l1 l2 l3 h = some p → ∃ kh1 : zH, r4 l0 l1 l2 l3 kh = some (p.1, kh1) ∧ Rep Mm kh1 p.2) {l0 : Nat} {l1 : Int32} {l2 : Int32} {l3 : Int32}  {kh : zH} {h : zY} {p : Int32 × zY} (hR : Rep Mm kh h) (hG : cb181_49 n  q4 l0 l1 l2 l3 h = some p) : ∃ kh1 : zH, b181_49 n  r4 l0 l1 l2 l3 kh = some (p.1, kh1) ∧ Rep Mm kh1 p.2 := by
  unfold cb181_49 at hG
  unfold b181_49
  exact hr4 hR hG
def cb181_4 (n : Nat)  (r4 : Nat → Int32 → Int32 → Int32 → zY → Option (Int32 × zY)) (l0 : Nat) (l1 : Int32) (l2 : Int32) (l3 : Int32) (h : zY) : Option (Int32 × zY) :=
  (yI h l0 7 4).bind fun x1 =>
  if x1 ≤ l3 then
    some (l2, h)
  else
    (yR h l0 7 2).bind fun x4 =>
    x4.bind fun a6 =>
    (yL h a6).bind fun x7 =>
    if x7 ≤ l3 then
      some (l2, h)
    else
      (yR h l0 7 3).bind fun x10 =>
      x10.bind fun a12 =>
      (yL h a12).bind fun x13 =>
      if x13 ≤ l3 then
        some (l2, h)
      else
        (yR h l0 7 3).bind fun x16 =>
        x16.bind fun a18 =>
        (yaI h a18 l3).bind fun x19 =>
        if x19 = l1 then
          (yR h l0 7 2).bind fun x22 =>
          x22.bind fun a24 =>
          (yaI h a24 l3).bind fun x25 =>
          cb181_49 n r4 l0 l1 (l2 + x25) l3 h
        else
          cb181_49 n r4 l0 l1 l2 l3 h
set_option maxRecDepth 20000 in
theorem kb181_4 {n : Nat} {Mm : Nat → Option zO}  {q4 : Nat → Int32 → Int32 → Int32 → zY → Option (Int32 × zY)} {r4 : Nat → Int32 → Int32 → Int32 → zH → Option (Int32 × zH)}  (hr4 : ∀ {l0 : Nat} {l1 : Int32} {l2 : Int32} {l3 : Int32}  {kh : zH} {h : zY} {p : Int32 × zY}, Rep Mm kh h → q4 l0 l1 l2 l3 h = some p → ∃ kh1 : zH, r4 l0 l1 l2 l3 kh = some (p.1, kh1) ∧ Rep Mm kh1 p.2) {l0 : Nat} {l1 : Int32} {l2 : Int32} {l3 : Int32}  {kh : zH} {h : zY} {p : Int32 × zY} (hR : Rep Mm kh h) (hG : cb181_4 n  q4 l0 l1 l2 l3 h = some p) : ∃ kh1 : zH, b181_4 n  r4 l0 l1 l2 l3 kh = some (p.1, kh1) ∧ Rep Mm kh1 p.2 := by
  unfold cb181_4 at hG
  unfold b181_4
  replace hG := zbnd hG
  obtain ⟨x1, e1, hG⟩ := hG
  refine bE (k_gI hR e1) ?_
  by_cases c2 : x1 ≤ l3
  · rw [if_pos c2] at hG
    refine iE1 c2 ?_
    replace hG := Option.some.inj hG
    subst hG
    exact ⟨_, rfl, hR⟩
  · rw [if_neg c2] at hG
    refine iE2 c2 ?_
    replace hG := zbnd hG
    obtain ⟨x4, e3, hG⟩ := hG
    refine bE (k_gR hR e3) ?_
    replace hG := zbnd hG
    obtain ⟨a6, rfl, hG⟩ := hG
    refine bE rfl ?_
    replace hG := zbnd hG
    obtain ⟨x7, e5, hG⟩ := hG
    refine bE (k_aN hR e5) ?_
    by_cases c6 : x7 ≤ l3
    · rw [if_pos c6] at hG
      refine iE1 c6 ?_
      replace hG := Option.some.inj hG
      subst hG
      exact ⟨_, rfl, hR⟩
    · rw [if_neg c6] at hG
      refine iE2 c6 ?_
      replace hG := zbnd hG
      obtain ⟨x10, e7, hG⟩ := hG
      refine bE (k_gR hR e7) ?_
      replace hG := zbnd hG
      obtain ⟨a12, rfl, hG⟩ := hG
      refine bE rfl ?_
      replace hG := zbnd hG
      obtain ⟨x13, e9, hG⟩ := hG
      refine bE (k_aN hR e9) ?_
      by_cases c10 : x13 ≤ l3
      · rw [if_pos c10] at hG
        refine iE1 c10 ?_
        replace hG := Option.some.inj hG
        subst hG
        exact ⟨_, rfl, hR⟩
      · rw [if_neg c10] at hG
        refine iE2 c10 ?_
        replace hG := zbnd hG
        obtain ⟨x16, e11, hG⟩ := hG
        refine bE (k_gR hR e11) ?_
        replace hG := zbnd hG
        obtain ⟨a18, rfl, hG⟩ := hG
        refine bE rfl ?_
        replace hG := zbnd hG
        obtain ⟨x19, e13, hG⟩ := hG
        refine bE (k_aI hR e13) ?_
        by_cases c14 : x19 = l1
        · rw [if_pos c14] at hG
          refine iE1 c14 ?_
          replace hG := zbnd hG
          obtain ⟨x22, e15, hG⟩ := hG
          refine bE (k_gR hR e15) ?_
          replace hG := zbnd hG
          obtain ⟨a24, rfl, hG⟩ := hG
          refine bE rfl ?_
          replace hG := zbnd hG
          obtain ⟨x25, e17, hG⟩ := hG
          refine bE (k_aI hR e17) ?_
          exact kb181_49 (n := n) (q4 := q4) (r4 := r4) hr4 hR hG
        · rw [if_neg c14] at hG
          refine iE2 c14 ?_
          exact kb181_49 (n := n) (q4 := q4) (r4 := r4) hr4 hR hG
def cf181_4 (n : Nat)   (k : Nat) : Nat → Int32 → Int32 → Int32 → zY → Option (Int32 × zY) := Nat.rec (fun _ _ _ _ _ => none) (fun _ ih => cb181_4 n  ih) k
theorem kf181_4 {n : Nat} {Mm : Nat → Option zO}     (k : Nat) : ∀ {l0 : Nat} {l1 : Int32} {l2 : Int32} {l3 : Int32}  {kh : zH} {h : zY} {p : Int32 × zY}, Rep Mm kh h → cf181_4 n   k l0 l1 l2 l3 h = some p → ∃ kh1 : zH, f181_4 n   k l0 l1 l2 l3 kh = some (p.1, kh1) ∧ Rep Mm kh1 p.2 := by
  induction k with
  | zero => intros; rename_i hG; cases hG
  | succ k ih => intros; rename_i hR hG; exact kb181_4 (n := n) (q4 := cf181_4 n   k) (r4 := f181_4 n   k)  ih hR hG
def c181 (n : Nat)  (y0 : Nat) (y1 : Int32) (h : zY) : Option (Int32 × zY) :=
  cf181_4 n  n y0 y1 0 0 h
set_option maxRecDepth 20000 in
theorem k181 {n : Nat} {Mm : Nat → Option zO}   {y0 : Nat} {y1 : Int32} {kh : zH} {h : zY} {p : Int32 × zY} (hR : Rep Mm kh h) (hG : c181 n  y0 y1 h = some p) : ∃ kh1 : zH, f181 n  y0 y1 kh = some (p.1, kh1) ∧ Rep Mm kh1 p.2 := by
  unfold c181 at hG
  unfold f181
  exact kf181_4 (n := n) n hR hG
def c180 (n : Nat)  (y0 : Nat) (y1 : Int32) (y2 : Int32) (h : zY) : Option ((Int32 ⊕ Nat) × zY) :=
  (yR h y0 10 2).bind fun x1 =>
  x1.bind fun a3 =>
  (yR h a3 4 7).bind fun x4 =>
  x4.bind fun a6 =>
  zgd (yisO h a6 14) <|
  (c68 n a6 h).bind fun p9 =>
  (c13 n y1 p9.1 p9.2).bind fun p11 =>
  if p11.1 = 0 then
    some (.inr 20, thY p11.2)
  else
    (yR p11.2 y0 10 2).bind fun x13 =>
    x13.bind fun a15 =>
    (yR p11.2 a15 4 7).bind fun x16 =>
    x16.bind fun a18 =>
    zgd (yisO p11.2 a18 14) <|
    (c74 n a18 y1 p11.2).bind fun p21 =>
    zgd (ykC p21.2 p21.1 7 0) <|
    p21.1.bind fun a23 =>
    zgd (yisO p21.2 a23 7) <|
    (c181 n a23 y2 p21.2).bind fun p27 =>
    some (.inl p27.1, p27.2)
set_option maxRecDepth 20000 in
theorem k180 {n : Nat} {Mm : Nat → Option zO}   {y0 : Nat} {y1 : Int32} {y2 : Int32} {kh : zH} {h : zY} {p : (Int32 ⊕ Nat) × zY} (hR : Rep Mm kh h) (hG : c180 n  y0 y1 y2 h = some p) : ∃ kh1 : zH, f180 n  y0 y1 y2 kh = some (p.1, kh1) ∧ Rep Mm kh1 p.2 := by
  unfold c180 at hG
  unfold f180
  replace hG := zbnd hG
  obtain ⟨x1, e1, hG⟩ := hG
  refine bE (k_gR hR e1) ?_
  replace hG := zbnd hG
  obtain ⟨a3, rfl, hG⟩ := hG
  refine bE rfl ?_
  replace hG := zbnd hG
  obtain ⟨x4, e3, hG⟩ := hG
  refine bE (k_gR hR e3) ?_
  replace hG := zbnd hG
  obtain ⟨a6, rfl, hG⟩ := hG
  refine bE rfl ?_
  replace hG := zgd_some hG
  obtain ⟨g5, hG⟩ := hG
  refine zE (k_isO hR g5) ?_
  replace hG := zbnd hG
  obtain ⟨p9, e6, hG⟩ := hG
  have hT := k68 hR e6
  clear hR
  obtain ⟨kh7, e8, hR⟩ := hT
  refine bE e8 ?_
  replace hG := zbnd hG
  obtain ⟨p11, e9, hG⟩ := hG
  have hT := k13 hR e9
  clear hR
  obtain ⟨kh10, e11, hR⟩ := hT
  refine bE e11 ?_
  by_cases c12 : p11.1 = 0
  · rw [if_pos c12] at hG
    refine iE1 c12 ?_
    replace hG := Option.some.inj hG
    subst hG
    exact ⟨_, rfl, k_th hR⟩
  · rw [if_neg c12] at hG
    refine iE2 c12 ?_
    replace hG := zbnd hG
    obtain ⟨x13, e13, hG⟩ := hG
    refine bE (k_gR hR e13) ?_
    replace hG := zbnd hG
    obtain ⟨a15, rfl, hG⟩ := hG
    refine bE rfl ?_
    replace hG := zbnd hG
    obtain ⟨x16, e15, hG⟩ := hG
    refine bE (k_gR hR e15) ?_
    replace hG := zbnd hG
    obtain ⟨a18, rfl, hG⟩ := hG
    refine bE rfl ?_
    replace hG := zgd_some hG
    obtain ⟨g17, hG⟩ := hG
    refine zE (k_isO hR g17) ?_
    replace hG := zbnd hG
    obtain ⟨p21, e18, hG⟩ := hG
    have hT := k74 hR e18
    clear hR
    obtain ⟨kh19, e20, hR⟩ := hT
    refine bE e20 ?_
    replace hG := zgd_some hG
    obtain ⟨g21, hG⟩ := hG
    refine zE (k_kC hR g21) ?_
    replace hG := zbnd hG
    obtain ⟨a23, e22, hG⟩ := hG
    refine bE e22 ?_
    replace hG := zgd_some hG
    obtain ⟨g23, hG⟩ := hG
    refine zE (k_isO hR g23) ?_
    replace hG := zbnd hG
    obtain ⟨p27, e24, hG⟩ := hG
    have hT := k181 hR e24
    clear hR
    obtain ⟨kh25, e26, hR⟩ := hT
    refine bE e26 ?_
    replace hG := Option.some.inj hG
    subst hG
    exact ⟨_, rfl, hR⟩
def c179 (n : Nat)  (y0 : Option Nat) (y1 : Int32) (y2 : Int32) (y3 : Option Nat) (h : zY) : Option (Int32 × zY) :=
  y0.bind fun a1 =>
  zgd (yisO h a1 10) <|
  (c180 n a1 y1 y2 h).bind fun p7 => zth p7 (fun r4 h5 =>
    y3.bind fun a9 =>
    (yS zsL h5 a9 0 (.long r4.toInt64)).bind fun h10 =>
    some (0, h10))
    (fun x6 h5 =>
    if x6 = 20 then
      some (1, h5)
    else
    none)
set_option maxRecDepth 20000 in
theorem k179 {n : Nat} {Mm : Nat → Option zO}   {y0 : Option Nat} {y1 : Int32} {y2 : Int32} {y3 : Option Nat} {kh : zH} {h : zY} {p : Int32 × zY} (hR : Rep Mm kh h) (hG : c179 n  y0 y1 y2 y3 h = some p) : ∃ kh1 : zH, f179 n  y0 y1 y2 y3 kh = some (p.1, kh1) ∧ Rep Mm kh1 p.2 := by
  unfold c179 at hG
  unfold f179
  replace hG := zbnd hG
  obtain ⟨a1, rfl, hG⟩ := hG
  refine bE rfl ?_
  replace hG := zgd_some hG
  obtain ⟨g2, hG⟩ := hG
  refine zE (k_isO hR g2) ?_
  replace hG := zbnd hG
  obtain ⟨⟨r4, h5⟩, e3, hG⟩ := hG
  have hT := k180 hR e3
  clear hR
  obtain ⟨kh4, e5, hR⟩ := hT
  refine bE e5 ?_
  rcases r4 with r4 | x6
  · replace hG := zthG hG
    refine zthEl ?_
    replace hG := zbnd hG
    obtain ⟨a9, rfl, hG⟩ := hG
    refine bE rfl ?_
    replace hG := zbnd hG
    obtain ⟨h10, e7, hG⟩ := hG
    have hT := k_sJ hR e7
    clear hR
    obtain ⟨kh8, e9, hR⟩ := hT
    refine bE e9 ?_
    replace hG := Option.some.inj hG
    subst hG
    exact ⟨_, rfl, hR⟩
  · replace hG := zthH hG
    refine zthEr ?_
    by_cases c10 : x6 = 20
    · rw [if_pos c10] at hG
      refine iE1 c10 ?_
      replace hG := Option.some.inj hG
      subst hG
      exact ⟨_, rfl, hR⟩
    · rw [if_neg c10] at hG
      refine iE2 c10 ?_
      cases hG
end ZCLS

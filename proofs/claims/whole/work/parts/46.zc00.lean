/-! THE CLASS OVER AN ABSTRACT HEAP, 0 (written by a program of the verifier's) -/
section ZCLS
def c2 (n : Nat)  (y0 : Nat) (h : zY) : Option (Unit × zY) :=
  (yA h 1 6000).bind fun h1 =>
  (yP h1 y0 8 0 (.ref h.2.1)).bind fun h3 =>
  (yP h3 y0 8 1 (.int 0)).bind fun h5 =>
  some ((), h5)
set_option maxRecDepth 20000 in
theorem k2 {n : Nat} {Mm : Nat → Option zO}   {y0 : Nat} {kh : zH} {h : zY} {p : Unit × zY} (hR : Rep Mm kh h) (hG : c2 n  y0 h = some p) : ∃ kh1 : zH, f2 n  y0 kh = some (p.1, kh1) ∧ Rep Mm kh1 p.2 := by
  unfold c2 at hG
  unfold f2
  try rw [rep_n hR] at hG
  replace hG := zbnd hG
  obtain ⟨h1, e1, hG⟩ := hG
  have hT := k_nA hR e1
  clear hR
  obtain ⟨kh2, e3, hR⟩ := hT
  refine bE e3 ?_
  replace hG := zbnd hG
  obtain ⟨h3, e4, hG⟩ := hG
  have hT := k_pF hR e4
  clear hR
  obtain ⟨kh5, e6, hR⟩ := hT
  refine bE e6 ?_
  replace hG := zbnd hG
  obtain ⟨h5, e7, hG⟩ := hG
  have hT := k_pF hR e7
  clear hR
  obtain ⟨kh8, e9, hR⟩ := hT
  refine bE e9 ?_
  replace hG := Option.some.inj hG
  subst hG
  exact ⟨_, rfl, hR⟩
def cb4_5 (n : Nat)  (r5 : Option Nat → Int32 → Int32 → Int32 → zY → Option (Unit × zY)) (l0 : Option Nat) (l1 : Int32) (l2 : Int32) (l3 : Int32) (h : zY) : Option (Unit × zY) :=
  if l3 ≤ l2 then
    some ((), h)
  else
    l0.bind fun a2 =>
    (yS zsI h a2 l2 (.int l1)).bind fun h3 =>
    r5 (some a2) l1 (l2 + 1) l3 h3
set_option maxRecDepth 20000 in
theorem kb4_5 {n : Nat} {Mm : Nat → Option zO}  {q5 : Option Nat → Int32 → Int32 → Int32 → zY → Option (Unit × zY)} {r5 : Option Nat → Int32 → Int32 → Int32 → zH → Option (Unit × zH)}  (hr5 : ∀ {l0 : Option Nat} {l1 : Int32} {l2 : Int32} {l3 : Int32}  {kh : zH} {h : zY} {p : Unit × zY}, Rep Mm kh h → q5 l0 l1 l2 l3 h = some p → ∃ kh1 : zH, r5 l0 l1 l2 l3 kh = some (p.1, kh1) ∧ Rep Mm kh1 p.2) {l0 : Option Nat} {l1 : Int32} {l2 : Int32} {l3 : Int32}  {kh : zH} {h : zY} {p : Unit × zY} (hR : Rep Mm kh h) (hG : cb4_5 n  q5 l0 l1 l2 l3 h = some p) : ∃ kh1 : zH, b4_5 n  r5 l0 l1 l2 l3 kh = some (p.1, kh1) ∧ Rep Mm kh1 p.2 := by
  unfold cb4_5 at hG
  unfold b4_5
  by_cases c1 : l3 ≤ l2
  · rw [if_pos c1] at hG
    refine iE1 c1 ?_
    replace hG := Option.some.inj hG
    subst hG
    exact ⟨_, rfl, hR⟩
  · rw [if_neg c1] at hG
    refine iE2 c1 ?_
    replace hG := zbnd hG
    obtain ⟨a2, rfl, hG⟩ := hG
    refine bE rfl ?_
    replace hG := zbnd hG
    obtain ⟨h3, e3, hG⟩ := hG
    have hT := k_sI hR e3
    clear hR
    obtain ⟨kh4, e5, hR⟩ := hT
    refine bE e5 ?_
    exact hr5 hR hG
def cf4_5 (n : Nat)   (k : Nat) : Option Nat → Int32 → Int32 → Int32 → zY → Option (Unit × zY) := Nat.rec (fun _ _ _ _ _ => none) (fun _ ih => cb4_5 n  ih) k
theorem kf4_5 {n : Nat} {Mm : Nat → Option zO}     (k : Nat) : ∀ {l0 : Option Nat} {l1 : Int32} {l2 : Int32} {l3 : Int32}  {kh : zH} {h : zY} {p : Unit × zY}, Rep Mm kh h → cf4_5 n   k l0 l1 l2 l3 h = some p → ∃ kh1 : zH, f4_5 n   k l0 l1 l2 l3 kh = some (p.1, kh1) ∧ Rep Mm kh1 p.2 := by
  induction k with
  | zero => intros; rename_i hG; cases hG
  | succ k ih => intros; rename_i hR hG; exact kb4_5 (n := n) (q5 := cf4_5 n   k) (r5 := f4_5 n   k)  ih hR hG
def c4 (n : Nat)  (y0 : Option Nat) (y1 : Int32) (h : zY) : Option (Unit × zY) :=
  y0.bind fun a1 =>
  (yL h a1).bind fun x2 =>
  cf4_5 n  n (some a1) y1 0 x2 h
set_option maxRecDepth 20000 in
theorem k4 {n : Nat} {Mm : Nat → Option zO}   {y0 : Option Nat} {y1 : Int32} {kh : zH} {h : zY} {p : Unit × zY} (hR : Rep Mm kh h) (hG : c4 n  y0 y1 h = some p) : ∃ kh1 : zH, f4 n  y0 y1 kh = some (p.1, kh1) ∧ Rep Mm kh1 p.2 := by
  unfold c4 at hG
  unfold f4
  replace hG := zbnd hG
  obtain ⟨a1, rfl, hG⟩ := hG
  refine bE rfl ?_
  replace hG := zbnd hG
  obtain ⟨x2, e2, hG⟩ := hG
  refine bE (k_aN hR e2) ?_
  exact kf4_5 (n := n) n hR hG
def c3 (n : Nat)  (y0 : Nat) (h : zY) : Option (Unit × zY) :=
  (yW h 9 8).bind fun h1 =>
  (yP h1 y0 1 0 (.ref h.2.1)).bind fun h3 =>
  (yW h3 9 8).bind fun h5 =>
  (yP h5 y0 1 1 (.ref h3.2.1)).bind fun h7 =>
  (yP h7 y0 1 2 (.int 0)).bind fun h9 =>
  (yA h9 2 12).bind fun h11 =>
  (yP h11 y0 1 3 (.ref h9.2.1)).bind fun h13 =>
  (yA h13 0 24).bind fun h15 =>
  (yP h15 y0 1 4 (.ref h13.2.1)).bind fun h17 =>
  (yA h17 0 5).bind fun h19 =>
  (yP h19 y0 1 5 (.ref h17.2.1)).bind fun h21 =>
  (yP h21 y0 1 6 (.int 0)).bind fun h23 =>
  (yR h23 y0 1 5).bind fun x25 =>
  (c4 n x25 (-1) h23).bind fun p28 =>
  some ((), p28.2)
set_option maxRecDepth 20000 in
theorem k3 {n : Nat} {Mm : Nat → Option zO}   {y0 : Nat} {kh : zH} {h : zY} {p : Unit × zY} (hR : Rep Mm kh h) (hG : c3 n  y0 h = some p) : ∃ kh1 : zH, f3 n  y0 kh = some (p.1, kh1) ∧ Rep Mm kh1 p.2 := by
  unfold c3 at hG
  unfold f3
  try rw [rep_n hR] at hG
  replace hG := zbnd hG
  obtain ⟨h1, e1, hG⟩ := hG
  have hT := k_nV hR e1
  clear hR
  obtain ⟨kh2, e3, hR⟩ := hT
  refine bE e3 ?_
  replace hG := zbnd hG
  obtain ⟨h3, e4, hG⟩ := hG
  have hT := k_pF hR e4
  clear hR
  obtain ⟨kh5, e6, hR⟩ := hT
  refine bE e6 ?_
  try rw [rep_n hR] at hG
  replace hG := zbnd hG
  obtain ⟨h5, e7, hG⟩ := hG
  have hT := k_nV hR e7
  clear hR
  obtain ⟨kh8, e9, hR⟩ := hT
  refine bE e9 ?_
  replace hG := zbnd hG
  obtain ⟨h7, e10, hG⟩ := hG
  have hT := k_pF hR e10
  clear hR
  obtain ⟨kh11, e12, hR⟩ := hT
  refine bE e12 ?_
  replace hG := zbnd hG
  obtain ⟨h9, e13, hG⟩ := hG
  have hT := k_pF hR e13
  clear hR
  obtain ⟨kh14, e15, hR⟩ := hT
  refine bE e15 ?_
  try rw [rep_n hR] at hG
  replace hG := zbnd hG
  obtain ⟨h11, e16, hG⟩ := hG
  have hT := k_nA hR e16
  clear hR
  obtain ⟨kh17, e18, hR⟩ := hT
  refine bE e18 ?_
  replace hG := zbnd hG
  obtain ⟨h13, e19, hG⟩ := hG
  have hT := k_pF hR e19
  clear hR
  obtain ⟨kh20, e21, hR⟩ := hT
  refine bE e21 ?_
  try rw [rep_n hR] at hG
  replace hG := zbnd hG
  obtain ⟨h15, e22, hG⟩ := hG
  have hT := k_nA hR e22
  clear hR
  obtain ⟨kh23, e24, hR⟩ := hT
  refine bE e24 ?_
  replace hG := zbnd hG
  obtain ⟨h17, e25, hG⟩ := hG
  have hT := k_pF hR e25
  clear hR
  obtain ⟨kh26, e27, hR⟩ := hT
  refine bE e27 ?_
  try rw [rep_n hR] at hG
  replace hG := zbnd hG
  obtain ⟨h19, e28, hG⟩ := hG
  have hT := k_nA hR e28
  clear hR
  obtain ⟨kh29, e30, hR⟩ := hT
  refine bE e30 ?_
  replace hG := zbnd hG
  obtain ⟨h21, e31, hG⟩ := hG
  have hT := k_pF hR e31
  clear hR
  obtain ⟨kh32, e33, hR⟩ := hT
  refine bE e33 ?_
  replace hG := zbnd hG
  obtain ⟨h23, e34, hG⟩ := hG
  have hT := k_pF hR e34
  clear hR
  obtain ⟨kh35, e36, hR⟩ := hT
  refine bE e36 ?_
  replace hG := zbnd hG
  obtain ⟨x25, e37, hG⟩ := hG
  refine bE (k_gR hR e37) ?_
  replace hG := zbnd hG
  obtain ⟨p28, e38, hG⟩ := hG
  have hT := k4 hR e38
  clear hR
  obtain ⟨kh39, e40, hR⟩ := hT
  refine bE e40 ?_
  replace hG := Option.some.inj hG
  subst hG
  exact ⟨_, rfl, hR⟩
def c8 (n : Nat)  (y0 : Nat) (h : zY) : Option (Unit × zY) :=
  some ((), h)
set_option maxRecDepth 20000 in
theorem k8 {n : Nat} {Mm : Nat → Option zO}   {y0 : Nat} {kh : zH} {h : zY} {p : Unit × zY} (hR : Rep Mm kh h) (hG : c8 n  y0 h = some p) : ∃ kh1 : zH, f8 n  y0 kh = some (p.1, kh1) ∧ Rep Mm kh1 p.2 := by
  unfold c8 at hG
  unfold f8
  replace hG := Option.some.inj hG
  subst hG
  exact ⟨_, rfl, hR⟩
def c7 (n : Nat)  (y0 : Nat) (h : zY) : Option (Unit × zY) :=
  (c8 n y0 h).bind fun p2 =>
  (yP p2.2 y0 14 0 (.int 0)).bind fun h3 =>
  some ((), h3)
set_option maxRecDepth 20000 in
theorem k7 {n : Nat} {Mm : Nat → Option zO}   {y0 : Nat} {kh : zH} {h : zY} {p : Unit × zY} (hR : Rep Mm kh h) (hG : c7 n  y0 h = some p) : ∃ kh1 : zH, f7 n  y0 kh = some (p.1, kh1) ∧ Rep Mm kh1 p.2 := by
  unfold c7 at hG
  unfold f7
  replace hG := zbnd hG
  obtain ⟨p2, e1, hG⟩ := hG
  have hT := k8 hR e1
  clear hR
  obtain ⟨kh2, e3, hR⟩ := hT
  refine bE e3 ?_
  replace hG := zbnd hG
  obtain ⟨h3, e4, hG⟩ := hG
  have hT := k_pF hR e4
  clear hR
  obtain ⟨kh5, e6, hR⟩ := hT
  refine bE e6 ?_
  replace hG := Option.some.inj hG
  subst hG
  exact ⟨_, rfl, hR⟩
def c6v (n : Nat)  (y0 : Nat) (h : zY) : Option (Unit × zY) :=
  (c7 n y0 h).bind fun p2 =>
  (yP p2.2 y0 14 1 (.ref 48)).bind fun h3 =>
  some ((), h3)
set_option maxRecDepth 20000 in
theorem k6v {n : Nat} {Mm : Nat → Option zO}   {y0 : Nat} {kh : zH} {h : zY} {p : Unit × zY} (hR : Rep Mm kh h) (hG : c6v n  y0 h = some p) : ∃ kh1 : zH, f6 n  y0 kh = some (p.1, kh1) ∧ Rep Mm kh1 p.2 := by
  unfold c6v at hG
  unfold f6
  replace hG := zbnd hG
  obtain ⟨p2, e1, hG⟩ := hG
  have hT := k7 hR e1
  clear hR
  obtain ⟨kh2, e3, hR⟩ := hT
  refine bE e3 ?_
  replace hG := zbnd hG
  obtain ⟨h3, e4, hG⟩ := hG
  have hT := k_pF hR e4
  clear hR
  obtain ⟨kh5, e6, hR⟩ := hT
  refine bE e6 ?_
  replace hG := Option.some.inj hG
  subst hG
  exact ⟨_, rfl, hR⟩
def c6 (n : Nat) (y0 : Nat) (h : zY) : Option (Unit × zY) :=
  (c6v n y0 h).bind fun p =>
  (yHL p.2 y0).bind fun h1 =>
  some ((), h1)
theorem k6 {n : Nat} {Mm : Nat → Option zO} {y0 : Nat} {kh : zH} {h : zY} {p : Unit × zY} (hR : Rep Mm kh h) (hG : c6 n y0 h = some p) : ∃ kh1 : zH, f6 n y0 kh = some (p.1, kh1) ∧ Rep Mm kh1 p.2 := by
  unfold c6 at hG
  replace hG := zbnd hG
  obtain ⟨q, e, hG⟩ := hG
  replace hG := zbnd hG
  obtain ⟨h1, e1, hG⟩ := hG
  cases hG
  obtain ⟨kh1, e2, hR⟩ := k6v hR e
  exact ⟨kh1, e2, k_HL hR e1⟩
def c5 (n : Nat)  (y0 : Nat) (h : zY) : Option (Unit × zY) :=
  (c6 n h.2.1 (yN h 14 3)).bind fun p2 =>
  (yP p2.2 y0 4 0 (.ref h.2.1)).bind fun h3 =>
  (c6 n h3.2.1 (yN h3 14 3)).bind fun p6 =>
  (yP p6.2 y0 4 1 (.ref h3.2.1)).bind fun h7 =>
  (c6 n h7.2.1 (yN h7 14 3)).bind fun p10 =>
  (yP p10.2 y0 4 2 (.ref h7.2.1)).bind fun h11 =>
  (c6 n h11.2.1 (yN h11 14 3)).bind fun p14 =>
  (yP p14.2 y0 4 3 (.ref h11.2.1)).bind fun h15 =>
  (c6 n h15.2.1 (yN h15 14 3)).bind fun p18 =>
  (yP p18.2 y0 4 4 (.ref h15.2.1)).bind fun h19 =>
  (c6 n h19.2.1 (yN h19 14 3)).bind fun p22 =>
  (yP p22.2 y0 4 5 (.ref h19.2.1)).bind fun h23 =>
  (c6 n h23.2.1 (yN h23 14 3)).bind fun p26 =>
  (yP p26.2 y0 4 6 (.ref h23.2.1)).bind fun h27 =>
  (c6 n h27.2.1 (yN h27 14 3)).bind fun p30 =>
  (yP p30.2 y0 4 7 (.ref h27.2.1)).bind fun h31 =>
  (yP h31 y0 4 8 (.int 0)).bind fun h33 =>
  (yP h33 y0 4 9 (.int 0)).bind fun h35 =>
  (yA h35 0 24).bind fun h37 =>
  (yP h37 y0 4 10 (.ref h35.2.1)).bind fun h39 =>
  (yA h39 0 24).bind fun h41 =>
  (yP h41 y0 4 11 (.ref h39.2.1)).bind fun h43 =>
  some ((), h43)
set_option maxRecDepth 20000 in
theorem k5 {n : Nat} {Mm : Nat → Option zO}   {y0 : Nat} {kh : zH} {h : zY} {p : Unit × zY} (hR : Rep Mm kh h) (hG : c5 n  y0 h = some p) : ∃ kh1 : zH, f5 n  y0 kh = some (p.1, kh1) ∧ Rep Mm kh1 p.2 := by
  unfold c5 at hG
  unfold f5
  try rw [rep_n hR] at hG
  replace hR := k_nO (ci := 14) (n := 3) hR
  replace hG := zbnd hG
  obtain ⟨p2, e1, hG⟩ := hG
  have hT := k6 hR e1
  clear hR
  obtain ⟨kh2, e3, hR⟩ := hT
  refine bE e3 ?_
  replace hG := zbnd hG
  obtain ⟨h3, e4, hG⟩ := hG
  have hT := k_pF hR e4
  clear hR
  obtain ⟨kh5, e6, hR⟩ := hT
  refine bE e6 ?_
  try rw [rep_n hR] at hG
  replace hR := k_nO (ci := 14) (n := 3) hR
  replace hG := zbnd hG
  obtain ⟨p6, e7, hG⟩ := hG
  have hT := k6 hR e7
  clear hR
  obtain ⟨kh8, e9, hR⟩ := hT
  refine bE e9 ?_
  replace hG := zbnd hG
  obtain ⟨h7, e10, hG⟩ := hG
  have hT := k_pF hR e10
  clear hR
  obtain ⟨kh11, e12, hR⟩ := hT
  refine bE e12 ?_
  try rw [rep_n hR] at hG
  replace hR := k_nO (ci := 14) (n := 3) hR
  replace hG := zbnd hG
  obtain ⟨p10, e13, hG⟩ := hG
  have hT := k6 hR e13
  clear hR
  obtain ⟨kh14, e15, hR⟩ := hT
  refine bE e15 ?_
  replace hG := zbnd hG
  obtain ⟨h11, e16, hG⟩ := hG
  have hT := k_pF hR e16
  clear hR
  obtain ⟨kh17, e18, hR⟩ := hT
  refine bE e18 ?_
  try rw [rep_n hR] at hG
  replace hR := k_nO (ci := 14) (n := 3) hR
  replace hG := zbnd hG
  obtain ⟨p14, e19, hG⟩ := hG
  have hT := k6 hR e19
  clear hR
  obtain ⟨kh20, e21, hR⟩ := hT
  refine bE e21 ?_
  replace hG := zbnd hG
  obtain ⟨h15, e22, hG⟩ := hG
  have hT := k_pF hR e22
  clear hR
  obtain ⟨kh23, e24, hR⟩ := hT
  refine bE e24 ?_
  try rw [rep_n hR] at hG
  replace hR := k_nO (ci := 14) (n := 3) hR
  replace hG := zbnd hG
  obtain ⟨p18, e25, hG⟩ := hG
  have hT := k6 hR e25
  clear hR
  obtain ⟨kh26, e27, hR⟩ := hT
  refine bE e27 ?_
  replace hG := zbnd hG
  obtain ⟨h19, e28, hG⟩ := hG
  have hT := k_pF hR e28
  clear hR
  obtain ⟨kh29, e30, hR⟩ := hT
  refine bE e30 ?_
  try rw [rep_n hR] at hG
  replace hR := k_nO (ci := 14) (n := 3) hR
  replace hG := zbnd hG
  obtain ⟨p22, e31, hG⟩ := hG
  have hT := k6 hR e31
  clear hR
  obtain ⟨kh32, e33, hR⟩ := hT
  refine bE e33 ?_
  replace hG := zbnd hG
  obtain ⟨h23, e34, hG⟩ := hG
  have hT := k_pF hR e34
  clear hR
  obtain ⟨kh35, e36, hR⟩ := hT
  refine bE e36 ?_
  try rw [rep_n hR] at hG
  replace hR := k_nO (ci := 14) (n := 3) hR
  replace hG := zbnd hG
  obtain ⟨p26, e37, hG⟩ := hG
  have hT := k6 hR e37
  clear hR
  obtain ⟨kh38, e39, hR⟩ := hT
  refine bE e39 ?_
  replace hG := zbnd hG
  obtain ⟨h27, e40, hG⟩ := hG
  have hT := k_pF hR e40
  clear hR
  obtain ⟨kh41, e42, hR⟩ := hT
  refine bE e42 ?_
  try rw [rep_n hR] at hG
  replace hR := k_nO (ci := 14) (n := 3) hR
  replace hG := zbnd hG
  obtain ⟨p30, e43, hG⟩ := hG
  have hT := k6 hR e43
  clear hR
  obtain ⟨kh44, e45, hR⟩ := hT
  refine bE e45 ?_
  replace hG := zbnd hG
  obtain ⟨h31, e46, hG⟩ := hG
  have hT := k_pF hR e46
  clear hR
  obtain ⟨kh47, e48, hR⟩ := hT
  refine bE e48 ?_
  replace hG := zbnd hG
  obtain ⟨h33, e49, hG⟩ := hG
  have hT := k_pF hR e49
  clear hR
  obtain ⟨kh50, e51, hR⟩ := hT
  refine bE e51 ?_
  replace hG := zbnd hG
  obtain ⟨h35, e52, hG⟩ := hG
  have hT := k_pF hR e52
  clear hR
  obtain ⟨kh53, e54, hR⟩ := hT
  refine bE e54 ?_
  try rw [rep_n hR] at hG
  replace hG := zbnd hG
  obtain ⟨h37, e55, hG⟩ := hG
  have hT := k_nA hR e55
  clear hR
  obtain ⟨kh56, e57, hR⟩ := hT
  refine bE e57 ?_
  replace hG := zbnd hG
  obtain ⟨h39, e58, hG⟩ := hG
  have hT := k_pF hR e58
  clear hR
  obtain ⟨kh59, e60, hR⟩ := hT
  refine bE e60 ?_
  try rw [rep_n hR] at hG
  replace hG := zbnd hG
  obtain ⟨h41, e61, hG⟩ := hG
  have hT := k_nA hR e61
  clear hR
  obtain ⟨kh62, e63, hR⟩ := hT
  refine bE e63 ?_
  replace hG := zbnd hG
  obtain ⟨h43, e64, hG⟩ := hG
  have hT := k_pF hR e64
  clear hR
  obtain ⟨kh65, e66, hR⟩ := hT
  refine bE e66 ?_
  replace hG := Option.some.inj hG
  subst hG
  exact ⟨_, rfl, hR⟩
def c1 (n : Nat)  (y0 : Nat) (h : zY) : Option (Unit × zY) :=
  (c2 n h.2.1 (yN h 8 2)).bind fun p2 =>
  (yP p2.2 y0 10 0 (.ref h.2.1)).bind fun h3 =>
  (c3 n h3.2.1 (yN h3 1 7)).bind fun p6 =>
  (yP p6.2 y0 10 1 (.ref h3.2.1)).bind fun h7 =>
  (c5 n h7.2.1 (yN h7 4 12)).bind fun p10 =>
  (yP p10.2 y0 10 2 (.ref h7.2.1)).bind fun h11 =>
  (yP h11 y0 10 3 (.int 0)).bind fun h13 =>
  some ((), h13)
set_option maxRecDepth 20000 in
theorem k1 {n : Nat} {Mm : Nat → Option zO}   {y0 : Nat} {kh : zH} {h : zY} {p : Unit × zY} (hR : Rep Mm kh h) (hG : c1 n  y0 h = some p) : ∃ kh1 : zH, f1 n  y0 kh = some (p.1, kh1) ∧ Rep Mm kh1 p.2 := by
  unfold c1 at hG
  unfold f1
  try rw [rep_n hR] at hG
  replace hR := k_nO (ci := 8) (n := 2) hR
  replace hG := zbnd hG
  obtain ⟨p2, e1, hG⟩ := hG
  have hT := k2 hR e1
  clear hR
  obtain ⟨kh2, e3, hR⟩ := hT
  refine bE e3 ?_
  replace hG := zbnd hG
  obtain ⟨h3, e4, hG⟩ := hG
  have hT := k_pF hR e4
  clear hR
  obtain ⟨kh5, e6, hR⟩ := hT
  refine bE e6 ?_
  try rw [rep_n hR] at hG
  replace hR := k_nO (ci := 1) (n := 7) hR
  replace hG := zbnd hG
  obtain ⟨p6, e7, hG⟩ := hG
  have hT := k3 hR e7
  clear hR
  obtain ⟨kh8, e9, hR⟩ := hT
  refine bE e9 ?_
  replace hG := zbnd hG
  obtain ⟨h7, e10, hG⟩ := hG
  have hT := k_pF hR e10
  clear hR
  obtain ⟨kh11, e12, hR⟩ := hT
  refine bE e12 ?_
  try rw [rep_n hR] at hG
  replace hR := k_nO (ci := 4) (n := 12) hR
  replace hG := zbnd hG
  obtain ⟨p10, e13, hG⟩ := hG
  have hT := k5 hR e13
  clear hR
  obtain ⟨kh14, e15, hR⟩ := hT
  refine bE e15 ?_
  replace hG := zbnd hG
  obtain ⟨h11, e16, hG⟩ := hG
  have hT := k_pF hR e16
  clear hR
  obtain ⟨kh17, e18, hR⟩ := hT
  refine bE e18 ?_
  replace hG := zbnd hG
  obtain ⟨h13, e19, hG⟩ := hG
  have hT := k_pF hR e19
  clear hR
  obtain ⟨kh20, e21, hR⟩ := hT
  refine bE e21 ?_
  replace hG := Option.some.inj hG
  subst hG
  exact ⟨_, rfl, hR⟩
def c13 (n : Nat)  (y0 : Int32) (y1 : Int32) (h : zY) : Option (Int32 × zY) :=
  if y0 < 0 then
    some (0, h)
  else
    if y1 ≤ y0 then
      some (0, h)
    else
      some (1, h)
set_option maxRecDepth 20000 in
theorem k13 {n : Nat} {Mm : Nat → Option zO}   {y0 : Int32} {y1 : Int32} {kh : zH} {h : zY} {p : Int32 × zY} (hR : Rep Mm kh h) (hG : c13 n  y0 y1 h = some p) : ∃ kh1 : zH, f13 n  y0 y1 kh = some (p.1, kh1) ∧ Rep Mm kh1 p.2 := by
  unfold c13 at hG
  unfold f13
  by_cases c1 : y0 < 0
  · rw [if_pos c1] at hG
    refine iE1 c1 ?_
    replace hG := Option.some.inj hG
    subst hG
    exact ⟨_, rfl, hR⟩
  · rw [if_neg c1] at hG
    refine iE2 c1 ?_
    by_cases c2 : y1 ≤ y0
    · rw [if_pos c2] at hG
      refine iE1 c2 ?_
      replace hG := Option.some.inj hG
      subst hG
      exact ⟨_, rfl, hR⟩
    · rw [if_neg c2] at hG
      refine iE2 c2 ?_
      replace hG := Option.some.inj hG
      subst hG
      exact ⟨_, rfl, hR⟩
def c12 (n : Nat)  (y0 : Nat) (y1 : Int32) (h : zY) : Option (Int32 × zY) :=
  (yI h y0 8 1).bind fun x1 =>
  (c13 n y1 x1 h).bind fun p4 =>
  if p4.1 = 0 then
    some ((-1), p4.2)
  else
    (yR p4.2 y0 8 0).bind fun x6 =>
    x6.bind fun a8 =>
    (yL p4.2 a8).bind fun x9 =>
    if x9 ≤ y1 then
      some ((-1), p4.2)
    else
      (yR p4.2 y0 8 0).bind fun x12 =>
      x12.bind fun a14 =>
      (yaB p4.2 a14 y1).bind fun x15 =>
      some ((x15 &&& 255), p4.2)
set_option maxRecDepth 20000 in
theorem k12 {n : Nat} {Mm : Nat → Option zO}   {y0 : Nat} {y1 : Int32} {kh : zH} {h : zY} {p : Int32 × zY} (hR : Rep Mm kh h) (hG : c12 n  y0 y1 h = some p) : ∃ kh1 : zH, f12 n  y0 y1 kh = some (p.1, kh1) ∧ Rep Mm kh1 p.2 := by
  unfold c12 at hG
  unfold f12
  replace hG := zbnd hG
  obtain ⟨x1, e1, hG⟩ := hG
  refine bE (k_gI hR e1) ?_
  replace hG := zbnd hG
  obtain ⟨p4, e2, hG⟩ := hG
  have hT := k13 hR e2
  clear hR
  obtain ⟨kh3, e4, hR⟩ := hT
  refine bE e4 ?_
  by_cases c5 : p4.1 = 0
  · rw [if_pos c5] at hG
    refine iE1 c5 ?_
    replace hG := Option.some.inj hG
    subst hG
    exact ⟨_, rfl, hR⟩
  · rw [if_neg c5] at hG
    refine iE2 c5 ?_
    replace hG := zbnd hG
    obtain ⟨x6, e6, hG⟩ := hG
    refine bE (k_gR hR e6) ?_
    replace hG := zbnd hG
    obtain ⟨a8, rfl, hG⟩ := hG
    refine bE rfl ?_
    replace hG := zbnd hG
    obtain ⟨x9, e8, hG⟩ := hG
    refine bE (k_aN hR e8) ?_
    by_cases c9 : x9 ≤ y1
    · rw [if_pos c9] at hG
      refine iE1 c9 ?_
      replace hG := Option.some.inj hG
      subst hG
      exact ⟨_, rfl, hR⟩
    · rw [if_neg c9] at hG
      refine iE2 c9 ?_
      replace hG := zbnd hG
      obtain ⟨x12, e10, hG⟩ := hG
      refine bE (k_gR hR e10) ?_
      replace hG := zbnd hG
      obtain ⟨a14, rfl, hG⟩ := hG
      refine bE rfl ?_
      replace hG := zbnd hG
      obtain ⟨x15, e12, hG⟩ := hG
      refine bE (k_aB hR e12) ?_
      replace hG := Option.some.inj hG
      subst hG
      exact ⟨_, rfl, hR⟩
def c14 (n : Nat)  (y0 : Int32) (h : zY) : Option (Int32 × zY) :=
  if y0 = 9 then
    some (1, h)
  else
    if y0 = 10 then
      some (1, h)
    else
      if y0 = 13 then
        some (1, h)
      else
        if y0 = 32 then
          some (1, h)
        else
          some (0, h)
set_option maxRecDepth 20000 in
theorem k14 {n : Nat} {Mm : Nat → Option zO}   {y0 : Int32} {kh : zH} {h : zY} {p : Int32 × zY} (hR : Rep Mm kh h) (hG : c14 n  y0 h = some p) : ∃ kh1 : zH, f14 n  y0 kh = some (p.1, kh1) ∧ Rep Mm kh1 p.2 := by
  unfold c14 at hG
  unfold f14
  by_cases c1 : y0 = 9
  · rw [if_pos c1] at hG
    refine iE1 c1 ?_
    replace hG := Option.some.inj hG
    subst hG
    exact ⟨_, rfl, hR⟩
  · rw [if_neg c1] at hG
    refine iE2 c1 ?_
    by_cases c2 : y0 = 10
    · rw [if_pos c2] at hG
      refine iE1 c2 ?_
      replace hG := Option.some.inj hG
      subst hG
      exact ⟨_, rfl, hR⟩
    · rw [if_neg c2] at hG
      refine iE2 c2 ?_
      by_cases c3 : y0 = 13
      · rw [if_pos c3] at hG
        refine iE1 c3 ?_
        replace hG := Option.some.inj hG
        subst hG
        exact ⟨_, rfl, hR⟩
      · rw [if_neg c3] at hG
        refine iE2 c3 ?_
        by_cases c4 : y0 = 32
        · rw [if_pos c4] at hG
          refine iE1 c4 ?_
          replace hG := Option.some.inj hG
          subst hG
          exact ⟨_, rfl, hR⟩
        · rw [if_neg c4] at hG
          refine iE2 c4 ?_
          replace hG := Option.some.inj hG
          subst hG
          exact ⟨_, rfl, hR⟩
def c15 (n : Nat)  (y0 : Nat) (y1 : Option Nat) (y2 : Int32) (y3 : Int32) (y4 : Option Nat) (y5 : Int32) (h : zY) : Option (Unit × zY) :=
  (yP h y0 9 5 (.null)).bind fun h1 =>
  (yP h1 y0 9 0 (va_rf y1)).bind fun h3 =>
  (yP h3 y0 9 1 (.int y2)).bind fun h5 =>
  (yP h5 y0 9 2 (.int y3)).bind fun h7 =>
  (yP h7 y0 9 3 (va_rf y4)).bind fun h9 =>
  (yP h9 y0 9 4 (.int y5)).bind fun h11 =>
  some ((), h11)
set_option maxRecDepth 20000 in
theorem k15 {n : Nat} {Mm : Nat → Option zO}   {y0 : Nat} {y1 : Option Nat} {y2 : Int32} {y3 : Int32} {y4 : Option Nat} {y5 : Int32} {kh : zH} {h : zY} {p : Unit × zY} (hR : Rep Mm kh h) (hG : c15 n  y0 y1 y2 y3 y4 y5 h = some p) : ∃ kh1 : zH, f15 n  y0 y1 y2 y3 y4 y5 kh = some (p.1, kh1) ∧ Rep Mm kh1 p.2 := by
  unfold c15 at hG
  unfold f15
  replace hG := zbnd hG
  obtain ⟨h1, e1, hG⟩ := hG
  have hT := k_pF hR e1
  clear hR
  obtain ⟨kh2, e3, hR⟩ := hT
  refine bE e3 ?_
  replace hG := zbnd hG
  obtain ⟨h3, e4, hG⟩ := hG
  have hT := k_pF hR e4
  clear hR
  obtain ⟨kh5, e6, hR⟩ := hT
  refine bE e6 ?_
  replace hG := zbnd hG
  obtain ⟨h5, e7, hG⟩ := hG
  have hT := k_pF hR e7
  clear hR
  obtain ⟨kh8, e9, hR⟩ := hT
  refine bE e9 ?_
  replace hG := zbnd hG
  obtain ⟨h7, e10, hG⟩ := hG
  have hT := k_pF hR e10
  clear hR
  obtain ⟨kh11, e12, hR⟩ := hT
  refine bE e12 ?_
  replace hG := zbnd hG
  obtain ⟨h9, e13, hG⟩ := hG
  have hT := k_pF hR e13
  clear hR
  obtain ⟨kh14, e15, hR⟩ := hT
  refine bE e15 ?_
  replace hG := zbnd hG
  obtain ⟨h11, e16, hG⟩ := hG
  have hT := k_pF hR e16
  clear hR
  obtain ⟨kh17, e18, hR⟩ := hT
  refine bE e18 ?_
  replace hG := Option.some.inj hG
  subst hG
  exact ⟨_, rfl, hR⟩
def cb16_12 (n : Nat)   (l0 : Int32) (h : zY) : Option (Int32 × zY) :=
  if l0 < 65 then
    some (0, h)
  else
    if (90 : Int32) < l0 then
      some (0, h)
    else
      some (1, h)
set_option maxRecDepth 20000 in
theorem kb16_12 {n : Nat} {Mm : Nat → Option zO}     {l0 : Int32}  {kh : zH} {h : zY} {p : Int32 × zY} (hR : Rep Mm kh h) (hG : cb16_12 n   l0 h = some p) : ∃ kh1 : zH, b16_12 n   l0 kh = some (p.1, kh1) ∧ Rep Mm kh1 p.2 := by
  unfold cb16_12 at hG
  unfold b16_12
  by_cases c1 : l0 < 65
  · rw [if_pos c1] at hG
    refine iE1 c1 ?_
    replace hG := Option.some.inj hG
    subst hG
    exact ⟨_, rfl, hR⟩
  · rw [if_neg c1] at hG
    refine iE2 c1 ?_
    by_cases c2 : (90 : Int32) < l0
    · rw [if_pos c2] at hG
      refine iE1 c2 ?_
      replace hG := Option.some.inj hG
      subst hG
      exact ⟨_, rfl, hR⟩
    · rw [if_neg c2] at hG
      refine iE2 c2 ?_
      replace hG := Option.some.inj hG
      subst hG
      exact ⟨_, rfl, hR⟩
def c16 (n : Nat)  (y0 : Int32) (h : zY) : Option (Int32 × zY) :=
  if y0 < 97 then
    cb16_12 n  y0 h
  else
    if y0 ≤ 122 then
      some (1, h)
    else
      cb16_12 n  y0 h
set_option maxRecDepth 20000 in
theorem k16 {n : Nat} {Mm : Nat → Option zO}   {y0 : Int32} {kh : zH} {h : zY} {p : Int32 × zY} (hR : Rep Mm kh h) (hG : c16 n  y0 h = some p) : ∃ kh1 : zH, f16 n  y0 kh = some (p.1, kh1) ∧ Rep Mm kh1 p.2 := by
  unfold c16 at hG
  unfold f16
  by_cases c1 : y0 < 97
  · rw [if_pos c1] at hG
    refine iE1 c1 ?_
    exact kb16_12 (n := n) hR hG
  · rw [if_neg c1] at hG
    refine iE2 c1 ?_
    by_cases c2 : y0 ≤ 122
    · rw [if_pos c2] at hG
      refine iE1 c2 ?_
      replace hG := Option.some.inj hG
      subst hG
      exact ⟨_, rfl, hR⟩
    · rw [if_neg c2] at hG
      refine iE2 c2 ?_
      exact kb16_12 (n := n) hR hG
def c19 (n : Nat)  (y0 : Int32) (h : zY) : Option (Int32 × zY) :=
  if y0 < 48 then
    some (0, h)
  else
    if (57 : Int32) < y0 then
      some (0, h)
    else
      some (1, h)
set_option maxRecDepth 20000 in
theorem k19 {n : Nat} {Mm : Nat → Option zO}   {y0 : Int32} {kh : zH} {h : zY} {p : Int32 × zY} (hR : Rep Mm kh h) (hG : c19 n  y0 h = some p) : ∃ kh1 : zH, f19 n  y0 kh = some (p.1, kh1) ∧ Rep Mm kh1 p.2 := by
  unfold c19 at hG
  unfold f19
  by_cases c1 : y0 < 48
  · rw [if_pos c1] at hG
    refine iE1 c1 ?_
    replace hG := Option.some.inj hG
    subst hG
    exact ⟨_, rfl, hR⟩
  · rw [if_neg c1] at hG
    refine iE2 c1 ?_
    by_cases c2 : (57 : Int32) < y0
    · rw [if_pos c2] at hG
      refine iE1 c2 ?_
      replace hG := Option.some.inj hG
      subst hG
      exact ⟨_, rfl, hR⟩
    · rw [if_neg c2] at hG
      refine iE2 c2 ?_
      replace hG := Option.some.inj hG
      subst hG
      exact ⟨_, rfl, hR⟩
def c18 (n : Nat)  (y0 : Int32) (h : zY) : Option (Int32 × zY) :=
  (c16 n y0 h).bind fun p2 =>
  if p2.1 = 0 then
    (c19 n y0 p2.2).bind fun p5 =>
    if p5.1 = 0 then
      if y0 = 95 then
        some (1, p5.2)
      else
        some (0, p5.2)
    else
      some (1, p5.2)
  else
    some (1, p2.2)
set_option maxRecDepth 20000 in
theorem k18 {n : Nat} {Mm : Nat → Option zO}   {y0 : Int32} {kh : zH} {h : zY} {p : Int32 × zY} (hR : Rep Mm kh h) (hG : c18 n  y0 h = some p) : ∃ kh1 : zH, f18 n  y0 kh = some (p.1, kh1) ∧ Rep Mm kh1 p.2 := by
  unfold c18 at hG
  unfold f18
  replace hG := zbnd hG
  obtain ⟨p2, e1, hG⟩ := hG
  have hT := k16 hR e1
  clear hR
  obtain ⟨kh2, e3, hR⟩ := hT
  refine bE e3 ?_
  by_cases c4 : p2.1 = 0
  · rw [if_pos c4] at hG
    refine iE1 c4 ?_
    replace hG := zbnd hG
    obtain ⟨p5, e5, hG⟩ := hG
    have hT := k19 hR e5
    clear hR
    obtain ⟨kh6, e7, hR⟩ := hT
    refine bE e7 ?_
    by_cases c8 : p5.1 = 0
    · rw [if_pos c8] at hG
      refine iE1 c8 ?_
      by_cases c9 : y0 = 95
      · rw [if_pos c9] at hG
        refine iE1 c9 ?_
        replace hG := Option.some.inj hG
        subst hG
        exact ⟨_, rfl, hR⟩
      · rw [if_neg c9] at hG
        refine iE2 c9 ?_
        replace hG := Option.some.inj hG
        subst hG
        exact ⟨_, rfl, hR⟩
    · rw [if_neg c8] at hG
      refine iE2 c8 ?_
      replace hG := Option.some.inj hG
      subst hG
      exact ⟨_, rfl, hR⟩
  · rw [if_neg c4] at hG
    refine iE2 c4 ?_
    replace hG := Option.some.inj hG
    subst hG
    exact ⟨_, rfl, hR⟩
def c20 (n : Nat)  (y0 : Nat) (y1 : Int32) (h : zY) : Option (Option Nat × zY) :=
  (c15 n h.2.1 (some 2) y1 y1 (some 49) 0 (yN h 9 6)).bind fun p2 =>
  some ((some h.2.1), p2.2)
set_option maxRecDepth 20000 in
theorem k20 {n : Nat} {Mm : Nat → Option zO}   {y0 : Nat} {y1 : Int32} {kh : zH} {h : zY} {p : Option Nat × zY} (hR : Rep Mm kh h) (hG : c20 n  y0 y1 h = some p) : ∃ kh1 : zH, f20 n  y0 y1 kh = some (p.1, kh1) ∧ Rep Mm kh1 p.2 := by
  unfold c20 at hG
  unfold f20
  try rw [rep_n hR] at hG
  replace hR := k_nO (ci := 9) (n := 6) hR
  replace hG := zbnd hG
  obtain ⟨p2, e1, hG⟩ := hG
  have hT := k15 hR e1
  clear hR
  obtain ⟨kh2, e3, hR⟩ := hT
  refine bE e3 ?_
  replace hG := Option.some.inj hG
  subst hG
  exact ⟨_, rfl, hR⟩
def c22 (n : Nat)  (y0 : Int32) (y1 : Int32) (h : zY) : Option (Int32 × zY) :=
  if y0 < y1 then
    some (y1, h)
  else
    some (y0, h)
set_option maxRecDepth 20000 in
theorem k22 {n : Nat} {Mm : Nat → Option zO}   {y0 : Int32} {y1 : Int32} {kh : zH} {h : zY} {p : Int32 × zY} (hR : Rep Mm kh h) (hG : c22 n  y0 y1 h = some p) : ∃ kh1 : zH, f22 n  y0 y1 kh = some (p.1, kh1) ∧ Rep Mm kh1 p.2 := by
  unfold c22 at hG
  unfold f22
  by_cases c1 : y0 < y1
  · rw [if_pos c1] at hG
    refine iE1 c1 ?_
    replace hG := Option.some.inj hG
    subst hG
    exact ⟨_, rfl, hR⟩
  · rw [if_neg c1] at hG
    refine iE2 c1 ?_
    replace hG := Option.some.inj hG
    subst hG
    exact ⟨_, rfl, hR⟩
def cb26_3 (n : Nat)  (r3 : Option Nat → Int32 → Option Nat → Int32 → Int32 → Int32 → zY → Option (Int32 × zY)) (l0 : Option Nat) (l1 : Int32) (l2 : Option Nat) (l3 : Int32) (l4 : Int32) (l5 : Int32) (h : zY) : Option (Int32 × zY) :=
  if l4 ≤ l5 then
    some (l4, h)
  else
    l0.bind fun a2 =>
    (yaC h a2 l1).bind fun x3 =>
    if x3 ≤ 255 then
      l2.bind fun a6 =>
      (yS zsB h a6 l3 (.int x3.toInt8.toInt32)).bind fun h7 =>
      r3 (some a2) (l1 + 1) (some a6) (l3 + 1) l4 (l5 + 1) h7
    else
      some (l5, h)
set_option maxRecDepth 20000 in
theorem kb26_3 {n : Nat} {Mm : Nat → Option zO}  {q3 : Option Nat → Int32 → Option Nat → Int32 → Int32 → Int32 → zY → Option (Int32 × zY)} {r3 : Option Nat → Int32 → Option Nat → Int32 → Int32 → Int32 → zH → Option (Int32 × zH)}  (hr3 : ∀ {l0 : Option Nat} {l1 : Int32} {l2 : Option Nat} {l3 : Int32} {l4 : Int32} {l5 : Int32}  {kh : zH} {h : zY} {p : Int32 × zY}, Rep Mm kh h → q3 l0 l1 l2 l3 l4 l5 h = some p → ∃ kh1 : zH, r3 l0 l1 l2 l3 l4 l5 kh = some (p.1, kh1) ∧ Rep Mm kh1 p.2) {l0 : Option Nat} {l1 : Int32} {l2 : Option Nat} {l3 : Int32} {l4 : Int32} {l5 : Int32}  {kh : zH} {h : zY} {p : Int32 × zY} (hR : Rep Mm kh h) (hG : cb26_3 n  q3 l0 l1 l2 l3 l4 l5 h = some p) : ∃ kh1 : zH, b26_3 n  r3 l0 l1 l2 l3 l4 l5 kh = some (p.1, kh1) ∧ Rep Mm kh1 p.2 := by
  unfold cb26_3 at hG
  unfold b26_3
  by_cases c1 : l4 ≤ l5
  · rw [if_pos c1] at hG
    refine iE1 c1 ?_
    replace hG := Option.some.inj hG
    subst hG
    exact ⟨_, rfl, hR⟩
  · rw [if_neg c1] at hG
    refine iE2 c1 ?_
    replace hG := zbnd hG
    obtain ⟨a2, rfl, hG⟩ := hG
    refine bE rfl ?_
    replace hG := zbnd hG
    obtain ⟨x3, e3, hG⟩ := hG
    refine bE (k_aC hR e3) ?_
    by_cases c4 : x3 ≤ 255
    · rw [if_pos c4] at hG
      refine iE1 c4 ?_
      replace hG := zbnd hG
      obtain ⟨a6, rfl, hG⟩ := hG
      refine bE rfl ?_
      replace hG := zbnd hG
      obtain ⟨h7, e6, hG⟩ := hG
      have hT := k_sB hR e6
      clear hR
      obtain ⟨kh7, e8, hR⟩ := hT
      refine bE e8 ?_
      exact hr3 hR hG
    · rw [if_neg c4] at hG
      refine iE2 c4 ?_
      replace hG := Option.some.inj hG
      subst hG
      exact ⟨_, rfl, hR⟩
def cf26_3 (n : Nat)   (k : Nat) : Option Nat → Int32 → Option Nat → Int32 → Int32 → Int32 → zY → Option (Int32 × zY) := Nat.rec (fun _ _ _ _ _ _ _ => none) (fun _ ih => cb26_3 n  ih) k
theorem kf26_3 {n : Nat} {Mm : Nat → Option zO}     (k : Nat) : ∀ {l0 : Option Nat} {l1 : Int32} {l2 : Option Nat} {l3 : Int32} {l4 : Int32} {l5 : Int32}  {kh : zH} {h : zY} {p : Int32 × zY}, Rep Mm kh h → cf26_3 n   k l0 l1 l2 l3 l4 l5 h = some p → ∃ kh1 : zH, f26_3 n   k l0 l1 l2 l3 l4 l5 kh = some (p.1, kh1) ∧ Rep Mm kh1 p.2 := by
  induction k with
  | zero => intros; rename_i hG; cases hG
  | succ k ih => intros; rename_i hR hG; exact kb26_3 (n := n) (q3 := cf26_3 n   k) (r3 := f26_3 n   k)  ih hR hG
def c26 (n : Nat)  (y0 : Option Nat) (y1 : Int32) (y2 : Option Nat) (y3 : Int32) (y4 : Int32) (h : zY) : Option (Int32 × zY) :=
  cf26_3 n  n y0 y1 y2 y3 y4 0 h
set_option maxRecDepth 20000 in
theorem k26 {n : Nat} {Mm : Nat → Option zO}   {y0 : Option Nat} {y1 : Int32} {y2 : Option Nat} {y3 : Int32} {y4 : Int32} {kh : zH} {h : zY} {p : Int32 × zY} (hR : Rep Mm kh h) (hG : c26 n  y0 y1 y2 y3 y4 h = some p) : ∃ kh1 : zH, f26 n  y0 y1 y2 y3 y4 kh = some (p.1, kh1) ∧ Rep Mm kh1 p.2 := by
  unfold c26 at hG
  unfold f26
  exact kf26_3 (n := n) n hR hG
def c25 (n : Nat)  (y0 : Option Nat) (y1 : Int32) (y2 : Int32) (h : zY) : Option (Option Nat × zY) :=
  (yA h 1 y2).bind fun h1 =>
  (c26 n y0 y1 (some h.2.1) 0 y2 h1).bind fun p4 =>
  if p4.1 = y2 then
    some ((some h.2.1), p4.2)
  else
    none
set_option maxRecDepth 20000 in
theorem k25 {n : Nat} {Mm : Nat → Option zO}   {y0 : Option Nat} {y1 : Int32} {y2 : Int32} {kh : zH} {h : zY} {p : Option Nat × zY} (hR : Rep Mm kh h) (hG : c25 n  y0 y1 y2 h = some p) : ∃ kh1 : zH, f25 n  y0 y1 y2 kh = some (p.1, kh1) ∧ Rep Mm kh1 p.2 := by
  unfold c25 at hG
  unfold f25
  try rw [rep_n hR] at hG
  replace hG := zbnd hG
  obtain ⟨h1, e1, hG⟩ := hG
  have hT := k_nA hR e1
  clear hR
  obtain ⟨kh2, e3, hR⟩ := hT
  refine bE e3 ?_
  replace hG := zbnd hG
  obtain ⟨p4, e4, hG⟩ := hG
  have hT := k26 hR e4
  clear hR
  obtain ⟨kh5, e6, hR⟩ := hT
  refine bE e6 ?_
  by_cases c7 : p4.1 = y2
  · rw [if_pos c7] at hG
    refine iE1 c7 ?_
    replace hG := Option.some.inj hG
    subst hG
    exact ⟨_, rfl, hR⟩
  · rw [if_neg c7] at hG
    refine iE2 c7 ?_
    cases hG
def c27 (n : Nat)  (y0 : Option Nat) (y1 : Int32) (h : zY) : Option (Int32 × zY) :=
  y0.bind fun a1 =>
  (yL h a1).bind fun x2 =>
  zgd (zrtn .byte ((((y1 - x2).toUInt32 >>> ((31 : Int32).toUInt32 &&& Int32.toUInt32 31)).toInt32).toInt8.toInt32)) <|
  some ((((y1 - x2).toUInt32 >>> ((31 : Int32).toUInt32 &&& Int32.toUInt32 31)).toInt32).toInt8.toInt32, h)
set_option maxRecDepth 20000 in
theorem k27 {n : Nat} {Mm : Nat → Option zO}   {y0 : Option Nat} {y1 : Int32} {kh : zH} {h : zY} {p : Int32 × zY} (hR : Rep Mm kh h) (hG : c27 n  y0 y1 h = some p) : ∃ kh1 : zH, f27 n  y0 y1 kh = some (p.1, kh1) ∧ Rep Mm kh1 p.2 := by
  unfold c27 at hG
  unfold f27
  replace hG := zbnd hG
  obtain ⟨a1, rfl, hG⟩ := hG
  refine bE rfl ?_
  replace hG := zbnd hG
  obtain ⟨x2, e2, hG⟩ := hG
  refine bE (k_aN hR e2) ?_
  replace hG := zgd_some hG
  obtain ⟨g3, hG⟩ := hG
  refine zE g3 ?_
  replace hG := Option.some.inj hG
  subst hG
  exact ⟨_, rfl, hR⟩
def c24 (n : Nat)  (y0 : Nat) (y1 : Option Nat) (y2 : Int32) (y3 : Int32) (y4 : Option Nat) (h : zY) : Option (Unit × zY) :=
  if y3 = 0 then
    (yR h 49 12 0).bind fun x2 =>
    (yP h y0 12 0 (va_rf x2)).bind fun h4 =>
    (yI h4 49 12 1).bind fun x6 =>
    (yP h4 y0 12 1 (.int x6)).bind fun h8 =>
    some ((), h8)
  else
    if (1 : Int32) = 0 then
      none
    else
      (c25 n y1 y2 y3 h).bind fun p12 =>
      (c27 n p12.1 y3 p12.2).bind fun p14 =>
      (yP p14.2 y0 12 1 (.int p14.1)).bind fun h15 =>
      (yP h15 y0 12 0 (va_rf p12.1)).bind fun h17 =>
      some ((), h17)
set_option maxRecDepth 20000 in
theorem k24 {n : Nat} {Mm : Nat → Option zO}   {y0 : Nat} {y1 : Option Nat} {y2 : Int32} {y3 : Int32} {y4 : Option Nat} {kh : zH} {h : zY} {p : Unit × zY} (hR : Rep Mm kh h) (hG : c24 n  y0 y1 y2 y3 y4 h = some p) : ∃ kh1 : zH, f24 n  y0 y1 y2 y3 y4 kh = some (p.1, kh1) ∧ Rep Mm kh1 p.2 := by
  unfold c24 at hG
  unfold f24
  by_cases c1 : y3 = 0
  · rw [if_pos c1] at hG
    refine iE1 c1 ?_
    replace hG := zbnd hG
    obtain ⟨x2, e2, hG⟩ := hG
    refine bE (k_gR hR e2) ?_
    replace hG := zbnd hG
    obtain ⟨h4, e3, hG⟩ := hG
    have hT := k_pF hR e3
    clear hR
    obtain ⟨kh4, e5, hR⟩ := hT
    refine bE e5 ?_
    replace hG := zbnd hG
    obtain ⟨x6, e6, hG⟩ := hG
    refine bE (k_gI hR e6) ?_
    replace hG := zbnd hG
    obtain ⟨h8, e7, hG⟩ := hG
    have hT := k_pF hR e7
    clear hR
    obtain ⟨kh8, e9, hR⟩ := hT
    refine bE e9 ?_
    replace hG := Option.some.inj hG
    subst hG
    exact ⟨_, rfl, hR⟩
  · rw [if_neg c1] at hG
    refine iE2 c1 ?_
    by_cases c10 : (1 : Int32) = 0
    · rw [if_pos c10] at hG
      refine iE1 c10 ?_
      cases hG
    · rw [if_neg c10] at hG
      refine iE2 c10 ?_
      replace hG := zbnd hG
      obtain ⟨p12, e11, hG⟩ := hG
      have hT := k25 hR e11
      clear hR
      obtain ⟨kh12, e13, hR⟩ := hT
      refine bE e13 ?_
      replace hG := zbnd hG
      obtain ⟨p14, e14, hG⟩ := hG
      have hT := k27 hR e14
      clear hR
      obtain ⟨kh15, e16, hR⟩ := hT
      refine bE e16 ?_
      replace hG := zbnd hG
      obtain ⟨h15, e17, hG⟩ := hG
      have hT := k_pF hR e17
      clear hR
      obtain ⟨kh18, e19, hR⟩ := hT
      refine bE e19 ?_
      replace hG := zbnd hG
      obtain ⟨h17, e20, hG⟩ := hG
      have hT := k_pF hR e20
      clear hR
      obtain ⟨kh21, e22, hR⟩ := hT
      refine bE e22 ?_
      replace hG := Option.some.inj hG
      subst hG
      exact ⟨_, rfl, hR⟩
def c23v (n : Nat)  (y0 : Nat) (y1 : Option Nat) (h : zY) : Option (Unit × zY) :=
  y1.bind fun a1 =>
  (yL h a1).bind fun x2 =>
  (c24 n y0 (some a1) 0 x2 none h).bind fun p5 =>
  some ((), p5.2)
set_option maxRecDepth 20000 in
theorem k23v {n : Nat} {Mm : Nat → Option zO}   {y0 : Nat} {y1 : Option Nat} {kh : zH} {h : zY} {p : Unit × zY} (hR : Rep Mm kh h) (hG : c23v n  y0 y1 h = some p) : ∃ kh1 : zH, f23 n  y0 y1 kh = some (p.1, kh1) ∧ Rep Mm kh1 p.2 := by
  unfold c23v at hG
  unfold f23
  replace hG := zbnd hG
  obtain ⟨a1, rfl, hG⟩ := hG
  refine bE rfl ?_
  replace hG := zbnd hG
  obtain ⟨x2, e2, hG⟩ := hG
  refine bE (k_aN hR e2) ?_
  replace hG := zbnd hG
  obtain ⟨p5, e3, hG⟩ := hG
  have hT := k24 hR e3
  clear hR
  obtain ⟨kh4, e5, hR⟩ := hT
  refine bE e5 ?_
  replace hG := Option.some.inj hG
  subst hG
  exact ⟨_, rfl, hR⟩
def c23 (n : Nat) (y0 : Nat) (y1 : Option Nat) (h : zY) : Option (Unit × zY) := match yE0 h y0 y1 with
  | some h1 => some ((), h1)
  | none =>
    (c23v n y0 y1 h).bind fun p =>
    (yHS p.2 y0).bind fun h1 =>
    some ((), h1)
theorem k23 {n : Nat} {Mm : Nat → Option zO} {y0 : Nat} {y1 : Option Nat} {kh : zH} {h : zY} {p : Unit × zY} (hR : Rep Mm kh h) (hG : c23 n y0 y1 h = some p) : ∃ kh1 : zH, f23 n y0 y1 kh = some (p.1, kh1) ∧ Rep Mm kh1 p.2 := by
  unfold c23 at hG
  cases he : yE0 h y0 y1 with
  | some h1 =>
    rw [he] at hG
    cases hG
    exact k_E0 hR he
  | none =>
    rw [he] at hG
    replace hG := zbnd hG
    obtain ⟨q, e, hG⟩ := hG
    replace hG := zbnd hG
    obtain ⟨h1, e1, hG⟩ := hG
    cases hG
    obtain ⟨kh1, e2, hR⟩ := k23v hR e
    exact ⟨kh1, e2, k_HS hR e1⟩
def cb21_13 (n : Nat)  (r13 : Nat → Int32 → Int32 → Nat → Int32 → zY → Option (Option Nat × zY)) (l0 : Nat) (l1 : Int32) (l2 : Int32) (l3 : Nat) (l4 : Int32) (h : zY) : Option (Option Nat × zY) :=
  (yL h l3).bind fun x1 =>
  if x1 ≤ l4 then
    (c23 n h.2.1 (some l3) (yN h 12 4)).bind fun p5 =>
    some ((some h.2.1), p5.2)
  else
    zgd (yisO h l0 8) <|
    (c12 n l0 (l1 + l4) h).bind fun p8 =>
    (yS zsC p8.2 l3 l4 (.int (((p8.1 &&& 255).toUInt32 % 65536).toInt32))).bind fun h9 =>
    r13 l0 l1 l2 l3 (l4 + 1) h9
set_option maxRecDepth 20000 in
theorem kb21_13 {n : Nat} {Mm : Nat → Option zO}  {q13 : Nat → Int32 → Int32 → Nat → Int32 → zY → Option (Option Nat × zY)} {r13 : Nat → Int32 → Int32 → Nat → Int32 → zH → Option (Option Nat × zH)}  (hr13 : ∀ {l0 : Nat} {l1 : Int32} {l2 : Int32} {l3 : Nat} {l4 : Int32}  {kh : zH} {h : zY} {p : Option Nat × zY}, Rep Mm kh h → q13 l0 l1 l2 l3 l4 h = some p → ∃ kh1 : zH, r13 l0 l1 l2 l3 l4 kh = some (p.1, kh1) ∧ Rep Mm kh1 p.2) {l0 : Nat} {l1 : Int32} {l2 : Int32} {l3 : Nat} {l4 : Int32}  {kh : zH} {h : zY} {p : Option Nat × zY} (hR : Rep Mm kh h) (hG : cb21_13 n  q13 l0 l1 l2 l3 l4 h = some p) : ∃ kh1 : zH, b21_13 n  r13 l0 l1 l2 l3 l4 kh = some (p.1, kh1) ∧ Rep Mm kh1 p.2 := by
  unfold cb21_13 at hG
  unfold b21_13
  replace hG := zbnd hG
  obtain ⟨x1, e1, hG⟩ := hG
  refine bE (k_aN hR e1) ?_
  by_cases c2 : x1 ≤ l4
  · rw [if_pos c2] at hG
    refine iE1 c2 ?_
    try rw [rep_n hR] at hG
    replace hR := k_nO (ci := 12) (n := 4) hR
    replace hG := zbnd hG
    obtain ⟨p5, e3, hG⟩ := hG
    have hT := k23 hR e3
    clear hR
    obtain ⟨kh4, e5, hR⟩ := hT
    refine bE e5 ?_
    replace hG := Option.some.inj hG
    subst hG
    exact ⟨_, rfl, hR⟩
  · rw [if_neg c2] at hG
    refine iE2 c2 ?_
    replace hG := zgd_some hG
    obtain ⟨g6, hG⟩ := hG
    refine zE (k_isO hR g6) ?_
    replace hG := zbnd hG
    obtain ⟨p8, e7, hG⟩ := hG
    have hT := k12 hR e7
    clear hR
    obtain ⟨kh8, e9, hR⟩ := hT
    refine bE e9 ?_
    replace hG := zbnd hG
    obtain ⟨h9, e10, hG⟩ := hG
    have hT := k_sC hR e10
    clear hR
    obtain ⟨kh11, e12, hR⟩ := hT
    refine bE e12 ?_
    exact hr13 hR hG
def cf21_13 (n : Nat)   (k : Nat) : Nat → Int32 → Int32 → Nat → Int32 → zY → Option (Option Nat × zY) := Nat.rec (fun _ _ _ _ _ _ => none) (fun _ ih => cb21_13 n  ih) k
theorem kf21_13 {n : Nat} {Mm : Nat → Option zO}     (k : Nat) : ∀ {l0 : Nat} {l1 : Int32} {l2 : Int32} {l3 : Nat} {l4 : Int32}  {kh : zH} {h : zY} {p : Option Nat × zY}, Rep Mm kh h → cf21_13 n   k l0 l1 l2 l3 l4 h = some p → ∃ kh1 : zH, f21_13 n   k l0 l1 l2 l3 l4 kh = some (p.1, kh1) ∧ Rep Mm kh1 p.2 := by
  induction k with
  | zero => intros; rename_i hG; cases hG
  | succ k ih => intros; rename_i hR hG; exact kb21_13 (n := n) (q13 := cf21_13 n   k) (r13 := f21_13 n   k)  ih hR hG
def c21 (n : Nat)  (y0 : Nat) (y1 : Int32) (y2 : Int32) (h : zY) : Option (Option Nat × zY) :=
  (c22 n 0 (y2 - y1) h).bind fun p2 =>
  (yA p2.2 3 p2.1).bind fun h3 =>
  cf21_13 n  n y0 y1 y2 p2.2.2.1 0 h3
set_option maxRecDepth 20000 in
theorem k21 {n : Nat} {Mm : Nat → Option zO}   {y0 : Nat} {y1 : Int32} {y2 : Int32} {kh : zH} {h : zY} {p : Option Nat × zY} (hR : Rep Mm kh h) (hG : c21 n  y0 y1 y2 h = some p) : ∃ kh1 : zH, f21 n  y0 y1 y2 kh = some (p.1, kh1) ∧ Rep Mm kh1 p.2 := by
  unfold c21 at hG
  unfold f21
  replace hG := zbnd hG
  obtain ⟨p2, e1, hG⟩ := hG
  have hT := k22 hR e1
  clear hR
  obtain ⟨kh2, e3, hR⟩ := hT
  refine bE e3 ?_
  try rw [rep_n hR] at hG
  replace hG := zbnd hG
  obtain ⟨h3, e4, hG⟩ := hG
  have hT := k_nA hR e4
  clear hR
  obtain ⟨kh5, e6, hR⟩ := hT
  refine bE e6 ?_
  exact kf21_13 (n := n) n hR hG
def cb28_2 (n : Nat)  (r2 : Option Nat → Int32 → zY → Option (Option Nat × zY)) (l0 : Option Nat) (l1 : Int32) (h : zY) : Option (Option Nat × zY) :=
  (yL h 44).bind fun x1 =>
  if x1 ≤ l1 then
    some ((some 3), h)
  else
    (yaR h 44 l1).bind fun x4 =>
    x4.bind fun a6 =>
    (yR h a6 15 1).bind fun x7 =>
    x7.bind fun a9 =>
    zgd (yisO h a9 12) <|
    (c29 n a9 l0 h).bind fun p12 =>
    if p12.1 = 0 then
      r2 l0 (l1 + 1) p12.2
    else
      (yaR p12.2 44 l1).bind fun x14 =>
      some (x14, p12.2)
set_option maxRecDepth 20000 in
theorem kb28_2 {n : Nat} {Mm : Nat → Option zO}  {q2 : Option Nat → Int32 → zY → Option (Option Nat × zY)} {r2 : Option Nat → Int32 → zH → Option (Option Nat × zH)}  (hr2 : ∀ {l0 : Option Nat} {l1 : Int32}  {kh : zH} {h : zY} {p : Option Nat × zY}, Rep Mm kh h → q2 l0 l1 h = some p → ∃ kh1 : zH, r2 l0 l1 kh = some (p.1, kh1) ∧ Rep Mm kh1 p.2) {l0 : Option Nat} {l1 : Int32}  {kh : zH} {h : zY} {p : Option Nat × zY} (hR : Rep Mm kh h) (hG : cb28_2 n  q2 l0 l1 h = some p) : ∃ kh1 : zH, b28_2 n  r2 l0 l1 kh = some (p.1, kh1) ∧ Rep Mm kh1 p.2 := by
  unfold cb28_2 at hG
  unfold b28_2
  replace hG := zbnd hG
  obtain ⟨x1, e1, hG⟩ := hG
  refine bE (k_aN hR e1) ?_
  by_cases c2 : x1 ≤ l1
  · rw [if_pos c2] at hG
    refine iE1 c2 ?_
    replace hG := Option.some.inj hG
    subst hG
    exact ⟨_, rfl, hR⟩
  · rw [if_neg c2] at hG
    refine iE2 c2 ?_
    replace hG := zbnd hG
    obtain ⟨x4, e3, hG⟩ := hG
    refine bE (k_aR hR e3) ?_
    replace hG := zbnd hG
    obtain ⟨a6, rfl, hG⟩ := hG
    refine bE rfl ?_
    replace hG := zbnd hG
    obtain ⟨x7, e5, hG⟩ := hG
    refine bE (k_gR hR e5) ?_
    replace hG := zbnd hG
    obtain ⟨a9, rfl, hG⟩ := hG
    refine bE rfl ?_
    replace hG := zgd_some hG
    obtain ⟨g7, hG⟩ := hG
    refine zE (k_isO hR g7) ?_
    replace hG := zbnd hG
    obtain ⟨p12, e8, hG⟩ := hG
    have hT := k29 hR e8
    clear hR
    obtain ⟨kh9, e10, hR⟩ := hT
    refine bE e10 ?_
    by_cases c11 : p12.1 = 0
    · rw [if_pos c11] at hG
      refine iE1 c11 ?_
      exact hr2 hR hG
    · rw [if_neg c11] at hG
      refine iE2 c11 ?_
      replace hG := zbnd hG
      obtain ⟨x14, e12, hG⟩ := hG
      refine bE (k_aR hR e12) ?_
      replace hG := Option.some.inj hG
      subst hG
      exact ⟨_, rfl, hR⟩
def cf28_2 (n : Nat)   (k : Nat) : Option Nat → Int32 → zY → Option (Option Nat × zY) := Nat.rec (fun _ _ _ => none) (fun _ ih => cb28_2 n  ih) k
theorem kf28_2 {n : Nat} {Mm : Nat → Option zO}     (k : Nat) : ∀ {l0 : Option Nat} {l1 : Int32}  {kh : zH} {h : zY} {p : Option Nat × zY}, Rep Mm kh h → cf28_2 n   k l0 l1 h = some p → ∃ kh1 : zH, f28_2 n   k l0 l1 kh = some (p.1, kh1) ∧ Rep Mm kh1 p.2 := by
  induction k with
  | zero => intros; rename_i hG; cases hG
  | succ k ih => intros; rename_i hR hG; exact kb28_2 (n := n) (q2 := cf28_2 n   k) (r2 := f28_2 n   k)  ih hR hG
def c28 (n : Nat)  (y0 : Option Nat) (h : zY) : Option (Option Nat × zY) :=
  cf28_2 n  n y0 0 h
set_option maxRecDepth 20000 in
theorem k28 {n : Nat} {Mm : Nat → Option zO}   {y0 : Option Nat} {kh : zH} {h : zY} {p : Option Nat × zY} (hR : Rep Mm kh h) (hG : c28 n  y0 h = some p) : ∃ kh1 : zH, f28 n  y0 kh = some (p.1, kh1) ∧ Rep Mm kh1 p.2 := by
  unfold c28 at hG
  unfold f28
  exact kf28_2 (n := n) n hR hG
def cb17_27 (n : Nat)   (l0 : Nat) (l1 : Int32) (l2 : Int32) (h : zY) : Option (Option Nat × zY) :=
  if (l2 - l1) ≤ 16 then
    zgd (yisO h l0 8) <|
    (c21 n l0 l1 l2 h).bind fun p4 =>
    (c28 n p4.1 (yN p4.2 9 6)).bind fun p6 =>
    (c15 n p4.2.2.1 p6.1 l1 l2 p4.1 0 p6.2).bind fun p8 =>
    some ((some p4.2.2.1), p8.2)
  else
    zgd (yisO h l0 8) <|
    (c20 n l0 l1 h).bind fun p11 =>
    some (p11.1, p11.2)
set_option maxRecDepth 20000 in
theorem kb17_27 {n : Nat} {Mm : Nat → Option zO}     {l0 : Nat} {l1 : Int32} {l2 : Int32}  {kh : zH} {h : zY} {p : Option Nat × zY} (hR : Rep Mm kh h) (hG : cb17_27 n   l0 l1 l2 h = some p) : ∃ kh1 : zH, b17_27 n   l0 l1 l2 kh = some (p.1, kh1) ∧ Rep Mm kh1 p.2 := by
  unfold cb17_27 at hG
  unfold b17_27
  by_cases c1 : (l2 - l1) ≤ 16
  · rw [if_pos c1] at hG
    refine iE1 c1 ?_
    replace hG := zgd_some hG
    obtain ⟨g2, hG⟩ := hG
    refine zE (k_isO hR g2) ?_
    replace hG := zbnd hG
    obtain ⟨p4, e3, hG⟩ := hG
    have hT := k21 hR e3
    clear hR
    obtain ⟨kh4, e5, hR⟩ := hT
    refine bE e5 ?_
    try rw [rep_n hR] at hG
    replace hR := k_nO (ci := 9) (n := 6) hR
    replace hG := zbnd hG
    obtain ⟨p6, e6, hG⟩ := hG
    have hT := k28 hR e6
    clear hR
    obtain ⟨kh7, e8, hR⟩ := hT
    refine bE e8 ?_
    replace hG := zbnd hG
    obtain ⟨p8, e9, hG⟩ := hG
    have hT := k15 hR e9
    clear hR
    obtain ⟨kh10, e11, hR⟩ := hT
    refine bE e11 ?_
    replace hG := Option.some.inj hG
    subst hG
    exact ⟨_, rfl, hR⟩
  · rw [if_neg c1] at hG
    refine iE2 c1 ?_
    replace hG := zgd_some hG
    obtain ⟨g12, hG⟩ := hG
    refine zE (k_isO hR g12) ?_
    replace hG := zbnd hG
    obtain ⟨p11, e13, hG⟩ := hG
    have hT := k20 hR e13
    clear hR
    obtain ⟨kh14, e15, hR⟩ := hT
    refine bE e15 ?_
    replace hG := Option.some.inj hG
    subst hG
    exact ⟨_, rfl, hR⟩
def cb17_2 (n : Nat)  (r2 : Nat → Int32 → Int32 → zY → Option (Option Nat × zY)) (l0 : Nat) (l1 : Int32) (l2 : Int32) (h : zY) : Option (Option Nat × zY) :=
  (yI h l0 8 1).bind fun x1 =>
  if x1 ≤ l2 then
    cb17_27 n  l0 l1 l2 h
  else
    zgd (yisO h l0 8) <|
    (c12 n l0 l2 h).bind fun p6 =>
    (c18 n p6.1 p6.2).bind fun p8 =>
    if p8.1 = 0 then
      cb17_27 n  l0 l1 l2 p8.2
    else
      r2 l0 l1 (l2 + 1) p8.2
set_option maxRecDepth 20000 in
theorem kb17_2 {n : Nat} {Mm : Nat → Option zO}  {q2 : Nat → Int32 → Int32 → zY → Option (Option Nat × zY)} {r2 : Nat → Int32 → Int32 → zH → Option (Option Nat × zH)}  (hr2 : ∀ {l0 : Nat} {l1 : Int32} {l2 : Int32}  {kh : zH} {h : zY} {p : Option Nat × zY}, Rep Mm kh h → q2 l0 l1 l2 h = some p → ∃ kh1 : zH, r2 l0 l1 l2 kh = some (p.1, kh1) ∧ Rep Mm kh1 p.2) {l0 : Nat} {l1 : Int32} {l2 : Int32}  {kh : zH} {h : zY} {p : Option Nat × zY} (hR : Rep Mm kh h) (hG : cb17_2 n  q2 l0 l1 l2 h = some p) : ∃ kh1 : zH, b17_2 n  r2 l0 l1 l2 kh = some (p.1, kh1) ∧ Rep Mm kh1 p.2 := by
  unfold cb17_2 at hG
  unfold b17_2
  replace hG := zbnd hG
  obtain ⟨x1, e1, hG⟩ := hG
  refine bE (k_gI hR e1) ?_
  by_cases c2 : x1 ≤ l2
  · rw [if_pos c2] at hG
    refine iE1 c2 ?_
    exact kb17_27 (n := n) hR hG
  · rw [if_neg c2] at hG
    refine iE2 c2 ?_
    replace hG := zgd_some hG
    obtain ⟨g3, hG⟩ := hG
    refine zE (k_isO hR g3) ?_
    replace hG := zbnd hG
    obtain ⟨p6, e4, hG⟩ := hG
    have hT := k12 hR e4
    clear hR
    obtain ⟨kh5, e6, hR⟩ := hT
    refine bE e6 ?_
    replace hG := zbnd hG
    obtain ⟨p8, e7, hG⟩ := hG
    have hT := k18 hR e7
    clear hR
    obtain ⟨kh8, e9, hR⟩ := hT
    refine bE e9 ?_
    by_cases c10 : p8.1 = 0
    · rw [if_pos c10] at hG
      refine iE1 c10 ?_
      exact kb17_27 (n := n) hR hG
    · rw [if_neg c10] at hG
      refine iE2 c10 ?_
      exact hr2 hR hG
def cf17_2 (n : Nat)   (k : Nat) : Nat → Int32 → Int32 → zY → Option (Option Nat × zY) := Nat.rec (fun _ _ _ _ => none) (fun _ ih => cb17_2 n  ih) k
theorem kf17_2 {n : Nat} {Mm : Nat → Option zO}     (k : Nat) : ∀ {l0 : Nat} {l1 : Int32} {l2 : Int32}  {kh : zH} {h : zY} {p : Option Nat × zY}, Rep Mm kh h → cf17_2 n   k l0 l1 l2 h = some p → ∃ kh1 : zH, f17_2 n   k l0 l1 l2 kh = some (p.1, kh1) ∧ Rep Mm kh1 p.2 := by
  induction k with
  | zero => intros; rename_i hG; cases hG
  | succ k ih => intros; rename_i hR hG; exact kb17_2 (n := n) (q2 := cf17_2 n   k) (r2 := f17_2 n   k)  ih hR hG
def c17 (n : Nat)  (y0 : Nat) (y1 : Int32) (h : zY) : Option (Option Nat × zY) :=
  cf17_2 n  n y0 y1 y1 h
set_option maxRecDepth 20000 in
theorem k17 {n : Nat} {Mm : Nat → Option zO}   {y0 : Nat} {y1 : Int32} {kh : zH} {h : zY} {p : Option Nat × zY} (hR : Rep Mm kh h) (hG : c17 n  y0 y1 h = some p) : ∃ kh1 : zH, f17 n  y0 y1 kh = some (p.1, kh1) ∧ Rep Mm kh1 p.2 := by
  unfold c17 at hG
  unfold f17
  exact kf17_2 (n := n) n hR hG
def c32 (n : Nat)  (y0 : Int32) (h : zY) : Option (Int32 × zY) :=
  if y0 < 32 then
    some (0, h)
  else
    if (126 : Int32) < y0 then
      some (0, h)
    else
      if y0 = 39 then
        some (0, h)
      else
        some (1, h)
set_option maxRecDepth 20000 in
theorem k32 {n : Nat} {Mm : Nat → Option zO}   {y0 : Int32} {kh : zH} {h : zY} {p : Int32 × zY} (hR : Rep Mm kh h) (hG : c32 n  y0 h = some p) : ∃ kh1 : zH, f32 n  y0 kh = some (p.1, kh1) ∧ Rep Mm kh1 p.2 := by
  unfold c32 at hG
  unfold f32
  by_cases c1 : y0 < 32
  · rw [if_pos c1] at hG
    refine iE1 c1 ?_
    replace hG := Option.some.inj hG
    subst hG
    exact ⟨_, rfl, hR⟩
  · rw [if_neg c1] at hG
    refine iE2 c1 ?_
    by_cases c2 : (126 : Int32) < y0
    · rw [if_pos c2] at hG
      refine iE1 c2 ?_
      replace hG := Option.some.inj hG
      subst hG
      exact ⟨_, rfl, hR⟩
    · rw [if_neg c2] at hG
      refine iE2 c2 ?_
      by_cases c3 : y0 = 39
      · rw [if_pos c3] at hG
        refine iE1 c3 ?_
        replace hG := Option.some.inj hG
        subst hG
        exact ⟨_, rfl, hR⟩
      · rw [if_neg c3] at hG
        refine iE2 c3 ?_
        replace hG := Option.some.inj hG
        subst hG
        exact ⟨_, rfl, hR⟩
def cb31_49 (n : Nat)   (l0 : Nat) (l1 : Int32) (l2 : Int32) (h : zY) : Option (Option Nat × zY) :=
  zgd (yisO h l0 8) <|
  (c20 n l0 l1 h).bind fun p3 =>
  some (p3.1, p3.2)
set_option maxRecDepth 20000 in
theorem kb31_49 {n : Nat} {Mm : Nat → Option zO}     {l0 : Nat} {l1 : Int32} {l2 : Int32}  {kh : zH} {h : zY} {p : Option Nat × zY} (hR : Rep Mm kh h) (hG : cb31_49 n   l0 l1 l2 h = some p) : ∃ kh1 : zH, b31_49 n   l0 l1 l2 kh = some (p.1, kh1) ∧ Rep Mm kh1 p.2 := by
  unfold cb31_49 at hG
  unfold b31_49
  replace hG := zgd_some hG
  obtain ⟨g1, hG⟩ := hG
  refine zE (k_isO hR g1) ?_
  replace hG := zbnd hG
  obtain ⟨p3, e2, hG⟩ := hG
  have hT := k20 hR e2
  clear hR
  obtain ⟨kh3, e4, hR⟩ := hT
  refine bE e4 ?_
  replace hG := Option.some.inj hG
  subst hG
  exact ⟨_, rfl, hR⟩
def cb31_29 (n : Nat)   (l0 : Nat) (l1 : Int32) (l2 : Int32) (h : zY) : Option (Option Nat × zY) :=
  zgd (yisO h l0 8) <|
  (c12 n l0 l2 h).bind fun p3 =>
  if p3.1 = 39 then
    if ((l2 - l1) - 1) ≤ 16 then
      zgd (yisO (yN p3.2 9 6) l0 8) <|
      (c21 n l0 (l1 + 1) l2 (yN p3.2 9 6)).bind fun p8 =>
      (c15 n p3.2.2.1 (some 5) l1 (l2 + 1) p8.1 0 p8.2).bind fun p10 =>
      some ((some p3.2.2.1), p10.2)
    else
      cb31_49 n  l0 l1 l2 p3.2
  else
    cb31_49 n  l0 l1 l2 p3.2
set_option maxRecDepth 20000 in
theorem kb31_29 {n : Nat} {Mm : Nat → Option zO}     {l0 : Nat} {l1 : Int32} {l2 : Int32}  {kh : zH} {h : zY} {p : Option Nat × zY} (hR : Rep Mm kh h) (hG : cb31_29 n   l0 l1 l2 h = some p) : ∃ kh1 : zH, b31_29 n   l0 l1 l2 kh = some (p.1, kh1) ∧ Rep Mm kh1 p.2 := by
  unfold cb31_29 at hG
  unfold b31_29
  replace hG := zgd_some hG
  obtain ⟨g1, hG⟩ := hG
  refine zE (k_isO hR g1) ?_
  replace hG := zbnd hG
  obtain ⟨p3, e2, hG⟩ := hG
  have hT := k12 hR e2
  clear hR
  obtain ⟨kh3, e4, hR⟩ := hT
  refine bE e4 ?_
  by_cases c5 : p3.1 = 39
  · rw [if_pos c5] at hG
    refine iE1 c5 ?_
    by_cases c6 : ((l2 - l1) - 1) ≤ 16
    · rw [if_pos c6] at hG
      refine iE1 c6 ?_
      try rw [rep_n hR] at hG
      replace hR := k_nO (ci := 9) (n := 6) hR
      replace hG := zgd_some hG
      obtain ⟨g7, hG⟩ := hG
      refine zE (k_isO hR g7) ?_
      replace hG := zbnd hG
      obtain ⟨p8, e8, hG⟩ := hG
      have hT := k21 hR e8
      clear hR
      obtain ⟨kh9, e10, hR⟩ := hT
      refine bE e10 ?_
      replace hG := zbnd hG
      obtain ⟨p10, e11, hG⟩ := hG
      have hT := k15 hR e11
      clear hR
      obtain ⟨kh12, e13, hR⟩ := hT
      refine bE e13 ?_
      replace hG := Option.some.inj hG
      subst hG
      exact ⟨_, rfl, hR⟩
    · rw [if_neg c6] at hG
      refine iE2 c6 ?_
      exact kb31_49 (n := n) hR hG
  · rw [if_neg c5] at hG
    refine iE2 c5 ?_
    exact kb31_49 (n := n) hR hG
def cb31_4 (n : Nat)  (r4 : Nat → Int32 → Int32 → zY → Option (Option Nat × zY)) (l0 : Nat) (l1 : Int32) (l2 : Int32) (h : zY) : Option (Option Nat × zY) :=
  (yI h l0 8 1).bind fun x1 =>
  if x1 ≤ l2 then
    cb31_29 n  l0 l1 l2 h
  else
    zgd (yisO h l0 8) <|
    (c12 n l0 l2 h).bind fun p6 =>
    (c32 n p6.1 p6.2).bind fun p8 =>
    if p8.1 = 0 then
      cb31_29 n  l0 l1 l2 p8.2
    else
      r4 l0 l1 (l2 + 1) p8.2
set_option maxRecDepth 20000 in
theorem kb31_4 {n : Nat} {Mm : Nat → Option zO}  {q4 : Nat → Int32 → Int32 → zY → Option (Option Nat × zY)} {r4 : Nat → Int32 → Int32 → zH → Option (Option Nat × zH)}  (hr4 : ∀ {l0 : Nat} {l1 : Int32} {l2 : Int32}  {kh : zH} {h : zY} {p : Option Nat × zY}, Rep Mm kh h → q4 l0 l1 l2 h = some p → ∃ kh1 : zH, r4 l0 l1 l2 kh = some (p.1, kh1) ∧ Rep Mm kh1 p.2) {l0 : Nat} {l1 : Int32} {l2 : Int32}  {kh : zH} {h : zY} {p : Option Nat × zY} (hR : Rep Mm kh h) (hG : cb31_4 n  q4 l0 l1 l2 h = some p) : ∃ kh1 : zH, b31_4 n  r4 l0 l1 l2 kh = some (p.1, kh1) ∧ Rep Mm kh1 p.2 := by
  unfold cb31_4 at hG
  unfold b31_4
  replace hG := zbnd hG
  obtain ⟨x1, e1, hG⟩ := hG
  refine bE (k_gI hR e1) ?_
  by_cases c2 : x1 ≤ l2
  · rw [if_pos c2] at hG
    refine iE1 c2 ?_
    exact kb31_29 (n := n) hR hG
  · rw [if_neg c2] at hG
    refine iE2 c2 ?_
    replace hG := zgd_some hG
    obtain ⟨g3, hG⟩ := hG
    refine zE (k_isO hR g3) ?_
    replace hG := zbnd hG
    obtain ⟨p6, e4, hG⟩ := hG
    have hT := k12 hR e4
    clear hR
    obtain ⟨kh5, e6, hR⟩ := hT
    refine bE e6 ?_
    replace hG := zbnd hG
    obtain ⟨p8, e7, hG⟩ := hG
    have hT := k32 hR e7
    clear hR
    obtain ⟨kh8, e9, hR⟩ := hT
    refine bE e9 ?_
    by_cases c10 : p8.1 = 0
    · rw [if_pos c10] at hG
      refine iE1 c10 ?_
      exact kb31_29 (n := n) hR hG
    · rw [if_neg c10] at hG
      refine iE2 c10 ?_
      exact hr4 hR hG
def cf31_4 (n : Nat)   (k : Nat) : Nat → Int32 → Int32 → zY → Option (Option Nat × zY) := Nat.rec (fun _ _ _ _ => none) (fun _ ih => cb31_4 n  ih) k
theorem kf31_4 {n : Nat} {Mm : Nat → Option zO}     (k : Nat) : ∀ {l0 : Nat} {l1 : Int32} {l2 : Int32}  {kh : zH} {h : zY} {p : Option Nat × zY}, Rep Mm kh h → cf31_4 n   k l0 l1 l2 h = some p → ∃ kh1 : zH, f31_4 n   k l0 l1 l2 kh = some (p.1, kh1) ∧ Rep Mm kh1 p.2 := by
  induction k with
  | zero => intros; rename_i hG; cases hG
  | succ k ih => intros; rename_i hR hG; exact kb31_4 (n := n) (q4 := cf31_4 n   k) (r4 := f31_4 n   k)  ih hR hG
def c31 (n : Nat)  (y0 : Nat) (y1 : Int32) (h : zY) : Option (Option Nat × zY) :=
  cf31_4 n  n y0 y1 (y1 + 1) h
set_option maxRecDepth 20000 in
theorem k31 {n : Nat} {Mm : Nat → Option zO}   {y0 : Nat} {y1 : Int32} {kh : zH} {h : zY} {p : Option Nat × zY} (hR : Rep Mm kh h) (hG : c31 n  y0 y1 h = some p) : ∃ kh1 : zH, f31 n  y0 y1 kh = some (p.1, kh1) ∧ Rep Mm kh1 p.2 := by
  unfold c31 at hG
  unfold f31
  exact kf31_4 (n := n) n hR hG
def c35 (n : Nat)  (y0 : Nat) (y1 : Int32) (h : zY) : Option (Unit × zY) :=
  if (1 : Int32) = 0 then
    none
  else
    (yA h 1 y1).bind fun h2 =>
    (yP h2 y0 13 0 (.ref h.2.1)).bind fun h4 =>
    (yP h4 y0 13 1 (.int 0)).bind fun h6 =>
    some ((), h6)
set_option maxRecDepth 20000 in
theorem k35 {n : Nat} {Mm : Nat → Option zO}   {y0 : Nat} {y1 : Int32} {kh : zH} {h : zY} {p : Unit × zY} (hR : Rep Mm kh h) (hG : c35 n  y0 y1 h = some p) : ∃ kh1 : zH, f35 n  y0 y1 kh = some (p.1, kh1) ∧ Rep Mm kh1 p.2 := by
  unfold c35 at hG
  unfold f35
  by_cases c1 : (1 : Int32) = 0
  · rw [if_pos c1] at hG
    refine iE1 c1 ?_
    cases hG
  · rw [if_neg c1] at hG
    refine iE2 c1 ?_
    try rw [rep_n hR] at hG
    replace hG := zbnd hG
    obtain ⟨h2, e2, hG⟩ := hG
    have hT := k_nA hR e2
    clear hR
    obtain ⟨kh3, e4, hR⟩ := hT
    refine bE e4 ?_
    replace hG := zbnd hG
    obtain ⟨h4, e5, hG⟩ := hG
    have hT := k_pF hR e5
    clear hR
    obtain ⟨kh6, e7, hR⟩ := hT
    refine bE e7 ?_
    replace hG := zbnd hG
    obtain ⟨h6, e8, hG⟩ := hG
    have hT := k_pF hR e8
    clear hR
    obtain ⟨kh9, e10, hR⟩ := hT
    refine bE e10 ?_
    replace hG := Option.some.inj hG
    subst hG
    exact ⟨_, rfl, hR⟩
def c34 (n : Nat)  (y0 : Nat) (h : zY) : Option (Unit × zY) :=
  (c35 n y0 16 h).bind fun p2 =>
  some ((), p2.2)
set_option maxRecDepth 20000 in
theorem k34 {n : Nat} {Mm : Nat → Option zO}   {y0 : Nat} {kh : zH} {h : zY} {p : Unit × zY} (hR : Rep Mm kh h) (hG : c34 n  y0 h = some p) : ∃ kh1 : zH, f34 n  y0 kh = some (p.1, kh1) ∧ Rep Mm kh1 p.2 := by
  unfold c34 at hG
  unfold f34
  replace hG := zbnd hG
  obtain ⟨p2, e1, hG⟩ := hG
  have hT := k35 hR e1
  clear hR
  obtain ⟨kh2, e3, hR⟩ := hT
  refine bE e3 ?_
  replace hG := Option.some.inj hG
  subst hG
  exact ⟨_, rfl, hR⟩
def cb38_16 (n : Nat)  (r16 : Int32 → Int32 → Int32 → Int32 → zY → Option (Int32 × zY)) (l0 : Int32) (l1 : Int32) (l2 : Int32) (l3 : Int32) (h : zY) : Option (Int32 × zY) :=
  if (10 : Int32) ≤ l3 then
    some ((10 + l1), h)
  else
    if l0 ≤ l2 then
      r16 l0 l1 (10 * l2) (l3 + 1) h
    else
      some ((l3 + l1), h)
set_option maxRecDepth 20000 in
theorem kb38_16 {n : Nat} {Mm : Nat → Option zO}  {q16 : Int32 → Int32 → Int32 → Int32 → zY → Option (Int32 × zY)} {r16 : Int32 → Int32 → Int32 → Int32 → zH → Option (Int32 × zH)}  (hr16 : ∀ {l0 : Int32} {l1 : Int32} {l2 : Int32} {l3 : Int32}  {kh : zH} {h : zY} {p : Int32 × zY}, Rep Mm kh h → q16 l0 l1 l2 l3 h = some p → ∃ kh1 : zH, r16 l0 l1 l2 l3 kh = some (p.1, kh1) ∧ Rep Mm kh1 p.2) {l0 : Int32} {l1 : Int32} {l2 : Int32} {l3 : Int32}  {kh : zH} {h : zY} {p : Int32 × zY} (hR : Rep Mm kh h) (hG : cb38_16 n  q16 l0 l1 l2 l3 h = some p) : ∃ kh1 : zH, b38_16 n  r16 l0 l1 l2 l3 kh = some (p.1, kh1) ∧ Rep Mm kh1 p.2 := by
  unfold cb38_16 at hG
  unfold b38_16
  by_cases c1 : (10 : Int32) ≤ l3
  · rw [if_pos c1] at hG
    refine iE1 c1 ?_
    replace hG := Option.some.inj hG
    subst hG
    exact ⟨_, rfl, hR⟩
  · rw [if_neg c1] at hG
    refine iE2 c1 ?_
    by_cases c2 : l0 ≤ l2
    · rw [if_pos c2] at hG
      refine iE1 c2 ?_
      exact hr16 hR hG
    · rw [if_neg c2] at hG
      refine iE2 c2 ?_
      replace hG := Option.some.inj hG
      subst hG
      exact ⟨_, rfl, hR⟩
def cf38_16 (n : Nat)   (k : Nat) : Int32 → Int32 → Int32 → Int32 → zY → Option (Int32 × zY) := Nat.rec (fun _ _ _ _ _ => none) (fun _ ih => cb38_16 n  ih) k
theorem kf38_16 {n : Nat} {Mm : Nat → Option zO}     (k : Nat) : ∀ {l0 : Int32} {l1 : Int32} {l2 : Int32} {l3 : Int32}  {kh : zH} {h : zY} {p : Int32 × zY}, Rep Mm kh h → cf38_16 n   k l0 l1 l2 l3 h = some p → ∃ kh1 : zH, f38_16 n   k l0 l1 l2 l3 kh = some (p.1, kh1) ∧ Rep Mm kh1 p.2 := by
  induction k with
  | zero => intros; rename_i hG; cases hG
  | succ k ih => intros; rename_i hR hG; exact kb38_16 (n := n) (q16 := cf38_16 n   k) (r16 := f38_16 n   k)  ih hR hG
def cb38_11 (n : Nat)   (l0 : Int32) (l1 : Int32) (h : zY) : Option (Int32 × zY) :=
  cf38_16 n  n l0 l1 (-10) 1 h
set_option maxRecDepth 20000 in
theorem kb38_11 {n : Nat} {Mm : Nat → Option zO}     {l0 : Int32} {l1 : Int32}  {kh : zH} {h : zY} {p : Int32 × zY} (hR : Rep Mm kh h) (hG : cb38_11 n   l0 l1 h = some p) : ∃ kh1 : zH, b38_11 n   l0 l1 kh = some (p.1, kh1) ∧ Rep Mm kh1 p.2 := by
  unfold cb38_11 at hG
  unfold b38_11
  exact kf38_16 (n := n) n hR hG
def c38 (n : Nat)  (y0 : Int32) (h : zY) : Option (Int32 × zY) :=
  if y0 < 0 then
    cb38_11 n  y0 1 h
  else
    cb38_11 n  (-y0) 0 h
set_option maxRecDepth 20000 in
theorem k38 {n : Nat} {Mm : Nat → Option zO}   {y0 : Int32} {kh : zH} {h : zY} {p : Int32 × zY} (hR : Rep Mm kh h) (hG : c38 n  y0 h = some p) : ∃ kh1 : zH, f38 n  y0 kh = some (p.1, kh1) ∧ Rep Mm kh1 p.2 := by
  unfold c38 at hG
  unfold f38
  by_cases c1 : y0 < 0
  · rw [if_pos c1] at hG
    refine iE1 c1 ?_
    exact kb38_11 (n := n) hR hG
  · rw [if_neg c1] at hG
    refine iE2 c1 ?_
    exact kb38_11 (n := n) hR hG
def c41 (n : Nat)  (y0 : Int32) (y1 : Int32) (y2 : Int32) (h : zY) : Option (Int32 × zY) :=
  (c22 n y1 y2 h).bind fun p2 =>
  if (y0 + p2.1) ≤ (0 : Int32) then
    none
  else
    if (2147483639 : Int32) < (y0 + p2.1) then
      none
    else
      some ((y0 + p2.1), p2.2)
set_option maxRecDepth 20000 in
theorem k41 {n : Nat} {Mm : Nat → Option zO}   {y0 : Int32} {y1 : Int32} {y2 : Int32} {kh : zH} {h : zY} {p : Int32 × zY} (hR : Rep Mm kh h) (hG : c41 n  y0 y1 y2 h = some p) : ∃ kh1 : zH, f41 n  y0 y1 y2 kh = some (p.1, kh1) ∧ Rep Mm kh1 p.2 := by
  unfold c41 at hG
  unfold f41
  replace hG := zbnd hG
  obtain ⟨p2, e1, hG⟩ := hG
  have hT := k22 hR e1
  clear hR
  obtain ⟨kh2, e3, hR⟩ := hT
  refine bE e3 ?_
  by_cases c4 : (y0 + p2.1) ≤ (0 : Int32)
  · rw [if_pos c4] at hG
    refine iE1 c4 ?_
    cases hG
  · rw [if_neg c4] at hG
    refine iE2 c4 ?_
    by_cases c5 : (2147483639 : Int32) < (y0 + p2.1)
    · rw [if_pos c5] at hG
      refine iE1 c5 ?_
      cases hG
    · rw [if_neg c5] at hG
      refine iE2 c5 ?_
      replace hG := Option.some.inj hG
      subst hG
      exact ⟨_, rfl, hR⟩
def c40 (n : Nat)  (y0 : Nat) (y1 : Int32) (h : zY) : Option (Int32 × zY) :=
  (yR h y0 13 0).bind fun x1 =>
  x1.bind fun a3 =>
  (yL h a3).bind fun x4 =>
  (yI h y0 13 1).bind fun x6 =>
  (yI h y0 13 1).bind fun x8 =>
  (c41 n x4 ((y1 <<< (x6 &&& 31)) - x4) (x4 + (2 <<< (x8 &&& 31))) h).bind fun p11 =>
  if p11.1 = 2147483647 then
    none
  else
    (yI p11.2 y0 13 1).bind fun x13 =>
    some ((p11.1 >>> (x13 &&& 31)), p11.2)
set_option maxRecDepth 20000 in
theorem k40 {n : Nat} {Mm : Nat → Option zO}   {y0 : Nat} {y1 : Int32} {kh : zH} {h : zY} {p : Int32 × zY} (hR : Rep Mm kh h) (hG : c40 n  y0 y1 h = some p) : ∃ kh1 : zH, f40 n  y0 y1 kh = some (p.1, kh1) ∧ Rep Mm kh1 p.2 := by
  unfold c40 at hG
  unfold f40
  replace hG := zbnd hG
  obtain ⟨x1, e1, hG⟩ := hG
  refine bE (k_gR hR e1) ?_
  replace hG := zbnd hG
  obtain ⟨a3, rfl, hG⟩ := hG
  refine bE rfl ?_
  replace hG := zbnd hG
  obtain ⟨x4, e3, hG⟩ := hG
  refine bE (k_aN hR e3) ?_
  replace hG := zbnd hG
  obtain ⟨x6, e4, hG⟩ := hG
  refine bE (k_gI hR e4) ?_
  replace hG := zbnd hG
  obtain ⟨x8, e5, hG⟩ := hG
  refine bE (k_gI hR e5) ?_
  replace hG := zbnd hG
  obtain ⟨p11, e6, hG⟩ := hG
  have hT := k41 hR e6
  clear hR
  obtain ⟨kh7, e8, hR⟩ := hT
  refine bE e8 ?_
  by_cases c9 : p11.1 = 2147483647
  · rw [if_pos c9] at hG
    refine iE1 c9 ?_
    cases hG
  · rw [if_neg c9] at hG
    refine iE2 c9 ?_
    replace hG := zbnd hG
    obtain ⟨x13, e10, hG⟩ := hG
    refine bE (k_gI hR e10) ?_
    replace hG := Option.some.inj hG
    subst hG
    exact ⟨_, rfl, hR⟩
def c43 (n : Nat)  (y0 : Int32) (y1 : Int32) (h : zY) : Option (Int32 × zY) :=
  if y1 < y0 then
    some (y1, h)
  else
    some (y0, h)
set_option maxRecDepth 20000 in
theorem k43 {n : Nat} {Mm : Nat → Option zO}   {y0 : Int32} {y1 : Int32} {kh : zH} {h : zY} {p : Int32 × zY} (hR : Rep Mm kh h) (hG : c43 n  y0 y1 h = some p) : ∃ kh1 : zH, f43 n  y0 y1 kh = some (p.1, kh1) ∧ Rep Mm kh1 p.2 := by
  unfold c43 at hG
  unfold f43
  by_cases c1 : y1 < y0
  · rw [if_pos c1] at hG
    refine iE1 c1 ?_
    replace hG := Option.some.inj hG
    subst hG
    exact ⟨_, rfl, hR⟩
  · rw [if_neg c1] at hG
    refine iE2 c1 ?_
    replace hG := Option.some.inj hG
    subst hG
    exact ⟨_, rfl, hR⟩
def c42 (n : Nat)  (y0 : Option Nat) (y1 : Int32) (h : zY) : Option (Option Nat × zY) :=
  y0.bind fun a1 =>
  (yL h a1).bind fun x2 =>
  if y1 = x2 then
    none
  else
    (yA h 1 y1).bind fun h5 =>
    (yL h5 a1).bind fun x7 =>
    (c43 n x7 y1 h5).bind fun p10 =>
    (ynt p10.2 a1 0 h.2.1 0 p10.1).bind fun h11 =>
    some ((some h.2.1), h11)
set_option maxRecDepth 20000 in
theorem k42 {n : Nat} {Mm : Nat → Option zO}   {y0 : Option Nat} {y1 : Int32} {kh : zH} {h : zY} {p : Option Nat × zY} (hR : Rep Mm kh h) (hG : c42 n  y0 y1 h = some p) : ∃ kh1 : zH, f42 n  y0 y1 kh = some (p.1, kh1) ∧ Rep Mm kh1 p.2 := by
  unfold c42 at hG
  unfold f42
  replace hG := zbnd hG
  obtain ⟨a1, rfl, hG⟩ := hG
  refine bE rfl ?_
  replace hG := zbnd hG
  obtain ⟨x2, e2, hG⟩ := hG
  refine bE (k_aN hR e2) ?_
  by_cases c3 : y1 = x2
  · rw [if_pos c3] at hG
    refine iE1 c3 ?_
    cases hG
  · rw [if_neg c3] at hG
    refine iE2 c3 ?_
    try rw [rep_n hR] at hG
    replace hG := zbnd hG
    obtain ⟨h5, e4, hG⟩ := hG
    have hT := k_nA hR e4
    clear hR
    obtain ⟨kh5, e6, hR⟩ := hT
    refine bE e6 ?_
    replace hG := zbnd hG
    obtain ⟨x7, e7, hG⟩ := hG
    refine bE (k_aN hR e7) ?_
    replace hG := zbnd hG
    obtain ⟨p10, e8, hG⟩ := hG
    have hT := k43 hR e8
    clear hR
    obtain ⟨kh9, e10, hR⟩ := hT
    refine bE e10 ?_
    replace hG := zbnd hG
    obtain ⟨h11, e11, hG⟩ := hG
    have hT := k_nt hR e11
    clear hR
    obtain ⟨kh12, e13, hR⟩ := hT
    refine bE e13 ?_
    replace hG := Option.some.inj hG
    subst hG
    exact ⟨_, rfl, hR⟩
def c39 (n : Nat)  (y0 : Nat) (y1 : Int32) (h : zY) : Option (Unit × zY) :=
  (yR h y0 13 0).bind fun x1 =>
  x1.bind fun a3 =>
  (yL h a3).bind fun x4 =>
  (yI h y0 13 1).bind fun x6 =>
  if (y1 - (x4 >>> (x6 &&& 31))) ≤ 0 then
    some ((), h)
  else
    (yR h y0 13 0).bind fun x9 =>
    zgd (yisO h y0 13) <|
    (c40 n y0 y1 h).bind fun p13 =>
    (yI p13.2 y0 13 1).bind fun x14 =>
    (c42 n x9 (p13.1 <<< (x14 &&& 31)) p13.2).bind fun p17 =>
    (yP p17.2 y0 13 0 (va_rf p17.1)).bind fun h18 =>
    some ((), h18)
set_option maxRecDepth 20000 in
theorem k39 {n : Nat} {Mm : Nat → Option zO}   {y0 : Nat} {y1 : Int32} {kh : zH} {h : zY} {p : Unit × zY} (hR : Rep Mm kh h) (hG : c39 n  y0 y1 h = some p) : ∃ kh1 : zH, f39 n  y0 y1 kh = some (p.1, kh1) ∧ Rep Mm kh1 p.2 := by
  unfold c39 at hG
  unfold f39
  replace hG := zbnd hG
  obtain ⟨x1, e1, hG⟩ := hG
  refine bE (k_gR hR e1) ?_
  replace hG := zbnd hG
  obtain ⟨a3, rfl, hG⟩ := hG
  refine bE rfl ?_
  replace hG := zbnd hG
  obtain ⟨x4, e3, hG⟩ := hG
  refine bE (k_aN hR e3) ?_
  replace hG := zbnd hG
  obtain ⟨x6, e4, hG⟩ := hG
  refine bE (k_gI hR e4) ?_
  by_cases c5 : (y1 - (x4 >>> (x6 &&& 31))) ≤ 0
  · rw [if_pos c5] at hG
    refine iE1 c5 ?_
    replace hG := Option.some.inj hG
    subst hG
    exact ⟨_, rfl, hR⟩
  · rw [if_neg c5] at hG
    refine iE2 c5 ?_
    replace hG := zbnd hG
    obtain ⟨x9, e6, hG⟩ := hG
    refine bE (k_gR hR e6) ?_
    replace hG := zgd_some hG
    obtain ⟨g7, hG⟩ := hG
    refine zE (k_isO hR g7) ?_
    replace hG := zbnd hG
    obtain ⟨p13, e8, hG⟩ := hG
    have hT := k40 hR e8
    clear hR
    obtain ⟨kh9, e10, hR⟩ := hT
    refine bE e10 ?_
    replace hG := zbnd hG
    obtain ⟨x14, e11, hG⟩ := hG
    refine bE (k_gI hR e11) ?_
    replace hG := zbnd hG
    obtain ⟨p17, e12, hG⟩ := hG
    have hT := k42 hR e12
    clear hR
    obtain ⟨kh13, e14, hR⟩ := hT
    refine bE e14 ?_
    replace hG := zbnd hG
    obtain ⟨h18, e15, hG⟩ := hG
    have hT := k_pF hR e15
    clear hR
    obtain ⟨kh16, e17, hR⟩ := hT
    refine bE e17 ?_
    replace hG := Option.some.inj hG
    subst hG
    exact ⟨_, rfl, hR⟩
def c44 (n : Nat)  (y0 : Nat) (h : zY) : Option (Int32 × zY) :=
  if (1 : Int32) = 0 then
    some (0, h)
  else
    (yI h y0 13 1).bind fun x2 =>
    if x2 = 0 then
      some (1, h)
    else
      some (0, h)
set_option maxRecDepth 20000 in
theorem k44 {n : Nat} {Mm : Nat → Option zO}   {y0 : Nat} {kh : zH} {h : zY} {p : Int32 × zY} (hR : Rep Mm kh h) (hG : c44 n  y0 h = some p) : ∃ kh1 : zH, f44 n  y0 kh = some (p.1, kh1) ∧ Rep Mm kh1 p.2 := by
  unfold c44 at hG
  unfold f44
  by_cases c1 : (1 : Int32) = 0
  · rw [if_pos c1] at hG
    refine iE1 c1 ?_
    replace hG := Option.some.inj hG
    subst hG
    exact ⟨_, rfl, hR⟩
  · rw [if_neg c1] at hG
    refine iE2 c1 ?_
    replace hG := zbnd hG
    obtain ⟨x2, e2, hG⟩ := hG
    refine bE (k_gI hR e2) ?_
    by_cases c3 : x2 = 0
    · rw [if_pos c3] at hG
      refine iE1 c3 ?_
      replace hG := Option.some.inj hG
      subst hG
      exact ⟨_, rfl, hR⟩
    · rw [if_neg c3] at hG
      refine iE2 c3 ?_
      replace hG := Option.some.inj hG
      subst hG
      exact ⟨_, rfl, hR⟩
def cb45_104 (n : Nat)   (l0 : Int32) (l1 : Int32) (l2 : Option Nat) (l5 : Int32) (l6 : Int32) (h : zY) : Option (Int32 × zY) :=
  if l6 = 0 then
    some (l5, h)
  else
    l2.bind fun a2 =>
    (yS zsB h a2 (l5 + (-1)) (.int 45)).bind fun h3 =>
    some ((l5 + (-1)), h3)
set_option maxRecDepth 20000 in
theorem kb45_104 {n : Nat} {Mm : Nat → Option zO}     {l0 : Int32} {l1 : Int32} {l2 : Option Nat} {l5 : Int32} {l6 : Int32}  {kh : zH} {h : zY} {p : Int32 × zY} (hR : Rep Mm kh h) (hG : cb45_104 n   l0 l1 l2 l5 l6 h = some p) : ∃ kh1 : zH, b45_104 n   l0 l1 l2 l5 l6 kh = some (p.1, kh1) ∧ Rep Mm kh1 p.2 := by
  unfold cb45_104 at hG
  unfold b45_104
  by_cases c1 : l6 = 0
  · rw [if_pos c1] at hG
    refine iE1 c1 ?_
    replace hG := Option.some.inj hG
    subst hG
    exact ⟨_, rfl, hR⟩
  · rw [if_neg c1] at hG
    refine iE2 c1 ?_
    replace hG := zbnd hG
    obtain ⟨a2, rfl, hG⟩ := hG
    refine bE rfl ?_
    replace hG := zbnd hG
    obtain ⟨h3, e3, hG⟩ := hG
    have hT := k_sB hR e3
    clear hR
    obtain ⟨kh4, e5, hR⟩ := hT
    refine bE e5 ?_
    replace hG := Option.some.inj hG
    subst hG
    exact ⟨_, rfl, hR⟩
def cb45_22 (n : Nat)  (r22 : Int32 → Int32 → Option Nat → Int32 → Int32 → zY → Option (Int32 × zY)) (l0 : Int32) (l1 : Int32) (l2 : Option Nat) (l5 : Int32) (l6 : Int32) (h : zY) : Option (Int32 × zY) :=
  if (-100 : Int32) < l0 then
    (yaB h 46 (-l0)).bind fun x2 =>
    l2.bind fun a4 =>
    (yS zsB h a4 (l5 + (-1)) (.int x2)).bind fun h5 =>
    if (-9 : Int32) ≤ l0 then
      cb45_104 n  l0 l1 (some a4) (l5 + (-1)) l6 h5
    else
      (yaB h5 47 (-l0)).bind fun x8 =>
      (yS zsB h5 a4 ((l5 + (-1)) + (-1)) (.int x8)).bind fun h10 =>
      cb45_104 n  l0 l1 (some a4) ((l5 + (-1)) + (-1)) l6 h10
  else
    (yaB h 46 (((l0 / 100) * 100) - l0)).bind fun x12 =>
    l2.bind fun a14 =>
    (yS zsB h a14 (l5 + (-1)) (.int x12)).bind fun h15 =>
    (yaB h15 47 (((l0 / 100) * 100) - l0)).bind fun x17 =>
    (yS zsB h15 a14 ((l5 + (-1)) + (-1)) (.int x17)).bind fun h19 =>
    r22 (l0 / 100) l1 (some a14) ((l5 + (-1)) + (-1)) l6 h19
set_option maxRecDepth 20000 in
theorem kb45_22 {n : Nat} {Mm : Nat → Option zO}  {q22 : Int32 → Int32 → Option Nat → Int32 → Int32 → zY → Option (Int32 × zY)} {r22 : Int32 → Int32 → Option Nat → Int32 → Int32 → zH → Option (Int32 × zH)}  (hr22 : ∀ {l0 : Int32} {l1 : Int32} {l2 : Option Nat} {l5 : Int32} {l6 : Int32}  {kh : zH} {h : zY} {p : Int32 × zY}, Rep Mm kh h → q22 l0 l1 l2 l5 l6 h = some p → ∃ kh1 : zH, r22 l0 l1 l2 l5 l6 kh = some (p.1, kh1) ∧ Rep Mm kh1 p.2) {l0 : Int32} {l1 : Int32} {l2 : Option Nat} {l5 : Int32} {l6 : Int32}  {kh : zH} {h : zY} {p : Int32 × zY} (hR : Rep Mm kh h) (hG : cb45_22 n  q22 l0 l1 l2 l5 l6 h = some p) : ∃ kh1 : zH, b45_22 n  r22 l0 l1 l2 l5 l6 kh = some (p.1, kh1) ∧ Rep Mm kh1 p.2 := by
  unfold cb45_22 at hG
  unfold b45_22
  by_cases c1 : (-100 : Int32) < l0
  · rw [if_pos c1] at hG
    refine iE1 c1 ?_
    replace hG := zbnd hG
    obtain ⟨x2, e2, hG⟩ := hG
    refine bE (k_aB hR e2) ?_
    replace hG := zbnd hG
    obtain ⟨a4, rfl, hG⟩ := hG
    refine bE rfl ?_
    replace hG := zbnd hG
    obtain ⟨h5, e4, hG⟩ := hG
    have hT := k_sB hR e4
    clear hR
    obtain ⟨kh5, e6, hR⟩ := hT
    refine bE e6 ?_
    by_cases c7 : (-9 : Int32) ≤ l0
    · rw [if_pos c7] at hG
      refine iE1 c7 ?_
      exact kb45_104 (n := n) hR hG
    · rw [if_neg c7] at hG
      refine iE2 c7 ?_
      replace hG := zbnd hG
      obtain ⟨x8, e8, hG⟩ := hG
      refine bE (k_aB hR e8) ?_
      replace hG := zbnd hG
      obtain ⟨h10, e9, hG⟩ := hG
      have hT := k_sB hR e9
      clear hR
      obtain ⟨kh10, e11, hR⟩ := hT
      refine bE e11 ?_
      exact kb45_104 (n := n) hR hG
  · rw [if_neg c1] at hG
    refine iE2 c1 ?_
    replace hG := zbnd hG
    obtain ⟨x12, e12, hG⟩ := hG
    refine bE (k_aB hR e12) ?_
    replace hG := zbnd hG
    obtain ⟨a14, rfl, hG⟩ := hG
    refine bE rfl ?_
    replace hG := zbnd hG
    obtain ⟨h15, e14, hG⟩ := hG
    have hT := k_sB hR e14
    clear hR
    obtain ⟨kh15, e16, hR⟩ := hT
    refine bE e16 ?_
    replace hG := zbnd hG
    obtain ⟨x17, e17, hG⟩ := hG
    refine bE (k_aB hR e17) ?_
    replace hG := zbnd hG
    obtain ⟨h19, e18, hG⟩ := hG
    have hT := k_sB hR e18
    clear hR
    obtain ⟨kh19, e20, hR⟩ := hT
    refine bE e20 ?_
    exact hr22 hR hG
def cf45_22 (n : Nat)   (k : Nat) : Int32 → Int32 → Option Nat → Int32 → Int32 → zY → Option (Int32 × zY) := Nat.rec (fun _ _ _ _ _ _ => none) (fun _ ih => cb45_22 n  ih) k
theorem kf45_22 {n : Nat} {Mm : Nat → Option zO}     (k : Nat) : ∀ {l0 : Int32} {l1 : Int32} {l2 : Option Nat} {l5 : Int32} {l6 : Int32}  {kh : zH} {h : zY} {p : Int32 × zY}, Rep Mm kh h → cf45_22 n   k l0 l1 l2 l5 l6 h = some p → ∃ kh1 : zH, f45_22 n   k l0 l1 l2 l5 l6 kh = some (p.1, kh1) ∧ Rep Mm kh1 p.2 := by
  induction k with
  | zero => intros; rename_i hG; cases hG
  | succ k ih => intros; rename_i hR hG; exact kb45_22 (n := n) (q22 := cf45_22 n   k) (r22 := f45_22 n   k)  ih hR hG
def cb45_12 (n : Nat)   (l0 : Int32) (l1 : Int32) (l2 : Option Nat) (l5 : Int32) (s0 : Int32) (h : zY) : Option (Int32 × zY) :=
  if s0 = 0 then
    cf45_22 n  n (-l0) l1 l2 l5 s0 h
  else
    cf45_22 n  n l0 l1 l2 l5 s0 h
set_option maxRecDepth 20000 in
theorem kb45_12 {n : Nat} {Mm : Nat → Option zO}     {l0 : Int32} {l1 : Int32} {l2 : Option Nat} {l5 : Int32} {s0 : Int32} {kh : zH} {h : zY} {p : Int32 × zY} (hR : Rep Mm kh h) (hG : cb45_12 n   l0 l1 l2 l5 s0 h = some p) : ∃ kh1 : zH, b45_12 n   l0 l1 l2 l5 s0 kh = some (p.1, kh1) ∧ Rep Mm kh1 p.2 := by
  unfold cb45_12 at hG
  unfold b45_12
  by_cases c1 : s0 = 0
  · rw [if_pos c1] at hG
    refine iE1 c1 ?_
    exact kf45_22 (n := n) n hR hG
  · rw [if_neg c1] at hG
    refine iE2 c1 ?_
    exact kf45_22 (n := n) n hR hG
def c45 (n : Nat)  (y0 : Int32) (y1 : Int32) (y2 : Option Nat) (h : zY) : Option (Int32 × zY) :=
  if (0 : Int32) ≤ y0 then
    cb45_12 n  y0 y1 y2 y1 0 h
  else
    cb45_12 n  y0 y1 y2 y1 1 h
set_option maxRecDepth 20000 in
theorem k45 {n : Nat} {Mm : Nat → Option zO}   {y0 : Int32} {y1 : Int32} {y2 : Option Nat} {kh : zH} {h : zY} {p : Int32 × zY} (hR : Rep Mm kh h) (hG : c45 n  y0 y1 y2 h = some p) : ∃ kh1 : zH, f45 n  y0 y1 y2 kh = some (p.1, kh1) ∧ Rep Mm kh1 p.2 := by
  unfold c45 at hG
  unfold f45
  by_cases c1 : (0 : Int32) ≤ y0
  · rw [if_pos c1] at hG
    refine iE1 c1 ?_
    exact kb45_12 (n := n) hR hG
  · rw [if_neg c1] at hG
    refine iE2 c1 ?_
    exact kb45_12 (n := n) hR hG
def c37 (n : Nat)  (y0 : Nat) (y1 : Int32) (h : zY) : Option (Option Nat × zY) :=
  (yI h y0 13 3).bind fun x1 =>
  (c38 n y1 h).bind fun p4 =>
  zgd (yisO p4.2 y0 13) <|
  (c39 n y0 (x1 + p4.1) p4.2).bind fun p7 =>
  zgd (yisO p7.2 y0 13) <|
  (c44 n y0 p7.2).bind fun p10 =>
  if p10.1 = 0 then
    none
  else
    (yR p10.2 y0 13 0).bind fun x12 =>
    (c45 n y1 (x1 + p4.1) x12 p10.2).bind fun p15 =>
    (yP p15.2 y0 13 3 (.int (x1 + p4.1))).bind fun h16 =>
    some ((some y0), h16)
set_option maxRecDepth 20000 in
theorem k37 {n : Nat} {Mm : Nat → Option zO}   {y0 : Nat} {y1 : Int32} {kh : zH} {h : zY} {p : Option Nat × zY} (hR : Rep Mm kh h) (hG : c37 n  y0 y1 h = some p) : ∃ kh1 : zH, f37 n  y0 y1 kh = some (p.1, kh1) ∧ Rep Mm kh1 p.2 := by
  unfold c37 at hG
  unfold f37
  replace hG := zbnd hG
  obtain ⟨x1, e1, hG⟩ := hG
  refine bE (k_gI hR e1) ?_
  replace hG := zbnd hG
  obtain ⟨p4, e2, hG⟩ := hG
  have hT := k38 hR e2
  clear hR
  obtain ⟨kh3, e4, hR⟩ := hT
  refine bE e4 ?_
  replace hG := zgd_some hG
  obtain ⟨g5, hG⟩ := hG
  refine zE (k_isO hR g5) ?_
  replace hG := zbnd hG
  obtain ⟨p7, e6, hG⟩ := hG
  have hT := k39 hR e6
  clear hR
  obtain ⟨kh7, e8, hR⟩ := hT
  refine bE e8 ?_
  replace hG := zgd_some hG
  obtain ⟨g9, hG⟩ := hG
  refine zE (k_isO hR g9) ?_
  replace hG := zbnd hG
  obtain ⟨p10, e10, hG⟩ := hG
  have hT := k44 hR e10
  clear hR
  obtain ⟨kh11, e12, hR⟩ := hT
  refine bE e12 ?_
  by_cases c13 : p10.1 = 0
  · rw [if_pos c13] at hG
    refine iE1 c13 ?_
    cases hG
  · rw [if_neg c13] at hG
    refine iE2 c13 ?_
    replace hG := zbnd hG
    obtain ⟨x12, e14, hG⟩ := hG
    refine bE (k_gR hR e14) ?_
    replace hG := zbnd hG
    obtain ⟨p15, e15, hG⟩ := hG
    have hT := k45 hR e15
    clear hR
    obtain ⟨kh16, e17, hR⟩ := hT
    refine bE e17 ?_
    replace hG := zbnd hG
    obtain ⟨h16, e18, hG⟩ := hG
    have hT := k_pF hR e18
    clear hR
    obtain ⟨kh19, e20, hR⟩ := hT
    refine bE e20 ?_
    replace hG := Option.some.inj hG
    subst hG
    exact ⟨_, rfl, hR⟩
def c36 (n : Nat)  (y0 : Nat) (y1 : Int32) (h : zY) : Option (Option Nat × zY) :=
  zgd (yisO h y0 13) <|
  (c37 n y0 y1 h).bind fun p3 =>
  some ((some y0), p3.2)
set_option maxRecDepth 20000 in
theorem k36 {n : Nat} {Mm : Nat → Option zO}   {y0 : Nat} {y1 : Int32} {kh : zH} {h : zY} {p : Option Nat × zY} (hR : Rep Mm kh h) (hG : c36 n  y0 y1 h = some p) : ∃ kh1 : zH, f36 n  y0 y1 kh = some (p.1, kh1) ∧ Rep Mm kh1 p.2 := by
  unfold c36 at hG
  unfold f36
  replace hG := zgd_some hG
  obtain ⟨g1, hG⟩ := hG
  refine zE (k_isO hR g1) ?_
  replace hG := zbnd hG
  obtain ⟨p3, e2, hG⟩ := hG
  have hT := k37 hR e2
  clear hR
  obtain ⟨kh3, e4, hR⟩ := hT
  refine bE e4 ?_
  replace hG := Option.some.inj hG
  subst hG
  exact ⟨_, rfl, hR⟩
def c49 (n : Nat)  (y0 : Nat) (h : zY) : Option (Option Nat × zY) :=
  (yR h y0 13 0).bind fun x1 =>
  some (x1, h)
set_option maxRecDepth 20000 in
theorem k49 {n : Nat} {Mm : Nat → Option zO}   {y0 : Nat} {kh : zH} {h : zY} {p : Option Nat × zY} (hR : Rep Mm kh h) (hG : c49 n  y0 h = some p) : ∃ kh1 : zH, f49 n  y0 kh = some (p.1, kh1) ∧ Rep Mm kh1 p.2 := by
  unfold c49 at hG
  unfold f49
  replace hG := zbnd hG
  obtain ⟨x1, e1, hG⟩ := hG
  refine bE (k_gR hR e1) ?_
  replace hG := Option.some.inj hG
  subst hG
  exact ⟨_, rfl, hR⟩
def c51 (n : Nat)  (y0 : Nat) (h : zY) : Option (Int32 × zY) :=
  (yI h y0 13 3).bind fun x1 =>
  some (x1, h)
set_option maxRecDepth 20000 in
theorem k51 {n : Nat} {Mm : Nat → Option zO}   {y0 : Nat} {kh : zH} {h : zY} {p : Int32 × zY} (hR : Rep Mm kh h) (hG : c51 n  y0 h = some p) : ∃ kh1 : zH, f51 n  y0 kh = some (p.1, kh1) ∧ Rep Mm kh1 p.2 := by
  unfold c51 at hG
  unfold f51
  replace hG := zbnd hG
  obtain ⟨x1, e1, hG⟩ := hG
  refine bE (k_gI hR e1) ?_
  replace hG := Option.some.inj hG
  subst hG
  exact ⟨_, rfl, hR⟩
def c50 (n : Nat)  (y0 : Nat) (h : zY) : Option (Int32 × zY) :=
  zgd (yisO h y0 13) <|
  (c51 n y0 h).bind fun p3 =>
  some (p3.1, p3.2)
set_option maxRecDepth 20000 in
theorem k50 {n : Nat} {Mm : Nat → Option zO}   {y0 : Nat} {kh : zH} {h : zY} {p : Int32 × zY} (hR : Rep Mm kh h) (hG : c50 n  y0 h = some p) : ∃ kh1 : zH, f50 n  y0 kh = some (p.1, kh1) ∧ Rep Mm kh1 p.2 := by
  unfold c50 at hG
  unfold f50
  replace hG := zgd_some hG
  obtain ⟨g1, hG⟩ := hG
  refine zE (k_isO hR g1) ?_
  replace hG := zbnd hG
  obtain ⟨p3, e2, hG⟩ := hG
  have hT := k51 hR e2
  clear hR
  obtain ⟨kh3, e4, hR⟩ := hT
  refine bE e4 ?_
  replace hG := Option.some.inj hG
  subst hG
  exact ⟨_, rfl, hR⟩
def c54 (n : Nat)  (y0 : Int32) (y1 : Int32) (h : zY) : Option (Unit × zY) :=
  if y0 ≤ y1 then
    some ((), h)
  else
    none
set_option maxRecDepth 20000 in
theorem k54 {n : Nat} {Mm : Nat → Option zO}   {y0 : Int32} {y1 : Int32} {kh : zH} {h : zY} {p : Unit × zY} (hR : Rep Mm kh h) (hG : c54 n  y0 y1 h = some p) : ∃ kh1 : zH, f54 n  y0 y1 kh = some (p.1, kh1) ∧ Rep Mm kh1 p.2 := by
  unfold c54 at hG
  unfold f54
  by_cases c1 : y0 ≤ y1
  · rw [if_pos c1] at hG
    refine iE1 c1 ?_
    replace hG := Option.some.inj hG
    subst hG
    exact ⟨_, rfl, hR⟩
  · rw [if_neg c1] at hG
    refine iE2 c1 ?_
    cases hG
def c53 (n : Nat)  (y0 : Option Nat) (y1 : Int32) (y2 : Int32) (h : zY) : Option (Option Nat × zY) :=
  (c54 n y1 y2 h).bind fun p2 =>
  (yA p2.2 1 (y2 - y1)).bind fun h3 =>
  y0.bind fun a5 =>
  (yL h3 a5).bind fun x6 =>
  (c43 n (x6 - y1) (y2 - y1) h3).bind fun p9 =>
  (ynt p9.2 a5 y1 p2.2.2.1 0 p9.1).bind fun h10 =>
  some ((some p2.2.2.1), h10)
set_option maxRecDepth 20000 in
theorem k53 {n : Nat} {Mm : Nat → Option zO}   {y0 : Option Nat} {y1 : Int32} {y2 : Int32} {kh : zH} {h : zY} {p : Option Nat × zY} (hR : Rep Mm kh h) (hG : c53 n  y0 y1 y2 h = some p) : ∃ kh1 : zH, f53 n  y0 y1 y2 kh = some (p.1, kh1) ∧ Rep Mm kh1 p.2 := by
  unfold c53 at hG
  unfold f53
  replace hG := zbnd hG
  obtain ⟨p2, e1, hG⟩ := hG
  have hT := k54 hR e1
  clear hR
  obtain ⟨kh2, e3, hR⟩ := hT
  refine bE e3 ?_
  try rw [rep_n hR] at hG
  replace hG := zbnd hG
  obtain ⟨h3, e4, hG⟩ := hG
  have hT := k_nA hR e4
  clear hR
  obtain ⟨kh5, e6, hR⟩ := hT
  refine bE e6 ?_
  replace hG := zbnd hG
  obtain ⟨a5, rfl, hG⟩ := hG
  refine bE rfl ?_
  replace hG := zbnd hG
  obtain ⟨x6, e8, hG⟩ := hG
  refine bE (k_aN hR e8) ?_
  replace hG := zbnd hG
  obtain ⟨p9, e9, hG⟩ := hG
  have hT := k43 hR e9
  clear hR
  obtain ⟨kh10, e11, hR⟩ := hT
  refine bE e11 ?_
  replace hG := zbnd hG
  obtain ⟨h10, e12, hG⟩ := hG
  have hT := k_nt hR e12
  clear hR
  obtain ⟨kh13, e14, hR⟩ := hT
  refine bE e14 ?_
  replace hG := Option.some.inj hG
  subst hG
  exact ⟨_, rfl, hR⟩
def cb52_10 (n : Nat)   (l0 : Option Nat) (l1 : Int32) (l2 : Int32) (h : zY) : Option (Option Nat × zY) :=
  (c53 n l0 l1 l2 h).bind fun p2 =>
  some (p2.1, p2.2)
set_option maxRecDepth 20000 in
theorem kb52_10 {n : Nat} {Mm : Nat → Option zO}     {l0 : Option Nat} {l1 : Int32} {l2 : Int32}  {kh : zH} {h : zY} {p : Option Nat × zY} (hR : Rep Mm kh h) (hG : cb52_10 n   l0 l1 l2 h = some p) : ∃ kh1 : zH, b52_10 n   l0 l1 l2 kh = some (p.1, kh1) ∧ Rep Mm kh1 p.2 := by
  unfold cb52_10 at hG
  unfold b52_10
  replace hG := zbnd hG
  obtain ⟨p2, e1, hG⟩ := hG
  have hT := k53 hR e1
  clear hR
  obtain ⟨kh2, e3, hR⟩ := hT
  refine bE e3 ?_
  replace hG := Option.some.inj hG
  subst hG
  exact ⟨_, rfl, hR⟩
def c52 (n : Nat)  (y0 : Option Nat) (y1 : Int32) (y2 : Int32) (h : zY) : Option (Option Nat × zY) :=
  if y1 = 0 then
    y0.bind fun a2 =>
    (yL h a2).bind fun x3 =>
    if y2 = x3 then
      none
    else
      cb52_10 n  (some a2) y1 y2 h
  else
    cb52_10 n  y0 y1 y2 h
set_option maxRecDepth 20000 in
theorem k52 {n : Nat} {Mm : Nat → Option zO}   {y0 : Option Nat} {y1 : Int32} {y2 : Int32} {kh : zH} {h : zY} {p : Option Nat × zY} (hR : Rep Mm kh h) (hG : c52 n  y0 y1 y2 h = some p) : ∃ kh1 : zH, f52 n  y0 y1 y2 kh = some (p.1, kh1) ∧ Rep Mm kh1 p.2 := by
  unfold c52 at hG
  unfold f52
  by_cases c1 : y1 = 0
  · rw [if_pos c1] at hG
    refine iE1 c1 ?_
    replace hG := zbnd hG
    obtain ⟨a2, rfl, hG⟩ := hG
    refine bE rfl ?_
    replace hG := zbnd hG
    obtain ⟨x3, e3, hG⟩ := hG
    refine bE (k_aN hR e3) ?_
    by_cases c4 : y2 = x3
    · rw [if_pos c4] at hG
      refine iE1 c4 ?_
      cases hG
    · rw [if_neg c4] at hG
      refine iE2 c4 ?_
      exact kb52_10 (n := n) hR hG
  · rw [if_neg c1] at hG
    refine iE2 c1 ?_
    exact kb52_10 (n := n) hR hG
def cb48_79 (n : Nat)   (l0 : Nat) (l1 : Option Nat) (l2 : Option Nat) (l3 : Option Nat) (l4 : Int32) (h : zY) : Option (Unit × zY) :=
  (yP h l0 12 1 (.int 1)).bind fun h1 =>
  (c52 n l3 0 (l4 <<< (1 &&& 31)) h1).bind fun p4 =>
  (yP p4.2 l0 12 0 (va_rf p4.1)).bind fun h5 =>
  some ((), h5)
set_option maxRecDepth 20000 in
theorem kb48_79 {n : Nat} {Mm : Nat → Option zO}     {l0 : Nat} {l1 : Option Nat} {l2 : Option Nat} {l3 : Option Nat} {l4 : Int32}  {kh : zH} {h : zY} {p : Unit × zY} (hR : Rep Mm kh h) (hG : cb48_79 n   l0 l1 l2 l3 l4 h = some p) : ∃ kh1 : zH, b48_79 n   l0 l1 l2 l3 l4 kh = some (p.1, kh1) ∧ Rep Mm kh1 p.2 := by
  unfold cb48_79 at hG
  unfold b48_79
  replace hG := zbnd hG
  obtain ⟨h1, e1, hG⟩ := hG
  have hT := k_pF hR e1
  clear hR
  obtain ⟨kh2, e3, hR⟩ := hT
  refine bE e3 ?_
  replace hG := zbnd hG
  obtain ⟨p4, e4, hG⟩ := hG
  have hT := k52 hR e4
  clear hR
  obtain ⟨kh5, e6, hR⟩ := hT
  refine bE e6 ?_
  replace hG := zbnd hG
  obtain ⟨h5, e7, hG⟩ := hG
  have hT := k_pF hR e7
  clear hR
  obtain ⟨kh8, e9, hR⟩ := hT
  refine bE e9 ?_
  replace hG := Option.some.inj hG
  subst hG
  exact ⟨_, rfl, hR⟩
def c48 (n : Nat)  (y0 : Nat) (y1 : Option Nat) (y2 : Option Nat) (h : zY) : Option (Unit × zY) :=
  y1.bind fun a1 =>
  zgd (yisO h a1 13) <|
  (c49 n a1 h).bind fun p4 =>
  zgd (yisO p4.2 a1 13) <|
  (c50 n a1 p4.2).bind fun p7 =>
  zgd (yisO p7.2 a1 13) <|
  (c44 n a1 p7.2).bind fun p10 =>
  if p10.1 = 0 then
    if (1 : Int32) = 0 then
      cb48_79 n  y0 (some a1) y2 p4.1 p7.1 p10.2
    else
      (yI p10.2 a1 13 2).bind fun x13 =>
      if x13 = 0 then
        cb48_79 n  y0 (some a1) y2 p4.1 p7.1 p10.2
      else
        none
  else
    (yP p10.2 y0 12 1 (.int 0)).bind fun h16 =>
    (c52 n p4.1 0 p7.1 h16).bind fun p19 =>
    (yP p19.2 y0 12 0 (va_rf p19.1)).bind fun h20 =>
    some ((), h20)
set_option maxRecDepth 20000 in
theorem k48 {n : Nat} {Mm : Nat → Option zO}   {y0 : Nat} {y1 : Option Nat} {y2 : Option Nat} {kh : zH} {h : zY} {p : Unit × zY} (hR : Rep Mm kh h) (hG : c48 n  y0 y1 y2 h = some p) : ∃ kh1 : zH, f48 n  y0 y1 y2 kh = some (p.1, kh1) ∧ Rep Mm kh1 p.2 := by
  unfold c48 at hG
  unfold f48
  replace hG := zbnd hG
  obtain ⟨a1, rfl, hG⟩ := hG
  refine bE rfl ?_
  replace hG := zgd_some hG
  obtain ⟨g2, hG⟩ := hG
  refine zE (k_isO hR g2) ?_
  replace hG := zbnd hG
  obtain ⟨p4, e3, hG⟩ := hG
  have hT := k49 hR e3
  clear hR
  obtain ⟨kh4, e5, hR⟩ := hT
  refine bE e5 ?_
  replace hG := zgd_some hG
  obtain ⟨g6, hG⟩ := hG
  refine zE (k_isO hR g6) ?_
  replace hG := zbnd hG
  obtain ⟨p7, e7, hG⟩ := hG
  have hT := k50 hR e7
  clear hR
  obtain ⟨kh8, e9, hR⟩ := hT
  refine bE e9 ?_
  replace hG := zgd_some hG
  obtain ⟨g10, hG⟩ := hG
  refine zE (k_isO hR g10) ?_
  replace hG := zbnd hG
  obtain ⟨p10, e11, hG⟩ := hG
  have hT := k44 hR e11
  clear hR
  obtain ⟨kh12, e13, hR⟩ := hT
  refine bE e13 ?_
  by_cases c14 : p10.1 = 0
  · rw [if_pos c14] at hG
    refine iE1 c14 ?_
    by_cases c15 : (1 : Int32) = 0
    · rw [if_pos c15] at hG
      refine iE1 c15 ?_
      exact kb48_79 (n := n) hR hG
    · rw [if_neg c15] at hG
      refine iE2 c15 ?_
      replace hG := zbnd hG
      obtain ⟨x13, e16, hG⟩ := hG
      refine bE (k_gI hR e16) ?_
      by_cases c17 : x13 = 0
      · rw [if_pos c17] at hG
        refine iE1 c17 ?_
        exact kb48_79 (n := n) hR hG
      · rw [if_neg c17] at hG
        refine iE2 c17 ?_
        cases hG
  · rw [if_neg c14] at hG
    refine iE2 c14 ?_
    replace hG := zbnd hG
    obtain ⟨h16, e18, hG⟩ := hG
    have hT := k_pF hR e18
    clear hR
    obtain ⟨kh19, e20, hR⟩ := hT
    refine bE e20 ?_
    replace hG := zbnd hG
    obtain ⟨p19, e21, hG⟩ := hG
    have hT := k52 hR e21
    clear hR
    obtain ⟨kh22, e23, hR⟩ := hT
    refine bE e23 ?_
    replace hG := zbnd hG
    obtain ⟨h20, e24, hG⟩ := hG
    have hT := k_pF hR e24
    clear hR
    obtain ⟨kh25, e26, hR⟩ := hT
    refine bE e26 ?_
    replace hG := Option.some.inj hG
    subst hG
    exact ⟨_, rfl, hR⟩
def c47 (n : Nat)  (y0 : Nat) (y1 : Option Nat) (h : zY) : Option (Unit × zY) :=
  (c48 n y0 y1 none h).bind fun p2 =>
  some ((), p2.2)
set_option maxRecDepth 20000 in
theorem k47 {n : Nat} {Mm : Nat → Option zO}   {y0 : Nat} {y1 : Option Nat} {kh : zH} {h : zY} {p : Unit × zY} (hR : Rep Mm kh h) (hG : c47 n  y0 y1 h = some p) : ∃ kh1 : zH, f47 n  y0 y1 kh = some (p.1, kh1) ∧ Rep Mm kh1 p.2 := by
  unfold c47 at hG
  unfold f47
  replace hG := zbnd hG
  obtain ⟨p2, e1, hG⟩ := hG
  have hT := k48 hR e1
  clear hR
  obtain ⟨kh2, e3, hR⟩ := hT
  refine bE e3 ?_
  replace hG := Option.some.inj hG
  subst hG
  exact ⟨_, rfl, hR⟩
def c46v (n : Nat)  (y0 : Nat) (h : zY) : Option (Option Nat × zY) :=
  (c47 n h.2.1 (some y0) (yN h 12 4)).bind fun p2 =>
  some ((some h.2.1), p2.2)
set_option maxRecDepth 20000 in
theorem k46v {n : Nat} {Mm : Nat → Option zO}   {y0 : Nat} {kh : zH} {h : zY} {p : Option Nat × zY} (hR : Rep Mm kh h) (hG : c46v n  y0 h = some p) : ∃ kh1 : zH, f46 n  y0 kh = some (p.1, kh1) ∧ Rep Mm kh1 p.2 := by
  unfold c46v at hG
  unfold f46
  try rw [rep_n hR] at hG
  replace hR := k_nO (ci := 12) (n := 4) hR
  replace hG := zbnd hG
  obtain ⟨p2, e1, hG⟩ := hG
  have hT := k47 hR e1
  clear hR
  obtain ⟨kh2, e3, hR⟩ := hT
  refine bE e3 ?_
  replace hG := Option.some.inj hG
  subst hG
  exact ⟨_, rfl, hR⟩
def c46 (n : Nat) (y0 : Nat) (h : zY) : Option (Option Nat × zY) :=
  (c46v n y0 h).bind fun p =>
  p.1.bind fun a =>
  (yHS p.2 a).bind fun h1 =>
  some (some a, h1)
theorem k46 {n : Nat} {Mm : Nat → Option zO} {y0 : Nat} {kh : zH} {h : zY} {p : Option Nat × zY} (hR : Rep Mm kh h) (hG : c46 n y0 h = some p) : ∃ kh1 : zH, f46 n y0 kh = some (p.1, kh1) ∧ Rep Mm kh1 p.2 := by
  unfold c46 at hG
  replace hG := zbnd hG
  obtain ⟨q, e, hG⟩ := hG
  replace hG := zbnd hG
  obtain ⟨a, e0, hG⟩ := hG
  replace hG := zbnd hG
  obtain ⟨h1, e1, hG⟩ := hG
  cases hG
  obtain ⟨kh1, e2, hR⟩ := k46v hR e
  exact ⟨kh1, by rw [e2, e0], k_HS hR e1⟩
def cb33_105 (n : Nat)   (l0 : Nat) (l1 : Int32) (l2 : Int32) (l3 : Int32) (l4 : Int32) (l5 : Int32) (h : zY) : Option (Option Nat × zY) :=
  zgd (yisO h l0 8) <|
  (c20 n l0 l1 h).bind fun p3 =>
  some (p3.1, p3.2)
set_option maxRecDepth 20000 in
theorem kb33_105 {n : Nat} {Mm : Nat → Option zO}     {l0 : Nat} {l1 : Int32} {l2 : Int32} {l3 : Int32} {l4 : Int32} {l5 : Int32}  {kh : zH} {h : zY} {p : Option Nat × zY} (hR : Rep Mm kh h) (hG : cb33_105 n   l0 l1 l2 l3 l4 l5 h = some p) : ∃ kh1 : zH, b33_105 n   l0 l1 l2 l3 l4 l5 kh = some (p.1, kh1) ∧ Rep Mm kh1 p.2 := by
  unfold cb33_105 at hG
  unfold b33_105
  replace hG := zgd_some hG
  obtain ⟨g1, hG⟩ := hG
  refine zE (k_isO hR g1) ?_
  replace hG := zbnd hG
  obtain ⟨p3, e2, hG⟩ := hG
  have hT := k20 hR e2
  clear hR
  obtain ⟨kh3, e4, hR⟩ := hT
  refine bE e4 ?_
  replace hG := Option.some.inj hG
  subst hG
  exact ⟨_, rfl, hR⟩
def cb33_123 (n : Nat)   (l0 : Nat) (l1 : Int32) (l2 : Int32) (l3 : Int32) (l4 : Int32) (l5 : Int32) (s0 : Int32) (h : zY) : Option (Option Nat × zY) :=
  (c34 n h.2.1 (yN h 13 4)).bind fun p2 =>
  zgd (yisO p2.2 h.2.1 13) <|
  (c36 n h.2.1 s0 p2.2).bind fun p5 =>
  p5.1.bind fun a6 =>
  zgd (yisO p5.2 a6 13) <|
  (c46 n a6 p5.2).bind fun p10 =>
  (c15 n p10.2.2.1 (some 4) l1 l4 p10.1 s0 (yN p10.2 9 6)).bind fun p12 =>
  some ((some p10.2.2.1), p12.2)
set_option maxRecDepth 20000 in
theorem kb33_123 {n : Nat} {Mm : Nat → Option zO}     {l0 : Nat} {l1 : Int32} {l2 : Int32} {l3 : Int32} {l4 : Int32} {l5 : Int32} {s0 : Int32} {kh : zH} {h : zY} {p : Option Nat × zY} (hR : Rep Mm kh h) (hG : cb33_123 n   l0 l1 l2 l3 l4 l5 s0 h = some p) : ∃ kh1 : zH, b33_123 n   l0 l1 l2 l3 l4 l5 s0 kh = some (p.1, kh1) ∧ Rep Mm kh1 p.2 := by
  unfold cb33_123 at hG
  unfold b33_123
  try rw [rep_n hR] at hG
  replace hR := k_nO (ci := 13) (n := 4) hR
  replace hG := zbnd hG
  obtain ⟨p2, e1, hG⟩ := hG
  have hT := k34 hR e1
  clear hR
  obtain ⟨kh2, e3, hR⟩ := hT
  refine bE e3 ?_
  replace hG := zgd_some hG
  obtain ⟨g4, hG⟩ := hG
  refine zE (k_isO hR g4) ?_
  replace hG := zbnd hG
  obtain ⟨p5, e5, hG⟩ := hG
  have hT := k36 hR e5
  clear hR
  obtain ⟨kh6, e7, hR⟩ := hT
  refine bE e7 ?_
  replace hG := zbnd hG
  obtain ⟨a6, e8, hG⟩ := hG
  refine bE e8 ?_
  replace hG := zgd_some hG
  obtain ⟨g9, hG⟩ := hG
  refine zE (k_isO hR g9) ?_
  replace hG := zbnd hG
  obtain ⟨p10, e10, hG⟩ := hG
  have hT := k46 hR e10
  clear hR
  obtain ⟨kh11, e12, hR⟩ := hT
  refine bE e12 ?_
  try rw [rep_n hR] at hG
  replace hR := k_nO (ci := 9) (n := 6) hR
  replace hG := zbnd hG
  obtain ⟨p12, e13, hG⟩ := hG
  have hT := k15 hR e13
  clear hR
  obtain ⟨kh14, e15, hR⟩ := hT
  refine bE e15 ?_
  replace hG := Option.some.inj hG
  subst hG
  exact ⟨_, rfl, hR⟩
def cb33_87 (n : Nat)   (l0 : Nat) (l1 : Int32) (l2 : Int32) (l3 : Int32) (l4 : Int32) (l5 : Int32) (h : zY) : Option (Option Nat × zY) :=
  if l4 = l3 then
    cb33_105 n  l0 l1 l2 l3 l4 l5 h
  else
    zgd (yisO h l0 8) <|
    (c12 n l0 l4 h).bind fun p4 =>
    (c18 n p4.1 p4.2).bind fun p6 =>
    if p6.1 = 0 then
      if l2 = 0 then
        cb33_123 n  l0 l1 l2 l3 l4 l5 l5 p6.2
      else
        cb33_123 n  l0 l1 l2 l3 l4 l5 (-l5) p6.2
    else
      cb33_105 n  l0 l1 l2 l3 l4 l5 p6.2
set_option maxRecDepth 20000 in
theorem kb33_87 {n : Nat} {Mm : Nat → Option zO}     {l0 : Nat} {l1 : Int32} {l2 : Int32} {l3 : Int32} {l4 : Int32} {l5 : Int32}  {kh : zH} {h : zY} {p : Option Nat × zY} (hR : Rep Mm kh h) (hG : cb33_87 n   l0 l1 l2 l3 l4 l5 h = some p) : ∃ kh1 : zH, b33_87 n   l0 l1 l2 l3 l4 l5 kh = some (p.1, kh1) ∧ Rep Mm kh1 p.2 := by
  unfold cb33_87 at hG
  unfold b33_87
  by_cases c1 : l4 = l3
  · rw [if_pos c1] at hG
    refine iE1 c1 ?_
    exact kb33_105 (n := n) hR hG
  · rw [if_neg c1] at hG
    refine iE2 c1 ?_
    replace hG := zgd_some hG
    obtain ⟨g2, hG⟩ := hG
    refine zE (k_isO hR g2) ?_
    replace hG := zbnd hG
    obtain ⟨p4, e3, hG⟩ := hG
    have hT := k12 hR e3
    clear hR
    obtain ⟨kh4, e5, hR⟩ := hT
    refine bE e5 ?_
    replace hG := zbnd hG
    obtain ⟨p6, e6, hG⟩ := hG
    have hT := k18 hR e6
    clear hR
    obtain ⟨kh7, e8, hR⟩ := hT
    refine bE e8 ?_
    by_cases c9 : p6.1 = 0
    · rw [if_pos c9] at hG
      refine iE1 c9 ?_
      by_cases c10 : l2 = 0
      · rw [if_pos c10] at hG
        refine iE1 c10 ?_
        exact kb33_123 (n := n) hR hG
      · rw [if_neg c10] at hG
        refine iE2 c10 ?_
        exact kb33_123 (n := n) hR hG
    · rw [if_neg c9] at hG
      refine iE2 c9 ?_
      exact kb33_105 (n := n) hR hG
def cb33_34 (n : Nat)  (r34 : Nat → Int32 → Int32 → Int32 → Int32 → Int32 → zY → Option (Option Nat × zY)) (l0 : Nat) (l1 : Int32) (l2 : Int32) (l3 : Int32) (l4 : Int32) (l5 : Int32) (h : zY) : Option (Option Nat × zY) :=
  (yI h l0 8 1).bind fun x1 =>
  if x1 ≤ l4 then
    cb33_87 n  l0 l1 l2 l3 l4 l5 h
  else
    if (9 : Int32) ≤ (l4 - l3) then
      cb33_87 n  l0 l1 l2 l3 l4 l5 h
    else
      zgd (yisO h l0 8) <|
      (c12 n l0 l4 h).bind fun p7 =>
      (c19 n p7.1 p7.2).bind fun p9 =>
      if p9.1 = 0 then
        cb33_87 n  l0 l1 l2 l3 l4 l5 p9.2
      else
        zgd (yisO p9.2 l0 8) <|
        (c12 n l0 l4 p9.2).bind fun p13 =>
        r34 l0 l1 l2 l3 (l4 + 1) (((l5 * 10) + p13.1) - 48) p13.2
set_option maxRecDepth 20000 in
theorem kb33_34 {n : Nat} {Mm : Nat → Option zO}  {q34 : Nat → Int32 → Int32 → Int32 → Int32 → Int32 → zY → Option (Option Nat × zY)} {r34 : Nat → Int32 → Int32 → Int32 → Int32 → Int32 → zH → Option (Option Nat × zH)}  (hr34 : ∀ {l0 : Nat} {l1 : Int32} {l2 : Int32} {l3 : Int32} {l4 : Int32} {l5 : Int32}  {kh : zH} {h : zY} {p : Option Nat × zY}, Rep Mm kh h → q34 l0 l1 l2 l3 l4 l5 h = some p → ∃ kh1 : zH, r34 l0 l1 l2 l3 l4 l5 kh = some (p.1, kh1) ∧ Rep Mm kh1 p.2) {l0 : Nat} {l1 : Int32} {l2 : Int32} {l3 : Int32} {l4 : Int32} {l5 : Int32}  {kh : zH} {h : zY} {p : Option Nat × zY} (hR : Rep Mm kh h) (hG : cb33_34 n  q34 l0 l1 l2 l3 l4 l5 h = some p) : ∃ kh1 : zH, b33_34 n  r34 l0 l1 l2 l3 l4 l5 kh = some (p.1, kh1) ∧ Rep Mm kh1 p.2 := by
  unfold cb33_34 at hG
  unfold b33_34
  replace hG := zbnd hG
  obtain ⟨x1, e1, hG⟩ := hG
  refine bE (k_gI hR e1) ?_
  by_cases c2 : x1 ≤ l4
  · rw [if_pos c2] at hG
    refine iE1 c2 ?_
    exact kb33_87 (n := n) hR hG
  · rw [if_neg c2] at hG
    refine iE2 c2 ?_
    by_cases c3 : (9 : Int32) ≤ (l4 - l3)
    · rw [if_pos c3] at hG
      refine iE1 c3 ?_
      exact kb33_87 (n := n) hR hG
    · rw [if_neg c3] at hG
      refine iE2 c3 ?_
      replace hG := zgd_some hG
      obtain ⟨g4, hG⟩ := hG
      refine zE (k_isO hR g4) ?_
      replace hG := zbnd hG
      obtain ⟨p7, e5, hG⟩ := hG
      have hT := k12 hR e5
      clear hR
      obtain ⟨kh6, e7, hR⟩ := hT
      refine bE e7 ?_
      replace hG := zbnd hG
      obtain ⟨p9, e8, hG⟩ := hG
      have hT := k19 hR e8
      clear hR
      obtain ⟨kh9, e10, hR⟩ := hT
      refine bE e10 ?_
      by_cases c11 : p9.1 = 0
      · rw [if_pos c11] at hG
        refine iE1 c11 ?_
        exact kb33_87 (n := n) hR hG
      · rw [if_neg c11] at hG
        refine iE2 c11 ?_
        replace hG := zgd_some hG
        obtain ⟨g12, hG⟩ := hG
        refine zE (k_isO hR g12) ?_
        replace hG := zbnd hG
        obtain ⟨p13, e13, hG⟩ := hG
        have hT := k12 hR e13
        clear hR
        obtain ⟨kh14, e15, hR⟩ := hT
        refine bE e15 ?_
        exact hr34 hR hG
def cf33_34 (n : Nat)   (k : Nat) : Nat → Int32 → Int32 → Int32 → Int32 → Int32 → zY → Option (Option Nat × zY) := Nat.rec (fun _ _ _ _ _ _ _ => none) (fun _ ih => cb33_34 n  ih) k
theorem kf33_34 {n : Nat} {Mm : Nat → Option zO}     (k : Nat) : ∀ {l0 : Nat} {l1 : Int32} {l2 : Int32} {l3 : Int32} {l4 : Int32} {l5 : Int32}  {kh : zH} {h : zY} {p : Option Nat × zY}, Rep Mm kh h → cf33_34 n   k l0 l1 l2 l3 l4 l5 h = some p → ∃ kh1 : zH, f33_34 n   k l0 l1 l2 l3 l4 l5 kh = some (p.1, kh1) ∧ Rep Mm kh1 p.2 := by
  induction k with
  | zero => intros; rename_i hG; cases hG
  | succ k ih => intros; rename_i hR hG; exact kb33_34 (n := n) (q34 := cf33_34 n   k) (r34 := f33_34 n   k)  ih hR hG
def cb33_27 (n : Nat)   (l0 : Nat) (l1 : Int32) (l2 : Int32) (s0 : Int32) (h : zY) : Option (Option Nat × zY) :=
  cf33_34 n  n l0 l1 l2 s0 s0 0 h
set_option maxRecDepth 20000 in
theorem kb33_27 {n : Nat} {Mm : Nat → Option zO}     {l0 : Nat} {l1 : Int32} {l2 : Int32} {s0 : Int32} {kh : zH} {h : zY} {p : Option Nat × zY} (hR : Rep Mm kh h) (hG : cb33_27 n   l0 l1 l2 s0 h = some p) : ∃ kh1 : zH, b33_27 n   l0 l1 l2 s0 kh = some (p.1, kh1) ∧ Rep Mm kh1 p.2 := by
  unfold cb33_27 at hG
  unfold b33_27
  exact kf33_34 (n := n) n hR hG
def cb33_15 (n : Nat)   (l0 : Nat) (l1 : Int32) (s0 : Int32) (h : zY) : Option (Option Nat × zY) :=
  if s0 = 0 then
    cb33_27 n  l0 l1 s0 l1 h
  else
    cb33_27 n  l0 l1 s0 (l1 + 1) h
set_option maxRecDepth 20000 in
theorem kb33_15 {n : Nat} {Mm : Nat → Option zO}     {l0 : Nat} {l1 : Int32} {s0 : Int32} {kh : zH} {h : zY} {p : Option Nat × zY} (hR : Rep Mm kh h) (hG : cb33_15 n   l0 l1 s0 h = some p) : ∃ kh1 : zH, b33_15 n   l0 l1 s0 kh = some (p.1, kh1) ∧ Rep Mm kh1 p.2 := by
  unfold cb33_15 at hG
  unfold b33_15
  by_cases c1 : s0 = 0
  · rw [if_pos c1] at hG
    refine iE1 c1 ?_
    exact kb33_27 (n := n) hR hG
  · rw [if_neg c1] at hG
    refine iE2 c1 ?_
    exact kb33_27 (n := n) hR hG
def c33 (n : Nat)  (y0 : Nat) (y1 : Int32) (h : zY) : Option (Option Nat × zY) :=
  zgd (yisO h y0 8) <|
  (c12 n y0 y1 h).bind fun p3 =>
  if p3.1 = 45 then
    cb33_15 n  y0 y1 1 p3.2
  else
    cb33_15 n  y0 y1 0 p3.2
set_option maxRecDepth 20000 in
theorem k33 {n : Nat} {Mm : Nat → Option zO}   {y0 : Nat} {y1 : Int32} {kh : zH} {h : zY} {p : Option Nat × zY} (hR : Rep Mm kh h) (hG : c33 n  y0 y1 h = some p) : ∃ kh1 : zH, f33 n  y0 y1 kh = some (p.1, kh1) ∧ Rep Mm kh1 p.2 := by
  unfold c33 at hG
  unfold f33
  replace hG := zgd_some hG
  obtain ⟨g1, hG⟩ := hG
  refine zE (k_isO hR g1) ?_
  replace hG := zbnd hG
  obtain ⟨p3, e2, hG⟩ := hG
  have hT := k12 hR e2
  clear hR
  obtain ⟨kh3, e4, hR⟩ := hT
  refine bE e4 ?_
  by_cases c5 : p3.1 = 45
  · rw [if_pos c5] at hG
    refine iE1 c5 ?_
    exact kb33_15 (n := n) hR hG
  · rw [if_neg c5] at hG
    refine iE2 c5 ?_
    exact kb33_15 (n := n) hR hG
end ZCLS

/-! THE CLASS OVER AN ABSTRACT HEAP, 1 (written by a program of the verifier's) -/
section ZCLS
def cb58_42 (n : Nat)  (r2 : Int32 → Int32 → zY → Option (Option Nat × zY)) (l0 : Int32) (l1 : Int32) (l2 : Option Nat) (h : zY) : Option (Option Nat × zY) :=
  r2 l0 (l1 + 1) h
set_option maxRecDepth 20000 in
theorem kb58_42 {n : Nat} {Mm : Nat → Option zO}  {q2 : Int32 → Int32 → zY → Option (Option Nat × zY)} {r2 : Int32 → Int32 → zH → Option (Option Nat × zH)}  (hr2 : ∀ {l0 : Int32} {l1 : Int32}  {kh : zH} {h : zY} {p : Option Nat × zY}, Rep Mm kh h → q2 l0 l1 h = some p → ∃ kh1 : zH, r2 l0 l1 kh = some (p.1, kh1) ∧ Rep Mm kh1 p.2) {l0 : Int32} {l1 : Int32} {l2 : Option Nat}  {kh : zH} {h : zY} {p : Option Nat × zY} (hR : Rep Mm kh h) (hG : cb58_42 n  q2 l0 l1 l2 h = some p) : ∃ kh1 : zH, b58_42 n  r2 l0 l1 l2 kh = some (p.1, kh1) ∧ Rep Mm kh1 p.2 := by
  unfold cb58_42 at hG
  unfold b58_42
  exact hr2 hR hG
def cb58_2 (n : Nat)  (r2 : Int32 → Int32 → zY → Option (Option Nat × zY)) (l0 : Int32) (l1 : Int32) (h : zY) : Option (Option Nat × zY) :=
  (yL h 44).bind fun x1 =>
  if x1 ≤ l1 then
    some ((some 2), h)
  else
    (yaR h 44 l1).bind fun x4 =>
    x4.bind fun a6 =>
    (yR h a6 15 1).bind fun x7 =>
    x7.bind fun a9 =>
    zgd (yisO h a9 12) <|
    (c55 n a9 h).bind fun p12 =>
    if p12.1 = 1 then
      zgd (yisO p12.2 a9 12) <|
      (c59 n a9 0 p12.2).bind fun p16 =>
      if p16.1 = l0 then
        (yaR p16.2 44 l1).bind fun x18 =>
        some (x18, p16.2)
      else
        cb58_42 n r2 l0 l1 (some a9) p16.2
    else
      cb58_42 n r2 l0 l1 (some a9) p12.2
set_option maxRecDepth 20000 in
theorem kb58_2 {n : Nat} {Mm : Nat → Option zO}  {q2 : Int32 → Int32 → zY → Option (Option Nat × zY)} {r2 : Int32 → Int32 → zH → Option (Option Nat × zH)}  (hr2 : ∀ {l0 : Int32} {l1 : Int32}  {kh : zH} {h : zY} {p : Option Nat × zY}, Rep Mm kh h → q2 l0 l1 h = some p → ∃ kh1 : zH, r2 l0 l1 kh = some (p.1, kh1) ∧ Rep Mm kh1 p.2) {l0 : Int32} {l1 : Int32}  {kh : zH} {h : zY} {p : Option Nat × zY} (hR : Rep Mm kh h) (hG : cb58_2 n  q2 l0 l1 h = some p) : ∃ kh1 : zH, b58_2 n  r2 l0 l1 kh = some (p.1, kh1) ∧ Rep Mm kh1 p.2 := by
  unfold cb58_2 at hG
  unfold b58_2
  replace hG := zbnd hG
  obtain ⟨x1, e1, hG⟩ := hG
  refine bE (k_aN hR e1) ?_
  by_cases c2 : x1 ≤ l1
  · rw [if_pos c2] at hG
    refine iE1 c2 ?_
    replace hG := Option.some.inj hG
    subst hG
    exact ⟨_, rfl, hR⟩
  · rw [if_neg c2] at hG
    refine iE2 c2 ?_
    replace hG := zbnd hG
    obtain ⟨x4, e3, hG⟩ := hG
    refine bE (k_aR hR e3) ?_
    replace hG := zbnd hG
    obtain ⟨a6, rfl, hG⟩ := hG
    refine bE rfl ?_
    replace hG := zbnd hG
    obtain ⟨x7, e5, hG⟩ := hG
    refine bE (k_gR hR e5) ?_
    replace hG := zbnd hG
    obtain ⟨a9, rfl, hG⟩ := hG
    refine bE rfl ?_
    replace hG := zgd_some hG
    obtain ⟨g7, hG⟩ := hG
    refine zE (k_isO hR g7) ?_
    replace hG := zbnd hG
    obtain ⟨p12, e8, hG⟩ := hG
    have hT := k55 hR e8
    clear hR
    obtain ⟨kh9, e10, hR⟩ := hT
    refine bE e10 ?_
    by_cases c11 : p12.1 = 1
    · rw [if_pos c11] at hG
      refine iE1 c11 ?_
      replace hG := zgd_some hG
      obtain ⟨g12, hG⟩ := hG
      refine zE (k_isO hR g12) ?_
      replace hG := zbnd hG
      obtain ⟨p16, e13, hG⟩ := hG
      have hT := k59 hR e13
      clear hR
      obtain ⟨kh14, e15, hR⟩ := hT
      refine bE e15 ?_
      by_cases c16 : p16.1 = l0
      · rw [if_pos c16] at hG
        refine iE1 c16 ?_
        replace hG := zbnd hG
        obtain ⟨x18, e17, hG⟩ := hG
        refine bE (k_aR hR e17) ?_
        replace hG := Option.some.inj hG
        subst hG
        exact ⟨_, rfl, hR⟩
      · rw [if_neg c16] at hG
        refine iE2 c16 ?_
        exact kb58_42 (n := n) (q2 := q2) (r2 := r2) hr2 hR hG
    · rw [if_neg c11] at hG
      refine iE2 c11 ?_
      exact kb58_42 (n := n) (q2 := q2) (r2 := r2) hr2 hR hG
def cf58_2 (n : Nat)   (k : Nat) : Int32 → Int32 → zY → Option (Option Nat × zY) := Nat.rec (fun _ _ _ => none) (fun _ ih => cb58_2 n  ih) k
theorem kf58_2 {n : Nat} {Mm : Nat → Option zO}     (k : Nat) : ∀ {l0 : Int32} {l1 : Int32}  {kh : zH} {h : zY} {p : Option Nat × zY}, Rep Mm kh h → cf58_2 n   k l0 l1 h = some p → ∃ kh1 : zH, f58_2 n   k l0 l1 kh = some (p.1, kh1) ∧ Rep Mm kh1 p.2 := by
  induction k with
  | zero => intros; rename_i hG; cases hG
  | succ k ih => intros; rename_i hR hG; exact kb58_2 (n := n) (q2 := cf58_2 n   k) (r2 := f58_2 n   k)  ih hR hG
def c58 (n : Nat)  (y0 : Int32) (h : zY) : Option (Option Nat × zY) :=
  cf58_2 n  n y0 0 h
set_option maxRecDepth 20000 in
theorem k58 {n : Nat} {Mm : Nat → Option zO}   {y0 : Int32} {kh : zH} {h : zY} {p : Option Nat × zY} (hR : Rep Mm kh h) (hG : c58 n  y0 h = some p) : ∃ kh1 : zH, f58 n  y0 kh = some (p.1, kh1) ∧ Rep Mm kh1 p.2 := by
  unfold c58 at hG
  unfold f58
  exact kf58_2 (n := n) n hR hG
def cb57_40 (n : Nat)   (l0 : Nat) (l1 : Int32) (h : zY) : Option (Option Nat × zY) :=
  zgd (yisO (yN h 9 6) l0 8) <|
  (c12 n l0 l1 (yN h 9 6)).bind fun p3 =>
  (c58 n p3.1 p3.2).bind fun p5 =>
  (c15 n h.2.1 p5.1 l1 (l1 + 1) (some 49) 0 p5.2).bind fun p7 =>
  some ((some h.2.1), p7.2)
set_option maxRecDepth 20000 in
theorem kb57_40 {n : Nat} {Mm : Nat → Option zO}     {l0 : Nat} {l1 : Int32}  {kh : zH} {h : zY} {p : Option Nat × zY} (hR : Rep Mm kh h) (hG : cb57_40 n   l0 l1 h = some p) : ∃ kh1 : zH, b57_40 n   l0 l1 kh = some (p.1, kh1) ∧ Rep Mm kh1 p.2 := by
  unfold cb57_40 at hG
  unfold b57_40
  try rw [rep_n hR] at hG
  replace hR := k_nO (ci := 9) (n := 6) hR
  replace hG := zgd_some hG
  obtain ⟨g1, hG⟩ := hG
  refine zE (k_isO hR g1) ?_
  replace hG := zbnd hG
  obtain ⟨p3, e2, hG⟩ := hG
  have hT := k12 hR e2
  clear hR
  obtain ⟨kh3, e4, hR⟩ := hT
  refine bE e4 ?_
  replace hG := zbnd hG
  obtain ⟨p5, e5, hG⟩ := hG
  have hT := k58 hR e5
  clear hR
  obtain ⟨kh6, e7, hR⟩ := hT
  refine bE e7 ?_
  replace hG := zbnd hG
  obtain ⟨p7, e8, hG⟩ := hG
  have hT := k15 hR e8
  clear hR
  obtain ⟨kh9, e10, hR⟩ := hT
  refine bE e10 ?_
  replace hG := Option.some.inj hG
  subst hG
  exact ⟨_, rfl, hR⟩
def c57 (n : Nat)  (y0 : Nat) (y1 : Int32) (h : zY) : Option (Option Nat × zY) :=
  zgd (yisO h y0 8) <|
  (c12 n y0 y1 h).bind fun p3 =>
  if p3.1 = 45 then
    zgd (yisO p3.2 y0 8) <|
    (c12 n y0 (y1 + 1) p3.2).bind fun p7 =>
    if p7.1 = 62 then
      (c15 n p7.2.2.1 (some 14) y1 (y1 + 2) (some 49) 0 (yN p7.2 9 6)).bind fun p10 =>
      some ((some p7.2.2.1), p10.2)
    else
      cb57_40 n  y0 y1 p7.2
  else
    cb57_40 n  y0 y1 p3.2
set_option maxRecDepth 20000 in
theorem k57 {n : Nat} {Mm : Nat → Option zO}   {y0 : Nat} {y1 : Int32} {kh : zH} {h : zY} {p : Option Nat × zY} (hR : Rep Mm kh h) (hG : c57 n  y0 y1 h = some p) : ∃ kh1 : zH, f57 n  y0 y1 kh = some (p.1, kh1) ∧ Rep Mm kh1 p.2 := by
  unfold c57 at hG
  unfold f57
  replace hG := zgd_some hG
  obtain ⟨g1, hG⟩ := hG
  refine zE (k_isO hR g1) ?_
  replace hG := zbnd hG
  obtain ⟨p3, e2, hG⟩ := hG
  have hT := k12 hR e2
  clear hR
  obtain ⟨kh3, e4, hR⟩ := hT
  refine bE e4 ?_
  by_cases c5 : p3.1 = 45
  · rw [if_pos c5] at hG
    refine iE1 c5 ?_
    replace hG := zgd_some hG
    obtain ⟨g6, hG⟩ := hG
    refine zE (k_isO hR g6) ?_
    replace hG := zbnd hG
    obtain ⟨p7, e7, hG⟩ := hG
    have hT := k12 hR e7
    clear hR
    obtain ⟨kh8, e9, hR⟩ := hT
    refine bE e9 ?_
    by_cases c10 : p7.1 = 62
    · rw [if_pos c10] at hG
      refine iE1 c10 ?_
      try rw [rep_n hR] at hG
      replace hR := k_nO (ci := 9) (n := 6) hR
      replace hG := zbnd hG
      obtain ⟨p10, e11, hG⟩ := hG
      have hT := k15 hR e11
      clear hR
      obtain ⟨kh12, e13, hR⟩ := hT
      refine bE e13 ?_
      replace hG := Option.some.inj hG
      subst hG
      exact ⟨_, rfl, hR⟩
    · rw [if_neg c10] at hG
      refine iE2 c10 ?_
      exact kb57_40 (n := n) hR hG
  · rw [if_neg c5] at hG
    refine iE2 c5 ?_
    exact kb57_40 (n := n) hR hG
def cb11_107 (n : Nat)   (l0 : Nat) (l1 : Int32) (l2 : Int32) (l3 : Int32) (h : zY) : Option (Option Nat × zY) :=
  zgd (yisO h l0 8) <|
  (c33 n l0 l2 h).bind fun p3 =>
  some (p3.1, p3.2)
set_option maxRecDepth 20000 in
theorem kb11_107 {n : Nat} {Mm : Nat → Option zO}     {l0 : Nat} {l1 : Int32} {l2 : Int32} {l3 : Int32}  {kh : zH} {h : zY} {p : Option Nat × zY} (hR : Rep Mm kh h) (hG : cb11_107 n   l0 l1 l2 l3 h = some p) : ∃ kh1 : zH, b11_107 n   l0 l1 l2 l3 kh = some (p.1, kh1) ∧ Rep Mm kh1 p.2 := by
  unfold cb11_107 at hG
  unfold b11_107
  replace hG := zgd_some hG
  obtain ⟨g1, hG⟩ := hG
  refine zE (k_isO hR g1) ?_
  replace hG := zbnd hG
  obtain ⟨p3, e2, hG⟩ := hG
  have hT := k33 hR e2
  clear hR
  obtain ⟨kh3, e4, hR⟩ := hT
  refine bE e4 ?_
  replace hG := Option.some.inj hG
  subst hG
  exact ⟨_, rfl, hR⟩
def cb11_113 (n : Nat)   (l0 : Nat) (l1 : Int32) (l2 : Int32) (l3 : Int32) (h : zY) : Option (Option Nat × zY) :=
  zgd (yisO h l0 8) <|
  (c57 n l0 l2 h).bind fun p3 =>
  some (p3.1, p3.2)
set_option maxRecDepth 20000 in
theorem kb11_113 {n : Nat} {Mm : Nat → Option zO}     {l0 : Nat} {l1 : Int32} {l2 : Int32} {l3 : Int32}  {kh : zH} {h : zY} {p : Option Nat × zY} (hR : Rep Mm kh h) (hG : cb11_113 n   l0 l1 l2 l3 h = some p) : ∃ kh1 : zH, b11_113 n   l0 l1 l2 l3 kh = some (p.1, kh1) ∧ Rep Mm kh1 p.2 := by
  unfold cb11_113 at hG
  unfold b11_113
  replace hG := zgd_some hG
  obtain ⟨g1, hG⟩ := hG
  refine zE (k_isO hR g1) ?_
  replace hG := zbnd hG
  obtain ⟨p3, e2, hG⟩ := hG
  have hT := k57 hR e2
  clear hR
  obtain ⟨kh3, e4, hR⟩ := hT
  refine bE e4 ?_
  replace hG := Option.some.inj hG
  subst hG
  exact ⟨_, rfl, hR⟩
def cb11_27 (n : Nat)   (l0 : Nat) (l1 : Int32) (l2 : Int32) (h : zY) : Option (Option Nat × zY) :=
  (yI h l0 8 1).bind fun x1 =>
  if l2 < x1 then
    zgd (yisO h l0 8) <|
    (c12 n l0 l2 h).bind fun p6 =>
    (c16 n p6.1 p6.2).bind fun p8 =>
    if p8.1 = 0 then
      if p6.1 = 39 then
        zgd (yisO p8.2 l0 8) <|
        (c31 n l0 l2 p8.2).bind fun p13 =>
        some (p13.1, p13.2)
      else
        (c19 n p6.1 p8.2).bind fun p15 =>
        if p15.1 = 0 then
          if p6.1 = 45 then
            zgd (yisO p15.2 l0 8) <|
            (c12 n l0 (l2 + 1) p15.2).bind fun p20 =>
            if p20.1 = 62 then
              cb11_113 n  l0 l1 l2 p6.1 p20.2
            else
              cb11_107 n  l0 l1 l2 p6.1 p20.2
          else
            cb11_113 n  l0 l1 l2 p6.1 p15.2
        else
          cb11_107 n  l0 l1 l2 p6.1 p15.2
    else
      zgd (yisO p8.2 l0 8) <|
      (c17 n l0 l2 p8.2).bind fun p24 =>
      some (p24.1, p24.2)
  else
    (c15 n h.2.1 (some 1) l2 l2 (some 49) 0 (yN h 9 6)).bind fun p26 =>
    some ((some h.2.1), p26.2)
set_option maxRecDepth 20000 in
theorem kb11_27 {n : Nat} {Mm : Nat → Option zO}     {l0 : Nat} {l1 : Int32} {l2 : Int32}  {kh : zH} {h : zY} {p : Option Nat × zY} (hR : Rep Mm kh h) (hG : cb11_27 n   l0 l1 l2 h = some p) : ∃ kh1 : zH, b11_27 n   l0 l1 l2 kh = some (p.1, kh1) ∧ Rep Mm kh1 p.2 := by
  unfold cb11_27 at hG
  unfold b11_27
  replace hG := zbnd hG
  obtain ⟨x1, e1, hG⟩ := hG
  refine bE (k_gI hR e1) ?_
  by_cases c2 : l2 < x1
  · rw [if_pos c2] at hG
    refine iE1 c2 ?_
    replace hG := zgd_some hG
    obtain ⟨g3, hG⟩ := hG
    refine zE (k_isO hR g3) ?_
    replace hG := zbnd hG
    obtain ⟨p6, e4, hG⟩ := hG
    have hT := k12 hR e4
    clear hR
    obtain ⟨kh5, e6, hR⟩ := hT
    refine bE e6 ?_
    replace hG := zbnd hG
    obtain ⟨p8, e7, hG⟩ := hG
    have hT := k16 hR e7
    clear hR
    obtain ⟨kh8, e9, hR⟩ := hT
    refine bE e9 ?_
    by_cases c10 : p8.1 = 0
    · rw [if_pos c10] at hG
      refine iE1 c10 ?_
      by_cases c11 : p6.1 = 39
      · rw [if_pos c11] at hG
        refine iE1 c11 ?_
        replace hG := zgd_some hG
        obtain ⟨g12, hG⟩ := hG
        refine zE (k_isO hR g12) ?_
        replace hG := zbnd hG
        obtain ⟨p13, e13, hG⟩ := hG
        have hT := k31 hR e13
        clear hR
        obtain ⟨kh14, e15, hR⟩ := hT
        refine bE e15 ?_
        replace hG := Option.some.inj hG
        subst hG
        exact ⟨_, rfl, hR⟩
      · rw [if_neg c11] at hG
        refine iE2 c11 ?_
        replace hG := zbnd hG
        obtain ⟨p15, e16, hG⟩ := hG
        have hT := k19 hR e16
        clear hR
        obtain ⟨kh17, e18, hR⟩ := hT
        refine bE e18 ?_
        by_cases c19 : p15.1 = 0
        · rw [if_pos c19] at hG
          refine iE1 c19 ?_
          by_cases c20 : p6.1 = 45
          · rw [if_pos c20] at hG
            refine iE1 c20 ?_
            replace hG := zgd_some hG
            obtain ⟨g21, hG⟩ := hG
            refine zE (k_isO hR g21) ?_
            replace hG := zbnd hG
            obtain ⟨p20, e22, hG⟩ := hG
            have hT := k12 hR e22
            clear hR
            obtain ⟨kh23, e24, hR⟩ := hT
            refine bE e24 ?_
            by_cases c25 : p20.1 = 62
            · rw [if_pos c25] at hG
              refine iE1 c25 ?_
              exact kb11_113 (n := n) hR hG
            · rw [if_neg c25] at hG
              refine iE2 c25 ?_
              exact kb11_107 (n := n) hR hG
          · rw [if_neg c20] at hG
            refine iE2 c20 ?_
            exact kb11_113 (n := n) hR hG
        · rw [if_neg c19] at hG
          refine iE2 c19 ?_
          exact kb11_107 (n := n) hR hG
    · rw [if_neg c10] at hG
      refine iE2 c10 ?_
      replace hG := zgd_some hG
      obtain ⟨g26, hG⟩ := hG
      refine zE (k_isO hR g26) ?_
      replace hG := zbnd hG
      obtain ⟨p24, e27, hG⟩ := hG
      have hT := k17 hR e27
      clear hR
      obtain ⟨kh28, e29, hR⟩ := hT
      refine bE e29 ?_
      replace hG := Option.some.inj hG
      subst hG
      exact ⟨_, rfl, hR⟩
  · rw [if_neg c2] at hG
    refine iE2 c2 ?_
    try rw [rep_n hR] at hG
    replace hR := k_nO (ci := 9) (n := 6) hR
    replace hG := zbnd hG
    obtain ⟨p26, e30, hG⟩ := hG
    have hT := k15 hR e30
    clear hR
    obtain ⟨kh31, e32, hR⟩ := hT
    refine bE e32 ?_
    replace hG := Option.some.inj hG
    subst hG
    exact ⟨_, rfl, hR⟩
def cb11_2 (n : Nat)  (r2 : Nat → Int32 → Int32 → zY → Option (Option Nat × zY)) (l0 : Nat) (l1 : Int32) (l2 : Int32) (h : zY) : Option (Option Nat × zY) :=
  (yI h l0 8 1).bind fun x1 =>
  if x1 ≤ l2 then
    cb11_27 n  l0 l1 l2 h
  else
    zgd (yisO h l0 8) <|
    (c12 n l0 l2 h).bind fun p6 =>
    (c14 n p6.1 p6.2).bind fun p8 =>
    if p8.1 = 0 then
      cb11_27 n  l0 l1 l2 p8.2
    else
      r2 l0 l1 (l2 + 1) p8.2
set_option maxRecDepth 20000 in
theorem kb11_2 {n : Nat} {Mm : Nat → Option zO}  {q2 : Nat → Int32 → Int32 → zY → Option (Option Nat × zY)} {r2 : Nat → Int32 → Int32 → zH → Option (Option Nat × zH)}  (hr2 : ∀ {l0 : Nat} {l1 : Int32} {l2 : Int32}  {kh : zH} {h : zY} {p : Option Nat × zY}, Rep Mm kh h → q2 l0 l1 l2 h = some p → ∃ kh1 : zH, r2 l0 l1 l2 kh = some (p.1, kh1) ∧ Rep Mm kh1 p.2) {l0 : Nat} {l1 : Int32} {l2 : Int32}  {kh : zH} {h : zY} {p : Option Nat × zY} (hR : Rep Mm kh h) (hG : cb11_2 n  q2 l0 l1 l2 h = some p) : ∃ kh1 : zH, b11_2 n  r2 l0 l1 l2 kh = some (p.1, kh1) ∧ Rep Mm kh1 p.2 := by
  unfold cb11_2 at hG
  unfold b11_2
  replace hG := zbnd hG
  obtain ⟨x1, e1, hG⟩ := hG
  refine bE (k_gI hR e1) ?_
  by_cases c2 : x1 ≤ l2
  · rw [if_pos c2] at hG
    refine iE1 c2 ?_
    exact kb11_27 (n := n) hR hG
  · rw [if_neg c2] at hG
    refine iE2 c2 ?_
    replace hG := zgd_some hG
    obtain ⟨g3, hG⟩ := hG
    refine zE (k_isO hR g3) ?_
    replace hG := zbnd hG
    obtain ⟨p6, e4, hG⟩ := hG
    have hT := k12 hR e4
    clear hR
    obtain ⟨kh5, e6, hR⟩ := hT
    refine bE e6 ?_
    replace hG := zbnd hG
    obtain ⟨p8, e7, hG⟩ := hG
    have hT := k14 hR e7
    clear hR
    obtain ⟨kh8, e9, hR⟩ := hT
    refine bE e9 ?_
    by_cases c10 : p8.1 = 0
    · rw [if_pos c10] at hG
      refine iE1 c10 ?_
      exact kb11_27 (n := n) hR hG
    · rw [if_neg c10] at hG
      refine iE2 c10 ?_
      exact hr2 hR hG
def cf11_2 (n : Nat)   (k : Nat) : Nat → Int32 → Int32 → zY → Option (Option Nat × zY) := Nat.rec (fun _ _ _ _ => none) (fun _ ih => cb11_2 n  ih) k
theorem kf11_2 {n : Nat} {Mm : Nat → Option zO}     (k : Nat) : ∀ {l0 : Nat} {l1 : Int32} {l2 : Int32}  {kh : zH} {h : zY} {p : Option Nat × zY}, Rep Mm kh h → cf11_2 n   k l0 l1 l2 h = some p → ∃ kh1 : zH, f11_2 n   k l0 l1 l2 kh = some (p.1, kh1) ∧ Rep Mm kh1 p.2 := by
  induction k with
  | zero => intros; rename_i hG; cases hG
  | succ k ih => intros; rename_i hR hG; exact kb11_2 (n := n) (q2 := cf11_2 n   k) (r2 := f11_2 n   k)  ih hR hG
def c11 (n : Nat)  (y0 : Nat) (y1 : Int32) (h : zY) : Option (Option Nat × zY) :=
  cf11_2 n  n y0 y1 y1 h
set_option maxRecDepth 20000 in
theorem k11 {n : Nat} {Mm : Nat → Option zO}   {y0 : Nat} {y1 : Int32} {kh : zH} {h : zY} {p : Option Nat × zY} (hR : Rep Mm kh h) (hG : c11 n  y0 y1 h = some p) : ∃ kh1 : zH, f11 n  y0 y1 kh = some (p.1, kh1) ∧ Rep Mm kh1 p.2 := by
  unfold c11 at hG
  unfold f11
  exact kf11_2 (n := n) n hR hG
def cb10_62 (n : Nat)   (l0 : Nat) (l1 : Option Nat) (l2 : Option Nat) (l3 : Int32) (h : zY) : Option (Option Nat × zY) :=
  (yP h l0 8 1 (.int 0)).bind fun h1 =>
  some (l1, h1)
set_option maxRecDepth 20000 in
theorem kb10_62 {n : Nat} {Mm : Nat → Option zO}     {l0 : Nat} {l1 : Option Nat} {l2 : Option Nat} {l3 : Int32}  {kh : zH} {h : zY} {p : Option Nat × zY} (hR : Rep Mm kh h) (hG : cb10_62 n   l0 l1 l2 l3 h = some p) : ∃ kh1 : zH, b10_62 n   l0 l1 l2 l3 kh = some (p.1, kh1) ∧ Rep Mm kh1 p.2 := by
  unfold cb10_62 at hG
  unfold b10_62
  replace hG := zbnd hG
  obtain ⟨h1, e1, hG⟩ := hG
  have hT := k_pF hR e1
  clear hR
  obtain ⟨kh2, e3, hR⟩ := hT
  refine bE e3 ?_
  replace hG := Option.some.inj hG
  subst hG
  exact ⟨_, rfl, hR⟩
def cb10_10 (n : Nat)  (r10 : Nat → Option Nat → Option Nat → Int32 → zY → Option (Option Nat × zY)) (l0 : Nat) (l1 : Option Nat) (l2 : Option Nat) (l3 : Int32) (h : zY) : Option (Option Nat × zY) :=
  if (6000 : Int32) ≤ l3 then
    cb10_62 n  l0 l1 l2 l3 h
  else
    l2.bind fun a2 =>
    (yR h a2 9 0).bind fun x3 =>
    (rEq x3 (some 1)).bind fun b5 =>
    if b5 = true then
      cb10_62 n  l0 l1 (some a2) l3 h
    else
      (yR h a2 9 0).bind fun x8 =>
      (rEq x8 (some 2)).bind fun b10 =>
      if b10 = true then
        cb10_62 n  l0 l1 (some a2) l3 h
      else
        (yI h a2 9 2).bind fun x13 =>
        zgd (yisO h l0 8) <|
        (c11 n l0 x13 h).bind fun p17 =>
        (yP p17.2 a2 9 5 (va_rf p17.1)).bind fun h18 =>
        r10 l0 l1 p17.1 (l3 + 1) h18
set_option maxRecDepth 20000 in
theorem kb10_10 {n : Nat} {Mm : Nat → Option zO}  {q10 : Nat → Option Nat → Option Nat → Int32 → zY → Option (Option Nat × zY)} {r10 : Nat → Option Nat → Option Nat → Int32 → zH → Option (Option Nat × zH)}  (hr10 : ∀ {l0 : Nat} {l1 : Option Nat} {l2 : Option Nat} {l3 : Int32}  {kh : zH} {h : zY} {p : Option Nat × zY}, Rep Mm kh h → q10 l0 l1 l2 l3 h = some p → ∃ kh1 : zH, r10 l0 l1 l2 l3 kh = some (p.1, kh1) ∧ Rep Mm kh1 p.2) {l0 : Nat} {l1 : Option Nat} {l2 : Option Nat} {l3 : Int32}  {kh : zH} {h : zY} {p : Option Nat × zY} (hR : Rep Mm kh h) (hG : cb10_10 n  q10 l0 l1 l2 l3 h = some p) : ∃ kh1 : zH, b10_10 n  r10 l0 l1 l2 l3 kh = some (p.1, kh1) ∧ Rep Mm kh1 p.2 := by
  unfold cb10_10 at hG
  unfold b10_10
  by_cases c1 : (6000 : Int32) ≤ l3
  · rw [if_pos c1] at hG
    refine iE1 c1 ?_
    exact kb10_62 (n := n) hR hG
  · rw [if_neg c1] at hG
    refine iE2 c1 ?_
    replace hG := zbnd hG
    obtain ⟨a2, rfl, hG⟩ := hG
    refine bE rfl ?_
    replace hG := zbnd hG
    obtain ⟨x3, e3, hG⟩ := hG
    refine bE (k_gR hR e3) ?_
    replace hG := zbnd hG
    obtain ⟨b5, e4, hG⟩ := hG
    refine bE e4 ?_
    by_cases c5 : b5 = true
    · rw [if_pos c5] at hG
      refine iE1 c5 ?_
      exact kb10_62 (n := n) hR hG
    · rw [if_neg c5] at hG
      refine iE2 c5 ?_
      replace hG := zbnd hG
      obtain ⟨x8, e6, hG⟩ := hG
      refine bE (k_gR hR e6) ?_
      replace hG := zbnd hG
      obtain ⟨b10, e7, hG⟩ := hG
      refine bE e7 ?_
      by_cases c8 : b10 = true
      · rw [if_pos c8] at hG
        refine iE1 c8 ?_
        exact kb10_62 (n := n) hR hG
      · rw [if_neg c8] at hG
        refine iE2 c8 ?_
        replace hG := zbnd hG
        obtain ⟨x13, e9, hG⟩ := hG
        refine bE (k_gI hR e9) ?_
        replace hG := zgd_some hG
        obtain ⟨g10, hG⟩ := hG
        refine zE (k_isO hR g10) ?_
        replace hG := zbnd hG
        obtain ⟨p17, e11, hG⟩ := hG
        have hT := k11 hR e11
        clear hR
        obtain ⟨kh12, e13, hR⟩ := hT
        refine bE e13 ?_
        replace hG := zbnd hG
        obtain ⟨h18, e14, hG⟩ := hG
        have hT := k_pF hR e14
        clear hR
        obtain ⟨kh15, e16, hR⟩ := hT
        refine bE e16 ?_
        exact hr10 hR hG
def cf10_10 (n : Nat)   (k : Nat) : Nat → Option Nat → Option Nat → Int32 → zY → Option (Option Nat × zY) := Nat.rec (fun _ _ _ _ _ => none) (fun _ ih => cb10_10 n  ih) k
theorem kf10_10 {n : Nat} {Mm : Nat → Option zO}     (k : Nat) : ∀ {l0 : Nat} {l1 : Option Nat} {l2 : Option Nat} {l3 : Int32}  {kh : zH} {h : zY} {p : Option Nat × zY}, Rep Mm kh h → cf10_10 n   k l0 l1 l2 l3 h = some p → ∃ kh1 : zH, f10_10 n   k l0 l1 l2 l3 kh = some (p.1, kh1) ∧ Rep Mm kh1 p.2 := by
  induction k with
  | zero => intros; rename_i hG; cases hG
  | succ k ih => intros; rename_i hR hG; exact kb10_10 (n := n) (q10 := cf10_10 n   k) (r10 := f10_10 n   k)  ih hR hG
def c10 (n : Nat)  (y0 : Nat) (h : zY) : Option (Option Nat × zY) :=
  zgd (yisO h y0 8) <|
  (c11 n y0 0 h).bind fun p3 =>
  cf10_10 n  n y0 p3.1 p3.1 0 p3.2
set_option maxRecDepth 20000 in
theorem k10 {n : Nat} {Mm : Nat → Option zO}   {y0 : Nat} {kh : zH} {h : zY} {p : Option Nat × zY} (hR : Rep Mm kh h) (hG : c10 n  y0 h = some p) : ∃ kh1 : zH, f10 n  y0 kh = some (p.1, kh1) ∧ Rep Mm kh1 p.2 := by
  unfold c10 at hG
  unfold f10
  replace hG := zgd_some hG
  obtain ⟨g1, hG⟩ := hG
  refine zE (k_isO hR g1) ?_
  replace hG := zbnd hG
  obtain ⟨p3, e2, hG⟩ := hG
  have hT := k11 hR e2
  clear hR
  obtain ⟨kh3, e4, hR⟩ := hT
  refine bE e4 ?_
  exact kf10_10 (n := n) n hR hG
def c64 (n : Nat)  (y0 : Nat) (y1 : Option Nat) (h : zY) : Option (Unit × zY) :=
  (c5 n h.2.1 (yN h 4 12)).bind fun p2 =>
  (yP p2.2 y0 5 0 (.ref h.2.1)).bind fun h3 =>
  (yP h3 y0 5 1 (.int 0)).bind fun h5 =>
  (yP h5 y0 5 2 (.int 0)).bind fun h7 =>
  (yP h7 y0 5 3 (va_rf y1)).bind fun h9 =>
  some ((), h9)
set_option maxRecDepth 20000 in
theorem k64 {n : Nat} {Mm : Nat → Option zO}   {y0 : Nat} {y1 : Option Nat} {kh : zH} {h : zY} {p : Unit × zY} (hR : Rep Mm kh h) (hG : c64 n  y0 y1 h = some p) : ∃ kh1 : zH, f64 n  y0 y1 kh = some (p.1, kh1) ∧ Rep Mm kh1 p.2 := by
  unfold c64 at hG
  unfold f64
  try rw [rep_n hR] at hG
  replace hR := k_nO (ci := 4) (n := 12) hR
  replace hG := zbnd hG
  obtain ⟨p2, e1, hG⟩ := hG
  have hT := k5 hR e1
  clear hR
  obtain ⟨kh2, e3, hR⟩ := hT
  refine bE e3 ?_
  replace hG := zbnd hG
  obtain ⟨h3, e4, hG⟩ := hG
  have hT := k_pF hR e4
  clear hR
  obtain ⟨kh5, e6, hR⟩ := hT
  refine bE e6 ?_
  replace hG := zbnd hG
  obtain ⟨h5, e7, hG⟩ := hG
  have hT := k_pF hR e7
  clear hR
  obtain ⟨kh8, e9, hR⟩ := hT
  refine bE e9 ?_
  replace hG := zbnd hG
  obtain ⟨h7, e10, hG⟩ := hG
  have hT := k_pF hR e10
  clear hR
  obtain ⟨kh11, e12, hR⟩ := hT
  refine bE e12 ?_
  replace hG := zbnd hG
  obtain ⟨h9, e13, hG⟩ := hG
  have hT := k_pF hR e13
  clear hR
  obtain ⟨kh14, e15, hR⟩ := hT
  refine bE e15 ?_
  replace hG := Option.some.inj hG
  subst hG
  exact ⟨_, rfl, hR⟩
def c66 (n : Nat)  (y0 : Nat) (h : zY) : Option (Int32 × zY) :=
  (yI h y0 15 0).bind fun x1 =>
  some (x1, h)
set_option maxRecDepth 20000 in
theorem k66 {n : Nat} {Mm : Nat → Option zO}   {y0 : Nat} {kh : zH} {h : zY} {p : Int32 × zY} (hR : Rep Mm kh h) (hG : c66 n  y0 h = some p) : ∃ kh1 : zH, f66 n  y0 kh = some (p.1, kh1) ∧ Rep Mm kh1 p.2 := by
  unfold c66 at hG
  unfold f66
  replace hG := zbnd hG
  obtain ⟨x1, e1, hG⟩ := hG
  refine bE (k_gI hR e1) ?_
  replace hG := Option.some.inj hG
  subst hG
  exact ⟨_, rfl, hR⟩
def cb70_16 (n : Nat)   (l0 : Nat) (l1 : Int32) (l2 : Option Nat) (s0 : Int32) (s1 : Nat) (h : zY) : Option ((Unit ⊕ Nat) × zY) :=
  (yP h s1 5 1 (.int s0)).bind fun h1 =>
  l2.bind fun a3 =>
  (yI h1 a3 9 1).bind fun x4 =>
  (yP h1 l0 5 2 (.int x4)).bind fun h6 =>
  some (.inr 18, thY h6)
set_option maxRecDepth 20000 in
theorem kb70_16 {n : Nat} {Mm : Nat → Option zO}     {l0 : Nat} {l1 : Int32} {l2 : Option Nat} {s0 : Int32} {s1 : Nat} {kh : zH} {h : zY} {p : (Unit ⊕ Nat) × zY} (hR : Rep Mm kh h) (hG : cb70_16 n   l0 l1 l2 s0 s1 h = some p) : ∃ kh1 : zH, b70_16 n   l0 l1 l2 s0 s1 kh = some (p.1, kh1) ∧ Rep Mm kh1 p.2 := by
  unfold cb70_16 at hG
  unfold b70_16
  replace hG := zbnd hG
  obtain ⟨h1, e1, hG⟩ := hG
  have hT := k_pF hR e1
  clear hR
  obtain ⟨kh2, e3, hR⟩ := hT
  refine bE e3 ?_
  replace hG := zbnd hG
  obtain ⟨a3, rfl, hG⟩ := hG
  refine bE rfl ?_
  replace hG := zbnd hG
  obtain ⟨x4, e5, hG⟩ := hG
  refine bE (k_gI hR e5) ?_
  replace hG := zbnd hG
  obtain ⟨h6, e6, hG⟩ := hG
  have hT := k_pF hR e6
  clear hR
  obtain ⟨kh7, e8, hR⟩ := hT
  refine bE e8 ?_
  replace hG := Option.some.inj hG
  subst hG
  exact ⟨_, rfl, k_th hR⟩
def c70 (n : Nat)  (y0 : Nat) (y1 : Int32) (y2 : Option Nat) (h : zY) : Option ((Unit ⊕ Nat) × zY) :=
  y2.bind fun a1 =>
  (yR h a1 9 0).bind fun x2 =>
  (rEq x2 (some 2)).bind fun b4 =>
  if b4 = true then
    cb70_16 n  y0 y1 (some a1) 1 y0 h
  else
    cb70_16 n  y0 y1 (some a1) y1 y0 h
set_option maxRecDepth 20000 in
theorem k70 {n : Nat} {Mm : Nat → Option zO}   {y0 : Nat} {y1 : Int32} {y2 : Option Nat} {kh : zH} {h : zY} {p : (Unit ⊕ Nat) × zY} (hR : Rep Mm kh h) (hG : c70 n  y0 y1 y2 h = some p) : ∃ kh1 : zH, f70 n  y0 y1 y2 kh = some (p.1, kh1) ∧ Rep Mm kh1 p.2 := by
  unfold c70 at hG
  unfold f70
  replace hG := zbnd hG
  obtain ⟨a1, rfl, hG⟩ := hG
  refine bE rfl ?_
  replace hG := zbnd hG
  obtain ⟨x2, e2, hG⟩ := hG
  refine bE (k_gR hR e2) ?_
  replace hG := zbnd hG
  obtain ⟨b4, e3, hG⟩ := hG
  refine bE e3 ?_
  by_cases c4 : b4 = true
  · rw [if_pos c4] at hG
    refine iE1 c4 ?_
    exact kb70_16 (n := n) hR hG
  · rw [if_neg c4] at hG
    refine iE2 c4 ?_
    exact kb70_16 (n := n) hR hG
def cb71_19 (n : Nat)   (l0 : Nat) (l1 : Option Nat) (l2 : Option Nat) (h : zY) : Option ((Option Nat ⊕ Nat) × zY) :=
  l2.bind fun a1 =>
  (yR h a1 9 5).bind fun x2 =>
  match x2 with
  | none =>
    some (.inl (some a1), h)
  | some a4 =>
    (yR h a1 9 5).bind fun x5 =>
    (yP h l0 5 3 (va_rf x5)).bind fun h7 =>
    some (.inl (some a1), h7)
set_option maxRecDepth 20000 in
theorem kb71_19 {n : Nat} {Mm : Nat → Option zO}     {l0 : Nat} {l1 : Option Nat} {l2 : Option Nat}  {kh : zH} {h : zY} {p : (Option Nat ⊕ Nat) × zY} (hR : Rep Mm kh h) (hG : cb71_19 n   l0 l1 l2 h = some p) : ∃ kh1 : zH, b71_19 n   l0 l1 l2 kh = some (p.1, kh1) ∧ Rep Mm kh1 p.2 := by
  unfold cb71_19 at hG
  unfold b71_19
  replace hG := zbnd hG
  obtain ⟨a1, rfl, hG⟩ := hG
  refine bE rfl ?_
  replace hG := zbnd hG
  obtain ⟨x2, e2, hG⟩ := hG
  refine bE (k_gR hR e2) ?_
  cases x2 with
  | none =>
    dsimp only at hG ⊢
    replace hG := Option.some.inj hG
    subst hG
    exact ⟨_, rfl, hR⟩
  | some a4 =>
    dsimp only at hG ⊢
    replace hG := zbnd hG
    obtain ⟨x5, e3, hG⟩ := hG
    refine bE (k_gR hR e3) ?_
    replace hG := zbnd hG
    obtain ⟨h7, e4, hG⟩ := hG
    have hT := k_pF hR e4
    clear hR
    obtain ⟨kh5, e6, hR⟩ := hT
    refine bE e6 ?_
    replace hG := Option.some.inj hG
    subst hG
    exact ⟨_, rfl, hR⟩
def c71 (n : Nat)  (y0 : Nat) (y1 : Option Nat) (h : zY) : Option ((Option Nat ⊕ Nat) × zY) :=
  (yR h y0 5 3).bind fun x1 =>
  x1.bind fun a3 =>
  (yR h a3 9 0).bind fun x4 =>
  (rEq x4 y1).bind fun b6 =>
  if b6 = true then
    cb71_19 n  y0 y1 (some a3) h
  else
    zgd (yisO h y0 5) <|
    (c70 n y0 2 (some a3) h).bind fun p14 => zth p14 (fun r11 h12 =>
      cb71_19 n  y0 y1 (some a3) h12)
      (fun x13 h12 =>
      zgd (exOk x13) <| some (.inr x13, h12))
set_option maxRecDepth 20000 in
theorem k71 {n : Nat} {Mm : Nat → Option zO}   {y0 : Nat} {y1 : Option Nat} {kh : zH} {h : zY} {p : (Option Nat ⊕ Nat) × zY} (hR : Rep Mm kh h) (hG : c71 n  y0 y1 h = some p) : ∃ kh1 : zH, f71 n  y0 y1 kh = some (p.1, kh1) ∧ Rep Mm kh1 p.2 := by
  unfold c71 at hG
  unfold f71
  replace hG := zbnd hG
  obtain ⟨x1, e1, hG⟩ := hG
  refine bE (k_gR hR e1) ?_
  replace hG := zbnd hG
  obtain ⟨a3, rfl, hG⟩ := hG
  refine bE rfl ?_
  replace hG := zbnd hG
  obtain ⟨x4, e3, hG⟩ := hG
  refine bE (k_gR hR e3) ?_
  replace hG := zbnd hG
  obtain ⟨b6, e4, hG⟩ := hG
  refine bE e4 ?_
  by_cases c5 : b6 = true
  · rw [if_pos c5] at hG
    refine iE1 c5 ?_
    exact kb71_19 (n := n) hR hG
  · rw [if_neg c5] at hG
    refine iE2 c5 ?_
    replace hG := zgd_some hG
    obtain ⟨g6, hG⟩ := hG
    refine zE (k_isO hR g6) ?_
    replace hG := zbnd hG
    obtain ⟨⟨r11, h12⟩, e7, hG⟩ := hG
    have hT := k70 hR e7
    clear hR
    obtain ⟨kh8, e9, hR⟩ := hT
    refine bE e9 ?_
    rcases r11 with r11 | x13
    · replace hG := zthG hG
      refine zthEl ?_
      exact kb71_19 (n := n) hR hG
    · replace hG := zthH hG
      refine zthEr ?_
      replace hG := zgd_some hG
      obtain ⟨g10, hG⟩ := hG
      refine zE g10 ?_
      replace hG := Option.some.inj hG
      subst hG
      exact ⟨_, rfl, hR⟩
def cb69_14 (n : Nat)   (l0 : Nat) (l1 : Int32) (l2 : Int32) (h : zY) : Option ((Unit ⊕ Nat) × zY) :=
  (yR h l0 5 3).bind fun x1 =>
  x1.bind fun a3 =>
  (yR h a3 9 0).bind fun x4 =>
  zgd (yisO h l0 5) <|
  (c71 n l0 x4 h).bind fun p11 => zth p11 (fun r8 h9 =>
    some (.inl (), h9))
    (fun x10 h9 =>
    zgd (exOk x10) <| some (.inr x10, h9))
set_option maxRecDepth 20000 in
theorem kb69_14 {n : Nat} {Mm : Nat → Option zO}     {l0 : Nat} {l1 : Int32} {l2 : Int32}  {kh : zH} {h : zY} {p : (Unit ⊕ Nat) × zY} (hR : Rep Mm kh h) (hG : cb69_14 n   l0 l1 l2 h = some p) : ∃ kh1 : zH, b69_14 n   l0 l1 l2 kh = some (p.1, kh1) ∧ Rep Mm kh1 p.2 := by
  unfold cb69_14 at hG
  unfold b69_14
  replace hG := zbnd hG
  obtain ⟨x1, e1, hG⟩ := hG
  refine bE (k_gR hR e1) ?_
  replace hG := zbnd hG
  obtain ⟨a3, rfl, hG⟩ := hG
  refine bE rfl ?_
  replace hG := zbnd hG
  obtain ⟨x4, e3, hG⟩ := hG
  refine bE (k_gR hR e3) ?_
  replace hG := zgd_some hG
  obtain ⟨g4, hG⟩ := hG
  refine zE (k_isO hR g4) ?_
  replace hG := zbnd hG
  obtain ⟨⟨r8, h9⟩, e5, hG⟩ := hG
  have hT := k71 hR e5
  clear hR
  obtain ⟨kh6, e7, hR⟩ := hT
  refine bE e7 ?_
  rcases r8 with r8 | x10
  · replace hG := zthG hG
    refine zthEl ?_
    replace hG := Option.some.inj hG
    subst hG
    exact ⟨_, rfl, hR⟩
  · replace hG := zthH hG
    refine zthEr ?_
    replace hG := zgd_some hG
    obtain ⟨g8, hG⟩ := hG
    refine zE g8 ?_
    replace hG := Option.some.inj hG
    subst hG
    exact ⟨_, rfl, hR⟩
def c69 (n : Nat)  (y0 : Nat) (y1 : Int32) (y2 : Int32) (h : zY) : Option ((Unit ⊕ Nat) × zY) :=
  if y1 < y2 then
    cb69_14 n  y0 y1 y2 h
  else
    (yR h y0 5 3).bind fun x2 =>
    zgd (yisO h y0 5) <|
    (c70 n y0 5 x2 h).bind fun p9 => zth p9 (fun r6 h7 =>
      cb69_14 n  y0 y1 y2 h7)
      (fun x8 h7 =>
      zgd (exOk x8) <| some (.inr x8, h7))
set_option maxRecDepth 20000 in
theorem k69 {n : Nat} {Mm : Nat → Option zO}   {y0 : Nat} {y1 : Int32} {y2 : Int32} {kh : zH} {h : zY} {p : (Unit ⊕ Nat) × zY} (hR : Rep Mm kh h) (hG : c69 n  y0 y1 y2 h = some p) : ∃ kh1 : zH, f69 n  y0 y1 y2 kh = some (p.1, kh1) ∧ Rep Mm kh1 p.2 := by
  unfold c69 at hG
  unfold f69
  by_cases c1 : y1 < y2
  · rw [if_pos c1] at hG
    refine iE1 c1 ?_
    exact kb69_14 (n := n) hR hG
  · rw [if_neg c1] at hG
    refine iE2 c1 ?_
    replace hG := zbnd hG
    obtain ⟨x2, e2, hG⟩ := hG
    refine bE (k_gR hR e2) ?_
    replace hG := zgd_some hG
    obtain ⟨g3, hG⟩ := hG
    refine zE (k_isO hR g3) ?_
    replace hG := zbnd hG
    obtain ⟨⟨r6, h7⟩, e4, hG⟩ := hG
    have hT := k70 hR e4
    clear hR
    obtain ⟨kh5, e6, hR⟩ := hT
    refine bE e6 ?_
    rcases r6 with r6 | x8
    · replace hG := zthG hG
      refine zthEl ?_
      exact kb69_14 (n := n) hR hG
    · replace hG := zthH hG
      refine zthEr ?_
      replace hG := zgd_some hG
      obtain ⟨g7, hG⟩ := hG
      refine zE g7 ?_
      replace hG := Option.some.inj hG
      subst hG
      exact ⟨_, rfl, hR⟩
def cb73_2 (n : Nat)  (r2 : Option Nat → Option Nat → Int32 → zY → Option (Int32 × zY)) (l0 : Option Nat) (l1 : Option Nat) (l2 : Int32) (h : zY) : Option (Int32 × zY) :=
  l0.bind fun a1 =>
  zgd (yisO h a1 14) <|
  (c68 n a1 h).bind fun p4 =>
  if p4.1 ≤ l2 then
    some ((-1), p4.2)
  else
    zgd (yisO p4.2 a1 14) <|
    (c74 n a1 l2 p4.2).bind fun p8 =>
    zgd (ykC p8.2 p8.1 9 0) <|
    p8.1.bind fun a10 =>
    (yR p8.2 a10 9 3).bind fun x12 =>
    x12.bind fun a14 =>
    zgd (yisO p8.2 a14 12) <|
    (c29 n a14 l1 p8.2).bind fun p17 =>
    if p17.1 = 0 then
      r2 (some a1) l1 (l2 + 1) p17.2
    else
      some (l2, p17.2)
set_option maxRecDepth 20000 in
theorem kb73_2 {n : Nat} {Mm : Nat → Option zO}  {q2 : Option Nat → Option Nat → Int32 → zY → Option (Int32 × zY)} {r2 : Option Nat → Option Nat → Int32 → zH → Option (Int32 × zH)}  (hr2 : ∀ {l0 : Option Nat} {l1 : Option Nat} {l2 : Int32}  {kh : zH} {h : zY} {p : Int32 × zY}, Rep Mm kh h → q2 l0 l1 l2 h = some p → ∃ kh1 : zH, r2 l0 l1 l2 kh = some (p.1, kh1) ∧ Rep Mm kh1 p.2) {l0 : Option Nat} {l1 : Option Nat} {l2 : Int32}  {kh : zH} {h : zY} {p : Int32 × zY} (hR : Rep Mm kh h) (hG : cb73_2 n  q2 l0 l1 l2 h = some p) : ∃ kh1 : zH, b73_2 n  r2 l0 l1 l2 kh = some (p.1, kh1) ∧ Rep Mm kh1 p.2 := by
  unfold cb73_2 at hG
  unfold b73_2
  replace hG := zbnd hG
  obtain ⟨a1, rfl, hG⟩ := hG
  refine bE rfl ?_
  replace hG := zgd_some hG
  obtain ⟨g2, hG⟩ := hG
  refine zE (k_isO hR g2) ?_
  replace hG := zbnd hG
  obtain ⟨p4, e3, hG⟩ := hG
  have hT := k68 hR e3
  clear hR
  obtain ⟨kh4, e5, hR⟩ := hT
  refine bE e5 ?_
  by_cases c6 : p4.1 ≤ l2
  · rw [if_pos c6] at hG
    refine iE1 c6 ?_
    replace hG := Option.some.inj hG
    subst hG
    exact ⟨_, rfl, hR⟩
  · rw [if_neg c6] at hG
    refine iE2 c6 ?_
    replace hG := zgd_some hG
    obtain ⟨g7, hG⟩ := hG
    refine zE (k_isO hR g7) ?_
    replace hG := zbnd hG
    obtain ⟨p8, e8, hG⟩ := hG
    have hT := k74 hR e8
    clear hR
    obtain ⟨kh9, e10, hR⟩ := hT
    refine bE e10 ?_
    replace hG := zgd_some hG
    obtain ⟨g11, hG⟩ := hG
    refine zE (k_kC hR g11) ?_
    replace hG := zbnd hG
    obtain ⟨a10, e12, hG⟩ := hG
    refine bE e12 ?_
    replace hG := zbnd hG
    obtain ⟨x12, e13, hG⟩ := hG
    refine bE (k_gR hR e13) ?_
    replace hG := zbnd hG
    obtain ⟨a14, rfl, hG⟩ := hG
    refine bE rfl ?_
    replace hG := zgd_some hG
    obtain ⟨g15, hG⟩ := hG
    refine zE (k_isO hR g15) ?_
    replace hG := zbnd hG
    obtain ⟨p17, e16, hG⟩ := hG
    have hT := k29 hR e16
    clear hR
    obtain ⟨kh17, e18, hR⟩ := hT
    refine bE e18 ?_
    by_cases c19 : p17.1 = 0
    · rw [if_pos c19] at hG
      refine iE1 c19 ?_
      exact hr2 hR hG
    · rw [if_neg c19] at hG
      refine iE2 c19 ?_
      replace hG := Option.some.inj hG
      subst hG
      exact ⟨_, rfl, hR⟩
def cf73_2 (n : Nat)   (k : Nat) : Option Nat → Option Nat → Int32 → zY → Option (Int32 × zY) := Nat.rec (fun _ _ _ _ => none) (fun _ ih => cb73_2 n  ih) k
theorem kf73_2 {n : Nat} {Mm : Nat → Option zO}     (k : Nat) : ∀ {l0 : Option Nat} {l1 : Option Nat} {l2 : Int32}  {kh : zH} {h : zY} {p : Int32 × zY}, Rep Mm kh h → cf73_2 n   k l0 l1 l2 h = some p → ∃ kh1 : zH, f73_2 n   k l0 l1 l2 kh = some (p.1, kh1) ∧ Rep Mm kh1 p.2 := by
  induction k with
  | zero => intros; rename_i hG; cases hG
  | succ k ih => intros; rename_i hR hG; exact kb73_2 (n := n) (q2 := cf73_2 n   k) (r2 := f73_2 n   k)  ih hR hG
def c73 (n : Nat)  (y0 : Option Nat) (y1 : Option Nat) (h : zY) : Option (Int32 × zY) :=
  cf73_2 n  n y0 y1 0 h
set_option maxRecDepth 20000 in
theorem k73 {n : Nat} {Mm : Nat → Option zO}   {y0 : Option Nat} {y1 : Option Nat} {kh : zH} {h : zY} {p : Int32 × zY} (hR : Rep Mm kh h) (hG : c73 n  y0 y1 h = some p) : ∃ kh1 : zH, f73 n  y0 y1 kh = some (p.1, kh1) ∧ Rep Mm kh1 p.2 := by
  unfold c73 at hG
  unfold f73
  exact kf73_2 (n := n) n hR hG
def c72 (n : Nat)  (y0 : Nat) (y1 : Option Nat) (h : zY) : Option ((Option Nat ⊕ Nat) × zY) :=
  zgd (yisO h y0 5) <|
  (c71 n y0 (some 3) h).bind fun p6 => zth p6 (fun r3 h4 =>
    r3.bind fun a7 =>
    (yR h4 a7 9 3).bind fun x8 =>
    (c73 n y1 x8 h4).bind fun p11 =>
    if p11.1 = (-1) then
      some (.inl (some a7), p11.2)
    else
      zgd (yisO p11.2 y0 5) <|
      (c70 n y0 3 (some a7) p11.2).bind fun p18 => zth p18 (fun r15 h16 =>
        some (.inl (some a7), h16))
        (fun x17 h16 =>
        zgd (exOk x17) <| some (.inr x17, h16)))
    (fun x5 h4 =>
    zgd (exOk x5) <| some (.inr x5, h4))
set_option maxRecDepth 20000 in
theorem k72 {n : Nat} {Mm : Nat → Option zO}   {y0 : Nat} {y1 : Option Nat} {kh : zH} {h : zY} {p : (Option Nat ⊕ Nat) × zY} (hR : Rep Mm kh h) (hG : c72 n  y0 y1 h = some p) : ∃ kh1 : zH, f72 n  y0 y1 kh = some (p.1, kh1) ∧ Rep Mm kh1 p.2 := by
  unfold c72 at hG
  unfold f72
  replace hG := zgd_some hG
  obtain ⟨g1, hG⟩ := hG
  refine zE (k_isO hR g1) ?_
  replace hG := zbnd hG
  obtain ⟨⟨r3, h4⟩, e2, hG⟩ := hG
  have hT := k71 hR e2
  clear hR
  obtain ⟨kh3, e4, hR⟩ := hT
  refine bE e4 ?_
  rcases r3 with r3 | x5
  · replace hG := zthG hG
    refine zthEl ?_
    replace hG := zbnd hG
    obtain ⟨a7, rfl, hG⟩ := hG
    refine bE rfl ?_
    replace hG := zbnd hG
    obtain ⟨x8, e6, hG⟩ := hG
    refine bE (k_gR hR e6) ?_
    replace hG := zbnd hG
    obtain ⟨p11, e7, hG⟩ := hG
    have hT := k73 hR e7
    clear hR
    obtain ⟨kh8, e9, hR⟩ := hT
    refine bE e9 ?_
    by_cases c10 : p11.1 = (-1)
    · rw [if_pos c10] at hG
      refine iE1 c10 ?_
      replace hG := Option.some.inj hG
      subst hG
      exact ⟨_, rfl, hR⟩
    · rw [if_neg c10] at hG
      refine iE2 c10 ?_
      replace hG := zgd_some hG
      obtain ⟨g11, hG⟩ := hG
      refine zE (k_isO hR g11) ?_
      replace hG := zbnd hG
      obtain ⟨⟨r15, h16⟩, e12, hG⟩ := hG
      have hT := k70 hR e12
      clear hR
      obtain ⟨kh13, e14, hR⟩ := hT
      refine bE e14 ?_
      rcases r15 with r15 | x17
      · replace hG := zthG hG
        refine zthEl ?_
        replace hG := Option.some.inj hG
        subst hG
        exact ⟨_, rfl, hR⟩
      · replace hG := zthH hG
        refine zthEr ?_
        replace hG := zgd_some hG
        obtain ⟨g15, hG⟩ := hG
        refine zE g15 ?_
        replace hG := Option.some.inj hG
        subst hG
        exact ⟨_, rfl, hR⟩
  · replace hG := zthH hG
    refine zthEr ?_
    replace hG := zgd_some hG
    obtain ⟨g16, hG⟩ := hG
    refine zE g16 ?_
    replace hG := Option.some.inj hG
    subst hG
    exact ⟨_, rfl, hR⟩
def c80 (n : Nat)  (y0 : Nat) (y1 : Option Nat) (h : zY) : Option (Unit × zY) :=
  (yP h y0 3 1 (.null)).bind fun h1 =>
  (yP h1 y0 3 2 (.null)).bind fun h3 =>
  (yP h3 y0 3 3 (.int (-1))).bind fun h5 =>
  (yP h5 y0 3 4 (.null)).bind fun h7 =>
  (yP h7 y0 3 5 (.null)).bind fun h9 =>
  (yP h9 y0 3 0 (va_rf y1)).bind fun h11 =>
  some ((), h11)
set_option maxRecDepth 20000 in
theorem k80 {n : Nat} {Mm : Nat → Option zO}   {y0 : Nat} {y1 : Option Nat} {kh : zH} {h : zY} {p : Unit × zY} (hR : Rep Mm kh h) (hG : c80 n  y0 y1 h = some p) : ∃ kh1 : zH, f80 n  y0 y1 kh = some (p.1, kh1) ∧ Rep Mm kh1 p.2 := by
  unfold c80 at hG
  unfold f80
  replace hG := zbnd hG
  obtain ⟨h1, e1, hG⟩ := hG
  have hT := k_pF hR e1
  clear hR
  obtain ⟨kh2, e3, hR⟩ := hT
  refine bE e3 ?_
  replace hG := zbnd hG
  obtain ⟨h3, e4, hG⟩ := hG
  have hT := k_pF hR e4
  clear hR
  obtain ⟨kh5, e6, hR⟩ := hT
  refine bE e6 ?_
  replace hG := zbnd hG
  obtain ⟨h5, e7, hG⟩ := hG
  have hT := k_pF hR e7
  clear hR
  obtain ⟨kh8, e9, hR⟩ := hT
  refine bE e9 ?_
  replace hG := zbnd hG
  obtain ⟨h7, e10, hG⟩ := hG
  have hT := k_pF hR e10
  clear hR
  obtain ⟨kh11, e12, hR⟩ := hT
  refine bE e12 ?_
  replace hG := zbnd hG
  obtain ⟨h9, e13, hG⟩ := hG
  have hT := k_pF hR e13
  clear hR
  obtain ⟨kh14, e15, hR⟩ := hT
  refine bE e15 ?_
  replace hG := zbnd hG
  obtain ⟨h11, e16, hG⟩ := hG
  have hT := k_pF hR e16
  clear hR
  obtain ⟨kh17, e18, hR⟩ := hT
  refine bE e18 ?_
  replace hG := Option.some.inj hG
  subst hG
  exact ⟨_, rfl, hR⟩
def cb79_19 (n : Nat)   (l0 : Nat) (l1 : Option Nat) (l2 : Option Nat) (h : zY) : Option ((Option Nat ⊕ Nat) × zY) :=
  (yR h l0 5 0).bind fun x1 =>
  x1.bind fun a3 =>
  (yI h a3 4 9).bind fun x4 =>
  (yP h a3 4 9 (.int (x4 + 1))).bind fun h6 =>
  (c80 n h6.2.1 l1 (yN h6 3 6)).bind fun p9 =>
  some (.inl (some h6.2.1), p9.2)
set_option maxRecDepth 20000 in
theorem kb79_19 {n : Nat} {Mm : Nat → Option zO}     {l0 : Nat} {l1 : Option Nat} {l2 : Option Nat}  {kh : zH} {h : zY} {p : (Option Nat ⊕ Nat) × zY} (hR : Rep Mm kh h) (hG : cb79_19 n   l0 l1 l2 h = some p) : ∃ kh1 : zH, b79_19 n   l0 l1 l2 kh = some (p.1, kh1) ∧ Rep Mm kh1 p.2 := by
  unfold cb79_19 at hG
  unfold b79_19
  replace hG := zbnd hG
  obtain ⟨x1, e1, hG⟩ := hG
  refine bE (k_gR hR e1) ?_
  replace hG := zbnd hG
  obtain ⟨a3, rfl, hG⟩ := hG
  refine bE rfl ?_
  replace hG := zbnd hG
  obtain ⟨x4, e3, hG⟩ := hG
  refine bE (k_gI hR e3) ?_
  replace hG := zbnd hG
  obtain ⟨h6, e4, hG⟩ := hG
  have hT := k_pF hR e4
  clear hR
  obtain ⟨kh5, e6, hR⟩ := hT
  refine bE e6 ?_
  try rw [rep_n hR] at hG
  replace hR := k_nO (ci := 3) (n := 6) hR
  replace hG := zbnd hG
  obtain ⟨p9, e7, hG⟩ := hG
  have hT := k80 hR e7
  clear hR
  obtain ⟨kh8, e9, hR⟩ := hT
  refine bE e9 ?_
  replace hG := Option.some.inj hG
  subst hG
  exact ⟨_, rfl, hR⟩
def c79 (n : Nat)  (y0 : Nat) (y1 : Option Nat) (y2 : Option Nat) (h : zY) : Option ((Option Nat ⊕ Nat) × zY) :=
  (yR h y0 5 0).bind fun x1 =>
  x1.bind fun a3 =>
  (yI h a3 4 9).bind fun x4 =>
  if x4 < 400 then
    cb79_19 n  y0 y1 y2 h
  else
    zgd (yisO h y0 5) <|
    (c70 n y0 5 y2 h).bind fun p12 => zth p12 (fun r9 h10 =>
      cb79_19 n  y0 y1 y2 h10)
      (fun x11 h10 =>
      zgd (exOk x11) <| some (.inr x11, h10))
set_option maxRecDepth 20000 in
theorem k79 {n : Nat} {Mm : Nat → Option zO}   {y0 : Nat} {y1 : Option Nat} {y2 : Option Nat} {kh : zH} {h : zY} {p : (Option Nat ⊕ Nat) × zY} (hR : Rep Mm kh h) (hG : c79 n  y0 y1 y2 h = some p) : ∃ kh1 : zH, f79 n  y0 y1 y2 kh = some (p.1, kh1) ∧ Rep Mm kh1 p.2 := by
  unfold c79 at hG
  unfold f79
  replace hG := zbnd hG
  obtain ⟨x1, e1, hG⟩ := hG
  refine bE (k_gR hR e1) ?_
  replace hG := zbnd hG
  obtain ⟨a3, rfl, hG⟩ := hG
  refine bE rfl ?_
  replace hG := zbnd hG
  obtain ⟨x4, e3, hG⟩ := hG
  refine bE (k_gI hR e3) ?_
  by_cases c4 : x4 < 400
  · rw [if_pos c4] at hG
    refine iE1 c4 ?_
    exact kb79_19 (n := n) hR hG
  · rw [if_neg c4] at hG
    refine iE2 c4 ?_
    replace hG := zgd_some hG
    obtain ⟨g5, hG⟩ := hG
    refine zE (k_isO hR g5) ?_
    replace hG := zbnd hG
    obtain ⟨⟨r9, h10⟩, e6, hG⟩ := hG
    have hT := k70 hR e6
    clear hR
    obtain ⟨kh7, e8, hR⟩ := hT
    refine bE e8 ?_
    rcases r9 with r9 | x11
    · replace hG := zthG hG
      refine zthEl ?_
      exact kb79_19 (n := n) hR hG
    · replace hG := zthH hG
      refine zthEr ?_
      replace hG := zgd_some hG
      obtain ⟨g9, hG⟩ := hG
      refine zE g9 ?_
      replace hG := Option.some.inj hG
      subst hG
      exact ⟨_, rfl, hR⟩
def c81 (n : Nat)  (y0 : Nat) (y1 : Option Nat) (h : zY) : Option ((Int32 ⊕ Nat) × zY) :=
  zgd (yisO h y0 5) <|
  (c71 n y0 (some 3) h).bind fun p6 => zth p6 (fun r3 h4 =>
    r3.bind fun a7 =>
    (yR h4 a7 9 3).bind fun x8 =>
    (c73 n y1 x8 h4).bind fun p11 =>
    if p11.1 = (-1) then
      zgd (yisO p11.2 y0 5) <|
      (c70 n y0 3 (some a7) p11.2).bind fun p18 => zth p18 (fun r15 h16 =>
        some (.inl p11.1, h16))
        (fun x17 h16 =>
        zgd (exOk x17) <| some (.inr x17, h16))
    else
      some (.inl p11.1, p11.2))
    (fun x5 h4 =>
    zgd (exOk x5) <| some (.inr x5, h4))
set_option maxRecDepth 20000 in
theorem k81 {n : Nat} {Mm : Nat → Option zO}   {y0 : Nat} {y1 : Option Nat} {kh : zH} {h : zY} {p : (Int32 ⊕ Nat) × zY} (hR : Rep Mm kh h) (hG : c81 n  y0 y1 h = some p) : ∃ kh1 : zH, f81 n  y0 y1 kh = some (p.1, kh1) ∧ Rep Mm kh1 p.2 := by
  unfold c81 at hG
  unfold f81
  replace hG := zgd_some hG
  obtain ⟨g1, hG⟩ := hG
  refine zE (k_isO hR g1) ?_
  replace hG := zbnd hG
  obtain ⟨⟨r3, h4⟩, e2, hG⟩ := hG
  have hT := k71 hR e2
  clear hR
  obtain ⟨kh3, e4, hR⟩ := hT
  refine bE e4 ?_
  rcases r3 with r3 | x5
  · replace hG := zthG hG
    refine zthEl ?_
    replace hG := zbnd hG
    obtain ⟨a7, rfl, hG⟩ := hG
    refine bE rfl ?_
    replace hG := zbnd hG
    obtain ⟨x8, e6, hG⟩ := hG
    refine bE (k_gR hR e6) ?_
    replace hG := zbnd hG
    obtain ⟨p11, e7, hG⟩ := hG
    have hT := k73 hR e7
    clear hR
    obtain ⟨kh8, e9, hR⟩ := hT
    refine bE e9 ?_
    by_cases c10 : p11.1 = (-1)
    · rw [if_pos c10] at hG
      refine iE1 c10 ?_
      replace hG := zgd_some hG
      obtain ⟨g11, hG⟩ := hG
      refine zE (k_isO hR g11) ?_
      replace hG := zbnd hG
      obtain ⟨⟨r15, h16⟩, e12, hG⟩ := hG
      have hT := k70 hR e12
      clear hR
      obtain ⟨kh13, e14, hR⟩ := hT
      refine bE e14 ?_
      rcases r15 with r15 | x17
      · replace hG := zthG hG
        refine zthEl ?_
        replace hG := Option.some.inj hG
        subst hG
        exact ⟨_, rfl, hR⟩
      · replace hG := zthH hG
        refine zthEr ?_
        replace hG := zgd_some hG
        obtain ⟨g15, hG⟩ := hG
        refine zE g15 ?_
        replace hG := Option.some.inj hG
        subst hG
        exact ⟨_, rfl, hR⟩
    · rw [if_neg c10] at hG
      refine iE2 c10 ?_
      replace hG := Option.some.inj hG
      subst hG
      exact ⟨_, rfl, hR⟩
  · replace hG := zthH hG
    refine zthEr ?_
    replace hG := zgd_some hG
    obtain ⟨g16, hG⟩ := hG
    refine zE g16 ?_
    replace hG := Option.some.inj hG
    subst hG
    exact ⟨_, rfl, hR⟩
def c82 (n : Nat)  (y0 : Nat) (h : zY) : Option ((Option Nat ⊕ Nat) × zY) :=
  zgd (yisO h y0 5) <|
  (c71 n y0 (some 3) h).bind fun p6 => zth p6 (fun r3 h4 =>
    (yR h4 y0 5 3).bind fun x7 =>
    x7.bind fun a9 =>
    (yR h4 a9 9 0).bind fun x10 =>
    zgd (yisO h4 y0 5) <|
    (c79 n y0 x10 r3 h4).bind fun p17 => zth p17 (fun r14 h15 =>
      r14.bind fun a18 =>
      (yP h15 a18 3 1 (va_rf r3)).bind fun h19 =>
      some (.inl (some a18), h19))
      (fun x16 h15 =>
      zgd (exOk x16) <| some (.inr x16, h15)))
    (fun x5 h4 =>
    zgd (exOk x5) <| some (.inr x5, h4))
set_option maxRecDepth 20000 in
theorem k82 {n : Nat} {Mm : Nat → Option zO}   {y0 : Nat} {kh : zH} {h : zY} {p : (Option Nat ⊕ Nat) × zY} (hR : Rep Mm kh h) (hG : c82 n  y0 h = some p) : ∃ kh1 : zH, f82 n  y0 kh = some (p.1, kh1) ∧ Rep Mm kh1 p.2 := by
  unfold c82 at hG
  unfold f82
  replace hG := zgd_some hG
  obtain ⟨g1, hG⟩ := hG
  refine zE (k_isO hR g1) ?_
  replace hG := zbnd hG
  obtain ⟨⟨r3, h4⟩, e2, hG⟩ := hG
  have hT := k71 hR e2
  clear hR
  obtain ⟨kh3, e4, hR⟩ := hT
  refine bE e4 ?_
  rcases r3 with r3 | x5
  · replace hG := zthG hG
    refine zthEl ?_
    replace hG := zbnd hG
    obtain ⟨x7, e5, hG⟩ := hG
    refine bE (k_gR hR e5) ?_
    replace hG := zbnd hG
    obtain ⟨a9, rfl, hG⟩ := hG
    refine bE rfl ?_
    replace hG := zbnd hG
    obtain ⟨x10, e7, hG⟩ := hG
    refine bE (k_gR hR e7) ?_
    replace hG := zgd_some hG
    obtain ⟨g8, hG⟩ := hG
    refine zE (k_isO hR g8) ?_
    replace hG := zbnd hG
    obtain ⟨⟨r14, h15⟩, e9, hG⟩ := hG
    have hT := k79 hR e9
    clear hR
    obtain ⟨kh10, e11, hR⟩ := hT
    refine bE e11 ?_
    rcases r14 with r14 | x16
    · replace hG := zthG hG
      refine zthEl ?_
      replace hG := zbnd hG
      obtain ⟨a18, rfl, hG⟩ := hG
      refine bE rfl ?_
      replace hG := zbnd hG
      obtain ⟨h19, e13, hG⟩ := hG
      have hT := k_pF hR e13
      clear hR
      obtain ⟨kh14, e15, hR⟩ := hT
      refine bE e15 ?_
      replace hG := Option.some.inj hG
      subst hG
      exact ⟨_, rfl, hR⟩
    · replace hG := zthH hG
      refine zthEr ?_
      replace hG := zgd_some hG
      obtain ⟨g16, hG⟩ := hG
      refine zE g16 ?_
      replace hG := Option.some.inj hG
      subst hG
      exact ⟨_, rfl, hR⟩
  · replace hG := zthH hG
    refine zthEr ?_
    replace hG := zgd_some hG
    obtain ⟨g17, hG⟩ := hG
    refine zE g17 ?_
    replace hG := Option.some.inj hG
    subst hG
    exact ⟨_, rfl, hR⟩
def c84 (n : Nat)  (y0 : Nat) (h : zY) : Option (Option Nat × zY) :=
  (yR h y0 5 3).bind fun x1 =>
  x1.bind fun a3 =>
  (yR h a3 9 0).bind fun x4 =>
  (rEq x4 (some 4)).bind fun b6 =>
  if b6 = true then
    some ((some 4), h)
  else
    some ((some 5), h)
set_option maxRecDepth 20000 in
theorem k84 {n : Nat} {Mm : Nat → Option zO}   {y0 : Nat} {kh : zH} {h : zY} {p : Option Nat × zY} (hR : Rep Mm kh h) (hG : c84 n  y0 h = some p) : ∃ kh1 : zH, f84 n  y0 kh = some (p.1, kh1) ∧ Rep Mm kh1 p.2 := by
  unfold c84 at hG
  unfold f84
  replace hG := zbnd hG
  obtain ⟨x1, e1, hG⟩ := hG
  refine bE (k_gR hR e1) ?_
  replace hG := zbnd hG
  obtain ⟨a3, rfl, hG⟩ := hG
  refine bE rfl ?_
  replace hG := zbnd hG
  obtain ⟨x4, e3, hG⟩ := hG
  refine bE (k_gR hR e3) ?_
  replace hG := zbnd hG
  obtain ⟨b6, e4, hG⟩ := hG
  refine bE e4 ?_
  by_cases c5 : b6 = true
  · rw [if_pos c5] at hG
    refine iE1 c5 ?_
    replace hG := Option.some.inj hG
    subst hG
    exact ⟨_, rfl, hR⟩
  · rw [if_neg c5] at hG
    refine iE2 c5 ?_
    replace hG := Option.some.inj hG
    subst hG
    exact ⟨_, rfl, hR⟩
def cb83_116 (n : Nat)   (l0 : Nat) (l1 : Option Nat) (l2 : Option Nat) (l3 : Int32) (h : zY) : Option ((Unit ⊕ Nat) × zY) :=
  zgd (yisO h l0 5) <|
  (c71 n l0 (some 9) h).bind fun p6 => zth p6 (fun r3 h4 =>
    some (.inl (), h4))
    (fun x5 h4 =>
    zgd (exOk x5) <| some (.inr x5, h4))
set_option maxRecDepth 20000 in
theorem kb83_116 {n : Nat} {Mm : Nat → Option zO}     {l0 : Nat} {l1 : Option Nat} {l2 : Option Nat} {l3 : Int32}  {kh : zH} {h : zY} {p : (Unit ⊕ Nat) × zY} (hR : Rep Mm kh h) (hG : cb83_116 n   l0 l1 l2 l3 h = some p) : ∃ kh1 : zH, b83_116 n   l0 l1 l2 l3 kh = some (p.1, kh1) ∧ Rep Mm kh1 p.2 := by
  unfold cb83_116 at hG
  unfold b83_116
  replace hG := zgd_some hG
  obtain ⟨g1, hG⟩ := hG
  refine zE (k_isO hR g1) ?_
  replace hG := zbnd hG
  obtain ⟨⟨r3, h4⟩, e2, hG⟩ := hG
  have hT := k71 hR e2
  clear hR
  obtain ⟨kh3, e4, hR⟩ := hT
  refine bE e4 ?_
  rcases r3 with r3 | x5
  · replace hG := zthG hG
    refine zthEl ?_
    replace hG := Option.some.inj hG
    subst hG
    exact ⟨_, rfl, hR⟩
  · replace hG := zthH hG
    refine zthEr ?_
    replace hG := zgd_some hG
    obtain ⟨g5, hG⟩ := hG
    refine zE g5 ?_
    replace hG := Option.some.inj hG
    subst hG
    exact ⟨_, rfl, hR⟩
def cb83_107 (n : Nat)  (r32 : Nat → Option Nat → Option Nat → Int32 → zY → Option ((Unit ⊕ Nat) × zY)) (l0 : Nat) (l1 : Option Nat) (l2 : Option Nat) (l3 : Int32) (l4 : Option Nat) (l5 : Option Nat) (h : zY) : Option ((Unit ⊕ Nat) × zY) :=
  r32 l0 l1 l5 (l3 + 1) h
set_option maxRecDepth 20000 in
theorem kb83_107 {n : Nat} {Mm : Nat → Option zO}  {q32 : Nat → Option Nat → Option Nat → Int32 → zY → Option ((Unit ⊕ Nat) × zY)} {r32 : Nat → Option Nat → Option Nat → Int32 → zH → Option ((Unit ⊕ Nat) × zH)}  (hr32 : ∀ {l0 : Nat} {l1 : Option Nat} {l2 : Option Nat} {l3 : Int32}  {kh : zH} {h : zY} {p : (Unit ⊕ Nat) × zY}, Rep Mm kh h → q32 l0 l1 l2 l3 h = some p → ∃ kh1 : zH, r32 l0 l1 l2 l3 kh = some (p.1, kh1) ∧ Rep Mm kh1 p.2) {l0 : Nat} {l1 : Option Nat} {l2 : Option Nat} {l3 : Int32} {l4 : Option Nat} {l5 : Option Nat}  {kh : zH} {h : zY} {p : (Unit ⊕ Nat) × zY} (hR : Rep Mm kh h) (hG : cb83_107 n  q32 l0 l1 l2 l3 l4 l5 h = some p) : ∃ kh1 : zH, b83_107 n  r32 l0 l1 l2 l3 l4 l5 kh = some (p.1, kh1) ∧ Rep Mm kh1 p.2 := by
  unfold cb83_107 at hG
  unfold b83_107
  exact hr32 hR hG
def cb83_32 (n : Nat)  (r32 : Nat → Option Nat → Option Nat → Int32 → zY → Option ((Unit ⊕ Nat) × zY)) (l0 : Nat) (l1 : Option Nat) (l2 : Option Nat) (l3 : Int32) (h : zY) : Option ((Unit ⊕ Nat) × zY) :=
  if (400 : Int32) < l3 then
    cb83_116 n  l0 l1 l2 l3 h
  else
    (yR h l0 5 3).bind fun x2 =>
    x2.bind fun a4 =>
    (yR h a4 9 0).bind fun x5 =>
    (rEq x5 (some 11)).bind fun b7 =>
    if b7 = true then
      zgd (yisO h l0 5) <|
      (c71 n l0 (some 11) h).bind fun p15 => zth p15 (fun r12 h13 =>
        zgd (yisO h13 l0 5) <|
        (c84 n l0 h13).bind fun p18 =>
        zgd (yisO p18.2 l0 5) <|
        (c71 n l0 p18.1 p18.2).bind fun p24 => zth p24 (fun r21 h22 =>
          zgd (yisO h22 l0 5) <|
          (c79 n l0 (some 42) r21 h22).bind fun p30 => zth p30 (fun r27 h28 =>
            r27.bind fun a31 =>
            (yP h28 a31 3 2 (va_rf r21)).bind fun h32 =>
            match l2 with
            | none =>
              l1.bind fun a35 =>
              (yP h32 a35 3 4 (.ref a31)).bind fun h36 =>
              cb83_107 n r32 l0 (some a35) none l3 r21 (some a31) h36
            | some a34 =>
              (yP h32 a34 3 5 (.ref a31)).bind fun h38 =>
              cb83_107 n r32 l0 l1 (some a34) l3 r21 (some a31) h38)
            (fun x29 h28 =>
            zgd (exOk x29) <| some (.inr x29, h28)))
          (fun x23 h22 =>
          zgd (exOk x23) <| some (.inr x23, h22)))
        (fun x14 h13 =>
        zgd (exOk x14) <| some (.inr x14, h13))
    else
      cb83_116 n  l0 l1 l2 l3 h
set_option maxRecDepth 20000 in
theorem kb83_32 {n : Nat} {Mm : Nat → Option zO}  {q32 : Nat → Option Nat → Option Nat → Int32 → zY → Option ((Unit ⊕ Nat) × zY)} {r32 : Nat → Option Nat → Option Nat → Int32 → zH → Option ((Unit ⊕ Nat) × zH)}  (hr32 : ∀ {l0 : Nat} {l1 : Option Nat} {l2 : Option Nat} {l3 : Int32}  {kh : zH} {h : zY} {p : (Unit ⊕ Nat) × zY}, Rep Mm kh h → q32 l0 l1 l2 l3 h = some p → ∃ kh1 : zH, r32 l0 l1 l2 l3 kh = some (p.1, kh1) ∧ Rep Mm kh1 p.2) {l0 : Nat} {l1 : Option Nat} {l2 : Option Nat} {l3 : Int32}  {kh : zH} {h : zY} {p : (Unit ⊕ Nat) × zY} (hR : Rep Mm kh h) (hG : cb83_32 n  q32 l0 l1 l2 l3 h = some p) : ∃ kh1 : zH, b83_32 n  r32 l0 l1 l2 l3 kh = some (p.1, kh1) ∧ Rep Mm kh1 p.2 := by
  unfold cb83_32 at hG
  unfold b83_32
  by_cases c1 : (400 : Int32) < l3
  · rw [if_pos c1] at hG
    refine iE1 c1 ?_
    exact kb83_116 (n := n) hR hG
  · rw [if_neg c1] at hG
    refine iE2 c1 ?_
    replace hG := zbnd hG
    obtain ⟨x2, e2, hG⟩ := hG
    refine bE (k_gR hR e2) ?_
    replace hG := zbnd hG
    obtain ⟨a4, rfl, hG⟩ := hG
    refine bE rfl ?_
    replace hG := zbnd hG
    obtain ⟨x5, e4, hG⟩ := hG
    refine bE (k_gR hR e4) ?_
    replace hG := zbnd hG
    obtain ⟨b7, e5, hG⟩ := hG
    refine bE e5 ?_
    by_cases c6 : b7 = true
    · rw [if_pos c6] at hG
      refine iE1 c6 ?_
      replace hG := zgd_some hG
      obtain ⟨g7, hG⟩ := hG
      refine zE (k_isO hR g7) ?_
      replace hG := zbnd hG
      obtain ⟨⟨r12, h13⟩, e8, hG⟩ := hG
      have hT := k71 hR e8
      clear hR
      obtain ⟨kh9, e10, hR⟩ := hT
      refine bE e10 ?_
      rcases r12 with r12 | x14
      · replace hG := zthG hG
        refine zthEl ?_
        replace hG := zgd_some hG
        obtain ⟨g11, hG⟩ := hG
        refine zE (k_isO hR g11) ?_
        replace hG := zbnd hG
        obtain ⟨p18, e12, hG⟩ := hG
        have hT := k84 hR e12
        clear hR
        obtain ⟨kh13, e14, hR⟩ := hT
        refine bE e14 ?_
        replace hG := zgd_some hG
        obtain ⟨g15, hG⟩ := hG
        refine zE (k_isO hR g15) ?_
        replace hG := zbnd hG
        obtain ⟨⟨r21, h22⟩, e16, hG⟩ := hG
        have hT := k71 hR e16
        clear hR
        obtain ⟨kh17, e18, hR⟩ := hT
        refine bE e18 ?_
        rcases r21 with r21 | x23
        · replace hG := zthG hG
          refine zthEl ?_
          replace hG := zgd_some hG
          obtain ⟨g19, hG⟩ := hG
          refine zE (k_isO hR g19) ?_
          replace hG := zbnd hG
          obtain ⟨⟨r27, h28⟩, e20, hG⟩ := hG
          have hT := k79 hR e20
          clear hR
          obtain ⟨kh21, e22, hR⟩ := hT
          refine bE e22 ?_
          rcases r27 with r27 | x29
          · replace hG := zthG hG
            refine zthEl ?_
            replace hG := zbnd hG
            obtain ⟨a31, rfl, hG⟩ := hG
            refine bE rfl ?_
            replace hG := zbnd hG
            obtain ⟨h32, e24, hG⟩ := hG
            have hT := k_pF hR e24
            clear hR
            obtain ⟨kh25, e26, hR⟩ := hT
            refine bE e26 ?_
            cases l2 with
            | none =>
              dsimp only at hG ⊢
              replace hG := zbnd hG
              obtain ⟨a35, rfl, hG⟩ := hG
              refine bE rfl ?_
              replace hG := zbnd hG
              obtain ⟨h36, e28, hG⟩ := hG
              have hT := k_pF hR e28
              clear hR
              obtain ⟨kh29, e30, hR⟩ := hT
              refine bE e30 ?_
              exact kb83_107 (n := n) (q32 := q32) (r32 := r32) hr32 hR hG
            | some a34 =>
              dsimp only at hG ⊢
              replace hG := zbnd hG
              obtain ⟨h38, e31, hG⟩ := hG
              have hT := k_pF hR e31
              clear hR
              obtain ⟨kh32, e33, hR⟩ := hT
              refine bE e33 ?_
              exact kb83_107 (n := n) (q32 := q32) (r32 := r32) hr32 hR hG
          · replace hG := zthH hG
            refine zthEr ?_
            replace hG := zgd_some hG
            obtain ⟨g34, hG⟩ := hG
            refine zE g34 ?_
            replace hG := Option.some.inj hG
            subst hG
            exact ⟨_, rfl, hR⟩
        · replace hG := zthH hG
          refine zthEr ?_
          replace hG := zgd_some hG
          obtain ⟨g35, hG⟩ := hG
          refine zE g35 ?_
          replace hG := Option.some.inj hG
          subst hG
          exact ⟨_, rfl, hR⟩
      · replace hG := zthH hG
        refine zthEr ?_
        replace hG := zgd_some hG
        obtain ⟨g36, hG⟩ := hG
        refine zE g36 ?_
        replace hG := Option.some.inj hG
        subst hG
        exact ⟨_, rfl, hR⟩
    · rw [if_neg c6] at hG
      refine iE2 c6 ?_
      exact kb83_116 (n := n) hR hG
def cf83_32 (n : Nat)   (k : Nat) : Nat → Option Nat → Option Nat → Int32 → zY → Option ((Unit ⊕ Nat) × zY) := Nat.rec (fun _ _ _ _ _ => none) (fun _ ih => cb83_32 n  ih) k
theorem kf83_32 {n : Nat} {Mm : Nat → Option zO}     (k : Nat) : ∀ {l0 : Nat} {l1 : Option Nat} {l2 : Option Nat} {l3 : Int32}  {kh : zH} {h : zY} {p : (Unit ⊕ Nat) × zY}, Rep Mm kh h → cf83_32 n   k l0 l1 l2 l3 h = some p → ∃ kh1 : zH, f83_32 n   k l0 l1 l2 l3 kh = some (p.1, kh1) ∧ Rep Mm kh1 p.2 := by
  induction k with
  | zero => intros; rename_i hG; cases hG
  | succ k ih => intros; rename_i hR hG; exact kb83_32 (n := n) (q32 := cf83_32 n   k) (r32 := f83_32 n   k)  ih hR hG
def c83 (n : Nat)  (y0 : Nat) (y1 : Option Nat) (h : zY) : Option ((Unit ⊕ Nat) × zY) :=
  zgd (yisO h y0 5) <|
  (c71 n y0 (some 42) h).bind fun p6 => zth p6 (fun r3 h4 =>
    zgd (yisO h4 y0 5) <|
    (c71 n y0 (some 8) h4).bind fun p12 => zth p12 (fun r9 h10 =>
      zgd (yisO h10 y0 5) <|
      (c84 n y0 h10).bind fun p15 =>
      zgd (yisO p15.2 y0 5) <|
      (c71 n y0 p15.1 p15.2).bind fun p21 => zth p21 (fun r18 h19 =>
        y1.bind fun a22 =>
        (yP h19 a22 3 2 (va_rf r18)).bind fun h23 =>
        cf83_32 n  n y0 (some a22) none 0 h23)
        (fun x20 h19 =>
        zgd (exOk x20) <| some (.inr x20, h19)))
      (fun x11 h10 =>
      zgd (exOk x11) <| some (.inr x11, h10)))
    (fun x5 h4 =>
    zgd (exOk x5) <| some (.inr x5, h4))
set_option maxRecDepth 20000 in
theorem k83 {n : Nat} {Mm : Nat → Option zO}   {y0 : Nat} {y1 : Option Nat} {kh : zH} {h : zY} {p : (Unit ⊕ Nat) × zY} (hR : Rep Mm kh h) (hG : c83 n  y0 y1 h = some p) : ∃ kh1 : zH, f83 n  y0 y1 kh = some (p.1, kh1) ∧ Rep Mm kh1 p.2 := by
  unfold c83 at hG
  unfold f83
  replace hG := zgd_some hG
  obtain ⟨g1, hG⟩ := hG
  refine zE (k_isO hR g1) ?_
  replace hG := zbnd hG
  obtain ⟨⟨r3, h4⟩, e2, hG⟩ := hG
  have hT := k71 hR e2
  clear hR
  obtain ⟨kh3, e4, hR⟩ := hT
  refine bE e4 ?_
  rcases r3 with r3 | x5
  · replace hG := zthG hG
    refine zthEl ?_
    replace hG := zgd_some hG
    obtain ⟨g5, hG⟩ := hG
    refine zE (k_isO hR g5) ?_
    replace hG := zbnd hG
    obtain ⟨⟨r9, h10⟩, e6, hG⟩ := hG
    have hT := k71 hR e6
    clear hR
    obtain ⟨kh7, e8, hR⟩ := hT
    refine bE e8 ?_
    rcases r9 with r9 | x11
    · replace hG := zthG hG
      refine zthEl ?_
      replace hG := zgd_some hG
      obtain ⟨g9, hG⟩ := hG
      refine zE (k_isO hR g9) ?_
      replace hG := zbnd hG
      obtain ⟨p15, e10, hG⟩ := hG
      have hT := k84 hR e10
      clear hR
      obtain ⟨kh11, e12, hR⟩ := hT
      refine bE e12 ?_
      replace hG := zgd_some hG
      obtain ⟨g13, hG⟩ := hG
      refine zE (k_isO hR g13) ?_
      replace hG := zbnd hG
      obtain ⟨⟨r18, h19⟩, e14, hG⟩ := hG
      have hT := k71 hR e14
      clear hR
      obtain ⟨kh15, e16, hR⟩ := hT
      refine bE e16 ?_
      rcases r18 with r18 | x20
      · replace hG := zthG hG
        refine zthEl ?_
        replace hG := zbnd hG
        obtain ⟨a22, rfl, hG⟩ := hG
        refine bE rfl ?_
        replace hG := zbnd hG
        obtain ⟨h23, e18, hG⟩ := hG
        have hT := k_pF hR e18
        clear hR
        obtain ⟨kh19, e20, hR⟩ := hT
        refine bE e20 ?_
        exact kf83_32 (n := n) n hR hG
      · replace hG := zthH hG
        refine zthEr ?_
        replace hG := zgd_some hG
        obtain ⟨g21, hG⟩ := hG
        refine zE g21 ?_
        replace hG := Option.some.inj hG
        subst hG
        exact ⟨_, rfl, hR⟩
    · replace hG := zthH hG
      refine zthEr ?_
      replace hG := zgd_some hG
      obtain ⟨g22, hG⟩ := hG
      refine zE g22 ?_
      replace hG := Option.some.inj hG
      subst hG
      exact ⟨_, rfl, hR⟩
  · replace hG := zthH hG
    refine zthEr ?_
    replace hG := zgd_some hG
    obtain ⟨g23, hG⟩ := hG
    refine zE g23 ?_
    replace hG := Option.some.inj hG
    subst hG
    exact ⟨_, rfl, hR⟩
def c85 (n : Nat)  (y0 : Nat) (y1 : Option Nat) (h : zY) : Option ((Unit ⊕ Nat) × zY) :=
  y1.bind fun a1 =>
  (yR h a1 3 0).bind fun x2 =>
  x2.bind fun a4 =>
  zgd (yisO h a4 15) <|
  (c66 n a4 h).bind fun p7 =>
  (yaI p7.2 45 p7.1).bind fun x8 =>
  if x8 = 4 then
    zgd (yisO p7.2 y0 5) <|
    (c71 n y0 (some 43) p7.2).bind fun p16 => zth p16 (fun r13 h14 =>
      some (.inl (), h14))
      (fun x15 h14 =>
      zgd (exOk x15) <| some (.inr x15, h14))
  else
  if x8 = 5 then
    zgd (yisO p7.2 y0 5) <|
    (c71 n y0 (some 36) p7.2).bind fun p23 => zth p23 (fun r20 h21 =>
      zgd (yisO h21 y0 5) <|
      (c84 n y0 h21).bind fun p26 =>
      zgd (yisO p26.2 y0 5) <|
      (c71 n y0 p26.1 p26.2).bind fun p32 => zth p32 (fun r29 h30 =>
        (yP h30 a1 3 2 (va_rf r29)).bind fun h33 =>
        some (.inl (), h33))
        (fun x31 h30 =>
        zgd (exOk x31) <| some (.inr x31, h30)))
      (fun x22 h21 =>
      zgd (exOk x22) <| some (.inr x22, h21))
  else
  if x8 = 6 then
    (yR p7.2 a1 3 0).bind fun x36 =>
    zgd (yisO p7.2 y0 5) <|
    (c71 n y0 x36 p7.2).bind fun p43 => zth p43 (fun r40 h41 =>
      zgd (yisO h41 y0 5) <|
      (c71 n y0 (some 4) h41).bind fun p49 => zth p49 (fun r46 h47 =>
        (yP h47 a1 3 2 (va_rf r46)).bind fun h50 =>
        some (.inl (), h50))
        (fun x48 h47 =>
        zgd (exOk x48) <| some (.inr x48, h47)))
      (fun x42 h41 =>
      zgd (exOk x42) <| some (.inr x42, h41))
  else
  if x8 = 7 then
    (yR p7.2 a1 3 0).bind fun x53 =>
    zgd (yisO p7.2 y0 5) <|
    (c71 n y0 x53 p7.2).bind fun p60 => zth p60 (fun r57 h58 =>
      zgd (yisO h58 y0 5) <|
      (c71 n y0 (some 4) h58).bind fun p66 => zth p66 (fun r63 h64 =>
        (yP h64 a1 3 2 (va_rf r63)).bind fun h67 =>
        some (.inl (), h67))
        (fun x65 h64 =>
        zgd (exOk x65) <| some (.inr x65, h64)))
      (fun x59 h58 =>
      zgd (exOk x59) <| some (.inr x59, h58))
  else
  if x8 = 8 then
    (yR p7.2 a1 3 0).bind fun x70 =>
    zgd (yisO p7.2 y0 5) <|
    (c71 n y0 x70 p7.2).bind fun p77 => zth p77 (fun r74 h75 =>
      zgd (yisO h75 y0 5) <|
      (c71 n y0 (some 5) h75).bind fun p83 => zth p83 (fun r80 h81 =>
        (yP h81 a1 3 2 (va_rf r80)).bind fun h84 =>
        some (.inl (), h84))
        (fun x82 h81 =>
        zgd (exOk x82) <| some (.inr x82, h81)))
      (fun x76 h75 =>
      zgd (exOk x76) <| some (.inr x76, h75))
  else
  if x8 = 9 then
    (yR p7.2 a1 3 0).bind fun x87 =>
    zgd (yisO p7.2 y0 5) <|
    (c71 n y0 x87 p7.2).bind fun p94 => zth p94 (fun r91 h92 =>
      zgd (yisO h92 y0 5) <|
      (c71 n y0 (some 5) h92).bind fun p100 => zth p100 (fun r97 h98 =>
        (yP h98 a1 3 2 (va_rf r97)).bind fun h101 =>
        some (.inl (), h101))
        (fun x99 h98 =>
        zgd (exOk x99) <| some (.inr x99, h98)))
      (fun x93 h92 =>
      zgd (exOk x93) <| some (.inr x93, h92))
  else
  if x8 = 10 then
    (yR p7.2 a1 3 0).bind fun x104 =>
    zgd (yisO p7.2 y0 5) <|
    (c71 n y0 x104 p7.2).bind fun p111 => zth p111 (fun r108 h109 =>
      zgd (yisO h109 y0 5) <|
      (c71 n y0 (some 5) h109).bind fun p117 => zth p117 (fun r114 h115 =>
        (yP h115 a1 3 2 (va_rf r114)).bind fun h118 =>
        some (.inl (), h118))
        (fun x116 h115 =>
        zgd (exOk x116) <| some (.inr x116, h115)))
      (fun x110 h109 =>
      zgd (exOk x110) <| some (.inr x110, h109))
  else
  (yR p7.2 y0 5 3).bind fun x120 =>
  zgd (yisO p7.2 y0 5) <|
  (c70 n y0 2 x120 p7.2).bind fun p127 => zth p127 (fun r124 h125 =>
    some (.inl (), h125))
    (fun x126 h125 =>
    zgd (exOk x126) <| some (.inr x126, h125))
set_option maxRecDepth 20000 in
theorem k85 {n : Nat} {Mm : Nat → Option zO}   {y0 : Nat} {y1 : Option Nat} {kh : zH} {h : zY} {p : (Unit ⊕ Nat) × zY} (hR : Rep Mm kh h) (hG : c85 n  y0 y1 h = some p) : ∃ kh1 : zH, f85 n  y0 y1 kh = some (p.1, kh1) ∧ Rep Mm kh1 p.2 := by
  unfold c85 at hG
  unfold f85
  replace hG := zbnd hG
  obtain ⟨a1, rfl, hG⟩ := hG
  refine bE rfl ?_
  replace hG := zbnd hG
  obtain ⟨x2, e2, hG⟩ := hG
  refine bE (k_gR hR e2) ?_
  replace hG := zbnd hG
  obtain ⟨a4, rfl, hG⟩ := hG
  refine bE rfl ?_
  replace hG := zgd_some hG
  obtain ⟨g4, hG⟩ := hG
  refine zE (k_isO hR g4) ?_
  replace hG := zbnd hG
  obtain ⟨p7, e5, hG⟩ := hG
  have hT := k66 hR e5
  clear hR
  obtain ⟨kh6, e7, hR⟩ := hT
  refine bE e7 ?_
  replace hG := zbnd hG
  obtain ⟨x8, e8, hG⟩ := hG
  refine bE (k_aI hR e8) ?_
  by_cases c9 : x8 = 4
  · rw [if_pos c9] at hG
    refine iE1 c9 ?_
    replace hG := zgd_some hG
    obtain ⟨g10, hG⟩ := hG
    refine zE (k_isO hR g10) ?_
    replace hG := zbnd hG
    obtain ⟨⟨r13, h14⟩, e11, hG⟩ := hG
    have hT := k71 hR e11
    clear hR
    obtain ⟨kh12, e13, hR⟩ := hT
    refine bE e13 ?_
    rcases r13 with r13 | x15
    · replace hG := zthG hG
      refine zthEl ?_
      replace hG := Option.some.inj hG
      subst hG
      exact ⟨_, rfl, hR⟩
    · replace hG := zthH hG
      refine zthEr ?_
      replace hG := zgd_some hG
      obtain ⟨g14, hG⟩ := hG
      refine zE g14 ?_
      replace hG := Option.some.inj hG
      subst hG
      exact ⟨_, rfl, hR⟩
  · rw [if_neg c9] at hG
    refine iE2 c9 ?_
    by_cases c15 : x8 = 5
    · rw [if_pos c15] at hG
      refine iE1 c15 ?_
      replace hG := zgd_some hG
      obtain ⟨g16, hG⟩ := hG
      refine zE (k_isO hR g16) ?_
      replace hG := zbnd hG
      obtain ⟨⟨r20, h21⟩, e17, hG⟩ := hG
      have hT := k71 hR e17
      clear hR
      obtain ⟨kh18, e19, hR⟩ := hT
      refine bE e19 ?_
      rcases r20 with r20 | x22
      · replace hG := zthG hG
        refine zthEl ?_
        replace hG := zgd_some hG
        obtain ⟨g20, hG⟩ := hG
        refine zE (k_isO hR g20) ?_
        replace hG := zbnd hG
        obtain ⟨p26, e21, hG⟩ := hG
        have hT := k84 hR e21
        clear hR
        obtain ⟨kh22, e23, hR⟩ := hT
        refine bE e23 ?_
        replace hG := zgd_some hG
        obtain ⟨g24, hG⟩ := hG
        refine zE (k_isO hR g24) ?_
        replace hG := zbnd hG
        obtain ⟨⟨r29, h30⟩, e25, hG⟩ := hG
        have hT := k71 hR e25
        clear hR
        obtain ⟨kh26, e27, hR⟩ := hT
        refine bE e27 ?_
        rcases r29 with r29 | x31
        · replace hG := zthG hG
          refine zthEl ?_
          replace hG := zbnd hG
          obtain ⟨h33, e28, hG⟩ := hG
          have hT := k_pF hR e28
          clear hR
          obtain ⟨kh29, e30, hR⟩ := hT
          refine bE e30 ?_
          replace hG := Option.some.inj hG
          subst hG
          exact ⟨_, rfl, hR⟩
        · replace hG := zthH hG
          refine zthEr ?_
          replace hG := zgd_some hG
          obtain ⟨g31, hG⟩ := hG
          refine zE g31 ?_
          replace hG := Option.some.inj hG
          subst hG
          exact ⟨_, rfl, hR⟩
      · replace hG := zthH hG
        refine zthEr ?_
        replace hG := zgd_some hG
        obtain ⟨g32, hG⟩ := hG
        refine zE g32 ?_
        replace hG := Option.some.inj hG
        subst hG
        exact ⟨_, rfl, hR⟩
    · rw [if_neg c15] at hG
      refine iE2 c15 ?_
      by_cases c33 : x8 = 6
      · rw [if_pos c33] at hG
        refine iE1 c33 ?_
        replace hG := zbnd hG
        obtain ⟨x36, e34, hG⟩ := hG
        refine bE (k_gR hR e34) ?_
        replace hG := zgd_some hG
        obtain ⟨g35, hG⟩ := hG
        refine zE (k_isO hR g35) ?_
        replace hG := zbnd hG
        obtain ⟨⟨r40, h41⟩, e36, hG⟩ := hG
        have hT := k71 hR e36
        clear hR
        obtain ⟨kh37, e38, hR⟩ := hT
        refine bE e38 ?_
        rcases r40 with r40 | x42
        · replace hG := zthG hG
          refine zthEl ?_
          replace hG := zgd_some hG
          obtain ⟨g39, hG⟩ := hG
          refine zE (k_isO hR g39) ?_
          replace hG := zbnd hG
          obtain ⟨⟨r46, h47⟩, e40, hG⟩ := hG
          have hT := k71 hR e40
          clear hR
          obtain ⟨kh41, e42, hR⟩ := hT
          refine bE e42 ?_
          rcases r46 with r46 | x48
          · replace hG := zthG hG
            refine zthEl ?_
            replace hG := zbnd hG
            obtain ⟨h50, e43, hG⟩ := hG
            have hT := k_pF hR e43
            clear hR
            obtain ⟨kh44, e45, hR⟩ := hT
            refine bE e45 ?_
            replace hG := Option.some.inj hG
            subst hG
            exact ⟨_, rfl, hR⟩
          · replace hG := zthH hG
            refine zthEr ?_
            replace hG := zgd_some hG
            obtain ⟨g46, hG⟩ := hG
            refine zE g46 ?_
            replace hG := Option.some.inj hG
            subst hG
            exact ⟨_, rfl, hR⟩
        · replace hG := zthH hG
          refine zthEr ?_
          replace hG := zgd_some hG
          obtain ⟨g47, hG⟩ := hG
          refine zE g47 ?_
          replace hG := Option.some.inj hG
          subst hG
          exact ⟨_, rfl, hR⟩
      · rw [if_neg c33] at hG
        refine iE2 c33 ?_
        by_cases c48 : x8 = 7
        · rw [if_pos c48] at hG
          refine iE1 c48 ?_
          replace hG := zbnd hG
          obtain ⟨x53, e49, hG⟩ := hG
          refine bE (k_gR hR e49) ?_
          replace hG := zgd_some hG
          obtain ⟨g50, hG⟩ := hG
          refine zE (k_isO hR g50) ?_
          replace hG := zbnd hG
          obtain ⟨⟨r57, h58⟩, e51, hG⟩ := hG
          have hT := k71 hR e51
          clear hR
          obtain ⟨kh52, e53, hR⟩ := hT
          refine bE e53 ?_
          rcases r57 with r57 | x59
          · replace hG := zthG hG
            refine zthEl ?_
            replace hG := zgd_some hG
            obtain ⟨g54, hG⟩ := hG
            refine zE (k_isO hR g54) ?_
            replace hG := zbnd hG
            obtain ⟨⟨r63, h64⟩, e55, hG⟩ := hG
            have hT := k71 hR e55
            clear hR
            obtain ⟨kh56, e57, hR⟩ := hT
            refine bE e57 ?_
            rcases r63 with r63 | x65
            · replace hG := zthG hG
              refine zthEl ?_
              replace hG := zbnd hG
              obtain ⟨h67, e58, hG⟩ := hG
              have hT := k_pF hR e58
              clear hR
              obtain ⟨kh59, e60, hR⟩ := hT
              refine bE e60 ?_
              replace hG := Option.some.inj hG
              subst hG
              exact ⟨_, rfl, hR⟩
            · replace hG := zthH hG
              refine zthEr ?_
              replace hG := zgd_some hG
              obtain ⟨g61, hG⟩ := hG
              refine zE g61 ?_
              replace hG := Option.some.inj hG
              subst hG
              exact ⟨_, rfl, hR⟩
          · replace hG := zthH hG
            refine zthEr ?_
            replace hG := zgd_some hG
            obtain ⟨g62, hG⟩ := hG
            refine zE g62 ?_
            replace hG := Option.some.inj hG
            subst hG
            exact ⟨_, rfl, hR⟩
        · rw [if_neg c48] at hG
          refine iE2 c48 ?_
          by_cases c63 : x8 = 8
          · rw [if_pos c63] at hG
            refine iE1 c63 ?_
            replace hG := zbnd hG
            obtain ⟨x70, e64, hG⟩ := hG
            refine bE (k_gR hR e64) ?_
            replace hG := zgd_some hG
            obtain ⟨g65, hG⟩ := hG
            refine zE (k_isO hR g65) ?_
            replace hG := zbnd hG
            obtain ⟨⟨r74, h75⟩, e66, hG⟩ := hG
            have hT := k71 hR e66
            clear hR
            obtain ⟨kh67, e68, hR⟩ := hT
            refine bE e68 ?_
            rcases r74 with r74 | x76
            · replace hG := zthG hG
              refine zthEl ?_
              replace hG := zgd_some hG
              obtain ⟨g69, hG⟩ := hG
              refine zE (k_isO hR g69) ?_
              replace hG := zbnd hG
              obtain ⟨⟨r80, h81⟩, e70, hG⟩ := hG
              have hT := k71 hR e70
              clear hR
              obtain ⟨kh71, e72, hR⟩ := hT
              refine bE e72 ?_
              rcases r80 with r80 | x82
              · replace hG := zthG hG
                refine zthEl ?_
                replace hG := zbnd hG
                obtain ⟨h84, e73, hG⟩ := hG
                have hT := k_pF hR e73
                clear hR
                obtain ⟨kh74, e75, hR⟩ := hT
                refine bE e75 ?_
                replace hG := Option.some.inj hG
                subst hG
                exact ⟨_, rfl, hR⟩
              · replace hG := zthH hG
                refine zthEr ?_
                replace hG := zgd_some hG
                obtain ⟨g76, hG⟩ := hG
                refine zE g76 ?_
                replace hG := Option.some.inj hG
                subst hG
                exact ⟨_, rfl, hR⟩
            · replace hG := zthH hG
              refine zthEr ?_
              replace hG := zgd_some hG
              obtain ⟨g77, hG⟩ := hG
              refine zE g77 ?_
              replace hG := Option.some.inj hG
              subst hG
              exact ⟨_, rfl, hR⟩
          · rw [if_neg c63] at hG
            refine iE2 c63 ?_
            by_cases c78 : x8 = 9
            · rw [if_pos c78] at hG
              refine iE1 c78 ?_
              replace hG := zbnd hG
              obtain ⟨x87, e79, hG⟩ := hG
              refine bE (k_gR hR e79) ?_
              replace hG := zgd_some hG
              obtain ⟨g80, hG⟩ := hG
              refine zE (k_isO hR g80) ?_
              replace hG := zbnd hG
              obtain ⟨⟨r91, h92⟩, e81, hG⟩ := hG
              have hT := k71 hR e81
              clear hR
              obtain ⟨kh82, e83, hR⟩ := hT
              refine bE e83 ?_
              rcases r91 with r91 | x93
              · replace hG := zthG hG
                refine zthEl ?_
                replace hG := zgd_some hG
                obtain ⟨g84, hG⟩ := hG
                refine zE (k_isO hR g84) ?_
                replace hG := zbnd hG
                obtain ⟨⟨r97, h98⟩, e85, hG⟩ := hG
                have hT := k71 hR e85
                clear hR
                obtain ⟨kh86, e87, hR⟩ := hT
                refine bE e87 ?_
                rcases r97 with r97 | x99
                · replace hG := zthG hG
                  refine zthEl ?_
                  replace hG := zbnd hG
                  obtain ⟨h101, e88, hG⟩ := hG
                  have hT := k_pF hR e88
                  clear hR
                  obtain ⟨kh89, e90, hR⟩ := hT
                  refine bE e90 ?_
                  replace hG := Option.some.inj hG
                  subst hG
                  exact ⟨_, rfl, hR⟩
                · replace hG := zthH hG
                  refine zthEr ?_
                  replace hG := zgd_some hG
                  obtain ⟨g91, hG⟩ := hG
                  refine zE g91 ?_
                  replace hG := Option.some.inj hG
                  subst hG
                  exact ⟨_, rfl, hR⟩
              · replace hG := zthH hG
                refine zthEr ?_
                replace hG := zgd_some hG
                obtain ⟨g92, hG⟩ := hG
                refine zE g92 ?_
                replace hG := Option.some.inj hG
                subst hG
                exact ⟨_, rfl, hR⟩
            · rw [if_neg c78] at hG
              refine iE2 c78 ?_
              by_cases c93 : x8 = 10
              · rw [if_pos c93] at hG
                refine iE1 c93 ?_
                replace hG := zbnd hG
                obtain ⟨x104, e94, hG⟩ := hG
                refine bE (k_gR hR e94) ?_
                replace hG := zgd_some hG
                obtain ⟨g95, hG⟩ := hG
                refine zE (k_isO hR g95) ?_
                replace hG := zbnd hG
                obtain ⟨⟨r108, h109⟩, e96, hG⟩ := hG
                have hT := k71 hR e96
                clear hR
                obtain ⟨kh97, e98, hR⟩ := hT
                refine bE e98 ?_
                rcases r108 with r108 | x110
                · replace hG := zthG hG
                  refine zthEl ?_
                  replace hG := zgd_some hG
                  obtain ⟨g99, hG⟩ := hG
                  refine zE (k_isO hR g99) ?_
                  replace hG := zbnd hG
                  obtain ⟨⟨r114, h115⟩, e100, hG⟩ := hG
                  have hT := k71 hR e100
                  clear hR
                  obtain ⟨kh101, e102, hR⟩ := hT
                  refine bE e102 ?_
                  rcases r114 with r114 | x116
                  · replace hG := zthG hG
                    refine zthEl ?_
                    replace hG := zbnd hG
                    obtain ⟨h118, e103, hG⟩ := hG
                    have hT := k_pF hR e103
                    clear hR
                    obtain ⟨kh104, e105, hR⟩ := hT
                    refine bE e105 ?_
                    replace hG := Option.some.inj hG
                    subst hG
                    exact ⟨_, rfl, hR⟩
                  · replace hG := zthH hG
                    refine zthEr ?_
                    replace hG := zgd_some hG
                    obtain ⟨g106, hG⟩ := hG
                    refine zE g106 ?_
                    replace hG := Option.some.inj hG
                    subst hG
                    exact ⟨_, rfl, hR⟩
                · replace hG := zthH hG
                  refine zthEr ?_
                  replace hG := zgd_some hG
                  obtain ⟨g107, hG⟩ := hG
                  refine zE g107 ?_
                  replace hG := Option.some.inj hG
                  subst hG
                  exact ⟨_, rfl, hR⟩
              · rw [if_neg c93] at hG
                refine iE2 c93 ?_
                replace hG := zbnd hG
                obtain ⟨x120, e108, hG⟩ := hG
                refine bE (k_gR hR e108) ?_
                replace hG := zgd_some hG
                obtain ⟨g109, hG⟩ := hG
                refine zE (k_isO hR g109) ?_
                replace hG := zbnd hG
                obtain ⟨⟨r124, h125⟩, e110, hG⟩ := hG
                have hT := k70 hR e110
                clear hR
                obtain ⟨kh111, e112, hR⟩ := hT
                refine bE e112 ?_
                rcases r124 with r124 | x126
                · replace hG := zthG hG
                  refine zthEl ?_
                  replace hG := Option.some.inj hG
                  subst hG
                  exact ⟨_, rfl, hR⟩
                · replace hG := zthH hG
                  refine zthEr ?_
                  replace hG := zgd_some hG
                  obtain ⟨g113, hG⟩ := hG
                  refine zE g113 ?_
                  replace hG := Option.some.inj hG
                  subst hG
                  exact ⟨_, rfl, hR⟩
def cb77_108 (n : Nat) (g77 : Nat → Option Nat → Int32 → zY → Option ((Option Nat ⊕ Nat) × zY)) (g78 : Nat → Int32 → zY → Option ((Option Nat ⊕ Nat) × zY)) (r60 : Nat → Option Nat → Int32 → Option Nat → Option Nat → Option Nat → Int32 → zY → Option ((Option Nat ⊕ Nat) × zY)) (l0 : Nat) (l1 : Option Nat) (l2 : Int32) (l3 : Option Nat) (l4 : Option Nat) (l5 : Option Nat) (l6 : Int32) (s0 : Option Nat) (h : zY) : Option ((Option Nat ⊕ Nat) × zY) :=
  l5.bind fun a1 =>
  (yP h a1 3 5 (va_rf s0)).bind fun h2 =>
  r60 l0 l1 l2 l3 l4 s0 (l6 + 1) h2
set_option maxRecDepth 20000 in
theorem kb77_108 {n : Nat} {Mm : Nat → Option zO} {j77 : Nat → Option Nat → Int32 → zY → Option ((Option Nat ⊕ Nat) × zY)} {g77 : Nat → Option Nat → Int32 → zH → Option ((Option Nat ⊕ Nat) × zH)} {j78 : Nat → Int32 → zY → Option ((Option Nat ⊕ Nat) × zY)} {g78 : Nat → Int32 → zH → Option ((Option Nat ⊕ Nat) × zH)} {q60 : Nat → Option Nat → Int32 → Option Nat → Option Nat → Option Nat → Int32 → zY → Option ((Option Nat ⊕ Nat) × zY)} {r60 : Nat → Option Nat → Int32 → Option Nat → Option Nat → Option Nat → Int32 → zH → Option ((Option Nat ⊕ Nat) × zH)} (hg77 : ∀ {y0 : Nat} {y1 : Option Nat} {y2 : Int32} {kh : zH} {h : zY} {p : (Option Nat ⊕ Nat) × zY}, Rep Mm kh h → j77 y0 y1 y2 h = some p → ∃ kh1 : zH, g77 y0 y1 y2 kh = some (p.1, kh1) ∧ Rep Mm kh1 p.2) (hg78 : ∀ {y0 : Nat} {y1 : Int32} {kh : zH} {h : zY} {p : (Option Nat ⊕ Nat) × zY}, Rep Mm kh h → j78 y0 y1 h = some p → ∃ kh1 : zH, g78 y0 y1 kh = some (p.1, kh1) ∧ Rep Mm kh1 p.2) (hr60 : ∀ {l0 : Nat} {l1 : Option Nat} {l2 : Int32} {l3 : Option Nat} {l4 : Option Nat} {l5 : Option Nat} {l6 : Int32}  {kh : zH} {h : zY} {p : (Option Nat ⊕ Nat) × zY}, Rep Mm kh h → q60 l0 l1 l2 l3 l4 l5 l6 h = some p → ∃ kh1 : zH, r60 l0 l1 l2 l3 l4 l5 l6 kh = some (p.1, kh1) ∧ Rep Mm kh1 p.2) {l0 : Nat} {l1 : Option Nat} {l2 : Int32} {l3 : Option Nat} {l4 : Option Nat} {l5 : Option Nat} {l6 : Int32} {s0 : Option Nat} {kh : zH} {h : zY} {p : (Option Nat ⊕ Nat) × zY} (hR : Rep Mm kh h) (hG : cb77_108 n j77 j78 q60 l0 l1 l2 l3 l4 l5 l6 s0 h = some p) : ∃ kh1 : zH, b77_108 n g77 g78 r60 l0 l1 l2 l3 l4 l5 l6 s0 kh = some (p.1, kh1) ∧ Rep Mm kh1 p.2 := by
  unfold cb77_108 at hG
  unfold b77_108
  replace hG := zbnd hG
  obtain ⟨a1, rfl, hG⟩ := hG
  refine bE rfl ?_
  replace hG := zbnd hG
  obtain ⟨h2, e2, hG⟩ := hG
  have hT := k_pF hR e2
  clear hR
  obtain ⟨kh3, e4, hR⟩ := hT
  refine bE e4 ?_
  exact hr60 hR hG
def cb77_60 (n : Nat) (g77 : Nat → Option Nat → Int32 → zY → Option ((Option Nat ⊕ Nat) × zY)) (g78 : Nat → Int32 → zY → Option ((Option Nat ⊕ Nat) × zY)) (r60 : Nat → Option Nat → Int32 → Option Nat → Option Nat → Option Nat → Int32 → zY → Option ((Option Nat ⊕ Nat) × zY)) (l0 : Nat) (l1 : Option Nat) (l2 : Int32) (l3 : Option Nat) (l4 : Option Nat) (l5 : Option Nat) (l6 : Int32) (h : zY) : Option ((Option Nat ⊕ Nat) × zY) :=
  if (400 : Int32) < l6 then
    some (.inl l4, h)
  else
    (yR h l0 5 3).bind fun x2 =>
    x2.bind fun a4 =>
    (yR h a4 9 0).bind fun x5 =>
    (rEq x5 l1).bind fun b7 =>
    if b7 = true then
      zgd (yisO h l0 5) <|
      (c71 n l0 l1 h).bind fun p15 => zth p15 (fun r12 h13 =>
        (rEq l1 (some 32)).bind fun b16 =>
        if b16 = true then
          zgd (yisO h13 l0 5) <|
          (g77 l0 (some 33) l2 h13).bind fun p24 => zth p24 (fun r21 h22 =>
            cb77_108 n g77 g78 r60 l0 l1 l2 l3 l4 l5 l6 r21 h22)
            (fun x23 h22 =>
            zgd (exOk x23) <| some (.inr x23, h22))
        else
          zgd (yisO h13 l0 5) <|
          (g78 l0 l2 h13).bind fun p30 => zth p30 (fun r27 h28 =>
            cb77_108 n g77 g78 r60 l0 l1 l2 l3 l4 l5 l6 r27 h28)
            (fun x29 h28 =>
            zgd (exOk x29) <| some (.inr x29, h28)))
        (fun x14 h13 =>
        zgd (exOk x14) <| some (.inr x14, h13))
    else
      some (.inl l4, h)
set_option maxRecDepth 20000 in
theorem kb77_60 {n : Nat} {Mm : Nat → Option zO} {j77 : Nat → Option Nat → Int32 → zY → Option ((Option Nat ⊕ Nat) × zY)} {g77 : Nat → Option Nat → Int32 → zH → Option ((Option Nat ⊕ Nat) × zH)} {j78 : Nat → Int32 → zY → Option ((Option Nat ⊕ Nat) × zY)} {g78 : Nat → Int32 → zH → Option ((Option Nat ⊕ Nat) × zH)} {q60 : Nat → Option Nat → Int32 → Option Nat → Option Nat → Option Nat → Int32 → zY → Option ((Option Nat ⊕ Nat) × zY)} {r60 : Nat → Option Nat → Int32 → Option Nat → Option Nat → Option Nat → Int32 → zH → Option ((Option Nat ⊕ Nat) × zH)} (hg77 : ∀ {y0 : Nat} {y1 : Option Nat} {y2 : Int32} {kh : zH} {h : zY} {p : (Option Nat ⊕ Nat) × zY}, Rep Mm kh h → j77 y0 y1 y2 h = some p → ∃ kh1 : zH, g77 y0 y1 y2 kh = some (p.1, kh1) ∧ Rep Mm kh1 p.2) (hg78 : ∀ {y0 : Nat} {y1 : Int32} {kh : zH} {h : zY} {p : (Option Nat ⊕ Nat) × zY}, Rep Mm kh h → j78 y0 y1 h = some p → ∃ kh1 : zH, g78 y0 y1 kh = some (p.1, kh1) ∧ Rep Mm kh1 p.2) (hr60 : ∀ {l0 : Nat} {l1 : Option Nat} {l2 : Int32} {l3 : Option Nat} {l4 : Option Nat} {l5 : Option Nat} {l6 : Int32}  {kh : zH} {h : zY} {p : (Option Nat ⊕ Nat) × zY}, Rep Mm kh h → q60 l0 l1 l2 l3 l4 l5 l6 h = some p → ∃ kh1 : zH, r60 l0 l1 l2 l3 l4 l5 l6 kh = some (p.1, kh1) ∧ Rep Mm kh1 p.2) {l0 : Nat} {l1 : Option Nat} {l2 : Int32} {l3 : Option Nat} {l4 : Option Nat} {l5 : Option Nat} {l6 : Int32}  {kh : zH} {h : zY} {p : (Option Nat ⊕ Nat) × zY} (hR : Rep Mm kh h) (hG : cb77_60 n j77 j78 q60 l0 l1 l2 l3 l4 l5 l6 h = some p) : ∃ kh1 : zH, b77_60 n g77 g78 r60 l0 l1 l2 l3 l4 l5 l6 kh = some (p.1, kh1) ∧ Rep Mm kh1 p.2 := by
  unfold cb77_60 at hG
  unfold b77_60
  by_cases c1 : (400 : Int32) < l6
  · rw [if_pos c1] at hG
    refine iE1 c1 ?_
    replace hG := Option.some.inj hG
    subst hG
    exact ⟨_, rfl, hR⟩
  · rw [if_neg c1] at hG
    refine iE2 c1 ?_
    replace hG := zbnd hG
    obtain ⟨x2, e2, hG⟩ := hG
    refine bE (k_gR hR e2) ?_
    replace hG := zbnd hG
    obtain ⟨a4, rfl, hG⟩ := hG
    refine bE rfl ?_
    replace hG := zbnd hG
    obtain ⟨x5, e4, hG⟩ := hG
    refine bE (k_gR hR e4) ?_
    replace hG := zbnd hG
    obtain ⟨b7, e5, hG⟩ := hG
    refine bE e5 ?_
    by_cases c6 : b7 = true
    · rw [if_pos c6] at hG
      refine iE1 c6 ?_
      replace hG := zgd_some hG
      obtain ⟨g7, hG⟩ := hG
      refine zE (k_isO hR g7) ?_
      replace hG := zbnd hG
      obtain ⟨⟨r12, h13⟩, e8, hG⟩ := hG
      have hT := k71 hR e8
      clear hR
      obtain ⟨kh9, e10, hR⟩ := hT
      refine bE e10 ?_
      rcases r12 with r12 | x14
      · replace hG := zthG hG
        refine zthEl ?_
        replace hG := zbnd hG
        obtain ⟨b16, e11, hG⟩ := hG
        refine bE e11 ?_
        by_cases c12 : b16 = true
        · rw [if_pos c12] at hG
          refine iE1 c12 ?_
          replace hG := zgd_some hG
          obtain ⟨g13, hG⟩ := hG
          refine zE (k_isO hR g13) ?_
          replace hG := zbnd hG
          obtain ⟨⟨r21, h22⟩, e14, hG⟩ := hG
          have hT := hg77 hR e14
          clear hR
          obtain ⟨kh15, e16, hR⟩ := hT
          refine bE e16 ?_
          rcases r21 with r21 | x23
          · replace hG := zthG hG
            refine zthEl ?_
            exact kb77_108 (n := n) (j77 := j77) (g77 := g77) (j78 := j78) (g78 := g78) (q60 := q60) (r60 := r60) hg77 hg78 hr60 hR hG
          · replace hG := zthH hG
            refine zthEr ?_
            replace hG := zgd_some hG
            obtain ⟨g17, hG⟩ := hG
            refine zE g17 ?_
            replace hG := Option.some.inj hG
            subst hG
            exact ⟨_, rfl, hR⟩
        · rw [if_neg c12] at hG
          refine iE2 c12 ?_
          replace hG := zgd_some hG
          obtain ⟨g18, hG⟩ := hG
          refine zE (k_isO hR g18) ?_
          replace hG := zbnd hG
          obtain ⟨⟨r27, h28⟩, e19, hG⟩ := hG
          have hT := hg78 hR e19
          clear hR
          obtain ⟨kh20, e21, hR⟩ := hT
          refine bE e21 ?_
          rcases r27 with r27 | x29
          · replace hG := zthG hG
            refine zthEl ?_
            exact kb77_108 (n := n) (j77 := j77) (g77 := g77) (j78 := j78) (g78 := g78) (q60 := q60) (r60 := r60) hg77 hg78 hr60 hR hG
          · replace hG := zthH hG
            refine zthEr ?_
            replace hG := zgd_some hG
            obtain ⟨g22, hG⟩ := hG
            refine zE g22 ?_
            replace hG := Option.some.inj hG
            subst hG
            exact ⟨_, rfl, hR⟩
      · replace hG := zthH hG
        refine zthEr ?_
        replace hG := zgd_some hG
        obtain ⟨g23, hG⟩ := hG
        refine zE g23 ?_
        replace hG := Option.some.inj hG
        subst hG
        exact ⟨_, rfl, hR⟩
    · rw [if_neg c6] at hG
      refine iE2 c6 ?_
      replace hG := Option.some.inj hG
      subst hG
      exact ⟨_, rfl, hR⟩
def cf77_60 (n : Nat) (g77 : Nat → Option Nat → Int32 → zY → Option ((Option Nat ⊕ Nat) × zY)) (g78 : Nat → Int32 → zY → Option ((Option Nat ⊕ Nat) × zY))  (k : Nat) : Nat → Option Nat → Int32 → Option Nat → Option Nat → Option Nat → Int32 → zY → Option ((Option Nat ⊕ Nat) × zY) := Nat.rec (fun _ _ _ _ _ _ _ _ => none) (fun _ ih => cb77_60 n g77 g78 ih) k
theorem kf77_60 {n : Nat} {Mm : Nat → Option zO} {j77 : Nat → Option Nat → Int32 → zY → Option ((Option Nat ⊕ Nat) × zY)} {g77 : Nat → Option Nat → Int32 → zH → Option ((Option Nat ⊕ Nat) × zH)} {j78 : Nat → Int32 → zY → Option ((Option Nat ⊕ Nat) × zY)} {g78 : Nat → Int32 → zH → Option ((Option Nat ⊕ Nat) × zH)}  (hg77 : ∀ {y0 : Nat} {y1 : Option Nat} {y2 : Int32} {kh : zH} {h : zY} {p : (Option Nat ⊕ Nat) × zY}, Rep Mm kh h → j77 y0 y1 y2 h = some p → ∃ kh1 : zH, g77 y0 y1 y2 kh = some (p.1, kh1) ∧ Rep Mm kh1 p.2) (hg78 : ∀ {y0 : Nat} {y1 : Int32} {kh : zH} {h : zY} {p : (Option Nat ⊕ Nat) × zY}, Rep Mm kh h → j78 y0 y1 h = some p → ∃ kh1 : zH, g78 y0 y1 kh = some (p.1, kh1) ∧ Rep Mm kh1 p.2)  (k : Nat) : ∀ {l0 : Nat} {l1 : Option Nat} {l2 : Int32} {l3 : Option Nat} {l4 : Option Nat} {l5 : Option Nat} {l6 : Int32}  {kh : zH} {h : zY} {p : (Option Nat ⊕ Nat) × zY}, Rep Mm kh h → cf77_60 n j77 j78  k l0 l1 l2 l3 l4 l5 l6 h = some p → ∃ kh1 : zH, f77_60 n g77 g78  k l0 l1 l2 l3 l4 l5 l6 kh = some (p.1, kh1) ∧ Rep Mm kh1 p.2 := by
  induction k with
  | zero => intros; rename_i hG; cases hG
  | succ k ih => intros; rename_i hR hG; exact kb77_60 (n := n) (j77 := j77) (g77 := g77) (j78 := j78) (g78 := g78) (q60 := cf77_60 n j77 j78  k) (r60 := f77_60 n g77 g78  k) hg77 hg78 ih hR hG
def cb77_23 (n : Nat) (g77 : Nat → Option Nat → Int32 → zY → Option ((Option Nat ⊕ Nat) × zY)) (g78 : Nat → Int32 → zY → Option ((Option Nat ⊕ Nat) × zY))  (l0 : Nat) (l1 : Option Nat) (l2 : Int32) (s0 : Option Nat) (h : zY) : Option ((Option Nat ⊕ Nat) × zY) :=
  (yR h l0 5 3).bind fun x1 =>
  x1.bind fun a3 =>
  (yR h a3 9 0).bind fun x4 =>
  (rEq x4 l1).bind fun b6 =>
  if b6 = true then
    (yR h l0 5 3).bind fun x9 =>
    zgd (yisO h l0 5) <|
    (c79 n l0 l1 x9 h).bind fun p16 => zth p16 (fun r13 h14 =>
      r13.bind fun a17 =>
      (yP h14 a17 3 4 (va_rf s0)).bind fun h18 =>
      cf77_60 n g77 g78 n l0 l1 l2 s0 (some a17) s0 0 h18)
      (fun x15 h14 =>
      zgd (exOk x15) <| some (.inr x15, h14))
  else
    some (.inl s0, h)
set_option maxRecDepth 20000 in
theorem kb77_23 {n : Nat} {Mm : Nat → Option zO} {j77 : Nat → Option Nat → Int32 → zY → Option ((Option Nat ⊕ Nat) × zY)} {g77 : Nat → Option Nat → Int32 → zH → Option ((Option Nat ⊕ Nat) × zH)} {j78 : Nat → Int32 → zY → Option ((Option Nat ⊕ Nat) × zY)} {g78 : Nat → Int32 → zH → Option ((Option Nat ⊕ Nat) × zH)}  (hg77 : ∀ {y0 : Nat} {y1 : Option Nat} {y2 : Int32} {kh : zH} {h : zY} {p : (Option Nat ⊕ Nat) × zY}, Rep Mm kh h → j77 y0 y1 y2 h = some p → ∃ kh1 : zH, g77 y0 y1 y2 kh = some (p.1, kh1) ∧ Rep Mm kh1 p.2) (hg78 : ∀ {y0 : Nat} {y1 : Int32} {kh : zH} {h : zY} {p : (Option Nat ⊕ Nat) × zY}, Rep Mm kh h → j78 y0 y1 h = some p → ∃ kh1 : zH, g78 y0 y1 kh = some (p.1, kh1) ∧ Rep Mm kh1 p.2)  {l0 : Nat} {l1 : Option Nat} {l2 : Int32} {s0 : Option Nat} {kh : zH} {h : zY} {p : (Option Nat ⊕ Nat) × zY} (hR : Rep Mm kh h) (hG : cb77_23 n j77 j78  l0 l1 l2 s0 h = some p) : ∃ kh1 : zH, b77_23 n g77 g78  l0 l1 l2 s0 kh = some (p.1, kh1) ∧ Rep Mm kh1 p.2 := by
  unfold cb77_23 at hG
  unfold b77_23
  replace hG := zbnd hG
  obtain ⟨x1, e1, hG⟩ := hG
  refine bE (k_gR hR e1) ?_
  replace hG := zbnd hG
  obtain ⟨a3, rfl, hG⟩ := hG
  refine bE rfl ?_
  replace hG := zbnd hG
  obtain ⟨x4, e3, hG⟩ := hG
  refine bE (k_gR hR e3) ?_
  replace hG := zbnd hG
  obtain ⟨b6, e4, hG⟩ := hG
  refine bE e4 ?_
  by_cases c5 : b6 = true
  · rw [if_pos c5] at hG
    refine iE1 c5 ?_
    replace hG := zbnd hG
    obtain ⟨x9, e6, hG⟩ := hG
    refine bE (k_gR hR e6) ?_
    replace hG := zgd_some hG
    obtain ⟨g7, hG⟩ := hG
    refine zE (k_isO hR g7) ?_
    replace hG := zbnd hG
    obtain ⟨⟨r13, h14⟩, e8, hG⟩ := hG
    have hT := k79 hR e8
    clear hR
    obtain ⟨kh9, e10, hR⟩ := hT
    refine bE e10 ?_
    rcases r13 with r13 | x15
    · replace hG := zthG hG
      refine zthEl ?_
      replace hG := zbnd hG
      obtain ⟨a17, rfl, hG⟩ := hG
      refine bE rfl ?_
      replace hG := zbnd hG
      obtain ⟨h18, e12, hG⟩ := hG
      have hT := k_pF hR e12
      clear hR
      obtain ⟨kh13, e14, hR⟩ := hT
      refine bE e14 ?_
      exact kf77_60 (n := n) (j77 := j77) (g77 := g77) (j78 := j78) (g78 := g78) hg77 hg78 n hR hG
    · replace hG := zthH hG
      refine zthEr ?_
      replace hG := zgd_some hG
      obtain ⟨g15, hG⟩ := hG
      refine zE g15 ?_
      replace hG := Option.some.inj hG
      subst hG
      exact ⟨_, rfl, hR⟩
  · rw [if_neg c5] at hG
    refine iE2 c5 ?_
    replace hG := Option.some.inj hG
    subst hG
    exact ⟨_, rfl, hR⟩
def cb77 (n : Nat) (g77 : Nat → Option Nat → Int32 → zY → Option ((Option Nat ⊕ Nat) × zY)) (g78 : Nat → Int32 → zY → Option ((Option Nat ⊕ Nat) × zY)) (y0 : Nat) (y1 : Option Nat) (y2 : Int32) (h : zY) : Option ((Option Nat ⊕ Nat) × zY) :=
  (rEq y1 (some 32)).bind fun b1 =>
  if b1 = true then
    zgd (yisO h y0 5) <|
    (g77 y0 (some 33) y2 h).bind fun p9 => zth p9 (fun r6 h7 =>
      cb77_23 n g77 g78 y0 y1 y2 r6 h7)
      (fun x8 h7 =>
      zgd (exOk x8) <| some (.inr x8, h7))
  else
    zgd (yisO h y0 5) <|
    (g78 y0 y2 h).bind fun p15 => zth p15 (fun r12 h13 =>
      cb77_23 n g77 g78 y0 y1 y2 r12 h13)
      (fun x14 h13 =>
      zgd (exOk x14) <| some (.inr x14, h13))
set_option maxRecDepth 20000 in
theorem kb77 {n : Nat} {Mm : Nat → Option zO} {j77 : Nat → Option Nat → Int32 → zY → Option ((Option Nat ⊕ Nat) × zY)} {g77 : Nat → Option Nat → Int32 → zH → Option ((Option Nat ⊕ Nat) × zH)} {j78 : Nat → Int32 → zY → Option ((Option Nat ⊕ Nat) × zY)} {g78 : Nat → Int32 → zH → Option ((Option Nat ⊕ Nat) × zH)} (hg77 : ∀ {y0 : Nat} {y1 : Option Nat} {y2 : Int32} {kh : zH} {h : zY} {p : (Option Nat ⊕ Nat) × zY}, Rep Mm kh h → j77 y0 y1 y2 h = some p → ∃ kh1 : zH, g77 y0 y1 y2 kh = some (p.1, kh1) ∧ Rep Mm kh1 p.2) (hg78 : ∀ {y0 : Nat} {y1 : Int32} {kh : zH} {h : zY} {p : (Option Nat ⊕ Nat) × zY}, Rep Mm kh h → j78 y0 y1 h = some p → ∃ kh1 : zH, g78 y0 y1 kh = some (p.1, kh1) ∧ Rep Mm kh1 p.2) {y0 : Nat} {y1 : Option Nat} {y2 : Int32} {kh : zH} {h : zY} {p : (Option Nat ⊕ Nat) × zY} (hR : Rep Mm kh h) (hG : cb77 n j77 j78 y0 y1 y2 h = some p) : ∃ kh1 : zH, b77 n g77 g78 y0 y1 y2 kh = some (p.1, kh1) ∧ Rep Mm kh1 p.2 := by
  unfold cb77 at hG
  unfold b77
  replace hG := zbnd hG
  obtain ⟨b1, e1, hG⟩ := hG
  refine bE e1 ?_
  by_cases c2 : b1 = true
  · rw [if_pos c2] at hG
    refine iE1 c2 ?_
    replace hG := zgd_some hG
    obtain ⟨g3, hG⟩ := hG
    refine zE (k_isO hR g3) ?_
    replace hG := zbnd hG
    obtain ⟨⟨r6, h7⟩, e4, hG⟩ := hG
    have hT := hg77 hR e4
    clear hR
    obtain ⟨kh5, e6, hR⟩ := hT
    refine bE e6 ?_
    rcases r6 with r6 | x8
    · replace hG := zthG hG
      refine zthEl ?_
      exact kb77_23 (n := n) (j77 := j77) (g77 := g77) (j78 := j78) (g78 := g78) hg77 hg78 hR hG
    · replace hG := zthH hG
      refine zthEr ?_
      replace hG := zgd_some hG
      obtain ⟨g7, hG⟩ := hG
      refine zE g7 ?_
      replace hG := Option.some.inj hG
      subst hG
      exact ⟨_, rfl, hR⟩
  · rw [if_neg c2] at hG
    refine iE2 c2 ?_
    replace hG := zgd_some hG
    obtain ⟨g8, hG⟩ := hG
    refine zE (k_isO hR g8) ?_
    replace hG := zbnd hG
    obtain ⟨⟨r12, h13⟩, e9, hG⟩ := hG
    have hT := hg78 hR e9
    clear hR
    obtain ⟨kh10, e11, hR⟩ := hT
    refine bE e11 ?_
    rcases r12 with r12 | x14
    · replace hG := zthG hG
      refine zthEl ?_
      exact kb77_23 (n := n) (j77 := j77) (g77 := g77) (j78 := j78) (g78 := g78) hg77 hg78 hR hG
    · replace hG := zthH hG
      refine zthEr ?_
      replace hG := zgd_some hG
      obtain ⟨g12, hG⟩ := hG
      refine zE g12 ?_
      replace hG := Option.some.inj hG
      subst hG
      exact ⟨_, rfl, hR⟩
def cb78_122 (n : Nat) (g77 : Nat → Option Nat → Int32 → zY → Option ((Option Nat ⊕ Nat) × zY)) (g78 : Nat → Int32 → zY → Option ((Option Nat ⊕ Nat) × zY))  (l0 : Nat) (l1 : Int32) (l2 : Option Nat) (h : zY) : Option ((Option Nat ⊕ Nat) × zY) :=
  zgd (yisO h l0 5) <|
  (c71 n l0 l2 h).bind fun p6 => zth p6 (fun r3 h4 =>
    zgd (yisO h4 l0 5) <|
    (c79 n l0 l2 r3 h4).bind fun p12 => zth p12 (fun r9 h10 =>
      some (.inl r9, h10))
      (fun x11 h10 =>
      zgd (exOk x11) <| some (.inr x11, h10)))
    (fun x5 h4 =>
    zgd (exOk x5) <| some (.inr x5, h4))
set_option maxRecDepth 20000 in
theorem kb78_122 {n : Nat} {Mm : Nat → Option zO} {j77 : Nat → Option Nat → Int32 → zY → Option ((Option Nat ⊕ Nat) × zY)} {g77 : Nat → Option Nat → Int32 → zH → Option ((Option Nat ⊕ Nat) × zH)} {j78 : Nat → Int32 → zY → Option ((Option Nat ⊕ Nat) × zY)} {g78 : Nat → Int32 → zH → Option ((Option Nat ⊕ Nat) × zH)}  (hg77 : ∀ {y0 : Nat} {y1 : Option Nat} {y2 : Int32} {kh : zH} {h : zY} {p : (Option Nat ⊕ Nat) × zY}, Rep Mm kh h → j77 y0 y1 y2 h = some p → ∃ kh1 : zH, g77 y0 y1 y2 kh = some (p.1, kh1) ∧ Rep Mm kh1 p.2) (hg78 : ∀ {y0 : Nat} {y1 : Int32} {kh : zH} {h : zY} {p : (Option Nat ⊕ Nat) × zY}, Rep Mm kh h → j78 y0 y1 h = some p → ∃ kh1 : zH, g78 y0 y1 kh = some (p.1, kh1) ∧ Rep Mm kh1 p.2)  {l0 : Nat} {l1 : Int32} {l2 : Option Nat}  {kh : zH} {h : zY} {p : (Option Nat ⊕ Nat) × zY} (hR : Rep Mm kh h) (hG : cb78_122 n j77 j78  l0 l1 l2 h = some p) : ∃ kh1 : zH, b78_122 n g77 g78  l0 l1 l2 kh = some (p.1, kh1) ∧ Rep Mm kh1 p.2 := by
  unfold cb78_122 at hG
  unfold b78_122
  replace hG := zgd_some hG
  obtain ⟨g1, hG⟩ := hG
  refine zE (k_isO hR g1) ?_
  replace hG := zbnd hG
  obtain ⟨⟨r3, h4⟩, e2, hG⟩ := hG
  have hT := k71 hR e2
  clear hR
  obtain ⟨kh3, e4, hR⟩ := hT
  refine bE e4 ?_
  rcases r3 with r3 | x5
  · replace hG := zthG hG
    refine zthEl ?_
    replace hG := zgd_some hG
    obtain ⟨g5, hG⟩ := hG
    refine zE (k_isO hR g5) ?_
    replace hG := zbnd hG
    obtain ⟨⟨r9, h10⟩, e6, hG⟩ := hG
    have hT := k79 hR e6
    clear hR
    obtain ⟨kh7, e8, hR⟩ := hT
    refine bE e8 ?_
    rcases r9 with r9 | x11
    · replace hG := zthG hG
      refine zthEl ?_
      replace hG := Option.some.inj hG
      subst hG
      exact ⟨_, rfl, hR⟩
    · replace hG := zthH hG
      refine zthEr ?_
      replace hG := zgd_some hG
      obtain ⟨g9, hG⟩ := hG
      refine zE g9 ?_
      replace hG := Option.some.inj hG
      subst hG
      exact ⟨_, rfl, hR⟩
  · replace hG := zthH hG
    refine zthEr ?_
    replace hG := zgd_some hG
    obtain ⟨g10, hG⟩ := hG
    refine zE g10 ?_
    replace hG := Option.some.inj hG
    subst hG
    exact ⟨_, rfl, hR⟩
def cb78_37 (n : Nat) (g77 : Nat → Option Nat → Int32 → zY → Option ((Option Nat ⊕ Nat) × zY)) (g78 : Nat → Int32 → zY → Option ((Option Nat ⊕ Nat) × zY))  (l0 : Nat) (l1 : Int32) (l2 : Option Nat) (h : zY) : Option ((Option Nat ⊕ Nat) × zY) :=
  (rEq l2 (some 8)).bind fun b1 =>
  if b1 = true then
    zgd (yisO h l0 5) <|
    (c71 n l0 (some 8) h).bind fun p9 => zth p9 (fun r6 h7 =>
      zgd (yisO h7 l0 5) <|
      (g77 l0 (some 32) (l1 + 1) h7).bind fun p15 => zth p15 (fun r12 h13 =>
        zgd (yisO h13 l0 5) <|
        (c71 n l0 (some 9) h13).bind fun p21 => zth p21 (fun r18 h19 =>
          some (.inl r12, h19))
          (fun x20 h19 =>
          zgd (exOk x20) <| some (.inr x20, h19)))
        (fun x14 h13 =>
        zgd (exOk x14) <| some (.inr x14, h13)))
      (fun x8 h7 =>
      zgd (exOk x8) <| some (.inr x8, h7))
  else
    (rEq l2 (some 31)).bind fun b22 =>
    if b22 = true then
      zgd (yisO h l0 5) <|
      (c71 n l0 (some 31) h).bind fun p30 => zth p30 (fun r27 h28 =>
        zgd (yisO h28 l0 5) <|
        (c79 n l0 (some 31) r27 h28).bind fun p36 => zth p36 (fun r33 h34 =>
          zgd (yisO h34 l0 5) <|
          (g78 l0 (l1 + 1) h34).bind fun p42 => zth p42 (fun r39 h40 =>
            r33.bind fun a43 =>
            (yP h40 a43 3 4 (va_rf r39)).bind fun h44 =>
            some (.inl (some a43), h44))
            (fun x41 h40 =>
            zgd (exOk x41) <| some (.inr x41, h40)))
          (fun x35 h34 =>
          zgd (exOk x35) <| some (.inr x35, h34)))
        (fun x29 h28 =>
        zgd (exOk x29) <| some (.inr x29, h28))
    else
      (rEq l2 (some 34)).bind fun b46 =>
      if b46 = true then
        cb78_122 n g77 g78 l0 l1 l2 h
      else
        (rEq l2 (some 35)).bind fun b49 =>
        if b49 = true then
          cb78_122 n g77 g78 l0 l1 l2 h
        else
          (rEq l2 (some 30)).bind fun b52 =>
          if b52 = true then
            zgd (yisO h l0 5) <|
            (c71 n l0 (some 30) h).bind fun p60 => zth p60 (fun r57 h58 =>
              zgd (yisO h58 l0 5) <|
              (c79 n l0 (some 30) r57 h58).bind fun p66 => zth p66 (fun r63 h64 =>
                (yR h64 l0 5 0).bind fun x67 =>
                x67.bind fun a69 =>
                (yR h64 a69 4 0).bind fun x70 =>
                zgd (yisO h64 l0 5) <|
                (c81 n l0 x70 h64).bind fun p77 => zth p77 (fun r74 h75 =>
                  r63.bind fun a78 =>
                  (yP h75 a78 3 3 (.int r74)).bind fun h79 =>
                  some (.inl (some a78), h79))
                  (fun x76 h75 =>
                  zgd (exOk x76) <| some (.inr x76, h75)))
                (fun x65 h64 =>
                zgd (exOk x65) <| some (.inr x65, h64)))
              (fun x59 h58 =>
              zgd (exOk x59) <| some (.inr x59, h58))
          else
            zgd (yisO h l0 5) <|
            (c82 n l0 h).bind fun p86 => zth p86 (fun r83 h84 =>
              r83.bind fun a87 =>
              (yR h84 a87 3 0).bind fun x88 =>
              (rEq x88 (some 42)).bind fun b90 =>
              if b90 = true then
                zgd (yisO h84 l0 5) <|
                (c83 n l0 (some a87) h84).bind fun p98 => zth p98 (fun r95 h96 =>
                  some (.inl (some a87), h96))
                  (fun x97 h96 =>
                  zgd (exOk x97) <| some (.inr x97, h96))
              else
                zgd (yisO h84 l0 5) <|
                (c85 n l0 (some a87) h84).bind fun p104 => zth p104 (fun r101 h102 =>
                  some (.inl (some a87), h102))
                  (fun x103 h102 =>
                  zgd (exOk x103) <| some (.inr x103, h102)))
              (fun x85 h84 =>
              zgd (exOk x85) <| some (.inr x85, h84))
set_option maxRecDepth 20000 in
theorem kb78_37 {n : Nat} {Mm : Nat → Option zO} {j77 : Nat → Option Nat → Int32 → zY → Option ((Option Nat ⊕ Nat) × zY)} {g77 : Nat → Option Nat → Int32 → zH → Option ((Option Nat ⊕ Nat) × zH)} {j78 : Nat → Int32 → zY → Option ((Option Nat ⊕ Nat) × zY)} {g78 : Nat → Int32 → zH → Option ((Option Nat ⊕ Nat) × zH)}  (hg77 : ∀ {y0 : Nat} {y1 : Option Nat} {y2 : Int32} {kh : zH} {h : zY} {p : (Option Nat ⊕ Nat) × zY}, Rep Mm kh h → j77 y0 y1 y2 h = some p → ∃ kh1 : zH, g77 y0 y1 y2 kh = some (p.1, kh1) ∧ Rep Mm kh1 p.2) (hg78 : ∀ {y0 : Nat} {y1 : Int32} {kh : zH} {h : zY} {p : (Option Nat ⊕ Nat) × zY}, Rep Mm kh h → j78 y0 y1 h = some p → ∃ kh1 : zH, g78 y0 y1 kh = some (p.1, kh1) ∧ Rep Mm kh1 p.2)  {l0 : Nat} {l1 : Int32} {l2 : Option Nat}  {kh : zH} {h : zY} {p : (Option Nat ⊕ Nat) × zY} (hR : Rep Mm kh h) (hG : cb78_37 n j77 j78  l0 l1 l2 h = some p) : ∃ kh1 : zH, b78_37 n g77 g78  l0 l1 l2 kh = some (p.1, kh1) ∧ Rep Mm kh1 p.2 := by
  unfold cb78_37 at hG
  unfold b78_37
  replace hG := zbnd hG
  obtain ⟨b1, e1, hG⟩ := hG
  refine bE e1 ?_
  by_cases c2 : b1 = true
  · rw [if_pos c2] at hG
    refine iE1 c2 ?_
    replace hG := zgd_some hG
    obtain ⟨g3, hG⟩ := hG
    refine zE (k_isO hR g3) ?_
    replace hG := zbnd hG
    obtain ⟨⟨r6, h7⟩, e4, hG⟩ := hG
    have hT := k71 hR e4
    clear hR
    obtain ⟨kh5, e6, hR⟩ := hT
    refine bE e6 ?_
    rcases r6 with r6 | x8
    · replace hG := zthG hG
      refine zthEl ?_
      replace hG := zgd_some hG
      obtain ⟨g7, hG⟩ := hG
      refine zE (k_isO hR g7) ?_
      replace hG := zbnd hG
      obtain ⟨⟨r12, h13⟩, e8, hG⟩ := hG
      have hT := hg77 hR e8
      clear hR
      obtain ⟨kh9, e10, hR⟩ := hT
      refine bE e10 ?_
      rcases r12 with r12 | x14
      · replace hG := zthG hG
        refine zthEl ?_
        replace hG := zgd_some hG
        obtain ⟨g11, hG⟩ := hG
        refine zE (k_isO hR g11) ?_
        replace hG := zbnd hG
        obtain ⟨⟨r18, h19⟩, e12, hG⟩ := hG
        have hT := k71 hR e12
        clear hR
        obtain ⟨kh13, e14, hR⟩ := hT
        refine bE e14 ?_
        rcases r18 with r18 | x20
        · replace hG := zthG hG
          refine zthEl ?_
          replace hG := Option.some.inj hG
          subst hG
          exact ⟨_, rfl, hR⟩
        · replace hG := zthH hG
          refine zthEr ?_
          replace hG := zgd_some hG
          obtain ⟨g15, hG⟩ := hG
          refine zE g15 ?_
          replace hG := Option.some.inj hG
          subst hG
          exact ⟨_, rfl, hR⟩
      · replace hG := zthH hG
        refine zthEr ?_
        replace hG := zgd_some hG
        obtain ⟨g16, hG⟩ := hG
        refine zE g16 ?_
        replace hG := Option.some.inj hG
        subst hG
        exact ⟨_, rfl, hR⟩
    · replace hG := zthH hG
      refine zthEr ?_
      replace hG := zgd_some hG
      obtain ⟨g17, hG⟩ := hG
      refine zE g17 ?_
      replace hG := Option.some.inj hG
      subst hG
      exact ⟨_, rfl, hR⟩
  · rw [if_neg c2] at hG
    refine iE2 c2 ?_
    replace hG := zbnd hG
    obtain ⟨b22, e18, hG⟩ := hG
    refine bE e18 ?_
    by_cases c19 : b22 = true
    · rw [if_pos c19] at hG
      refine iE1 c19 ?_
      replace hG := zgd_some hG
      obtain ⟨g20, hG⟩ := hG
      refine zE (k_isO hR g20) ?_
      replace hG := zbnd hG
      obtain ⟨⟨r27, h28⟩, e21, hG⟩ := hG
      have hT := k71 hR e21
      clear hR
      obtain ⟨kh22, e23, hR⟩ := hT
      refine bE e23 ?_
      rcases r27 with r27 | x29
      · replace hG := zthG hG
        refine zthEl ?_
        replace hG := zgd_some hG
        obtain ⟨g24, hG⟩ := hG
        refine zE (k_isO hR g24) ?_
        replace hG := zbnd hG
        obtain ⟨⟨r33, h34⟩, e25, hG⟩ := hG
        have hT := k79 hR e25
        clear hR
        obtain ⟨kh26, e27, hR⟩ := hT
        refine bE e27 ?_
        rcases r33 with r33 | x35
        · replace hG := zthG hG
          refine zthEl ?_
          replace hG := zgd_some hG
          obtain ⟨g28, hG⟩ := hG
          refine zE (k_isO hR g28) ?_
          replace hG := zbnd hG
          obtain ⟨⟨r39, h40⟩, e29, hG⟩ := hG
          have hT := hg78 hR e29
          clear hR
          obtain ⟨kh30, e31, hR⟩ := hT
          refine bE e31 ?_
          rcases r39 with r39 | x41
          · replace hG := zthG hG
            refine zthEl ?_
            replace hG := zbnd hG
            obtain ⟨a43, rfl, hG⟩ := hG
            refine bE rfl ?_
            replace hG := zbnd hG
            obtain ⟨h44, e33, hG⟩ := hG
            have hT := k_pF hR e33
            clear hR
            obtain ⟨kh34, e35, hR⟩ := hT
            refine bE e35 ?_
            replace hG := Option.some.inj hG
            subst hG
            exact ⟨_, rfl, hR⟩
          · replace hG := zthH hG
            refine zthEr ?_
            replace hG := zgd_some hG
            obtain ⟨g36, hG⟩ := hG
            refine zE g36 ?_
            replace hG := Option.some.inj hG
            subst hG
            exact ⟨_, rfl, hR⟩
        · replace hG := zthH hG
          refine zthEr ?_
          replace hG := zgd_some hG
          obtain ⟨g37, hG⟩ := hG
          refine zE g37 ?_
          replace hG := Option.some.inj hG
          subst hG
          exact ⟨_, rfl, hR⟩
      · replace hG := zthH hG
        refine zthEr ?_
        replace hG := zgd_some hG
        obtain ⟨g38, hG⟩ := hG
        refine zE g38 ?_
        replace hG := Option.some.inj hG
        subst hG
        exact ⟨_, rfl, hR⟩
    · rw [if_neg c19] at hG
      refine iE2 c19 ?_
      replace hG := zbnd hG
      obtain ⟨b46, e39, hG⟩ := hG
      refine bE e39 ?_
      by_cases c40 : b46 = true
      · rw [if_pos c40] at hG
        refine iE1 c40 ?_
        exact kb78_122 (n := n) (j77 := j77) (g77 := g77) (j78 := j78) (g78 := g78) hg77 hg78 hR hG
      · rw [if_neg c40] at hG
        refine iE2 c40 ?_
        replace hG := zbnd hG
        obtain ⟨b49, e41, hG⟩ := hG
        refine bE e41 ?_
        by_cases c42 : b49 = true
        · rw [if_pos c42] at hG
          refine iE1 c42 ?_
          exact kb78_122 (n := n) (j77 := j77) (g77 := g77) (j78 := j78) (g78 := g78) hg77 hg78 hR hG
        · rw [if_neg c42] at hG
          refine iE2 c42 ?_
          replace hG := zbnd hG
          obtain ⟨b52, e43, hG⟩ := hG
          refine bE e43 ?_
          by_cases c44 : b52 = true
          · rw [if_pos c44] at hG
            refine iE1 c44 ?_
            replace hG := zgd_some hG
            obtain ⟨g45, hG⟩ := hG
            refine zE (k_isO hR g45) ?_
            replace hG := zbnd hG
            obtain ⟨⟨r57, h58⟩, e46, hG⟩ := hG
            have hT := k71 hR e46
            clear hR
            obtain ⟨kh47, e48, hR⟩ := hT
            refine bE e48 ?_
            rcases r57 with r57 | x59
            · replace hG := zthG hG
              refine zthEl ?_
              replace hG := zgd_some hG
              obtain ⟨g49, hG⟩ := hG
              refine zE (k_isO hR g49) ?_
              replace hG := zbnd hG
              obtain ⟨⟨r63, h64⟩, e50, hG⟩ := hG
              have hT := k79 hR e50
              clear hR
              obtain ⟨kh51, e52, hR⟩ := hT
              refine bE e52 ?_
              rcases r63 with r63 | x65
              · replace hG := zthG hG
                refine zthEl ?_
                replace hG := zbnd hG
                obtain ⟨x67, e53, hG⟩ := hG
                refine bE (k_gR hR e53) ?_
                replace hG := zbnd hG
                obtain ⟨a69, rfl, hG⟩ := hG
                refine bE rfl ?_
                replace hG := zbnd hG
                obtain ⟨x70, e55, hG⟩ := hG
                refine bE (k_gR hR e55) ?_
                replace hG := zgd_some hG
                obtain ⟨g56, hG⟩ := hG
                refine zE (k_isO hR g56) ?_
                replace hG := zbnd hG
                obtain ⟨⟨r74, h75⟩, e57, hG⟩ := hG
                have hT := k81 hR e57
                clear hR
                obtain ⟨kh58, e59, hR⟩ := hT
                refine bE e59 ?_
                rcases r74 with r74 | x76
                · replace hG := zthG hG
                  refine zthEl ?_
                  replace hG := zbnd hG
                  obtain ⟨a78, rfl, hG⟩ := hG
                  refine bE rfl ?_
                  replace hG := zbnd hG
                  obtain ⟨h79, e61, hG⟩ := hG
                  have hT := k_pF hR e61
                  clear hR
                  obtain ⟨kh62, e63, hR⟩ := hT
                  refine bE e63 ?_
                  replace hG := Option.some.inj hG
                  subst hG
                  exact ⟨_, rfl, hR⟩
                · replace hG := zthH hG
                  refine zthEr ?_
                  replace hG := zgd_some hG
                  obtain ⟨g64, hG⟩ := hG
                  refine zE g64 ?_
                  replace hG := Option.some.inj hG
                  subst hG
                  exact ⟨_, rfl, hR⟩
              · replace hG := zthH hG
                refine zthEr ?_
                replace hG := zgd_some hG
                obtain ⟨g65, hG⟩ := hG
                refine zE g65 ?_
                replace hG := Option.some.inj hG
                subst hG
                exact ⟨_, rfl, hR⟩
            · replace hG := zthH hG
              refine zthEr ?_
              replace hG := zgd_some hG
              obtain ⟨g66, hG⟩ := hG
              refine zE g66 ?_
              replace hG := Option.some.inj hG
              subst hG
              exact ⟨_, rfl, hR⟩
          · rw [if_neg c44] at hG
            refine iE2 c44 ?_
            replace hG := zgd_some hG
            obtain ⟨g67, hG⟩ := hG
            refine zE (k_isO hR g67) ?_
            replace hG := zbnd hG
            obtain ⟨⟨r83, h84⟩, e68, hG⟩ := hG
            have hT := k82 hR e68
            clear hR
            obtain ⟨kh69, e70, hR⟩ := hT
            refine bE e70 ?_
            rcases r83 with r83 | x85
            · replace hG := zthG hG
              refine zthEl ?_
              replace hG := zbnd hG
              obtain ⟨a87, rfl, hG⟩ := hG
              refine bE rfl ?_
              replace hG := zbnd hG
              obtain ⟨x88, e72, hG⟩ := hG
              refine bE (k_gR hR e72) ?_
              replace hG := zbnd hG
              obtain ⟨b90, e73, hG⟩ := hG
              refine bE e73 ?_
              by_cases c74 : b90 = true
              · rw [if_pos c74] at hG
                refine iE1 c74 ?_
                replace hG := zgd_some hG
                obtain ⟨g75, hG⟩ := hG
                refine zE (k_isO hR g75) ?_
                replace hG := zbnd hG
                obtain ⟨⟨r95, h96⟩, e76, hG⟩ := hG
                have hT := k83 hR e76
                clear hR
                obtain ⟨kh77, e78, hR⟩ := hT
                refine bE e78 ?_
                rcases r95 with r95 | x97
                · replace hG := zthG hG
                  refine zthEl ?_
                  replace hG := Option.some.inj hG
                  subst hG
                  exact ⟨_, rfl, hR⟩
                · replace hG := zthH hG
                  refine zthEr ?_
                  replace hG := zgd_some hG
                  obtain ⟨g79, hG⟩ := hG
                  refine zE g79 ?_
                  replace hG := Option.some.inj hG
                  subst hG
                  exact ⟨_, rfl, hR⟩
              · rw [if_neg c74] at hG
                refine iE2 c74 ?_
                replace hG := zgd_some hG
                obtain ⟨g80, hG⟩ := hG
                refine zE (k_isO hR g80) ?_
                replace hG := zbnd hG
                obtain ⟨⟨r101, h102⟩, e81, hG⟩ := hG
                have hT := k85 hR e81
                clear hR
                obtain ⟨kh82, e83, hR⟩ := hT
                refine bE e83 ?_
                rcases r101 with r101 | x103
                · replace hG := zthG hG
                  refine zthEl ?_
                  replace hG := Option.some.inj hG
                  subst hG
                  exact ⟨_, rfl, hR⟩
                · replace hG := zthH hG
                  refine zthEr ?_
                  replace hG := zgd_some hG
                  obtain ⟨g84, hG⟩ := hG
                  refine zE g84 ?_
                  replace hG := Option.some.inj hG
                  subst hG
                  exact ⟨_, rfl, hR⟩
            · replace hG := zthH hG
              refine zthEr ?_
              replace hG := zgd_some hG
              obtain ⟨g85, hG⟩ := hG
              refine zE g85 ?_
              replace hG := Option.some.inj hG
              subst hG
              exact ⟨_, rfl, hR⟩
def cb78_22 (n : Nat) (g77 : Nat → Option Nat → Int32 → zY → Option ((Option Nat ⊕ Nat) × zY)) (g78 : Nat → Int32 → zY → Option ((Option Nat ⊕ Nat) × zY))  (l0 : Nat) (l1 : Int32) (l2 : Option Nat) (h : zY) : Option ((Option Nat ⊕ Nat) × zY) :=
  if l1 < 20 then
    cb78_37 n g77 g78 l0 l1 l2 h
  else
    (yR h l0 5 3).bind fun x2 =>
    zgd (yisO h l0 5) <|
    (c70 n l0 5 x2 h).bind fun p9 => zth p9 (fun r6 h7 =>
      cb78_37 n g77 g78 l0 l1 l2 h7)
      (fun x8 h7 =>
      zgd (exOk x8) <| some (.inr x8, h7))
set_option maxRecDepth 20000 in
theorem kb78_22 {n : Nat} {Mm : Nat → Option zO} {j77 : Nat → Option Nat → Int32 → zY → Option ((Option Nat ⊕ Nat) × zY)} {g77 : Nat → Option Nat → Int32 → zH → Option ((Option Nat ⊕ Nat) × zH)} {j78 : Nat → Int32 → zY → Option ((Option Nat ⊕ Nat) × zY)} {g78 : Nat → Int32 → zH → Option ((Option Nat ⊕ Nat) × zH)}  (hg77 : ∀ {y0 : Nat} {y1 : Option Nat} {y2 : Int32} {kh : zH} {h : zY} {p : (Option Nat ⊕ Nat) × zY}, Rep Mm kh h → j77 y0 y1 y2 h = some p → ∃ kh1 : zH, g77 y0 y1 y2 kh = some (p.1, kh1) ∧ Rep Mm kh1 p.2) (hg78 : ∀ {y0 : Nat} {y1 : Int32} {kh : zH} {h : zY} {p : (Option Nat ⊕ Nat) × zY}, Rep Mm kh h → j78 y0 y1 h = some p → ∃ kh1 : zH, g78 y0 y1 kh = some (p.1, kh1) ∧ Rep Mm kh1 p.2)  {l0 : Nat} {l1 : Int32} {l2 : Option Nat}  {kh : zH} {h : zY} {p : (Option Nat ⊕ Nat) × zY} (hR : Rep Mm kh h) (hG : cb78_22 n j77 j78  l0 l1 l2 h = some p) : ∃ kh1 : zH, b78_22 n g77 g78  l0 l1 l2 kh = some (p.1, kh1) ∧ Rep Mm kh1 p.2 := by
  unfold cb78_22 at hG
  unfold b78_22
  by_cases c1 : l1 < 20
  · rw [if_pos c1] at hG
    refine iE1 c1 ?_
    exact kb78_37 (n := n) (j77 := j77) (g77 := g77) (j78 := j78) (g78 := g78) hg77 hg78 hR hG
  · rw [if_neg c1] at hG
    refine iE2 c1 ?_
    replace hG := zbnd hG
    obtain ⟨x2, e2, hG⟩ := hG
    refine bE (k_gR hR e2) ?_
    replace hG := zgd_some hG
    obtain ⟨g3, hG⟩ := hG
    refine zE (k_isO hR g3) ?_
    replace hG := zbnd hG
    obtain ⟨⟨r6, h7⟩, e4, hG⟩ := hG
    have hT := k70 hR e4
    clear hR
    obtain ⟨kh5, e6, hR⟩ := hT
    refine bE e6 ?_
    rcases r6 with r6 | x8
    · replace hG := zthG hG
      refine zthEl ?_
      exact kb78_37 (n := n) (j77 := j77) (g77 := g77) (j78 := j78) (g78 := g78) hg77 hg78 hR hG
    · replace hG := zthH hG
      refine zthEr ?_
      replace hG := zgd_some hG
      obtain ⟨g7, hG⟩ := hG
      refine zE g7 ?_
      replace hG := Option.some.inj hG
      subst hG
      exact ⟨_, rfl, hR⟩
def cb78 (n : Nat) (g77 : Nat → Option Nat → Int32 → zY → Option ((Option Nat ⊕ Nat) × zY)) (g78 : Nat → Int32 → zY → Option ((Option Nat ⊕ Nat) × zY)) (y0 : Nat) (y1 : Int32) (h : zY) : Option ((Option Nat ⊕ Nat) × zY) :=
  (yR h y0 5 3).bind fun x1 =>
  x1.bind fun a3 =>
  (yR h a3 9 0).bind fun x4 =>
  (rEq x4 (some 8)).bind fun b6 =>
  if b6 = true then
    cb78_22 n g77 g78 y0 y1 x4 h
  else
    (rEq x4 (some 31)).bind fun b9 =>
    if b9 = true then
      cb78_22 n g77 g78 y0 y1 x4 h
    else
      cb78_37 n g77 g78 y0 y1 x4 h
set_option maxRecDepth 20000 in
theorem kb78 {n : Nat} {Mm : Nat → Option zO} {j77 : Nat → Option Nat → Int32 → zY → Option ((Option Nat ⊕ Nat) × zY)} {g77 : Nat → Option Nat → Int32 → zH → Option ((Option Nat ⊕ Nat) × zH)} {j78 : Nat → Int32 → zY → Option ((Option Nat ⊕ Nat) × zY)} {g78 : Nat → Int32 → zH → Option ((Option Nat ⊕ Nat) × zH)} (hg77 : ∀ {y0 : Nat} {y1 : Option Nat} {y2 : Int32} {kh : zH} {h : zY} {p : (Option Nat ⊕ Nat) × zY}, Rep Mm kh h → j77 y0 y1 y2 h = some p → ∃ kh1 : zH, g77 y0 y1 y2 kh = some (p.1, kh1) ∧ Rep Mm kh1 p.2) (hg78 : ∀ {y0 : Nat} {y1 : Int32} {kh : zH} {h : zY} {p : (Option Nat ⊕ Nat) × zY}, Rep Mm kh h → j78 y0 y1 h = some p → ∃ kh1 : zH, g78 y0 y1 kh = some (p.1, kh1) ∧ Rep Mm kh1 p.2) {y0 : Nat} {y1 : Int32} {kh : zH} {h : zY} {p : (Option Nat ⊕ Nat) × zY} (hR : Rep Mm kh h) (hG : cb78 n j77 j78 y0 y1 h = some p) : ∃ kh1 : zH, b78 n g77 g78 y0 y1 kh = some (p.1, kh1) ∧ Rep Mm kh1 p.2 := by
  unfold cb78 at hG
  unfold b78
  replace hG := zbnd hG
  obtain ⟨x1, e1, hG⟩ := hG
  refine bE (k_gR hR e1) ?_
  replace hG := zbnd hG
  obtain ⟨a3, rfl, hG⟩ := hG
  refine bE rfl ?_
  replace hG := zbnd hG
  obtain ⟨x4, e3, hG⟩ := hG
  refine bE (k_gR hR e3) ?_
  replace hG := zbnd hG
  obtain ⟨b6, e4, hG⟩ := hG
  refine bE e4 ?_
  by_cases c5 : b6 = true
  · rw [if_pos c5] at hG
    refine iE1 c5 ?_
    exact kb78_22 (n := n) (j77 := j77) (g77 := g77) (j78 := j78) (g78 := g78) hg77 hg78 hR hG
  · rw [if_neg c5] at hG
    refine iE2 c5 ?_
    replace hG := zbnd hG
    obtain ⟨b9, e6, hG⟩ := hG
    refine bE e6 ?_
    by_cases c7 : b9 = true
    · rw [if_pos c7] at hG
      refine iE1 c7 ?_
      exact kb78_22 (n := n) (j77 := j77) (g77 := g77) (j78 := j78) (g78 := g78) hg77 hg78 hR hG
    · rw [if_neg c7] at hG
      refine iE2 c7 ?_
      exact kb78_37 (n := n) (j77 := j77) (g77 := g77) (j78 := j78) (g78 := g78) hg77 hg78 hR hG
def cRP (n k : Nat) : ((Nat → Option Nat → Int32 → zY → Option ((Option Nat ⊕ Nat) × zY)) × (Nat → Int32 → zY → Option ((Option Nat ⊕ Nat) × zY))) := Nat.rec ((fun _ _ _ _ => none), (fun _ _ _ => none)) (fun _ ih => (cb77 n ih.1 ih.2, cb78 n ih.1 ih.2)) k
def c77 (n k : Nat) : (Nat → Option Nat → Int32 → zY → Option ((Option Nat ⊕ Nat) × zY)) := (cRP n k).1
def c78 (n k : Nat) : (Nat → Int32 → zY → Option ((Option Nat ⊕ Nat) × zY)) := (cRP n k).2
theorem kRP {n : Nat} {Mm : Nat → Option zO} (k : Nat) : (∀ {y0 : Nat} {y1 : Option Nat} {y2 : Int32} {kh : zH} {h : zY} {p : (Option Nat ⊕ Nat) × zY}, Rep Mm kh h → c77 n k y0 y1 y2 h = some p → ∃ kh1 : zH, f77 n k y0 y1 y2 kh = some (p.1, kh1) ∧ Rep Mm kh1 p.2) ∧ (∀ {y0 : Nat} {y1 : Int32} {kh : zH} {h : zY} {p : (Option Nat ⊕ Nat) × zY}, Rep Mm kh h → c78 n k y0 y1 h = some p → ∃ kh1 : zH, f78 n k y0 y1 kh = some (p.1, kh1) ∧ Rep Mm kh1 p.2) := by
  induction k with
  | zero =>
    refine ⟨?_, ?_⟩
    · intros; rename_i y0 y1 y2 kh h p hR hG; cases hG
    · intros; rename_i y0 y1 kh h p hR hG; cases hG
  | succ k ih =>
    refine ⟨?_, ?_⟩
    · intros; rename_i y0 y1 y2 kh h p hR hG; exact kb77 (n := n) (j77 := c77 n k) (g77 := f77 n k) (j78 := c78 n k) (g78 := f78 n k) ih.1 ih.2 hR hG
    · intros; rename_i y0 y1 kh h p hR hG; exact kb78 (n := n) (j77 := c77 n k) (g77 := f77 n k) (j78 := c78 n k) (g78 := f78 n k) ih.1 ih.2 hR hG
theorem k77 {n : Nat} {Mm : Nat → Option zO} (k : Nat) : ∀ {y0 : Nat} {y1 : Option Nat} {y2 : Int32} {kh : zH} {h : zY} {p : (Option Nat ⊕ Nat) × zY}, Rep Mm kh h → c77 n k y0 y1 y2 h = some p → ∃ kh1 : zH, f77 n k y0 y1 y2 kh = some (p.1, kh1) ∧ Rep Mm kh1 p.2 := (kRP k).1
theorem k78 {n : Nat} {Mm : Nat → Option zO} (k : Nat) : ∀ {y0 : Nat} {y1 : Int32} {kh : zH} {h : zY} {p : (Option Nat ⊕ Nat) × zY}, Rep Mm kh h → c78 n k y0 y1 h = some p → ∃ kh1 : zH, f78 n k y0 y1 kh = some (p.1, kh1) ∧ Rep Mm kh1 p.2 := (kRP k).2
def c67 (n : Nat)  (y0 : Nat) (h : zY) : Option ((Unit ⊕ Nat) × zY) :=
  (yR h y0 5 0).bind fun x1 =>
  x1.bind fun a3 =>
  (yR h a3 4 3).bind fun x4 =>
  x4.bind fun a6 =>
  zgd (yisO h a6 14) <|
  (c68 n a6 h).bind fun p9 =>
  zgd (yisO p9.2 y0 5) <|
  (c69 n y0 p9.1 12 p9.2).bind fun p15 => zth p15 (fun r12 h13 =>
    (yR h13 y0 5 0).bind fun x16 =>
    x16.bind fun a18 =>
    (yR h13 a18 4 0).bind fun x19 =>
    zgd (yisO h13 y0 5) <|
    (c72 n y0 x19 h13).bind fun p26 => zth p26 (fun r23 h24 =>
      zgd (yisO h24 y0 5) <|
      (c71 n y0 (some 13) h24).bind fun p32 => zth p32 (fun r29 h30 =>
        zgd (yisO h30 y0 5) <|
        (c77 n 64 y0 (some 32) 0 h30).bind fun p38 => zth p38 (fun r35 h36 =>
          zgd (yisO h36 y0 5) <|
          (c71 n y0 (some 10) h36).bind fun p44 => zth p44 (fun r41 h42 =>
            (yR h42 y0 5 0).bind fun x45 =>
            x45.bind fun a47 =>
            (yR h42 a47 4 0).bind fun x48 =>
            x48.bind fun a50 =>
            zgd (yisO h42 a50 14) <|
            (c86 n a50 r23 h42).bind fun p53 =>
            (yR p53.2 y0 5 0).bind fun x54 =>
            x54.bind fun a56 =>
            (yR p53.2 a56 4 3).bind fun x57 =>
            x57.bind fun a59 =>
            zgd (yisO p53.2 a59 14) <|
            (c86 n a59 r35 p53.2).bind fun p62 =>
            some (.inl (), p62.2))
            (fun x43 h42 =>
            zgd (exOk x43) <| some (.inr x43, h42)))
          (fun x37 h36 =>
          zgd (exOk x37) <| some (.inr x37, h36)))
        (fun x31 h30 =>
        zgd (exOk x31) <| some (.inr x31, h30)))
      (fun x25 h24 =>
      zgd (exOk x25) <| some (.inr x25, h24)))
    (fun x14 h13 =>
    zgd (exOk x14) <| some (.inr x14, h13))
set_option maxRecDepth 20000 in
theorem k67 {n : Nat} {Mm : Nat → Option zO}   {y0 : Nat} {kh : zH} {h : zY} {p : (Unit ⊕ Nat) × zY} (hR : Rep Mm kh h) (hG : c67 n  y0 h = some p) : ∃ kh1 : zH, f67 n  y0 kh = some (p.1, kh1) ∧ Rep Mm kh1 p.2 := by
  unfold c67 at hG
  unfold f67
  replace hG := zbnd hG
  obtain ⟨x1, e1, hG⟩ := hG
  refine bE (k_gR hR e1) ?_
  replace hG := zbnd hG
  obtain ⟨a3, rfl, hG⟩ := hG
  refine bE rfl ?_
  replace hG := zbnd hG
  obtain ⟨x4, e3, hG⟩ := hG
  refine bE (k_gR hR e3) ?_
  replace hG := zbnd hG
  obtain ⟨a6, rfl, hG⟩ := hG
  refine bE rfl ?_
  replace hG := zgd_some hG
  obtain ⟨g5, hG⟩ := hG
  refine zE (k_isO hR g5) ?_
  replace hG := zbnd hG
  obtain ⟨p9, e6, hG⟩ := hG
  have hT := k68 hR e6
  clear hR
  obtain ⟨kh7, e8, hR⟩ := hT
  refine bE e8 ?_
  replace hG := zgd_some hG
  obtain ⟨g9, hG⟩ := hG
  refine zE (k_isO hR g9) ?_
  replace hG := zbnd hG
  obtain ⟨⟨r12, h13⟩, e10, hG⟩ := hG
  have hT := k69 hR e10
  clear hR
  obtain ⟨kh11, e12, hR⟩ := hT
  refine bE e12 ?_
  rcases r12 with r12 | x14
  · replace hG := zthG hG
    refine zthEl ?_
    replace hG := zbnd hG
    obtain ⟨x16, e13, hG⟩ := hG
    refine bE (k_gR hR e13) ?_
    replace hG := zbnd hG
    obtain ⟨a18, rfl, hG⟩ := hG
    refine bE rfl ?_
    replace hG := zbnd hG
    obtain ⟨x19, e15, hG⟩ := hG
    refine bE (k_gR hR e15) ?_
    replace hG := zgd_some hG
    obtain ⟨g16, hG⟩ := hG
    refine zE (k_isO hR g16) ?_
    replace hG := zbnd hG
    obtain ⟨⟨r23, h24⟩, e17, hG⟩ := hG
    have hT := k72 hR e17
    clear hR
    obtain ⟨kh18, e19, hR⟩ := hT
    refine bE e19 ?_
    rcases r23 with r23 | x25
    · replace hG := zthG hG
      refine zthEl ?_
      replace hG := zgd_some hG
      obtain ⟨g20, hG⟩ := hG
      refine zE (k_isO hR g20) ?_
      replace hG := zbnd hG
      obtain ⟨⟨r29, h30⟩, e21, hG⟩ := hG
      have hT := k71 hR e21
      clear hR
      obtain ⟨kh22, e23, hR⟩ := hT
      refine bE e23 ?_
      rcases r29 with r29 | x31
      · replace hG := zthG hG
        refine zthEl ?_
        replace hG := zgd_some hG
        obtain ⟨g24, hG⟩ := hG
        refine zE (k_isO hR g24) ?_
        replace hG := zbnd hG
        obtain ⟨⟨r35, h36⟩, e25, hG⟩ := hG
        have hT := k77 64 hR e25
        clear hR
        obtain ⟨kh26, e27, hR⟩ := hT
        refine bE e27 ?_
        rcases r35 with r35 | x37
        · replace hG := zthG hG
          refine zthEl ?_
          replace hG := zgd_some hG
          obtain ⟨g28, hG⟩ := hG
          refine zE (k_isO hR g28) ?_
          replace hG := zbnd hG
          obtain ⟨⟨r41, h42⟩, e29, hG⟩ := hG
          have hT := k71 hR e29
          clear hR
          obtain ⟨kh30, e31, hR⟩ := hT
          refine bE e31 ?_
          rcases r41 with r41 | x43
          · replace hG := zthG hG
            refine zthEl ?_
            replace hG := zbnd hG
            obtain ⟨x45, e32, hG⟩ := hG
            refine bE (k_gR hR e32) ?_
            replace hG := zbnd hG
            obtain ⟨a47, rfl, hG⟩ := hG
            refine bE rfl ?_
            replace hG := zbnd hG
            obtain ⟨x48, e34, hG⟩ := hG
            refine bE (k_gR hR e34) ?_
            replace hG := zbnd hG
            obtain ⟨a50, rfl, hG⟩ := hG
            refine bE rfl ?_
            replace hG := zgd_some hG
            obtain ⟨g36, hG⟩ := hG
            refine zE (k_isO hR g36) ?_
            replace hG := zbnd hG
            obtain ⟨p53, e37, hG⟩ := hG
            have hT := k86 hR e37
            clear hR
            obtain ⟨kh38, e39, hR⟩ := hT
            refine bE e39 ?_
            replace hG := zbnd hG
            obtain ⟨x54, e40, hG⟩ := hG
            refine bE (k_gR hR e40) ?_
            replace hG := zbnd hG
            obtain ⟨a56, rfl, hG⟩ := hG
            refine bE rfl ?_
            replace hG := zbnd hG
            obtain ⟨x57, e42, hG⟩ := hG
            refine bE (k_gR hR e42) ?_
            replace hG := zbnd hG
            obtain ⟨a59, rfl, hG⟩ := hG
            refine bE rfl ?_
            replace hG := zgd_some hG
            obtain ⟨g44, hG⟩ := hG
            refine zE (k_isO hR g44) ?_
            replace hG := zbnd hG
            obtain ⟨p62, e45, hG⟩ := hG
            have hT := k86 hR e45
            clear hR
            obtain ⟨kh46, e47, hR⟩ := hT
            refine bE e47 ?_
            replace hG := Option.some.inj hG
            subst hG
            exact ⟨_, rfl, hR⟩
          · replace hG := zthH hG
            refine zthEr ?_
            replace hG := zgd_some hG
            obtain ⟨g48, hG⟩ := hG
            refine zE g48 ?_
            replace hG := Option.some.inj hG
            subst hG
            exact ⟨_, rfl, hR⟩
        · replace hG := zthH hG
          refine zthEr ?_
          replace hG := zgd_some hG
          obtain ⟨g49, hG⟩ := hG
          refine zE g49 ?_
          replace hG := Option.some.inj hG
          subst hG
          exact ⟨_, rfl, hR⟩
      · replace hG := zthH hG
        refine zthEr ?_
        replace hG := zgd_some hG
        obtain ⟨g50, hG⟩ := hG
        refine zE g50 ?_
        replace hG := Option.some.inj hG
        subst hG
        exact ⟨_, rfl, hR⟩
    · replace hG := zthH hG
      refine zthEr ?_
      replace hG := zgd_some hG
      obtain ⟨g51, hG⟩ := hG
      refine zE g51 ?_
      replace hG := Option.some.inj hG
      subst hG
      exact ⟨_, rfl, hR⟩
  · replace hG := zthH hG
    refine zthEr ?_
    replace hG := zgd_some hG
    obtain ⟨g52, hG⟩ := hG
    refine zE g52 ?_
    replace hG := Option.some.inj hG
    subst hG
    exact ⟨_, rfl, hR⟩
def c92 (n : Nat)  (y0 : Nat) (y1 : Option Nat) (y2 : Option Nat) (y3 : Int32) (h : zY) : Option (Unit × zY) :=
  (yP h y0 7 4 (.int 0)).bind fun h1 =>
  (yP h1 y0 7 0 (va_rf y1)).bind fun h3 =>
  (yP h3 y0 7 1 (va_rf y2)).bind fun h5 =>
  (c22 n 0 y3 h5).bind fun p8 =>
  (yA p8.2 0 p8.1).bind fun h9 =>
  (yP h9 y0 7 2 (.ref p8.2.2.1)).bind fun h11 =>
  (c22 n 0 y3 h11).bind fun p14 =>
  (yA p14.2 0 p14.1).bind fun h15 =>
  (yP h15 y0 7 3 (.ref p14.2.2.1)).bind fun h17 =>
  some ((), h17)
set_option maxRecDepth 20000 in
theorem k92 {n : Nat} {Mm : Nat → Option zO}   {y0 : Nat} {y1 : Option Nat} {y2 : Option Nat} {y3 : Int32} {kh : zH} {h : zY} {p : Unit × zY} (hR : Rep Mm kh h) (hG : c92 n  y0 y1 y2 y3 h = some p) : ∃ kh1 : zH, f92 n  y0 y1 y2 y3 kh = some (p.1, kh1) ∧ Rep Mm kh1 p.2 := by
  unfold c92 at hG
  unfold f92
  replace hG := zbnd hG
  obtain ⟨h1, e1, hG⟩ := hG
  have hT := k_pF hR e1
  clear hR
  obtain ⟨kh2, e3, hR⟩ := hT
  refine bE e3 ?_
  replace hG := zbnd hG
  obtain ⟨h3, e4, hG⟩ := hG
  have hT := k_pF hR e4
  clear hR
  obtain ⟨kh5, e6, hR⟩ := hT
  refine bE e6 ?_
  replace hG := zbnd hG
  obtain ⟨h5, e7, hG⟩ := hG
  have hT := k_pF hR e7
  clear hR
  obtain ⟨kh8, e9, hR⟩ := hT
  refine bE e9 ?_
  replace hG := zbnd hG
  obtain ⟨p8, e10, hG⟩ := hG
  have hT := k22 hR e10
  clear hR
  obtain ⟨kh11, e12, hR⟩ := hT
  refine bE e12 ?_
  try rw [rep_n hR] at hG
  replace hG := zbnd hG
  obtain ⟨h9, e13, hG⟩ := hG
  have hT := k_nA hR e13
  clear hR
  obtain ⟨kh14, e15, hR⟩ := hT
  refine bE e15 ?_
  replace hG := zbnd hG
  obtain ⟨h11, e16, hG⟩ := hG
  have hT := k_pF hR e16
  clear hR
  obtain ⟨kh17, e18, hR⟩ := hT
  refine bE e18 ?_
  replace hG := zbnd hG
  obtain ⟨p14, e19, hG⟩ := hG
  have hT := k22 hR e19
  clear hR
  obtain ⟨kh20, e21, hR⟩ := hT
  refine bE e21 ?_
  try rw [rep_n hR] at hG
  replace hG := zbnd hG
  obtain ⟨h15, e22, hG⟩ := hG
  have hT := k_nA hR e22
  clear hR
  obtain ⟨kh23, e24, hR⟩ := hT
  refine bE e24 ?_
  replace hG := zbnd hG
  obtain ⟨h17, e25, hG⟩ := hG
  have hT := k_pF hR e25
  clear hR
  obtain ⟨kh26, e27, hR⟩ := hT
  refine bE e27 ?_
  replace hG := Option.some.inj hG
  subst hG
  exact ⟨_, rfl, hR⟩
def c91 (n : Nat)  (y0 : Nat) (y1 : Int32) (h : zY) : Option (Unit × zY) :=
  (yP h y0 0 0 (.ref 16)).bind fun h1 =>
  (c6 n h1.2.1 (yN h1 14 3)).bind fun p4 =>
  (yP p4.2 y0 0 1 (.ref h1.2.1)).bind fun h5 =>
  (c6 n h5.2.1 (yN h5 14 3)).bind fun p8 =>
  (yP p8.2 y0 0 2 (.ref h5.2.1)).bind fun h9 =>
  (c6 n h9.2.1 (yN h9 14 3)).bind fun p12 =>
  (yP p12.2 y0 0 3 (.ref h9.2.1)).bind fun h13 =>
  (yA h13 0 4).bind fun h15 =>
  (yP h15 y0 0 4 (.ref h13.2.1)).bind fun h17 =>
  (yA h17 0 4).bind fun h19 =>
  (yP h19 y0 0 5 (.ref h17.2.1)).bind fun h21 =>
  (c92 n h21.2.1 none none 1 (yN h21 7 5)).bind fun p24 =>
  (yP p24.2 y0 0 6 (.ref h21.2.1)).bind fun h25 =>
  (yP h25 y0 0 7 (.int 0)).bind fun h27 =>
  (yP h27 y0 0 8 (.int y1)).bind fun h29 =>
  (yP h29 y0 0 9 (.int y1)).bind fun h31 =>
  some ((), h31)
set_option maxRecDepth 20000 in
theorem k91 {n : Nat} {Mm : Nat → Option zO}   {y0 : Nat} {y1 : Int32} {kh : zH} {h : zY} {p : Unit × zY} (hR : Rep Mm kh h) (hG : c91 n  y0 y1 h = some p) : ∃ kh1 : zH, f91 n  y0 y1 kh = some (p.1, kh1) ∧ Rep Mm kh1 p.2 := by
  unfold c91 at hG
  unfold f91
  replace hG := zbnd hG
  obtain ⟨h1, e1, hG⟩ := hG
  have hT := k_pF hR e1
  clear hR
  obtain ⟨kh2, e3, hR⟩ := hT
  refine bE e3 ?_
  try rw [rep_n hR] at hG
  replace hR := k_nO (ci := 14) (n := 3) hR
  replace hG := zbnd hG
  obtain ⟨p4, e4, hG⟩ := hG
  have hT := k6 hR e4
  clear hR
  obtain ⟨kh5, e6, hR⟩ := hT
  refine bE e6 ?_
  replace hG := zbnd hG
  obtain ⟨h5, e7, hG⟩ := hG
  have hT := k_pF hR e7
  clear hR
  obtain ⟨kh8, e9, hR⟩ := hT
  refine bE e9 ?_
  try rw [rep_n hR] at hG
  replace hR := k_nO (ci := 14) (n := 3) hR
  replace hG := zbnd hG
  obtain ⟨p8, e10, hG⟩ := hG
  have hT := k6 hR e10
  clear hR
  obtain ⟨kh11, e12, hR⟩ := hT
  refine bE e12 ?_
  replace hG := zbnd hG
  obtain ⟨h9, e13, hG⟩ := hG
  have hT := k_pF hR e13
  clear hR
  obtain ⟨kh14, e15, hR⟩ := hT
  refine bE e15 ?_
  try rw [rep_n hR] at hG
  replace hR := k_nO (ci := 14) (n := 3) hR
  replace hG := zbnd hG
  obtain ⟨p12, e16, hG⟩ := hG
  have hT := k6 hR e16
  clear hR
  obtain ⟨kh17, e18, hR⟩ := hT
  refine bE e18 ?_
  replace hG := zbnd hG
  obtain ⟨h13, e19, hG⟩ := hG
  have hT := k_pF hR e19
  clear hR
  obtain ⟨kh20, e21, hR⟩ := hT
  refine bE e21 ?_
  try rw [rep_n hR] at hG
  replace hG := zbnd hG
  obtain ⟨h15, e22, hG⟩ := hG
  have hT := k_nA hR e22
  clear hR
  obtain ⟨kh23, e24, hR⟩ := hT
  refine bE e24 ?_
  replace hG := zbnd hG
  obtain ⟨h17, e25, hG⟩ := hG
  have hT := k_pF hR e25
  clear hR
  obtain ⟨kh26, e27, hR⟩ := hT
  refine bE e27 ?_
  try rw [rep_n hR] at hG
  replace hG := zbnd hG
  obtain ⟨h19, e28, hG⟩ := hG
  have hT := k_nA hR e28
  clear hR
  obtain ⟨kh29, e30, hR⟩ := hT
  refine bE e30 ?_
  replace hG := zbnd hG
  obtain ⟨h21, e31, hG⟩ := hG
  have hT := k_pF hR e31
  clear hR
  obtain ⟨kh32, e33, hR⟩ := hT
  refine bE e33 ?_
  try rw [rep_n hR] at hG
  replace hR := k_nO (ci := 7) (n := 5) hR
  replace hG := zbnd hG
  obtain ⟨p24, e34, hG⟩ := hG
  have hT := k92 hR e34
  clear hR
  obtain ⟨kh35, e36, hR⟩ := hT
  refine bE e36 ?_
  replace hG := zbnd hG
  obtain ⟨h25, e37, hG⟩ := hG
  have hT := k_pF hR e37
  clear hR
  obtain ⟨kh38, e39, hR⟩ := hT
  refine bE e39 ?_
  replace hG := zbnd hG
  obtain ⟨h27, e40, hG⟩ := hG
  have hT := k_pF hR e40
  clear hR
  obtain ⟨kh41, e42, hR⟩ := hT
  refine bE e42 ?_
  replace hG := zbnd hG
  obtain ⟨h29, e43, hG⟩ := hG
  have hT := k_pF hR e43
  clear hR
  obtain ⟨kh44, e45, hR⟩ := hT
  refine bE e45 ?_
  replace hG := zbnd hG
  obtain ⟨h31, e46, hG⟩ := hG
  have hT := k_pF hR e46
  clear hR
  obtain ⟨kh47, e48, hR⟩ := hT
  refine bE e48 ?_
  replace hG := Option.some.inj hG
  subst hG
  exact ⟨_, rfl, hR⟩
def cb94_27 (n : Nat)   (l0 : Nat) (l1 : Option Nat) (l2 : Option Nat) (h : zY) : Option ((Unit ⊕ Nat) × zY) :=
  l1.bind fun a1 =>
  (yR h a1 0 1).bind fun x2 =>
  x2.bind fun a4 =>
  zgd (yisO h a4 14) <|
  (c86 n a4 l2 h).bind fun p7 =>
  some (.inl (), p7.2)
set_option maxRecDepth 20000 in
theorem kb94_27 {n : Nat} {Mm : Nat → Option zO}     {l0 : Nat} {l1 : Option Nat} {l2 : Option Nat}  {kh : zH} {h : zY} {p : (Unit ⊕ Nat) × zY} (hR : Rep Mm kh h) (hG : cb94_27 n   l0 l1 l2 h = some p) : ∃ kh1 : zH, b94_27 n   l0 l1 l2 kh = some (p.1, kh1) ∧ Rep Mm kh1 p.2 := by
  unfold cb94_27 at hG
  unfold b94_27
  replace hG := zbnd hG
  obtain ⟨a1, rfl, hG⟩ := hG
  refine bE rfl ?_
  replace hG := zbnd hG
  obtain ⟨x2, e2, hG⟩ := hG
  refine bE (k_gR hR e2) ?_
  replace hG := zbnd hG
  obtain ⟨a4, rfl, hG⟩ := hG
  refine bE rfl ?_
  replace hG := zgd_some hG
  obtain ⟨g4, hG⟩ := hG
  refine zE (k_isO hR g4) ?_
  replace hG := zbnd hG
  obtain ⟨p7, e5, hG⟩ := hG
  have hT := k86 hR e5
  clear hR
  obtain ⟨kh6, e7, hR⟩ := hT
  refine bE e7 ?_
  replace hG := Option.some.inj hG
  subst hG
  exact ⟨_, rfl, hR⟩
def c94 (n : Nat)  (y0 : Nat) (y1 : Option Nat) (h : zY) : Option ((Unit ⊕ Nat) × zY) :=
  y1.bind fun a1 =>
  (yR h a1 0 1).bind fun x2 =>
  zgd (yisO h y0 5) <|
  (c72 n y0 x2 h).bind fun p9 => zth p9 (fun r6 h7 =>
    (yR h7 a1 0 1).bind fun x10 =>
    x10.bind fun a12 =>
    zgd (yisO h7 a12 14) <|
    (c68 n a12 h7).bind fun p15 =>
    if p15.1 < 8 then
      cb94_27 n  y0 (some a1) r6 p15.2
    else
      zgd (yisO p15.2 y0 5) <|
      (c70 n y0 5 r6 p15.2).bind fun p22 => zth p22 (fun r19 h20 =>
        cb94_27 n  y0 (some a1) r6 h20)
        (fun x21 h20 =>
        zgd (exOk x21) <| some (.inr x21, h20)))
    (fun x8 h7 =>
    zgd (exOk x8) <| some (.inr x8, h7))
set_option maxRecDepth 20000 in
theorem k94 {n : Nat} {Mm : Nat → Option zO}   {y0 : Nat} {y1 : Option Nat} {kh : zH} {h : zY} {p : (Unit ⊕ Nat) × zY} (hR : Rep Mm kh h) (hG : c94 n  y0 y1 h = some p) : ∃ kh1 : zH, f94 n  y0 y1 kh = some (p.1, kh1) ∧ Rep Mm kh1 p.2 := by
  unfold c94 at hG
  unfold f94
  replace hG := zbnd hG
  obtain ⟨a1, rfl, hG⟩ := hG
  refine bE rfl ?_
  replace hG := zbnd hG
  obtain ⟨x2, e2, hG⟩ := hG
  refine bE (k_gR hR e2) ?_
  replace hG := zgd_some hG
  obtain ⟨g3, hG⟩ := hG
  refine zE (k_isO hR g3) ?_
  replace hG := zbnd hG
  obtain ⟨⟨r6, h7⟩, e4, hG⟩ := hG
  have hT := k72 hR e4
  clear hR
  obtain ⟨kh5, e6, hR⟩ := hT
  refine bE e6 ?_
  rcases r6 with r6 | x8
  · replace hG := zthG hG
    refine zthEl ?_
    replace hG := zbnd hG
    obtain ⟨x10, e7, hG⟩ := hG
    refine bE (k_gR hR e7) ?_
    replace hG := zbnd hG
    obtain ⟨a12, rfl, hG⟩ := hG
    refine bE rfl ?_
    replace hG := zgd_some hG
    obtain ⟨g9, hG⟩ := hG
    refine zE (k_isO hR g9) ?_
    replace hG := zbnd hG
    obtain ⟨p15, e10, hG⟩ := hG
    have hT := k68 hR e10
    clear hR
    obtain ⟨kh11, e12, hR⟩ := hT
    refine bE e12 ?_
    by_cases c13 : p15.1 < 8
    · rw [if_pos c13] at hG
      refine iE1 c13 ?_
      exact kb94_27 (n := n) hR hG
    · rw [if_neg c13] at hG
      refine iE2 c13 ?_
      replace hG := zgd_some hG
      obtain ⟨g14, hG⟩ := hG
      refine zE (k_isO hR g14) ?_
      replace hG := zbnd hG
      obtain ⟨⟨r19, h20⟩, e15, hG⟩ := hG
      have hT := k70 hR e15
      clear hR
      obtain ⟨kh16, e17, hR⟩ := hT
      refine bE e17 ?_
      rcases r19 with r19 | x21
      · replace hG := zthG hG
        refine zthEl ?_
        exact kb94_27 (n := n) hR hG
      · replace hG := zthH hG
        refine zthEr ?_
        replace hG := zgd_some hG
        obtain ⟨g18, hG⟩ := hG
        refine zE g18 ?_
        replace hG := Option.some.inj hG
        subst hG
        exact ⟨_, rfl, hR⟩
  · replace hG := zthH hG
    refine zthEr ?_
    replace hG := zgd_some hG
    obtain ⟨g19, hG⟩ := hG
    refine zE g19 ?_
    replace hG := Option.some.inj hG
    subst hG
    exact ⟨_, rfl, hR⟩
def cb93_37 (n : Nat)   (l0 : Nat) (l1 : Option Nat) (h : zY) : Option ((Unit ⊕ Nat) × zY) :=
  (yR h l0 5 3).bind fun x1 =>
  x1.bind fun a3 =>
  (yR h a3 9 0).bind fun x4 =>
  zgd (yisO h l0 5) <|
  (c71 n l0 x4 h).bind fun p11 => zth p11 (fun r8 h9 =>
    some (.inl (), h9))
    (fun x10 h9 =>
    zgd (exOk x10) <| some (.inr x10, h9))
set_option maxRecDepth 20000 in
theorem kb93_37 {n : Nat} {Mm : Nat → Option zO}     {l0 : Nat} {l1 : Option Nat}  {kh : zH} {h : zY} {p : (Unit ⊕ Nat) × zY} (hR : Rep Mm kh h) (hG : cb93_37 n   l0 l1 h = some p) : ∃ kh1 : zH, b93_37 n   l0 l1 kh = some (p.1, kh1) ∧ Rep Mm kh1 p.2 := by
  unfold cb93_37 at hG
  unfold b93_37
  replace hG := zbnd hG
  obtain ⟨x1, e1, hG⟩ := hG
  refine bE (k_gR hR e1) ?_
  replace hG := zbnd hG
  obtain ⟨a3, rfl, hG⟩ := hG
  refine bE rfl ?_
  replace hG := zbnd hG
  obtain ⟨x4, e3, hG⟩ := hG
  refine bE (k_gR hR e3) ?_
  replace hG := zgd_some hG
  obtain ⟨g4, hG⟩ := hG
  refine zE (k_isO hR g4) ?_
  replace hG := zbnd hG
  obtain ⟨⟨r8, h9⟩, e5, hG⟩ := hG
  have hT := k71 hR e5
  clear hR
  obtain ⟨kh6, e7, hR⟩ := hT
  refine bE e7 ?_
  rcases r8 with r8 | x10
  · replace hG := zthG hG
    refine zthEl ?_
    replace hG := Option.some.inj hG
    subst hG
    exact ⟨_, rfl, hR⟩
  · replace hG := zthH hG
    refine zthEr ?_
    replace hG := zgd_some hG
    obtain ⟨g8, hG⟩ := hG
    refine zE g8 ?_
    replace hG := Option.some.inj hG
    subst hG
    exact ⟨_, rfl, hR⟩
def cb93_111 (n : Nat)   (l0 : Nat) (l1 : Option Nat) (l2 : Int32) (h : zY) : Option ((Unit ⊕ Nat) × zY) :=
  zgd (yisO h l0 5) <|
  (c71 n l0 (some 9) h).bind fun p6 => zth p6 (fun r3 h4 =>
    some (.inl (), h4))
    (fun x5 h4 =>
    zgd (exOk x5) <| some (.inr x5, h4))
set_option maxRecDepth 20000 in
theorem kb93_111 {n : Nat} {Mm : Nat → Option zO}     {l0 : Nat} {l1 : Option Nat} {l2 : Int32}  {kh : zH} {h : zY} {p : (Unit ⊕ Nat) × zY} (hR : Rep Mm kh h) (hG : cb93_111 n   l0 l1 l2 h = some p) : ∃ kh1 : zH, b93_111 n   l0 l1 l2 kh = some (p.1, kh1) ∧ Rep Mm kh1 p.2 := by
  unfold cb93_111 at hG
  unfold b93_111
  replace hG := zgd_some hG
  obtain ⟨g1, hG⟩ := hG
  refine zE (k_isO hR g1) ?_
  replace hG := zbnd hG
  obtain ⟨⟨r3, h4⟩, e2, hG⟩ := hG
  have hT := k71 hR e2
  clear hR
  obtain ⟨kh3, e4, hR⟩ := hT
  refine bE e4 ?_
  rcases r3 with r3 | x5
  · replace hG := zthG hG
    refine zthEl ?_
    replace hG := Option.some.inj hG
    subst hG
    exact ⟨_, rfl, hR⟩
  · replace hG := zthH hG
    refine zthEr ?_
    replace hG := zgd_some hG
    obtain ⟨g5, hG⟩ := hG
    refine zE g5 ?_
    replace hG := Option.some.inj hG
    subst hG
    exact ⟨_, rfl, hR⟩
def cb93_73 (n : Nat)  (r73 : Nat → Option Nat → Int32 → zY → Option ((Unit ⊕ Nat) × zY)) (l0 : Nat) (l1 : Option Nat) (l2 : Int32) (h : zY) : Option ((Unit ⊕ Nat) × zY) :=
  if (8 : Int32) ≤ l2 then
    cb93_111 n  l0 l1 l2 h
  else
    (yR h l0 5 3).bind fun x2 =>
    x2.bind fun a4 =>
    (yR h a4 9 0).bind fun x5 =>
    (rEq x5 (some 11)).bind fun b7 =>
    if b7 = true then
      zgd (yisO h l0 5) <|
      (c71 n l0 (some 11) h).bind fun p15 => zth p15 (fun r12 h13 =>
        zgd (yisO h13 l0 5) <|
        (c94 n l0 l1 h13).bind fun p21 => zth p21 (fun r18 h19 =>
          r73 l0 l1 (l2 + 1) h19)
          (fun x20 h19 =>
          zgd (exOk x20) <| some (.inr x20, h19)))
        (fun x14 h13 =>
        zgd (exOk x14) <| some (.inr x14, h13))
    else
      cb93_111 n  l0 l1 l2 h
set_option maxRecDepth 20000 in
theorem kb93_73 {n : Nat} {Mm : Nat → Option zO}  {q73 : Nat → Option Nat → Int32 → zY → Option ((Unit ⊕ Nat) × zY)} {r73 : Nat → Option Nat → Int32 → zH → Option ((Unit ⊕ Nat) × zH)}  (hr73 : ∀ {l0 : Nat} {l1 : Option Nat} {l2 : Int32}  {kh : zH} {h : zY} {p : (Unit ⊕ Nat) × zY}, Rep Mm kh h → q73 l0 l1 l2 h = some p → ∃ kh1 : zH, r73 l0 l1 l2 kh = some (p.1, kh1) ∧ Rep Mm kh1 p.2) {l0 : Nat} {l1 : Option Nat} {l2 : Int32}  {kh : zH} {h : zY} {p : (Unit ⊕ Nat) × zY} (hR : Rep Mm kh h) (hG : cb93_73 n  q73 l0 l1 l2 h = some p) : ∃ kh1 : zH, b93_73 n  r73 l0 l1 l2 kh = some (p.1, kh1) ∧ Rep Mm kh1 p.2 := by
  unfold cb93_73 at hG
  unfold b93_73
  by_cases c1 : (8 : Int32) ≤ l2
  · rw [if_pos c1] at hG
    refine iE1 c1 ?_
    exact kb93_111 (n := n) hR hG
  · rw [if_neg c1] at hG
    refine iE2 c1 ?_
    replace hG := zbnd hG
    obtain ⟨x2, e2, hG⟩ := hG
    refine bE (k_gR hR e2) ?_
    replace hG := zbnd hG
    obtain ⟨a4, rfl, hG⟩ := hG
    refine bE rfl ?_
    replace hG := zbnd hG
    obtain ⟨x5, e4, hG⟩ := hG
    refine bE (k_gR hR e4) ?_
    replace hG := zbnd hG
    obtain ⟨b7, e5, hG⟩ := hG
    refine bE e5 ?_
    by_cases c6 : b7 = true
    · rw [if_pos c6] at hG
      refine iE1 c6 ?_
      replace hG := zgd_some hG
      obtain ⟨g7, hG⟩ := hG
      refine zE (k_isO hR g7) ?_
      replace hG := zbnd hG
      obtain ⟨⟨r12, h13⟩, e8, hG⟩ := hG
      have hT := k71 hR e8
      clear hR
      obtain ⟨kh9, e10, hR⟩ := hT
      refine bE e10 ?_
      rcases r12 with r12 | x14
      · replace hG := zthG hG
        refine zthEl ?_
        replace hG := zgd_some hG
        obtain ⟨g11, hG⟩ := hG
        refine zE (k_isO hR g11) ?_
        replace hG := zbnd hG
        obtain ⟨⟨r18, h19⟩, e12, hG⟩ := hG
        have hT := k94 hR e12
        clear hR
        obtain ⟨kh13, e14, hR⟩ := hT
        refine bE e14 ?_
        rcases r18 with r18 | x20
        · replace hG := zthG hG
          refine zthEl ?_
          exact hr73 hR hG
        · replace hG := zthH hG
          refine zthEr ?_
          replace hG := zgd_some hG
          obtain ⟨g15, hG⟩ := hG
          refine zE g15 ?_
          replace hG := Option.some.inj hG
          subst hG
          exact ⟨_, rfl, hR⟩
      · replace hG := zthH hG
        refine zthEr ?_
        replace hG := zgd_some hG
        obtain ⟨g16, hG⟩ := hG
        refine zE g16 ?_
        replace hG := Option.some.inj hG
        subst hG
        exact ⟨_, rfl, hR⟩
    · rw [if_neg c6] at hG
      refine iE2 c6 ?_
      exact kb93_111 (n := n) hR hG
def cf93_73 (n : Nat)   (k : Nat) : Nat → Option Nat → Int32 → zY → Option ((Unit ⊕ Nat) × zY) := Nat.rec (fun _ _ _ _ => none) (fun _ ih => cb93_73 n  ih) k
theorem kf93_73 {n : Nat} {Mm : Nat → Option zO}     (k : Nat) : ∀ {l0 : Nat} {l1 : Option Nat} {l2 : Int32}  {kh : zH} {h : zY} {p : (Unit ⊕ Nat) × zY}, Rep Mm kh h → cf93_73 n   k l0 l1 l2 h = some p → ∃ kh1 : zH, f93_73 n   k l0 l1 l2 kh = some (p.1, kh1) ∧ Rep Mm kh1 p.2 := by
  induction k with
  | zero => intros; rename_i hG; cases hG
  | succ k ih => intros; rename_i hR hG; exact kb93_73 (n := n) (q73 := cf93_73 n   k) (r73 := f93_73 n   k)  ih hR hG
def c93 (n : Nat)  (y0 : Nat) (y1 : Option Nat) (h : zY) : Option ((Unit ⊕ Nat) × zY) :=
  (yR h y0 5 3).bind fun x1 =>
  x1.bind fun a3 =>
  (yR h a3 9 0).bind fun x4 =>
  y1.bind fun a6 =>
  (yP h a6 0 0 (va_rf x4)).bind fun h7 =>
  (yR h7 y0 5 3).bind fun x9 =>
  x9.bind fun a11 =>
  (yR h7 a11 9 0).bind fun x12 =>
  (rEq x12 (some 16)).bind fun b14 =>
  if b14 = true then
    cb93_37 n  y0 (some a6) h7
  else
    (yR h7 y0 5 3).bind fun x17 =>
    x17.bind fun a19 =>
    (yR h7 a19 9 0).bind fun x20 =>
    (rEq x20 (some 17)).bind fun b22 =>
    if b22 = true then
      cb93_37 n  y0 (some a6) h7
    else
      zgd (yisO h7 y0 5) <|
      (c71 n y0 (some 18) h7).bind fun p30 => zth p30 (fun r27 h28 =>
        zgd (yisO h28 y0 5) <|
        (c71 n y0 (some 8) h28).bind fun p36 => zth p36 (fun r33 h34 =>
          zgd (yisO h34 y0 5) <|
          (c94 n y0 (some a6) h34).bind fun p42 => zth p42 (fun r39 h40 =>
            cf93_73 n  n y0 (some a6) 0 h40)
            (fun x41 h40 =>
            zgd (exOk x41) <| some (.inr x41, h40)))
          (fun x35 h34 =>
          zgd (exOk x35) <| some (.inr x35, h34)))
        (fun x29 h28 =>
        zgd (exOk x29) <| some (.inr x29, h28))
set_option maxRecDepth 20000 in
theorem k93 {n : Nat} {Mm : Nat → Option zO}   {y0 : Nat} {y1 : Option Nat} {kh : zH} {h : zY} {p : (Unit ⊕ Nat) × zY} (hR : Rep Mm kh h) (hG : c93 n  y0 y1 h = some p) : ∃ kh1 : zH, f93 n  y0 y1 kh = some (p.1, kh1) ∧ Rep Mm kh1 p.2 := by
  unfold c93 at hG
  unfold f93
  replace hG := zbnd hG
  obtain ⟨x1, e1, hG⟩ := hG
  refine bE (k_gR hR e1) ?_
  replace hG := zbnd hG
  obtain ⟨a3, rfl, hG⟩ := hG
  refine bE rfl ?_
  replace hG := zbnd hG
  obtain ⟨x4, e3, hG⟩ := hG
  refine bE (k_gR hR e3) ?_
  replace hG := zbnd hG
  obtain ⟨a6, rfl, hG⟩ := hG
  refine bE rfl ?_
  replace hG := zbnd hG
  obtain ⟨h7, e5, hG⟩ := hG
  have hT := k_pF hR e5
  clear hR
  obtain ⟨kh6, e7, hR⟩ := hT
  refine bE e7 ?_
  replace hG := zbnd hG
  obtain ⟨x9, e8, hG⟩ := hG
  refine bE (k_gR hR e8) ?_
  replace hG := zbnd hG
  obtain ⟨a11, rfl, hG⟩ := hG
  refine bE rfl ?_
  replace hG := zbnd hG
  obtain ⟨x12, e10, hG⟩ := hG
  refine bE (k_gR hR e10) ?_
  replace hG := zbnd hG
  obtain ⟨b14, e11, hG⟩ := hG
  refine bE e11 ?_
  by_cases c12 : b14 = true
  · rw [if_pos c12] at hG
    refine iE1 c12 ?_
    exact kb93_37 (n := n) hR hG
  · rw [if_neg c12] at hG
    refine iE2 c12 ?_
    replace hG := zbnd hG
    obtain ⟨x17, e13, hG⟩ := hG
    refine bE (k_gR hR e13) ?_
    replace hG := zbnd hG
    obtain ⟨a19, rfl, hG⟩ := hG
    refine bE rfl ?_
    replace hG := zbnd hG
    obtain ⟨x20, e15, hG⟩ := hG
    refine bE (k_gR hR e15) ?_
    replace hG := zbnd hG
    obtain ⟨b22, e16, hG⟩ := hG
    refine bE e16 ?_
    by_cases c17 : b22 = true
    · rw [if_pos c17] at hG
      refine iE1 c17 ?_
      exact kb93_37 (n := n) hR hG
    · rw [if_neg c17] at hG
      refine iE2 c17 ?_
      replace hG := zgd_some hG
      obtain ⟨g18, hG⟩ := hG
      refine zE (k_isO hR g18) ?_
      replace hG := zbnd hG
      obtain ⟨⟨r27, h28⟩, e19, hG⟩ := hG
      have hT := k71 hR e19
      clear hR
      obtain ⟨kh20, e21, hR⟩ := hT
      refine bE e21 ?_
      rcases r27 with r27 | x29
      · replace hG := zthG hG
        refine zthEl ?_
        replace hG := zgd_some hG
        obtain ⟨g22, hG⟩ := hG
        refine zE (k_isO hR g22) ?_
        replace hG := zbnd hG
        obtain ⟨⟨r33, h34⟩, e23, hG⟩ := hG
        have hT := k71 hR e23
        clear hR
        obtain ⟨kh24, e25, hR⟩ := hT
        refine bE e25 ?_
        rcases r33 with r33 | x35
        · replace hG := zthG hG
          refine zthEl ?_
          replace hG := zgd_some hG
          obtain ⟨g26, hG⟩ := hG
          refine zE (k_isO hR g26) ?_
          replace hG := zbnd hG
          obtain ⟨⟨r39, h40⟩, e27, hG⟩ := hG
          have hT := k94 hR e27
          clear hR
          obtain ⟨kh28, e29, hR⟩ := hT
          refine bE e29 ?_
          rcases r39 with r39 | x41
          · replace hG := zthG hG
            refine zthEl ?_
            exact kf93_73 (n := n) n hR hG
          · replace hG := zthH hG
            refine zthEr ?_
            replace hG := zgd_some hG
            obtain ⟨g30, hG⟩ := hG
            refine zE g30 ?_
            replace hG := Option.some.inj hG
            subst hG
            exact ⟨_, rfl, hR⟩
        · replace hG := zthH hG
          refine zthEr ?_
          replace hG := zgd_some hG
          obtain ⟨g31, hG⟩ := hG
          refine zE g31 ?_
          replace hG := Option.some.inj hG
          subst hG
          exact ⟨_, rfl, hR⟩
      · replace hG := zthH hG
        refine zthEr ?_
        replace hG := zgd_some hG
        obtain ⟨g32, hG⟩ := hG
        refine zE g32 ?_
        replace hG := Option.some.inj hG
        subst hG
        exact ⟨_, rfl, hR⟩
def c97 (n : Nat)  (y0 : Nat) (h : zY) : Option (Int32 × zY) :=
  (yI h y0 7 4).bind fun x1 =>
  (yR h y0 7 2).bind fun x3 =>
  x3.bind fun a5 =>
  (yL h a5).bind fun x6 =>
  if x1 < x6 then
    some (0, h)
  else
    some (1, h)
set_option maxRecDepth 20000 in
theorem k97 {n : Nat} {Mm : Nat → Option zO}   {y0 : Nat} {kh : zH} {h : zY} {p : Int32 × zY} (hR : Rep Mm kh h) (hG : c97 n  y0 h = some p) : ∃ kh1 : zH, f97 n  y0 kh = some (p.1, kh1) ∧ Rep Mm kh1 p.2 := by
  unfold c97 at hG
  unfold f97
  replace hG := zbnd hG
  obtain ⟨x1, e1, hG⟩ := hG
  refine bE (k_gI hR e1) ?_
  replace hG := zbnd hG
  obtain ⟨x3, e2, hG⟩ := hG
  refine bE (k_gR hR e2) ?_
  replace hG := zbnd hG
  obtain ⟨a5, rfl, hG⟩ := hG
  refine bE rfl ?_
  replace hG := zbnd hG
  obtain ⟨x6, e4, hG⟩ := hG
  refine bE (k_aN hR e4) ?_
  by_cases c5 : x1 < x6
  · rw [if_pos c5] at hG
    refine iE1 c5 ?_
    replace hG := Option.some.inj hG
    subst hG
    exact ⟨_, rfl, hR⟩
  · rw [if_neg c5] at hG
    refine iE2 c5 ?_
    replace hG := Option.some.inj hG
    subst hG
    exact ⟨_, rfl, hR⟩
def cb98_41 (n : Nat)   (l0 : Nat) (l1 : Int32) (l2 : Option Nat) (h : zY) : Option ((Int32 ⊕ Nat) × zY) :=
  l2.bind fun a1 =>
  (yI h a1 9 4).bind fun x2 =>
  some (.inl x2, h)
set_option maxRecDepth 20000 in
theorem kb98_41 {n : Nat} {Mm : Nat → Option zO}     {l0 : Nat} {l1 : Int32} {l2 : Option Nat}  {kh : zH} {h : zY} {p : (Int32 ⊕ Nat) × zY} (hR : Rep Mm kh h) (hG : cb98_41 n   l0 l1 l2 h = some p) : ∃ kh1 : zH, b98_41 n   l0 l1 l2 kh = some (p.1, kh1) ∧ Rep Mm kh1 p.2 := by
  unfold cb98_41 at hG
  unfold b98_41
  replace hG := zbnd hG
  obtain ⟨a1, rfl, hG⟩ := hG
  refine bE rfl ?_
  replace hG := zbnd hG
  obtain ⟨x2, e2, hG⟩ := hG
  refine bE (k_gI hR e2) ?_
  replace hG := Option.some.inj hG
  subst hG
  exact ⟨_, rfl, hR⟩
def cb98_31 (n : Nat)   (l0 : Nat) (l1 : Int32) (l2 : Option Nat) (h : zY) : Option ((Int32 ⊕ Nat) × zY) :=
  if l1 = 0 then
    cb98_41 n  l0 l1 l2 h
  else
    zgd (yisO h l0 5) <|
    (c70 n l0 5 l2 h).bind fun p7 => zth p7 (fun r4 h5 =>
      cb98_41 n  l0 l1 l2 h5)
      (fun x6 h5 =>
      zgd (exOk x6) <| some (.inr x6, h5))
set_option maxRecDepth 20000 in
theorem kb98_31 {n : Nat} {Mm : Nat → Option zO}     {l0 : Nat} {l1 : Int32} {l2 : Option Nat}  {kh : zH} {h : zY} {p : (Int32 ⊕ Nat) × zY} (hR : Rep Mm kh h) (hG : cb98_31 n   l0 l1 l2 h = some p) : ∃ kh1 : zH, b98_31 n   l0 l1 l2 kh = some (p.1, kh1) ∧ Rep Mm kh1 p.2 := by
  unfold cb98_31 at hG
  unfold b98_31
  by_cases c1 : l1 = 0
  · rw [if_pos c1] at hG
    refine iE1 c1 ?_
    exact kb98_41 (n := n) hR hG
  · rw [if_neg c1] at hG
    refine iE2 c1 ?_
    replace hG := zgd_some hG
    obtain ⟨g2, hG⟩ := hG
    refine zE (k_isO hR g2) ?_
    replace hG := zbnd hG
    obtain ⟨⟨r4, h5⟩, e3, hG⟩ := hG
    have hT := k70 hR e3
    clear hR
    obtain ⟨kh4, e5, hR⟩ := hT
    refine bE e5 ?_
    rcases r4 with r4 | x6
    · replace hG := zthG hG
      refine zthEl ?_
      exact kb98_41 (n := n) hR hG
    · replace hG := zthH hG
      refine zthEr ?_
      replace hG := zgd_some hG
      obtain ⟨g6, hG⟩ := hG
      refine zE g6 ?_
      replace hG := Option.some.inj hG
      subst hG
      exact ⟨_, rfl, hR⟩
def cb98_25 (n : Nat)   (l0 : Nat) (l1 : Int32) (l2 : Option Nat) (h : zY) : Option ((Int32 ⊕ Nat) × zY) :=
  zgd (yisO h l0 5) <|
  (c70 n l0 4 l2 h).bind fun p6 => zth p6 (fun r3 h4 =>
    cb98_31 n  l0 l1 l2 h4)
    (fun x5 h4 =>
    zgd (exOk x5) <| some (.inr x5, h4))
set_option maxRecDepth 20000 in
theorem kb98_25 {n : Nat} {Mm : Nat → Option zO}     {l0 : Nat} {l1 : Int32} {l2 : Option Nat}  {kh : zH} {h : zY} {p : (Int32 ⊕ Nat) × zY} (hR : Rep Mm kh h) (hG : cb98_25 n   l0 l1 l2 h = some p) : ∃ kh1 : zH, b98_25 n   l0 l1 l2 kh = some (p.1, kh1) ∧ Rep Mm kh1 p.2 := by
  unfold cb98_25 at hG
  unfold b98_25
  replace hG := zgd_some hG
  obtain ⟨g1, hG⟩ := hG
  refine zE (k_isO hR g1) ?_
  replace hG := zbnd hG
  obtain ⟨⟨r3, h4⟩, e2, hG⟩ := hG
  have hT := k70 hR e2
  clear hR
  obtain ⟨kh3, e4, hR⟩ := hT
  refine bE e4 ?_
  rcases r3 with r3 | x5
  · replace hG := zthG hG
    refine zthEl ?_
    exact kb98_31 (n := n) hR hG
  · replace hG := zthH hG
    refine zthEr ?_
    replace hG := zgd_some hG
    obtain ⟨g5, hG⟩ := hG
    refine zE g5 ?_
    replace hG := Option.some.inj hG
    subst hG
    exact ⟨_, rfl, hR⟩
def c98 (n : Nat)  (y0 : Nat) (y1 : Int32) (h : zY) : Option ((Int32 ⊕ Nat) × zY) :=
  zgd (yisO h y0 5) <|
  (c71 n y0 (some 4) h).bind fun p6 => zth p6 (fun r3 h4 =>
    r3.bind fun a7 =>
    (yI h4 a7 9 4).bind fun x8 =>
    if x8 < 0 then
      cb98_25 n  y0 y1 (some a7) h4
    else
      (yI h4 a7 9 4).bind fun x11 =>
      if x11 ≤ 10000 then
        cb98_31 n  y0 y1 (some a7) h4
      else
        cb98_25 n  y0 y1 (some a7) h4)
    (fun x5 h4 =>
    zgd (exOk x5) <| some (.inr x5, h4))
set_option maxRecDepth 20000 in
theorem k98 {n : Nat} {Mm : Nat → Option zO}   {y0 : Nat} {y1 : Int32} {kh : zH} {h : zY} {p : (Int32 ⊕ Nat) × zY} (hR : Rep Mm kh h) (hG : c98 n  y0 y1 h = some p) : ∃ kh1 : zH, f98 n  y0 y1 kh = some (p.1, kh1) ∧ Rep Mm kh1 p.2 := by
  unfold c98 at hG
  unfold f98
  replace hG := zgd_some hG
  obtain ⟨g1, hG⟩ := hG
  refine zE (k_isO hR g1) ?_
  replace hG := zbnd hG
  obtain ⟨⟨r3, h4⟩, e2, hG⟩ := hG
  have hT := k71 hR e2
  clear hR
  obtain ⟨kh3, e4, hR⟩ := hT
  refine bE e4 ?_
  rcases r3 with r3 | x5
  · replace hG := zthG hG
    refine zthEl ?_
    replace hG := zbnd hG
    obtain ⟨a7, rfl, hG⟩ := hG
    refine bE rfl ?_
    replace hG := zbnd hG
    obtain ⟨x8, e6, hG⟩ := hG
    refine bE (k_gI hR e6) ?_
    by_cases c7 : x8 < 0
    · rw [if_pos c7] at hG
      refine iE1 c7 ?_
      exact kb98_25 (n := n) hR hG
    · rw [if_neg c7] at hG
      refine iE2 c7 ?_
      replace hG := zbnd hG
      obtain ⟨x11, e8, hG⟩ := hG
      refine bE (k_gI hR e8) ?_
      by_cases c9 : x11 ≤ 10000
      · rw [if_pos c9] at hG
        refine iE1 c9 ?_
        exact kb98_31 (n := n) hR hG
      · rw [if_neg c9] at hG
        refine iE2 c9 ?_
        exact kb98_25 (n := n) hR hG
  · replace hG := zthH hG
    refine zthEr ?_
    replace hG := zgd_some hG
    obtain ⟨g10, hG⟩ := hG
    refine zE g10 ?_
    replace hG := Option.some.inj hG
    subst hG
    exact ⟨_, rfl, hR⟩
def c100 (n : Nat)  (y0 : Nat) (y1 : Option Nat) (h : zY) : Option (Int32 × zY) :=
  (yR h y0 0 0).bind fun x1 =>
  (rEq x1 (some 16)).bind fun b3 =>
  if b3 = true then
    y1.bind fun a6 =>
    (yR h a6 9 0).bind fun x7 =>
    (rEq x7 (some 34)).bind fun b9 =>
    if b9 = true then
      some (1, h)
    else
      (yR h a6 9 0).bind fun x12 =>
      (rEq x12 (some 35)).bind fun b14 =>
      if b14 = true then
        some (1, h)
      else
        some (0, h)
  else
    (yR h y0 0 0).bind fun x17 =>
    (rEq x17 (some 17)).bind fun b19 =>
    if b19 = true then
      y1.bind fun a22 =>
      (yR h a22 9 0).bind fun x23 =>
      (rEq x23 (some 4)).bind fun b25 =>
      if b25 = true then
        some (1, h)
      else
        some (0, h)
    else
      y1.bind fun a28 =>
      (yR h a28 9 0).bind fun x29 =>
      (rEq x29 (some 3)).bind fun b31 =>
      if b31 = true then
        (yR h y0 0 1).bind fun x34 =>
        (yR h a28 9 3).bind fun x36 =>
        (c73 n x34 x36 h).bind fun p39 =>
        if p39.1 = (-1) then
          some (0, p39.2)
        else
          some (1, p39.2)
      else
        some (0, h)
set_option maxRecDepth 20000 in
theorem k100 {n : Nat} {Mm : Nat → Option zO}   {y0 : Nat} {y1 : Option Nat} {kh : zH} {h : zY} {p : Int32 × zY} (hR : Rep Mm kh h) (hG : c100 n  y0 y1 h = some p) : ∃ kh1 : zH, f100 n  y0 y1 kh = some (p.1, kh1) ∧ Rep Mm kh1 p.2 := by
  unfold c100 at hG
  unfold f100
  replace hG := zbnd hG
  obtain ⟨x1, e1, hG⟩ := hG
  refine bE (k_gR hR e1) ?_
  replace hG := zbnd hG
  obtain ⟨b3, e2, hG⟩ := hG
  refine bE e2 ?_
  by_cases c3 : b3 = true
  · rw [if_pos c3] at hG
    refine iE1 c3 ?_
    replace hG := zbnd hG
    obtain ⟨a6, rfl, hG⟩ := hG
    refine bE rfl ?_
    replace hG := zbnd hG
    obtain ⟨x7, e5, hG⟩ := hG
    refine bE (k_gR hR e5) ?_
    replace hG := zbnd hG
    obtain ⟨b9, e6, hG⟩ := hG
    refine bE e6 ?_
    by_cases c7 : b9 = true
    · rw [if_pos c7] at hG
      refine iE1 c7 ?_
      replace hG := Option.some.inj hG
      subst hG
      exact ⟨_, rfl, hR⟩
    · rw [if_neg c7] at hG
      refine iE2 c7 ?_
      replace hG := zbnd hG
      obtain ⟨x12, e8, hG⟩ := hG
      refine bE (k_gR hR e8) ?_
      replace hG := zbnd hG
      obtain ⟨b14, e9, hG⟩ := hG
      refine bE e9 ?_
      by_cases c10 : b14 = true
      · rw [if_pos c10] at hG
        refine iE1 c10 ?_
        replace hG := Option.some.inj hG
        subst hG
        exact ⟨_, rfl, hR⟩
      · rw [if_neg c10] at hG
        refine iE2 c10 ?_
        replace hG := Option.some.inj hG
        subst hG
        exact ⟨_, rfl, hR⟩
  · rw [if_neg c3] at hG
    refine iE2 c3 ?_
    replace hG := zbnd hG
    obtain ⟨x17, e11, hG⟩ := hG
    refine bE (k_gR hR e11) ?_
    replace hG := zbnd hG
    obtain ⟨b19, e12, hG⟩ := hG
    refine bE e12 ?_
    by_cases c13 : b19 = true
    · rw [if_pos c13] at hG
      refine iE1 c13 ?_
      replace hG := zbnd hG
      obtain ⟨a22, rfl, hG⟩ := hG
      refine bE rfl ?_
      replace hG := zbnd hG
      obtain ⟨x23, e15, hG⟩ := hG
      refine bE (k_gR hR e15) ?_
      replace hG := zbnd hG
      obtain ⟨b25, e16, hG⟩ := hG
      refine bE e16 ?_
      by_cases c17 : b25 = true
      · rw [if_pos c17] at hG
        refine iE1 c17 ?_
        replace hG := Option.some.inj hG
        subst hG
        exact ⟨_, rfl, hR⟩
      · rw [if_neg c17] at hG
        refine iE2 c17 ?_
        replace hG := Option.some.inj hG
        subst hG
        exact ⟨_, rfl, hR⟩
    · rw [if_neg c13] at hG
      refine iE2 c13 ?_
      replace hG := zbnd hG
      obtain ⟨a28, rfl, hG⟩ := hG
      refine bE rfl ?_
      replace hG := zbnd hG
      obtain ⟨x29, e19, hG⟩ := hG
      refine bE (k_gR hR e19) ?_
      replace hG := zbnd hG
      obtain ⟨b31, e20, hG⟩ := hG
      refine bE e20 ?_
      by_cases c21 : b31 = true
      · rw [if_pos c21] at hG
        refine iE1 c21 ?_
        replace hG := zbnd hG
        obtain ⟨x34, e22, hG⟩ := hG
        refine bE (k_gR hR e22) ?_
        replace hG := zbnd hG
        obtain ⟨x36, e23, hG⟩ := hG
        refine bE (k_gR hR e23) ?_
        replace hG := zbnd hG
        obtain ⟨p39, e24, hG⟩ := hG
        have hT := k73 hR e24
        clear hR
        obtain ⟨kh25, e26, hR⟩ := hT
        refine bE e26 ?_
        by_cases c27 : p39.1 = (-1)
        · rw [if_pos c27] at hG
          refine iE1 c27 ?_
          replace hG := Option.some.inj hG
          subst hG
          exact ⟨_, rfl, hR⟩
        · rw [if_neg c27] at hG
          refine iE2 c27 ?_
          replace hG := Option.some.inj hG
          subst hG
          exact ⟨_, rfl, hR⟩
      · rw [if_neg c21] at hG
        refine iE2 c21 ?_
        replace hG := Option.some.inj hG
        subst hG
        exact ⟨_, rfl, hR⟩
def c101 (n : Nat)  (y0 : Nat) (y1 : Option Nat) (h : zY) : Option (Int32 × zY) :=
  (yR h y0 0 0).bind fun x1 =>
  (rEq x1 (some 16)).bind fun b3 =>
  if b3 = true then
    y1.bind fun a6 =>
    (yR h a6 9 0).bind fun x7 =>
    (rEq x7 (some 34)).bind fun b9 =>
    if b9 = true then
      some (1, h)
    else
      some (0, h)
  else
    (yR h y0 0 0).bind fun x12 =>
    (rEq x12 (some 17)).bind fun b14 =>
    if b14 = true then
      y1.bind fun a17 =>
      (yI h a17 9 4).bind fun x18 =>
      some (x18, h)
    else
      (yR h y0 0 1).bind fun x20 =>
      y1.bind fun a22 =>
      (yR h a22 9 3).bind fun x23 =>
      (c73 n x20 x23 h).bind fun p26 =>
      some (p26.1, p26.2)
set_option maxRecDepth 20000 in
theorem k101 {n : Nat} {Mm : Nat → Option zO}   {y0 : Nat} {y1 : Option Nat} {kh : zH} {h : zY} {p : Int32 × zY} (hR : Rep Mm kh h) (hG : c101 n  y0 y1 h = some p) : ∃ kh1 : zH, f101 n  y0 y1 kh = some (p.1, kh1) ∧ Rep Mm kh1 p.2 := by
  unfold c101 at hG
  unfold f101
  replace hG := zbnd hG
  obtain ⟨x1, e1, hG⟩ := hG
  refine bE (k_gR hR e1) ?_
  replace hG := zbnd hG
  obtain ⟨b3, e2, hG⟩ := hG
  refine bE e2 ?_
  by_cases c3 : b3 = true
  · rw [if_pos c3] at hG
    refine iE1 c3 ?_
    replace hG := zbnd hG
    obtain ⟨a6, rfl, hG⟩ := hG
    refine bE rfl ?_
    replace hG := zbnd hG
    obtain ⟨x7, e5, hG⟩ := hG
    refine bE (k_gR hR e5) ?_
    replace hG := zbnd hG
    obtain ⟨b9, e6, hG⟩ := hG
    refine bE e6 ?_
    by_cases c7 : b9 = true
    · rw [if_pos c7] at hG
      refine iE1 c7 ?_
      replace hG := Option.some.inj hG
      subst hG
      exact ⟨_, rfl, hR⟩
    · rw [if_neg c7] at hG
      refine iE2 c7 ?_
      replace hG := Option.some.inj hG
      subst hG
      exact ⟨_, rfl, hR⟩
  · rw [if_neg c3] at hG
    refine iE2 c3 ?_
    replace hG := zbnd hG
    obtain ⟨x12, e8, hG⟩ := hG
    refine bE (k_gR hR e8) ?_
    replace hG := zbnd hG
    obtain ⟨b14, e9, hG⟩ := hG
    refine bE e9 ?_
    by_cases c10 : b14 = true
    · rw [if_pos c10] at hG
      refine iE1 c10 ?_
      replace hG := zbnd hG
      obtain ⟨a17, rfl, hG⟩ := hG
      refine bE rfl ?_
      replace hG := zbnd hG
      obtain ⟨x18, e12, hG⟩ := hG
      refine bE (k_gI hR e12) ?_
      replace hG := Option.some.inj hG
      subst hG
      exact ⟨_, rfl, hR⟩
    · rw [if_neg c10] at hG
      refine iE2 c10 ?_
      replace hG := zbnd hG
      obtain ⟨x20, e13, hG⟩ := hG
      refine bE (k_gR hR e13) ?_
      replace hG := zbnd hG
      obtain ⟨a22, rfl, hG⟩ := hG
      refine bE rfl ?_
      replace hG := zbnd hG
      obtain ⟨x23, e15, hG⟩ := hG
      refine bE (k_gR hR e15) ?_
      replace hG := zbnd hG
      obtain ⟨p26, e16, hG⟩ := hG
      have hT := k73 hR e16
      clear hR
      obtain ⟨kh17, e18, hR⟩ := hT
      refine bE e18 ?_
      replace hG := Option.some.inj hG
      subst hG
      exact ⟨_, rfl, hR⟩
def cb99_20 (n : Nat)   (l0 : Nat) (l1 : Option Nat) (h : zY) : Option ((Int32 ⊕ Nat) × zY) :=
  (yR h l0 5 3).bind fun x1 =>
  x1.bind fun a3 =>
  (yR h a3 9 0).bind fun x4 =>
  zgd (yisO h l0 5) <|
  (c71 n l0 x4 h).bind fun p11 => zth p11 (fun r8 h9 =>
    l1.bind fun a12 =>
    zgd (yisO h9 a12 0) <|
    (c101 n a12 r8 h9).bind fun p15 =>
    some (.inl p15.1, p15.2))
    (fun x10 h9 =>
    zgd (exOk x10) <| some (.inr x10, h9))
set_option maxRecDepth 20000 in
theorem kb99_20 {n : Nat} {Mm : Nat → Option zO}     {l0 : Nat} {l1 : Option Nat}  {kh : zH} {h : zY} {p : (Int32 ⊕ Nat) × zY} (hR : Rep Mm kh h) (hG : cb99_20 n   l0 l1 h = some p) : ∃ kh1 : zH, b99_20 n   l0 l1 kh = some (p.1, kh1) ∧ Rep Mm kh1 p.2 := by
  unfold cb99_20 at hG
  unfold b99_20
  replace hG := zbnd hG
  obtain ⟨x1, e1, hG⟩ := hG
  refine bE (k_gR hR e1) ?_
  replace hG := zbnd hG
  obtain ⟨a3, rfl, hG⟩ := hG
  refine bE rfl ?_
  replace hG := zbnd hG
  obtain ⟨x4, e3, hG⟩ := hG
  refine bE (k_gR hR e3) ?_
  replace hG := zgd_some hG
  obtain ⟨g4, hG⟩ := hG
  refine zE (k_isO hR g4) ?_
  replace hG := zbnd hG
  obtain ⟨⟨r8, h9⟩, e5, hG⟩ := hG
  have hT := k71 hR e5
  clear hR
  obtain ⟨kh6, e7, hR⟩ := hT
  refine bE e7 ?_
  rcases r8 with r8 | x10
  · replace hG := zthG hG
    refine zthEl ?_
    replace hG := zbnd hG
    obtain ⟨a12, rfl, hG⟩ := hG
    refine bE rfl ?_
    replace hG := zgd_some hG
    obtain ⟨g9, hG⟩ := hG
    refine zE (k_isO hR g9) ?_
    replace hG := zbnd hG
    obtain ⟨p15, e10, hG⟩ := hG
    have hT := k101 hR e10
    clear hR
    obtain ⟨kh11, e12, hR⟩ := hT
    refine bE e12 ?_
    replace hG := Option.some.inj hG
    subst hG
    exact ⟨_, rfl, hR⟩
  · replace hG := zthH hG
    refine zthEr ?_
    replace hG := zgd_some hG
    obtain ⟨g13, hG⟩ := hG
    refine zE g13 ?_
    replace hG := Option.some.inj hG
    subst hG
    exact ⟨_, rfl, hR⟩
def c99 (n : Nat)  (y0 : Nat) (y1 : Option Nat) (h : zY) : Option ((Int32 ⊕ Nat) × zY) :=
  (yR h y0 5 3).bind fun x1 =>
  y1.bind fun a3 =>
  zgd (yisO h a3 0) <|
  (c100 n a3 x1 h).bind fun p6 =>
  if p6.1 = 0 then
    (yR p6.2 y0 5 3).bind fun x8 =>
    zgd (yisO p6.2 y0 5) <|
    (c70 n y0 2 x8 p6.2).bind fun p15 => zth p15 (fun r12 h13 =>
      cb99_20 n  y0 (some a3) h13)
      (fun x14 h13 =>
      zgd (exOk x14) <| some (.inr x14, h13))
  else
    cb99_20 n  y0 (some a3) p6.2
set_option maxRecDepth 20000 in
theorem k99 {n : Nat} {Mm : Nat → Option zO}   {y0 : Nat} {y1 : Option Nat} {kh : zH} {h : zY} {p : (Int32 ⊕ Nat) × zY} (hR : Rep Mm kh h) (hG : c99 n  y0 y1 h = some p) : ∃ kh1 : zH, f99 n  y0 y1 kh = some (p.1, kh1) ∧ Rep Mm kh1 p.2 := by
  unfold c99 at hG
  unfold f99
  replace hG := zbnd hG
  obtain ⟨x1, e1, hG⟩ := hG
  refine bE (k_gR hR e1) ?_
  replace hG := zbnd hG
  obtain ⟨a3, rfl, hG⟩ := hG
  refine bE rfl ?_
  replace hG := zgd_some hG
  obtain ⟨g3, hG⟩ := hG
  refine zE (k_isO hR g3) ?_
  replace hG := zbnd hG
  obtain ⟨p6, e4, hG⟩ := hG
  have hT := k100 hR e4
  clear hR
  obtain ⟨kh5, e6, hR⟩ := hT
  refine bE e6 ?_
  by_cases c7 : p6.1 = 0
  · rw [if_pos c7] at hG
    refine iE1 c7 ?_
    replace hG := zbnd hG
    obtain ⟨x8, e8, hG⟩ := hG
    refine bE (k_gR hR e8) ?_
    replace hG := zgd_some hG
    obtain ⟨g9, hG⟩ := hG
    refine zE (k_isO hR g9) ?_
    replace hG := zbnd hG
    obtain ⟨⟨r12, h13⟩, e10, hG⟩ := hG
    have hT := k70 hR e10
    clear hR
    obtain ⟨kh11, e12, hR⟩ := hT
    refine bE e12 ?_
    rcases r12 with r12 | x14
    · replace hG := zthG hG
      refine zthEl ?_
      exact kb99_20 (n := n) hR hG
    · replace hG := zthH hG
      refine zthEr ?_
      replace hG := zgd_some hG
      obtain ⟨g13, hG⟩ := hG
      refine zE g13 ?_
      replace hG := Option.some.inj hG
      subst hG
      exact ⟨_, rfl, hR⟩
  · rw [if_neg c7] at hG
    refine iE2 c7 ?_
    exact kb99_20 (n := n) hR hG
def c102 (n : Nat)  (y0 : Nat) (y1 : Int32) (y2 : Int32) (h : zY) : Option (Unit × zY) :=
  (yI h y0 7 4).bind fun x1 =>
  (yR h y0 7 2).bind fun x3 =>
  x3.bind fun a5 =>
  (yL h a5).bind fun x6 =>
  (c13 n x1 x6 h).bind fun p9 =>
  if p9.1 = 0 then
    some ((), p9.2)
  else
    (yI p9.2 y0 7 4).bind fun x11 =>
    (yR p9.2 y0 7 3).bind fun x13 =>
    x13.bind fun a15 =>
    (yL p9.2 a15).bind fun x16 =>
    (c13 n x11 x16 p9.2).bind fun p19 =>
    if p19.1 = 0 then
      some ((), p19.2)
    else
      (yR p19.2 y0 7 2).bind fun x21 =>
      (yI p19.2 y0 7 4).bind fun x23 =>
      x21.bind fun a25 =>
      (yS zsI p19.2 a25 x23 (.int y1)).bind fun h26 =>
      (yR h26 y0 7 3).bind fun x28 =>
      (yI h26 y0 7 4).bind fun x30 =>
      x28.bind fun a32 =>
      (yS zsI h26 a32 x30 (.int y2)).bind fun h33 =>
      (yI h33 y0 7 4).bind fun x35 =>
      (yP h33 y0 7 4 (.int (x35 + 1))).bind fun h37 =>
      some ((), h37)
set_option maxRecDepth 20000 in
theorem k102 {n : Nat} {Mm : Nat → Option zO}   {y0 : Nat} {y1 : Int32} {y2 : Int32} {kh : zH} {h : zY} {p : Unit × zY} (hR : Rep Mm kh h) (hG : c102 n  y0 y1 y2 h = some p) : ∃ kh1 : zH, f102 n  y0 y1 y2 kh = some (p.1, kh1) ∧ Rep Mm kh1 p.2 := by
  unfold c102 at hG
  unfold f102
  replace hG := zbnd hG
  obtain ⟨x1, e1, hG⟩ := hG
  refine bE (k_gI hR e1) ?_
  replace hG := zbnd hG
  obtain ⟨x3, e2, hG⟩ := hG
  refine bE (k_gR hR e2) ?_
  replace hG := zbnd hG
  obtain ⟨a5, rfl, hG⟩ := hG
  refine bE rfl ?_
  replace hG := zbnd hG
  obtain ⟨x6, e4, hG⟩ := hG
  refine bE (k_aN hR e4) ?_
  replace hG := zbnd hG
  obtain ⟨p9, e5, hG⟩ := hG
  have hT := k13 hR e5
  clear hR
  obtain ⟨kh6, e7, hR⟩ := hT
  refine bE e7 ?_
  by_cases c8 : p9.1 = 0
  · rw [if_pos c8] at hG
    refine iE1 c8 ?_
    replace hG := Option.some.inj hG
    subst hG
    exact ⟨_, rfl, hR⟩
  · rw [if_neg c8] at hG
    refine iE2 c8 ?_
    replace hG := zbnd hG
    obtain ⟨x11, e9, hG⟩ := hG
    refine bE (k_gI hR e9) ?_
    replace hG := zbnd hG
    obtain ⟨x13, e10, hG⟩ := hG
    refine bE (k_gR hR e10) ?_
    replace hG := zbnd hG
    obtain ⟨a15, rfl, hG⟩ := hG
    refine bE rfl ?_
    replace hG := zbnd hG
    obtain ⟨x16, e12, hG⟩ := hG
    refine bE (k_aN hR e12) ?_
    replace hG := zbnd hG
    obtain ⟨p19, e13, hG⟩ := hG
    have hT := k13 hR e13
    clear hR
    obtain ⟨kh14, e15, hR⟩ := hT
    refine bE e15 ?_
    by_cases c16 : p19.1 = 0
    · rw [if_pos c16] at hG
      refine iE1 c16 ?_
      replace hG := Option.some.inj hG
      subst hG
      exact ⟨_, rfl, hR⟩
    · rw [if_neg c16] at hG
      refine iE2 c16 ?_
      replace hG := zbnd hG
      obtain ⟨x21, e17, hG⟩ := hG
      refine bE (k_gR hR e17) ?_
      replace hG := zbnd hG
      obtain ⟨x23, e18, hG⟩ := hG
      refine bE (k_gI hR e18) ?_
      replace hG := zbnd hG
      obtain ⟨a25, rfl, hG⟩ := hG
      refine bE rfl ?_
      replace hG := zbnd hG
      obtain ⟨h26, e20, hG⟩ := hG
      have hT := k_sI hR e20
      clear hR
      obtain ⟨kh21, e22, hR⟩ := hT
      refine bE e22 ?_
      replace hG := zbnd hG
      obtain ⟨x28, e23, hG⟩ := hG
      refine bE (k_gR hR e23) ?_
      replace hG := zbnd hG
      obtain ⟨x30, e24, hG⟩ := hG
      refine bE (k_gI hR e24) ?_
      replace hG := zbnd hG
      obtain ⟨a32, rfl, hG⟩ := hG
      refine bE rfl ?_
      replace hG := zbnd hG
      obtain ⟨h33, e26, hG⟩ := hG
      have hT := k_sI hR e26
      clear hR
      obtain ⟨kh27, e28, hR⟩ := hT
      refine bE e28 ?_
      replace hG := zbnd hG
      obtain ⟨x35, e29, hG⟩ := hG
      refine bE (k_gI hR e29) ?_
      replace hG := zbnd hG
      obtain ⟨h37, e30, hG⟩ := hG
      have hT := k_pF hR e30
      clear hR
      obtain ⟨kh31, e32, hR⟩ := hT
      refine bE e32 ?_
      replace hG := Option.some.inj hG
      subst hG
      exact ⟨_, rfl, hR⟩
end ZCLS

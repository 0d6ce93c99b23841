/-! THE CLASS OVER AN ABSTRACT HEAP, 3 (written by a program of the verifier's) -/
section ZCLS
def cb65_100 (n : Nat)   (l0 : Nat) (l1 : Int32) (h : zY) : Option ((Unit ⊕ Nat) × zY) :=
  zgd (yisO h l0 5) <|
  (c111 n l0 h).bind fun p6 => zth p6 (fun r3 h4 =>
    (yR h4 l0 5 0).bind fun x7 =>
    x7.bind fun a9 =>
    zgd (yisO h4 a9 4) <|
    (c114 n a9 h4).bind fun p12 =>
    zgd (yisO p12.2 l0 5) <|
    (c117 n l0 p12.2).bind fun p18 => zth p18 (fun r15 h16 =>
      (yR h16 l0 5 0).bind fun x19 =>
      x19.bind fun a21 =>
      zgd (yisO h16 a21 4) <|
      (c118 n a21 h16).bind fun p24 =>
      some (.inl (), p24.2))
      (fun x17 h16 =>
      zgd (exOk x17) <| some (.inr x17, h16)))
    (fun x5 h4 =>
    zgd (exOk x5) <| some (.inr x5, h4))
set_option maxRecDepth 20000 in
theorem kb65_100 {n : Nat} {Mm : Nat → Option zO}     {l0 : Nat} {l1 : Int32}  {kh : zH} {h : zY} {p : (Unit ⊕ Nat) × zY} (hR : Rep Mm kh h) (hG : cb65_100 n   l0 l1 h = some p) : ∃ kh1 : zH, b65_100 n   l0 l1 kh = some (p.1, kh1) ∧ Rep Mm kh1 p.2 := by
  unfold cb65_100 at hG
  unfold b65_100
  replace hG := zgd_some hG
  obtain ⟨g1, hG⟩ := hG
  refine zE (k_isO hR g1) ?_
  replace hG := zbnd hG
  obtain ⟨⟨r3, h4⟩, e2, hG⟩ := hG
  have hT := k111 hR e2
  clear hR
  obtain ⟨kh3, e4, hR⟩ := hT
  refine bE e4 ?_
  rcases r3 with r3 | x5
  · replace hG := zthG hG
    refine zthEl ?_
    replace hG := zbnd hG
    obtain ⟨x7, e5, hG⟩ := hG
    refine bE (k_gR hR e5) ?_
    replace hG := zbnd hG
    obtain ⟨a9, rfl, hG⟩ := hG
    refine bE rfl ?_
    replace hG := zgd_some hG
    obtain ⟨g7, hG⟩ := hG
    refine zE (k_isO hR g7) ?_
    replace hG := zbnd hG
    obtain ⟨p12, e8, hG⟩ := hG
    have hT := k114 hR e8
    clear hR
    obtain ⟨kh9, e10, hR⟩ := hT
    refine bE e10 ?_
    replace hG := zgd_some hG
    obtain ⟨g11, hG⟩ := hG
    refine zE (k_isO hR g11) ?_
    replace hG := zbnd hG
    obtain ⟨⟨r15, h16⟩, e12, hG⟩ := hG
    have hT := k117 hR e12
    clear hR
    obtain ⟨kh13, e14, hR⟩ := hT
    refine bE e14 ?_
    rcases r15 with r15 | x17
    · replace hG := zthG hG
      refine zthEl ?_
      replace hG := zbnd hG
      obtain ⟨x19, e15, hG⟩ := hG
      refine bE (k_gR hR e15) ?_
      replace hG := zbnd hG
      obtain ⟨a21, rfl, hG⟩ := hG
      refine bE rfl ?_
      replace hG := zgd_some hG
      obtain ⟨g17, hG⟩ := hG
      refine zE (k_isO hR g17) ?_
      replace hG := zbnd hG
      obtain ⟨p24, e18, hG⟩ := hG
      have hT := k118 hR e18
      clear hR
      obtain ⟨kh19, e20, hR⟩ := hT
      refine bE e20 ?_
      replace hG := Option.some.inj hG
      subst hG
      exact ⟨_, rfl, hR⟩
    · replace hG := zthH hG
      refine zthEr ?_
      replace hG := zgd_some hG
      obtain ⟨g21, hG⟩ := hG
      refine zE g21 ?_
      replace hG := Option.some.inj hG
      subst hG
      exact ⟨_, rfl, hR⟩
  · replace hG := zthH hG
    refine zthEr ?_
    replace hG := zgd_some hG
    obtain ⟨g22, hG⟩ := hG
    refine zE g22 ?_
    replace hG := Option.some.inj hG
    subst hG
    exact ⟨_, rfl, hR⟩
def cb65_94 (n : Nat)  (r2 : Nat → Int32 → zY → Option ((Unit ⊕ Nat) × zY)) (l0 : Nat) (l1 : Int32) (h : zY) : Option ((Unit ⊕ Nat) × zY) :=
  r2 l0 (l1 + 1) h
set_option maxRecDepth 20000 in
theorem kb65_94 {n : Nat} {Mm : Nat → Option zO}  {q2 : Nat → Int32 → zY → Option ((Unit ⊕ Nat) × zY)} {r2 : Nat → Int32 → zH → Option ((Unit ⊕ Nat) × zH)}  (hr2 : ∀ {l0 : Nat} {l1 : Int32}  {kh : zH} {h : zY} {p : (Unit ⊕ Nat) × zY}, Rep Mm kh h → q2 l0 l1 h = some p → ∃ kh1 : zH, r2 l0 l1 kh = some (p.1, kh1) ∧ Rep Mm kh1 p.2) {l0 : Nat} {l1 : Int32}  {kh : zH} {h : zY} {p : (Unit ⊕ Nat) × zY} (hR : Rep Mm kh h) (hG : cb65_94 n  q2 l0 l1 h = some p) : ∃ kh1 : zH, b65_94 n  r2 l0 l1 kh = some (p.1, kh1) ∧ Rep Mm kh1 p.2 := by
  unfold cb65_94 at hG
  unfold b65_94
  exact hr2 hR hG
def cb65_2 (n : Nat)  (r2 : Nat → Int32 → zY → Option ((Unit ⊕ Nat) × zY)) (l0 : Nat) (l1 : Int32) (h : zY) : Option ((Unit ⊕ Nat) × zY) :=
  if (6000 : Int32) ≤ l1 then
    cb65_100 n  l0 l1 h
  else
    (yR h l0 5 3).bind fun x2 =>
    x2.bind fun a4 =>
    (yR h a4 9 0).bind fun x5 =>
    (rEq x5 (some 1)).bind fun b7 =>
    if b7 = true then
      cb65_100 n  l0 l1 h
    else
      (yR h l0 5 3).bind fun x10 =>
      x10.bind fun a12 =>
      (yR h a12 9 0).bind fun x13 =>
      x13.bind fun a15 =>
      zgd (yisO h a15 15) <|
      (c66 n a15 h).bind fun p18 =>
      (yaI p18.2 45 p18.1).bind fun x19 =>
      if x19 = 1 then
        zgd (yisO p18.2 l0 5) <|
        (c67 n l0 p18.2).bind fun p27 => zth p27 (fun r24 h25 =>
          cb65_94 n r2 l0 l1 h25)
          (fun x26 h25 =>
          zgd (exOk x26) <| some (.inr x26, h25))
      else
      if x19 = 2 then
        zgd (yisO p18.2 l0 5) <|
        (c90 n l0 p18.2).bind fun p34 => zth p34 (fun r31 h32 =>
          cb65_94 n r2 l0 l1 h32)
          (fun x33 h32 =>
          zgd (exOk x33) <| some (.inr x33, h32))
      else
      if x19 = 3 then
        zgd (yisO p18.2 l0 5) <|
        (c107 n l0 p18.2).bind fun p41 => zth p41 (fun r38 h39 =>
          cb65_94 n r2 l0 l1 h39)
          (fun x40 h39 =>
          zgd (exOk x40) <| some (.inr x40, h39))
      else
      (yR p18.2 l0 5 3).bind fun x42 =>
      zgd (yisO p18.2 l0 5) <|
      (c70 n l0 2 x42 p18.2).bind fun p49 => zth p49 (fun r46 h47 =>
        cb65_94 n r2 l0 l1 h47)
        (fun x48 h47 =>
        zgd (exOk x48) <| some (.inr x48, h47))
set_option maxRecDepth 20000 in
theorem kb65_2 {n : Nat} {Mm : Nat → Option zO}  {q2 : Nat → Int32 → zY → Option ((Unit ⊕ Nat) × zY)} {r2 : Nat → Int32 → zH → Option ((Unit ⊕ Nat) × zH)}  (hr2 : ∀ {l0 : Nat} {l1 : Int32}  {kh : zH} {h : zY} {p : (Unit ⊕ Nat) × zY}, Rep Mm kh h → q2 l0 l1 h = some p → ∃ kh1 : zH, r2 l0 l1 kh = some (p.1, kh1) ∧ Rep Mm kh1 p.2) {l0 : Nat} {l1 : Int32}  {kh : zH} {h : zY} {p : (Unit ⊕ Nat) × zY} (hR : Rep Mm kh h) (hG : cb65_2 n  q2 l0 l1 h = some p) : ∃ kh1 : zH, b65_2 n  r2 l0 l1 kh = some (p.1, kh1) ∧ Rep Mm kh1 p.2 := by
  unfold cb65_2 at hG
  unfold b65_2
  by_cases c1 : (6000 : Int32) ≤ l1
  · rw [if_pos c1] at hG
    refine iE1 c1 ?_
    exact kb65_100 (n := n) hR hG
  · rw [if_neg c1] at hG
    refine iE2 c1 ?_
    replace hG := zbnd hG
    obtain ⟨x2, e2, hG⟩ := hG
    refine bE (k_gR hR e2) ?_
    replace hG := zbnd hG
    obtain ⟨a4, rfl, hG⟩ := hG
    refine bE rfl ?_
    replace hG := zbnd hG
    obtain ⟨x5, e4, hG⟩ := hG
    refine bE (k_gR hR e4) ?_
    replace hG := zbnd hG
    obtain ⟨b7, e5, hG⟩ := hG
    refine bE e5 ?_
    by_cases c6 : b7 = true
    · rw [if_pos c6] at hG
      refine iE1 c6 ?_
      exact kb65_100 (n := n) hR hG
    · rw [if_neg c6] at hG
      refine iE2 c6 ?_
      replace hG := zbnd hG
      obtain ⟨x10, e7, hG⟩ := hG
      refine bE (k_gR hR e7) ?_
      replace hG := zbnd hG
      obtain ⟨a12, rfl, hG⟩ := hG
      refine bE rfl ?_
      replace hG := zbnd hG
      obtain ⟨x13, e9, hG⟩ := hG
      refine bE (k_gR hR e9) ?_
      replace hG := zbnd hG
      obtain ⟨a15, rfl, hG⟩ := hG
      refine bE rfl ?_
      replace hG := zgd_some hG
      obtain ⟨g11, hG⟩ := hG
      refine zE (k_isO hR g11) ?_
      replace hG := zbnd hG
      obtain ⟨p18, e12, hG⟩ := hG
      have hT := k66 hR e12
      clear hR
      obtain ⟨kh13, e14, hR⟩ := hT
      refine bE e14 ?_
      replace hG := zbnd hG
      obtain ⟨x19, e15, hG⟩ := hG
      refine bE (k_aI hR e15) ?_
      by_cases c16 : x19 = 1
      · rw [if_pos c16] at hG
        refine iE1 c16 ?_
        replace hG := zgd_some hG
        obtain ⟨g17, hG⟩ := hG
        refine zE (k_isO hR g17) ?_
        replace hG := zbnd hG
        obtain ⟨⟨r24, h25⟩, e18, hG⟩ := hG
        have hT := k67 hR e18
        clear hR
        obtain ⟨kh19, e20, hR⟩ := hT
        refine bE e20 ?_
        rcases r24 with r24 | x26
        · replace hG := zthG hG
          refine zthEl ?_
          exact kb65_94 (n := n) (q2 := q2) (r2 := r2) hr2 hR hG
        · replace hG := zthH hG
          refine zthEr ?_
          replace hG := zgd_some hG
          obtain ⟨g21, hG⟩ := hG
          refine zE g21 ?_
          replace hG := Option.some.inj hG
          subst hG
          exact ⟨_, rfl, hR⟩
      · rw [if_neg c16] at hG
        refine iE2 c16 ?_
        by_cases c22 : x19 = 2
        · rw [if_pos c22] at hG
          refine iE1 c22 ?_
          replace hG := zgd_some hG
          obtain ⟨g23, hG⟩ := hG
          refine zE (k_isO hR g23) ?_
          replace hG := zbnd hG
          obtain ⟨⟨r31, h32⟩, e24, hG⟩ := hG
          have hT := k90 hR e24
          clear hR
          obtain ⟨kh25, e26, hR⟩ := hT
          refine bE e26 ?_
          rcases r31 with r31 | x33
          · replace hG := zthG hG
            refine zthEl ?_
            exact kb65_94 (n := n) (q2 := q2) (r2 := r2) hr2 hR hG
          · replace hG := zthH hG
            refine zthEr ?_
            replace hG := zgd_some hG
            obtain ⟨g27, hG⟩ := hG
            refine zE g27 ?_
            replace hG := Option.some.inj hG
            subst hG
            exact ⟨_, rfl, hR⟩
        · rw [if_neg c22] at hG
          refine iE2 c22 ?_
          by_cases c28 : x19 = 3
          · rw [if_pos c28] at hG
            refine iE1 c28 ?_
            replace hG := zgd_some hG
            obtain ⟨g29, hG⟩ := hG
            refine zE (k_isO hR g29) ?_
            replace hG := zbnd hG
            obtain ⟨⟨r38, h39⟩, e30, hG⟩ := hG
            have hT := k107 hR e30
            clear hR
            obtain ⟨kh31, e32, hR⟩ := hT
            refine bE e32 ?_
            rcases r38 with r38 | x40
            · replace hG := zthG hG
              refine zthEl ?_
              exact kb65_94 (n := n) (q2 := q2) (r2 := r2) hr2 hR hG
            · replace hG := zthH hG
              refine zthEr ?_
              replace hG := zgd_some hG
              obtain ⟨g33, hG⟩ := hG
              refine zE g33 ?_
              replace hG := Option.some.inj hG
              subst hG
              exact ⟨_, rfl, hR⟩
          · rw [if_neg c28] at hG
            refine iE2 c28 ?_
            replace hG := zbnd hG
            obtain ⟨x42, e34, hG⟩ := hG
            refine bE (k_gR hR e34) ?_
            replace hG := zgd_some hG
            obtain ⟨g35, hG⟩ := hG
            refine zE (k_isO hR g35) ?_
            replace hG := zbnd hG
            obtain ⟨⟨r46, h47⟩, e36, hG⟩ := hG
            have hT := k70 hR e36
            clear hR
            obtain ⟨kh37, e38, hR⟩ := hT
            refine bE e38 ?_
            rcases r46 with r46 | x48
            · replace hG := zthG hG
              refine zthEl ?_
              exact kb65_94 (n := n) (q2 := q2) (r2 := r2) hr2 hR hG
            · replace hG := zthH hG
              refine zthEr ?_
              replace hG := zgd_some hG
              obtain ⟨g39, hG⟩ := hG
              refine zE g39 ?_
              replace hG := Option.some.inj hG
              subst hG
              exact ⟨_, rfl, hR⟩
def cf65_2 (n : Nat)   (k : Nat) : Nat → Int32 → zY → Option ((Unit ⊕ Nat) × zY) := Nat.rec (fun _ _ _ => none) (fun _ ih => cb65_2 n  ih) k
theorem kf65_2 {n : Nat} {Mm : Nat → Option zO}     (k : Nat) : ∀ {l0 : Nat} {l1 : Int32}  {kh : zH} {h : zY} {p : (Unit ⊕ Nat) × zY}, Rep Mm kh h → cf65_2 n   k l0 l1 h = some p → ∃ kh1 : zH, f65_2 n   k l0 l1 kh = some (p.1, kh1) ∧ Rep Mm kh1 p.2 := by
  induction k with
  | zero => intros; rename_i hG; cases hG
  | succ k ih => intros; rename_i hR hG; exact kb65_2 (n := n) (q2 := cf65_2 n   k) (r2 := f65_2 n   k)  ih hR hG
def c65 (n : Nat)  (y0 : Nat) (h : zY) : Option ((Unit ⊕ Nat) × zY) :=
  cf65_2 n  n y0 0 h
set_option maxRecDepth 20000 in
theorem k65 {n : Nat} {Mm : Nat → Option zO}   {y0 : Nat} {kh : zH} {h : zY} {p : (Unit ⊕ Nat) × zY} (hR : Rep Mm kh h) (hG : c65 n  y0 h = some p) : ∃ kh1 : zH, f65 n  y0 kh = some (p.1, kh1) ∧ Rep Mm kh1 p.2 := by
  unfold c65 at hG
  unfold f65
  exact kf65_2 (n := n) n hR hG
def c120 (n : Nat)  (y0 : Nat) (h : zY) : Option (Unit × zY) :=
  (yR h y0 1 5).bind fun x1 =>
  (c4 n x1 (-1) h).bind fun p4 =>
  some ((), p4.2)
set_option maxRecDepth 20000 in
theorem k120 {n : Nat} {Mm : Nat → Option zO}   {y0 : Nat} {kh : zH} {h : zY} {p : Unit × zY} (hR : Rep Mm kh h) (hG : c120 n  y0 h = some p) : ∃ kh1 : zH, f120 n  y0 kh = some (p.1, kh1) ∧ Rep Mm kh1 p.2 := by
  unfold c120 at hG
  unfold f120
  replace hG := zbnd hG
  obtain ⟨x1, e1, hG⟩ := hG
  refine bE (k_gR hR e1) ?_
  replace hG := zbnd hG
  obtain ⟨p4, e2, hG⟩ := hG
  have hT := k4 hR e2
  clear hR
  obtain ⟨kh3, e4, hR⟩ := hT
  refine bE e4 ?_
  replace hG := Option.some.inj hG
  subst hG
  exact ⟨_, rfl, hR⟩
def c9 (n : Nat)  (y0 : Nat) (h : zY) : Option (Int32 × zY) :=
  (yR (yN h 5 4) y0 10 0).bind fun x1 =>
  x1.bind fun a3 =>
  zgd (yisO (yN h 5 4) a3 8) <|
  (c10 n a3 (yN h 5 4)).bind fun p6 =>
  (c64 n h.2.1 p6.1 p6.2).bind fun p8 =>
  zgd (yisO p8.2 h.2.1 5) <|
  (c65 n h.2.1 p8.2).bind fun p14 => zth p14 (fun r11 h12 =>
    (yP h12 y0 10 3 (.int 0)).bind fun h22 =>
    (yR h22 h.2.1 5 0).bind fun x24 =>
    (yP h22 y0 10 2 (va_rf x24)).bind fun h26 =>
    (yR h26 y0 10 1).bind fun x28 =>
    x28.bind fun a30 =>
    zgd (yisO h26 a30 1) <|
    (c120 n a30 h26).bind fun p33 =>
    (yR p33.2 y0 10 2).bind fun x34 =>
    x34.bind fun a36 =>
    (yR p33.2 a36 4 4).bind fun x37 =>
    x37.bind fun a39 =>
    zgd (yisO p33.2 a39 14) <|
    (c68 n a39 p33.2).bind fun p42 =>
    some (p42.1, p42.2))
    (fun x13 h12 =>
    if x13 = 18 then
      (yI h12 h.2.1 5 1).bind fun x16 =>
      (yP h12 y0 10 3 (.int x16)).bind fun h18 =>
      (yI h18 h.2.1 5 2).bind fun x20 =>
      some (((-1) - x20), h18)
    else
    none)
set_option maxRecDepth 20000 in
theorem k9 {n : Nat} {Mm : Nat → Option zO}   {y0 : Nat} {kh : zH} {h : zY} {p : Int32 × zY} (hR : Rep Mm kh h) (hG : c9 n  y0 h = some p) : ∃ kh1 : zH, f9 n  y0 kh = some (p.1, kh1) ∧ Rep Mm kh1 p.2 := by
  unfold c9 at hG
  unfold f9
  try rw [rep_n hR] at hG
  replace hR := k_nO (ci := 5) (n := 4) hR
  replace hG := zbnd hG
  obtain ⟨x1, e1, hG⟩ := hG
  refine bE (k_gR hR e1) ?_
  replace hG := zbnd hG
  obtain ⟨a3, rfl, hG⟩ := hG
  refine bE rfl ?_
  replace hG := zgd_some hG
  obtain ⟨g3, hG⟩ := hG
  refine zE (k_isO hR g3) ?_
  replace hG := zbnd hG
  obtain ⟨p6, e4, hG⟩ := hG
  have hT := k10 hR e4
  clear hR
  obtain ⟨kh5, e6, hR⟩ := hT
  refine bE e6 ?_
  replace hG := zbnd hG
  obtain ⟨p8, e7, hG⟩ := hG
  have hT := k64 hR e7
  clear hR
  obtain ⟨kh8, e9, hR⟩ := hT
  refine bE e9 ?_
  replace hG := zgd_some hG
  obtain ⟨g10, hG⟩ := hG
  refine zE (k_isO hR g10) ?_
  replace hG := zbnd hG
  obtain ⟨⟨r11, h12⟩, e11, hG⟩ := hG
  have hT := k65 hR e11
  clear hR
  obtain ⟨kh12, e13, hR⟩ := hT
  refine bE e13 ?_
  rcases r11 with r11 | x13
  · replace hG := zthG hG
    refine zthEl ?_
    replace hG := zbnd hG
    obtain ⟨h22, e14, hG⟩ := hG
    have hT := k_pF hR e14
    clear hR
    obtain ⟨kh15, e16, hR⟩ := hT
    refine bE e16 ?_
    replace hG := zbnd hG
    obtain ⟨x24, e17, hG⟩ := hG
    refine bE (k_gR hR e17) ?_
    replace hG := zbnd hG
    obtain ⟨h26, e18, hG⟩ := hG
    have hT := k_pF hR e18
    clear hR
    obtain ⟨kh19, e20, hR⟩ := hT
    refine bE e20 ?_
    replace hG := zbnd hG
    obtain ⟨x28, e21, hG⟩ := hG
    refine bE (k_gR hR e21) ?_
    replace hG := zbnd hG
    obtain ⟨a30, rfl, hG⟩ := hG
    refine bE rfl ?_
    replace hG := zgd_some hG
    obtain ⟨g23, hG⟩ := hG
    refine zE (k_isO hR g23) ?_
    replace hG := zbnd hG
    obtain ⟨p33, e24, hG⟩ := hG
    have hT := k120 hR e24
    clear hR
    obtain ⟨kh25, e26, hR⟩ := hT
    refine bE e26 ?_
    replace hG := zbnd hG
    obtain ⟨x34, e27, hG⟩ := hG
    refine bE (k_gR hR e27) ?_
    replace hG := zbnd hG
    obtain ⟨a36, rfl, hG⟩ := hG
    refine bE rfl ?_
    replace hG := zbnd hG
    obtain ⟨x37, e29, hG⟩ := hG
    refine bE (k_gR hR e29) ?_
    replace hG := zbnd hG
    obtain ⟨a39, rfl, hG⟩ := hG
    refine bE rfl ?_
    replace hG := zgd_some hG
    obtain ⟨g31, hG⟩ := hG
    refine zE (k_isO hR g31) ?_
    replace hG := zbnd hG
    obtain ⟨p42, e32, hG⟩ := hG
    have hT := k68 hR e32
    clear hR
    obtain ⟨kh33, e34, hR⟩ := hT
    refine bE e34 ?_
    replace hG := Option.some.inj hG
    subst hG
    exact ⟨_, rfl, hR⟩
  · replace hG := zthH hG
    refine zthEr ?_
    by_cases c35 : x13 = 18
    · rw [if_pos c35] at hG
      refine iE1 c35 ?_
      replace hG := zbnd hG
      obtain ⟨x16, e36, hG⟩ := hG
      refine bE (k_gI hR e36) ?_
      replace hG := zbnd hG
      obtain ⟨h18, e37, hG⟩ := hG
      have hT := k_pF hR e37
      clear hR
      obtain ⟨kh38, e39, hR⟩ := hT
      refine bE e39 ?_
      replace hG := zbnd hG
      obtain ⟨x20, e40, hG⟩ := hG
      refine bE (k_gI hR e40) ?_
      replace hG := Option.some.inj hG
      subst hG
      exact ⟨_, rfl, hR⟩
    · rw [if_neg c35] at hG
      refine iE2 c35 ?_
      cases hG
def c121 (n : Nat)  (y0 : Nat) (h : zY) : Option (Int32 × zY) :=
  (yI h y0 10 3).bind fun x1 =>
  some (x1, h)
set_option maxRecDepth 20000 in
theorem k121 {n : Nat} {Mm : Nat → Option zO}   {y0 : Nat} {kh : zH} {h : zY} {p : Int32 × zY} (hR : Rep Mm kh h) (hG : c121 n  y0 h = some p) : ∃ kh1 : zH, f121 n  y0 kh = some (p.1, kh1) ∧ Rep Mm kh1 p.2 := by
  unfold c121 at hG
  unfold f121
  replace hG := zbnd hG
  obtain ⟨x1, e1, hG⟩ := hG
  refine bE (k_gI hR e1) ?_
  replace hG := Option.some.inj hG
  subst hG
  exact ⟨_, rfl, hR⟩
def c123 (n : Nat)  (y0 : Nat) (h : zY) : Option (Int32 × zY) :=
  (yI h y0 1 2).bind fun x1 =>
  (yP h y0 1 2 (.int 0)).bind fun h3 =>
  some (x1, h3)
set_option maxRecDepth 20000 in
theorem k123 {n : Nat} {Mm : Nat → Option zO}   {y0 : Nat} {kh : zH} {h : zY} {p : Int32 × zY} (hR : Rep Mm kh h) (hG : c123 n  y0 h = some p) : ∃ kh1 : zH, f123 n  y0 kh = some (p.1, kh1) ∧ Rep Mm kh1 p.2 := by
  unfold c123 at hG
  unfold f123
  replace hG := zbnd hG
  obtain ⟨x1, e1, hG⟩ := hG
  refine bE (k_gI hR e1) ?_
  replace hG := zbnd hG
  obtain ⟨h3, e2, hG⟩ := hG
  have hT := k_pF hR e2
  clear hR
  obtain ⟨kh3, e4, hR⟩ := hT
  refine bE e4 ?_
  replace hG := Option.some.inj hG
  subst hG
  exact ⟨_, rfl, hR⟩
def c122 (n : Nat)  (y0 : Nat) (h : zY) : Option (Int32 × zY) :=
  (yR h y0 10 1).bind fun x1 =>
  x1.bind fun a3 =>
  zgd (yisO h a3 1) <|
  (c123 n a3 h).bind fun p6 =>
  some (p6.1, p6.2)
set_option maxRecDepth 20000 in
theorem k122 {n : Nat} {Mm : Nat → Option zO}   {y0 : Nat} {kh : zH} {h : zY} {p : Int32 × zY} (hR : Rep Mm kh h) (hG : c122 n  y0 h = some p) : ∃ kh1 : zH, f122 n  y0 kh = some (p.1, kh1) ∧ Rep Mm kh1 p.2 := by
  unfold c122 at hG
  unfold f122
  replace hG := zbnd hG
  obtain ⟨x1, e1, hG⟩ := hG
  refine bE (k_gR hR e1) ?_
  replace hG := zbnd hG
  obtain ⟨a3, rfl, hG⟩ := hG
  refine bE rfl ?_
  replace hG := zgd_some hG
  obtain ⟨g3, hG⟩ := hG
  refine zE (k_isO hR g3) ?_
  replace hG := zbnd hG
  obtain ⟨p6, e4, hG⟩ := hG
  have hT := k123 hR e4
  clear hR
  obtain ⟨kh5, e6, hR⟩ := hT
  refine bE e6 ?_
  replace hG := Option.some.inj hG
  subst hG
  exact ⟨_, rfl, hR⟩
def cb126_42 (n : Nat)  (r3 : Nat → Int32 → Int32 → zY → Option (Unit × zY)) (l0 : Nat) (l1 : Int32) (l2 : Int32) (h : zY) : Option (Unit × zY) :=
  r3 l0 l1 (l2 + (-8)) h
set_option maxRecDepth 20000 in
theorem kb126_42 {n : Nat} {Mm : Nat → Option zO}  {q3 : Nat → Int32 → Int32 → zY → Option (Unit × zY)} {r3 : Nat → Int32 → Int32 → zH → Option (Unit × zH)}  (hr3 : ∀ {l0 : Nat} {l1 : Int32} {l2 : Int32}  {kh : zH} {h : zY} {p : Unit × zY}, Rep Mm kh h → q3 l0 l1 l2 h = some p → ∃ kh1 : zH, r3 l0 l1 l2 kh = some (p.1, kh1) ∧ Rep Mm kh1 p.2) {l0 : Nat} {l1 : Int32} {l2 : Int32}  {kh : zH} {h : zY} {p : Unit × zY} (hR : Rep Mm kh h) (hG : cb126_42 n  q3 l0 l1 l2 h = some p) : ∃ kh1 : zH, b126_42 n  r3 l0 l1 l2 kh = some (p.1, kh1) ∧ Rep Mm kh1 p.2 := by
  unfold cb126_42 at hG
  unfold b126_42
  exact hr3 hR hG
def cb126_3 (n : Nat)  (r3 : Nat → Int32 → Int32 → zY → Option (Unit × zY)) (l0 : Nat) (l1 : Int32) (l2 : Int32) (h : zY) : Option (Unit × zY) :=
  if l2 < 0 then
    some ((), h)
  else
    (yI h l0 8 1).bind fun x2 =>
    (yR h l0 8 0).bind fun x4 =>
    x4.bind fun a6 =>
    (yL h a6).bind fun x7 =>
    if x7 ≤ x2 then
      cb126_42 n r3 l0 l1 l2 h
    else
      (yR h l0 8 0).bind fun x10 =>
      (yI h l0 8 1).bind fun x12 =>
      x10.bind fun a14 =>
      (yS zsB h a14 x12 (.int ((l1 >>> (l2 &&& 31)).toInt8.toInt32))).bind fun h15 =>
      (yI h15 l0 8 1).bind fun x17 =>
      (yP h15 l0 8 1 (.int (x17 + 1))).bind fun h19 =>
      cb126_42 n r3 l0 l1 l2 h19
set_option maxRecDepth 20000 in
theorem kb126_3 {n : Nat} {Mm : Nat → Option zO}  {q3 : Nat → Int32 → Int32 → zY → Option (Unit × zY)} {r3 : Nat → Int32 → Int32 → zH → Option (Unit × zH)}  (hr3 : ∀ {l0 : Nat} {l1 : Int32} {l2 : Int32}  {kh : zH} {h : zY} {p : Unit × zY}, Rep Mm kh h → q3 l0 l1 l2 h = some p → ∃ kh1 : zH, r3 l0 l1 l2 kh = some (p.1, kh1) ∧ Rep Mm kh1 p.2) {l0 : Nat} {l1 : Int32} {l2 : Int32}  {kh : zH} {h : zY} {p : Unit × zY} (hR : Rep Mm kh h) (hG : cb126_3 n  q3 l0 l1 l2 h = some p) : ∃ kh1 : zH, b126_3 n  r3 l0 l1 l2 kh = some (p.1, kh1) ∧ Rep Mm kh1 p.2 := by
  unfold cb126_3 at hG
  unfold b126_3
  by_cases c1 : l2 < 0
  · rw [if_pos c1] at hG
    refine iE1 c1 ?_
    replace hG := Option.some.inj hG
    subst hG
    exact ⟨_, rfl, hR⟩
  · rw [if_neg c1] at hG
    refine iE2 c1 ?_
    replace hG := zbnd hG
    obtain ⟨x2, e2, hG⟩ := hG
    refine bE (k_gI hR e2) ?_
    replace hG := zbnd hG
    obtain ⟨x4, e3, hG⟩ := hG
    refine bE (k_gR hR e3) ?_
    replace hG := zbnd hG
    obtain ⟨a6, rfl, hG⟩ := hG
    refine bE rfl ?_
    replace hG := zbnd hG
    obtain ⟨x7, e5, hG⟩ := hG
    refine bE (k_aN hR e5) ?_
    by_cases c6 : x7 ≤ x2
    · rw [if_pos c6] at hG
      refine iE1 c6 ?_
      exact kb126_42 (n := n) (q3 := q3) (r3 := r3) hr3 hR hG
    · rw [if_neg c6] at hG
      refine iE2 c6 ?_
      replace hG := zbnd hG
      obtain ⟨x10, e7, hG⟩ := hG
      refine bE (k_gR hR e7) ?_
      replace hG := zbnd hG
      obtain ⟨x12, e8, hG⟩ := hG
      refine bE (k_gI hR e8) ?_
      replace hG := zbnd hG
      obtain ⟨a14, rfl, hG⟩ := hG
      refine bE rfl ?_
      replace hG := zbnd hG
      obtain ⟨h15, e10, hG⟩ := hG
      have hT := k_sB hR e10
      clear hR
      obtain ⟨kh11, e12, hR⟩ := hT
      refine bE e12 ?_
      replace hG := zbnd hG
      obtain ⟨x17, e13, hG⟩ := hG
      refine bE (k_gI hR e13) ?_
      replace hG := zbnd hG
      obtain ⟨h19, e14, hG⟩ := hG
      have hT := k_pF hR e14
      clear hR
      obtain ⟨kh15, e16, hR⟩ := hT
      refine bE e16 ?_
      exact kb126_42 (n := n) (q3 := q3) (r3 := r3) hr3 hR hG
def cf126_3 (n : Nat)   (k : Nat) : Nat → Int32 → Int32 → zY → Option (Unit × zY) := Nat.rec (fun _ _ _ _ => none) (fun _ ih => cb126_3 n  ih) k
theorem kf126_3 {n : Nat} {Mm : Nat → Option zO}     (k : Nat) : ∀ {l0 : Nat} {l1 : Int32} {l2 : Int32}  {kh : zH} {h : zY} {p : Unit × zY}, Rep Mm kh h → cf126_3 n   k l0 l1 l2 h = some p → ∃ kh1 : zH, f126_3 n   k l0 l1 l2 kh = some (p.1, kh1) ∧ Rep Mm kh1 p.2 := by
  induction k with
  | zero => intros; rename_i hG; cases hG
  | succ k ih => intros; rename_i hR hG; exact kb126_3 (n := n) (q3 := cf126_3 n   k) (r3 := f126_3 n   k)  ih hR hG
def c126 (n : Nat)  (y0 : Nat) (y1 : Int32) (h : zY) : Option (Unit × zY) :=
  cf126_3 n  n y0 y1 24 h
set_option maxRecDepth 20000 in
theorem k126 {n : Nat} {Mm : Nat → Option zO}   {y0 : Nat} {y1 : Int32} {kh : zH} {h : zY} {p : Unit × zY} (hR : Rep Mm kh h) (hG : c126 n  y0 y1 h = some p) : ∃ kh1 : zH, f126 n  y0 y1 kh = some (p.1, kh1) ∧ Rep Mm kh1 p.2 := by
  unfold c126 at hG
  unfold f126
  exact kf126_3 (n := n) n hR hG
def c125 (n : Nat)  (y0 : Nat) (y1 : Int32) (y2 : Int32) (y3 : Int32) (y4 : Int32) (y5 : Int32) (h : zY) : Option ((Int32 ⊕ Nat) × zY) :=
  (yR h y0 10 0).bind fun x1 =>
  x1.bind fun a3 =>
  (yI h a3 8 1).bind fun x4 =>
  if x4 ≤ 5980 then
    (yR h y0 10 0).bind fun x7 =>
    x7.bind fun a9 =>
    zgd (yisO h a9 8) <|
    (c126 n a9 y1 h).bind fun p12 =>
    (yR p12.2 y0 10 0).bind fun x13 =>
    x13.bind fun a15 =>
    zgd (yisO p12.2 a15 8) <|
    (c126 n a15 y2 p12.2).bind fun p18 =>
    (yR p18.2 y0 10 0).bind fun x19 =>
    x19.bind fun a21 =>
    zgd (yisO p18.2 a21 8) <|
    (c126 n a21 y3 p18.2).bind fun p24 =>
    (yR p24.2 y0 10 0).bind fun x25 =>
    x25.bind fun a27 =>
    zgd (yisO p24.2 a27 8) <|
    (c126 n a27 y4 p24.2).bind fun p30 =>
    (yR p30.2 y0 10 0).bind fun x31 =>
    x31.bind fun a33 =>
    zgd (yisO p30.2 a33 8) <|
    (c126 n a33 y5 p30.2).bind fun p36 =>
    (yR p36.2 y0 10 0).bind fun x37 =>
    x37.bind fun a39 =>
    (yI p36.2 a39 8 1).bind fun x40 =>
    some (.inl x40, p36.2)
  else
    some (.inr 19, thY h)
set_option maxRecDepth 20000 in
theorem k125 {n : Nat} {Mm : Nat → Option zO}   {y0 : Nat} {y1 : Int32} {y2 : Int32} {y3 : Int32} {y4 : Int32} {y5 : Int32} {kh : zH} {h : zY} {p : (Int32 ⊕ Nat) × zY} (hR : Rep Mm kh h) (hG : c125 n  y0 y1 y2 y3 y4 y5 h = some p) : ∃ kh1 : zH, f125 n  y0 y1 y2 y3 y4 y5 kh = some (p.1, kh1) ∧ Rep Mm kh1 p.2 := by
  unfold c125 at hG
  unfold f125
  replace hG := zbnd hG
  obtain ⟨x1, e1, hG⟩ := hG
  refine bE (k_gR hR e1) ?_
  replace hG := zbnd hG
  obtain ⟨a3, rfl, hG⟩ := hG
  refine bE rfl ?_
  replace hG := zbnd hG
  obtain ⟨x4, e3, hG⟩ := hG
  refine bE (k_gI hR e3) ?_
  by_cases c4 : x4 ≤ 5980
  · rw [if_pos c4] at hG
    refine iE1 c4 ?_
    replace hG := zbnd hG
    obtain ⟨x7, e5, hG⟩ := hG
    refine bE (k_gR hR e5) ?_
    replace hG := zbnd hG
    obtain ⟨a9, rfl, hG⟩ := hG
    refine bE rfl ?_
    replace hG := zgd_some hG
    obtain ⟨g7, hG⟩ := hG
    refine zE (k_isO hR g7) ?_
    replace hG := zbnd hG
    obtain ⟨p12, e8, hG⟩ := hG
    have hT := k126 hR e8
    clear hR
    obtain ⟨kh9, e10, hR⟩ := hT
    refine bE e10 ?_
    replace hG := zbnd hG
    obtain ⟨x13, e11, hG⟩ := hG
    refine bE (k_gR hR e11) ?_
    replace hG := zbnd hG
    obtain ⟨a15, rfl, hG⟩ := hG
    refine bE rfl ?_
    replace hG := zgd_some hG
    obtain ⟨g13, hG⟩ := hG
    refine zE (k_isO hR g13) ?_
    replace hG := zbnd hG
    obtain ⟨p18, e14, hG⟩ := hG
    have hT := k126 hR e14
    clear hR
    obtain ⟨kh15, e16, hR⟩ := hT
    refine bE e16 ?_
    replace hG := zbnd hG
    obtain ⟨x19, e17, hG⟩ := hG
    refine bE (k_gR hR e17) ?_
    replace hG := zbnd hG
    obtain ⟨a21, rfl, hG⟩ := hG
    refine bE rfl ?_
    replace hG := zgd_some hG
    obtain ⟨g19, hG⟩ := hG
    refine zE (k_isO hR g19) ?_
    replace hG := zbnd hG
    obtain ⟨p24, e20, hG⟩ := hG
    have hT := k126 hR e20
    clear hR
    obtain ⟨kh21, e22, hR⟩ := hT
    refine bE e22 ?_
    replace hG := zbnd hG
    obtain ⟨x25, e23, hG⟩ := hG
    refine bE (k_gR hR e23) ?_
    replace hG := zbnd hG
    obtain ⟨a27, rfl, hG⟩ := hG
    refine bE rfl ?_
    replace hG := zgd_some hG
    obtain ⟨g25, hG⟩ := hG
    refine zE (k_isO hR g25) ?_
    replace hG := zbnd hG
    obtain ⟨p30, e26, hG⟩ := hG
    have hT := k126 hR e26
    clear hR
    obtain ⟨kh27, e28, hR⟩ := hT
    refine bE e28 ?_
    replace hG := zbnd hG
    obtain ⟨x31, e29, hG⟩ := hG
    refine bE (k_gR hR e29) ?_
    replace hG := zbnd hG
    obtain ⟨a33, rfl, hG⟩ := hG
    refine bE rfl ?_
    replace hG := zgd_some hG
    obtain ⟨g31, hG⟩ := hG
    refine zE (k_isO hR g31) ?_
    replace hG := zbnd hG
    obtain ⟨p36, e32, hG⟩ := hG
    have hT := k126 hR e32
    clear hR
    obtain ⟨kh33, e34, hR⟩ := hT
    refine bE e34 ?_
    replace hG := zbnd hG
    obtain ⟨x37, e35, hG⟩ := hG
    refine bE (k_gR hR e35) ?_
    replace hG := zbnd hG
    obtain ⟨a39, rfl, hG⟩ := hG
    refine bE rfl ?_
    replace hG := zbnd hG
    obtain ⟨x40, e37, hG⟩ := hG
    refine bE (k_gI hR e37) ?_
    replace hG := Option.some.inj hG
    subst hG
    exact ⟨_, rfl, hR⟩
  · rw [if_neg c4] at hG
    refine iE2 c4 ?_
    replace hG := Option.some.inj hG
    subst hG
    exact ⟨_, rfl, k_th hR⟩
def c124 (n : Nat)  (y0 : Option Nat) (y1 : Int32) (y2 : Int32) (y3 : Int32) (y4 : Int32) (y5 : Int32) (y6 : Option Nat) (h : zY) : Option (Int32 × zY) :=
  y0.bind fun a1 =>
  zgd (yisO h a1 10) <|
  (c125 n a1 y1 y2 y3 y4 y5 h).bind fun p7 => zth p7 (fun r4 h5 =>
    y6.bind fun a9 =>
    (yS zsL h5 a9 0 (.long r4.toInt64)).bind fun h10 =>
    some (0, h10))
    (fun x6 h5 =>
    if x6 = 19 then
      some (1, h5)
    else
    none)
set_option maxRecDepth 20000 in
theorem k124 {n : Nat} {Mm : Nat → Option zO}   {y0 : Option Nat} {y1 : Int32} {y2 : Int32} {y3 : Int32} {y4 : Int32} {y5 : Int32} {y6 : Option Nat} {kh : zH} {h : zY} {p : Int32 × zY} (hR : Rep Mm kh h) (hG : c124 n  y0 y1 y2 y3 y4 y5 y6 h = some p) : ∃ kh1 : zH, f124 n  y0 y1 y2 y3 y4 y5 y6 kh = some (p.1, kh1) ∧ Rep Mm kh1 p.2 := by
  unfold c124 at hG
  unfold f124
  replace hG := zbnd hG
  obtain ⟨a1, rfl, hG⟩ := hG
  refine bE rfl ?_
  replace hG := zgd_some hG
  obtain ⟨g2, hG⟩ := hG
  refine zE (k_isO hR g2) ?_
  replace hG := zbnd hG
  obtain ⟨⟨r4, h5⟩, e3, hG⟩ := hG
  have hT := k125 hR e3
  clear hR
  obtain ⟨kh4, e5, hR⟩ := hT
  refine bE e5 ?_
  rcases r4 with r4 | x6
  · replace hG := zthG hG
    refine zthEl ?_
    replace hG := zbnd hG
    obtain ⟨a9, rfl, hG⟩ := hG
    refine bE rfl ?_
    replace hG := zbnd hG
    obtain ⟨h10, e7, hG⟩ := hG
    have hT := k_sJ hR e7
    clear hR
    obtain ⟨kh8, e9, hR⟩ := hT
    refine bE e9 ?_
    replace hG := Option.some.inj hG
    subst hG
    exact ⟨_, rfl, hR⟩
  · replace hG := zthH hG
    refine zthEr ?_
    by_cases c10 : x6 = 19
    · rw [if_pos c10] at hG
      refine iE1 c10 ?_
      replace hG := Option.some.inj hG
      subst hG
      exact ⟨_, rfl, hR⟩
    · rw [if_neg c10] at hG
      refine iE2 c10 ?_
      cases hG
def cb128_15 (n : Nat)   (l0 : Nat) (l1 : Int32) (h : zY) : Option ((Unit ⊕ Nat) × zY) :=
  some (.inr 18, thY h)
set_option maxRecDepth 20000 in
theorem kb128_15 {n : Nat} {Mm : Nat → Option zO}     {l0 : Nat} {l1 : Int32}  {kh : zH} {h : zY} {p : (Unit ⊕ Nat) × zY} (hR : Rep Mm kh h) (hG : cb128_15 n   l0 l1 h = some p) : ∃ kh1 : zH, b128_15 n   l0 l1 kh = some (p.1, kh1) ∧ Rep Mm kh1 p.2 := by
  unfold cb128_15 at hG
  unfold b128_15
  replace hG := Option.some.inj hG
  subst hG
  exact ⟨_, rfl, k_th hR⟩
def c128 (n : Nat)  (y0 : Nat) (y1 : Int32) (h : zY) : Option ((Unit ⊕ Nat) × zY) :=
  if y1 < 0 then
    cb128_15 n  y0 y1 h
  else
    (yR h y0 10 0).bind fun x2 =>
    x2.bind fun a4 =>
    (yI h a4 8 1).bind fun x5 =>
    if y1 ≤ x5 then
      (yR h y0 10 0).bind fun x8 =>
      x8.bind fun a10 =>
      (yP h a10 8 1 (.int y1)).bind fun h11 =>
      some (.inl (), h11)
    else
      cb128_15 n  y0 y1 h
set_option maxRecDepth 20000 in
theorem k128 {n : Nat} {Mm : Nat → Option zO}   {y0 : Nat} {y1 : Int32} {kh : zH} {h : zY} {p : (Unit ⊕ Nat) × zY} (hR : Rep Mm kh h) (hG : c128 n  y0 y1 h = some p) : ∃ kh1 : zH, f128 n  y0 y1 kh = some (p.1, kh1) ∧ Rep Mm kh1 p.2 := by
  unfold c128 at hG
  unfold f128
  by_cases c1 : y1 < 0
  · rw [if_pos c1] at hG
    refine iE1 c1 ?_
    exact kb128_15 (n := n) hR hG
  · rw [if_neg c1] at hG
    refine iE2 c1 ?_
    replace hG := zbnd hG
    obtain ⟨x2, e2, hG⟩ := hG
    refine bE (k_gR hR e2) ?_
    replace hG := zbnd hG
    obtain ⟨a4, rfl, hG⟩ := hG
    refine bE rfl ?_
    replace hG := zbnd hG
    obtain ⟨x5, e4, hG⟩ := hG
    refine bE (k_gI hR e4) ?_
    by_cases c5 : y1 ≤ x5
    · rw [if_pos c5] at hG
      refine iE1 c5 ?_
      replace hG := zbnd hG
      obtain ⟨x8, e6, hG⟩ := hG
      refine bE (k_gR hR e6) ?_
      replace hG := zbnd hG
      obtain ⟨a10, rfl, hG⟩ := hG
      refine bE rfl ?_
      replace hG := zbnd hG
      obtain ⟨h11, e8, hG⟩ := hG
      have hT := k_pF hR e8
      clear hR
      obtain ⟨kh9, e10, hR⟩ := hT
      refine bE e10 ?_
      replace hG := Option.some.inj hG
      subst hG
      exact ⟨_, rfl, hR⟩
    · rw [if_neg c5] at hG
      refine iE2 c5 ?_
      exact kb128_15 (n := n) hR hG
def c127 (n : Nat)  (y0 : Option Nat) (y1 : Int32) (h : zY) : Option (Int32 × zY) :=
  y0.bind fun a1 =>
  zgd (yisO h a1 10) <|
  (c128 n a1 y1 h).bind fun p7 => zth p7 (fun r4 h5 =>
    some (0, h5))
    (fun x6 h5 =>
    if x6 = 18 then
      some (1, h5)
    else
    none)
set_option maxRecDepth 20000 in
theorem k127 {n : Nat} {Mm : Nat → Option zO}   {y0 : Option Nat} {y1 : Int32} {kh : zH} {h : zY} {p : Int32 × zY} (hR : Rep Mm kh h) (hG : c127 n  y0 y1 h = some p) : ∃ kh1 : zH, f127 n  y0 y1 kh = some (p.1, kh1) ∧ Rep Mm kh1 p.2 := by
  unfold c127 at hG
  unfold f127
  replace hG := zbnd hG
  obtain ⟨a1, rfl, hG⟩ := hG
  refine bE rfl ?_
  replace hG := zgd_some hG
  obtain ⟨g2, hG⟩ := hG
  refine zE (k_isO hR g2) ?_
  replace hG := zbnd hG
  obtain ⟨⟨r4, h5⟩, e3, hG⟩ := hG
  have hT := k128 hR e3
  clear hR
  obtain ⟨kh4, e5, hR⟩ := hT
  refine bE e5 ?_
  rcases r4 with r4 | x6
  · replace hG := zthG hG
    refine zthEl ?_
    replace hG := Option.some.inj hG
    subst hG
    exact ⟨_, rfl, hR⟩
  · replace hG := zthH hG
    refine zthEr ?_
    by_cases c6 : x6 = 18
    · rw [if_pos c6] at hG
      refine iE1 c6 ?_
      replace hG := Option.some.inj hG
      subst hG
      exact ⟨_, rfl, hR⟩
    · rw [if_neg c6] at hG
      refine iE2 c6 ?_
      cases hG
def c130 (n : Nat)  (y0 : Nat) (y1 : Int32) (h : zY) : Option ((Int32 ⊕ Nat) × zY) :=
  if y1 = 0 then
    (yR h y0 10 2).bind fun x2 =>
    x2.bind fun a4 =>
    (yR h a4 4 3).bind fun x5 =>
    x5.bind fun a7 =>
    zgd (yisO h a7 14) <|
    (c68 n a7 h).bind fun p10 =>
    some (.inl p10.1, p10.2)
  else
  if y1 = 1 then
    (yR h y0 10 2).bind fun x12 =>
    x12.bind fun a14 =>
    (yR h a14 4 4).bind fun x15 =>
    x15.bind fun a17 =>
    zgd (yisO h a17 14) <|
    (c68 n a17 h).bind fun p20 =>
    some (.inl p20.1, p20.2)
  else
  if y1 = 2 then
    (yR h y0 10 2).bind fun x22 =>
    x22.bind fun a24 =>
    (yR h a24 4 5).bind fun x25 =>
    x25.bind fun a27 =>
    zgd (yisO h a27 14) <|
    (c68 n a27 h).bind fun p30 =>
    some (.inl p30.1, p30.2)
  else
  if y1 = 3 then
    (yR h y0 10 2).bind fun x32 =>
    x32.bind fun a34 =>
    (yR h a34 4 6).bind fun x35 =>
    x35.bind fun a37 =>
    zgd (yisO h a37 14) <|
    (c68 n a37 h).bind fun p40 =>
    some (.inl p40.1, p40.2)
  else
  if y1 = 4 then
    (yR h y0 10 2).bind fun x42 =>
    x42.bind fun a44 =>
    (yI h a44 4 8).bind fun x45 =>
    some (.inl x45, h)
  else
  if y1 = 5 then
    (yR h y0 10 2).bind fun x48 =>
    x48.bind fun a50 =>
    (yR h a50 4 7).bind fun x51 =>
    x51.bind fun a53 =>
    zgd (yisO h a53 14) <|
    (c68 n a53 h).bind fun p56 =>
    some (.inl p56.1, p56.2)
  else
  if y1 = 6 then
    (yR h y0 10 2).bind fun x58 =>
    x58.bind fun a60 =>
    (yI h a60 4 9).bind fun x61 =>
    some (.inl x61, h)
  else
  if y1 = 7 then
    (yR h y0 10 1).bind fun x64 =>
    x64.bind fun a66 =>
    (yI h a66 1 2).bind fun x67 =>
    some (.inl x67, h)
  else
  some (.inr 20, thY h)
set_option maxRecDepth 20000 in
theorem k130 {n : Nat} {Mm : Nat → Option zO}   {y0 : Nat} {y1 : Int32} {kh : zH} {h : zY} {p : (Int32 ⊕ Nat) × zY} (hR : Rep Mm kh h) (hG : c130 n  y0 y1 h = some p) : ∃ kh1 : zH, f130 n  y0 y1 kh = some (p.1, kh1) ∧ Rep Mm kh1 p.2 := by
  unfold c130 at hG
  unfold f130
  by_cases c1 : y1 = 0
  · rw [if_pos c1] at hG
    refine iE1 c1 ?_
    replace hG := zbnd hG
    obtain ⟨x2, e2, hG⟩ := hG
    refine bE (k_gR hR e2) ?_
    replace hG := zbnd hG
    obtain ⟨a4, rfl, hG⟩ := hG
    refine bE rfl ?_
    replace hG := zbnd hG
    obtain ⟨x5, e4, hG⟩ := hG
    refine bE (k_gR hR e4) ?_
    replace hG := zbnd hG
    obtain ⟨a7, rfl, hG⟩ := hG
    refine bE rfl ?_
    replace hG := zgd_some hG
    obtain ⟨g6, hG⟩ := hG
    refine zE (k_isO hR g6) ?_
    replace hG := zbnd hG
    obtain ⟨p10, e7, hG⟩ := hG
    have hT := k68 hR e7
    clear hR
    obtain ⟨kh8, e9, hR⟩ := hT
    refine bE e9 ?_
    replace hG := Option.some.inj hG
    subst hG
    exact ⟨_, rfl, hR⟩
  · rw [if_neg c1] at hG
    refine iE2 c1 ?_
    by_cases c10 : y1 = 1
    · rw [if_pos c10] at hG
      refine iE1 c10 ?_
      replace hG := zbnd hG
      obtain ⟨x12, e11, hG⟩ := hG
      refine bE (k_gR hR e11) ?_
      replace hG := zbnd hG
      obtain ⟨a14, rfl, hG⟩ := hG
      refine bE rfl ?_
      replace hG := zbnd hG
      obtain ⟨x15, e13, hG⟩ := hG
      refine bE (k_gR hR e13) ?_
      replace hG := zbnd hG
      obtain ⟨a17, rfl, hG⟩ := hG
      refine bE rfl ?_
      replace hG := zgd_some hG
      obtain ⟨g15, hG⟩ := hG
      refine zE (k_isO hR g15) ?_
      replace hG := zbnd hG
      obtain ⟨p20, e16, hG⟩ := hG
      have hT := k68 hR e16
      clear hR
      obtain ⟨kh17, e18, hR⟩ := hT
      refine bE e18 ?_
      replace hG := Option.some.inj hG
      subst hG
      exact ⟨_, rfl, hR⟩
    · rw [if_neg c10] at hG
      refine iE2 c10 ?_
      by_cases c19 : y1 = 2
      · rw [if_pos c19] at hG
        refine iE1 c19 ?_
        replace hG := zbnd hG
        obtain ⟨x22, e20, hG⟩ := hG
        refine bE (k_gR hR e20) ?_
        replace hG := zbnd hG
        obtain ⟨a24, rfl, hG⟩ := hG
        refine bE rfl ?_
        replace hG := zbnd hG
        obtain ⟨x25, e22, hG⟩ := hG
        refine bE (k_gR hR e22) ?_
        replace hG := zbnd hG
        obtain ⟨a27, rfl, hG⟩ := hG
        refine bE rfl ?_
        replace hG := zgd_some hG
        obtain ⟨g24, hG⟩ := hG
        refine zE (k_isO hR g24) ?_
        replace hG := zbnd hG
        obtain ⟨p30, e25, hG⟩ := hG
        have hT := k68 hR e25
        clear hR
        obtain ⟨kh26, e27, hR⟩ := hT
        refine bE e27 ?_
        replace hG := Option.some.inj hG
        subst hG
        exact ⟨_, rfl, hR⟩
      · rw [if_neg c19] at hG
        refine iE2 c19 ?_
        by_cases c28 : y1 = 3
        · rw [if_pos c28] at hG
          refine iE1 c28 ?_
          replace hG := zbnd hG
          obtain ⟨x32, e29, hG⟩ := hG
          refine bE (k_gR hR e29) ?_
          replace hG := zbnd hG
          obtain ⟨a34, rfl, hG⟩ := hG
          refine bE rfl ?_
          replace hG := zbnd hG
          obtain ⟨x35, e31, hG⟩ := hG
          refine bE (k_gR hR e31) ?_
          replace hG := zbnd hG
          obtain ⟨a37, rfl, hG⟩ := hG
          refine bE rfl ?_
          replace hG := zgd_some hG
          obtain ⟨g33, hG⟩ := hG
          refine zE (k_isO hR g33) ?_
          replace hG := zbnd hG
          obtain ⟨p40, e34, hG⟩ := hG
          have hT := k68 hR e34
          clear hR
          obtain ⟨kh35, e36, hR⟩ := hT
          refine bE e36 ?_
          replace hG := Option.some.inj hG
          subst hG
          exact ⟨_, rfl, hR⟩
        · rw [if_neg c28] at hG
          refine iE2 c28 ?_
          by_cases c37 : y1 = 4
          · rw [if_pos c37] at hG
            refine iE1 c37 ?_
            replace hG := zbnd hG
            obtain ⟨x42, e38, hG⟩ := hG
            refine bE (k_gR hR e38) ?_
            replace hG := zbnd hG
            obtain ⟨a44, rfl, hG⟩ := hG
            refine bE rfl ?_
            replace hG := zbnd hG
            obtain ⟨x45, e40, hG⟩ := hG
            refine bE (k_gI hR e40) ?_
            replace hG := Option.some.inj hG
            subst hG
            exact ⟨_, rfl, hR⟩
          · rw [if_neg c37] at hG
            refine iE2 c37 ?_
            by_cases c41 : y1 = 5
            · rw [if_pos c41] at hG
              refine iE1 c41 ?_
              replace hG := zbnd hG
              obtain ⟨x48, e42, hG⟩ := hG
              refine bE (k_gR hR e42) ?_
              replace hG := zbnd hG
              obtain ⟨a50, rfl, hG⟩ := hG
              refine bE rfl ?_
              replace hG := zbnd hG
              obtain ⟨x51, e44, hG⟩ := hG
              refine bE (k_gR hR e44) ?_
              replace hG := zbnd hG
              obtain ⟨a53, rfl, hG⟩ := hG
              refine bE rfl ?_
              replace hG := zgd_some hG
              obtain ⟨g46, hG⟩ := hG
              refine zE (k_isO hR g46) ?_
              replace hG := zbnd hG
              obtain ⟨p56, e47, hG⟩ := hG
              have hT := k68 hR e47
              clear hR
              obtain ⟨kh48, e49, hR⟩ := hT
              refine bE e49 ?_
              replace hG := Option.some.inj hG
              subst hG
              exact ⟨_, rfl, hR⟩
            · rw [if_neg c41] at hG
              refine iE2 c41 ?_
              by_cases c50 : y1 = 6
              · rw [if_pos c50] at hG
                refine iE1 c50 ?_
                replace hG := zbnd hG
                obtain ⟨x58, e51, hG⟩ := hG
                refine bE (k_gR hR e51) ?_
                replace hG := zbnd hG
                obtain ⟨a60, rfl, hG⟩ := hG
                refine bE rfl ?_
                replace hG := zbnd hG
                obtain ⟨x61, e53, hG⟩ := hG
                refine bE (k_gI hR e53) ?_
                replace hG := Option.some.inj hG
                subst hG
                exact ⟨_, rfl, hR⟩
              · rw [if_neg c50] at hG
                refine iE2 c50 ?_
                by_cases c54 : y1 = 7
                · rw [if_pos c54] at hG
                  refine iE1 c54 ?_
                  replace hG := zbnd hG
                  obtain ⟨x64, e55, hG⟩ := hG
                  refine bE (k_gR hR e55) ?_
                  replace hG := zbnd hG
                  obtain ⟨a66, rfl, hG⟩ := hG
                  refine bE rfl ?_
                  replace hG := zbnd hG
                  obtain ⟨x67, e57, hG⟩ := hG
                  refine bE (k_gI hR e57) ?_
                  replace hG := Option.some.inj hG
                  subst hG
                  exact ⟨_, rfl, hR⟩
                · rw [if_neg c54] at hG
                  refine iE2 c54 ?_
                  replace hG := Option.some.inj hG
                  subst hG
                  exact ⟨_, rfl, k_th hR⟩
def c129 (n : Nat)  (y0 : Option Nat) (y1 : Int32) (y2 : Option Nat) (h : zY) : Option (Int32 × zY) :=
  y0.bind fun a1 =>
  zgd (yisO h a1 10) <|
  (c130 n a1 y1 h).bind fun p7 => zth p7 (fun r4 h5 =>
    y2.bind fun a9 =>
    (yS zsL h5 a9 0 (.long r4.toInt64)).bind fun h10 =>
    some (0, h10))
    (fun x6 h5 =>
    if x6 = 20 then
      some (1, h5)
    else
    none)
set_option maxRecDepth 20000 in
theorem k129 {n : Nat} {Mm : Nat → Option zO}   {y0 : Option Nat} {y1 : Int32} {y2 : Option Nat} {kh : zH} {h : zY} {p : Int32 × zY} (hR : Rep Mm kh h) (hG : c129 n  y0 y1 y2 h = some p) : ∃ kh1 : zH, f129 n  y0 y1 y2 kh = some (p.1, kh1) ∧ Rep Mm kh1 p.2 := by
  unfold c129 at hG
  unfold f129
  replace hG := zbnd hG
  obtain ⟨a1, rfl, hG⟩ := hG
  refine bE rfl ?_
  replace hG := zgd_some hG
  obtain ⟨g2, hG⟩ := hG
  refine zE (k_isO hR g2) ?_
  replace hG := zbnd hG
  obtain ⟨⟨r4, h5⟩, e3, hG⟩ := hG
  have hT := k130 hR e3
  clear hR
  obtain ⟨kh4, e5, hR⟩ := hT
  refine bE e5 ?_
  rcases r4 with r4 | x6
  · replace hG := zthG hG
    refine zthEl ?_
    replace hG := zbnd hG
    obtain ⟨a9, rfl, hG⟩ := hG
    refine bE rfl ?_
    replace hG := zbnd hG
    obtain ⟨h10, e7, hG⟩ := hG
    have hT := k_sJ hR e7
    clear hR
    obtain ⟨kh8, e9, hR⟩ := hT
    refine bE e9 ?_
    replace hG := Option.some.inj hG
    subst hG
    exact ⟨_, rfl, hR⟩
  · replace hG := zthH hG
    refine zthEr ?_
    by_cases c10 : x6 = 20
    · rw [if_pos c10] at hG
      refine iE1 c10 ?_
      replace hG := Option.some.inj hG
      subst hG
      exact ⟨_, rfl, hR⟩
    · rw [if_neg c10] at hG
      refine iE2 c10 ?_
      cases hG
def cb134_46 (n : Nat)  (r2 : Nat → Option Nat → Int32 → zY → Option (Int32 × zY)) (l0 : Nat) (l1 : Option Nat) (l2 : Int32) (h : zY) : Option (Int32 × zY) :=
  r2 l0 l1 (l2 + 1) h
set_option maxRecDepth 20000 in
theorem kb134_46 {n : Nat} {Mm : Nat → Option zO}  {q2 : Nat → Option Nat → Int32 → zY → Option (Int32 × zY)} {r2 : Nat → Option Nat → Int32 → zH → Option (Int32 × zH)}  (hr2 : ∀ {l0 : Nat} {l1 : Option Nat} {l2 : Int32}  {kh : zH} {h : zY} {p : Int32 × zY}, Rep Mm kh h → q2 l0 l1 l2 h = some p → ∃ kh1 : zH, r2 l0 l1 l2 kh = some (p.1, kh1) ∧ Rep Mm kh1 p.2) {l0 : Nat} {l1 : Option Nat} {l2 : Int32}  {kh : zH} {h : zY} {p : Int32 × zY} (hR : Rep Mm kh h) (hG : cb134_46 n  q2 l0 l1 l2 h = some p) : ∃ kh1 : zH, b134_46 n  r2 l0 l1 l2 kh = some (p.1, kh1) ∧ Rep Mm kh1 p.2 := by
  unfold cb134_46 at hG
  unfold b134_46
  exact hr2 hR hG
def cb134_2 (n : Nat)  (r2 : Nat → Option Nat → Int32 → zY → Option (Int32 × zY)) (l0 : Nat) (l1 : Option Nat) (l2 : Int32) (h : zY) : Option (Int32 × zY) :=
  (yI h l0 1 2).bind fun x1 =>
  if x1 ≤ l2 then
    some ((-1), h)
  else
    (yR h l0 1 0).bind fun x4 =>
    x4.bind fun a6 =>
    (yL h a6).bind fun x7 =>
    if x7 ≤ l2 then
      some ((-1), h)
    else
      (yR h l0 1 0).bind fun x10 =>
      x10.bind fun a12 =>
      (yaR h a12 l2).bind fun x13 =>
      match x13 with
      | none =>
        cb134_46 n r2 l0 l1 l2 h
      | some a15 =>
        (yR h l0 1 0).bind fun x16 =>
        x16.bind fun a18 =>
        (yaR h a18 l2).bind fun x19 =>
        x19.bind fun a21 =>
        (yR h a21 9 3).bind fun x22 =>
        x22.bind fun a24 =>
        zgd (yisO h a24 12) <|
        (c29 n a24 l1 h).bind fun p27 =>
        if p27.1 = 0 then
          cb134_46 n r2 l0 l1 l2 p27.2
        else
          some (l2, p27.2)
set_option maxRecDepth 20000 in
theorem kb134_2 {n : Nat} {Mm : Nat → Option zO}  {q2 : Nat → Option Nat → Int32 → zY → Option (Int32 × zY)} {r2 : Nat → Option Nat → Int32 → zH → Option (Int32 × zH)}  (hr2 : ∀ {l0 : Nat} {l1 : Option Nat} {l2 : Int32}  {kh : zH} {h : zY} {p : Int32 × zY}, Rep Mm kh h → q2 l0 l1 l2 h = some p → ∃ kh1 : zH, r2 l0 l1 l2 kh = some (p.1, kh1) ∧ Rep Mm kh1 p.2) {l0 : Nat} {l1 : Option Nat} {l2 : Int32}  {kh : zH} {h : zY} {p : Int32 × zY} (hR : Rep Mm kh h) (hG : cb134_2 n  q2 l0 l1 l2 h = some p) : ∃ kh1 : zH, b134_2 n  r2 l0 l1 l2 kh = some (p.1, kh1) ∧ Rep Mm kh1 p.2 := by
  unfold cb134_2 at hG
  unfold b134_2
  replace hG := zbnd hG
  obtain ⟨x1, e1, hG⟩ := hG
  refine bE (k_gI hR e1) ?_
  by_cases c2 : x1 ≤ l2
  · rw [if_pos c2] at hG
    refine iE1 c2 ?_
    replace hG := Option.some.inj hG
    subst hG
    exact ⟨_, rfl, hR⟩
  · rw [if_neg c2] at hG
    refine iE2 c2 ?_
    replace hG := zbnd hG
    obtain ⟨x4, e3, hG⟩ := hG
    refine bE (k_gR hR e3) ?_
    replace hG := zbnd hG
    obtain ⟨a6, rfl, hG⟩ := hG
    refine bE rfl ?_
    replace hG := zbnd hG
    obtain ⟨x7, e5, hG⟩ := hG
    refine bE (k_aN hR e5) ?_
    by_cases c6 : x7 ≤ l2
    · rw [if_pos c6] at hG
      refine iE1 c6 ?_
      replace hG := Option.some.inj hG
      subst hG
      exact ⟨_, rfl, hR⟩
    · rw [if_neg c6] at hG
      refine iE2 c6 ?_
      replace hG := zbnd hG
      obtain ⟨x10, e7, hG⟩ := hG
      refine bE (k_gR hR e7) ?_
      replace hG := zbnd hG
      obtain ⟨a12, rfl, hG⟩ := hG
      refine bE rfl ?_
      replace hG := zbnd hG
      obtain ⟨x13, e9, hG⟩ := hG
      refine bE (k_aR hR e9) ?_
      cases x13 with
      | none =>
        dsimp only at hG ⊢
        exact kb134_46 (n := n) (q2 := q2) (r2 := r2) hr2 hR hG
      | some a15 =>
        dsimp only at hG ⊢
        replace hG := zbnd hG
        obtain ⟨x16, e10, hG⟩ := hG
        refine bE (k_gR hR e10) ?_
        replace hG := zbnd hG
        obtain ⟨a18, rfl, hG⟩ := hG
        refine bE rfl ?_
        replace hG := zbnd hG
        obtain ⟨x19, e12, hG⟩ := hG
        refine bE (k_aR hR e12) ?_
        replace hG := zbnd hG
        obtain ⟨a21, rfl, hG⟩ := hG
        refine bE rfl ?_
        replace hG := zbnd hG
        obtain ⟨x22, e14, hG⟩ := hG
        refine bE (k_gR hR e14) ?_
        replace hG := zbnd hG
        obtain ⟨a24, rfl, hG⟩ := hG
        refine bE rfl ?_
        replace hG := zgd_some hG
        obtain ⟨g16, hG⟩ := hG
        refine zE (k_isO hR g16) ?_
        replace hG := zbnd hG
        obtain ⟨p27, e17, hG⟩ := hG
        have hT := k29 hR e17
        clear hR
        obtain ⟨kh18, e19, hR⟩ := hT
        refine bE e19 ?_
        by_cases c20 : p27.1 = 0
        · rw [if_pos c20] at hG
          refine iE1 c20 ?_
          exact kb134_46 (n := n) (q2 := q2) (r2 := r2) hr2 hR hG
        · rw [if_neg c20] at hG
          refine iE2 c20 ?_
          replace hG := Option.some.inj hG
          subst hG
          exact ⟨_, rfl, hR⟩
def cf134_2 (n : Nat)   (k : Nat) : Nat → Option Nat → Int32 → zY → Option (Int32 × zY) := Nat.rec (fun _ _ _ _ => none) (fun _ ih => cb134_2 n  ih) k
theorem kf134_2 {n : Nat} {Mm : Nat → Option zO}     (k : Nat) : ∀ {l0 : Nat} {l1 : Option Nat} {l2 : Int32}  {kh : zH} {h : zY} {p : Int32 × zY}, Rep Mm kh h → cf134_2 n   k l0 l1 l2 h = some p → ∃ kh1 : zH, f134_2 n   k l0 l1 l2 kh = some (p.1, kh1) ∧ Rep Mm kh1 p.2 := by
  induction k with
  | zero => intros; rename_i hG; cases hG
  | succ k ih => intros; rename_i hR hG; exact kb134_2 (n := n) (q2 := cf134_2 n   k) (r2 := f134_2 n   k)  ih hR hG
def c134 (n : Nat)  (y0 : Nat) (y1 : Option Nat) (h : zY) : Option (Int32 × zY) :=
  cf134_2 n  n y0 y1 0 h
set_option maxRecDepth 20000 in
theorem k134 {n : Nat} {Mm : Nat → Option zO}   {y0 : Nat} {y1 : Option Nat} {kh : zH} {h : zY} {p : Int32 × zY} (hR : Rep Mm kh h) (hG : c134 n  y0 y1 h = some p) : ∃ kh1 : zH, f134 n  y0 y1 kh = some (p.1, kh1) ∧ Rep Mm kh1 p.2 := by
  unfold c134 at hG
  unfold f134
  exact kf134_2 (n := n) n hR hG
def c133 (n : Nat)  (y0 : Nat) (y1 : Option Nat) (h : zY) : Option (Int32 × zY) :=
  (yI h y0 1 2).bind fun x1 =>
  if x1 < 8 then
    some (1, h)
  else
    zgd (yisO h y0 1) <|
    (c134 n y0 y1 h).bind fun p6 =>
    if p6.1 = (-1) then
      some (0, p6.2)
    else
      some (1, p6.2)
set_option maxRecDepth 20000 in
theorem k133 {n : Nat} {Mm : Nat → Option zO}   {y0 : Nat} {y1 : Option Nat} {kh : zH} {h : zY} {p : Int32 × zY} (hR : Rep Mm kh h) (hG : c133 n  y0 y1 h = some p) : ∃ kh1 : zH, f133 n  y0 y1 kh = some (p.1, kh1) ∧ Rep Mm kh1 p.2 := by
  unfold c133 at hG
  unfold f133
  replace hG := zbnd hG
  obtain ⟨x1, e1, hG⟩ := hG
  refine bE (k_gI hR e1) ?_
  by_cases c2 : x1 < 8
  · rw [if_pos c2] at hG
    refine iE1 c2 ?_
    replace hG := Option.some.inj hG
    subst hG
    exact ⟨_, rfl, hR⟩
  · rw [if_neg c2] at hG
    refine iE2 c2 ?_
    replace hG := zgd_some hG
    obtain ⟨g3, hG⟩ := hG
    refine zE (k_isO hR g3) ?_
    replace hG := zbnd hG
    obtain ⟨p6, e4, hG⟩ := hG
    have hT := k134 hR e4
    clear hR
    obtain ⟨kh5, e6, hR⟩ := hT
    refine bE e6 ?_
    by_cases c7 : p6.1 = (-1)
    · rw [if_pos c7] at hG
      refine iE1 c7 ?_
      replace hG := Option.some.inj hG
      subst hG
      exact ⟨_, rfl, hR⟩
    · rw [if_neg c7] at hG
      refine iE2 c7 ?_
      replace hG := Option.some.inj hG
      subst hG
      exact ⟨_, rfl, hR⟩
def cb135_29 (n : Nat)   (l0 : Nat) (l1 : Option Nat) (l2 : Option Nat) (l3 : Int32) (h : zY) : Option (Unit × zY) :=
  (yR h l0 1 0).bind fun x1 =>
  x1.bind fun a3 =>
  (yL h a3).bind fun x4 =>
  (c13 n l3 x4 h).bind fun p7 =>
  if p7.1 = 0 then
    some ((), p7.2)
  else
    (yR p7.2 l0 1 1).bind fun x9 =>
    x9.bind fun a11 =>
    (yL p7.2 a11).bind fun x12 =>
    (c13 n l3 x12 p7.2).bind fun p15 =>
    if p15.1 = 0 then
      some ((), p15.2)
    else
      (yR p15.2 l0 1 0).bind fun x17 =>
      x17.bind fun a19 =>
      (yS (ysA p15.2) p15.2 a19 l3 (va_rf l1)).bind fun h20 =>
      (yR h20 l0 1 1).bind fun x22 =>
      x22.bind fun a24 =>
      (yS (ysA h20) h20 a24 l3 (va_rf l2)).bind fun h25 =>
      some ((), h25)
set_option maxRecDepth 20000 in
theorem kb135_29 {n : Nat} {Mm : Nat → Option zO}     {l0 : Nat} {l1 : Option Nat} {l2 : Option Nat} {l3 : Int32}  {kh : zH} {h : zY} {p : Unit × zY} (hR : Rep Mm kh h) (hG : cb135_29 n   l0 l1 l2 l3 h = some p) : ∃ kh1 : zH, b135_29 n   l0 l1 l2 l3 kh = some (p.1, kh1) ∧ Rep Mm kh1 p.2 := by
  unfold cb135_29 at hG
  unfold b135_29
  replace hG := zbnd hG
  obtain ⟨x1, e1, hG⟩ := hG
  refine bE (k_gR hR e1) ?_
  replace hG := zbnd hG
  obtain ⟨a3, rfl, hG⟩ := hG
  refine bE rfl ?_
  replace hG := zbnd hG
  obtain ⟨x4, e3, hG⟩ := hG
  refine bE (k_aN hR e3) ?_
  replace hG := zbnd hG
  obtain ⟨p7, e4, hG⟩ := hG
  have hT := k13 hR e4
  clear hR
  obtain ⟨kh5, e6, hR⟩ := hT
  refine bE e6 ?_
  by_cases c7 : p7.1 = 0
  · rw [if_pos c7] at hG
    refine iE1 c7 ?_
    replace hG := Option.some.inj hG
    subst hG
    exact ⟨_, rfl, hR⟩
  · rw [if_neg c7] at hG
    refine iE2 c7 ?_
    replace hG := zbnd hG
    obtain ⟨x9, e8, hG⟩ := hG
    refine bE (k_gR hR e8) ?_
    replace hG := zbnd hG
    obtain ⟨a11, rfl, hG⟩ := hG
    refine bE rfl ?_
    replace hG := zbnd hG
    obtain ⟨x12, e10, hG⟩ := hG
    refine bE (k_aN hR e10) ?_
    replace hG := zbnd hG
    obtain ⟨p15, e11, hG⟩ := hG
    have hT := k13 hR e11
    clear hR
    obtain ⟨kh12, e13, hR⟩ := hT
    refine bE e13 ?_
    by_cases c14 : p15.1 = 0
    · rw [if_pos c14] at hG
      refine iE1 c14 ?_
      replace hG := Option.some.inj hG
      subst hG
      exact ⟨_, rfl, hR⟩
    · rw [if_neg c14] at hG
      refine iE2 c14 ?_
      replace hG := zbnd hG
      obtain ⟨x17, e15, hG⟩ := hG
      refine bE (k_gR hR e15) ?_
      replace hG := zbnd hG
      obtain ⟨a19, rfl, hG⟩ := hG
      refine bE rfl ?_
      replace hG := zbnd hG
      obtain ⟨h20, e17, hG⟩ := hG
      have hT := k_sR hR e17
      clear hR
      obtain ⟨kh18, e19, hR⟩ := hT
      refine bE e19 ?_
      replace hG := zbnd hG
      obtain ⟨x22, e20, hG⟩ := hG
      refine bE (k_gR hR e20) ?_
      replace hG := zbnd hG
      obtain ⟨a24, rfl, hG⟩ := hG
      refine bE rfl ?_
      replace hG := zbnd hG
      obtain ⟨h25, e22, hG⟩ := hG
      have hT := k_sR hR e22
      clear hR
      obtain ⟨kh23, e24, hR⟩ := hT
      refine bE e24 ?_
      replace hG := Option.some.inj hG
      subst hG
      exact ⟨_, rfl, hR⟩
def c135 (n : Nat)  (y0 : Nat) (y1 : Option Nat) (y2 : Option Nat) (h : zY) : Option (Unit × zY) :=
  y1.bind fun a1 =>
  (yR h a1 9 3).bind fun x2 =>
  zgd (yisO h y0 1) <|
  (c134 n y0 x2 h).bind fun p6 =>
  if p6.1 = (-1) then
    (yI p6.2 y0 1 2).bind fun x8 =>
    (yI p6.2 y0 1 2).bind fun x10 =>
    (yP p6.2 y0 1 2 (.int (x10 + 1))).bind fun h12 =>
    cb135_29 n  y0 (some a1) y2 x8 h12
  else
    cb135_29 n  y0 (some a1) y2 p6.1 p6.2
set_option maxRecDepth 20000 in
theorem k135 {n : Nat} {Mm : Nat → Option zO}   {y0 : Nat} {y1 : Option Nat} {y2 : Option Nat} {kh : zH} {h : zY} {p : Unit × zY} (hR : Rep Mm kh h) (hG : c135 n  y0 y1 y2 h = some p) : ∃ kh1 : zH, f135 n  y0 y1 y2 kh = some (p.1, kh1) ∧ Rep Mm kh1 p.2 := by
  unfold c135 at hG
  unfold f135
  replace hG := zbnd hG
  obtain ⟨a1, rfl, hG⟩ := hG
  refine bE rfl ?_
  replace hG := zbnd hG
  obtain ⟨x2, e2, hG⟩ := hG
  refine bE (k_gR hR e2) ?_
  replace hG := zgd_some hG
  obtain ⟨g3, hG⟩ := hG
  refine zE (k_isO hR g3) ?_
  replace hG := zbnd hG
  obtain ⟨p6, e4, hG⟩ := hG
  have hT := k134 hR e4
  clear hR
  obtain ⟨kh5, e6, hR⟩ := hT
  refine bE e6 ?_
  by_cases c7 : p6.1 = (-1)
  · rw [if_pos c7] at hG
    refine iE1 c7 ?_
    replace hG := zbnd hG
    obtain ⟨x8, e8, hG⟩ := hG
    refine bE (k_gI hR e8) ?_
    replace hG := zbnd hG
    obtain ⟨x10, e9, hG⟩ := hG
    refine bE (k_gI hR e9) ?_
    replace hG := zbnd hG
    obtain ⟨h12, e10, hG⟩ := hG
    have hT := k_pF hR e10
    clear hR
    obtain ⟨kh11, e12, hR⟩ := hT
    refine bE e12 ?_
    exact kb135_29 (n := n) hR hG
  · rw [if_neg c7] at hG
    refine iE2 c7 ?_
    exact kb135_29 (n := n) hR hG
def c132 (n : Nat)  (y0 : Nat) (h : zY) : Option ((Int32 ⊕ Nat) × zY) :=
  (yR (yN h 5 4) y0 10 0).bind fun x1 =>
  x1.bind fun a3 =>
  zgd (yisO (yN h 5 4) a3 8) <|
  (c10 n a3 (yN h 5 4)).bind fun p6 =>
  (c64 n h.2.1 p6.1 p6.2).bind fun p8 =>
  zgd (yisO p8.2 h.2.1 5) <|
  (c71 n h.2.1 (some 3) p8.2).bind fun p14 => zth p14 (fun r11 h12 =>
    zgd (yisO h12 h.2.1 5) <|
    (c71 n h.2.1 (some 13) h12).bind fun p20 => zth p20 (fun r17 h18 =>
      zgd (yisO h18 h.2.1 5) <|
      (c84 n h.2.1 h18).bind fun p23 =>
      zgd (yisO p23.2 h.2.1 5) <|
      (c71 n h.2.1 p23.1 p23.2).bind fun p29 => zth p29 (fun r26 h27 =>
        zgd (yisO h27 h.2.1 5) <|
        (c71 n h.2.1 (some 1) h27).bind fun p35 => zth p35 (fun r32 h33 =>
          (yR h33 y0 10 1).bind fun x36 =>
          r11.bind fun a38 =>
          (yR h33 a38 9 3).bind fun x39 =>
          x36.bind fun a41 =>
          zgd (yisO h33 a41 1) <|
          (c133 n a41 x39 h33).bind fun p44 =>
          if p44.1 = 0 then
            some (.inr 19, thY p44.2)
          else
            (yR p44.2 y0 10 1).bind fun x46 =>
            x46.bind fun a48 =>
            zgd (yisO p44.2 a48 1) <|
            (c135 n a48 (some a38) r26 p44.2).bind fun p51 =>
            some (.inl 1, p51.2))
          (fun x34 h33 =>
          zgd (exOk x34) <| some (.inr x34, h33)))
        (fun x28 h27 =>
        zgd (exOk x28) <| some (.inr x28, h27)))
      (fun x19 h18 =>
      zgd (exOk x19) <| some (.inr x19, h18)))
    (fun x13 h12 =>
    zgd (exOk x13) <| some (.inr x13, h12))
set_option maxRecDepth 20000 in
theorem k132 {n : Nat} {Mm : Nat → Option zO}   {y0 : Nat} {kh : zH} {h : zY} {p : (Int32 ⊕ Nat) × zY} (hR : Rep Mm kh h) (hG : c132 n  y0 h = some p) : ∃ kh1 : zH, f132 n  y0 kh = some (p.1, kh1) ∧ Rep Mm kh1 p.2 := by
  unfold c132 at hG
  unfold f132
  try rw [rep_n hR] at hG
  replace hR := k_nO (ci := 5) (n := 4) hR
  replace hG := zbnd hG
  obtain ⟨x1, e1, hG⟩ := hG
  refine bE (k_gR hR e1) ?_
  replace hG := zbnd hG
  obtain ⟨a3, rfl, hG⟩ := hG
  refine bE rfl ?_
  replace hG := zgd_some hG
  obtain ⟨g3, hG⟩ := hG
  refine zE (k_isO hR g3) ?_
  replace hG := zbnd hG
  obtain ⟨p6, e4, hG⟩ := hG
  have hT := k10 hR e4
  clear hR
  obtain ⟨kh5, e6, hR⟩ := hT
  refine bE e6 ?_
  replace hG := zbnd hG
  obtain ⟨p8, e7, hG⟩ := hG
  have hT := k64 hR e7
  clear hR
  obtain ⟨kh8, e9, hR⟩ := hT
  refine bE e9 ?_
  replace hG := zgd_some hG
  obtain ⟨g10, hG⟩ := hG
  refine zE (k_isO hR g10) ?_
  replace hG := zbnd hG
  obtain ⟨⟨r11, h12⟩, e11, hG⟩ := hG
  have hT := k71 hR e11
  clear hR
  obtain ⟨kh12, e13, hR⟩ := hT
  refine bE e13 ?_
  rcases r11 with r11 | x13
  · replace hG := zthG hG
    refine zthEl ?_
    replace hG := zgd_some hG
    obtain ⟨g14, hG⟩ := hG
    refine zE (k_isO hR g14) ?_
    replace hG := zbnd hG
    obtain ⟨⟨r17, h18⟩, e15, hG⟩ := hG
    have hT := k71 hR e15
    clear hR
    obtain ⟨kh16, e17, hR⟩ := hT
    refine bE e17 ?_
    rcases r17 with r17 | x19
    · replace hG := zthG hG
      refine zthEl ?_
      replace hG := zgd_some hG
      obtain ⟨g18, hG⟩ := hG
      refine zE (k_isO hR g18) ?_
      replace hG := zbnd hG
      obtain ⟨p23, e19, hG⟩ := hG
      have hT := k84 hR e19
      clear hR
      obtain ⟨kh20, e21, hR⟩ := hT
      refine bE e21 ?_
      replace hG := zgd_some hG
      obtain ⟨g22, hG⟩ := hG
      refine zE (k_isO hR g22) ?_
      replace hG := zbnd hG
      obtain ⟨⟨r26, h27⟩, e23, hG⟩ := hG
      have hT := k71 hR e23
      clear hR
      obtain ⟨kh24, e25, hR⟩ := hT
      refine bE e25 ?_
      rcases r26 with r26 | x28
      · replace hG := zthG hG
        refine zthEl ?_
        replace hG := zgd_some hG
        obtain ⟨g26, hG⟩ := hG
        refine zE (k_isO hR g26) ?_
        replace hG := zbnd hG
        obtain ⟨⟨r32, h33⟩, e27, hG⟩ := hG
        have hT := k71 hR e27
        clear hR
        obtain ⟨kh28, e29, hR⟩ := hT
        refine bE e29 ?_
        rcases r32 with r32 | x34
        · replace hG := zthG hG
          refine zthEl ?_
          replace hG := zbnd hG
          obtain ⟨x36, e30, hG⟩ := hG
          refine bE (k_gR hR e30) ?_
          replace hG := zbnd hG
          obtain ⟨a38, rfl, hG⟩ := hG
          refine bE rfl ?_
          replace hG := zbnd hG
          obtain ⟨x39, e32, hG⟩ := hG
          refine bE (k_gR hR e32) ?_
          replace hG := zbnd hG
          obtain ⟨a41, rfl, hG⟩ := hG
          refine bE rfl ?_
          replace hG := zgd_some hG
          obtain ⟨g34, hG⟩ := hG
          refine zE (k_isO hR g34) ?_
          replace hG := zbnd hG
          obtain ⟨p44, e35, hG⟩ := hG
          have hT := k133 hR e35
          clear hR
          obtain ⟨kh36, e37, hR⟩ := hT
          refine bE e37 ?_
          by_cases c38 : p44.1 = 0
          · rw [if_pos c38] at hG
            refine iE1 c38 ?_
            replace hG := Option.some.inj hG
            subst hG
            exact ⟨_, rfl, k_th hR⟩
          · rw [if_neg c38] at hG
            refine iE2 c38 ?_
            replace hG := zbnd hG
            obtain ⟨x46, e39, hG⟩ := hG
            refine bE (k_gR hR e39) ?_
            replace hG := zbnd hG
            obtain ⟨a48, rfl, hG⟩ := hG
            refine bE rfl ?_
            replace hG := zgd_some hG
            obtain ⟨g41, hG⟩ := hG
            refine zE (k_isO hR g41) ?_
            replace hG := zbnd hG
            obtain ⟨p51, e42, hG⟩ := hG
            have hT := k135 hR e42
            clear hR
            obtain ⟨kh43, e44, hR⟩ := hT
            refine bE e44 ?_
            replace hG := Option.some.inj hG
            subst hG
            exact ⟨_, rfl, hR⟩
        · replace hG := zthH hG
          refine zthEr ?_
          replace hG := zgd_some hG
          obtain ⟨g45, hG⟩ := hG
          refine zE g45 ?_
          replace hG := Option.some.inj hG
          subst hG
          exact ⟨_, rfl, hR⟩
      · replace hG := zthH hG
        refine zthEr ?_
        replace hG := zgd_some hG
        obtain ⟨g46, hG⟩ := hG
        refine zE g46 ?_
        replace hG := Option.some.inj hG
        subst hG
        exact ⟨_, rfl, hR⟩
    · replace hG := zthH hG
      refine zthEr ?_
      replace hG := zgd_some hG
      obtain ⟨g47, hG⟩ := hG
      refine zE g47 ?_
      replace hG := Option.some.inj hG
      subst hG
      exact ⟨_, rfl, hR⟩
  · replace hG := zthH hG
    refine zthEr ?_
    replace hG := zgd_some hG
    obtain ⟨g48, hG⟩ := hG
    refine zE g48 ?_
    replace hG := Option.some.inj hG
    subst hG
    exact ⟨_, rfl, hR⟩
def c131 (n : Nat)  (y0 : Option Nat) (y1 : Option Nat) (h : zY) : Option (Int32 × zY) :=
  y0.bind fun a1 =>
  zgd (yisO h a1 10) <|
  (c132 n a1 h).bind fun p7 => zth p7 (fun r4 h5 =>
    y1.bind fun a10 =>
    (yS zsL h5 a10 0 (.long r4.toInt64)).bind fun h11 =>
    some (0, h11))
    (fun x6 h5 =>
    if x6 = 18 then
      some (1, h5)
    else
    if x6 = 19 then
      some (2, h5)
    else
    none)
set_option maxRecDepth 20000 in
theorem k131 {n : Nat} {Mm : Nat → Option zO}   {y0 : Option Nat} {y1 : Option Nat} {kh : zH} {h : zY} {p : Int32 × zY} (hR : Rep Mm kh h) (hG : c131 n  y0 y1 h = some p) : ∃ kh1 : zH, f131 n  y0 y1 kh = some (p.1, kh1) ∧ Rep Mm kh1 p.2 := by
  unfold c131 at hG
  unfold f131
  replace hG := zbnd hG
  obtain ⟨a1, rfl, hG⟩ := hG
  refine bE rfl ?_
  replace hG := zgd_some hG
  obtain ⟨g2, hG⟩ := hG
  refine zE (k_isO hR g2) ?_
  replace hG := zbnd hG
  obtain ⟨⟨r4, h5⟩, e3, hG⟩ := hG
  have hT := k132 hR e3
  clear hR
  obtain ⟨kh4, e5, hR⟩ := hT
  refine bE e5 ?_
  rcases r4 with r4 | x6
  · replace hG := zthG hG
    refine zthEl ?_
    replace hG := zbnd hG
    obtain ⟨a10, rfl, hG⟩ := hG
    refine bE rfl ?_
    replace hG := zbnd hG
    obtain ⟨h11, e7, hG⟩ := hG
    have hT := k_sJ hR e7
    clear hR
    obtain ⟨kh8, e9, hR⟩ := hT
    refine bE e9 ?_
    replace hG := Option.some.inj hG
    subst hG
    exact ⟨_, rfl, hR⟩
  · replace hG := zthH hG
    refine zthEr ?_
    by_cases c10 : x6 = 18
    · rw [if_pos c10] at hG
      refine iE1 c10 ?_
      replace hG := Option.some.inj hG
      subst hG
      exact ⟨_, rfl, hR⟩
    · rw [if_neg c10] at hG
      refine iE2 c10 ?_
      by_cases c11 : x6 = 19
      · rw [if_pos c11] at hG
        refine iE1 c11 ?_
        replace hG := Option.some.inj hG
        subst hG
        exact ⟨_, rfl, hR⟩
      · rw [if_neg c11] at hG
        refine iE2 c11 ?_
        cases hG
def c138 (n : Nat)  (y0 : Int32) (h : zY) : Option (Int32 × zY) :=
  if y0 < 0 then
    some (0, h)
  else
    if (2 : Int32) < y0 then
      some (0, h)
    else
      some (1, h)
set_option maxRecDepth 20000 in
theorem k138 {n : Nat} {Mm : Nat → Option zO}   {y0 : Int32} {kh : zH} {h : zY} {p : Int32 × zY} (hR : Rep Mm kh h) (hG : c138 n  y0 h = some p) : ∃ kh1 : zH, f138 n  y0 kh = some (p.1, kh1) ∧ Rep Mm kh1 p.2 := by
  unfold c138 at hG
  unfold f138
  by_cases c1 : y0 < 0
  · rw [if_pos c1] at hG
    refine iE1 c1 ?_
    replace hG := Option.some.inj hG
    subst hG
    exact ⟨_, rfl, hR⟩
  · rw [if_neg c1] at hG
    refine iE2 c1 ?_
    by_cases c2 : (2 : Int32) < y0
    · rw [if_pos c2] at hG
      refine iE1 c2 ?_
      replace hG := Option.some.inj hG
      subst hG
      exact ⟨_, rfl, hR⟩
    · rw [if_neg c2] at hG
      refine iE2 c2 ?_
      replace hG := Option.some.inj hG
      subst hG
      exact ⟨_, rfl, hR⟩
def c139 (n : Nat)  (y0 : Nat) (y1 : Int32) (h : zY) : Option (Option Nat × zY) :=
  if y1 = 0 then
    (yR h y0 4 0).bind fun x2 =>
    some (x2, h)
  else
    if y1 = 1 then
      (yR h y0 4 1).bind fun x5 =>
      some (x5, h)
    else
      (yR h y0 4 2).bind fun x7 =>
      some (x7, h)
set_option maxRecDepth 20000 in
theorem k139 {n : Nat} {Mm : Nat → Option zO}   {y0 : Nat} {y1 : Int32} {kh : zH} {h : zY} {p : Option Nat × zY} (hR : Rep Mm kh h) (hG : c139 n  y0 y1 h = some p) : ∃ kh1 : zH, f139 n  y0 y1 kh = some (p.1, kh1) ∧ Rep Mm kh1 p.2 := by
  unfold c139 at hG
  unfold f139
  by_cases c1 : y1 = 0
  · rw [if_pos c1] at hG
    refine iE1 c1 ?_
    replace hG := zbnd hG
    obtain ⟨x2, e2, hG⟩ := hG
    refine bE (k_gR hR e2) ?_
    replace hG := Option.some.inj hG
    subst hG
    exact ⟨_, rfl, hR⟩
  · rw [if_neg c1] at hG
    refine iE2 c1 ?_
    by_cases c3 : y1 = 1
    · rw [if_pos c3] at hG
      refine iE1 c3 ?_
      replace hG := zbnd hG
      obtain ⟨x5, e4, hG⟩ := hG
      refine bE (k_gR hR e4) ?_
      replace hG := Option.some.inj hG
      subst hG
      exact ⟨_, rfl, hR⟩
    · rw [if_neg c3] at hG
      refine iE2 c3 ?_
      replace hG := zbnd hG
      obtain ⟨x7, e5, hG⟩ := hG
      refine bE (k_gR hR e5) ?_
      replace hG := Option.some.inj hG
      subst hG
      exact ⟨_, rfl, hR⟩
def c140 (n : Nat)  (y0 : Nat) (h : zY) : Option (Option Nat × zY) :=
  (yI h y0 8 1).bind fun x1 =>
  zgd (yisO h y0 8) <|
  (c21 n y0 0 x1 h).bind fun p5 =>
  (yP p5.2 y0 8 1 (.int 0)).bind fun h6 =>
  some (p5.1, h6)
set_option maxRecDepth 20000 in
theorem k140 {n : Nat} {Mm : Nat → Option zO}   {y0 : Nat} {kh : zH} {h : zY} {p : Option Nat × zY} (hR : Rep Mm kh h) (hG : c140 n  y0 h = some p) : ∃ kh1 : zH, f140 n  y0 kh = some (p.1, kh1) ∧ Rep Mm kh1 p.2 := by
  unfold c140 at hG
  unfold f140
  replace hG := zbnd hG
  obtain ⟨x1, e1, hG⟩ := hG
  refine bE (k_gI hR e1) ?_
  replace hG := zgd_some hG
  obtain ⟨g2, hG⟩ := hG
  refine zE (k_isO hR g2) ?_
  replace hG := zbnd hG
  obtain ⟨p5, e3, hG⟩ := hG
  have hT := k21 hR e3
  clear hR
  obtain ⟨kh4, e5, hR⟩ := hT
  refine bE e5 ?_
  replace hG := zbnd hG
  obtain ⟨h6, e6, hG⟩ := hG
  have hT := k_pF hR e6
  clear hR
  obtain ⟨kh7, e8, hR⟩ := hT
  refine bE e8 ?_
  replace hG := Option.some.inj hG
  subst hG
  exact ⟨_, rfl, hR⟩
def c137 (n : Nat)  (y0 : Nat) (y1 : Int32) (h : zY) : Option ((Int32 ⊕ Nat) × zY) :=
  (c138 n y1 h).bind fun p2 =>
  if p2.1 = 0 then
    some (.inr 20, thY p2.2)
  else
    (yR p2.2 y0 10 2).bind fun x4 =>
    x4.bind fun a6 =>
    zgd (yisO p2.2 a6 4) <|
    (c139 n a6 y1 p2.2).bind fun p9 =>
    (yR p9.2 y0 10 0).bind fun x10 =>
    x10.bind fun a12 =>
    zgd (yisO p9.2 a12 8) <|
    (c140 n a12 p9.2).bind fun p15 =>
    (c73 n p9.1 p15.1 p15.2).bind fun p17 =>
    some (.inl p17.1, p17.2)
set_option maxRecDepth 20000 in
theorem k137 {n : Nat} {Mm : Nat → Option zO}   {y0 : Nat} {y1 : Int32} {kh : zH} {h : zY} {p : (Int32 ⊕ Nat) × zY} (hR : Rep Mm kh h) (hG : c137 n  y0 y1 h = some p) : ∃ kh1 : zH, f137 n  y0 y1 kh = some (p.1, kh1) ∧ Rep Mm kh1 p.2 := by
  unfold c137 at hG
  unfold f137
  replace hG := zbnd hG
  obtain ⟨p2, e1, hG⟩ := hG
  have hT := k138 hR e1
  clear hR
  obtain ⟨kh2, e3, hR⟩ := hT
  refine bE e3 ?_
  by_cases c4 : p2.1 = 0
  · rw [if_pos c4] at hG
    refine iE1 c4 ?_
    replace hG := Option.some.inj hG
    subst hG
    exact ⟨_, rfl, k_th hR⟩
  · rw [if_neg c4] at hG
    refine iE2 c4 ?_
    replace hG := zbnd hG
    obtain ⟨x4, e5, hG⟩ := hG
    refine bE (k_gR hR e5) ?_
    replace hG := zbnd hG
    obtain ⟨a6, rfl, hG⟩ := hG
    refine bE rfl ?_
    replace hG := zgd_some hG
    obtain ⟨g7, hG⟩ := hG
    refine zE (k_isO hR g7) ?_
    replace hG := zbnd hG
    obtain ⟨p9, e8, hG⟩ := hG
    have hT := k139 hR e8
    clear hR
    obtain ⟨kh9, e10, hR⟩ := hT
    refine bE e10 ?_
    replace hG := zbnd hG
    obtain ⟨x10, e11, hG⟩ := hG
    refine bE (k_gR hR e11) ?_
    replace hG := zbnd hG
    obtain ⟨a12, rfl, hG⟩ := hG
    refine bE rfl ?_
    replace hG := zgd_some hG
    obtain ⟨g13, hG⟩ := hG
    refine zE (k_isO hR g13) ?_
    replace hG := zbnd hG
    obtain ⟨p15, e14, hG⟩ := hG
    have hT := k140 hR e14
    clear hR
    obtain ⟨kh15, e16, hR⟩ := hT
    refine bE e16 ?_
    replace hG := zbnd hG
    obtain ⟨p17, e17, hG⟩ := hG
    have hT := k73 hR e17
    clear hR
    obtain ⟨kh18, e19, hR⟩ := hT
    refine bE e19 ?_
    replace hG := Option.some.inj hG
    subst hG
    exact ⟨_, rfl, hR⟩
def c136 (n : Nat)  (y0 : Option Nat) (y1 : Int32) (y2 : Option Nat) (h : zY) : Option (Int32 × zY) :=
  y0.bind fun a1 =>
  zgd (yisO h a1 10) <|
  (c137 n a1 y1 h).bind fun p7 => zth p7 (fun r4 h5 =>
    y2.bind fun a9 =>
    (yS zsL h5 a9 0 (.long r4.toInt64)).bind fun h10 =>
    some (0, h10))
    (fun x6 h5 =>
    if x6 = 20 then
      some (1, h5)
    else
    none)
set_option maxRecDepth 20000 in
theorem k136 {n : Nat} {Mm : Nat → Option zO}   {y0 : Option Nat} {y1 : Int32} {y2 : Option Nat} {kh : zH} {h : zY} {p : Int32 × zY} (hR : Rep Mm kh h) (hG : c136 n  y0 y1 y2 h = some p) : ∃ kh1 : zH, f136 n  y0 y1 y2 kh = some (p.1, kh1) ∧ Rep Mm kh1 p.2 := by
  unfold c136 at hG
  unfold f136
  replace hG := zbnd hG
  obtain ⟨a1, rfl, hG⟩ := hG
  refine bE rfl ?_
  replace hG := zgd_some hG
  obtain ⟨g2, hG⟩ := hG
  refine zE (k_isO hR g2) ?_
  replace hG := zbnd hG
  obtain ⟨⟨r4, h5⟩, e3, hG⟩ := hG
  have hT := k137 hR e3
  clear hR
  obtain ⟨kh4, e5, hR⟩ := hT
  refine bE e5 ?_
  rcases r4 with r4 | x6
  · replace hG := zthG hG
    refine zthEl ?_
    replace hG := zbnd hG
    obtain ⟨a9, rfl, hG⟩ := hG
    refine bE rfl ?_
    replace hG := zbnd hG
    obtain ⟨h10, e7, hG⟩ := hG
    have hT := k_sJ hR e7
    clear hR
    obtain ⟨kh8, e9, hR⟩ := hT
    refine bE e9 ?_
    replace hG := Option.some.inj hG
    subst hG
    exact ⟨_, rfl, hR⟩
  · replace hG := zthH hG
    refine zthEr ?_
    by_cases c10 : x6 = 20
    · rw [if_pos c10] at hG
      refine iE1 c10 ?_
      replace hG := Option.some.inj hG
      subst hG
      exact ⟨_, rfl, hR⟩
    · rw [if_neg c10] at hG
      refine iE2 c10 ?_
      cases hG
def cb142_25 (n : Nat)   (l0 : Nat) (l1 : Int32) (l2 : Int32) (l3 : Int32) (h : zY) : Option ((Int32 ⊕ Nat) × zY) :=
  some (.inr 20, thY h)
set_option maxRecDepth 20000 in
theorem kb142_25 {n : Nat} {Mm : Nat → Option zO}     {l0 : Nat} {l1 : Int32} {l2 : Int32} {l3 : Int32}  {kh : zH} {h : zY} {p : (Int32 ⊕ Nat) × zY} (hR : Rep Mm kh h) (hG : cb142_25 n   l0 l1 l2 l3 h = some p) : ∃ kh1 : zH, b142_25 n   l0 l1 l2 l3 kh = some (p.1, kh1) ∧ Rep Mm kh1 p.2 := by
  unfold cb142_25 at hG
  unfold b142_25
  replace hG := Option.some.inj hG
  subst hG
  exact ⟨_, rfl, k_th hR⟩
def c142 (n : Nat)  (y0 : Nat) (y1 : Int32) (y2 : Int32) (y3 : Int32) (h : zY) : Option ((Int32 ⊕ Nat) × zY) :=
  (c138 n y1 h).bind fun p2 =>
  if p2.1 = 0 then
    cb142_25 n  y0 y1 y2 y3 p2.2
  else
    (yR p2.2 y0 10 2).bind fun x4 =>
    x4.bind fun a6 =>
    zgd (yisO p2.2 a6 4) <|
    (c139 n a6 y1 p2.2).bind fun p9 =>
    p9.1.bind fun a10 =>
    zgd (yisO p9.2 a10 14) <|
    (c68 n a10 p9.2).bind fun p14 =>
    (c13 n y2 p14.1 p14.2).bind fun p16 =>
    if p16.1 = 0 then
      cb142_25 n  y0 y1 y2 y3 p16.2
    else
      (yR p16.2 y0 10 2).bind fun x18 =>
      x18.bind fun a20 =>
      zgd (yisO p16.2 a20 4) <|
      (c139 n a20 y1 p16.2).bind fun p23 =>
      p23.1.bind fun a24 =>
      zgd (yisO p23.2 a24 14) <|
      (c74 n a24 y2 p23.2).bind fun p28 =>
      zgd (ykC p28.2 p28.1 9 0) <|
      p28.1.bind fun a30 =>
      (yR p28.2 a30 9 3).bind fun x32 =>
      if y3 = (-1) then
        x32.bind fun a35 =>
        zgd (yisO p28.2 a35 12) <|
        (c55 n a35 p28.2).bind fun p38 =>
        some (.inl p38.1, p38.2)
      else
        x32.bind fun a39 =>
        zgd (yisO p28.2 a39 12) <|
        (c55 n a39 p28.2).bind fun p42 =>
        (c13 n y3 p42.1 p42.2).bind fun p44 =>
        if p44.1 = 0 then
          some (.inr 20, thY p44.2)
        else
          zgd (yisO p44.2 a39 12) <|
          (c59 n a39 y3 p44.2).bind fun p48 =>
          some (.inl p48.1, p48.2)
set_option maxRecDepth 20000 in
theorem k142 {n : Nat} {Mm : Nat → Option zO}   {y0 : Nat} {y1 : Int32} {y2 : Int32} {y3 : Int32} {kh : zH} {h : zY} {p : (Int32 ⊕ Nat) × zY} (hR : Rep Mm kh h) (hG : c142 n  y0 y1 y2 y3 h = some p) : ∃ kh1 : zH, f142 n  y0 y1 y2 y3 kh = some (p.1, kh1) ∧ Rep Mm kh1 p.2 := by
  unfold c142 at hG
  unfold f142
  replace hG := zbnd hG
  obtain ⟨p2, e1, hG⟩ := hG
  have hT := k138 hR e1
  clear hR
  obtain ⟨kh2, e3, hR⟩ := hT
  refine bE e3 ?_
  by_cases c4 : p2.1 = 0
  · rw [if_pos c4] at hG
    refine iE1 c4 ?_
    exact kb142_25 (n := n) hR hG
  · rw [if_neg c4] at hG
    refine iE2 c4 ?_
    replace hG := zbnd hG
    obtain ⟨x4, e5, hG⟩ := hG
    refine bE (k_gR hR e5) ?_
    replace hG := zbnd hG
    obtain ⟨a6, rfl, hG⟩ := hG
    refine bE rfl ?_
    replace hG := zgd_some hG
    obtain ⟨g7, hG⟩ := hG
    refine zE (k_isO hR g7) ?_
    replace hG := zbnd hG
    obtain ⟨p9, e8, hG⟩ := hG
    have hT := k139 hR e8
    clear hR
    obtain ⟨kh9, e10, hR⟩ := hT
    refine bE e10 ?_
    replace hG := zbnd hG
    obtain ⟨a10, e11, hG⟩ := hG
    refine bE e11 ?_
    replace hG := zgd_some hG
    obtain ⟨g12, hG⟩ := hG
    refine zE (k_isO hR g12) ?_
    replace hG := zbnd hG
    obtain ⟨p14, e13, hG⟩ := hG
    have hT := k68 hR e13
    clear hR
    obtain ⟨kh14, e15, hR⟩ := hT
    refine bE e15 ?_
    replace hG := zbnd hG
    obtain ⟨p16, e16, hG⟩ := hG
    have hT := k13 hR e16
    clear hR
    obtain ⟨kh17, e18, hR⟩ := hT
    refine bE e18 ?_
    by_cases c19 : p16.1 = 0
    · rw [if_pos c19] at hG
      refine iE1 c19 ?_
      exact kb142_25 (n := n) hR hG
    · rw [if_neg c19] at hG
      refine iE2 c19 ?_
      replace hG := zbnd hG
      obtain ⟨x18, e20, hG⟩ := hG
      refine bE (k_gR hR e20) ?_
      replace hG := zbnd hG
      obtain ⟨a20, rfl, hG⟩ := hG
      refine bE rfl ?_
      replace hG := zgd_some hG
      obtain ⟨g22, hG⟩ := hG
      refine zE (k_isO hR g22) ?_
      replace hG := zbnd hG
      obtain ⟨p23, e23, hG⟩ := hG
      have hT := k139 hR e23
      clear hR
      obtain ⟨kh24, e25, hR⟩ := hT
      refine bE e25 ?_
      replace hG := zbnd hG
      obtain ⟨a24, e26, hG⟩ := hG
      refine bE e26 ?_
      replace hG := zgd_some hG
      obtain ⟨g27, hG⟩ := hG
      refine zE (k_isO hR g27) ?_
      replace hG := zbnd hG
      obtain ⟨p28, e28, hG⟩ := hG
      have hT := k74 hR e28
      clear hR
      obtain ⟨kh29, e30, hR⟩ := hT
      refine bE e30 ?_
      replace hG := zgd_some hG
      obtain ⟨g31, hG⟩ := hG
      refine zE (k_kC hR g31) ?_
      replace hG := zbnd hG
      obtain ⟨a30, e32, hG⟩ := hG
      refine bE e32 ?_
      replace hG := zbnd hG
      obtain ⟨x32, e33, hG⟩ := hG
      refine bE (k_gR hR e33) ?_
      by_cases c34 : y3 = (-1)
      · rw [if_pos c34] at hG
        refine iE1 c34 ?_
        replace hG := zbnd hG
        obtain ⟨a35, rfl, hG⟩ := hG
        refine bE rfl ?_
        replace hG := zgd_some hG
        obtain ⟨g36, hG⟩ := hG
        refine zE (k_isO hR g36) ?_
        replace hG := zbnd hG
        obtain ⟨p38, e37, hG⟩ := hG
        have hT := k55 hR e37
        clear hR
        obtain ⟨kh38, e39, hR⟩ := hT
        refine bE e39 ?_
        replace hG := Option.some.inj hG
        subst hG
        exact ⟨_, rfl, hR⟩
      · rw [if_neg c34] at hG
        refine iE2 c34 ?_
        replace hG := zbnd hG
        obtain ⟨a39, rfl, hG⟩ := hG
        refine bE rfl ?_
        replace hG := zgd_some hG
        obtain ⟨g41, hG⟩ := hG
        refine zE (k_isO hR g41) ?_
        replace hG := zbnd hG
        obtain ⟨p42, e42, hG⟩ := hG
        have hT := k55 hR e42
        clear hR
        obtain ⟨kh43, e44, hR⟩ := hT
        refine bE e44 ?_
        replace hG := zbnd hG
        obtain ⟨p44, e45, hG⟩ := hG
        have hT := k13 hR e45
        clear hR
        obtain ⟨kh46, e47, hR⟩ := hT
        refine bE e47 ?_
        by_cases c48 : p44.1 = 0
        · rw [if_pos c48] at hG
          refine iE1 c48 ?_
          replace hG := Option.some.inj hG
          subst hG
          exact ⟨_, rfl, k_th hR⟩
        · rw [if_neg c48] at hG
          refine iE2 c48 ?_
          replace hG := zgd_some hG
          obtain ⟨g49, hG⟩ := hG
          refine zE (k_isO hR g49) ?_
          replace hG := zbnd hG
          obtain ⟨p48, e50, hG⟩ := hG
          have hT := k59 hR e50
          clear hR
          obtain ⟨kh51, e52, hR⟩ := hT
          refine bE e52 ?_
          replace hG := Option.some.inj hG
          subst hG
          exact ⟨_, rfl, hR⟩
def c141 (n : Nat)  (y0 : Option Nat) (y1 : Int32) (y2 : Int32) (y3 : Int32) (y4 : Option Nat) (h : zY) : Option (Int32 × zY) :=
  y0.bind fun a1 =>
  zgd (yisO h a1 10) <|
  (c142 n a1 y1 y2 y3 h).bind fun p7 => zth p7 (fun r4 h5 =>
    y4.bind fun a9 =>
    (yS zsL h5 a9 0 (.long r4.toInt64)).bind fun h10 =>
    some (0, h10))
    (fun x6 h5 =>
    if x6 = 20 then
      some (1, h5)
    else
    none)
set_option maxRecDepth 20000 in
theorem k141 {n : Nat} {Mm : Nat → Option zO}   {y0 : Option Nat} {y1 : Int32} {y2 : Int32} {y3 : Int32} {y4 : Option Nat} {kh : zH} {h : zY} {p : Int32 × zY} (hR : Rep Mm kh h) (hG : c141 n  y0 y1 y2 y3 y4 h = some p) : ∃ kh1 : zH, f141 n  y0 y1 y2 y3 y4 kh = some (p.1, kh1) ∧ Rep Mm kh1 p.2 := by
  unfold c141 at hG
  unfold f141
  replace hG := zbnd hG
  obtain ⟨a1, rfl, hG⟩ := hG
  refine bE rfl ?_
  replace hG := zgd_some hG
  obtain ⟨g2, hG⟩ := hG
  refine zE (k_isO hR g2) ?_
  replace hG := zbnd hG
  obtain ⟨⟨r4, h5⟩, e3, hG⟩ := hG
  have hT := k142 hR e3
  clear hR
  obtain ⟨kh4, e5, hR⟩ := hT
  refine bE e5 ?_
  rcases r4 with r4 | x6
  · replace hG := zthG hG
    refine zthEl ?_
    replace hG := zbnd hG
    obtain ⟨a9, rfl, hG⟩ := hG
    refine bE rfl ?_
    replace hG := zbnd hG
    obtain ⟨h10, e7, hG⟩ := hG
    have hT := k_sJ hR e7
    clear hR
    obtain ⟨kh8, e9, hR⟩ := hT
    refine bE e9 ?_
    replace hG := Option.some.inj hG
    subst hG
    exact ⟨_, rfl, hR⟩
  · replace hG := zthH hG
    refine zthEr ?_
    by_cases c10 : x6 = 20
    · rw [if_pos c10] at hG
      refine iE1 c10 ?_
      replace hG := Option.some.inj hG
      subst hG
      exact ⟨_, rfl, hR⟩
    · rw [if_neg c10] at hG
      refine iE2 c10 ?_
      cases hG
def c145 (n : Nat)  (y0 : Nat) (h : zY) : Option (Int32 × zY) :=
  (yR h y0 0 0).bind fun x1 =>
  (rEq x1 (some 16)).bind fun b3 =>
  if b3 = true then
    some (0, h)
  else
    (yR h y0 0 0).bind fun x6 =>
    (rEq x6 (some 17)).bind fun b8 =>
    if b8 = true then
      some (1, h)
    else
      some (2, h)
set_option maxRecDepth 20000 in
theorem k145 {n : Nat} {Mm : Nat → Option zO}   {y0 : Nat} {kh : zH} {h : zY} {p : Int32 × zY} (hR : Rep Mm kh h) (hG : c145 n  y0 h = some p) : ∃ kh1 : zH, f145 n  y0 kh = some (p.1, kh1) ∧ Rep Mm kh1 p.2 := by
  unfold c145 at hG
  unfold f145
  replace hG := zbnd hG
  obtain ⟨x1, e1, hG⟩ := hG
  refine bE (k_gR hR e1) ?_
  replace hG := zbnd hG
  obtain ⟨b3, e2, hG⟩ := hG
  refine bE e2 ?_
  by_cases c3 : b3 = true
  · rw [if_pos c3] at hG
    refine iE1 c3 ?_
    replace hG := Option.some.inj hG
    subst hG
    exact ⟨_, rfl, hR⟩
  · rw [if_neg c3] at hG
    refine iE2 c3 ?_
    replace hG := zbnd hG
    obtain ⟨x6, e4, hG⟩ := hG
    refine bE (k_gR hR e4) ?_
    replace hG := zbnd hG
    obtain ⟨b8, e5, hG⟩ := hG
    refine bE e5 ?_
    by_cases c6 : b8 = true
    · rw [if_pos c6] at hG
      refine iE1 c6 ?_
      replace hG := Option.some.inj hG
      subst hG
      exact ⟨_, rfl, hR⟩
    · rw [if_neg c6] at hG
      refine iE2 c6 ?_
      replace hG := Option.some.inj hG
      subst hG
      exact ⟨_, rfl, hR⟩
def c144 (n : Nat)  (y0 : Nat) (y1 : Int32) (y2 : Int32) (h : zY) : Option ((Int32 ⊕ Nat) × zY) :=
  (yR h y0 10 2).bind fun x1 =>
  x1.bind fun a3 =>
  (yR h a3 4 4).bind fun x4 =>
  x4.bind fun a6 =>
  zgd (yisO h a6 14) <|
  (c68 n a6 h).bind fun p9 =>
  (c13 n y1 p9.1 p9.2).bind fun p11 =>
  if p11.1 = 0 then
    some (.inr 20, thY p11.2)
  else
    (yR p11.2 y0 10 2).bind fun x13 =>
    x13.bind fun a15 =>
    (yR p11.2 a15 4 4).bind fun x16 =>
    x16.bind fun a18 =>
    zgd (yisO p11.2 a18 14) <|
    (c74 n a18 y1 p11.2).bind fun p21 =>
    zgd (ykC p21.2 p21.1 0 0) <|
    if y2 = 0 then
      p21.1.bind fun a24 =>
      zgd (yisO p21.2 a24 0) <|
      (c145 n a24 p21.2).bind fun p28 =>
      some (.inl p28.1, p28.2)
    else
    if y2 = 1 then
      p21.1.bind fun a30 =>
      (yR p21.2 a30 0 1).bind fun x32 =>
      x32.bind fun a34 =>
      zgd (yisO p21.2 a34 14) <|
      (c68 n a34 p21.2).bind fun p37 =>
      some (.inl p37.1, p37.2)
    else
    if y2 = 2 then
      p21.1.bind fun a39 =>
      (yR p21.2 a39 0 2).bind fun x41 =>
      x41.bind fun a43 =>
      zgd (yisO p21.2 a43 14) <|
      (c68 n a43 p21.2).bind fun p46 =>
      some (.inl p46.1, p46.2)
    else
    if y2 = 3 then
      p21.1.bind fun a48 =>
      (yI p21.2 a48 0 9).bind fun x50 =>
      (yI p21.2 a48 0 8).bind fun x52 =>
      some (.inl (x50 - x52), p21.2)
    else
    if y2 = 4 then
      p21.1.bind fun a55 =>
      (yI p21.2 a55 0 7).bind fun x57 =>
      some (.inl x57, p21.2)
    else
    some (.inr 20, thY p21.2)
set_option maxRecDepth 20000 in
theorem k144 {n : Nat} {Mm : Nat → Option zO}   {y0 : Nat} {y1 : Int32} {y2 : Int32} {kh : zH} {h : zY} {p : (Int32 ⊕ Nat) × zY} (hR : Rep Mm kh h) (hG : c144 n  y0 y1 y2 h = some p) : ∃ kh1 : zH, f144 n  y0 y1 y2 kh = some (p.1, kh1) ∧ Rep Mm kh1 p.2 := by
  unfold c144 at hG
  unfold f144
  replace hG := zbnd hG
  obtain ⟨x1, e1, hG⟩ := hG
  refine bE (k_gR hR e1) ?_
  replace hG := zbnd hG
  obtain ⟨a3, rfl, hG⟩ := hG
  refine bE rfl ?_
  replace hG := zbnd hG
  obtain ⟨x4, e3, hG⟩ := hG
  refine bE (k_gR hR e3) ?_
  replace hG := zbnd hG
  obtain ⟨a6, rfl, hG⟩ := hG
  refine bE rfl ?_
  replace hG := zgd_some hG
  obtain ⟨g5, hG⟩ := hG
  refine zE (k_isO hR g5) ?_
  replace hG := zbnd hG
  obtain ⟨p9, e6, hG⟩ := hG
  have hT := k68 hR e6
  clear hR
  obtain ⟨kh7, e8, hR⟩ := hT
  refine bE e8 ?_
  replace hG := zbnd hG
  obtain ⟨p11, e9, hG⟩ := hG
  have hT := k13 hR e9
  clear hR
  obtain ⟨kh10, e11, hR⟩ := hT
  refine bE e11 ?_
  by_cases c12 : p11.1 = 0
  · rw [if_pos c12] at hG
    refine iE1 c12 ?_
    replace hG := Option.some.inj hG
    subst hG
    exact ⟨_, rfl, k_th hR⟩
  · rw [if_neg c12] at hG
    refine iE2 c12 ?_
    replace hG := zbnd hG
    obtain ⟨x13, e13, hG⟩ := hG
    refine bE (k_gR hR e13) ?_
    replace hG := zbnd hG
    obtain ⟨a15, rfl, hG⟩ := hG
    refine bE rfl ?_
    replace hG := zbnd hG
    obtain ⟨x16, e15, hG⟩ := hG
    refine bE (k_gR hR e15) ?_
    replace hG := zbnd hG
    obtain ⟨a18, rfl, hG⟩ := hG
    refine bE rfl ?_
    replace hG := zgd_some hG
    obtain ⟨g17, hG⟩ := hG
    refine zE (k_isO hR g17) ?_
    replace hG := zbnd hG
    obtain ⟨p21, e18, hG⟩ := hG
    have hT := k74 hR e18
    clear hR
    obtain ⟨kh19, e20, hR⟩ := hT
    refine bE e20 ?_
    replace hG := zgd_some hG
    obtain ⟨g21, hG⟩ := hG
    refine zE (k_kC hR g21) ?_
    by_cases c22 : y2 = 0
    · rw [if_pos c22] at hG
      refine iE1 c22 ?_
      replace hG := zbnd hG
      obtain ⟨a24, e23, hG⟩ := hG
      refine bE e23 ?_
      replace hG := zgd_some hG
      obtain ⟨g24, hG⟩ := hG
      refine zE (k_isO hR g24) ?_
      replace hG := zbnd hG
      obtain ⟨p28, e25, hG⟩ := hG
      have hT := k145 hR e25
      clear hR
      obtain ⟨kh26, e27, hR⟩ := hT
      refine bE e27 ?_
      replace hG := Option.some.inj hG
      subst hG
      exact ⟨_, rfl, hR⟩
    · rw [if_neg c22] at hG
      refine iE2 c22 ?_
      by_cases c28 : y2 = 1
      · rw [if_pos c28] at hG
        refine iE1 c28 ?_
        replace hG := zbnd hG
        obtain ⟨a30, e29, hG⟩ := hG
        refine bE e29 ?_
        replace hG := zbnd hG
        obtain ⟨x32, e30, hG⟩ := hG
        refine bE (k_gR hR e30) ?_
        replace hG := zbnd hG
        obtain ⟨a34, rfl, hG⟩ := hG
        refine bE rfl ?_
        replace hG := zgd_some hG
        obtain ⟨g32, hG⟩ := hG
        refine zE (k_isO hR g32) ?_
        replace hG := zbnd hG
        obtain ⟨p37, e33, hG⟩ := hG
        have hT := k68 hR e33
        clear hR
        obtain ⟨kh34, e35, hR⟩ := hT
        refine bE e35 ?_
        replace hG := Option.some.inj hG
        subst hG
        exact ⟨_, rfl, hR⟩
      · rw [if_neg c28] at hG
        refine iE2 c28 ?_
        by_cases c36 : y2 = 2
        · rw [if_pos c36] at hG
          refine iE1 c36 ?_
          replace hG := zbnd hG
          obtain ⟨a39, e37, hG⟩ := hG
          refine bE e37 ?_
          replace hG := zbnd hG
          obtain ⟨x41, e38, hG⟩ := hG
          refine bE (k_gR hR e38) ?_
          replace hG := zbnd hG
          obtain ⟨a43, rfl, hG⟩ := hG
          refine bE rfl ?_
          replace hG := zgd_some hG
          obtain ⟨g40, hG⟩ := hG
          refine zE (k_isO hR g40) ?_
          replace hG := zbnd hG
          obtain ⟨p46, e41, hG⟩ := hG
          have hT := k68 hR e41
          clear hR
          obtain ⟨kh42, e43, hR⟩ := hT
          refine bE e43 ?_
          replace hG := Option.some.inj hG
          subst hG
          exact ⟨_, rfl, hR⟩
        · rw [if_neg c36] at hG
          refine iE2 c36 ?_
          by_cases c44 : y2 = 3
          · rw [if_pos c44] at hG
            refine iE1 c44 ?_
            replace hG := zbnd hG
            obtain ⟨a48, e45, hG⟩ := hG
            refine bE e45 ?_
            replace hG := zbnd hG
            obtain ⟨x50, e46, hG⟩ := hG
            refine bE (k_gI hR e46) ?_
            replace hG := zbnd hG
            obtain ⟨x52, e47, hG⟩ := hG
            refine bE (k_gI hR e47) ?_
            replace hG := Option.some.inj hG
            subst hG
            exact ⟨_, rfl, hR⟩
          · rw [if_neg c44] at hG
            refine iE2 c44 ?_
            by_cases c48 : y2 = 4
            · rw [if_pos c48] at hG
              refine iE1 c48 ?_
              replace hG := zbnd hG
              obtain ⟨a55, e49, hG⟩ := hG
              refine bE e49 ?_
              replace hG := zbnd hG
              obtain ⟨x57, e50, hG⟩ := hG
              refine bE (k_gI hR e50) ?_
              replace hG := Option.some.inj hG
              subst hG
              exact ⟨_, rfl, hR⟩
            · rw [if_neg c48] at hG
              refine iE2 c48 ?_
              replace hG := Option.some.inj hG
              subst hG
              exact ⟨_, rfl, k_th hR⟩
def c143 (n : Nat)  (y0 : Option Nat) (y1 : Int32) (y2 : Int32) (y3 : Option Nat) (h : zY) : Option (Int32 × zY) :=
  y0.bind fun a1 =>
  zgd (yisO h a1 10) <|
  (c144 n a1 y1 y2 h).bind fun p7 => zth p7 (fun r4 h5 =>
    y3.bind fun a9 =>
    (yS zsL h5 a9 0 (.long r4.toInt64)).bind fun h10 =>
    some (0, h10))
    (fun x6 h5 =>
    if x6 = 20 then
      some (1, h5)
    else
    none)
set_option maxRecDepth 20000 in
theorem k143 {n : Nat} {Mm : Nat → Option zO}   {y0 : Option Nat} {y1 : Int32} {y2 : Int32} {y3 : Option Nat} {kh : zH} {h : zY} {p : Int32 × zY} (hR : Rep Mm kh h) (hG : c143 n  y0 y1 y2 y3 h = some p) : ∃ kh1 : zH, f143 n  y0 y1 y2 y3 kh = some (p.1, kh1) ∧ Rep Mm kh1 p.2 := by
  unfold c143 at hG
  unfold f143
  replace hG := zbnd hG
  obtain ⟨a1, rfl, hG⟩ := hG
  refine bE rfl ?_
  replace hG := zgd_some hG
  obtain ⟨g2, hG⟩ := hG
  refine zE (k_isO hR g2) ?_
  replace hG := zbnd hG
  obtain ⟨⟨r4, h5⟩, e3, hG⟩ := hG
  have hT := k144 hR e3
  clear hR
  obtain ⟨kh4, e5, hR⟩ := hT
  refine bE e5 ?_
  rcases r4 with r4 | x6
  · replace hG := zthG hG
    refine zthEl ?_
    replace hG := zbnd hG
    obtain ⟨a9, rfl, hG⟩ := hG
    refine bE rfl ?_
    replace hG := zbnd hG
    obtain ⟨h10, e7, hG⟩ := hG
    have hT := k_sJ hR e7
    clear hR
    obtain ⟨kh8, e9, hR⟩ := hT
    refine bE e9 ?_
    replace hG := Option.some.inj hG
    subst hG
    exact ⟨_, rfl, hR⟩
  · replace hG := zthH hG
    refine zthEr ?_
    by_cases c10 : x6 = 20
    · rw [if_pos c10] at hG
      refine iE1 c10 ?_
      replace hG := Option.some.inj hG
      subst hG
      exact ⟨_, rfl, hR⟩
    · rw [if_neg c10] at hG
      refine iE2 c10 ?_
      cases hG
def c151 (n : Nat)  (y0 : Nat) (y1 : Int32) (h : zY) : Option (Int32 × zY) :=
  (yR h y0 1 3).bind fun x1 =>
  x1.bind fun a3 =>
  (yL h a3).bind fun x4 =>
  (c13 n y1 x4 h).bind fun p7 =>
  if p7.1 = 0 then
    some (0, p7.2)
  else
    (yR p7.2 y0 1 3).bind fun x9 =>
    x9.bind fun a11 =>
    (yaB p7.2 a11 y1).bind fun x12 =>
    if x12 = 0 then
      some (0, p7.2)
    else
      some (1, p7.2)
set_option maxRecDepth 20000 in
theorem k151 {n : Nat} {Mm : Nat → Option zO}   {y0 : Nat} {y1 : Int32} {kh : zH} {h : zY} {p : Int32 × zY} (hR : Rep Mm kh h) (hG : c151 n  y0 y1 h = some p) : ∃ kh1 : zH, f151 n  y0 y1 kh = some (p.1, kh1) ∧ Rep Mm kh1 p.2 := by
  unfold c151 at hG
  unfold f151
  replace hG := zbnd hG
  obtain ⟨x1, e1, hG⟩ := hG
  refine bE (k_gR hR e1) ?_
  replace hG := zbnd hG
  obtain ⟨a3, rfl, hG⟩ := hG
  refine bE rfl ?_
  replace hG := zbnd hG
  obtain ⟨x4, e3, hG⟩ := hG
  refine bE (k_aN hR e3) ?_
  replace hG := zbnd hG
  obtain ⟨p7, e4, hG⟩ := hG
  have hT := k13 hR e4
  clear hR
  obtain ⟨kh5, e6, hR⟩ := hT
  refine bE e6 ?_
  by_cases c7 : p7.1 = 0
  · rw [if_pos c7] at hG
    refine iE1 c7 ?_
    replace hG := Option.some.inj hG
    subst hG
    exact ⟨_, rfl, hR⟩
  · rw [if_neg c7] at hG
    refine iE2 c7 ?_
    replace hG := zbnd hG
    obtain ⟨x9, e8, hG⟩ := hG
    refine bE (k_gR hR e8) ?_
    replace hG := zbnd hG
    obtain ⟨a11, rfl, hG⟩ := hG
    refine bE rfl ?_
    replace hG := zbnd hG
    obtain ⟨x12, e10, hG⟩ := hG
    refine bE (k_aB hR e10) ?_
    by_cases c11 : x12 = 0
    · rw [if_pos c11] at hG
      refine iE1 c11 ?_
      replace hG := Option.some.inj hG
      subst hG
      exact ⟨_, rfl, hR⟩
    · rw [if_neg c11] at hG
      refine iE2 c11 ?_
      replace hG := Option.some.inj hG
      subst hG
      exact ⟨_, rfl, hR⟩
def c153 (n : Nat)  (y0 : Nat) (y1 : Option Nat) (h : zY) : Option (Option Nat × zY) :=
  zgd (yisO h y0 1) <|
  (c134 n y0 y1 h).bind fun p3 =>
  (yR p3.2 y0 1 1).bind fun x4 =>
  x4.bind fun a6 =>
  (yL p3.2 a6).bind fun x7 =>
  (c13 n p3.1 x7 p3.2).bind fun p10 =>
  if p10.1 = 0 then
    some (none, p10.2)
  else
    (yR p10.2 y0 1 1).bind fun x12 =>
    x12.bind fun a14 =>
    (yaR p10.2 a14 p3.1).bind fun x15 =>
    some (x15, p10.2)
set_option maxRecDepth 20000 in
theorem k153 {n : Nat} {Mm : Nat → Option zO}   {y0 : Nat} {y1 : Option Nat} {kh : zH} {h : zY} {p : Option Nat × zY} (hR : Rep Mm kh h) (hG : c153 n  y0 y1 h = some p) : ∃ kh1 : zH, f153 n  y0 y1 kh = some (p.1, kh1) ∧ Rep Mm kh1 p.2 := by
  unfold c153 at hG
  unfold f153
  replace hG := zgd_some hG
  obtain ⟨g1, hG⟩ := hG
  refine zE (k_isO hR g1) ?_
  replace hG := zbnd hG
  obtain ⟨p3, e2, hG⟩ := hG
  have hT := k134 hR e2
  clear hR
  obtain ⟨kh3, e4, hR⟩ := hT
  refine bE e4 ?_
  replace hG := zbnd hG
  obtain ⟨x4, e5, hG⟩ := hG
  refine bE (k_gR hR e5) ?_
  replace hG := zbnd hG
  obtain ⟨a6, rfl, hG⟩ := hG
  refine bE rfl ?_
  replace hG := zbnd hG
  obtain ⟨x7, e7, hG⟩ := hG
  refine bE (k_aN hR e7) ?_
  replace hG := zbnd hG
  obtain ⟨p10, e8, hG⟩ := hG
  have hT := k13 hR e8
  clear hR
  obtain ⟨kh9, e10, hR⟩ := hT
  refine bE e10 ?_
  by_cases c11 : p10.1 = 0
  · rw [if_pos c11] at hG
    refine iE1 c11 ?_
    replace hG := Option.some.inj hG
    subst hG
    exact ⟨_, rfl, hR⟩
  · rw [if_neg c11] at hG
    refine iE2 c11 ?_
    replace hG := zbnd hG
    obtain ⟨x12, e12, hG⟩ := hG
    refine bE (k_gR hR e12) ?_
    replace hG := zbnd hG
    obtain ⟨a14, rfl, hG⟩ := hG
    refine bE rfl ?_
    replace hG := zbnd hG
    obtain ⟨x15, e14, hG⟩ := hG
    refine bE (k_aR hR e14) ?_
    replace hG := Option.some.inj hG
    subst hG
    exact ⟨_, rfl, hR⟩
def c154 (n : Nat)  (y0 : Nat) (y1 : Option Nat) (h : zY) : Option (Int32 × zY) :=
  (yR h y0 9 0).bind fun x1 =>
  y1.bind fun a3 =>
  (yR h a3 9 0).bind fun x4 =>
  (rEq x1 x4).bind fun b6 =>
  if b6 = true then
    (yR h y0 9 3).bind fun x9 =>
    (yR h a3 9 3).bind fun x11 =>
    x9.bind fun a13 =>
    zgd (yisO h a13 12) <|
    (c29 n a13 x11 h).bind fun p16 =>
    if p16.1 = 0 then
      some (0, p16.2)
    else
      some (1, p16.2)
  else
    some (0, h)
set_option maxRecDepth 20000 in
theorem k154 {n : Nat} {Mm : Nat → Option zO}   {y0 : Nat} {y1 : Option Nat} {kh : zH} {h : zY} {p : Int32 × zY} (hR : Rep Mm kh h) (hG : c154 n  y0 y1 h = some p) : ∃ kh1 : zH, f154 n  y0 y1 kh = some (p.1, kh1) ∧ Rep Mm kh1 p.2 := by
  unfold c154 at hG
  unfold f154
  replace hG := zbnd hG
  obtain ⟨x1, e1, hG⟩ := hG
  refine bE (k_gR hR e1) ?_
  replace hG := zbnd hG
  obtain ⟨a3, rfl, hG⟩ := hG
  refine bE rfl ?_
  replace hG := zbnd hG
  obtain ⟨x4, e3, hG⟩ := hG
  refine bE (k_gR hR e3) ?_
  replace hG := zbnd hG
  obtain ⟨b6, e4, hG⟩ := hG
  refine bE e4 ?_
  by_cases c5 : b6 = true
  · rw [if_pos c5] at hG
    refine iE1 c5 ?_
    replace hG := zbnd hG
    obtain ⟨x9, e6, hG⟩ := hG
    refine bE (k_gR hR e6) ?_
    replace hG := zbnd hG
    obtain ⟨x11, e7, hG⟩ := hG
    refine bE (k_gR hR e7) ?_
    replace hG := zbnd hG
    obtain ⟨a13, rfl, hG⟩ := hG
    refine bE rfl ?_
    replace hG := zgd_some hG
    obtain ⟨g9, hG⟩ := hG
    refine zE (k_isO hR g9) ?_
    replace hG := zbnd hG
    obtain ⟨p16, e10, hG⟩ := hG
    have hT := k29 hR e10
    clear hR
    obtain ⟨kh11, e12, hR⟩ := hT
    refine bE e12 ?_
    by_cases c13 : p16.1 = 0
    · rw [if_pos c13] at hG
      refine iE1 c13 ?_
      replace hG := Option.some.inj hG
      subst hG
      exact ⟨_, rfl, hR⟩
    · rw [if_neg c13] at hG
      refine iE2 c13 ?_
      replace hG := Option.some.inj hG
      subst hG
      exact ⟨_, rfl, hR⟩
  · rw [if_neg c5] at hG
    refine iE2 c5 ?_
    replace hG := Option.some.inj hG
    subst hG
    exact ⟨_, rfl, hR⟩
def cb155_49 (n : Nat)  (r25 : Option Nat → Option Nat → Option Nat → zY → Option (Int32 × zY)) (l0 : Option Nat) (l1 : Option Nat) (l2 : Option Nat) (h : zY) : Option (Int32 × zY) :=
  l2.bind fun a1 =>
  (yR h a1 3 5).bind fun x2 =>
  r25 l0 l1 x2 h
set_option maxRecDepth 20000 in
theorem kb155_49 {n : Nat} {Mm : Nat → Option zO}  {q25 : Option Nat → Option Nat → Option Nat → zY → Option (Int32 × zY)} {r25 : Option Nat → Option Nat → Option Nat → zH → Option (Int32 × zH)}  (hr25 : ∀ {l0 : Option Nat} {l1 : Option Nat} {l2 : Option Nat}  {kh : zH} {h : zY} {p : Int32 × zY}, Rep Mm kh h → q25 l0 l1 l2 h = some p → ∃ kh1 : zH, r25 l0 l1 l2 kh = some (p.1, kh1) ∧ Rep Mm kh1 p.2) {l0 : Option Nat} {l1 : Option Nat} {l2 : Option Nat}  {kh : zH} {h : zY} {p : Int32 × zY} (hR : Rep Mm kh h) (hG : cb155_49 n  q25 l0 l1 l2 h = some p) : ∃ kh1 : zH, b155_49 n  r25 l0 l1 l2 kh = some (p.1, kh1) ∧ Rep Mm kh1 p.2 := by
  unfold cb155_49 at hG
  unfold b155_49
  replace hG := zbnd hG
  obtain ⟨a1, rfl, hG⟩ := hG
  refine bE rfl ?_
  replace hG := zbnd hG
  obtain ⟨x2, e2, hG⟩ := hG
  refine bE (k_gR hR e2) ?_
  exact hr25 hR hG
def cb155_25 (n : Nat)  (r25 : Option Nat → Option Nat → Option Nat → zY → Option (Int32 × zY)) (l0 : Option Nat) (l1 : Option Nat) (l2 : Option Nat) (h : zY) : Option (Int32 × zY) :=
  match l2 with
  | none =>
    some (0, h)
  | some a1 =>
    (yR h a1 3 2).bind fun x2 =>
    match x2 with
    | none =>
      cb155_49 n r25 l0 l1 (some a1) h
    | some a4 =>
      (yR h a1 3 2).bind fun x5 =>
      l0.bind fun a7 =>
      zgd (yisO h a7 9) <|
      (c154 n a7 x5 h).bind fun p10 =>
      if p10.1 = 0 then
        cb155_49 n r25 (some a7) l1 (some a1) p10.2
      else
        some (1, p10.2)
set_option maxRecDepth 20000 in
theorem kb155_25 {n : Nat} {Mm : Nat → Option zO}  {q25 : Option Nat → Option Nat → Option Nat → zY → Option (Int32 × zY)} {r25 : Option Nat → Option Nat → Option Nat → zH → Option (Int32 × zH)}  (hr25 : ∀ {l0 : Option Nat} {l1 : Option Nat} {l2 : Option Nat}  {kh : zH} {h : zY} {p : Int32 × zY}, Rep Mm kh h → q25 l0 l1 l2 h = some p → ∃ kh1 : zH, r25 l0 l1 l2 kh = some (p.1, kh1) ∧ Rep Mm kh1 p.2) {l0 : Option Nat} {l1 : Option Nat} {l2 : Option Nat}  {kh : zH} {h : zY} {p : Int32 × zY} (hR : Rep Mm kh h) (hG : cb155_25 n  q25 l0 l1 l2 h = some p) : ∃ kh1 : zH, b155_25 n  r25 l0 l1 l2 kh = some (p.1, kh1) ∧ Rep Mm kh1 p.2 := by
  unfold cb155_25 at hG
  unfold b155_25
  cases l2 with
  | none =>
    dsimp only at hG ⊢
    replace hG := Option.some.inj hG
    subst hG
    exact ⟨_, rfl, hR⟩
  | some a1 =>
    dsimp only at hG ⊢
    replace hG := zbnd hG
    obtain ⟨x2, e1, hG⟩ := hG
    refine bE (k_gR hR e1) ?_
    cases x2 with
    | none =>
      dsimp only at hG ⊢
      exact kb155_49 (n := n) (q25 := q25) (r25 := r25) hr25 hR hG
    | some a4 =>
      dsimp only at hG ⊢
      replace hG := zbnd hG
      obtain ⟨x5, e2, hG⟩ := hG
      refine bE (k_gR hR e2) ?_
      replace hG := zbnd hG
      obtain ⟨a7, rfl, hG⟩ := hG
      refine bE rfl ?_
      replace hG := zgd_some hG
      obtain ⟨g4, hG⟩ := hG
      refine zE (k_isO hR g4) ?_
      replace hG := zbnd hG
      obtain ⟨p10, e5, hG⟩ := hG
      have hT := k154 hR e5
      clear hR
      obtain ⟨kh6, e7, hR⟩ := hT
      refine bE e7 ?_
      by_cases c8 : p10.1 = 0
      · rw [if_pos c8] at hG
        refine iE1 c8 ?_
        exact kb155_49 (n := n) (q25 := q25) (r25 := r25) hr25 hR hG
      · rw [if_neg c8] at hG
        refine iE2 c8 ?_
        replace hG := Option.some.inj hG
        subst hG
        exact ⟨_, rfl, hR⟩
def cf155_25 (n : Nat)   (k : Nat) : Option Nat → Option Nat → Option Nat → zY → Option (Int32 × zY) := Nat.rec (fun _ _ _ _ => none) (fun _ ih => cb155_25 n  ih) k
theorem kf155_25 {n : Nat} {Mm : Nat → Option zO}     (k : Nat) : ∀ {l0 : Option Nat} {l1 : Option Nat} {l2 : Option Nat}  {kh : zH} {h : zY} {p : Int32 × zY}, Rep Mm kh h → cf155_25 n   k l0 l1 l2 h = some p → ∃ kh1 : zH, f155_25 n   k l0 l1 l2 kh = some (p.1, kh1) ∧ Rep Mm kh1 p.2 := by
  induction k with
  | zero => intros; rename_i hG; cases hG
  | succ k ih => intros; rename_i hR hG; exact kb155_25 (n := n) (q25 := cf155_25 n   k) (r25 := f155_25 n   k)  ih hR hG
def cb155_20 (n : Nat)   (l0 : Option Nat) (l1 : Option Nat) (h : zY) : Option (Int32 × zY) :=
  l1.bind fun a1 =>
  (yR h a1 3 4).bind fun x2 =>
  cf155_25 n  n l0 (some a1) x2 h
set_option maxRecDepth 20000 in
theorem kb155_20 {n : Nat} {Mm : Nat → Option zO}     {l0 : Option Nat} {l1 : Option Nat}  {kh : zH} {h : zY} {p : Int32 × zY} (hR : Rep Mm kh h) (hG : cb155_20 n   l0 l1 h = some p) : ∃ kh1 : zH, b155_20 n   l0 l1 kh = some (p.1, kh1) ∧ Rep Mm kh1 p.2 := by
  unfold cb155_20 at hG
  unfold b155_20
  replace hG := zbnd hG
  obtain ⟨a1, rfl, hG⟩ := hG
  refine bE rfl ?_
  replace hG := zbnd hG
  obtain ⟨x2, e2, hG⟩ := hG
  refine bE (k_gR hR e2) ?_
  exact kf155_25 (n := n) n hR hG
def c155 (n : Nat)  (y0 : Option Nat) (y1 : Option Nat) (h : zY) : Option (Int32 × zY) :=
  y1.bind fun a1 =>
  (yR h a1 3 2).bind fun x2 =>
  match x2 with
  | none =>
    cb155_20 n  y0 (some a1) h
  | some a4 =>
    (yR h a1 3 2).bind fun x5 =>
    y0.bind fun a7 =>
    zgd (yisO h a7 9) <|
    (c154 n a7 x5 h).bind fun p10 =>
    if p10.1 = 0 then
      cb155_20 n  (some a7) (some a1) p10.2
    else
      some (1, p10.2)
set_option maxRecDepth 20000 in
theorem k155 {n : Nat} {Mm : Nat → Option zO}   {y0 : Option Nat} {y1 : Option Nat} {kh : zH} {h : zY} {p : Int32 × zY} (hR : Rep Mm kh h) (hG : c155 n  y0 y1 h = some p) : ∃ kh1 : zH, f155 n  y0 y1 kh = some (p.1, kh1) ∧ Rep Mm kh1 p.2 := by
  unfold c155 at hG
  unfold f155
  replace hG := zbnd hG
  obtain ⟨a1, rfl, hG⟩ := hG
  refine bE rfl ?_
  replace hG := zbnd hG
  obtain ⟨x2, e2, hG⟩ := hG
  refine bE (k_gR hR e2) ?_
  cases x2 with
  | none =>
    dsimp only at hG ⊢
    exact kb155_20 (n := n) hR hG
  | some a4 =>
    dsimp only at hG ⊢
    replace hG := zbnd hG
    obtain ⟨x5, e3, hG⟩ := hG
    refine bE (k_gR hR e3) ?_
    replace hG := zbnd hG
    obtain ⟨a7, rfl, hG⟩ := hG
    refine bE rfl ?_
    replace hG := zgd_some hG
    obtain ⟨g5, hG⟩ := hG
    refine zE (k_isO hR g5) ?_
    replace hG := zbnd hG
    obtain ⟨p10, e6, hG⟩ := hG
    have hT := k154 hR e6
    clear hR
    obtain ⟨kh7, e8, hR⟩ := hT
    refine bE e8 ?_
    by_cases c9 : p10.1 = 0
    · rw [if_pos c9] at hG
      refine iE1 c9 ?_
      exact kb155_20 (n := n) hR hG
    · rw [if_neg c9] at hG
      refine iE2 c9 ?_
      replace hG := Option.some.inj hG
      subst hG
      exact ⟨_, rfl, hR⟩
def cb156_21 (n : Nat)  (r21 : Option Nat → Option Nat → Int32 → Int32 → zY → Option (Int32 × zY)) (l0 : Option Nat) (l1 : Option Nat) (l2 : Int32) (l3 : Int32) (h : zY) : Option (Int32 × zY) :=
  l1.bind fun a1 =>
  zgd (yisO h a1 12) <|
  (c55 n a1 h).bind fun p4 =>
  if p4.1 ≤ l3 then
    some (1, p4.2)
  else
    l0.bind fun a6 =>
    zgd (yisO p4.2 a6 12) <|
    (c59 n a6 (l2 + l3) p4.2).bind fun p9 =>
    zgd (yisO p9.2 a1 12) <|
    (c59 n a1 l3 p9.2).bind fun p12 =>
    if p9.1 = p12.1 then
      r21 (some a6) (some a1) l2 (l3 + 1) p12.2
    else
      some (0, p12.2)
set_option maxRecDepth 20000 in
theorem kb156_21 {n : Nat} {Mm : Nat → Option zO}  {q21 : Option Nat → Option Nat → Int32 → Int32 → zY → Option (Int32 × zY)} {r21 : Option Nat → Option Nat → Int32 → Int32 → zH → Option (Int32 × zH)}  (hr21 : ∀ {l0 : Option Nat} {l1 : Option Nat} {l2 : Int32} {l3 : Int32}  {kh : zH} {h : zY} {p : Int32 × zY}, Rep Mm kh h → q21 l0 l1 l2 l3 h = some p → ∃ kh1 : zH, r21 l0 l1 l2 l3 kh = some (p.1, kh1) ∧ Rep Mm kh1 p.2) {l0 : Option Nat} {l1 : Option Nat} {l2 : Int32} {l3 : Int32}  {kh : zH} {h : zY} {p : Int32 × zY} (hR : Rep Mm kh h) (hG : cb156_21 n  q21 l0 l1 l2 l3 h = some p) : ∃ kh1 : zH, b156_21 n  r21 l0 l1 l2 l3 kh = some (p.1, kh1) ∧ Rep Mm kh1 p.2 := by
  unfold cb156_21 at hG
  unfold b156_21
  replace hG := zbnd hG
  obtain ⟨a1, rfl, hG⟩ := hG
  refine bE rfl ?_
  replace hG := zgd_some hG
  obtain ⟨g2, hG⟩ := hG
  refine zE (k_isO hR g2) ?_
  replace hG := zbnd hG
  obtain ⟨p4, e3, hG⟩ := hG
  have hT := k55 hR e3
  clear hR
  obtain ⟨kh4, e5, hR⟩ := hT
  refine bE e5 ?_
  by_cases c6 : p4.1 ≤ l3
  · rw [if_pos c6] at hG
    refine iE1 c6 ?_
    replace hG := Option.some.inj hG
    subst hG
    exact ⟨_, rfl, hR⟩
  · rw [if_neg c6] at hG
    refine iE2 c6 ?_
    replace hG := zbnd hG
    obtain ⟨a6, rfl, hG⟩ := hG
    refine bE rfl ?_
    replace hG := zgd_some hG
    obtain ⟨g8, hG⟩ := hG
    refine zE (k_isO hR g8) ?_
    replace hG := zbnd hG
    obtain ⟨p9, e9, hG⟩ := hG
    have hT := k59 hR e9
    clear hR
    obtain ⟨kh10, e11, hR⟩ := hT
    refine bE e11 ?_
    replace hG := zgd_some hG
    obtain ⟨g12, hG⟩ := hG
    refine zE (k_isO hR g12) ?_
    replace hG := zbnd hG
    obtain ⟨p12, e13, hG⟩ := hG
    have hT := k59 hR e13
    clear hR
    obtain ⟨kh14, e15, hR⟩ := hT
    refine bE e15 ?_
    by_cases c16 : p9.1 = p12.1
    · rw [if_pos c16] at hG
      refine iE1 c16 ?_
      exact hr21 hR hG
    · rw [if_neg c16] at hG
      refine iE2 c16 ?_
      replace hG := Option.some.inj hG
      subst hG
      exact ⟨_, rfl, hR⟩
def cf156_21 (n : Nat)   (k : Nat) : Option Nat → Option Nat → Int32 → Int32 → zY → Option (Int32 × zY) := Nat.rec (fun _ _ _ _ _ => none) (fun _ ih => cb156_21 n  ih) k
theorem kf156_21 {n : Nat} {Mm : Nat → Option zO}     (k : Nat) : ∀ {l0 : Option Nat} {l1 : Option Nat} {l2 : Int32} {l3 : Int32}  {kh : zH} {h : zY} {p : Int32 × zY}, Rep Mm kh h → cf156_21 n   k l0 l1 l2 l3 h = some p → ∃ kh1 : zH, f156_21 n   k l0 l1 l2 l3 kh = some (p.1, kh1) ∧ Rep Mm kh1 p.2 := by
  induction k with
  | zero => intros; rename_i hG; cases hG
  | succ k ih => intros; rename_i hR hG; exact kb156_21 (n := n) (q21 := cf156_21 n   k) (r21 := f156_21 n   k)  ih hR hG
def c156 (n : Nat)  (y0 : Option Nat) (y1 : Option Nat) (y2 : Int32) (h : zY) : Option (Int32 × zY) :=
  if y2 < 0 then
    some (0, h)
  else
    y0.bind fun a2 =>
    zgd (yisO h a2 12) <|
    (c55 n a2 h).bind fun p5 =>
    y1.bind fun a6 =>
    zgd (yisO p5.2 a6 12) <|
    (c55 n a6 p5.2).bind fun p9 =>
    if y2 ≤ (p5.1 - p9.1) then
      cf156_21 n  n (some a2) (some a6) y2 0 p9.2
    else
      some (0, p9.2)
set_option maxRecDepth 20000 in
theorem k156 {n : Nat} {Mm : Nat → Option zO}   {y0 : Option Nat} {y1 : Option Nat} {y2 : Int32} {kh : zH} {h : zY} {p : Int32 × zY} (hR : Rep Mm kh h) (hG : c156 n  y0 y1 y2 h = some p) : ∃ kh1 : zH, f156 n  y0 y1 y2 kh = some (p.1, kh1) ∧ Rep Mm kh1 p.2 := by
  unfold c156 at hG
  unfold f156
  by_cases c1 : y2 < 0
  · rw [if_pos c1] at hG
    refine iE1 c1 ?_
    replace hG := Option.some.inj hG
    subst hG
    exact ⟨_, rfl, hR⟩
  · rw [if_neg c1] at hG
    refine iE2 c1 ?_
    replace hG := zbnd hG
    obtain ⟨a2, rfl, hG⟩ := hG
    refine bE rfl ?_
    replace hG := zgd_some hG
    obtain ⟨g3, hG⟩ := hG
    refine zE (k_isO hR g3) ?_
    replace hG := zbnd hG
    obtain ⟨p5, e4, hG⟩ := hG
    have hT := k55 hR e4
    clear hR
    obtain ⟨kh5, e6, hR⟩ := hT
    refine bE e6 ?_
    replace hG := zbnd hG
    obtain ⟨a6, rfl, hG⟩ := hG
    refine bE rfl ?_
    replace hG := zgd_some hG
    obtain ⟨g8, hG⟩ := hG
    refine zE (k_isO hR g8) ?_
    replace hG := zbnd hG
    obtain ⟨p9, e9, hG⟩ := hG
    have hT := k55 hR e9
    clear hR
    obtain ⟨kh10, e11, hR⟩ := hT
    refine bE e11 ?_
    by_cases c12 : y2 ≤ (p5.1 - p9.1)
    · rw [if_pos c12] at hG
      refine iE1 c12 ?_
      exact kf156_21 (n := n) n hR hG
    · rw [if_neg c12] at hG
      refine iE2 c12 ?_
      replace hG := Option.some.inj hG
      subst hG
      exact ⟨_, rfl, hR⟩
def cb157_2 (n : Nat)  (r2 : Option Nat → Option Nat → Int32 → zY → Option (Int32 × zY)) (l0 : Option Nat) (l1 : Option Nat) (l2 : Int32) (h : zY) : Option (Int32 × zY) :=
  l0.bind fun a1 =>
  zgd (yisO h a1 12) <|
  (c55 n a1 h).bind fun p4 =>
  l1.bind fun a5 =>
  zgd (yisO p4.2 a5 12) <|
  (c55 n a5 p4.2).bind fun p8 =>
  if (p4.1 - p8.1) < l2 then
    some (0, p8.2)
  else
    (c156 n (some a1) (some a5) l2 p8.2).bind fun p11 =>
    if p11.1 = 0 then
      r2 (some a1) (some a5) (l2 + 1) p11.2
    else
      some (1, p11.2)
set_option maxRecDepth 20000 in
theorem kb157_2 {n : Nat} {Mm : Nat → Option zO}  {q2 : Option Nat → Option Nat → Int32 → zY → Option (Int32 × zY)} {r2 : Option Nat → Option Nat → Int32 → zH → Option (Int32 × zH)}  (hr2 : ∀ {l0 : Option Nat} {l1 : Option Nat} {l2 : Int32}  {kh : zH} {h : zY} {p : Int32 × zY}, Rep Mm kh h → q2 l0 l1 l2 h = some p → ∃ kh1 : zH, r2 l0 l1 l2 kh = some (p.1, kh1) ∧ Rep Mm kh1 p.2) {l0 : Option Nat} {l1 : Option Nat} {l2 : Int32}  {kh : zH} {h : zY} {p : Int32 × zY} (hR : Rep Mm kh h) (hG : cb157_2 n  q2 l0 l1 l2 h = some p) : ∃ kh1 : zH, b157_2 n  r2 l0 l1 l2 kh = some (p.1, kh1) ∧ Rep Mm kh1 p.2 := by
  unfold cb157_2 at hG
  unfold b157_2
  replace hG := zbnd hG
  obtain ⟨a1, rfl, hG⟩ := hG
  refine bE rfl ?_
  replace hG := zgd_some hG
  obtain ⟨g2, hG⟩ := hG
  refine zE (k_isO hR g2) ?_
  replace hG := zbnd hG
  obtain ⟨p4, e3, hG⟩ := hG
  have hT := k55 hR e3
  clear hR
  obtain ⟨kh4, e5, hR⟩ := hT
  refine bE e5 ?_
  replace hG := zbnd hG
  obtain ⟨a5, rfl, hG⟩ := hG
  refine bE rfl ?_
  replace hG := zgd_some hG
  obtain ⟨g7, hG⟩ := hG
  refine zE (k_isO hR g7) ?_
  replace hG := zbnd hG
  obtain ⟨p8, e8, hG⟩ := hG
  have hT := k55 hR e8
  clear hR
  obtain ⟨kh9, e10, hR⟩ := hT
  refine bE e10 ?_
  by_cases c11 : (p4.1 - p8.1) < l2
  · rw [if_pos c11] at hG
    refine iE1 c11 ?_
    replace hG := Option.some.inj hG
    subst hG
    exact ⟨_, rfl, hR⟩
  · rw [if_neg c11] at hG
    refine iE2 c11 ?_
    replace hG := zbnd hG
    obtain ⟨p11, e12, hG⟩ := hG
    have hT := k156 hR e12
    clear hR
    obtain ⟨kh13, e14, hR⟩ := hT
    refine bE e14 ?_
    by_cases c15 : p11.1 = 0
    · rw [if_pos c15] at hG
      refine iE1 c15 ?_
      exact hr2 hR hG
    · rw [if_neg c15] at hG
      refine iE2 c15 ?_
      replace hG := Option.some.inj hG
      subst hG
      exact ⟨_, rfl, hR⟩
def cf157_2 (n : Nat)   (k : Nat) : Option Nat → Option Nat → Int32 → zY → Option (Int32 × zY) := Nat.rec (fun _ _ _ _ => none) (fun _ ih => cb157_2 n  ih) k
theorem kf157_2 {n : Nat} {Mm : Nat → Option zO}     (k : Nat) : ∀ {l0 : Option Nat} {l1 : Option Nat} {l2 : Int32}  {kh : zH} {h : zY} {p : Int32 × zY}, Rep Mm kh h → cf157_2 n   k l0 l1 l2 h = some p → ∃ kh1 : zH, f157_2 n   k l0 l1 l2 kh = some (p.1, kh1) ∧ Rep Mm kh1 p.2 := by
  induction k with
  | zero => intros; rename_i hG; cases hG
  | succ k ih => intros; rename_i hR hG; exact kb157_2 (n := n) (q2 := cf157_2 n   k) (r2 := f157_2 n   k)  ih hR hG
def c157 (n : Nat)  (y0 : Option Nat) (y1 : Option Nat) (h : zY) : Option (Int32 × zY) :=
  cf157_2 n  n y0 y1 0 h
set_option maxRecDepth 20000 in
theorem k157 {n : Nat} {Mm : Nat → Option zO}   {y0 : Option Nat} {y1 : Option Nat} {kh : zH} {h : zY} {p : Int32 × zY} (hR : Rep Mm kh h) (hG : c157 n  y0 y1 h = some p) : ∃ kh1 : zH, f157 n  y0 y1 kh = some (p.1, kh1) ∧ Rep Mm kh1 p.2 := by
  unfold c157 at hG
  unfold f157
  exact kf157_2 (n := n) n hR hG
def cb152_22 (n : Nat)   (l0 : Nat) (l1 : Option Nat) (s0 : Option Nat) (h : zY) : Option (Int32 × zY) :=
  match s0 with
  | none =>
    some (0, h)
  | some a1 =>
    l1.bind fun a2 =>
    (yR h a2 3 0).bind fun x3 =>
    (rEq x3 (some 43)).bind fun b5 =>
    if b5 = true then
      some (1, h)
    else
      (yR h a2 3 2).bind fun x8 =>
      match x8 with
      | none =>
        some (0, h)
      | some a10 =>
        (yR h a2 3 0).bind fun x11 =>
        (rEq x11 (some 36)).bind fun b13 =>
        if b13 = true then
          zgd (yisO h a1 9) <|
          (c154 n a1 (some a10) h).bind fun p18 =>
          zgd (zrtn .boolean p18.1) <|
          some (p18.1, p18.2)
        else
          (yR h a2 3 0).bind fun x20 =>
          (rEq x20 (some 42)).bind fun b22 =>
          if b22 = true then
            (c155 n (some a1) (some a2) h).bind fun p26 =>
            zgd (zrtn .boolean p26.1) <|
            some (p26.1, p26.2)
          else
            (yR h a1 9 0).bind fun x28 =>
            (yR h a10 9 0).bind fun x30 =>
            (rEq x28 x30).bind fun b32 =>
            if b32 = true then
              (yR h a2 3 0).bind fun x35 =>
              x35.bind fun a37 =>
              zgd (yisO h a37 15) <|
              (c66 n a37 h).bind fun p40 =>
              (yaI p40.2 45 p40.1).bind fun x41 =>
              if x41 = 6 then
                (yI p40.2 a1 9 4).bind fun x44 =>
                (yI p40.2 a10 9 4).bind fun x46 =>
                if x46 ≤ x44 then
                  some (0, p40.2)
                else
                  some (1, p40.2)
              else
              if x41 = 7 then
                (yI p40.2 a1 9 4).bind fun x50 =>
                (yI p40.2 a10 9 4).bind fun x52 =>
                if x50 ≤ x52 then
                  some (0, p40.2)
                else
                  some (1, p40.2)
              else
              if x41 = 8 then
                (yR p40.2 a1 9 3).bind fun x56 =>
                (yR p40.2 a10 9 3).bind fun x58 =>
                (c156 n x56 x58 0 p40.2).bind fun p61 =>
                zgd (zrtn .boolean p61.1) <|
                some (p61.1, p61.2)
              else
              if x41 = 9 then
                (yR p40.2 a1 9 3).bind fun x64 =>
                (yR p40.2 a10 9 3).bind fun x66 =>
                (yR p40.2 a1 9 3).bind fun x68 =>
                x68.bind fun a70 =>
                zgd (yisO p40.2 a70 12) <|
                (c55 n a70 p40.2).bind fun p73 =>
                (yR p73.2 a10 9 3).bind fun x74 =>
                x74.bind fun a76 =>
                zgd (yisO p73.2 a76 12) <|
                (c55 n a76 p73.2).bind fun p79 =>
                (c156 n x64 x66 (p73.1 - p79.1) p79.2).bind fun p81 =>
                zgd (zrtn .boolean p81.1) <|
                some (p81.1, p81.2)
              else
              (yR p40.2 a1 9 3).bind fun x83 =>
              (yR p40.2 a10 9 3).bind fun x85 =>
              (c157 n x83 x85 p40.2).bind fun p88 =>
              zgd (zrtn .boolean p88.1) <|
              some (p88.1, p88.2)
            else
              some (0, h)
set_option maxRecDepth 20000 in
theorem kb152_22 {n : Nat} {Mm : Nat → Option zO}     {l0 : Nat} {l1 : Option Nat} {s0 : Option Nat} {kh : zH} {h : zY} {p : Int32 × zY} (hR : Rep Mm kh h) (hG : cb152_22 n   l0 l1 s0 h = some p) : ∃ kh1 : zH, b152_22 n   l0 l1 s0 kh = some (p.1, kh1) ∧ Rep Mm kh1 p.2 := by
  unfold cb152_22 at hG
  unfold b152_22
  cases s0 with
  | none =>
    dsimp only at hG ⊢
    replace hG := Option.some.inj hG
    subst hG
    exact ⟨_, rfl, hR⟩
  | some a1 =>
    dsimp only at hG ⊢
    replace hG := zbnd hG
    obtain ⟨a2, rfl, hG⟩ := hG
    refine bE rfl ?_
    replace hG := zbnd hG
    obtain ⟨x3, e2, hG⟩ := hG
    refine bE (k_gR hR e2) ?_
    replace hG := zbnd hG
    obtain ⟨b5, e3, hG⟩ := hG
    refine bE e3 ?_
    by_cases c4 : b5 = true
    · rw [if_pos c4] at hG
      refine iE1 c4 ?_
      replace hG := Option.some.inj hG
      subst hG
      exact ⟨_, rfl, hR⟩
    · rw [if_neg c4] at hG
      refine iE2 c4 ?_
      replace hG := zbnd hG
      obtain ⟨x8, e5, hG⟩ := hG
      refine bE (k_gR hR e5) ?_
      cases x8 with
      | none =>
        dsimp only at hG ⊢
        replace hG := Option.some.inj hG
        subst hG
        exact ⟨_, rfl, hR⟩
      | some a10 =>
        dsimp only at hG ⊢
        replace hG := zbnd hG
        obtain ⟨x11, e6, hG⟩ := hG
        refine bE (k_gR hR e6) ?_
        replace hG := zbnd hG
        obtain ⟨b13, e7, hG⟩ := hG
        refine bE e7 ?_
        by_cases c8 : b13 = true
        · rw [if_pos c8] at hG
          refine iE1 c8 ?_
          replace hG := zgd_some hG
          obtain ⟨g9, hG⟩ := hG
          refine zE (k_isO hR g9) ?_
          replace hG := zbnd hG
          obtain ⟨p18, e10, hG⟩ := hG
          have hT := k154 hR e10
          clear hR
          obtain ⟨kh11, e12, hR⟩ := hT
          refine bE e12 ?_
          replace hG := zgd_some hG
          obtain ⟨g13, hG⟩ := hG
          refine zE g13 ?_
          replace hG := Option.some.inj hG
          subst hG
          exact ⟨_, rfl, hR⟩
        · rw [if_neg c8] at hG
          refine iE2 c8 ?_
          replace hG := zbnd hG
          obtain ⟨x20, e14, hG⟩ := hG
          refine bE (k_gR hR e14) ?_
          replace hG := zbnd hG
          obtain ⟨b22, e15, hG⟩ := hG
          refine bE e15 ?_
          by_cases c16 : b22 = true
          · rw [if_pos c16] at hG
            refine iE1 c16 ?_
            replace hG := zbnd hG
            obtain ⟨p26, e17, hG⟩ := hG
            have hT := k155 hR e17
            clear hR
            obtain ⟨kh18, e19, hR⟩ := hT
            refine bE e19 ?_
            replace hG := zgd_some hG
            obtain ⟨g20, hG⟩ := hG
            refine zE g20 ?_
            replace hG := Option.some.inj hG
            subst hG
            exact ⟨_, rfl, hR⟩
          · rw [if_neg c16] at hG
            refine iE2 c16 ?_
            replace hG := zbnd hG
            obtain ⟨x28, e21, hG⟩ := hG
            refine bE (k_gR hR e21) ?_
            replace hG := zbnd hG
            obtain ⟨x30, e22, hG⟩ := hG
            refine bE (k_gR hR e22) ?_
            replace hG := zbnd hG
            obtain ⟨b32, e23, hG⟩ := hG
            refine bE e23 ?_
            by_cases c24 : b32 = true
            · rw [if_pos c24] at hG
              refine iE1 c24 ?_
              replace hG := zbnd hG
              obtain ⟨x35, e25, hG⟩ := hG
              refine bE (k_gR hR e25) ?_
              replace hG := zbnd hG
              obtain ⟨a37, rfl, hG⟩ := hG
              refine bE rfl ?_
              replace hG := zgd_some hG
              obtain ⟨g27, hG⟩ := hG
              refine zE (k_isO hR g27) ?_
              replace hG := zbnd hG
              obtain ⟨p40, e28, hG⟩ := hG
              have hT := k66 hR e28
              clear hR
              obtain ⟨kh29, e30, hR⟩ := hT
              refine bE e30 ?_
              replace hG := zbnd hG
              obtain ⟨x41, e31, hG⟩ := hG
              refine bE (k_aI hR e31) ?_
              by_cases c32 : x41 = 6
              · rw [if_pos c32] at hG
                refine iE1 c32 ?_
                replace hG := zbnd hG
                obtain ⟨x44, e33, hG⟩ := hG
                refine bE (k_gI hR e33) ?_
                replace hG := zbnd hG
                obtain ⟨x46, e34, hG⟩ := hG
                refine bE (k_gI hR e34) ?_
                by_cases c35 : x46 ≤ x44
                · rw [if_pos c35] at hG
                  refine iE1 c35 ?_
                  replace hG := Option.some.inj hG
                  subst hG
                  exact ⟨_, rfl, hR⟩
                · rw [if_neg c35] at hG
                  refine iE2 c35 ?_
                  replace hG := Option.some.inj hG
                  subst hG
                  exact ⟨_, rfl, hR⟩
              · rw [if_neg c32] at hG
                refine iE2 c32 ?_
                by_cases c36 : x41 = 7
                · rw [if_pos c36] at hG
                  refine iE1 c36 ?_
                  replace hG := zbnd hG
                  obtain ⟨x50, e37, hG⟩ := hG
                  refine bE (k_gI hR e37) ?_
                  replace hG := zbnd hG
                  obtain ⟨x52, e38, hG⟩ := hG
                  refine bE (k_gI hR e38) ?_
                  by_cases c39 : x50 ≤ x52
                  · rw [if_pos c39] at hG
                    refine iE1 c39 ?_
                    replace hG := Option.some.inj hG
                    subst hG
                    exact ⟨_, rfl, hR⟩
                  · rw [if_neg c39] at hG
                    refine iE2 c39 ?_
                    replace hG := Option.some.inj hG
                    subst hG
                    exact ⟨_, rfl, hR⟩
                · rw [if_neg c36] at hG
                  refine iE2 c36 ?_
                  by_cases c40 : x41 = 8
                  · rw [if_pos c40] at hG
                    refine iE1 c40 ?_
                    replace hG := zbnd hG
                    obtain ⟨x56, e41, hG⟩ := hG
                    refine bE (k_gR hR e41) ?_
                    replace hG := zbnd hG
                    obtain ⟨x58, e42, hG⟩ := hG
                    refine bE (k_gR hR e42) ?_
                    replace hG := zbnd hG
                    obtain ⟨p61, e43, hG⟩ := hG
                    have hT := k156 hR e43
                    clear hR
                    obtain ⟨kh44, e45, hR⟩ := hT
                    refine bE e45 ?_
                    replace hG := zgd_some hG
                    obtain ⟨g46, hG⟩ := hG
                    refine zE g46 ?_
                    replace hG := Option.some.inj hG
                    subst hG
                    exact ⟨_, rfl, hR⟩
                  · rw [if_neg c40] at hG
                    refine iE2 c40 ?_
                    by_cases c47 : x41 = 9
                    · rw [if_pos c47] at hG
                      refine iE1 c47 ?_
                      replace hG := zbnd hG
                      obtain ⟨x64, e48, hG⟩ := hG
                      refine bE (k_gR hR e48) ?_
                      replace hG := zbnd hG
                      obtain ⟨x66, e49, hG⟩ := hG
                      refine bE (k_gR hR e49) ?_
                      replace hG := zbnd hG
                      obtain ⟨x68, e50, hG⟩ := hG
                      refine bE (k_gR hR e50) ?_
                      replace hG := zbnd hG
                      obtain ⟨a70, rfl, hG⟩ := hG
                      refine bE rfl ?_
                      replace hG := zgd_some hG
                      obtain ⟨g52, hG⟩ := hG
                      refine zE (k_isO hR g52) ?_
                      replace hG := zbnd hG
                      obtain ⟨p73, e53, hG⟩ := hG
                      have hT := k55 hR e53
                      clear hR
                      obtain ⟨kh54, e55, hR⟩ := hT
                      refine bE e55 ?_
                      replace hG := zbnd hG
                      obtain ⟨x74, e56, hG⟩ := hG
                      refine bE (k_gR hR e56) ?_
                      replace hG := zbnd hG
                      obtain ⟨a76, rfl, hG⟩ := hG
                      refine bE rfl ?_
                      replace hG := zgd_some hG
                      obtain ⟨g58, hG⟩ := hG
                      refine zE (k_isO hR g58) ?_
                      replace hG := zbnd hG
                      obtain ⟨p79, e59, hG⟩ := hG
                      have hT := k55 hR e59
                      clear hR
                      obtain ⟨kh60, e61, hR⟩ := hT
                      refine bE e61 ?_
                      replace hG := zbnd hG
                      obtain ⟨p81, e62, hG⟩ := hG
                      have hT := k156 hR e62
                      clear hR
                      obtain ⟨kh63, e64, hR⟩ := hT
                      refine bE e64 ?_
                      replace hG := zgd_some hG
                      obtain ⟨g65, hG⟩ := hG
                      refine zE g65 ?_
                      replace hG := Option.some.inj hG
                      subst hG
                      exact ⟨_, rfl, hR⟩
                    · rw [if_neg c47] at hG
                      refine iE2 c47 ?_
                      replace hG := zbnd hG
                      obtain ⟨x83, e66, hG⟩ := hG
                      refine bE (k_gR hR e66) ?_
                      replace hG := zbnd hG
                      obtain ⟨x85, e67, hG⟩ := hG
                      refine bE (k_gR hR e67) ?_
                      replace hG := zbnd hG
                      obtain ⟨p88, e68, hG⟩ := hG
                      have hT := k157 hR e68
                      clear hR
                      obtain ⟨kh69, e70, hR⟩ := hT
                      refine bE e70 ?_
                      replace hG := zgd_some hG
                      obtain ⟨g71, hG⟩ := hG
                      refine zE g71 ?_
                      replace hG := Option.some.inj hG
                      subst hG
                      exact ⟨_, rfl, hR⟩
            · rw [if_neg c24] at hG
              refine iE2 c24 ?_
              replace hG := Option.some.inj hG
              subst hG
              exact ⟨_, rfl, hR⟩
def c152 (n : Nat)  (y0 : Nat) (y1 : Option Nat) (h : zY) : Option (Int32 × zY) :=
  y1.bind fun a1 =>
  (yR h a1 3 1).bind fun x2 =>
  match x2 with
  | none =>
    cb152_22 n  y0 (some a1) none h
  | some a4 =>
    (yR h a1 3 1).bind fun x5 =>
    x5.bind fun a7 =>
    (yR h a7 9 3).bind fun x8 =>
    zgd (yisO h y0 1) <|
    (c153 n y0 x8 h).bind fun p12 =>
    cb152_22 n  y0 (some a1) p12.1 p12.2
set_option maxRecDepth 20000 in
theorem k152 {n : Nat} {Mm : Nat → Option zO}   {y0 : Nat} {y1 : Option Nat} {kh : zH} {h : zY} {p : Int32 × zY} (hR : Rep Mm kh h) (hG : c152 n  y0 y1 h = some p) : ∃ kh1 : zH, f152 n  y0 y1 kh = some (p.1, kh1) ∧ Rep Mm kh1 p.2 := by
  unfold c152 at hG
  unfold f152
  replace hG := zbnd hG
  obtain ⟨a1, rfl, hG⟩ := hG
  refine bE rfl ?_
  replace hG := zbnd hG
  obtain ⟨x2, e2, hG⟩ := hG
  refine bE (k_gR hR e2) ?_
  cases x2 with
  | none =>
    dsimp only at hG ⊢
    exact kb152_22 (n := n) hR hG
  | some a4 =>
    dsimp only at hG ⊢
    replace hG := zbnd hG
    obtain ⟨x5, e3, hG⟩ := hG
    refine bE (k_gR hR e3) ?_
    replace hG := zbnd hG
    obtain ⟨a7, rfl, hG⟩ := hG
    refine bE rfl ?_
    replace hG := zbnd hG
    obtain ⟨x8, e5, hG⟩ := hG
    refine bE (k_gR hR e5) ?_
    replace hG := zgd_some hG
    obtain ⟨g6, hG⟩ := hG
    refine zE (k_isO hR g6) ?_
    replace hG := zbnd hG
    obtain ⟨p12, e7, hG⟩ := hG
    have hT := k153 hR e7
    clear hR
    obtain ⟨kh8, e9, hR⟩ := hT
    refine bE e9 ?_
    exact kb152_22 (n := n) hR hG
def cb150_118 (n : Nat) (g150 : Nat → Option Nat → Int32 → zY → Option (Int32 × zY)) (r118 : Nat → Option Nat → Int32 → Int32 → Option Nat → zY → Option (Int32 × zY)) (l0 : Nat) (l1 : Option Nat) (l2 : Int32) (l3 : Int32) (l4 : Option Nat) (h : zY) : Option (Int32 × zY) :=
  match l4 with
  | none =>
    if l3 = 0 then
      some (1, h)
    else
      some (0, h)
  | some a1 =>
    zgd (yisO h l0 1) <|
    (g150 l0 (some a1) (l2 + 1) h).bind fun p5 =>
    if p5.1 = l3 then
      zgd (zrtn .boolean l3) <|
      some (l3, p5.2)
    else
      (yR p5.2 a1 3 5).bind fun x8 =>
      r118 l0 l1 l2 l3 x8 p5.2
set_option maxRecDepth 20000 in
theorem kb150_118 {n : Nat} {Mm : Nat → Option zO} {j150 : Nat → Option Nat → Int32 → zY → Option (Int32 × zY)} {g150 : Nat → Option Nat → Int32 → zH → Option (Int32 × zH)} {q118 : Nat → Option Nat → Int32 → Int32 → Option Nat → zY → Option (Int32 × zY)} {r118 : Nat → Option Nat → Int32 → Int32 → Option Nat → zH → Option (Int32 × zH)} (hg150 : ∀ {y0 : Nat} {y1 : Option Nat} {y2 : Int32} {kh : zH} {h : zY} {p : Int32 × zY}, Rep Mm kh h → j150 y0 y1 y2 h = some p → ∃ kh1 : zH, g150 y0 y1 y2 kh = some (p.1, kh1) ∧ Rep Mm kh1 p.2) (hr118 : ∀ {l0 : Nat} {l1 : Option Nat} {l2 : Int32} {l3 : Int32} {l4 : Option Nat}  {kh : zH} {h : zY} {p : Int32 × zY}, Rep Mm kh h → q118 l0 l1 l2 l3 l4 h = some p → ∃ kh1 : zH, r118 l0 l1 l2 l3 l4 kh = some (p.1, kh1) ∧ Rep Mm kh1 p.2) {l0 : Nat} {l1 : Option Nat} {l2 : Int32} {l3 : Int32} {l4 : Option Nat}  {kh : zH} {h : zY} {p : Int32 × zY} (hR : Rep Mm kh h) (hG : cb150_118 n j150 q118 l0 l1 l2 l3 l4 h = some p) : ∃ kh1 : zH, b150_118 n g150 r118 l0 l1 l2 l3 l4 kh = some (p.1, kh1) ∧ Rep Mm kh1 p.2 := by
  unfold cb150_118 at hG
  unfold b150_118
  cases l4 with
  | none =>
    dsimp only at hG ⊢
    by_cases c1 : l3 = 0
    · rw [if_pos c1] at hG
      refine iE1 c1 ?_
      replace hG := Option.some.inj hG
      subst hG
      exact ⟨_, rfl, hR⟩
    · rw [if_neg c1] at hG
      refine iE2 c1 ?_
      replace hG := Option.some.inj hG
      subst hG
      exact ⟨_, rfl, hR⟩
  | some a1 =>
    dsimp only at hG ⊢
    replace hG := zgd_some hG
    obtain ⟨g2, hG⟩ := hG
    refine zE (k_isO hR g2) ?_
    replace hG := zbnd hG
    obtain ⟨p5, e3, hG⟩ := hG
    have hT := hg150 hR e3
    clear hR
    obtain ⟨kh4, e5, hR⟩ := hT
    refine bE e5 ?_
    by_cases c6 : p5.1 = l3
    · rw [if_pos c6] at hG
      refine iE1 c6 ?_
      replace hG := zgd_some hG
      obtain ⟨g7, hG⟩ := hG
      refine zE g7 ?_
      replace hG := Option.some.inj hG
      subst hG
      exact ⟨_, rfl, hR⟩
    · rw [if_neg c6] at hG
      refine iE2 c6 ?_
      replace hG := zbnd hG
      obtain ⟨x8, e8, hG⟩ := hG
      refine bE (k_gR hR e8) ?_
      exact hr118 hR hG
def cf150_118 (n : Nat) (g150 : Nat → Option Nat → Int32 → zY → Option (Int32 × zY))  (k : Nat) : Nat → Option Nat → Int32 → Int32 → Option Nat → zY → Option (Int32 × zY) := Nat.rec (fun _ _ _ _ _ _ => none) (fun _ ih => cb150_118 n g150 ih) k
theorem kf150_118 {n : Nat} {Mm : Nat → Option zO} {j150 : Nat → Option Nat → Int32 → zY → Option (Int32 × zY)} {g150 : Nat → Option Nat → Int32 → zH → Option (Int32 × zH)}  (hg150 : ∀ {y0 : Nat} {y1 : Option Nat} {y2 : Int32} {kh : zH} {h : zY} {p : Int32 × zY}, Rep Mm kh h → j150 y0 y1 y2 h = some p → ∃ kh1 : zH, g150 y0 y1 y2 kh = some (p.1, kh1) ∧ Rep Mm kh1 p.2)  (k : Nat) : ∀ {l0 : Nat} {l1 : Option Nat} {l2 : Int32} {l3 : Int32} {l4 : Option Nat}  {kh : zH} {h : zY} {p : Int32 × zY}, Rep Mm kh h → cf150_118 n j150  k l0 l1 l2 l3 l4 h = some p → ∃ kh1 : zH, f150_118 n g150  k l0 l1 l2 l3 l4 kh = some (p.1, kh1) ∧ Rep Mm kh1 p.2 := by
  induction k with
  | zero => intros; rename_i hG; cases hG
  | succ k ih => intros; rename_i hR hG; exact kb150_118 (n := n) (j150 := j150) (g150 := g150) (q118 := cf150_118 n j150  k) (r118 := f150_118 n g150  k) hg150 ih hR hG
def cb150_111 (n : Nat) (g150 : Nat → Option Nat → Int32 → zY → Option (Int32 × zY))  (l0 : Nat) (l1 : Option Nat) (l2 : Int32) (s0 : Int32) (h : zY) : Option (Int32 × zY) :=
  l1.bind fun a1 =>
  (yR h a1 3 4).bind fun x2 =>
  cf150_118 n g150 n l0 (some a1) l2 s0 x2 h
set_option maxRecDepth 20000 in
theorem kb150_111 {n : Nat} {Mm : Nat → Option zO} {j150 : Nat → Option Nat → Int32 → zY → Option (Int32 × zY)} {g150 : Nat → Option Nat → Int32 → zH → Option (Int32 × zH)}  (hg150 : ∀ {y0 : Nat} {y1 : Option Nat} {y2 : Int32} {kh : zH} {h : zY} {p : Int32 × zY}, Rep Mm kh h → j150 y0 y1 y2 h = some p → ∃ kh1 : zH, g150 y0 y1 y2 kh = some (p.1, kh1) ∧ Rep Mm kh1 p.2)  {l0 : Nat} {l1 : Option Nat} {l2 : Int32} {s0 : Int32} {kh : zH} {h : zY} {p : Int32 × zY} (hR : Rep Mm kh h) (hG : cb150_111 n j150  l0 l1 l2 s0 h = some p) : ∃ kh1 : zH, b150_111 n g150  l0 l1 l2 s0 kh = some (p.1, kh1) ∧ Rep Mm kh1 p.2 := by
  unfold cb150_111 at hG
  unfold b150_111
  replace hG := zbnd hG
  obtain ⟨a1, rfl, hG⟩ := hG
  refine bE rfl ?_
  replace hG := zbnd hG
  obtain ⟨x2, e2, hG⟩ := hG
  refine bE (k_gR hR e2) ?_
  exact kf150_118 (n := n) (j150 := j150) (g150 := g150) hg150 n hR hG
def cb150 (n : Nat) (g150 : Nat → Option Nat → Int32 → zY → Option (Int32 × zY)) (y0 : Nat) (y1 : Option Nat) (y2 : Int32) (h : zY) : Option (Int32 × zY) :=
  if y2 ≤ 48 then
    y1.bind fun a2 =>
    (yR h a2 3 0).bind fun x3 =>
    x3.bind fun a5 =>
    zgd (yisO h a5 15) <|
    (c66 n a5 h).bind fun p8 =>
    (yaI p8.2 45 p8.1).bind fun x9 =>
    if x9 = 11 then
      some (1, p8.2)
    else
    if x9 = 12 then
      some (0, p8.2)
    else
    if x9 = 13 then
      (yI p8.2 a2 3 3).bind fun x14 =>
      zgd (yisO p8.2 y0 1) <|
      (c151 n y0 x14 p8.2).bind fun p18 =>
      zgd (zrtn .boolean p18.1) <|
      some (p18.1, p18.2)
    else
    if x9 = 14 then
      (yR p8.2 a2 3 4).bind fun x21 =>
      match x21 with
      | none =>
        some (0, p8.2)
      | some a23 =>
        (yR p8.2 a2 3 4).bind fun x24 =>
        zgd (yisO p8.2 y0 1) <|
        (g150 y0 x24 (y2 + 1) p8.2).bind fun p28 =>
        if p28.1 = 0 then
          some (1, p28.2)
        else
          some (0, p28.2)
    else
    if x9 = 15 then
      (yR p8.2 a2 3 0).bind fun x31 =>
      (rEq x31 (some 32)).bind fun b33 =>
      if b33 = true then
        cb150_111 n g150 y0 (some a2) y2 1 p8.2
      else
        cb150_111 n g150 y0 (some a2) y2 0 p8.2
    else
    if x9 = 16 then
      (yR p8.2 a2 3 0).bind fun x37 =>
      (rEq x37 (some 32)).bind fun b39 =>
      if b39 = true then
        cb150_111 n g150 y0 (some a2) y2 1 p8.2
      else
        cb150_111 n g150 y0 (some a2) y2 0 p8.2
    else
    zgd (yisO p8.2 y0 1) <|
    (c152 n y0 (some a2) p8.2).bind fun p44 =>
    zgd (zrtn .boolean p44.1) <|
    some (p44.1, p44.2)
  else
    some (0, h)
set_option maxRecDepth 20000 in
theorem kb150 {n : Nat} {Mm : Nat → Option zO} {j150 : Nat → Option Nat → Int32 → zY → Option (Int32 × zY)} {g150 : Nat → Option Nat → Int32 → zH → Option (Int32 × zH)} (hg150 : ∀ {y0 : Nat} {y1 : Option Nat} {y2 : Int32} {kh : zH} {h : zY} {p : Int32 × zY}, Rep Mm kh h → j150 y0 y1 y2 h = some p → ∃ kh1 : zH, g150 y0 y1 y2 kh = some (p.1, kh1) ∧ Rep Mm kh1 p.2) {y0 : Nat} {y1 : Option Nat} {y2 : Int32} {kh : zH} {h : zY} {p : Int32 × zY} (hR : Rep Mm kh h) (hG : cb150 n j150 y0 y1 y2 h = some p) : ∃ kh1 : zH, b150 n g150 y0 y1 y2 kh = some (p.1, kh1) ∧ Rep Mm kh1 p.2 := by
  unfold cb150 at hG
  unfold b150
  by_cases c1 : y2 ≤ 48
  · rw [if_pos c1] at hG
    refine iE1 c1 ?_
    replace hG := zbnd hG
    obtain ⟨a2, rfl, hG⟩ := hG
    refine bE rfl ?_
    replace hG := zbnd hG
    obtain ⟨x3, e3, hG⟩ := hG
    refine bE (k_gR hR e3) ?_
    replace hG := zbnd hG
    obtain ⟨a5, rfl, hG⟩ := hG
    refine bE rfl ?_
    replace hG := zgd_some hG
    obtain ⟨g5, hG⟩ := hG
    refine zE (k_isO hR g5) ?_
    replace hG := zbnd hG
    obtain ⟨p8, e6, hG⟩ := hG
    have hT := k66 hR e6
    clear hR
    obtain ⟨kh7, e8, hR⟩ := hT
    refine bE e8 ?_
    replace hG := zbnd hG
    obtain ⟨x9, e9, hG⟩ := hG
    refine bE (k_aI hR e9) ?_
    by_cases c10 : x9 = 11
    · rw [if_pos c10] at hG
      refine iE1 c10 ?_
      replace hG := Option.some.inj hG
      subst hG
      exact ⟨_, rfl, hR⟩
    · rw [if_neg c10] at hG
      refine iE2 c10 ?_
      by_cases c11 : x9 = 12
      · rw [if_pos c11] at hG
        refine iE1 c11 ?_
        replace hG := Option.some.inj hG
        subst hG
        exact ⟨_, rfl, hR⟩
      · rw [if_neg c11] at hG
        refine iE2 c11 ?_
        by_cases c12 : x9 = 13
        · rw [if_pos c12] at hG
          refine iE1 c12 ?_
          replace hG := zbnd hG
          obtain ⟨x14, e13, hG⟩ := hG
          refine bE (k_gI hR e13) ?_
          replace hG := zgd_some hG
          obtain ⟨g14, hG⟩ := hG
          refine zE (k_isO hR g14) ?_
          replace hG := zbnd hG
          obtain ⟨p18, e15, hG⟩ := hG
          have hT := k151 hR e15
          clear hR
          obtain ⟨kh16, e17, hR⟩ := hT
          refine bE e17 ?_
          replace hG := zgd_some hG
          obtain ⟨g18, hG⟩ := hG
          refine zE g18 ?_
          replace hG := Option.some.inj hG
          subst hG
          exact ⟨_, rfl, hR⟩
        · rw [if_neg c12] at hG
          refine iE2 c12 ?_
          by_cases c19 : x9 = 14
          · rw [if_pos c19] at hG
            refine iE1 c19 ?_
            replace hG := zbnd hG
            obtain ⟨x21, e20, hG⟩ := hG
            refine bE (k_gR hR e20) ?_
            cases x21 with
            | none =>
              dsimp only at hG ⊢
              replace hG := Option.some.inj hG
              subst hG
              exact ⟨_, rfl, hR⟩
            | some a23 =>
              dsimp only at hG ⊢
              replace hG := zbnd hG
              obtain ⟨x24, e21, hG⟩ := hG
              refine bE (k_gR hR e21) ?_
              replace hG := zgd_some hG
              obtain ⟨g22, hG⟩ := hG
              refine zE (k_isO hR g22) ?_
              replace hG := zbnd hG
              obtain ⟨p28, e23, hG⟩ := hG
              have hT := hg150 hR e23
              clear hR
              obtain ⟨kh24, e25, hR⟩ := hT
              refine bE e25 ?_
              by_cases c26 : p28.1 = 0
              · rw [if_pos c26] at hG
                refine iE1 c26 ?_
                replace hG := Option.some.inj hG
                subst hG
                exact ⟨_, rfl, hR⟩
              · rw [if_neg c26] at hG
                refine iE2 c26 ?_
                replace hG := Option.some.inj hG
                subst hG
                exact ⟨_, rfl, hR⟩
          · rw [if_neg c19] at hG
            refine iE2 c19 ?_
            by_cases c27 : x9 = 15
            · rw [if_pos c27] at hG
              refine iE1 c27 ?_
              replace hG := zbnd hG
              obtain ⟨x31, e28, hG⟩ := hG
              refine bE (k_gR hR e28) ?_
              replace hG := zbnd hG
              obtain ⟨b33, e29, hG⟩ := hG
              refine bE e29 ?_
              by_cases c30 : b33 = true
              · rw [if_pos c30] at hG
                refine iE1 c30 ?_
                exact kb150_111 (n := n) (j150 := j150) (g150 := g150) hg150 hR hG
              · rw [if_neg c30] at hG
                refine iE2 c30 ?_
                exact kb150_111 (n := n) (j150 := j150) (g150 := g150) hg150 hR hG
            · rw [if_neg c27] at hG
              refine iE2 c27 ?_
              by_cases c31 : x9 = 16
              · rw [if_pos c31] at hG
                refine iE1 c31 ?_
                replace hG := zbnd hG
                obtain ⟨x37, e32, hG⟩ := hG
                refine bE (k_gR hR e32) ?_
                replace hG := zbnd hG
                obtain ⟨b39, e33, hG⟩ := hG
                refine bE e33 ?_
                by_cases c34 : b39 = true
                · rw [if_pos c34] at hG
                  refine iE1 c34 ?_
                  exact kb150_111 (n := n) (j150 := j150) (g150 := g150) hg150 hR hG
                · rw [if_neg c34] at hG
                  refine iE2 c34 ?_
                  exact kb150_111 (n := n) (j150 := j150) (g150 := g150) hg150 hR hG
              · rw [if_neg c31] at hG
                refine iE2 c31 ?_
                replace hG := zgd_some hG
                obtain ⟨g35, hG⟩ := hG
                refine zE (k_isO hR g35) ?_
                replace hG := zbnd hG
                obtain ⟨p44, e36, hG⟩ := hG
                have hT := k152 hR e36
                clear hR
                obtain ⟨kh37, e38, hR⟩ := hT
                refine bE e38 ?_
                replace hG := zgd_some hG
                obtain ⟨g39, hG⟩ := hG
                refine zE g39 ?_
                replace hG := Option.some.inj hG
                subst hG
                exact ⟨_, rfl, hR⟩
  · rw [if_neg c1] at hG
    refine iE2 c1 ?_
    replace hG := Option.some.inj hG
    subst hG
    exact ⟨_, rfl, hR⟩
def cRH (n k : Nat) : ((Nat → Option Nat → Int32 → zY → Option (Int32 × zY))) := Nat.rec ((fun _ _ _ _ => none)) (fun _ ih => (cb150 n ih)) k
def c150 (n k : Nat) : (Nat → Option Nat → Int32 → zY → Option (Int32 × zY)) := (cRH n k)
theorem kRH {n : Nat} {Mm : Nat → Option zO} (k : Nat) : (∀ {y0 : Nat} {y1 : Option Nat} {y2 : Int32} {kh : zH} {h : zY} {p : Int32 × zY}, Rep Mm kh h → c150 n k y0 y1 y2 h = some p → ∃ kh1 : zH, f150 n k y0 y1 y2 kh = some (p.1, kh1) ∧ Rep Mm kh1 p.2) := by
  induction k with
  | zero =>
    skip
    · intros; rename_i y0 y1 y2 kh h p hR hG; cases hG
  | succ k ih =>
    skip
    · intros; rename_i y0 y1 y2 kh h p hR hG; exact kb150 (n := n) (j150 := c150 n k) (g150 := f150 n k) ih hR hG
theorem k150 {n : Nat} {Mm : Nat → Option zO} (k : Nat) : ∀ {y0 : Nat} {y1 : Option Nat} {y2 : Int32} {kh : zH} {h : zY} {p : Int32 × zY}, Rep Mm kh h → c150 n k y0 y1 y2 h = some p → ∃ kh1 : zH, f150 n k y0 y1 y2 kh = some (p.1, kh1) ∧ Rep Mm kh1 p.2 := (kRH k)
def cb149_2 (n : Nat)  (r2 : Nat → Option Nat → Int32 → zY → Option (Unit × zY)) (l0 : Nat) (l1 : Option Nat) (l2 : Int32) (h : zY) : Option (Unit × zY) :=
  l1.bind fun a1 =>
  (yR h a1 4 3).bind fun x2 =>
  x2.bind fun a4 =>
  zgd (yisO h a4 14) <|
  (c68 n a4 h).bind fun p7 =>
  if p7.1 ≤ l2 then
    some ((), p7.2)
  else
    (yR p7.2 l0 1 3).bind fun x9 =>
    x9.bind fun a11 =>
    (yL p7.2 a11).bind fun x12 =>
    if x12 ≤ l2 then
      some ((), p7.2)
    else
      (yR p7.2 l0 1 3).bind fun x15 =>
      (yR p7.2 a1 4 3).bind fun x17 =>
      x17.bind fun a19 =>
      zgd (yisO p7.2 a19 14) <|
      (c74 n a19 l2 p7.2).bind fun p22 =>
      zgd (ykC p22.2 p22.1 3 0) <|
      zgd (yisO p22.2 l0 1) <|
      (c150 n 64 l0 p22.1 0 p22.2).bind fun p26 =>
      x15.bind fun a27 =>
      (yS zsB p26.2 a27 l2 (.int p26.1)).bind fun h28 =>
      r2 l0 (some a1) (l2 + 1) h28
set_option maxRecDepth 20000 in
theorem kb149_2 {n : Nat} {Mm : Nat → Option zO}  {q2 : Nat → Option Nat → Int32 → zY → Option (Unit × zY)} {r2 : Nat → Option Nat → Int32 → zH → Option (Unit × zH)}  (hr2 : ∀ {l0 : Nat} {l1 : Option Nat} {l2 : Int32}  {kh : zH} {h : zY} {p : Unit × zY}, Rep Mm kh h → q2 l0 l1 l2 h = some p → ∃ kh1 : zH, r2 l0 l1 l2 kh = some (p.1, kh1) ∧ Rep Mm kh1 p.2) {l0 : Nat} {l1 : Option Nat} {l2 : Int32}  {kh : zH} {h : zY} {p : Unit × zY} (hR : Rep Mm kh h) (hG : cb149_2 n  q2 l0 l1 l2 h = some p) : ∃ kh1 : zH, b149_2 n  r2 l0 l1 l2 kh = some (p.1, kh1) ∧ Rep Mm kh1 p.2 := by
  unfold cb149_2 at hG
  unfold b149_2
  replace hG := zbnd hG
  obtain ⟨a1, rfl, hG⟩ := hG
  refine bE rfl ?_
  replace hG := zbnd hG
  obtain ⟨x2, e2, hG⟩ := hG
  refine bE (k_gR hR e2) ?_
  replace hG := zbnd hG
  obtain ⟨a4, rfl, hG⟩ := hG
  refine bE rfl ?_
  replace hG := zgd_some hG
  obtain ⟨g4, hG⟩ := hG
  refine zE (k_isO hR g4) ?_
  replace hG := zbnd hG
  obtain ⟨p7, e5, hG⟩ := hG
  have hT := k68 hR e5
  clear hR
  obtain ⟨kh6, e7, hR⟩ := hT
  refine bE e7 ?_
  by_cases c8 : p7.1 ≤ l2
  · rw [if_pos c8] at hG
    refine iE1 c8 ?_
    replace hG := Option.some.inj hG
    subst hG
    exact ⟨_, rfl, hR⟩
  · rw [if_neg c8] at hG
    refine iE2 c8 ?_
    replace hG := zbnd hG
    obtain ⟨x9, e9, hG⟩ := hG
    refine bE (k_gR hR e9) ?_
    replace hG := zbnd hG
    obtain ⟨a11, rfl, hG⟩ := hG
    refine bE rfl ?_
    replace hG := zbnd hG
    obtain ⟨x12, e11, hG⟩ := hG
    refine bE (k_aN hR e11) ?_
    by_cases c12 : x12 ≤ l2
    · rw [if_pos c12] at hG
      refine iE1 c12 ?_
      replace hG := Option.some.inj hG
      subst hG
      exact ⟨_, rfl, hR⟩
    · rw [if_neg c12] at hG
      refine iE2 c12 ?_
      replace hG := zbnd hG
      obtain ⟨x15, e13, hG⟩ := hG
      refine bE (k_gR hR e13) ?_
      replace hG := zbnd hG
      obtain ⟨x17, e14, hG⟩ := hG
      refine bE (k_gR hR e14) ?_
      replace hG := zbnd hG
      obtain ⟨a19, rfl, hG⟩ := hG
      refine bE rfl ?_
      replace hG := zgd_some hG
      obtain ⟨g16, hG⟩ := hG
      refine zE (k_isO hR g16) ?_
      replace hG := zbnd hG
      obtain ⟨p22, e17, hG⟩ := hG
      have hT := k74 hR e17
      clear hR
      obtain ⟨kh18, e19, hR⟩ := hT
      refine bE e19 ?_
      replace hG := zgd_some hG
      obtain ⟨g20, hG⟩ := hG
      refine zE (k_kC hR g20) ?_
      replace hG := zgd_some hG
      obtain ⟨g21, hG⟩ := hG
      refine zE (k_isO hR g21) ?_
      replace hG := zbnd hG
      obtain ⟨p26, e22, hG⟩ := hG
      have hT := k150 64 hR e22
      clear hR
      obtain ⟨kh23, e24, hR⟩ := hT
      refine bE e24 ?_
      replace hG := zbnd hG
      obtain ⟨a27, rfl, hG⟩ := hG
      refine bE rfl ?_
      replace hG := zbnd hG
      obtain ⟨h28, e26, hG⟩ := hG
      have hT := k_sB hR e26
      clear hR
      obtain ⟨kh27, e28, hR⟩ := hT
      refine bE e28 ?_
      exact hr2 hR hG
def cf149_2 (n : Nat)   (k : Nat) : Nat → Option Nat → Int32 → zY → Option (Unit × zY) := Nat.rec (fun _ _ _ _ => none) (fun _ ih => cb149_2 n  ih) k
theorem kf149_2 {n : Nat} {Mm : Nat → Option zO}     (k : Nat) : ∀ {l0 : Nat} {l1 : Option Nat} {l2 : Int32}  {kh : zH} {h : zY} {p : Unit × zY}, Rep Mm kh h → cf149_2 n   k l0 l1 l2 h = some p → ∃ kh1 : zH, f149_2 n   k l0 l1 l2 kh = some (p.1, kh1) ∧ Rep Mm kh1 p.2 := by
  induction k with
  | zero => intros; rename_i hG; cases hG
  | succ k ih => intros; rename_i hR hG; exact kb149_2 (n := n) (q2 := cf149_2 n   k) (r2 := f149_2 n   k)  ih hR hG
def c149 (n : Nat)  (y0 : Nat) (y1 : Option Nat) (h : zY) : Option (Unit × zY) :=
  cf149_2 n  n y0 y1 0 h
set_option maxRecDepth 20000 in
theorem k149 {n : Nat} {Mm : Nat → Option zO}   {y0 : Nat} {y1 : Option Nat} {kh : zH} {h : zY} {p : Unit × zY} (hR : Rep Mm kh h) (hG : c149 n  y0 y1 h = some p) : ∃ kh1 : zH, f149 n  y0 y1 kh = some (p.1, kh1) ∧ Rep Mm kh1 p.2 := by
  unfold c149 at hG
  unfold f149
  exact kf149_2 (n := n) n hR hG
def c159 (n : Nat)  (y0 : Nat) (y1 : Int32) (h : zY) : Option (Int32 × zY) :=
  (yI h y0 2 3).bind fun x1 =>
  if ((x1 >>> (y1 &&& 31)) &&& 1) = 0 then
    some (0, h)
  else
    some (1, h)
set_option maxRecDepth 20000 in
theorem k159 {n : Nat} {Mm : Nat → Option zO}   {y0 : Nat} {y1 : Int32} {kh : zH} {h : zY} {p : Int32 × zY} (hR : Rep Mm kh h) (hG : c159 n  y0 y1 h = some p) : ∃ kh1 : zH, f159 n  y0 y1 kh = some (p.1, kh1) ∧ Rep Mm kh1 p.2 := by
  unfold c159 at hG
  unfold f159
  replace hG := zbnd hG
  obtain ⟨x1, e1, hG⟩ := hG
  refine bE (k_gI hR e1) ?_
  by_cases c2 : ((x1 >>> (y1 &&& 31)) &&& 1) = 0
  · rw [if_pos c2] at hG
    refine iE1 c2 ?_
    replace hG := Option.some.inj hG
    subst hG
    exact ⟨_, rfl, hR⟩
  · rw [if_neg c2] at hG
    refine iE2 c2 ?_
    replace hG := Option.some.inj hG
    subst hG
    exact ⟨_, rfl, hR⟩
end ZCLS

/-! THE PROGRAM AS FUNCTIONS, 10 (written by a program of the verifier's) -/
section ZDEC
def b259_76 (n : Nat)  (r9 : Nat → Int32 → Int32 → Int32 → Int32 → zH → Option (Int32 × zH)) (l0 : Nat) (l1 : Int32) (l2 : Int32) (l3 : Int32) (l4 : Int32) (h : zH) : Option (Int32 × zH) :=
  r9 l0 l1 l2 l3 (l4 + 1) h
set_option maxRecDepth 20000 in
theorem tb259_76 {d n : Nat} {Q : zRs → zH → Prop}  {r9 : Nat → Int32 → Int32 → Int32 → Int32 → zH → Option (Int32 × zH)} {l0 : Nat} {l1 : Int32} {l2 : Int32} {l3 : Int32} {l4 : Int32}   (hd : 0 ≤ d)  (hr9 : ∀ {l0 : Nat} {l1 : Int32} {l2 : Int32} {l3 : Int32} {l4 : Int32}   {h : zH} {p : (Int32 × zH)}, r9 l0 l1 l2 l3 l4 h = some p → Q (eI p.1) p.2 → zW d 259 9 [some (.ref l0), some (.int l1), some (.int l2), some (.int l3), some (.int l4)] [] h Q) {h : zH} {p : (Int32 × zH)}  (hF : b259_76 n  r9 l0 l1 l2 l3 l4 h = some p) (q : Q (eI p.1) p.2) : zW d 259 76 [some (.ref l0), some (.int l1), some (.int l2), some (.int l3), some (.int l4)] [] h Q := by
  unfold b259_76 at hF
  refine zx_iinc (w := 1) rfl rfl rfl rfl rfl ?_
  refine zx_goto rfl rfl ?_
  exact hr9  hF q
def b259_69 (n : Nat)  (r9 : Nat → Int32 → Int32 → Int32 → Int32 → zH → Option (Int32 × zH)) (l0 : Nat) (l1 : Int32) (l2 : Int32) (l3 : Int32) (l4 : Int32) (s0 : Int32) (h : zH) : Option (Int32 × zH) :=
  if s0 = l3 then
    some (l4, h)
  else
    b259_76 n r9 l0 l1 l2 l3 l4 h
set_option maxRecDepth 20000 in
theorem tb259_69 {d n : Nat} {Q : zRs → zH → Prop}  {r9 : Nat → Int32 → Int32 → Int32 → Int32 → zH → Option (Int32 × zH)} {l0 : Nat} {l1 : Int32} {l2 : Int32} {l3 : Int32} {l4 : Int32} {s0 : Int32}  (hd : 0 ≤ d)  (hr9 : ∀ {l0 : Nat} {l1 : Int32} {l2 : Int32} {l3 : Int32} {l4 : Int32}   {h : zH} {p : (Int32 × zH)}, r9 l0 l1 l2 l3 l4 h = some p → Q (eI p.1) p.2 → zW d 259 9 [some (.ref l0), some (.int l1), some (.int l2), some (.int l3), some (.int l4)] [] h Q) {h : zH} {p : (Int32 × zH)}  (hF : b259_69 n  r9 l0 l1 l2 l3 l4 s0 h = some p) (q : Q (eI p.1) p.2) : zW d 259 69 [some (.ref l0), some (.int l1), some (.int l2), some (.int l3), some (.int l4)] [.int s0] h Q := by
  unfold b259_69 at hF
  refine zx_iload_n rfl rfl rfl ?_
  refine zx_ic_ne rfl rfl (fun c1 => ?_) (fun c1 => ?_)
  · rw [if_neg c1] at hF
    exact tb259_76 (l0 := l0) (l1 := l1) (l2 := l2) (l3 := l3) (l4 := l4) hd hr9  hF q
  · rw [if_pos c1] at hF
    refine zx_iload rfl rfl rfl ?_
    replace hF := Option.some.inj hF
    subst hF
    exact zx_bret rfl rfl rfl rfl q
def b259_9 (n : Nat)  (r9 : Nat → Int32 → Int32 → Int32 → Int32 → zH → Option (Int32 × zH)) (l0 : Nat) (l1 : Int32) (l2 : Int32) (l3 : Int32) (l4 : Int32) (h : zH) : Option (Int32 × zH) :=
  (gI h l0 11 3).bind fun x1 =>
  (gR h l0 11 39).bind fun x3 =>
  (gI h l0 11 3).bind fun x5 =>
  x3.bind fun a7 =>
  (aI h a7 x5).bind fun x8 =>
  if ((40 * x1) + x8) ≤ l4 then
    some ((-1), h)
  else
    (gR h l0 11 41).bind fun x11 =>
    x11.bind fun a13 =>
    (aI h a13 l4).bind fun x14 =>
    if x14 = l1 then
      (gR h l0 11 40).bind fun x17 =>
      x17.bind fun a19 =>
      (aI h a19 l4).bind fun x20 =>
      if x20 = l2 then
        (gR h l0 11 42).bind fun x23 =>
        x23.bind fun a25 =>
        (aI h a25 l4).bind fun x26 =>
        if x26 = (-1) then
          b259_69 n r9 l0 l1 l2 l3 l4 0 h
        else
          b259_69 n r9 l0 l1 l2 l3 l4 1 h
      else
        b259_76 n r9 l0 l1 l2 l3 l4 h
    else
      b259_76 n r9 l0 l1 l2 l3 l4 h
set_option maxRecDepth 20000 in
theorem tb259_9 {d n : Nat} {Q : zRs → zH → Prop}  {r9 : Nat → Int32 → Int32 → Int32 → Int32 → zH → Option (Int32 × zH)} {l0 : Nat} {l1 : Int32} {l2 : Int32} {l3 : Int32} {l4 : Int32}   (hd : 0 ≤ d)  (hr9 : ∀ {l0 : Nat} {l1 : Int32} {l2 : Int32} {l3 : Int32} {l4 : Int32}   {h : zH} {p : (Int32 × zH)}, r9 l0 l1 l2 l3 l4 h = some p → Q (eI p.1) p.2 → zW d 259 9 [some (.ref l0), some (.int l1), some (.int l2), some (.int l3), some (.int l4)] [] h Q) {h : zH} {p : (Int32 × zH)}  (hF : b259_9 n  r9 l0 l1 l2 l3 l4 h = some p) (q : Q (eI p.1) p.2) : zW d 259 9 [some (.ref l0), some (.int l1), some (.int l2), some (.int l3), some (.int l4)] [] h Q := by
  unfold b259_9 at hF
  refine zx_iload rfl rfl rfl ?_
  refine zx_bipush (v := 40) rfl rfl rfl ?_
  refine zx_aload_n rfl rfl rfl ?_
  replace hF := zbnd hF
  obtain ⟨x1, e2, hF⟩ := hF
  refine zy_getI rfl rfl e2 ?_
  refine zx_imul rfl rfl ?_
  refine zx_aload_n rfl rfl rfl ?_
  replace hF := zbnd hF
  obtain ⟨x3, e4, hF⟩ := hF
  refine zy_getR rfl rfl e4 ?_
  refine zx_aload_n rfl rfl rfl ?_
  replace hF := zbnd hF
  obtain ⟨x5, e6, hF⟩ := hF
  refine zy_getI rfl rfl e6 ?_
  replace hF := zbnd hF
  obtain ⟨a7, rfl, hF⟩ := hF
  replace hF := zbnd hF
  obtain ⟨x8, e9, hF⟩ := hF
  refine zy_aI rfl rfl e9 ?_
  refine zx_iadd rfl rfl ?_
  refine zx_ic_ge rfl rfl (fun c10 => ?_) (fun c10 => ?_)
  · rw [if_pos c10] at hF
    refine zx_iconst (v := (-1)) rfl rfl rfl ?_
    replace hF := Option.some.inj hF
    subst hF
    exact zx_bret rfl rfl rfl rfl q
  · rw [if_neg c10] at hF
    refine zx_aload_n rfl rfl rfl ?_
    replace hF := zbnd hF
    obtain ⟨x11, e12, hF⟩ := hF
    refine zy_getR rfl rfl e12 ?_
    refine zx_iload rfl rfl rfl ?_
    replace hF := zbnd hF
    obtain ⟨a13, rfl, hF⟩ := hF
    replace hF := zbnd hF
    obtain ⟨x14, e15, hF⟩ := hF
    refine zy_aI rfl rfl e15 ?_
    refine zx_iload_n rfl rfl rfl ?_
    refine zx_ic_ne rfl rfl (fun c16 => ?_) (fun c16 => ?_)
    · rw [if_neg c16] at hF
      exact tb259_76 (l0 := l0) (l1 := l1) (l2 := l2) (l3 := l3) (l4 := l4) hd hr9  hF q
    · rw [if_pos c16] at hF
      refine zx_aload_n rfl rfl rfl ?_
      replace hF := zbnd hF
      obtain ⟨x17, e18, hF⟩ := hF
      refine zy_getR rfl rfl e18 ?_
      refine zx_iload rfl rfl rfl ?_
      replace hF := zbnd hF
      obtain ⟨a19, rfl, hF⟩ := hF
      replace hF := zbnd hF
      obtain ⟨x20, e21, hF⟩ := hF
      refine zy_aI rfl rfl e21 ?_
      refine zx_iload_n rfl rfl rfl ?_
      refine zx_ic_ne rfl rfl (fun c22 => ?_) (fun c22 => ?_)
      · rw [if_neg c22] at hF
        exact tb259_76 (l0 := l0) (l1 := l1) (l2 := l2) (l3 := l3) (l4 := l4) hd hr9  hF q
      · rw [if_pos c22] at hF
        refine zx_aload_n rfl rfl rfl ?_
        replace hF := zbnd hF
        obtain ⟨x23, e24, hF⟩ := hF
        refine zy_getR rfl rfl e24 ?_
        refine zx_iload rfl rfl rfl ?_
        replace hF := zbnd hF
        obtain ⟨a25, rfl, hF⟩ := hF
        replace hF := zbnd hF
        obtain ⟨x26, e27, hF⟩ := hF
        refine zy_aI rfl rfl e27 ?_
        refine zx_iconst (v := (-1)) rfl rfl rfl ?_
        refine zx_ic_eq rfl rfl (fun c28 => ?_) (fun c28 => ?_)
        · rw [if_pos c28] at hF
          refine zx_iconst (v := 0) rfl rfl rfl ?_
          exact tb259_69 (l0 := l0) (l1 := l1) (l2 := l2) (l3 := l3) (l4 := l4) (s0 := 0) hd hr9  hF q
        · rw [if_neg c28] at hF
          refine zx_iconst (v := 1) rfl rfl rfl ?_
          refine zx_goto rfl rfl ?_
          exact tb259_69 (l0 := l0) (l1 := l1) (l2 := l2) (l3 := l3) (l4 := l4) (s0 := 1) hd hr9  hF q
def f259_9 (n : Nat)   (k : Nat) : Nat → Int32 → Int32 → Int32 → Int32 → zH → Option (Int32 × zH) := Nat.rec (fun _ _ _ _ _ _ => none) (fun _ ih => b259_9 n  ih) k
theorem tf259_9 {d n : Nat} {Q : zRs → zH → Prop}   (hd : 0 ≤ d)   (k : Nat) : ∀ {l0 : Nat} {l1 : Int32} {l2 : Int32} {l3 : Int32} {l4 : Int32}   {h : zH} {p : (Int32 × zH)}, f259_9 n   k l0 l1 l2 l3 l4 h = some p → Q (eI p.1) p.2 → zW d 259 9 [some (.ref l0), some (.int l1), some (.int l2), some (.int l3), some (.int l4)] [] h Q := by
  induction k with
  | zero => intros; rename_i hF _; cases hF
  | succ k ih => intros; rename_i  hF q; exact tb259_9 (n := n) hd  ih  hF q
def f259 (n : Nat)  (y0 : Nat) (y1 : Int32) (y2 : Int32) (y3 : Int32) (h : zH) : Option (Int32 × zH) :=
  (gI h y0 11 3).bind fun x1 =>
  f259_9 n  n y0 y1 y2 y3 (40 * x1) h
set_option maxRecDepth 20000 in
theorem t259 {d n : Nat} {Q : zRs → zH → Prop}  {y0 : Nat} {y1 : Int32} {y2 : Int32} {y3 : Int32} (hd : 0 ≤ d)  {h : zH} {p : (Int32 × zH)} (hF : f259 n  y0 y1 y2 y3 h = some p) (q : Q (eI p.1) p.2) : zC d 259 [.ref y0, .int y1, .int y2, .int y3] h Q := by
  refine zC_of (L := [some (.ref y0), some (.int y1), some (.int y2), some (.int y3), none]) rfl rfl ?_
  unfold f259 at hF
  refine zx_bipush (v := 40) rfl rfl rfl ?_
  refine zx_aload_n rfl rfl rfl ?_
  replace hF := zbnd hF
  obtain ⟨x1, e2, hF⟩ := hF
  refine zy_getI rfl rfl e2 ?_
  refine zx_imul rfl rfl ?_
  refine zx_istore rfl rfl rfl ?_
  exact tf259_9 hd  n (l0 := y0) (l1 := y1) (l2 := y2) (l3 := y3) (l4 := (40 * x1))  hF q
def f260 (n : Nat)  (y0 : Nat) (y1 : Int32) (y2 : Int32) (y3 : Int32) (y4 : Int32) (h : zH) : Option (Unit × zH) :=
  (pF h y0 11 86 (.int y1)).bind fun h1 =>
  (pF h1 y0 11 87 (.int y2)).bind fun h3 =>
  (pF h3 y0 11 88 (.int y3)).bind fun h5 =>
  (pF h5 y0 11 90 (.int y4)).bind fun h7 =>
  (pF h7 y0 11 89 (.int (-1))).bind fun h9 =>
  some ((), h9)
set_option maxRecDepth 20000 in
theorem t260 {d n : Nat} {Q : zRs → zH → Prop}  {y0 : Nat} {y1 : Int32} {y2 : Int32} {y3 : Int32} {y4 : Int32} (hd : 0 ≤ d)  {h : zH} {p : (Unit × zH)} (hF : f260 n  y0 y1 y2 y3 y4 h = some p) (q : Q (eV p.1) p.2) : zC d 260 [.ref y0, .int y1, .int y2, .int y3, .int y4] h Q := by
  refine zC_of (L := [some (.ref y0), some (.int y1), some (.int y2), some (.int y3), some (.int y4)]) rfl rfl ?_
  unfold f260 at hF
  refine zx_aload_n rfl rfl rfl ?_
  refine zx_iload_n rfl rfl rfl ?_
  replace hF := zbnd hF
  obtain ⟨h1, e2, hF⟩ := hF
  refine zy_put rfl rfl e2 ?_
  refine zx_aload_n rfl rfl rfl ?_
  refine zx_iload_n rfl rfl rfl ?_
  replace hF := zbnd hF
  obtain ⟨h3, e4, hF⟩ := hF
  refine zy_put rfl rfl e4 ?_
  refine zx_aload_n rfl rfl rfl ?_
  refine zx_iload_n rfl rfl rfl ?_
  replace hF := zbnd hF
  obtain ⟨h5, e6, hF⟩ := hF
  refine zy_put rfl rfl e6 ?_
  refine zx_aload_n rfl rfl rfl ?_
  refine zx_iload rfl rfl rfl ?_
  replace hF := zbnd hF
  obtain ⟨h7, e8, hF⟩ := hF
  refine zy_put rfl rfl e8 ?_
  refine zx_aload_n rfl rfl rfl ?_
  refine zx_iconst (v := (-1)) rfl rfl rfl ?_
  replace hF := zbnd hF
  obtain ⟨h9, e10, hF⟩ := hF
  refine zy_put rfl rfl e10 ?_
  replace hF := Option.some.inj hF
  subst hF
  exact zx_return rfl rfl rfl q
def b261_78 (n : Nat)  (r2 : Nat → Int32 → Int32 → Int32 → zH → Option (Int32 × zH)) (l0 : Nat) (l1 : Int32) (l2 : Int32) (l3 : Int32) (l4 : Int32) (h : zH) : Option (Int32 × zH) :=
  r2 l0 l1 l2 (l3 + 1) h
set_option maxRecDepth 20000 in
theorem tb261_78 {d n : Nat} {Q : zRs → zH → Prop}  {r2 : Nat → Int32 → Int32 → Int32 → zH → Option (Int32 × zH)} {l0 : Nat} {l1 : Int32} {l2 : Int32} {l3 : Int32} {l4 : Int32}   (hd : 4 ≤ d)  (hr2 : ∀ {l0 : Nat} {l1 : Int32} {l2 : Int32} {l3 : Int32}  {x4 : Option Value} {h : zH} {p : (Int32 × zH)}, zn2 x4 = true → r2 l0 l1 l2 l3 h = some p → Q (eI p.1) p.2 → zW d 261 2 [some (.ref l0), some (.int l1), some (.int l2), some (.int l3), x4] [] h Q) {h : zH} {p : (Int32 × zH)}  (hF : b261_78 n  r2 l0 l1 l2 l3 l4 h = some p) (q : Q (eI p.1) p.2) : zW d 261 78 [some (.ref l0), some (.int l1), some (.int l2), some (.int l3), some (.int l4)] [] h Q := by
  unfold b261_78 at hF
  obtain ⟨d, rfl⟩ : ∃ e, d = e + 1 := ⟨d - 1, by omega⟩
  refine zx_iinc (w := 1) rfl rfl rfl rfl rfl ?_
  refine zx_goto rfl rfl ?_
  exact hr2 rfl hF q
def b261_2 (n : Nat)  (r2 : Nat → Int32 → Int32 → Int32 → zH → Option (Int32 × zH)) (l0 : Nat) (l1 : Int32) (l2 : Int32) (l3 : Int32) (h : zH) : Option (Int32 × zH) :=
  (gR h l0 11 32).bind fun x1 =>
  (gI h l0 11 3).bind fun x3 =>
  x1.bind fun a5 =>
  (aI h a5 x3).bind fun x6 =>
  if x6 ≤ l3 then
    some ((-1), h)
  else
    (gI h l0 11 3).bind fun x9 =>
    (gR h l0 11 33).bind fun x11 =>
    x11.bind fun a13 =>
    (aI h a13 ((100 * x9) + l3)).bind fun x14 =>
    if x14 = l1 then
      (gR h l0 11 34).bind fun x17 =>
      x17.bind fun a19 =>
      (aI h a19 ((100 * x9) + l3)).bind fun x20 =>
      if x20 = l2 then
        (gR h l0 11 35).bind fun x23 =>
        x23.bind fun a25 =>
        (aI h a25 ((100 * x9) + l3)).bind fun x26 =>
        (gR h l0 11 36).bind fun x28 =>
        x28.bind fun a30 =>
        (aI h a30 ((100 * x9) + l3)).bind fun x31 =>
        (gR h l0 11 37).bind fun x33 =>
        x33.bind fun a35 =>
        (aI h a35 ((100 * x9) + l3)).bind fun x36 =>
        zgd (isO h l0 11) <|
        (f252 n l0 x26 x31 x36 h).bind fun p40 =>
        if p40.1 = 0 then
          b261_78 n r2 l0 l1 l2 l3 ((100 * x9) + l3) p40.2
        else
          some (l3, p40.2)
      else
        b261_78 n r2 l0 l1 l2 l3 ((100 * x9) + l3) h
    else
      b261_78 n r2 l0 l1 l2 l3 ((100 * x9) + l3) h
set_option maxRecDepth 20000 in
theorem tb261_2 {d n : Nat} {Q : zRs → zH → Prop}  {r2 : Nat → Int32 → Int32 → Int32 → zH → Option (Int32 × zH)} {l0 : Nat} {l1 : Int32} {l2 : Int32} {l3 : Int32}  {x4 : Option Value} (hd : 4 ≤ d)  (hr2 : ∀ {l0 : Nat} {l1 : Int32} {l2 : Int32} {l3 : Int32}  {x4 : Option Value} {h : zH} {p : (Int32 × zH)}, zn2 x4 = true → r2 l0 l1 l2 l3 h = some p → Q (eI p.1) p.2 → zW d 261 2 [some (.ref l0), some (.int l1), some (.int l2), some (.int l3), x4] [] h Q) {h : zH} {p : (Int32 × zH)} (hx4 : zn2 x4 = true) (hF : b261_2 n  r2 l0 l1 l2 l3 h = some p) (q : Q (eI p.1) p.2) : zW d 261 2 [some (.ref l0), some (.int l1), some (.int l2), some (.int l3), x4] [] h Q := by
  unfold b261_2 at hF
  obtain ⟨d, rfl⟩ : ∃ e, d = e + 1 := ⟨d - 1, by omega⟩
  refine zx_iload_n rfl rfl rfl ?_
  refine zx_aload_n rfl rfl rfl ?_
  replace hF := zbnd hF
  obtain ⟨x1, e2, hF⟩ := hF
  refine zy_getR rfl rfl e2 ?_
  refine zx_aload_n rfl rfl rfl ?_
  replace hF := zbnd hF
  obtain ⟨x3, e4, hF⟩ := hF
  refine zy_getI rfl rfl e4 ?_
  replace hF := zbnd hF
  obtain ⟨a5, rfl, hF⟩ := hF
  replace hF := zbnd hF
  obtain ⟨x6, e7, hF⟩ := hF
  refine zy_aI rfl rfl e7 ?_
  refine zx_ic_ge rfl rfl (fun c8 => ?_) (fun c8 => ?_)
  · rw [if_pos c8] at hF
    refine zx_iconst (v := (-1)) rfl rfl rfl ?_
    replace hF := Option.some.inj hF
    subst hF
    exact zx_bret rfl rfl rfl rfl q
  · rw [if_neg c8] at hF
    refine zx_bipush (v := 100) rfl rfl rfl ?_
    refine zx_aload_n rfl rfl rfl ?_
    replace hF := zbnd hF
    obtain ⟨x9, e10, hF⟩ := hF
    refine zy_getI rfl rfl e10 ?_
    refine zx_imul rfl rfl ?_
    refine zx_iload_n rfl rfl rfl ?_
    refine zx_iadd rfl rfl ?_
    refine zx_istore rfl rfl rfl ?_
    refine zx_aload_n rfl rfl rfl ?_
    replace hF := zbnd hF
    obtain ⟨x11, e12, hF⟩ := hF
    refine zy_getR rfl rfl e12 ?_
    refine zx_iload rfl rfl rfl ?_
    replace hF := zbnd hF
    obtain ⟨a13, rfl, hF⟩ := hF
    replace hF := zbnd hF
    obtain ⟨x14, e15, hF⟩ := hF
    refine zy_aI rfl rfl e15 ?_
    refine zx_iload_n rfl rfl rfl ?_
    refine zx_ic_ne rfl rfl (fun c16 => ?_) (fun c16 => ?_)
    · rw [if_neg c16] at hF
      exact tb261_78 (l0 := l0) (l1 := l1) (l2 := l2) (l3 := l3) (l4 := ((100 * x9) + l3)) hd hr2  hF q
    · rw [if_pos c16] at hF
      refine zx_aload_n rfl rfl rfl ?_
      replace hF := zbnd hF
      obtain ⟨x17, e18, hF⟩ := hF
      refine zy_getR rfl rfl e18 ?_
      refine zx_iload rfl rfl rfl ?_
      replace hF := zbnd hF
      obtain ⟨a19, rfl, hF⟩ := hF
      replace hF := zbnd hF
      obtain ⟨x20, e21, hF⟩ := hF
      refine zy_aI rfl rfl e21 ?_
      refine zx_iload_n rfl rfl rfl ?_
      refine zx_ic_ne rfl rfl (fun c22 => ?_) (fun c22 => ?_)
      · rw [if_neg c22] at hF
        exact tb261_78 (l0 := l0) (l1 := l1) (l2 := l2) (l3 := l3) (l4 := ((100 * x9) + l3)) hd hr2  hF q
      · rw [if_pos c22] at hF
        refine zx_aload_n rfl rfl rfl ?_
        refine zx_aload_n rfl rfl rfl ?_
        replace hF := zbnd hF
        obtain ⟨x23, e24, hF⟩ := hF
        refine zy_getR rfl rfl e24 ?_
        refine zx_iload rfl rfl rfl ?_
        replace hF := zbnd hF
        obtain ⟨a25, rfl, hF⟩ := hF
        replace hF := zbnd hF
        obtain ⟨x26, e27, hF⟩ := hF
        refine zy_aI rfl rfl e27 ?_
        refine zx_aload_n rfl rfl rfl ?_
        replace hF := zbnd hF
        obtain ⟨x28, e29, hF⟩ := hF
        refine zy_getR rfl rfl e29 ?_
        refine zx_iload rfl rfl rfl ?_
        replace hF := zbnd hF
        obtain ⟨a30, rfl, hF⟩ := hF
        replace hF := zbnd hF
        obtain ⟨x31, e32, hF⟩ := hF
        refine zy_aI rfl rfl e32 ?_
        refine zx_aload_n rfl rfl rfl ?_
        replace hF := zbnd hF
        obtain ⟨x33, e34, hF⟩ := hF
        refine zy_getR rfl rfl e34 ?_
        refine zx_iload rfl rfl rfl ?_
        replace hF := zbnd hF
        obtain ⟨a35, rfl, hF⟩ := hF
        replace hF := zbnd hF
        obtain ⟨x36, e37, hF⟩ := hF
        refine zy_aI rfl rfl e37 ?_
        replace hF := zgd_some hF
        obtain ⟨g38, hF⟩ := hF
        replace hF := zbnd hF
        obtain ⟨p40, e39, hF⟩ := hF
        refine zx_callE rfl rfl rfl rfl (zrcv_isO g38) rfl rfl (zc4 (Nat.le_of_ble_eq_true rfl)) (t252 (by omega) e39 (zaI ?_))
        refine zx_if_eq rfl rfl (fun c41 => ?_) (fun c41 => ?_)
        · rw [if_pos c41] at hF
          exact tb261_78 (l0 := l0) (l1 := l1) (l2 := l2) (l3 := l3) (l4 := ((100 * x9) + l3)) hd hr2  hF q
        · rw [if_neg c41] at hF
          refine zx_iload_n rfl rfl rfl ?_
          replace hF := Option.some.inj hF
          subst hF
          exact zx_bret rfl rfl rfl rfl q
def f261_2 (n : Nat)   (k : Nat) : Nat → Int32 → Int32 → Int32 → zH → Option (Int32 × zH) := Nat.rec (fun _ _ _ _ _ => none) (fun _ ih => b261_2 n  ih) k
theorem tf261_2 {d n : Nat} {Q : zRs → zH → Prop}   (hd : 4 ≤ d)   (k : Nat) : ∀ {l0 : Nat} {l1 : Int32} {l2 : Int32} {l3 : Int32}  {x4 : Option Value} {h : zH} {p : (Int32 × zH)}, zn2 x4 = true → f261_2 n   k l0 l1 l2 l3 h = some p → Q (eI p.1) p.2 → zW d 261 2 [some (.ref l0), some (.int l1), some (.int l2), some (.int l3), x4] [] h Q := by
  induction k with
  | zero => intros; rename_i hF _; cases hF
  | succ k ih => intros; rename_i hx4 hF q; exact tb261_2 (n := n) hd  ih hx4 hF q
def f261 (n : Nat)  (y0 : Nat) (y1 : Int32) (y2 : Int32) (h : zH) : Option (Int32 × zH) :=
  f261_2 n  n y0 y1 y2 0 h
set_option maxRecDepth 20000 in
theorem t261 {d n : Nat} {Q : zRs → zH → Prop}  {y0 : Nat} {y1 : Int32} {y2 : Int32} (hd : 4 ≤ d)  {h : zH} {p : (Int32 × zH)} (hF : f261 n  y0 y1 y2 h = some p) (q : Q (eI p.1) p.2) : zC d 261 [.ref y0, .int y1, .int y2] h Q := by
  refine zC_of (L := [some (.ref y0), some (.int y1), some (.int y2), none, none]) rfl rfl ?_
  unfold f261 at hF
  obtain ⟨d, rfl⟩ : ∃ e, d = e + 1 := ⟨d - 1, by omega⟩
  refine zx_iconst (v := 0) rfl rfl rfl ?_
  refine zx_istore_n rfl rfl rfl ?_
  exact tf261_2 hd  n (l0 := y0) (l1 := y1) (l2 := y2) (l3 := 0) rfl hF q
def f264 (n : Nat)  (y0 : Nat) (y1 : Int32) (h : zH) : Option (Unit × zH) :=
  (gJ h y0 11 84).bind fun x1 =>
  (pF h y0 11 84 (.long ((x1 ^^^ y1.toInt64) * (1099511628211)))).bind fun h3 =>
  some ((), h3)
set_option maxRecDepth 20000 in
theorem t264 {d n : Nat} {Q : zRs → zH → Prop}  {y0 : Nat} {y1 : Int32} (hd : 0 ≤ d)  {h : zH} {p : (Unit × zH)} (hF : f264 n  y0 y1 h = some p) (q : Q (eV p.1) p.2) : zC d 264 [.ref y0, .int y1] h Q := by
  refine zC_of (L := [some (.ref y0), some (.int y1)]) rfl rfl ?_
  unfold f264 at hF
  refine zx_aload_n rfl rfl rfl ?_
  refine zx_aload_n rfl rfl rfl ?_
  replace hF := zbnd hF
  obtain ⟨x1, e2, hF⟩ := hF
  refine zy_getJ rfl rfl e2 ?_
  refine zx_iload_n rfl rfl rfl ?_
  refine zx_i2l rfl rfl ?_
  refine zx_lxor rfl rfl ?_
  refine zx_ldc2 rfl rfl rfl ?_
  refine zx_lmul rfl rfl ?_
  replace hF := zbnd hF
  obtain ⟨h3, e4, hF⟩ := hF
  refine zy_put rfl rfl e4 ?_
  replace hF := Option.some.inj hF
  subst hF
  exact zx_return rfl rfl rfl q
def b265_39 (n : Nat)  (r39 : Nat → Int32 → Int32 → Int32 → zH → Option (Unit × zH)) (l0 : Nat) (l1 : Int32) (l2 : Int32) (l3 : Int32) (h : zH) : Option (Unit × zH) :=
  if l3 ≤ 0 then
    some ((), h)
  else
    zgd (!decide (l3 = 0)) <|
    zgd (isO h l0 11) <|
    (f264 n l0 (48 + ((l2 / l3) - (l2 / l3) / 10 * 10)) h).bind fun p5 =>
    r39 l0 l1 l2 (l3 / 10) p5.2
set_option maxRecDepth 20000 in
theorem tb265_39 {d n : Nat} {Q : zRs → zH → Prop}  {r39 : Nat → Int32 → Int32 → Int32 → zH → Option (Unit × zH)} {l0 : Nat} {l1 : Int32} {l2 : Int32} {l3 : Int32}   (hd : 1 ≤ d)  (hr39 : ∀ {l0 : Nat} {l1 : Int32} {l2 : Int32} {l3 : Int32}   {h : zH} {p : (Unit × zH)}, r39 l0 l1 l2 l3 h = some p → Q (eV p.1) p.2 → zW d 265 39 [some (.ref l0), some (.int l1), some (.int l2), some (.int l3)] [] h Q) {h : zH} {p : (Unit × zH)}  (hF : b265_39 n  r39 l0 l1 l2 l3 h = some p) (q : Q (eV p.1) p.2) : zW d 265 39 [some (.ref l0), some (.int l1), some (.int l2), some (.int l3)] [] h Q := by
  unfold b265_39 at hF
  obtain ⟨d, rfl⟩ : ∃ e, d = e + 1 := ⟨d - 1, by omega⟩
  refine zx_iload_n rfl rfl rfl ?_
  refine zx_if_le rfl rfl (fun c1 => ?_) (fun c1 => ?_)
  · rw [if_pos c1] at hF
    replace hF := Option.some.inj hF
    subst hF
    exact zx_return rfl rfl rfl q
  · rw [if_neg c1] at hF
    refine zx_aload_n rfl rfl rfl ?_
    refine zx_bipush (v := 48) rfl rfl rfl ?_
    refine zx_iload_n rfl rfl rfl ?_
    refine zx_iload_n rfl rfl rfl ?_
    replace hF := zgd_some hF
    obtain ⟨g2, hF⟩ := hF
    refine zx_idiv rfl rfl (by simpa using g2) ?_
    refine zx_bipush (v := 10) rfl rfl rfl ?_
    refine zx_irem rfl rfl (by decide) ?_
    refine zx_iadd rfl rfl ?_
    replace hF := zgd_some hF
    obtain ⟨g3, hF⟩ := hF
    replace hF := zbnd hF
    obtain ⟨p5, e4, hF⟩ := hF
    refine zx_callE rfl rfl rfl rfl (zrcv_isO g3) rfl rfl (zc4 (Nat.le_of_ble_eq_true rfl)) (t264 (by omega) e4 (zaV ?_))
    refine zx_iload_n rfl rfl rfl ?_
    refine zx_bipush (v := 10) rfl rfl rfl ?_
    refine zx_idiv rfl rfl (by decide) ?_
    refine zx_istore_n rfl rfl rfl ?_
    refine zx_goto rfl rfl ?_
    exact hr39  hF q
def f265_39 (n : Nat)   (k : Nat) : Nat → Int32 → Int32 → Int32 → zH → Option (Unit × zH) := Nat.rec (fun _ _ _ _ _ => none) (fun _ ih => b265_39 n  ih) k
theorem tf265_39 {d n : Nat} {Q : zRs → zH → Prop}   (hd : 1 ≤ d)   (k : Nat) : ∀ {l0 : Nat} {l1 : Int32} {l2 : Int32} {l3 : Int32}   {h : zH} {p : (Unit × zH)}, f265_39 n   k l0 l1 l2 l3 h = some p → Q (eV p.1) p.2 → zW d 265 39 [some (.ref l0), some (.int l1), some (.int l2), some (.int l3)] [] h Q := by
  induction k with
  | zero => intros; rename_i hF _; cases hF
  | succ k ih => intros; rename_i  hF q; exact tb265_39 (n := n) hd  ih  hF q
def b265_23 (n : Nat)  (r23 : Nat → Int32 → Int32 → Int32 → zH → Option (Unit × zH)) (l0 : Nat) (l1 : Int32) (l2 : Int32) (l3 : Int32) (h : zH) : Option (Unit × zH) :=
  zgd (!decide (l3 = 0)) <|
  if (l2 / l3) < 10 then
    f265_39 n  n l0 l1 l2 l3 h
  else
    r23 l0 l1 l2 (10 * l3) h
set_option maxRecDepth 20000 in
theorem tb265_23 {d n : Nat} {Q : zRs → zH → Prop}  {r23 : Nat → Int32 → Int32 → Int32 → zH → Option (Unit × zH)} {l0 : Nat} {l1 : Int32} {l2 : Int32} {l3 : Int32}   (hd : 1 ≤ d)  (hr23 : ∀ {l0 : Nat} {l1 : Int32} {l2 : Int32} {l3 : Int32}   {h : zH} {p : (Unit × zH)}, r23 l0 l1 l2 l3 h = some p → Q (eV p.1) p.2 → zW d 265 23 [some (.ref l0), some (.int l1), some (.int l2), some (.int l3)] [] h Q) {h : zH} {p : (Unit × zH)}  (hF : b265_23 n  r23 l0 l1 l2 l3 h = some p) (q : Q (eV p.1) p.2) : zW d 265 23 [some (.ref l0), some (.int l1), some (.int l2), some (.int l3)] [] h Q := by
  unfold b265_23 at hF
  obtain ⟨d, rfl⟩ : ∃ e, d = e + 1 := ⟨d - 1, by omega⟩
  refine zx_iload_n rfl rfl rfl ?_
  refine zx_iload_n rfl rfl rfl ?_
  replace hF := zgd_some hF
  obtain ⟨g1, hF⟩ := hF
  refine zx_idiv rfl rfl (by simpa using g1) ?_
  refine zx_bipush (v := 10) rfl rfl rfl ?_
  refine zx_ic_lt rfl rfl (fun c2 => ?_) (fun c2 => ?_)
  · rw [if_pos c2] at hF
    exact tf265_39 hd  n (l0 := l0) (l1 := l1) (l2 := l2) (l3 := l3)  hF q
  · rw [if_neg c2] at hF
    refine zx_bipush (v := 10) rfl rfl rfl ?_
    refine zx_iload_n rfl rfl rfl ?_
    refine zx_imul rfl rfl ?_
    refine zx_istore_n rfl rfl rfl ?_
    refine zx_goto rfl rfl ?_
    exact hr23  hF q
def f265_23 (n : Nat)   (k : Nat) : Nat → Int32 → Int32 → Int32 → zH → Option (Unit × zH) := Nat.rec (fun _ _ _ _ _ => none) (fun _ ih => b265_23 n  ih) k
theorem tf265_23 {d n : Nat} {Q : zRs → zH → Prop}   (hd : 1 ≤ d)   (k : Nat) : ∀ {l0 : Nat} {l1 : Int32} {l2 : Int32} {l3 : Int32}   {h : zH} {p : (Unit × zH)}, f265_23 n   k l0 l1 l2 l3 h = some p → Q (eV p.1) p.2 → zW d 265 23 [some (.ref l0), some (.int l1), some (.int l2), some (.int l3)] [] h Q := by
  induction k with
  | zero => intros; rename_i hF _; cases hF
  | succ k ih => intros; rename_i  hF q; exact tb265_23 (n := n) hd  ih  hF q
def b265_20 (n : Nat)   (l0 : Nat) (l1 : Int32) (s0 : Int32) (h : zH) : Option (Unit × zH) :=
  f265_23 n  n l0 l1 s0 1 h
set_option maxRecDepth 20000 in
theorem tb265_20 {d n : Nat} {Q : zRs → zH → Prop}   {l0 : Nat} {l1 : Int32} {s0 : Int32} {x2 : Option Value} {x3 : Option Value} (hd : 1 ≤ d)   {h : zH} {p : (Unit × zH)} (hx2 : zn2 x2 = true) (hx3 : zn2 x3 = true) (hF : b265_20 n   l0 l1 s0 h = some p) (q : Q (eV p.1) p.2) : zW d 265 20 [some (.ref l0), some (.int l1), x2, x3] [.int s0] h Q := by
  unfold b265_20 at hF
  obtain ⟨d, rfl⟩ : ∃ e, d = e + 1 := ⟨d - 1, by omega⟩
  refine zx_istore_n rfl rfl rfl ?_
  refine zx_iconst (v := 1) rfl rfl rfl ?_
  refine zx_istore_n rfl rfl rfl ?_
  exact tf265_23 hd  n (l0 := l0) (l1 := l1) (l2 := s0) (l3 := 1)  hF q
def b265_10 (n : Nat)   (l0 : Nat) (l1 : Int32) (h : zH) : Option (Unit × zH) :=
  if (0 : Int32) ≤ l1 then
    b265_20 n  l0 l1 l1 h
  else
    b265_20 n  l0 l1 (-l1) h
set_option maxRecDepth 20000 in
theorem tb265_10 {d n : Nat} {Q : zRs → zH → Prop}   {l0 : Nat} {l1 : Int32}  {x2 : Option Value} {x3 : Option Value} (hd : 1 ≤ d)   {h : zH} {p : (Unit × zH)} (hx2 : zn2 x2 = true) (hx3 : zn2 x3 = true) (hF : b265_10 n   l0 l1 h = some p) (q : Q (eV p.1) p.2) : zW d 265 10 [some (.ref l0), some (.int l1), x2, x3] [] h Q := by
  unfold b265_10 at hF
  obtain ⟨d, rfl⟩ : ∃ e, d = e + 1 := ⟨d - 1, by omega⟩
  refine zx_iload_n rfl rfl rfl ?_
  refine zx_if_ge rfl rfl (fun c1 => ?_) (fun c1 => ?_)
  · rw [if_pos c1] at hF
    refine zx_iload_n rfl rfl rfl ?_
    exact tb265_20 (l0 := l0) (l1 := l1) (s0 := l1) hd  hx2 hx3 hF q
  · rw [if_neg c1] at hF
    refine zx_iload_n rfl rfl rfl ?_
    refine zx_ineg rfl rfl ?_
    refine zx_goto rfl rfl ?_
    exact tb265_20 (l0 := l0) (l1 := l1) (s0 := (-l1)) hd  hx2 hx3 hF q
def f265 (n : Nat)  (y0 : Nat) (y1 : Int32) (h : zH) : Option (Unit × zH) :=
  if (0 : Int32) ≤ y1 then
    b265_10 n  y0 y1 h
  else
    zgd (isO h y0 11) <|
    (f264 n y0 45 h).bind fun p4 =>
    b265_10 n  y0 y1 p4.2
set_option maxRecDepth 20000 in
theorem t265 {d n : Nat} {Q : zRs → zH → Prop}  {y0 : Nat} {y1 : Int32} (hd : 1 ≤ d)  {h : zH} {p : (Unit × zH)} (hF : f265 n  y0 y1 h = some p) (q : Q (eV p.1) p.2) : zC d 265 [.ref y0, .int y1] h Q := by
  refine zC_of (L := [some (.ref y0), some (.int y1), none, none]) rfl rfl ?_
  unfold f265 at hF
  obtain ⟨d, rfl⟩ : ∃ e, d = e + 1 := ⟨d - 1, by omega⟩
  refine zx_iload_n rfl rfl rfl ?_
  refine zx_if_ge rfl rfl (fun c1 => ?_) (fun c1 => ?_)
  · rw [if_pos c1] at hF
    exact tb265_10 (l0 := y0) (l1 := y1) hd  rfl rfl hF q
  · rw [if_neg c1] at hF
    refine zx_aload_n rfl rfl rfl ?_
    refine zx_bipush (v := 45) rfl rfl rfl ?_
    replace hF := zgd_some hF
    obtain ⟨g2, hF⟩ := hF
    replace hF := zbnd hF
    obtain ⟨p4, e3, hF⟩ := hF
    refine zx_callE rfl rfl rfl rfl (zrcv_isO g2) rfl rfl (zc4 (Nat.le_of_ble_eq_true rfl)) (t264 (by omega) e3 (zaV ?_))
    exact tb265_10 (l0 := y0) (l1 := y1) hd  rfl rfl hF q
def b263_108 (n : Nat)   (l0 : Nat) (l1 : Int32) (l2 : Int32) (l3 : Int32) (h : zH) : Option (Int32 × zH) :=
  (gJ h l0 11 84).bind fun x1 =>
  (gJ h l0 11 84).bind fun x3 =>
  some (((((2) * (((x1 ^^^ (x3.toUInt64 >>> ((32 : Int32).toInt64.toUInt64 &&& Int64.toUInt64 63)).toInt64).toUInt64 >>> ((1 : Int32).toInt64.toUInt64 &&& Int64.toUInt64 63)).toInt64 - ((x1 ^^^ (x3.toUInt64 >>> ((32 : Int32).toInt64.toUInt64 &&& Int64.toUInt64 63)).toInt64).toUInt64 >>> ((1 : Int32).toInt64.toUInt64 &&& Int64.toUInt64 63)).toInt64 / (10000) * (10000))) + ((x1 ^^^ (x3.toUInt64 >>> ((32 : Int32).toInt64.toUInt64 &&& Int64.toUInt64 63)).toInt64) &&& 1)) - (((2) * (((x1 ^^^ (x3.toUInt64 >>> ((32 : Int32).toInt64.toUInt64 &&& Int64.toUInt64 63)).toInt64).toUInt64 >>> ((1 : Int32).toInt64.toUInt64 &&& Int64.toUInt64 63)).toInt64 - ((x1 ^^^ (x3.toUInt64 >>> ((32 : Int32).toInt64.toUInt64 &&& Int64.toUInt64 63)).toInt64).toUInt64 >>> ((1 : Int32).toInt64.toUInt64 &&& Int64.toUInt64 63)).toInt64 / (10000) * (10000))) + ((x1 ^^^ (x3.toUInt64 >>> ((32 : Int32).toInt64.toUInt64 &&& Int64.toUInt64 63)).toInt64) &&& 1)) / (10000) * (10000)).toInt32, h)
set_option maxRecDepth 20000 in
theorem tb263_108 {d n : Nat} {Q : zRs → zH → Prop}   {l0 : Nat} {l1 : Int32} {l2 : Int32} {l3 : Int32}  {x4 : Option Value} {x5 : Option Value} {x6 : Option Value} (hd : 2 ≤ d)   {h : zH} {p : (Int32 × zH)} (hx4 : zn2 x4 = true) (hx5 : zn2 x5 = true) (hx6 : zn2 x6 = true) (hF : b263_108 n   l0 l1 l2 l3 h = some p) (q : Q (eI p.1) p.2) : zW d 263 108 [some (.ref l0), some (.int l1), some (.int l2), some (.int l3), x4, x5, x6] [] h Q := by
  unfold b263_108 at hF
  obtain ⟨d, rfl⟩ : ∃ e, d = e + 1 := ⟨d - 1, by omega⟩
  refine zx_aload_n rfl rfl rfl ?_
  replace hF := zbnd hF
  obtain ⟨x1, e2, hF⟩ := hF
  refine zy_getJ rfl rfl e2 ?_
  refine zx_aload_n rfl rfl rfl ?_
  replace hF := zbnd hF
  obtain ⟨x3, e4, hF⟩ := hF
  refine zy_getJ rfl rfl e4 ?_
  refine zx_bipush (v := 32) rfl rfl rfl ?_
  refine zx_lushr rfl rfl ?_
  refine zx_lxor rfl rfl ?_
  refine zx_lstore_n rfl rfl rfl ?_
  refine zx_lload_n rfl rfl rfl ?_
  refine zx_iconst (v := 1) rfl rfl rfl ?_
  refine zx_lushr rfl rfl ?_
  refine zx_ldc2 rfl rfl rfl ?_
  refine zx_lrem rfl rfl (by decide) ?_
  refine zx_lstore rfl rfl rfl ?_
  refine zx_ldc2 rfl rfl rfl ?_
  refine zx_lload rfl rfl rfl ?_
  refine zx_lmul rfl rfl ?_
  refine zx_lload_n rfl rfl rfl ?_
  refine zx_lconst (v := 1) rfl rfl rfl ?_
  refine zx_land rfl rfl ?_
  refine zx_ladd rfl rfl ?_
  refine zx_ldc2 rfl rfl rfl ?_
  refine zx_lrem rfl rfl (by decide) ?_
  refine zx_l2i rfl rfl ?_
  replace hF := Option.some.inj hF
  subst hF
  exact zx_bret rfl rfl rfl rfl q
def b263_56 (n : Nat)  (r56 : Nat → Int32 → Int32 → Int32 → zH → Option (Int32 × zH)) (l0 : Nat) (l1 : Int32) (l2 : Int32) (l3 : Int32) (h : zH) : Option (Int32 × zH) :=
  (gR h l0 11 6).bind fun x1 =>
  x1.bind fun a3 =>
  (aI h a3 (3008 + l2)).bind fun x4 =>
  if x4 ≤ l3 then
    b263_108 n  l0 l1 l2 l3 h
  else
    (gR h l0 11 7).bind fun x7 =>
    x7.bind fun a9 =>
    (aB h a9 ((16 * (3008 + l2)) + l3)).bind fun x10 =>
    zgd (isO h l0 11) <|
    (f264 n l0 x10 h).bind fun p14 =>
    r56 l0 l1 l2 (l3 + 1) p14.2
set_option maxRecDepth 20000 in
theorem tb263_56 {d n : Nat} {Q : zRs → zH → Prop}  {r56 : Nat → Int32 → Int32 → Int32 → zH → Option (Int32 × zH)} {l0 : Nat} {l1 : Int32} {l2 : Int32} {l3 : Int32}  {x4 : Option Value} {x5 : Option Value} {x6 : Option Value} (hd : 2 ≤ d)  (hr56 : ∀ {l0 : Nat} {l1 : Int32} {l2 : Int32} {l3 : Int32}  {x4 : Option Value} {x5 : Option Value} {x6 : Option Value} {h : zH} {p : (Int32 × zH)}, zn2 x4 = true → zn2 x5 = true → zn2 x6 = true → r56 l0 l1 l2 l3 h = some p → Q (eI p.1) p.2 → zW d 263 56 [some (.ref l0), some (.int l1), some (.int l2), some (.int l3), x4, x5, x6] [] h Q) {h : zH} {p : (Int32 × zH)} (hx4 : zn2 x4 = true) (hx5 : zn2 x5 = true) (hx6 : zn2 x6 = true) (hF : b263_56 n  r56 l0 l1 l2 l3 h = some p) (q : Q (eI p.1) p.2) : zW d 263 56 [some (.ref l0), some (.int l1), some (.int l2), some (.int l3), x4, x5, x6] [] h Q := by
  unfold b263_56 at hF
  obtain ⟨d, rfl⟩ : ∃ e, d = e + 1 := ⟨d - 1, by omega⟩
  refine zx_iload_n rfl rfl rfl ?_
  refine zx_aload_n rfl rfl rfl ?_
  replace hF := zbnd hF
  obtain ⟨x1, e2, hF⟩ := hF
  refine zy_getR rfl rfl e2 ?_
  refine zx_sipush (v := 3008) rfl rfl rfl ?_
  refine zx_iload_n rfl rfl rfl ?_
  refine zx_iadd rfl rfl ?_
  replace hF := zbnd hF
  obtain ⟨a3, rfl, hF⟩ := hF
  replace hF := zbnd hF
  obtain ⟨x4, e5, hF⟩ := hF
  refine zy_aI rfl rfl e5 ?_
  refine zx_ic_ge rfl rfl (fun c6 => ?_) (fun c6 => ?_)
  · rw [if_pos c6] at hF
    refine zx_goto rfl rfl ?_
    exact tb263_108 (l0 := l0) (l1 := l1) (l2 := l2) (l3 := l3) hd  hx4 hx5 hx6 hF q
  · rw [if_neg c6] at hF
    refine zx_aload_n rfl rfl rfl ?_
    refine zx_aload_n rfl rfl rfl ?_
    replace hF := zbnd hF
    obtain ⟨x7, e8, hF⟩ := hF
    refine zy_getR rfl rfl e8 ?_
    refine zx_bipush (v := 16) rfl rfl rfl ?_
    refine zx_sipush (v := 3008) rfl rfl rfl ?_
    refine zx_iload_n rfl rfl rfl ?_
    refine zx_iadd rfl rfl ?_
    refine zx_imul rfl rfl ?_
    refine zx_iload_n rfl rfl rfl ?_
    refine zx_iadd rfl rfl ?_
    replace hF := zbnd hF
    obtain ⟨a9, rfl, hF⟩ := hF
    replace hF := zbnd hF
    obtain ⟨x10, e11, hF⟩ := hF
    refine zy_aB rfl rfl e11 ?_
    replace hF := zgd_some hF
    obtain ⟨g12, hF⟩ := hF
    replace hF := zbnd hF
    obtain ⟨p14, e13, hF⟩ := hF
    refine zx_callE rfl rfl rfl rfl (zrcv_isO g12) rfl rfl (zc4 (Nat.le_of_ble_eq_true rfl)) (t264 (by omega) e13 (zaV ?_))
    refine zx_iinc (w := 1) rfl rfl rfl rfl rfl ?_
    refine zx_goto rfl rfl ?_
    exact hr56 hx4 hx5 hx6 hF q
def f263_56 (n : Nat)   (k : Nat) : Nat → Int32 → Int32 → Int32 → zH → Option (Int32 × zH) := Nat.rec (fun _ _ _ _ _ => none) (fun _ ih => b263_56 n  ih) k
theorem tf263_56 {d n : Nat} {Q : zRs → zH → Prop}   (hd : 2 ≤ d)   (k : Nat) : ∀ {l0 : Nat} {l1 : Int32} {l2 : Int32} {l3 : Int32}  {x4 : Option Value} {x5 : Option Value} {x6 : Option Value} {h : zH} {p : (Int32 × zH)}, zn2 x4 = true → zn2 x5 = true → zn2 x6 = true → f263_56 n   k l0 l1 l2 l3 h = some p → Q (eI p.1) p.2 → zW d 263 56 [some (.ref l0), some (.int l1), some (.int l2), some (.int l3), x4, x5, x6] [] h Q := by
  induction k with
  | zero => intros; rename_i hF _; cases hF
  | succ k ih => intros; rename_i hx4 hx5 hx6 hF q; exact tb263_56 (n := n) hd  ih hx4 hx5 hx6 hF q
def b263_9 (n : Nat)  (r9 : Nat → Int32 → Int32 → Int32 → zH → Option (Int32 × zH)) (l0 : Nat) (l1 : Int32) (l2 : Int32) (l3 : Int32) (h : zH) : Option (Int32 × zH) :=
  (gR h l0 11 6).bind fun x1 =>
  x1.bind fun a3 =>
  (aI h a3 l1).bind fun x4 =>
  if x4 ≤ l3 then
    zgd (isO h l0 11) <|
    (f264 n l0 0 h).bind fun p9 =>
    (gR p9.2 l0 11 66).bind fun x10 =>
    x10.bind fun a12 =>
    (aB p9.2 a12 l2).bind fun x13 =>
    if x13 = 0 then
      (gR p9.2 l0 11 67).bind fun x16 =>
      x16.bind fun a18 =>
      (aI p9.2 a18 l2).bind fun x19 =>
      zgd (isO p9.2 l0 11) <|
      (f265 n l0 x19 p9.2).bind fun p23 =>
      b263_108 n  l0 l1 l2 l3 p23.2
    else
      f263_56 n  n l0 l1 l2 0 p9.2
  else
    (gR h l0 11 7).bind fun x24 =>
    x24.bind fun a26 =>
    (aB h a26 ((16 * l1) + l3)).bind fun x27 =>
    zgd (isO h l0 11) <|
    (f264 n l0 x27 h).bind fun p31 =>
    r9 l0 l1 l2 (l3 + 1) p31.2
set_option maxRecDepth 20000 in
theorem tb263_9 {d n : Nat} {Q : zRs → zH → Prop}  {r9 : Nat → Int32 → Int32 → Int32 → zH → Option (Int32 × zH)} {l0 : Nat} {l1 : Int32} {l2 : Int32} {l3 : Int32}  {x4 : Option Value} {x5 : Option Value} {x6 : Option Value} (hd : 2 ≤ d)  (hr9 : ∀ {l0 : Nat} {l1 : Int32} {l2 : Int32} {l3 : Int32}  {x4 : Option Value} {x5 : Option Value} {x6 : Option Value} {h : zH} {p : (Int32 × zH)}, zn2 x4 = true → zn2 x5 = true → zn2 x6 = true → r9 l0 l1 l2 l3 h = some p → Q (eI p.1) p.2 → zW d 263 9 [some (.ref l0), some (.int l1), some (.int l2), some (.int l3), x4, x5, x6] [] h Q) {h : zH} {p : (Int32 × zH)} (hx4 : zn2 x4 = true) (hx5 : zn2 x5 = true) (hx6 : zn2 x6 = true) (hF : b263_9 n  r9 l0 l1 l2 l3 h = some p) (q : Q (eI p.1) p.2) : zW d 263 9 [some (.ref l0), some (.int l1), some (.int l2), some (.int l3), x4, x5, x6] [] h Q := by
  unfold b263_9 at hF
  obtain ⟨d, rfl⟩ : ∃ e, d = e + 1 := ⟨d - 1, by omega⟩
  refine zx_iload_n rfl rfl rfl ?_
  refine zx_aload_n rfl rfl rfl ?_
  replace hF := zbnd hF
  obtain ⟨x1, e2, hF⟩ := hF
  refine zy_getR rfl rfl e2 ?_
  refine zx_iload_n rfl rfl rfl ?_
  replace hF := zbnd hF
  obtain ⟨a3, rfl, hF⟩ := hF
  replace hF := zbnd hF
  obtain ⟨x4, e5, hF⟩ := hF
  refine zy_aI rfl rfl e5 ?_
  refine zx_ic_ge rfl rfl (fun c6 => ?_) (fun c6 => ?_)
  · rw [if_pos c6] at hF
    refine zx_aload_n rfl rfl rfl ?_
    refine zx_iconst (v := 0) rfl rfl rfl ?_
    replace hF := zgd_some hF
    obtain ⟨g7, hF⟩ := hF
    replace hF := zbnd hF
    obtain ⟨p9, e8, hF⟩ := hF
    refine zx_callE rfl rfl rfl rfl (zrcv_isO g7) rfl rfl (zc4 (Nat.le_of_ble_eq_true rfl)) (t264 (by omega) e8 (zaV ?_))
    refine zx_aload_n rfl rfl rfl ?_
    replace hF := zbnd hF
    obtain ⟨x10, e11, hF⟩ := hF
    refine zy_getR rfl rfl e11 ?_
    refine zx_iload_n rfl rfl rfl ?_
    replace hF := zbnd hF
    obtain ⟨a12, rfl, hF⟩ := hF
    replace hF := zbnd hF
    obtain ⟨x13, e14, hF⟩ := hF
    refine zy_aB rfl rfl e14 ?_
    refine zx_if_eq rfl rfl (fun c15 => ?_) (fun c15 => ?_)
    · rw [if_pos c15] at hF
      refine zx_aload_n rfl rfl rfl ?_
      refine zx_aload_n rfl rfl rfl ?_
      replace hF := zbnd hF
      obtain ⟨x16, e17, hF⟩ := hF
      refine zy_getR rfl rfl e17 ?_
      refine zx_iload_n rfl rfl rfl ?_
      replace hF := zbnd hF
      obtain ⟨a18, rfl, hF⟩ := hF
      replace hF := zbnd hF
      obtain ⟨x19, e20, hF⟩ := hF
      refine zy_aI rfl rfl e20 ?_
      replace hF := zgd_some hF
      obtain ⟨g21, hF⟩ := hF
      replace hF := zbnd hF
      obtain ⟨p23, e22, hF⟩ := hF
      refine zx_callE rfl rfl rfl rfl (zrcv_isO g21) rfl rfl (zc4 (Nat.le_of_ble_eq_true rfl)) (t265 (by omega) e22 (zaV ?_))
      exact tb263_108 (l0 := l0) (l1 := l1) (l2 := l2) (l3 := l3) hd  hx4 hx5 hx6 hF q
    · rw [if_neg c15] at hF
      refine zx_iconst (v := 0) rfl rfl rfl ?_
      refine zx_istore_n rfl rfl rfl ?_
      exact tf263_56 hd  n (l0 := l0) (l1 := l1) (l2 := l2) (l3 := 0) hx4 hx5 hx6 hF q
  · rw [if_neg c6] at hF
    refine zx_aload_n rfl rfl rfl ?_
    refine zx_aload_n rfl rfl rfl ?_
    replace hF := zbnd hF
    obtain ⟨x24, e25, hF⟩ := hF
    refine zy_getR rfl rfl e25 ?_
    refine zx_bipush (v := 16) rfl rfl rfl ?_
    refine zx_iload_n rfl rfl rfl ?_
    refine zx_imul rfl rfl ?_
    refine zx_iload_n rfl rfl rfl ?_
    refine zx_iadd rfl rfl ?_
    replace hF := zbnd hF
    obtain ⟨a26, rfl, hF⟩ := hF
    replace hF := zbnd hF
    obtain ⟨x27, e28, hF⟩ := hF
    refine zy_aB rfl rfl e28 ?_
    replace hF := zgd_some hF
    obtain ⟨g29, hF⟩ := hF
    replace hF := zbnd hF
    obtain ⟨p31, e30, hF⟩ := hF
    refine zx_callE rfl rfl rfl rfl (zrcv_isO g29) rfl rfl (zc4 (Nat.le_of_ble_eq_true rfl)) (t264 (by omega) e30 (zaV ?_))
    refine zx_iinc (w := 1) rfl rfl rfl rfl rfl ?_
    refine zx_goto rfl rfl ?_
    exact hr9 hx4 hx5 hx6 hF q
def f263_9 (n : Nat)   (k : Nat) : Nat → Int32 → Int32 → Int32 → zH → Option (Int32 × zH) := Nat.rec (fun _ _ _ _ _ => none) (fun _ ih => b263_9 n  ih) k
theorem tf263_9 {d n : Nat} {Q : zRs → zH → Prop}   (hd : 2 ≤ d)   (k : Nat) : ∀ {l0 : Nat} {l1 : Int32} {l2 : Int32} {l3 : Int32}  {x4 : Option Value} {x5 : Option Value} {x6 : Option Value} {h : zH} {p : (Int32 × zH)}, zn2 x4 = true → zn2 x5 = true → zn2 x6 = true → f263_9 n   k l0 l1 l2 l3 h = some p → Q (eI p.1) p.2 → zW d 263 9 [some (.ref l0), some (.int l1), some (.int l2), some (.int l3), x4, x5, x6] [] h Q := by
  induction k with
  | zero => intros; rename_i hF _; cases hF
  | succ k ih => intros; rename_i hx4 hx5 hx6 hF q; exact tb263_9 (n := n) hd  ih hx4 hx5 hx6 hF q
def f263 (n : Nat)  (y0 : Nat) (y1 : Int32) (y2 : Int32) (h : zH) : Option (Int32 × zH) :=
  (pF h y0 11 84 (.long (-3750763034362895579))).bind fun h1 =>
  f263_9 n  n y0 y1 y2 0 h1
set_option maxRecDepth 20000 in
theorem t263 {d n : Nat} {Q : zRs → zH → Prop}  {y0 : Nat} {y1 : Int32} {y2 : Int32} (hd : 2 ≤ d)  {h : zH} {p : (Int32 × zH)} (hF : f263 n  y0 y1 y2 h = some p) (q : Q (eI p.1) p.2) : zC d 263 [.ref y0, .int y1, .int y2] h Q := by
  refine zC_of (L := [some (.ref y0), some (.int y1), some (.int y2), none, none, none, none]) rfl rfl ?_
  unfold f263 at hF
  obtain ⟨d, rfl⟩ : ∃ e, d = e + 1 := ⟨d - 1, by omega⟩
  refine zx_aload_n rfl rfl rfl ?_
  refine zx_ldc2 rfl rfl rfl ?_
  replace hF := zbnd hF
  obtain ⟨h1, e2, hF⟩ := hF
  refine zy_put rfl rfl e2 ?_
  refine zx_iconst (v := 0) rfl rfl rfl ?_
  refine zx_istore_n rfl rfl rfl ?_
  exact tf263_9 hd  n (l0 := y0) (l1 := y1) (l2 := y2) (l3 := 0) rfl rfl rfl hF q
def b262_109 (n : Nat)  (r109 : Nat → Int32 → Int32 → Int32 → Int32 → Int32 → Int32 → Int32 → zH → Option (Int32 × zH)) (l0 : Nat) (l1 : Int32) (l2 : Int32) (l3 : Int32) (l4 : Int32) (l5 : Int32) (l6 : Int32) (l7 : Int32) (h : zH) : Option (Int32 × zH) :=
  if l5 < l7 then
    (gR h l0 11 52).bind fun x2 =>
    x2.bind fun a4 =>
    (aI h a4 l5).bind fun x5 =>
    some (x5, h)
  else
    (gR h l0 11 51).bind fun x7 =>
    x7.bind fun a9 =>
    (aI h a9 l7).bind fun x10 =>
    (gI h l0 11 89).bind fun x12 =>
    if (l6 + x10) ≤ x12 then
      r109 l0 l1 l2 l3 l4 l5 (l6 + x10) (l7 + 1) h
    else
      (gR h l0 11 52).bind fun x15 =>
      x15.bind fun a17 =>
      (aI h a17 l7).bind fun x18 =>
      some (x18, h)
set_option maxRecDepth 20000 in
theorem tb262_109 {d n : Nat} {Q : zRs → zH → Prop}  {r109 : Nat → Int32 → Int32 → Int32 → Int32 → Int32 → Int32 → Int32 → zH → Option (Int32 × zH)} {l0 : Nat} {l1 : Int32} {l2 : Int32} {l3 : Int32} {l4 : Int32} {l5 : Int32} {l6 : Int32} {l7 : Int32}   (hd : 3 ≤ d)  (hr109 : ∀ {l0 : Nat} {l1 : Int32} {l2 : Int32} {l3 : Int32} {l4 : Int32} {l5 : Int32} {l6 : Int32} {l7 : Int32}   {h : zH} {p : (Int32 × zH)}, r109 l0 l1 l2 l3 l4 l5 l6 l7 h = some p → Q (eI p.1) p.2 → zW d 262 109 [some (.ref l0), some (.int l1), some (.int l2), some (.int l3), some (.int l4), some (.int l5), some (.int l6), some (.int l7)] [] h Q) {h : zH} {p : (Int32 × zH)}  (hF : b262_109 n  r109 l0 l1 l2 l3 l4 l5 l6 l7 h = some p) (q : Q (eI p.1) p.2) : zW d 262 109 [some (.ref l0), some (.int l1), some (.int l2), some (.int l3), some (.int l4), some (.int l5), some (.int l6), some (.int l7)] [] h Q := by
  unfold b262_109 at hF
  obtain ⟨d, rfl⟩ : ∃ e, d = e + 1 := ⟨d - 1, by omega⟩
  refine zx_iload rfl rfl rfl ?_
  refine zx_iload rfl rfl rfl ?_
  refine zx_ic_gt rfl rfl (fun c1 => ?_) (fun c1 => ?_)
  · rw [if_pos c1] at hF
    refine zx_aload_n rfl rfl rfl ?_
    replace hF := zbnd hF
    obtain ⟨x2, e3, hF⟩ := hF
    refine zy_getR rfl rfl e3 ?_
    refine zx_iload rfl rfl rfl ?_
    replace hF := zbnd hF
    obtain ⟨a4, rfl, hF⟩ := hF
    replace hF := zbnd hF
    obtain ⟨x5, e6, hF⟩ := hF
    refine zy_aI rfl rfl e6 ?_
    replace hF := Option.some.inj hF
    subst hF
    exact zx_bret rfl rfl rfl rfl q
  · rw [if_neg c1] at hF
    refine zx_iload rfl rfl rfl ?_
    refine zx_aload_n rfl rfl rfl ?_
    replace hF := zbnd hF
    obtain ⟨x7, e8, hF⟩ := hF
    refine zy_getR rfl rfl e8 ?_
    refine zx_iload rfl rfl rfl ?_
    replace hF := zbnd hF
    obtain ⟨a9, rfl, hF⟩ := hF
    replace hF := zbnd hF
    obtain ⟨x10, e11, hF⟩ := hF
    refine zy_aI rfl rfl e11 ?_
    refine zx_iadd rfl rfl ?_
    refine zx_istore rfl rfl rfl ?_
    refine zx_aload_n rfl rfl rfl ?_
    replace hF := zbnd hF
    obtain ⟨x12, e13, hF⟩ := hF
    refine zy_getI rfl rfl e13 ?_
    refine zx_iload rfl rfl rfl ?_
    refine zx_ic_ge rfl rfl (fun c14 => ?_) (fun c14 => ?_)
    · rw [if_pos c14] at hF
      refine zx_iinc (w := 1) rfl rfl rfl rfl rfl ?_
      refine zx_goto rfl rfl ?_
      exact hr109  hF q
    · rw [if_neg c14] at hF
      refine zx_aload_n rfl rfl rfl ?_
      replace hF := zbnd hF
      obtain ⟨x15, e16, hF⟩ := hF
      refine zy_getR rfl rfl e16 ?_
      refine zx_iload rfl rfl rfl ?_
      replace hF := zbnd hF
      obtain ⟨a17, rfl, hF⟩ := hF
      replace hF := zbnd hF
      obtain ⟨x18, e19, hF⟩ := hF
      refine zy_aI rfl rfl e19 ?_
      replace hF := Option.some.inj hF
      subst hF
      exact zx_bret rfl rfl rfl rfl q
def f262_109 (n : Nat)   (k : Nat) : Nat → Int32 → Int32 → Int32 → Int32 → Int32 → Int32 → Int32 → zH → Option (Int32 × zH) := Nat.rec (fun _ _ _ _ _ _ _ _ _ => none) (fun _ ih => b262_109 n  ih) k
theorem tf262_109 {d n : Nat} {Q : zRs → zH → Prop}   (hd : 3 ≤ d)   (k : Nat) : ∀ {l0 : Nat} {l1 : Int32} {l2 : Int32} {l3 : Int32} {l4 : Int32} {l5 : Int32} {l6 : Int32} {l7 : Int32}   {h : zH} {p : (Int32 × zH)}, f262_109 n   k l0 l1 l2 l3 l4 l5 l6 l7 h = some p → Q (eI p.1) p.2 → zW d 262 109 [some (.ref l0), some (.int l1), some (.int l2), some (.int l3), some (.int l4), some (.int l5), some (.int l6), some (.int l7)] [] h Q := by
  induction k with
  | zero => intros; rename_i hF _; cases hF
  | succ k ih => intros; rename_i  hF q; exact tb262_109 (n := n) hd  ih  hF q
def f262 (n : Nat)  (y0 : Nat) (y1 : Int32) (h : zH) : Option (Int32 × zH) :=
  (gI h y0 11 3).bind fun x1 =>
  (gR h y0 11 44).bind fun x3 =>
  x3.bind fun a5 =>
  (aI h a5 ((240 * x1) + y1)).bind fun x6 =>
  if x6 = (-1) then
    (gR h y0 11 45).bind fun x9 =>
    x9.bind fun a11 =>
    (aI h a11 ((240 * x1) + y1)).bind fun x12 =>
    some (x12, h)
  else
    (gI h y0 11 3).bind fun x14 =>
    (gR h y0 11 44).bind fun x16 =>
    x16.bind fun a18 =>
    (aI h a18 ((240 * x1) + y1)).bind fun x19 =>
    (gR h y0 11 48).bind fun x21 =>
    x21.bind fun a23 =>
    (aI h a23 ((100 * x14) + x19)).bind fun x24 =>
    zgd (isO h y0 11) <|
    (f254 n y0 x24 h).bind fun p28 =>
    (gR p28.2 y0 11 50).bind fun x29 =>
    x29.bind fun a31 =>
    (aI p28.2 a31 ((100 * x14) + x19)).bind fun x32 =>
    if p28.1 = (-1) then
      (gR p28.2 y0 11 52).bind fun x35 =>
      x35.bind fun a37 =>
      (aI p28.2 a37 (((8 * ((100 * x14) + x19)) + x32) - 1)).bind fun x38 =>
      some (x38, p28.2)
    else
      (gR p28.2 y0 11 49).bind fun x40 =>
      x40.bind fun a42 =>
      (aI p28.2 a42 ((100 * x14) + x19)).bind fun x43 =>
      zgd (isO p28.2 y0 11) <|
      (f263 n y0 x43 p28.1 p28.2).bind fun p47 =>
      (pF p47.2 y0 11 89 (.int p47.1)).bind fun h48 =>
      f262_109 n  n y0 y1 ((240 * x1) + y1) ((100 * x14) + x19) p28.1 (((8 * ((100 * x14) + x19)) + x32) - 1) 0 (8 * ((100 * x14) + x19)) h48
set_option maxRecDepth 20000 in
theorem t262 {d n : Nat} {Q : zRs → zH → Prop}  {y0 : Nat} {y1 : Int32} (hd : 3 ≤ d)  {h : zH} {p : (Int32 × zH)} (hF : f262 n  y0 y1 h = some p) (q : Q (eI p.1) p.2) : zC d 262 [.ref y0, .int y1] h Q := by
  refine zC_of (L := [some (.ref y0), some (.int y1), none, none, none, none, none, none]) rfl rfl ?_
  unfold f262 at hF
  obtain ⟨d, rfl⟩ : ∃ e, d = e + 1 := ⟨d - 1, by omega⟩
  refine zx_sipush (v := 240) rfl rfl rfl ?_
  refine zx_aload_n rfl rfl rfl ?_
  replace hF := zbnd hF
  obtain ⟨x1, e2, hF⟩ := hF
  refine zy_getI rfl rfl e2 ?_
  refine zx_imul rfl rfl ?_
  refine zx_iload_n rfl rfl rfl ?_
  refine zx_iadd rfl rfl ?_
  refine zx_istore_n rfl rfl rfl ?_
  refine zx_aload_n rfl rfl rfl ?_
  replace hF := zbnd hF
  obtain ⟨x3, e4, hF⟩ := hF
  refine zy_getR rfl rfl e4 ?_
  refine zx_iload_n rfl rfl rfl ?_
  replace hF := zbnd hF
  obtain ⟨a5, rfl, hF⟩ := hF
  replace hF := zbnd hF
  obtain ⟨x6, e7, hF⟩ := hF
  refine zy_aI rfl rfl e7 ?_
  refine zx_iconst (v := (-1)) rfl rfl rfl ?_
  refine zx_ic_ne rfl rfl (fun c8 => ?_) (fun c8 => ?_)
  · rw [if_neg c8] at hF
    refine zx_bipush (v := 100) rfl rfl rfl ?_
    refine zx_aload_n rfl rfl rfl ?_
    replace hF := zbnd hF
    obtain ⟨x14, e15, hF⟩ := hF
    refine zy_getI rfl rfl e15 ?_
    refine zx_imul rfl rfl ?_
    refine zx_aload_n rfl rfl rfl ?_
    replace hF := zbnd hF
    obtain ⟨x16, e17, hF⟩ := hF
    refine zy_getR rfl rfl e17 ?_
    refine zx_iload_n rfl rfl rfl ?_
    replace hF := zbnd hF
    obtain ⟨a18, rfl, hF⟩ := hF
    replace hF := zbnd hF
    obtain ⟨x19, e20, hF⟩ := hF
    refine zy_aI rfl rfl e20 ?_
    refine zx_iadd rfl rfl ?_
    refine zx_istore_n rfl rfl rfl ?_
    refine zx_aload_n rfl rfl rfl ?_
    refine zx_aload_n rfl rfl rfl ?_
    replace hF := zbnd hF
    obtain ⟨x21, e22, hF⟩ := hF
    refine zy_getR rfl rfl e22 ?_
    refine zx_iload_n rfl rfl rfl ?_
    replace hF := zbnd hF
    obtain ⟨a23, rfl, hF⟩ := hF
    replace hF := zbnd hF
    obtain ⟨x24, e25, hF⟩ := hF
    refine zy_aI rfl rfl e25 ?_
    replace hF := zgd_some hF
    obtain ⟨g26, hF⟩ := hF
    replace hF := zbnd hF
    obtain ⟨p28, e27, hF⟩ := hF
    refine zx_callE rfl rfl rfl rfl (zrcv_isO g26) rfl rfl (zc4 (Nat.le_of_ble_eq_true rfl)) (t254 (by omega) e27 (zaI ?_))
    refine zx_istore rfl rfl rfl ?_
    refine zx_bipush (v := 8) rfl rfl rfl ?_
    refine zx_iload_n rfl rfl rfl ?_
    refine zx_imul rfl rfl ?_
    refine zx_aload_n rfl rfl rfl ?_
    replace hF := zbnd hF
    obtain ⟨x29, e30, hF⟩ := hF
    refine zy_getR rfl rfl e30 ?_
    refine zx_iload_n rfl rfl rfl ?_
    replace hF := zbnd hF
    obtain ⟨a31, rfl, hF⟩ := hF
    replace hF := zbnd hF
    obtain ⟨x32, e33, hF⟩ := hF
    refine zy_aI rfl rfl e33 ?_
    refine zx_iadd rfl rfl ?_
    refine zx_iconst (v := 1) rfl rfl rfl ?_
    refine zx_isub rfl rfl ?_
    refine zx_istore rfl rfl rfl ?_
    refine zx_iload rfl rfl rfl ?_
    refine zx_iconst (v := (-1)) rfl rfl rfl ?_
    refine zx_ic_ne rfl rfl (fun c34 => ?_) (fun c34 => ?_)
    · rw [if_neg c34] at hF
      refine zx_aload_n rfl rfl rfl ?_
      refine zx_aload_n rfl rfl rfl ?_
      refine zx_aload_n rfl rfl rfl ?_
      replace hF := zbnd hF
      obtain ⟨x40, e41, hF⟩ := hF
      refine zy_getR rfl rfl e41 ?_
      refine zx_iload_n rfl rfl rfl ?_
      replace hF := zbnd hF
      obtain ⟨a42, rfl, hF⟩ := hF
      replace hF := zbnd hF
      obtain ⟨x43, e44, hF⟩ := hF
      refine zy_aI rfl rfl e44 ?_
      refine zx_iload rfl rfl rfl ?_
      replace hF := zgd_some hF
      obtain ⟨g45, hF⟩ := hF
      replace hF := zbnd hF
      obtain ⟨p47, e46, hF⟩ := hF
      refine zx_callE rfl rfl rfl rfl (zrcv_isO g45) rfl rfl (zc4 (Nat.le_of_ble_eq_true rfl)) (t263 (by omega) e46 (zaI ?_))
      replace hF := zbnd hF
      obtain ⟨h48, e49, hF⟩ := hF
      refine zy_put rfl rfl e49 ?_
      refine zx_iconst (v := 0) rfl rfl rfl ?_
      refine zx_istore rfl rfl rfl ?_
      refine zx_bipush (v := 8) rfl rfl rfl ?_
      refine zx_iload_n rfl rfl rfl ?_
      refine zx_imul rfl rfl ?_
      refine zx_istore rfl rfl rfl ?_
      exact tf262_109 hd  n (l0 := y0) (l1 := y1) (l2 := ((240 * x1) + y1)) (l3 := ((100 * x14) + x19)) (l4 := p28.1) (l5 := (((8 * ((100 * x14) + x19)) + x32) - 1)) (l6 := 0) (l7 := (8 * ((100 * x14) + x19)))  hF q
    · rw [if_pos c34] at hF
      refine zx_aload_n rfl rfl rfl ?_
      replace hF := zbnd hF
      obtain ⟨x35, e36, hF⟩ := hF
      refine zy_getR rfl rfl e36 ?_
      refine zx_iload rfl rfl rfl ?_
      replace hF := zbnd hF
      obtain ⟨a37, rfl, hF⟩ := hF
      replace hF := zbnd hF
      obtain ⟨x38, e39, hF⟩ := hF
      refine zy_aI rfl rfl e39 ?_
      replace hF := Option.some.inj hF
      subst hF
      exact zx_bret rfl rfl rfl rfl q
  · rw [if_pos c8] at hF
    refine zx_aload_n rfl rfl rfl ?_
    replace hF := zbnd hF
    obtain ⟨x9, e10, hF⟩ := hF
    refine zy_getR rfl rfl e10 ?_
    refine zx_iload_n rfl rfl rfl ?_
    replace hF := zbnd hF
    obtain ⟨a11, rfl, hF⟩ := hF
    replace hF := zbnd hF
    obtain ⟨x12, e13, hF⟩ := hF
    refine zy_aI rfl rfl e13 ?_
    replace hF := Option.some.inj hF
    subst hF
    exact zx_bret rfl rfl rfl rfl q
def b258_297 (n : Nat)   (l0 : Nat) (l1 : Int32) (l2 : Int32) (l3 : Int32) (l4 : Int32) (s0 : Int32) (s1 : Nat) (h : zH) : Option (Int32 × zH) :=
  zgd (isO h s1 11) <|
  (f262 n s1 s0 h).bind fun p3 =>
  some (p3.1, p3.2)
set_option maxRecDepth 20000 in
theorem tb258_297 {d n : Nat} {Q : zRs → zH → Prop}   {l0 : Nat} {l1 : Int32} {l2 : Int32} {l3 : Int32} {l4 : Int32} {s0 : Int32} {s1 : Nat} {x5 : Option Value} {x6 : Option Value} (hd : 5 ≤ d)   {h : zH} {p : (Int32 × zH)} (hx5 : zn2 x5 = true) (hx6 : zn2 x6 = true) (hF : b258_297 n   l0 l1 l2 l3 l4 s0 s1 h = some p) (q : Q (eI p.1) p.2) : zW d 258 297 [some (.ref l0), some (.int l1), some (.int l2), some (.int l3), some (.int l4), x5, x6] [.int s0, .ref s1] h Q := by
  unfold b258_297 at hF
  obtain ⟨d, rfl⟩ : ∃ e, d = e + 1 := ⟨d - 1, by omega⟩
  replace hF := zgd_some hF
  obtain ⟨g1, hF⟩ := hF
  replace hF := zbnd hF
  obtain ⟨p3, e2, hF⟩ := hF
  refine zx_callE rfl rfl rfl rfl (zrcv_isO g1) rfl rfl (zc4 (Nat.le_of_ble_eq_true rfl)) (t262 (by omega) e2 (zaI ?_))
  replace hF := Option.some.inj hF
  subst hF
  exact zx_bret rfl rfl rfl rfl q
def b258_251 (n : Nat)   (l0 : Nat) (l1 : Int32) (l2 : Int32) (l3 : Int32) (l4 : Int32) (s0 : Int32) (s1 : Nat) (h : zH) : Option (Int32 × zH) :=
  zgd (isO h s1 11) <|
  (f260 n s1 s0 (-1) l4 (-1) h).bind fun p3 =>
  if l4 = (-1) then
    (gR p3.2 l0 11 18).bind fun x5 =>
    (gI p3.2 l0 11 3).bind fun x7 =>
    x5.bind fun a9 =>
    (aI p3.2 a9 ((24 * x7) + l1)).bind fun x10 =>
    b258_297 n  l0 l1 l2 l3 l4 x10 l0 p3.2
  else
    (gR p3.2 l0 11 38).bind fun x12 =>
    (gI p3.2 l0 11 3).bind fun x14 =>
    x12.bind fun a16 =>
    (aI p3.2 a16 ((100 * x14) + l4)).bind fun x17 =>
    b258_297 n  l0 l1 l2 l3 l4 x17 l0 p3.2
set_option maxRecDepth 20000 in
theorem tb258_251 {d n : Nat} {Q : zRs → zH → Prop}   {l0 : Nat} {l1 : Int32} {l2 : Int32} {l3 : Int32} {l4 : Int32} {s0 : Int32} {s1 : Nat} {x5 : Option Value} {x6 : Option Value} (hd : 5 ≤ d)   {h : zH} {p : (Int32 × zH)} (hx5 : zn2 x5 = true) (hx6 : zn2 x6 = true) (hF : b258_251 n   l0 l1 l2 l3 l4 s0 s1 h = some p) (q : Q (eI p.1) p.2) : zW d 258 251 [some (.ref l0), some (.int l1), some (.int l2), some (.int l3), some (.int l4), x5, x6] [.int s0, .ref s1] h Q := by
  unfold b258_251 at hF
  obtain ⟨d, rfl⟩ : ∃ e, d = e + 1 := ⟨d - 1, by omega⟩
  refine zx_iconst (v := (-1)) rfl rfl rfl ?_
  refine zx_iload rfl rfl rfl ?_
  refine zx_iconst (v := (-1)) rfl rfl rfl ?_
  replace hF := zgd_some hF
  obtain ⟨g1, hF⟩ := hF
  replace hF := zbnd hF
  obtain ⟨p3, e2, hF⟩ := hF
  refine zx_callE rfl rfl rfl rfl (zrcv_isO g1) rfl rfl (zc4 (Nat.le_of_ble_eq_true rfl)) (t260 (by omega) e2 (zaV ?_))
  refine zx_aload_n rfl rfl rfl ?_
  refine zx_iload rfl rfl rfl ?_
  refine zx_iconst (v := (-1)) rfl rfl rfl ?_
  refine zx_ic_ne rfl rfl (fun c4 => ?_) (fun c4 => ?_)
  · rw [if_neg c4] at hF
    refine zx_aload_n rfl rfl rfl ?_
    replace hF := zbnd hF
    obtain ⟨x12, e13, hF⟩ := hF
    refine zy_getR rfl rfl e13 ?_
    refine zx_bipush (v := 100) rfl rfl rfl ?_
    refine zx_aload_n rfl rfl rfl ?_
    replace hF := zbnd hF
    obtain ⟨x14, e15, hF⟩ := hF
    refine zy_getI rfl rfl e15 ?_
    refine zx_imul rfl rfl ?_
    refine zx_iload rfl rfl rfl ?_
    refine zx_iadd rfl rfl ?_
    replace hF := zbnd hF
    obtain ⟨a16, rfl, hF⟩ := hF
    replace hF := zbnd hF
    obtain ⟨x17, e18, hF⟩ := hF
    refine zy_aI rfl rfl e18 ?_
    exact tb258_297 (l0 := l0) (l1 := l1) (l2 := l2) (l3 := l3) (l4 := l4) (s0 := x17) (s1 := l0) hd  hx5 hx6 hF q
  · rw [if_pos c4] at hF
    refine zx_aload_n rfl rfl rfl ?_
    replace hF := zbnd hF
    obtain ⟨x5, e6, hF⟩ := hF
    refine zy_getR rfl rfl e6 ?_
    refine zx_bipush (v := 24) rfl rfl rfl ?_
    refine zx_aload_n rfl rfl rfl ?_
    replace hF := zbnd hF
    obtain ⟨x7, e8, hF⟩ := hF
    refine zy_getI rfl rfl e8 ?_
    refine zx_imul rfl rfl ?_
    refine zx_iload_n rfl rfl rfl ?_
    refine zx_iadd rfl rfl ?_
    replace hF := zbnd hF
    obtain ⟨a9, rfl, hF⟩ := hF
    replace hF := zbnd hF
    obtain ⟨x10, e11, hF⟩ := hF
    refine zy_aI rfl rfl e11 ?_
    refine zx_goto rfl rfl ?_
    exact tb258_297 (l0 := l0) (l1 := l1) (l2 := l2) (l3 := l3) (l4 := l4) (s0 := x10) (s1 := l0) hd  hx5 hx6 hF q
def b258_152 (n : Nat)  (r152 : Nat → Int32 → Int32 → Int32 → Int32 → zH → Option (Int32 × zH)) (l0 : Nat) (l1 : Int32) (l2 : Int32) (l3 : Int32) (l4 : Int32) (h : zH) : Option (Int32 × zH) :=
  (gR h l0 11 20).bind fun x1 =>
  (gI h l0 11 3).bind fun x3 =>
  x1.bind fun a5 =>
  (aI h a5 ((24 * x3) + l1)).bind fun x6 =>
  if x6 ≤ l4 then
    zgd (isO h l0 11) <|
    (f261 n l0 l1 (-1) h).bind fun p11 =>
    if p11.1 = (-1) then
      b258_251 n  l0 l1 l2 l3 p11.1 0 l0 p11.2
    else
      b258_251 n  l0 l1 l2 l3 p11.1 2 l0 p11.2
  else
    (gI h l0 11 3).bind fun x13 =>
    (gR h l0 11 91).bind fun x15 =>
    (gR h l0 11 23).bind fun x17 =>
    x17.bind fun a19 =>
    (aI h a19 ((4 * ((24 * x13) + l1)) + l4)).bind fun x20 =>
    x15.bind fun a22 =>
    (aI h a22 x20).bind fun x23 =>
    (gR h l0 11 28).bind fun x25 =>
    x25.bind fun a27 =>
    (aI h a27 ((4 * ((24 * x13) + l1)) + l4)).bind fun x28 =>
    if x23 = x28 then
      r152 l0 l1 l2 l3 (l4 + 1) h
    else
      (gR h l0 11 23).bind fun x31 =>
      x31.bind fun a33 =>
      (aI h a33 ((4 * ((24 * x13) + l1)) + l4)).bind fun x34 =>
      zgd (isO h l0 11) <|
      (f260 n l0 1 (-1) (-1) x34 h).bind fun p38 =>
      some (l3, p38.2)
set_option maxRecDepth 20000 in
theorem tb258_152 {d n : Nat} {Q : zRs → zH → Prop}  {r152 : Nat → Int32 → Int32 → Int32 → Int32 → zH → Option (Int32 × zH)} {l0 : Nat} {l1 : Int32} {l2 : Int32} {l3 : Int32} {l4 : Int32}  {x5 : Option Value} {x6 : Option Value} (hd : 5 ≤ d)  (hr152 : ∀ {l0 : Nat} {l1 : Int32} {l2 : Int32} {l3 : Int32} {l4 : Int32}  {x5 : Option Value} {x6 : Option Value} {h : zH} {p : (Int32 × zH)}, zn2 x5 = true → zn2 x6 = true → r152 l0 l1 l2 l3 l4 h = some p → Q (eI p.1) p.2 → zW d 258 152 [some (.ref l0), some (.int l1), some (.int l2), some (.int l3), some (.int l4), x5, x6] [] h Q) {h : zH} {p : (Int32 × zH)} (hx5 : zn2 x5 = true) (hx6 : zn2 x6 = true) (hF : b258_152 n  r152 l0 l1 l2 l3 l4 h = some p) (q : Q (eI p.1) p.2) : zW d 258 152 [some (.ref l0), some (.int l1), some (.int l2), some (.int l3), some (.int l4), x5, x6] [] h Q := by
  unfold b258_152 at hF
  obtain ⟨d, rfl⟩ : ∃ e, d = e + 1 := ⟨d - 1, by omega⟩
  refine zx_iload rfl rfl rfl ?_
  refine zx_aload_n rfl rfl rfl ?_
  replace hF := zbnd hF
  obtain ⟨x1, e2, hF⟩ := hF
  refine zy_getR rfl rfl e2 ?_
  refine zx_bipush (v := 24) rfl rfl rfl ?_
  refine zx_aload_n rfl rfl rfl ?_
  replace hF := zbnd hF
  obtain ⟨x3, e4, hF⟩ := hF
  refine zy_getI rfl rfl e4 ?_
  refine zx_imul rfl rfl ?_
  refine zx_iload_n rfl rfl rfl ?_
  refine zx_iadd rfl rfl ?_
  replace hF := zbnd hF
  obtain ⟨a5, rfl, hF⟩ := hF
  replace hF := zbnd hF
  obtain ⟨x6, e7, hF⟩ := hF
  refine zy_aI rfl rfl e7 ?_
  refine zx_ic_ge rfl rfl (fun c8 => ?_) (fun c8 => ?_)
  · rw [if_pos c8] at hF
    refine zx_aload_n rfl rfl rfl ?_
    refine zx_iload_n rfl rfl rfl ?_
    refine zx_iconst (v := (-1)) rfl rfl rfl ?_
    replace hF := zgd_some hF
    obtain ⟨g9, hF⟩ := hF
    replace hF := zbnd hF
    obtain ⟨p11, e10, hF⟩ := hF
    refine zx_callE rfl rfl rfl rfl (zrcv_isO g9) rfl rfl (zc4 (Nat.le_of_ble_eq_true rfl)) (t261 (by omega) e10 (zaI ?_))
    refine zx_istore rfl rfl rfl ?_
    refine zx_aload_n rfl rfl rfl ?_
    refine zx_iload rfl rfl rfl ?_
    refine zx_iconst (v := (-1)) rfl rfl rfl ?_
    refine zx_ic_ne rfl rfl (fun c12 => ?_) (fun c12 => ?_)
    · rw [if_neg c12] at hF
      refine zx_iconst (v := 2) rfl rfl rfl ?_
      exact tb258_251 (l0 := l0) (l1 := l1) (l2 := l2) (l3 := l3) (l4 := p11.1) (s0 := 2) (s1 := l0) hd  hx5 hx6 hF q
    · rw [if_pos c12] at hF
      refine zx_iconst (v := 0) rfl rfl rfl ?_
      refine zx_goto rfl rfl ?_
      exact tb258_251 (l0 := l0) (l1 := l1) (l2 := l2) (l3 := l3) (l4 := p11.1) (s0 := 0) (s1 := l0) hd  hx5 hx6 hF q
  · rw [if_neg c8] at hF
    refine zx_iconst (v := 4) rfl rfl rfl ?_
    refine zx_bipush (v := 24) rfl rfl rfl ?_
    refine zx_aload_n rfl rfl rfl ?_
    replace hF := zbnd hF
    obtain ⟨x13, e14, hF⟩ := hF
    refine zy_getI rfl rfl e14 ?_
    refine zx_imul rfl rfl ?_
    refine zx_iload_n rfl rfl rfl ?_
    refine zx_iadd rfl rfl ?_
    refine zx_imul rfl rfl ?_
    refine zx_iload rfl rfl rfl ?_
    refine zx_iadd rfl rfl ?_
    refine zx_istore rfl rfl rfl ?_
    refine zx_aload_n rfl rfl rfl ?_
    replace hF := zbnd hF
    obtain ⟨x15, e16, hF⟩ := hF
    refine zy_getR rfl rfl e16 ?_
    refine zx_aload_n rfl rfl rfl ?_
    replace hF := zbnd hF
    obtain ⟨x17, e18, hF⟩ := hF
    refine zy_getR rfl rfl e18 ?_
    refine zx_iload rfl rfl rfl ?_
    replace hF := zbnd hF
    obtain ⟨a19, rfl, hF⟩ := hF
    replace hF := zbnd hF
    obtain ⟨x20, e21, hF⟩ := hF
    refine zy_aI rfl rfl e21 ?_
    replace hF := zbnd hF
    obtain ⟨a22, rfl, hF⟩ := hF
    replace hF := zbnd hF
    obtain ⟨x23, e24, hF⟩ := hF
    refine zy_aI rfl rfl e24 ?_
    refine zx_aload_n rfl rfl rfl ?_
    replace hF := zbnd hF
    obtain ⟨x25, e26, hF⟩ := hF
    refine zy_getR rfl rfl e26 ?_
    refine zx_iload rfl rfl rfl ?_
    replace hF := zbnd hF
    obtain ⟨a27, rfl, hF⟩ := hF
    replace hF := zbnd hF
    obtain ⟨x28, e29, hF⟩ := hF
    refine zy_aI rfl rfl e29 ?_
    refine zx_ic_eq rfl rfl (fun c30 => ?_) (fun c30 => ?_)
    · rw [if_pos c30] at hF
      refine zx_iinc (w := 1) rfl rfl rfl rfl rfl ?_
      refine zx_goto rfl rfl ?_
      exact hr152 rfl hx6 hF q
    · rw [if_neg c30] at hF
      refine zx_aload_n rfl rfl rfl ?_
      refine zx_iconst (v := 1) rfl rfl rfl ?_
      refine zx_iconst (v := (-1)) rfl rfl rfl ?_
      refine zx_iconst (v := (-1)) rfl rfl rfl ?_
      refine zx_aload_n rfl rfl rfl ?_
      replace hF := zbnd hF
      obtain ⟨x31, e32, hF⟩ := hF
      refine zy_getR rfl rfl e32 ?_
      refine zx_iload rfl rfl rfl ?_
      replace hF := zbnd hF
      obtain ⟨a33, rfl, hF⟩ := hF
      replace hF := zbnd hF
      obtain ⟨x34, e35, hF⟩ := hF
      refine zy_aI rfl rfl e35 ?_
      replace hF := zgd_some hF
      obtain ⟨g36, hF⟩ := hF
      replace hF := zbnd hF
      obtain ⟨p38, e37, hF⟩ := hF
      refine zx_callE rfl rfl rfl rfl (zrcv_isO g36) rfl rfl (zc4 (Nat.le_of_ble_eq_true rfl)) (t260 (by omega) e37 (zaV ?_))
      refine zx_iload_n rfl rfl rfl ?_
      replace hF := Option.some.inj hF
      subst hF
      exact zx_bret rfl rfl rfl rfl q
def f258_152 (n : Nat)   (k : Nat) : Nat → Int32 → Int32 → Int32 → Int32 → zH → Option (Int32 × zH) := Nat.rec (fun _ _ _ _ _ _ => none) (fun _ ih => b258_152 n  ih) k
theorem tf258_152 {d n : Nat} {Q : zRs → zH → Prop}   (hd : 5 ≤ d)   (k : Nat) : ∀ {l0 : Nat} {l1 : Int32} {l2 : Int32} {l3 : Int32} {l4 : Int32}  {x5 : Option Value} {x6 : Option Value} {h : zH} {p : (Int32 × zH)}, zn2 x5 = true → zn2 x6 = true → f258_152 n   k l0 l1 l2 l3 l4 h = some p → Q (eI p.1) p.2 → zW d 258 152 [some (.ref l0), some (.int l1), some (.int l2), some (.int l3), some (.int l4), x5, x6] [] h Q := by
  induction k with
  | zero => intros; rename_i hF _; cases hF
  | succ k ih => intros; rename_i hx5 hx6 hF q; exact tb258_152 (n := n) hd  ih hx5 hx6 hF q
def b258_18 (n : Nat)  (r18 : Nat → Int32 → Int32 → Int32 → Int32 → zH → Option (Int32 × zH)) (l0 : Nat) (l1 : Int32) (l2 : Int32) (l3 : Int32) (l4 : Int32) (h : zH) : Option (Int32 × zH) :=
  if l4 = (-1) then
    f258_152 n  n l0 l1 l2 l3 0 h
  else
    zgd (isO h l0 11) <|
    (f259 n l0 l1 l4 0 h).bind fun p4 =>
    if p4.1 = (-1) then
      zgd (isO p4.2 l0 11) <|
      (f261 n l0 l1 l4 p4.2).bind fun p8 =>
      if p8.1 = (-1) then
        zgd (isO p8.2 l0 11) <|
        (f259 n l0 l1 l4 1 p8.2).bind fun p12 =>
        if p12.1 = (-1) then
          (gR p12.2 l0 11 31).bind fun x14 =>
          (gI p12.2 l0 11 3).bind fun x16 =>
          x14.bind fun a18 =>
          (aI p12.2 a18 ((8 * x16) + l4)).bind fun x19 =>
          r18 l0 l1 l2 l3 x19 p12.2
        else
          zgd (isO p12.2 l0 11) <|
          (f260 n l0 5 l4 (-1) (-1) p12.2).bind fun p23 =>
          (gR p23.2 l0 11 42).bind fun x24 =>
          x24.bind fun a26 =>
          (aI p23.2 a26 p12.1).bind fun x27 =>
          zgd (isO p23.2 l0 11) <|
          (f262 n l0 x27 p23.2).bind fun p31 =>
          some (p31.1, p31.2)
      else
        zgd (isO p8.2 l0 11) <|
        (f260 n l0 4 l4 p8.1 (-1) p8.2).bind fun p34 =>
        (gR p34.2 l0 11 38).bind fun x35 =>
        (gI p34.2 l0 11 3).bind fun x37 =>
        x35.bind fun a39 =>
        (aI p34.2 a39 ((100 * x37) + p8.1)).bind fun x40 =>
        zgd (isO p34.2 l0 11) <|
        (f262 n l0 x40 p34.2).bind fun p44 =>
        some (p44.1, p44.2)
    else
      zgd (isO p4.2 l0 11) <|
      (f260 n l0 3 l4 (-1) (-1) p4.2).bind fun p47 =>
      some (l3, p47.2)
set_option maxRecDepth 20000 in
theorem tb258_18 {d n : Nat} {Q : zRs → zH → Prop}  {r18 : Nat → Int32 → Int32 → Int32 → Int32 → zH → Option (Int32 × zH)} {l0 : Nat} {l1 : Int32} {l2 : Int32} {l3 : Int32} {l4 : Int32}  {x5 : Option Value} {x6 : Option Value} (hd : 5 ≤ d)  (hr18 : ∀ {l0 : Nat} {l1 : Int32} {l2 : Int32} {l3 : Int32} {l4 : Int32}  {x5 : Option Value} {x6 : Option Value} {h : zH} {p : (Int32 × zH)}, zn2 x5 = true → zn2 x6 = true → r18 l0 l1 l2 l3 l4 h = some p → Q (eI p.1) p.2 → zW d 258 18 [some (.ref l0), some (.int l1), some (.int l2), some (.int l3), some (.int l4), x5, x6] [] h Q) {h : zH} {p : (Int32 × zH)} (hx5 : zn2 x5 = true) (hx6 : zn2 x6 = true) (hF : b258_18 n  r18 l0 l1 l2 l3 l4 h = some p) (q : Q (eI p.1) p.2) : zW d 258 18 [some (.ref l0), some (.int l1), some (.int l2), some (.int l3), some (.int l4), x5, x6] [] h Q := by
  unfold b258_18 at hF
  obtain ⟨d, rfl⟩ : ∃ e, d = e + 1 := ⟨d - 1, by omega⟩
  refine zx_iload rfl rfl rfl ?_
  refine zx_iconst (v := (-1)) rfl rfl rfl ?_
  refine zx_ic_eq rfl rfl (fun c1 => ?_) (fun c1 => ?_)
  · rw [if_pos c1] at hF
    refine zx_iconst (v := 0) rfl rfl rfl ?_
    refine zx_istore rfl rfl rfl ?_
    exact tf258_152 hd  n (l0 := l0) (l1 := l1) (l2 := l2) (l3 := l3) (l4 := 0) hx5 hx6 hF q
  · rw [if_neg c1] at hF
    refine zx_aload_n rfl rfl rfl ?_
    refine zx_iload_n rfl rfl rfl ?_
    refine zx_iload rfl rfl rfl ?_
    refine zx_iconst (v := 0) rfl rfl rfl ?_
    replace hF := zgd_some hF
    obtain ⟨g2, hF⟩ := hF
    replace hF := zbnd hF
    obtain ⟨p4, e3, hF⟩ := hF
    refine zx_callE rfl rfl rfl rfl (zrcv_isO g2) rfl rfl (zc4 (Nat.le_of_ble_eq_true rfl)) (t259 (by omega) e3 (zaI ?_))
    refine zx_iconst (v := (-1)) rfl rfl rfl ?_
    refine zx_ic_eq rfl rfl (fun c5 => ?_) (fun c5 => ?_)
    · rw [if_pos c5] at hF
      refine zx_aload_n rfl rfl rfl ?_
      refine zx_iload_n rfl rfl rfl ?_
      refine zx_iload rfl rfl rfl ?_
      replace hF := zgd_some hF
      obtain ⟨g6, hF⟩ := hF
      replace hF := zbnd hF
      obtain ⟨p8, e7, hF⟩ := hF
      refine zx_callE rfl rfl rfl rfl (zrcv_isO g6) rfl rfl (zc4 (Nat.le_of_ble_eq_true rfl)) (t261 (by omega) e7 (zaI ?_))
      refine zx_istore rfl rfl rfl ?_
      refine zx_iload rfl rfl rfl ?_
      refine zx_iconst (v := (-1)) rfl rfl rfl ?_
      refine zx_ic_eq rfl rfl (fun c9 => ?_) (fun c9 => ?_)
      · rw [if_pos c9] at hF
        refine zx_aload_n rfl rfl rfl ?_
        refine zx_iload_n rfl rfl rfl ?_
        refine zx_iload rfl rfl rfl ?_
        refine zx_iconst (v := 1) rfl rfl rfl ?_
        replace hF := zgd_some hF
        obtain ⟨g10, hF⟩ := hF
        replace hF := zbnd hF
        obtain ⟨p12, e11, hF⟩ := hF
        refine zx_callE rfl rfl rfl rfl (zrcv_isO g10) rfl rfl (zc4 (Nat.le_of_ble_eq_true rfl)) (t259 (by omega) e11 (zaI ?_))
        refine zx_istore rfl rfl rfl ?_
        refine zx_iload rfl rfl rfl ?_
        refine zx_iconst (v := (-1)) rfl rfl rfl ?_
        refine zx_ic_eq rfl rfl (fun c13 => ?_) (fun c13 => ?_)
        · rw [if_pos c13] at hF
          refine zx_aload_n rfl rfl rfl ?_
          replace hF := zbnd hF
          obtain ⟨x14, e15, hF⟩ := hF
          refine zy_getR rfl rfl e15 ?_
          refine zx_bipush (v := 8) rfl rfl rfl ?_
          refine zx_aload_n rfl rfl rfl ?_
          replace hF := zbnd hF
          obtain ⟨x16, e17, hF⟩ := hF
          refine zy_getI rfl rfl e17 ?_
          refine zx_imul rfl rfl ?_
          refine zx_iload rfl rfl rfl ?_
          refine zx_iadd rfl rfl ?_
          replace hF := zbnd hF
          obtain ⟨a18, rfl, hF⟩ := hF
          replace hF := zbnd hF
          obtain ⟨x19, e20, hF⟩ := hF
          refine zy_aI rfl rfl e20 ?_
          refine zx_istore rfl rfl rfl ?_
          refine zx_goto rfl rfl ?_
          exact hr18 rfl rfl hF q
        · rw [if_neg c13] at hF
          refine zx_aload_n rfl rfl rfl ?_
          refine zx_iconst (v := 5) rfl rfl rfl ?_
          refine zx_iload rfl rfl rfl ?_
          refine zx_iconst (v := (-1)) rfl rfl rfl ?_
          refine zx_iconst (v := (-1)) rfl rfl rfl ?_
          replace hF := zgd_some hF
          obtain ⟨g21, hF⟩ := hF
          replace hF := zbnd hF
          obtain ⟨p23, e22, hF⟩ := hF
          refine zx_callE rfl rfl rfl rfl (zrcv_isO g21) rfl rfl (zc4 (Nat.le_of_ble_eq_true rfl)) (t260 (by omega) e22 (zaV ?_))
          refine zx_aload_n rfl rfl rfl ?_
          refine zx_aload_n rfl rfl rfl ?_
          replace hF := zbnd hF
          obtain ⟨x24, e25, hF⟩ := hF
          refine zy_getR rfl rfl e25 ?_
          refine zx_iload rfl rfl rfl ?_
          replace hF := zbnd hF
          obtain ⟨a26, rfl, hF⟩ := hF
          replace hF := zbnd hF
          obtain ⟨x27, e28, hF⟩ := hF
          refine zy_aI rfl rfl e28 ?_
          replace hF := zgd_some hF
          obtain ⟨g29, hF⟩ := hF
          replace hF := zbnd hF
          obtain ⟨p31, e30, hF⟩ := hF
          refine zx_callE rfl rfl rfl rfl (zrcv_isO g29) rfl rfl (zc4 (Nat.le_of_ble_eq_true rfl)) (t262 (by omega) e30 (zaI ?_))
          replace hF := Option.some.inj hF
          subst hF
          exact zx_bret rfl rfl rfl rfl q
      · rw [if_neg c9] at hF
        refine zx_aload_n rfl rfl rfl ?_
        refine zx_iconst (v := 4) rfl rfl rfl ?_
        refine zx_iload rfl rfl rfl ?_
        refine zx_iload rfl rfl rfl ?_
        refine zx_iconst (v := (-1)) rfl rfl rfl ?_
        replace hF := zgd_some hF
        obtain ⟨g32, hF⟩ := hF
        replace hF := zbnd hF
        obtain ⟨p34, e33, hF⟩ := hF
        refine zx_callE rfl rfl rfl rfl (zrcv_isO g32) rfl rfl (zc4 (Nat.le_of_ble_eq_true rfl)) (t260 (by omega) e33 (zaV ?_))
        refine zx_aload_n rfl rfl rfl ?_
        refine zx_aload_n rfl rfl rfl ?_
        replace hF := zbnd hF
        obtain ⟨x35, e36, hF⟩ := hF
        refine zy_getR rfl rfl e36 ?_
        refine zx_bipush (v := 100) rfl rfl rfl ?_
        refine zx_aload_n rfl rfl rfl ?_
        replace hF := zbnd hF
        obtain ⟨x37, e38, hF⟩ := hF
        refine zy_getI rfl rfl e38 ?_
        refine zx_imul rfl rfl ?_
        refine zx_iload rfl rfl rfl ?_
        refine zx_iadd rfl rfl ?_
        replace hF := zbnd hF
        obtain ⟨a39, rfl, hF⟩ := hF
        replace hF := zbnd hF
        obtain ⟨x40, e41, hF⟩ := hF
        refine zy_aI rfl rfl e41 ?_
        replace hF := zgd_some hF
        obtain ⟨g42, hF⟩ := hF
        replace hF := zbnd hF
        obtain ⟨p44, e43, hF⟩ := hF
        refine zx_callE rfl rfl rfl rfl (zrcv_isO g42) rfl rfl (zc4 (Nat.le_of_ble_eq_true rfl)) (t262 (by omega) e43 (zaI ?_))
        replace hF := Option.some.inj hF
        subst hF
        exact zx_bret rfl rfl rfl rfl q
    · rw [if_neg c5] at hF
      refine zx_aload_n rfl rfl rfl ?_
      refine zx_iconst (v := 3) rfl rfl rfl ?_
      refine zx_iload rfl rfl rfl ?_
      refine zx_iconst (v := (-1)) rfl rfl rfl ?_
      refine zx_iconst (v := (-1)) rfl rfl rfl ?_
      replace hF := zgd_some hF
      obtain ⟨g45, hF⟩ := hF
      replace hF := zbnd hF
      obtain ⟨p47, e46, hF⟩ := hF
      refine zx_callE rfl rfl rfl rfl (zrcv_isO g45) rfl rfl (zc4 (Nat.le_of_ble_eq_true rfl)) (t260 (by omega) e46 (zaV ?_))
      refine zx_iload_n rfl rfl rfl ?_
      replace hF := Option.some.inj hF
      subst hF
      exact zx_bret rfl rfl rfl rfl q
def f258_18 (n : Nat)   (k : Nat) : Nat → Int32 → Int32 → Int32 → Int32 → zH → Option (Int32 × zH) := Nat.rec (fun _ _ _ _ _ _ => none) (fun _ ih => b258_18 n  ih) k
theorem tf258_18 {d n : Nat} {Q : zRs → zH → Prop}   (hd : 5 ≤ d)   (k : Nat) : ∀ {l0 : Nat} {l1 : Int32} {l2 : Int32} {l3 : Int32} {l4 : Int32}  {x5 : Option Value} {x6 : Option Value} {h : zH} {p : (Int32 × zH)}, zn2 x5 = true → zn2 x6 = true → f258_18 n   k l0 l1 l2 l3 l4 h = some p → Q (eI p.1) p.2 → zW d 258 18 [some (.ref l0), some (.int l1), some (.int l2), some (.int l3), some (.int l4), x5, x6] [] h Q := by
  induction k with
  | zero => intros; rename_i hF _; cases hF
  | succ k ih => intros; rename_i hx5 hx6 hF q; exact tb258_18 (n := n) hd  ih hx5 hx6 hF q
def f258 (n : Nat)  (y0 : Nat) (y1 : Int32) (y2 : Int32) (h : zH) : Option (Int32 × zH) :=
  (gR h y0 11 19).bind fun x1 =>
  (gI h y0 11 3).bind fun x3 =>
  x1.bind fun a5 =>
  (aI h a5 ((24 * x3) + y1)).bind fun x6 =>
  f258_18 n  n y0 y1 y2 x6 y2 h
set_option maxRecDepth 20000 in
theorem t258 {d n : Nat} {Q : zRs → zH → Prop}  {y0 : Nat} {y1 : Int32} {y2 : Int32} (hd : 5 ≤ d)  {h : zH} {p : (Int32 × zH)} (hF : f258 n  y0 y1 y2 h = some p) (q : Q (eI p.1) p.2) : zC d 258 [.ref y0, .int y1, .int y2] h Q := by
  refine zC_of (L := [some (.ref y0), some (.int y1), some (.int y2), none, none, none, none]) rfl rfl ?_
  unfold f258 at hF
  obtain ⟨d, rfl⟩ : ∃ e, d = e + 1 := ⟨d - 1, by omega⟩
  refine zx_aload_n rfl rfl rfl ?_
  replace hF := zbnd hF
  obtain ⟨x1, e2, hF⟩ := hF
  refine zy_getR rfl rfl e2 ?_
  refine zx_bipush (v := 24) rfl rfl rfl ?_
  refine zx_aload_n rfl rfl rfl ?_
  replace hF := zbnd hF
  obtain ⟨x3, e4, hF⟩ := hF
  refine zy_getI rfl rfl e4 ?_
  refine zx_imul rfl rfl ?_
  refine zx_iload_n rfl rfl rfl ?_
  refine zx_iadd rfl rfl ?_
  replace hF := zbnd hF
  obtain ⟨a5, rfl, hF⟩ := hF
  replace hF := zbnd hF
  obtain ⟨x6, e7, hF⟩ := hF
  refine zy_aI rfl rfl e7 ?_
  refine zx_istore_n rfl rfl rfl ?_
  refine zx_iload_n rfl rfl rfl ?_
  refine zx_istore rfl rfl rfl ?_
  exact tf258_18 hd  n (l0 := y0) (l1 := y1) (l2 := y2) (l3 := x6) (l4 := y2) rfl rfl hF q
def b250_47 (n : Nat)  (r47 : Nat → Int32 → Int32 → Int32 → zH → Option (Int32 × zH)) (l0 : Nat) (l1 : Int32) (l2 : Int32) (l3 : Int32) (h : zH) : Option (Int32 × zH) :=
  (gR h l0 11 13).bind fun x1 =>
  (gI h l0 11 3).bind fun x3 =>
  x1.bind fun a5 =>
  (aI h a5 x3).bind fun x6 =>
  if x6 ≤ l3 then
    (pF h l0 11 85 (.int 1)).bind fun h9 =>
    zgd (isO h9 l0 11) <|
    (f258 n l0 l1 l2 h9).bind fun p13 =>
    some (p13.1, p13.2)
  else
    (gR h l0 11 63).bind fun x14 =>
    (gI h l0 11 3).bind fun x16 =>
    x14.bind fun a18 =>
    (aI h a18 ((24 * x16) + l3)).bind fun x19 =>
    (gR h l0 11 91).bind fun x21 =>
    zgd (isO h l0 11) <|
    (f258 n l0 x19 l2 h).bind fun p25 =>
    x21.bind fun a26 =>
    (aS zsI p25.2 a26 x19 (.int p25.1)).bind fun h27 =>
    r47 l0 l1 l2 (l3 + 1) h27
set_option maxRecDepth 20000 in
theorem tb250_47 {d n : Nat} {Q : zRs → zH → Prop}  {r47 : Nat → Int32 → Int32 → Int32 → zH → Option (Int32 × zH)} {l0 : Nat} {l1 : Int32} {l2 : Int32} {l3 : Int32}  {x4 : Option Value} (hd : 6 ≤ d)  (hr47 : ∀ {l0 : Nat} {l1 : Int32} {l2 : Int32} {l3 : Int32}  {x4 : Option Value} {h : zH} {p : (Int32 × zH)}, zn2 x4 = true → r47 l0 l1 l2 l3 h = some p → Q (eI p.1) p.2 → zW d 250 47 [some (.ref l0), some (.int l1), some (.int l2), some (.int l3), x4] [] h Q) {h : zH} {p : (Int32 × zH)} (hx4 : zn2 x4 = true) (hF : b250_47 n  r47 l0 l1 l2 l3 h = some p) (q : Q (eI p.1) p.2) : zW d 250 47 [some (.ref l0), some (.int l1), some (.int l2), some (.int l3), x4] [] h Q := by
  unfold b250_47 at hF
  obtain ⟨d, rfl⟩ : ∃ e, d = e + 1 := ⟨d - 1, by omega⟩
  refine zx_iload_n rfl rfl rfl ?_
  refine zx_aload_n rfl rfl rfl ?_
  replace hF := zbnd hF
  obtain ⟨x1, e2, hF⟩ := hF
  refine zy_getR rfl rfl e2 ?_
  refine zx_aload_n rfl rfl rfl ?_
  replace hF := zbnd hF
  obtain ⟨x3, e4, hF⟩ := hF
  refine zy_getI rfl rfl e4 ?_
  replace hF := zbnd hF
  obtain ⟨a5, rfl, hF⟩ := hF
  replace hF := zbnd hF
  obtain ⟨x6, e7, hF⟩ := hF
  refine zy_aI rfl rfl e7 ?_
  refine zx_ic_ge rfl rfl (fun c8 => ?_) (fun c8 => ?_)
  · rw [if_pos c8] at hF
    refine zx_aload_n rfl rfl rfl ?_
    refine zx_iconst (v := 1) rfl rfl rfl ?_
    replace hF := zbnd hF
    obtain ⟨h9, e10, hF⟩ := hF
    refine zy_put rfl rfl e10 ?_
    refine zx_aload_n rfl rfl rfl ?_
    refine zx_iload_n rfl rfl rfl ?_
    refine zx_iload_n rfl rfl rfl ?_
    replace hF := zgd_some hF
    obtain ⟨g11, hF⟩ := hF
    replace hF := zbnd hF
    obtain ⟨p13, e12, hF⟩ := hF
    refine zx_callE rfl rfl rfl rfl (zrcv_isO g11) rfl rfl (zc4 (Nat.le_of_ble_eq_true rfl)) (t258 (by omega) e12 (zaI ?_))
    replace hF := Option.some.inj hF
    subst hF
    exact zx_bret rfl rfl rfl rfl q
  · rw [if_neg c8] at hF
    refine zx_aload_n rfl rfl rfl ?_
    replace hF := zbnd hF
    obtain ⟨x14, e15, hF⟩ := hF
    refine zy_getR rfl rfl e15 ?_
    refine zx_bipush (v := 24) rfl rfl rfl ?_
    refine zx_aload_n rfl rfl rfl ?_
    replace hF := zbnd hF
    obtain ⟨x16, e17, hF⟩ := hF
    refine zy_getI rfl rfl e17 ?_
    refine zx_imul rfl rfl ?_
    refine zx_iload_n rfl rfl rfl ?_
    refine zx_iadd rfl rfl ?_
    replace hF := zbnd hF
    obtain ⟨a18, rfl, hF⟩ := hF
    replace hF := zbnd hF
    obtain ⟨x19, e20, hF⟩ := hF
    refine zy_aI rfl rfl e20 ?_
    refine zx_istore rfl rfl rfl ?_
    refine zx_aload_n rfl rfl rfl ?_
    replace hF := zbnd hF
    obtain ⟨x21, e22, hF⟩ := hF
    refine zy_getR rfl rfl e22 ?_
    refine zx_iload rfl rfl rfl ?_
    refine zx_aload_n rfl rfl rfl ?_
    refine zx_iload rfl rfl rfl ?_
    refine zx_iload_n rfl rfl rfl ?_
    replace hF := zgd_some hF
    obtain ⟨g23, hF⟩ := hF
    replace hF := zbnd hF
    obtain ⟨p25, e24, hF⟩ := hF
    refine zx_callE rfl rfl rfl rfl (zrcv_isO g23) rfl rfl (zc4 (Nat.le_of_ble_eq_true rfl)) (t258 (by omega) e24 (zaI ?_))
    replace hF := zbnd hF
    obtain ⟨a26, rfl, hF⟩ := hF
    replace hF := zbnd hF
    obtain ⟨h27, e28, hF⟩ := hF
    refine zy_sI rfl rfl e28 ?_
    refine zx_iinc (w := 1) rfl rfl rfl rfl rfl ?_
    refine zx_goto rfl rfl ?_
    exact hr47 rfl hF q
def f250_47 (n : Nat)   (k : Nat) : Nat → Int32 → Int32 → Int32 → zH → Option (Int32 × zH) := Nat.rec (fun _ _ _ _ _ => none) (fun _ ih => b250_47 n  ih) k
theorem tf250_47 {d n : Nat} {Q : zRs → zH → Prop}   (hd : 6 ≤ d)   (k : Nat) : ∀ {l0 : Nat} {l1 : Int32} {l2 : Int32} {l3 : Int32}  {x4 : Option Value} {h : zH} {p : (Int32 × zH)}, zn2 x4 = true → f250_47 n   k l0 l1 l2 l3 h = some p → Q (eI p.1) p.2 → zW d 250 47 [some (.ref l0), some (.int l1), some (.int l2), some (.int l3), x4] [] h Q := by
  induction k with
  | zero => intros; rename_i hF _; cases hF
  | succ k ih => intros; rename_i hx4 hF q; exact tb250_47 (n := n) hd  ih hx4 hF q
def b250_33 (n : Nat)   (l0 : Nat) (l1 : Int32) (l2 : Int32) (s0 : Int32) (s1 : Nat) (h : zH) : Option (Int32 × zH) :=
  zgd (isO h s1 11) <|
  (f185 n s1 s0 h).bind fun p3 =>
  if p3.1 = 0 then
    some (0, p3.2)
  else
    zgd (isO p3.2 l0 11) <|
    (f251 n l0 p3.2).bind fun p7 =>
    f250_47 n  n l0 l1 l2 0 p7.2
set_option maxRecDepth 20000 in
theorem tb250_33 {d n : Nat} {Q : zRs → zH → Prop}   {l0 : Nat} {l1 : Int32} {l2 : Int32} {s0 : Int32} {s1 : Nat} {x3 : Option Value} {x4 : Option Value} (hd : 6 ≤ d)   {h : zH} {p : (Int32 × zH)} (hx3 : zn2 x3 = true) (hx4 : zn2 x4 = true) (hF : b250_33 n   l0 l1 l2 s0 s1 h = some p) (q : Q (eI p.1) p.2) : zW d 250 33 [some (.ref l0), some (.int l1), some (.int l2), x3, x4] [.int s0, .ref s1] h Q := by
  unfold b250_33 at hF
  obtain ⟨d, rfl⟩ : ∃ e, d = e + 1 := ⟨d - 1, by omega⟩
  replace hF := zgd_some hF
  obtain ⟨g1, hF⟩ := hF
  replace hF := zbnd hF
  obtain ⟨p3, e2, hF⟩ := hF
  refine zx_callE rfl rfl rfl rfl (zrcv_isO g1) rfl rfl (zc4 (Nat.le_of_ble_eq_true rfl)) (t185 (by omega) e2 (zaI ?_))
  refine zx_if_ne rfl rfl (fun c4 => ?_) (fun c4 => ?_)
  · rw [if_neg c4] at hF
    refine zx_aload_n rfl rfl rfl ?_
    replace hF := zgd_some hF
    obtain ⟨g5, hF⟩ := hF
    replace hF := zbnd hF
    obtain ⟨p7, e6, hF⟩ := hF
    refine zx_callE rfl rfl rfl rfl (zrcv_isO g5) rfl rfl (zc4 (Nat.le_of_ble_eq_true rfl)) (t251 (by omega) e6 (zaV ?_))
    refine zx_iconst (v := 0) rfl rfl rfl ?_
    refine zx_istore_n rfl rfl rfl ?_
    exact tf250_47 hd  n (l0 := l0) (l1 := l1) (l2 := l2) (l3 := 0) hx4 hF q
  · rw [if_pos c4] at hF
    refine zx_iconst (v := 0) rfl rfl rfl ?_
    replace hF := Option.some.inj hF
    subst hF
    exact zx_bret rfl rfl rfl rfl q
def b250_32 (n : Nat)   (l0 : Nat) (l1 : Int32) (l2 : Int32) (s0 : Nat) (h : zH) : Option (Int32 × zH) :=
  b250_33 n  l0 l1 l2 0 s0 h
set_option maxRecDepth 20000 in
theorem tb250_32 {d n : Nat} {Q : zRs → zH → Prop}   {l0 : Nat} {l1 : Int32} {l2 : Int32} {s0 : Nat} {x3 : Option Value} {x4 : Option Value} (hd : 6 ≤ d)   {h : zH} {p : (Int32 × zH)} (hx3 : zn2 x3 = true) (hx4 : zn2 x4 = true) (hF : b250_32 n   l0 l1 l2 s0 h = some p) (q : Q (eI p.1) p.2) : zW d 250 32 [some (.ref l0), some (.int l1), some (.int l2), x3, x4] [.ref s0] h Q := by
  unfold b250_32 at hF
  obtain ⟨d, rfl⟩ : ∃ e, d = e + 1 := ⟨d - 1, by omega⟩
  refine zx_iconst (v := 0) rfl rfl rfl ?_
  exact tb250_33 (l0 := l0) (l1 := l1) (l2 := l2) (s0 := 0) (s1 := s0) hd  hx3 hx4 hF q
def f250 (n : Nat)  (y0 : Nat) (y1 : Int32) (y2 : Int32) (h : zH) : Option (Int32 × zH) :=
  zgd (isO h y0 11) <|
  (f248 n y0 y1 h).bind fun p3 =>
  if p3.1 = 0 then
    b250_32 n  y0 y1 y2 y0 p3.2
  else
    (gR p3.2 y0 11 29).bind fun x5 =>
    (gI p3.2 y0 11 3).bind fun x7 =>
    x5.bind fun a9 =>
    (aI p3.2 a9 x7).bind fun x10 =>
    (f187 n y2 (-1) (x10 - 1) p3.2).bind fun p13 =>
    if p13.1 = 0 then
      b250_32 n  y0 y1 y2 y0 p13.2
    else
      b250_33 n  y0 y1 y2 1 y0 p13.2
set_option maxRecDepth 20000 in
theorem t250 {d n : Nat} {Q : zRs → zH → Prop}  {y0 : Nat} {y1 : Int32} {y2 : Int32} (hd : 6 ≤ d)  {h : zH} {p : (Int32 × zH)} (hF : f250 n  y0 y1 y2 h = some p) (q : Q (eI p.1) p.2) : zC d 250 [.ref y0, .int y1, .int y2] h Q := by
  refine zC_of (L := [some (.ref y0), some (.int y1), some (.int y2), none, none]) rfl rfl ?_
  unfold f250 at hF
  obtain ⟨d, rfl⟩ : ∃ e, d = e + 1 := ⟨d - 1, by omega⟩
  refine zx_aload_n rfl rfl rfl ?_
  refine zx_aload_n rfl rfl rfl ?_
  refine zx_iload_n rfl rfl rfl ?_
  replace hF := zgd_some hF
  obtain ⟨g1, hF⟩ := hF
  replace hF := zbnd hF
  obtain ⟨p3, e2, hF⟩ := hF
  refine zx_callE rfl rfl rfl rfl (zrcv_isO g1) rfl rfl (zc4 (Nat.le_of_ble_eq_true rfl)) (t248 (by omega) e2 (zaI ?_))
  refine zx_if_eq rfl rfl (fun c4 => ?_) (fun c4 => ?_)
  · rw [if_pos c4] at hF
    exact tb250_32 (l0 := y0) (l1 := y1) (l2 := y2) (s0 := y0) hd  rfl rfl hF q
  · rw [if_neg c4] at hF
    refine zx_iload_n rfl rfl rfl ?_
    refine zx_iconst (v := (-1)) rfl rfl rfl ?_
    refine zx_aload_n rfl rfl rfl ?_
    replace hF := zbnd hF
    obtain ⟨x5, e6, hF⟩ := hF
    refine zy_getR rfl rfl e6 ?_
    refine zx_aload_n rfl rfl rfl ?_
    replace hF := zbnd hF
    obtain ⟨x7, e8, hF⟩ := hF
    refine zy_getI rfl rfl e8 ?_
    replace hF := zbnd hF
    obtain ⟨a9, rfl, hF⟩ := hF
    replace hF := zbnd hF
    obtain ⟨x10, e11, hF⟩ := hF
    refine zy_aI rfl rfl e11 ?_
    refine zx_iconst (v := 1) rfl rfl rfl ?_
    refine zx_isub rfl rfl ?_
    replace hF := zbnd hF
    obtain ⟨p13, e12, hF⟩ := hF
    refine zx_callE rfl rfl rfl rfl rfl rfl rfl (zc4 (Nat.le_of_ble_eq_true rfl)) (t187 (by omega) e12 (zaI ?_))
    refine zx_if_eq rfl rfl (fun c14 => ?_) (fun c14 => ?_)
    · rw [if_pos c14] at hF
      exact tb250_32 (l0 := y0) (l1 := y1) (l2 := y2) (s0 := y0) hd  rfl rfl hF q
    · rw [if_neg c14] at hF
      refine zx_iconst (v := 1) rfl rfl rfl ?_
      refine zx_goto rfl rfl ?_
      exact tb250_33 (l0 := y0) (l1 := y1) (l2 := y2) (s0 := 1) (s1 := y0) hd  rfl rfl hF q
def f266 (n : Nat)  (y0 : Nat) (y1 : Int32) (h : zH) : Option (Int32 × zH) :=
  (f187 n y1 0 4 h).bind fun p2 =>
  zgd (isO p2.2 y0 11) <|
  (f185 n y0 p2.1 p2.2).bind fun p5 =>
  if p5.1 = 0 then
    some (0, p5.2)
  else
    (gI p5.2 y0 11 85).bind fun x7 =>
    if x7 = 0 then
      some ((-1), p5.2)
    else
      if y1 = 0 then
        (gI p5.2 y0 11 86).bind fun x11 =>
        some (x11, p5.2)
      else
        if y1 = 1 then
          (gI p5.2 y0 11 87).bind fun x14 =>
          some (x14, p5.2)
        else
          if y1 = 2 then
            (gI p5.2 y0 11 88).bind fun x17 =>
            some (x17, p5.2)
          else
            if y1 = 3 then
              (gI p5.2 y0 11 89).bind fun x20 =>
              some (x20, p5.2)
            else
              (gI p5.2 y0 11 90).bind fun x22 =>
              some (x22, p5.2)
set_option maxRecDepth 20000 in
theorem t266 {d n : Nat} {Q : zRs → zH → Prop}  {y0 : Nat} {y1 : Int32} (hd : 1 ≤ d)  {h : zH} {p : (Int32 × zH)} (hF : f266 n  y0 y1 h = some p) (q : Q (eI p.1) p.2) : zC d 266 [.ref y0, .int y1] h Q := by
  refine zC_of (L := [some (.ref y0), some (.int y1)]) rfl rfl ?_
  unfold f266 at hF
  obtain ⟨d, rfl⟩ : ∃ e, d = e + 1 := ⟨d - 1, by omega⟩
  refine zx_aload_n rfl rfl rfl ?_
  refine zx_iload_n rfl rfl rfl ?_
  refine zx_iconst (v := 0) rfl rfl rfl ?_
  refine zx_iconst (v := 4) rfl rfl rfl ?_
  replace hF := zbnd hF
  obtain ⟨p2, e1, hF⟩ := hF
  refine zx_callE rfl rfl rfl rfl rfl rfl rfl (zc4 (Nat.le_of_ble_eq_true rfl)) (t187 (by omega) e1 (zaI ?_))
  replace hF := zgd_some hF
  obtain ⟨g3, hF⟩ := hF
  replace hF := zbnd hF
  obtain ⟨p5, e4, hF⟩ := hF
  refine zx_callE rfl rfl rfl rfl (zrcv_isO g3) rfl rfl (zc4 (Nat.le_of_ble_eq_true rfl)) (t185 (by omega) e4 (zaI ?_))
  refine zx_if_ne rfl rfl (fun c6 => ?_) (fun c6 => ?_)
  · rw [if_neg c6] at hF
    refine zx_aload_n rfl rfl rfl ?_
    replace hF := zbnd hF
    obtain ⟨x7, e8, hF⟩ := hF
    refine zy_getI rfl rfl e8 ?_
    refine zx_if_ne rfl rfl (fun c9 => ?_) (fun c9 => ?_)
    · rw [if_neg c9] at hF
      refine zx_iload_n rfl rfl rfl ?_
      refine zx_if_ne rfl rfl (fun c10 => ?_) (fun c10 => ?_)
      · rw [if_neg c10] at hF
        refine zx_iload_n rfl rfl rfl ?_
        refine zx_iconst (v := 1) rfl rfl rfl ?_
        refine zx_ic_ne rfl rfl (fun c13 => ?_) (fun c13 => ?_)
        · rw [if_neg c13] at hF
          refine zx_iload_n rfl rfl rfl ?_
          refine zx_iconst (v := 2) rfl rfl rfl ?_
          refine zx_ic_ne rfl rfl (fun c16 => ?_) (fun c16 => ?_)
          · rw [if_neg c16] at hF
            refine zx_iload_n rfl rfl rfl ?_
            refine zx_iconst (v := 3) rfl rfl rfl ?_
            refine zx_ic_ne rfl rfl (fun c19 => ?_) (fun c19 => ?_)
            · rw [if_neg c19] at hF
              refine zx_aload_n rfl rfl rfl ?_
              replace hF := zbnd hF
              obtain ⟨x22, e23, hF⟩ := hF
              refine zy_getI rfl rfl e23 ?_
              replace hF := Option.some.inj hF
              subst hF
              exact zx_bret rfl rfl rfl rfl q
            · rw [if_pos c19] at hF
              refine zx_aload_n rfl rfl rfl ?_
              replace hF := zbnd hF
              obtain ⟨x20, e21, hF⟩ := hF
              refine zy_getI rfl rfl e21 ?_
              refine zx_goto rfl rfl ?_
              replace hF := Option.some.inj hF
              subst hF
              exact zx_bret rfl rfl rfl rfl q
          · rw [if_pos c16] at hF
            refine zx_aload_n rfl rfl rfl ?_
            replace hF := zbnd hF
            obtain ⟨x17, e18, hF⟩ := hF
            refine zy_getI rfl rfl e18 ?_
            refine zx_goto rfl rfl ?_
            replace hF := Option.some.inj hF
            subst hF
            exact zx_bret rfl rfl rfl rfl q
        · rw [if_pos c13] at hF
          refine zx_aload_n rfl rfl rfl ?_
          replace hF := zbnd hF
          obtain ⟨x14, e15, hF⟩ := hF
          refine zy_getI rfl rfl e15 ?_
          refine zx_goto rfl rfl ?_
          replace hF := Option.some.inj hF
          subst hF
          exact zx_bret rfl rfl rfl rfl q
      · rw [if_pos c10] at hF
        refine zx_aload_n rfl rfl rfl ?_
        replace hF := zbnd hF
        obtain ⟨x11, e12, hF⟩ := hF
        refine zy_getI rfl rfl e12 ?_
        refine zx_goto rfl rfl ?_
        replace hF := Option.some.inj hF
        subst hF
        exact zx_bret rfl rfl rfl rfl q
    · rw [if_pos c9] at hF
      refine zx_iconst (v := (-1)) rfl rfl rfl ?_
      replace hF := Option.some.inj hF
      subst hF
      exact zx_bret rfl rfl rfl rfl q
  · rw [if_pos c6] at hF
    refine zx_iconst (v := 0) rfl rfl rfl ?_
    replace hF := Option.some.inj hF
    subst hF
    exact zx_bret rfl rfl rfl rfl q
def f267 (n : Nat)  (y0 : Nat) (y1 : Int32) (h : zH) : Option (Int32 × zH) :=
  (gR h y0 11 8).bind fun x1 =>
  (gI h y0 11 3).bind fun x3 =>
  x1.bind fun a5 =>
  (aI h a5 x3).bind fun x6 =>
  (f187 n y1 0 (x6 - 1) h).bind fun p9 =>
  zgd (isO p9.2 y0 11) <|
  (f185 n y0 p9.1 p9.2).bind fun p12 =>
  if p12.1 = 0 then
    some (0, p12.2)
  else
    zgd (isO p12.2 y0 11) <|
    (f251 n y0 p12.2).bind fun p16 =>
    (gR p16.2 y0 11 83).bind fun x17 =>
    x17.bind fun a19 =>
    (aB p16.2 a19 y1).bind fun x20 =>
    if x20 = 0 then
      some (0, p16.2)
    else
      some (1, p16.2)
set_option maxRecDepth 20000 in
theorem t267 {d n : Nat} {Q : zRs → zH → Prop}  {y0 : Nat} {y1 : Int32} (hd : 5 ≤ d)  {h : zH} {p : (Int32 × zH)} (hF : f267 n  y0 y1 h = some p) (q : Q (eI p.1) p.2) : zC d 267 [.ref y0, .int y1] h Q := by
  refine zC_of (L := [some (.ref y0), some (.int y1)]) rfl rfl ?_
  unfold f267 at hF
  obtain ⟨d, rfl⟩ : ∃ e, d = e + 1 := ⟨d - 1, by omega⟩
  refine zx_aload_n rfl rfl rfl ?_
  refine zx_iload_n rfl rfl rfl ?_
  refine zx_iconst (v := 0) rfl rfl rfl ?_
  refine zx_aload_n rfl rfl rfl ?_
  replace hF := zbnd hF
  obtain ⟨x1, e2, hF⟩ := hF
  refine zy_getR rfl rfl e2 ?_
  refine zx_aload_n rfl rfl rfl ?_
  replace hF := zbnd hF
  obtain ⟨x3, e4, hF⟩ := hF
  refine zy_getI rfl rfl e4 ?_
  replace hF := zbnd hF
  obtain ⟨a5, rfl, hF⟩ := hF
  replace hF := zbnd hF
  obtain ⟨x6, e7, hF⟩ := hF
  refine zy_aI rfl rfl e7 ?_
  refine zx_iconst (v := 1) rfl rfl rfl ?_
  refine zx_isub rfl rfl ?_
  replace hF := zbnd hF
  obtain ⟨p9, e8, hF⟩ := hF
  refine zx_callE rfl rfl rfl rfl rfl rfl rfl (zc4 (Nat.le_of_ble_eq_true rfl)) (t187 (by omega) e8 (zaI ?_))
  replace hF := zgd_some hF
  obtain ⟨g10, hF⟩ := hF
  replace hF := zbnd hF
  obtain ⟨p12, e11, hF⟩ := hF
  refine zx_callE rfl rfl rfl rfl (zrcv_isO g10) rfl rfl (zc4 (Nat.le_of_ble_eq_true rfl)) (t185 (by omega) e11 (zaI ?_))
  refine zx_if_ne rfl rfl (fun c13 => ?_) (fun c13 => ?_)
  · rw [if_neg c13] at hF
    refine zx_aload_n rfl rfl rfl ?_
    replace hF := zgd_some hF
    obtain ⟨g14, hF⟩ := hF
    replace hF := zbnd hF
    obtain ⟨p16, e15, hF⟩ := hF
    refine zx_callE rfl rfl rfl rfl (zrcv_isO g14) rfl rfl (zc4 (Nat.le_of_ble_eq_true rfl)) (t251 (by omega) e15 (zaV ?_))
    refine zx_aload_n rfl rfl rfl ?_
    replace hF := zbnd hF
    obtain ⟨x17, e18, hF⟩ := hF
    refine zy_getR rfl rfl e18 ?_
    refine zx_iload_n rfl rfl rfl ?_
    replace hF := zbnd hF
    obtain ⟨a19, rfl, hF⟩ := hF
    replace hF := zbnd hF
    obtain ⟨x20, e21, hF⟩ := hF
    refine zy_aB rfl rfl e21 ?_
    refine zx_if_eq rfl rfl (fun c22 => ?_) (fun c22 => ?_)
    · rw [if_pos c22] at hF
      refine zx_iconst (v := 0) rfl rfl rfl ?_
      replace hF := Option.some.inj hF
      subst hF
      exact zx_bret rfl rfl rfl rfl q
    · rw [if_neg c22] at hF
      refine zx_iconst (v := 1) rfl rfl rfl ?_
      refine zx_goto rfl rfl ?_
      replace hF := Option.some.inj hF
      subst hF
      exact zx_bret rfl rfl rfl rfl q
  · rw [if_pos c13] at hF
    refine zx_iconst (v := 0) rfl rfl rfl ?_
    replace hF := Option.some.inj hF
    subst hF
    exact zx_bret rfl rfl rfl rfl q
def f268 (n : Nat)  (y0 : Nat) (y1 : Int32) (h : zH) : Option (Int32 × zH) :=
  zgd (isO h y0 11) <|
  (f248 n y0 y1 h).bind fun p3 =>
  zgd (isO p3.2 y0 11) <|
  (f185 n y0 p3.1 p3.2).bind fun p6 =>
  if p6.1 = 0 then
    some (0, p6.2)
  else
    (gI p6.2 y0 11 3).bind fun x8 =>
    zgd (isO p6.2 y0 11) <|
    (f240 n y0 x8 p6.2).bind fun p12 =>
    (gR p12.2 y0 11 74).bind fun x13 =>
    x13.bind fun a15 =>
    (aI p12.2 a15 y1).bind fun x16 =>
    some (x16, p12.2)
set_option maxRecDepth 20000 in
theorem t268 {d n : Nat} {Q : zRs → zH → Prop}  {y0 : Nat} {y1 : Int32} (hd : 2 ≤ d)  {h : zH} {p : (Int32 × zH)} (hF : f268 n  y0 y1 h = some p) (q : Q (eI p.1) p.2) : zC d 268 [.ref y0, .int y1] h Q := by
  refine zC_of (L := [some (.ref y0), some (.int y1)]) rfl rfl ?_
  unfold f268 at hF
  obtain ⟨d, rfl⟩ : ∃ e, d = e + 1 := ⟨d - 1, by omega⟩
  refine zx_aload_n rfl rfl rfl ?_
  refine zx_aload_n rfl rfl rfl ?_
  refine zx_iload_n rfl rfl rfl ?_
  replace hF := zgd_some hF
  obtain ⟨g1, hF⟩ := hF
  replace hF := zbnd hF
  obtain ⟨p3, e2, hF⟩ := hF
  refine zx_callE rfl rfl rfl rfl (zrcv_isO g1) rfl rfl (zc4 (Nat.le_of_ble_eq_true rfl)) (t248 (by omega) e2 (zaI ?_))
  replace hF := zgd_some hF
  obtain ⟨g4, hF⟩ := hF
  replace hF := zbnd hF
  obtain ⟨p6, e5, hF⟩ := hF
  refine zx_callE rfl rfl rfl rfl (zrcv_isO g4) rfl rfl (zc4 (Nat.le_of_ble_eq_true rfl)) (t185 (by omega) e5 (zaI ?_))
  refine zx_if_ne rfl rfl (fun c7 => ?_) (fun c7 => ?_)
  · rw [if_neg c7] at hF
    refine zx_aload_n rfl rfl rfl ?_
    refine zx_aload_n rfl rfl rfl ?_
    replace hF := zbnd hF
    obtain ⟨x8, e9, hF⟩ := hF
    refine zy_getI rfl rfl e9 ?_
    replace hF := zgd_some hF
    obtain ⟨g10, hF⟩ := hF
    replace hF := zbnd hF
    obtain ⟨p12, e11, hF⟩ := hF
    refine zx_callE rfl rfl rfl rfl (zrcv_isO g10) rfl rfl (zc4 (Nat.le_of_ble_eq_true rfl)) (t240 (by omega) e11 (zaV ?_))
    refine zx_aload_n rfl rfl rfl ?_
    replace hF := zbnd hF
    obtain ⟨x13, e14, hF⟩ := hF
    refine zy_getR rfl rfl e14 ?_
    refine zx_iload_n rfl rfl rfl ?_
    replace hF := zbnd hF
    obtain ⟨a15, rfl, hF⟩ := hF
    replace hF := zbnd hF
    obtain ⟨x16, e17, hF⟩ := hF
    refine zy_aI rfl rfl e17 ?_
    replace hF := Option.some.inj hF
    subst hF
    exact zx_bret rfl rfl rfl rfl q
  · rw [if_pos c7] at hF
    refine zx_iconst (v := 0) rfl rfl rfl ?_
    replace hF := Option.some.inj hF
    subst hF
    exact zx_bret rfl rfl rfl rfl q
def f269 (n : Nat)  (y0 : Nat) (y1 : Int32) (h : zH) : Option (Int32 × zH) :=
  zgd (isO h y0 11) <|
  (f248 n y0 y1 h).bind fun p3 =>
  zgd (isO p3.2 y0 11) <|
  (f185 n y0 p3.1 p3.2).bind fun p6 =>
  if p6.1 = 0 then
    some (0, p6.2)
  else
    (gR p6.2 y0 11 63).bind fun x8 =>
    (gI p6.2 y0 11 3).bind fun x10 =>
    x8.bind fun a12 =>
    (aI p6.2 a12 ((24 * x10) + y1)).bind fun x13 =>
    some (x13, p6.2)
set_option maxRecDepth 20000 in
theorem t269 {d n : Nat} {Q : zRs → zH → Prop}  {y0 : Nat} {y1 : Int32} (hd : 2 ≤ d)  {h : zH} {p : (Int32 × zH)} (hF : f269 n  y0 y1 h = some p) (q : Q (eI p.1) p.2) : zC d 269 [.ref y0, .int y1] h Q := by
  refine zC_of (L := [some (.ref y0), some (.int y1)]) rfl rfl ?_
  unfold f269 at hF
  obtain ⟨d, rfl⟩ : ∃ e, d = e + 1 := ⟨d - 1, by omega⟩
  refine zx_aload_n rfl rfl rfl ?_
  refine zx_aload_n rfl rfl rfl ?_
  refine zx_iload_n rfl rfl rfl ?_
  replace hF := zgd_some hF
  obtain ⟨g1, hF⟩ := hF
  replace hF := zbnd hF
  obtain ⟨p3, e2, hF⟩ := hF
  refine zx_callE rfl rfl rfl rfl (zrcv_isO g1) rfl rfl (zc4 (Nat.le_of_ble_eq_true rfl)) (t248 (by omega) e2 (zaI ?_))
  replace hF := zgd_some hF
  obtain ⟨g4, hF⟩ := hF
  replace hF := zbnd hF
  obtain ⟨p6, e5, hF⟩ := hF
  refine zx_callE rfl rfl rfl rfl (zrcv_isO g4) rfl rfl (zc4 (Nat.le_of_ble_eq_true rfl)) (t185 (by omega) e5 (zaI ?_))
  refine zx_if_eq rfl rfl (fun c7 => ?_) (fun c7 => ?_)
  · rw [if_pos c7] at hF
    refine zx_iconst (v := 0) rfl rfl rfl ?_
    replace hF := Option.some.inj hF
    subst hF
    exact zx_bret rfl rfl rfl rfl q
  · rw [if_neg c7] at hF
    refine zx_aload_n rfl rfl rfl ?_
    replace hF := zbnd hF
    obtain ⟨x8, e9, hF⟩ := hF
    refine zy_getR rfl rfl e9 ?_
    refine zx_bipush (v := 24) rfl rfl rfl ?_
    refine zx_aload_n rfl rfl rfl ?_
    replace hF := zbnd hF
    obtain ⟨x10, e11, hF⟩ := hF
    refine zy_getI rfl rfl e11 ?_
    refine zx_imul rfl rfl ?_
    refine zx_iload_n rfl rfl rfl ?_
    refine zx_iadd rfl rfl ?_
    replace hF := zbnd hF
    obtain ⟨a12, rfl, hF⟩ := hF
    replace hF := zbnd hF
    obtain ⟨x13, e14, hF⟩ := hF
    refine zy_aI rfl rfl e14 ?_
    refine zx_goto rfl rfl ?_
    replace hF := Option.some.inj hF
    subst hF
    exact zx_bret rfl rfl rfl rfl q
def b270_88 (n : Nat)  (r41 : Nat → Int32 → Int32 → Int32 → Int32 → Int32 → zH → Option (Int32 × zH)) (l0 : Nat) (l1 : Int32) (l2 : Int32) (l3 : Int32) (l4 : Int32) (l5 : Int32) (s0 : Int32) (h : zH) : Option (Int32 × zH) :=
  r41 l0 l1 l2 l3 s0 (l5 + 1) h
set_option maxRecDepth 20000 in
theorem tb270_88 {d n : Nat} {Q : zRs → zH → Prop}  {r41 : Nat → Int32 → Int32 → Int32 → Int32 → Int32 → zH → Option (Int32 × zH)} {l0 : Nat} {l1 : Int32} {l2 : Int32} {l3 : Int32} {l4 : Int32} {l5 : Int32} {s0 : Int32}  (hd : 1 ≤ d)  (hr41 : ∀ {l0 : Nat} {l1 : Int32} {l2 : Int32} {l3 : Int32} {l4 : Int32} {l5 : Int32}   {h : zH} {p : (Int32 × zH)}, r41 l0 l1 l2 l3 l4 l5 h = some p → Q (eI p.1) p.2 → zW d 270 41 [some (.ref l0), some (.int l1), some (.int l2), some (.int l3), some (.int l4), some (.int l5)] [] h Q) {h : zH} {p : (Int32 × zH)}  (hF : b270_88 n  r41 l0 l1 l2 l3 l4 l5 s0 h = some p) (q : Q (eI p.1) p.2) : zW d 270 88 [some (.ref l0), some (.int l1), some (.int l2), some (.int l3), some (.int l4), some (.int l5)] [.int s0] h Q := by
  unfold b270_88 at hF
  obtain ⟨d, rfl⟩ : ∃ e, d = e + 1 := ⟨d - 1, by omega⟩
  refine zx_istore rfl rfl rfl ?_
  refine zx_iinc (w := 1) rfl rfl rfl rfl rfl ?_
  refine zx_goto rfl rfl ?_
  exact hr41  hF q
def b270_41 (n : Nat)  (r41 : Nat → Int32 → Int32 → Int32 → Int32 → Int32 → zH → Option (Int32 × zH)) (l0 : Nat) (l1 : Int32) (l2 : Int32) (l3 : Int32) (l4 : Int32) (l5 : Int32) (h : zH) : Option (Int32 × zH) :=
  (gR h l0 11 50).bind fun x1 =>
  x1.bind fun a3 =>
  (aI h a3 l3).bind fun x4 =>
  if x4 ≤ l5 then
    some (l4, h)
  else
    (gR h l0 11 52).bind fun x7 =>
    x7.bind fun a9 =>
    (aI h a9 ((8 * l3) + l5)).bind fun x10 =>
    if x10 = l2 then
      (gR h l0 11 51).bind fun x13 =>
      x13.bind fun a15 =>
      (aI h a15 ((8 * l3) + l5)).bind fun x16 =>
      b270_88 n r41 l0 l1 l2 l3 l4 l5 (l4 + x16) h
    else
      b270_88 n r41 l0 l1 l2 l3 l4 l5 l4 h
set_option maxRecDepth 20000 in
theorem tb270_41 {d n : Nat} {Q : zRs → zH → Prop}  {r41 : Nat → Int32 → Int32 → Int32 → Int32 → Int32 → zH → Option (Int32 × zH)} {l0 : Nat} {l1 : Int32} {l2 : Int32} {l3 : Int32} {l4 : Int32} {l5 : Int32}   (hd : 1 ≤ d)  (hr41 : ∀ {l0 : Nat} {l1 : Int32} {l2 : Int32} {l3 : Int32} {l4 : Int32} {l5 : Int32}   {h : zH} {p : (Int32 × zH)}, r41 l0 l1 l2 l3 l4 l5 h = some p → Q (eI p.1) p.2 → zW d 270 41 [some (.ref l0), some (.int l1), some (.int l2), some (.int l3), some (.int l4), some (.int l5)] [] h Q) {h : zH} {p : (Int32 × zH)}  (hF : b270_41 n  r41 l0 l1 l2 l3 l4 l5 h = some p) (q : Q (eI p.1) p.2) : zW d 270 41 [some (.ref l0), some (.int l1), some (.int l2), some (.int l3), some (.int l4), some (.int l5)] [] h Q := by
  unfold b270_41 at hF
  obtain ⟨d, rfl⟩ : ∃ e, d = e + 1 := ⟨d - 1, by omega⟩
  refine zx_iload rfl rfl rfl ?_
  refine zx_aload_n rfl rfl rfl ?_
  replace hF := zbnd hF
  obtain ⟨x1, e2, hF⟩ := hF
  refine zy_getR rfl rfl e2 ?_
  refine zx_iload_n rfl rfl rfl ?_
  replace hF := zbnd hF
  obtain ⟨a3, rfl, hF⟩ := hF
  replace hF := zbnd hF
  obtain ⟨x4, e5, hF⟩ := hF
  refine zy_aI rfl rfl e5 ?_
  refine zx_ic_ge rfl rfl (fun c6 => ?_) (fun c6 => ?_)
  · rw [if_pos c6] at hF
    refine zx_iload rfl rfl rfl ?_
    replace hF := Option.some.inj hF
    subst hF
    exact zx_bret rfl rfl rfl rfl q
  · rw [if_neg c6] at hF
    refine zx_aload_n rfl rfl rfl ?_
    replace hF := zbnd hF
    obtain ⟨x7, e8, hF⟩ := hF
    refine zy_getR rfl rfl e8 ?_
    refine zx_bipush (v := 8) rfl rfl rfl ?_
    refine zx_iload_n rfl rfl rfl ?_
    refine zx_imul rfl rfl ?_
    refine zx_iload rfl rfl rfl ?_
    refine zx_iadd rfl rfl ?_
    replace hF := zbnd hF
    obtain ⟨a9, rfl, hF⟩ := hF
    replace hF := zbnd hF
    obtain ⟨x10, e11, hF⟩ := hF
    refine zy_aI rfl rfl e11 ?_
    refine zx_iload_n rfl rfl rfl ?_
    refine zx_ic_ne rfl rfl (fun c12 => ?_) (fun c12 => ?_)
    · rw [if_neg c12] at hF
      refine zx_iload rfl rfl rfl ?_
      exact tb270_88 (l0 := l0) (l1 := l1) (l2 := l2) (l3 := l3) (l4 := l4) (l5 := l5) (s0 := l4) hd hr41  hF q
    · rw [if_pos c12] at hF
      refine zx_iload rfl rfl rfl ?_
      refine zx_aload_n rfl rfl rfl ?_
      replace hF := zbnd hF
      obtain ⟨x13, e14, hF⟩ := hF
      refine zy_getR rfl rfl e14 ?_
      refine zx_bipush (v := 8) rfl rfl rfl ?_
      refine zx_iload_n rfl rfl rfl ?_
      refine zx_imul rfl rfl ?_
      refine zx_iload rfl rfl rfl ?_
      refine zx_iadd rfl rfl ?_
      replace hF := zbnd hF
      obtain ⟨a15, rfl, hF⟩ := hF
      replace hF := zbnd hF
      obtain ⟨x16, e17, hF⟩ := hF
      refine zy_aI rfl rfl e17 ?_
      refine zx_iadd rfl rfl ?_
      refine zx_goto rfl rfl ?_
      exact tb270_88 (l0 := l0) (l1 := l1) (l2 := l2) (l3 := l3) (l4 := l4) (l5 := l5) (s0 := (l4 + x16)) hd hr41  hF q
def f270_41 (n : Nat)   (k : Nat) : Nat → Int32 → Int32 → Int32 → Int32 → Int32 → zH → Option (Int32 × zH) := Nat.rec (fun _ _ _ _ _ _ _ => none) (fun _ ih => b270_41 n  ih) k
theorem tf270_41 {d n : Nat} {Q : zRs → zH → Prop}   (hd : 1 ≤ d)   (k : Nat) : ∀ {l0 : Nat} {l1 : Int32} {l2 : Int32} {l3 : Int32} {l4 : Int32} {l5 : Int32}   {h : zH} {p : (Int32 × zH)}, f270_41 n   k l0 l1 l2 l3 l4 l5 h = some p → Q (eI p.1) p.2 → zW d 270 41 [some (.ref l0), some (.int l1), some (.int l2), some (.int l3), some (.int l4), some (.int l5)] [] h Q := by
  induction k with
  | zero => intros; rename_i hF _; cases hF
  | succ k ih => intros; rename_i  hF q; exact tb270_41 (n := n) hd  ih  hF q
def f270 (n : Nat)  (y0 : Nat) (y1 : Int32) (y2 : Int32) (h : zH) : Option (Int32 × zH) :=
  (gR h y0 11 46).bind fun x1 =>
  (gI h y0 11 3).bind fun x3 =>
  x1.bind fun a5 =>
  (aI h a5 x3).bind fun x6 =>
  (f187 n y1 0 (x6 - 1) h).bind fun p9 =>
  zgd (isO p9.2 y0 11) <|
  (f185 n y0 p9.1 p9.2).bind fun p12 =>
  if p12.1 = 0 then
    some (0, p12.2)
  else
    (gI p12.2 y0 11 3).bind fun x14 =>
    f270_41 n  n y0 y1 y2 ((100 * x14) + y1) 0 0 p12.2
set_option maxRecDepth 20000 in
theorem t270 {d n : Nat} {Q : zRs → zH → Prop}  {y0 : Nat} {y1 : Int32} {y2 : Int32} (hd : 1 ≤ d)  {h : zH} {p : (Int32 × zH)} (hF : f270 n  y0 y1 y2 h = some p) (q : Q (eI p.1) p.2) : zC d 270 [.ref y0, .int y1, .int y2] h Q := by
  refine zC_of (L := [some (.ref y0), some (.int y1), some (.int y2), none, none, none]) rfl rfl ?_
  unfold f270 at hF
  obtain ⟨d, rfl⟩ : ∃ e, d = e + 1 := ⟨d - 1, by omega⟩
  refine zx_aload_n rfl rfl rfl ?_
  refine zx_iload_n rfl rfl rfl ?_
  refine zx_iconst (v := 0) rfl rfl rfl ?_
  refine zx_aload_n rfl rfl rfl ?_
  replace hF := zbnd hF
  obtain ⟨x1, e2, hF⟩ := hF
  refine zy_getR rfl rfl e2 ?_
  refine zx_aload_n rfl rfl rfl ?_
  replace hF := zbnd hF
  obtain ⟨x3, e4, hF⟩ := hF
  refine zy_getI rfl rfl e4 ?_
  replace hF := zbnd hF
  obtain ⟨a5, rfl, hF⟩ := hF
  replace hF := zbnd hF
  obtain ⟨x6, e7, hF⟩ := hF
  refine zy_aI rfl rfl e7 ?_
  refine zx_iconst (v := 1) rfl rfl rfl ?_
  refine zx_isub rfl rfl ?_
  replace hF := zbnd hF
  obtain ⟨p9, e8, hF⟩ := hF
  refine zx_callE rfl rfl rfl rfl rfl rfl rfl (zc4 (Nat.le_of_ble_eq_true rfl)) (t187 (by omega) e8 (zaI ?_))
  replace hF := zgd_some hF
  obtain ⟨g10, hF⟩ := hF
  replace hF := zbnd hF
  obtain ⟨p12, e11, hF⟩ := hF
  refine zx_callE rfl rfl rfl rfl (zrcv_isO g10) rfl rfl (zc4 (Nat.le_of_ble_eq_true rfl)) (t185 (by omega) e11 (zaI ?_))
  refine zx_if_ne rfl rfl (fun c13 => ?_) (fun c13 => ?_)
  · rw [if_neg c13] at hF
    refine zx_bipush (v := 100) rfl rfl rfl ?_
    refine zx_aload_n rfl rfl rfl ?_
    replace hF := zbnd hF
    obtain ⟨x14, e15, hF⟩ := hF
    refine zy_getI rfl rfl e15 ?_
    refine zx_imul rfl rfl ?_
    refine zx_iload_n rfl rfl rfl ?_
    refine zx_iadd rfl rfl ?_
    refine zx_istore_n rfl rfl rfl ?_
    refine zx_iconst (v := 0) rfl rfl rfl ?_
    refine zx_istore rfl rfl rfl ?_
    refine zx_iconst (v := 0) rfl rfl rfl ?_
    refine zx_istore rfl rfl rfl ?_
    exact tf270_41 hd  n (l0 := y0) (l1 := y1) (l2 := y2) (l3 := ((100 * x14) + y1)) (l4 := 0) (l5 := 0)  hF q
  · rw [if_pos c13] at hF
    refine zx_iconst (v := 0) rfl rfl rfl ?_
    replace hF := Option.some.inj hF
    subst hF
    exact zx_bret rfl rfl rfl rfl q
def b0_963 (n : Nat)  (r23 : Option Nat → Nat → Nat → Nat → Int32 → zH → Option (Int32 × zH)) (l0 : Option Nat) (l1 : Nat) (l2 : Nat) (l3 : Nat) (l4 : Int32) (h : zH) : Option (Int32 × zH) :=
  r23 l0 l1 l2 l3 (l4 + 6) h
set_option maxRecDepth 20000 in
theorem tb0_963 {d n : Nat} {Q : zRs → zH → Prop}  {r23 : Option Nat → Nat → Nat → Nat → Int32 → zH → Option (Int32 × zH)} {l0 : Option Nat} {l1 : Nat} {l2 : Nat} {l3 : Nat} {l4 : Int32}  {x5 : Option Value} {x6 : Option Value} (hd : 77 ≤ d)  (hr23 : ∀ {l0 : Option Nat} {l1 : Nat} {l2 : Nat} {l3 : Nat} {l4 : Int32}  {x5 : Option Value} {x6 : Option Value} {h : zH} {p : (Int32 × zH)}, zn2 x5 = true → zn2 x6 = true → r23 l0 l1 l2 l3 l4 h = some p → Q (eI p.1) p.2 → zW d 0 23 [some (va_rf l0), some (.ref l1), some (.ref l2), some (.ref l3), some (.int l4), x5, x6] [] h Q) {h : zH} {p : (Int32 × zH)} (hx5 : zn2 x5 = true) (hx6 : zn2 x6 = true) (hF : b0_963 n  r23 l0 l1 l2 l3 l4 h = some p) (q : Q (eI p.1) p.2) : zW d 0 963 [some (va_rf l0), some (.ref l1), some (.ref l2), some (.ref l3), some (.int l4), x5, x6] [] h Q := by
  unfold b0_963 at hF
  obtain ⟨d, rfl⟩ : ∃ e, d = e + 1 := ⟨d - 1, by omega⟩
  refine zx_iinc (w := 6) rfl rfl rfl rfl rfl ?_
  refine zx_goto rfl rfl ?_
  exact hr23 hx5 hx6 hF q
def b0_221 (n : Nat)  (r23 : Option Nat → Nat → Nat → Nat → Int32 → zH → Option (Int32 × zH)) (l0 : Option Nat) (l1 : Nat) (l2 : Nat) (l3 : Nat) (l4 : Int32) (l5 : Int32) (l6 : Int32) (h : zH) : Option (Int32 × zH) :=
  b0_963 n r23 l0 l1 l2 l3 l4 h
set_option maxRecDepth 20000 in
theorem tb0_221 {d n : Nat} {Q : zRs → zH → Prop}  {r23 : Option Nat → Nat → Nat → Nat → Int32 → zH → Option (Int32 × zH)} {l0 : Option Nat} {l1 : Nat} {l2 : Nat} {l3 : Nat} {l4 : Int32} {l5 : Int32} {l6 : Int32}   (hd : 77 ≤ d)  (hr23 : ∀ {l0 : Option Nat} {l1 : Nat} {l2 : Nat} {l3 : Nat} {l4 : Int32}  {x5 : Option Value} {x6 : Option Value} {h : zH} {p : (Int32 × zH)}, zn2 x5 = true → zn2 x6 = true → r23 l0 l1 l2 l3 l4 h = some p → Q (eI p.1) p.2 → zW d 0 23 [some (va_rf l0), some (.ref l1), some (.ref l2), some (.ref l3), some (.int l4), x5, x6] [] h Q) {h : zH} {p : (Int32 × zH)}  (hF : b0_221 n  r23 l0 l1 l2 l3 l4 l5 l6 h = some p) (q : Q (eI p.1) p.2) : zW d 0 221 [some (va_rf l0), some (.ref l1), some (.ref l2), some (.ref l3), some (.int l4), some (.int l5), some (.int l6)] [] h Q := by
  unfold b0_221 at hF
  obtain ⟨d, rfl⟩ : ∃ e, d = e + 1 := ⟨d - 1, by omega⟩
  refine zx_goto rfl rfl ?_
  exact tb0_963 (l0 := l0) (l1 := l1) (l2 := l2) (l3 := l3) (l4 := l4) hd hr23 rfl rfl hF q
def b0_339 (n : Nat)  (r23 : Option Nat → Nat → Nat → Nat → Int32 → zH → Option (Int32 × zH)) (l0 : Option Nat) (l1 : Nat) (l2 : Nat) (l3 : Nat) (l4 : Int32) (l5 : Int32) (l6 : Int32) (h : zH) : Option (Int32 × zH) :=
  b0_963 n r23 l0 l1 l2 l3 l4 h
set_option maxRecDepth 20000 in
theorem tb0_339 {d n : Nat} {Q : zRs → zH → Prop}  {r23 : Option Nat → Nat → Nat → Nat → Int32 → zH → Option (Int32 × zH)} {l0 : Option Nat} {l1 : Nat} {l2 : Nat} {l3 : Nat} {l4 : Int32} {l5 : Int32} {l6 : Int32}   (hd : 77 ≤ d)  (hr23 : ∀ {l0 : Option Nat} {l1 : Nat} {l2 : Nat} {l3 : Nat} {l4 : Int32}  {x5 : Option Value} {x6 : Option Value} {h : zH} {p : (Int32 × zH)}, zn2 x5 = true → zn2 x6 = true → r23 l0 l1 l2 l3 l4 h = some p → Q (eI p.1) p.2 → zW d 0 23 [some (va_rf l0), some (.ref l1), some (.ref l2), some (.ref l3), some (.int l4), x5, x6] [] h Q) {h : zH} {p : (Int32 × zH)}  (hF : b0_339 n  r23 l0 l1 l2 l3 l4 l5 l6 h = some p) (q : Q (eI p.1) p.2) : zW d 0 339 [some (va_rf l0), some (.ref l1), some (.ref l2), some (.ref l3), some (.int l4), some (.int l5), some (.int l6)] [] h Q := by
  unfold b0_339 at hF
  obtain ⟨d, rfl⟩ : ∃ e, d = e + 1 := ⟨d - 1, by omega⟩
  refine zx_goto rfl rfl ?_
  exact tb0_963 (l0 := l0) (l1 := l1) (l2 := l2) (l3 := l3) (l4 := l4) hd hr23 rfl rfl hF q
def b0_383 (n : Nat)  (r23 : Option Nat → Nat → Nat → Nat → Int32 → zH → Option (Int32 × zH)) (l0 : Option Nat) (l1 : Nat) (l2 : Nat) (l3 : Nat) (l4 : Int32) (l5 : Int32) (l6 : Int32) (h : zH) : Option (Int32 × zH) :=
  b0_963 n r23 l0 l1 l2 l3 l4 h
set_option maxRecDepth 20000 in
theorem tb0_383 {d n : Nat} {Q : zRs → zH → Prop}  {r23 : Option Nat → Nat → Nat → Nat → Int32 → zH → Option (Int32 × zH)} {l0 : Option Nat} {l1 : Nat} {l2 : Nat} {l3 : Nat} {l4 : Int32} {l5 : Int32} {l6 : Int32}   (hd : 77 ≤ d)  (hr23 : ∀ {l0 : Option Nat} {l1 : Nat} {l2 : Nat} {l3 : Nat} {l4 : Int32}  {x5 : Option Value} {x6 : Option Value} {h : zH} {p : (Int32 × zH)}, zn2 x5 = true → zn2 x6 = true → r23 l0 l1 l2 l3 l4 h = some p → Q (eI p.1) p.2 → zW d 0 23 [some (va_rf l0), some (.ref l1), some (.ref l2), some (.ref l3), some (.int l4), x5, x6] [] h Q) {h : zH} {p : (Int32 × zH)}  (hF : b0_383 n  r23 l0 l1 l2 l3 l4 l5 l6 h = some p) (q : Q (eI p.1) p.2) : zW d 0 383 [some (va_rf l0), some (.ref l1), some (.ref l2), some (.ref l3), some (.int l4), some (.int l5), some (.int l6)] [] h Q := by
  unfold b0_383 at hF
  obtain ⟨d, rfl⟩ : ∃ e, d = e + 1 := ⟨d - 1, by omega⟩
  refine zx_goto rfl rfl ?_
  exact tb0_963 (l0 := l0) (l1 := l1) (l2 := l2) (l3 := l3) (l4 := l4) hd hr23 rfl rfl hF q
def b0_452 (n : Nat)  (r23 : Option Nat → Nat → Nat → Nat → Int32 → zH → Option (Int32 × zH)) (l0 : Option Nat) (l1 : Nat) (l2 : Nat) (l3 : Nat) (l4 : Int32) (l5 : Int32) (l6 : Int32) (h : zH) : Option (Int32 × zH) :=
  b0_963 n r23 l0 l1 l2 l3 l4 h
set_option maxRecDepth 20000 in
theorem tb0_452 {d n : Nat} {Q : zRs → zH → Prop}  {r23 : Option Nat → Nat → Nat → Nat → Int32 → zH → Option (Int32 × zH)} {l0 : Option Nat} {l1 : Nat} {l2 : Nat} {l3 : Nat} {l4 : Int32} {l5 : Int32} {l6 : Int32}   (hd : 77 ≤ d)  (hr23 : ∀ {l0 : Option Nat} {l1 : Nat} {l2 : Nat} {l3 : Nat} {l4 : Int32}  {x5 : Option Value} {x6 : Option Value} {h : zH} {p : (Int32 × zH)}, zn2 x5 = true → zn2 x6 = true → r23 l0 l1 l2 l3 l4 h = some p → Q (eI p.1) p.2 → zW d 0 23 [some (va_rf l0), some (.ref l1), some (.ref l2), some (.ref l3), some (.int l4), x5, x6] [] h Q) {h : zH} {p : (Int32 × zH)}  (hF : b0_452 n  r23 l0 l1 l2 l3 l4 l5 l6 h = some p) (q : Q (eI p.1) p.2) : zW d 0 452 [some (va_rf l0), some (.ref l1), some (.ref l2), some (.ref l3), some (.int l4), some (.int l5), some (.int l6)] [] h Q := by
  unfold b0_452 at hF
  obtain ⟨d, rfl⟩ : ∃ e, d = e + 1 := ⟨d - 1, by omega⟩
  refine zx_goto rfl rfl ?_
  exact tb0_963 (l0 := l0) (l1 := l1) (l2 := l2) (l3 := l3) (l4 := l4) hd hr23 rfl rfl hF q
def b0_532 (n : Nat)  (r23 : Option Nat → Nat → Nat → Nat → Int32 → zH → Option (Int32 × zH)) (l0 : Option Nat) (l1 : Nat) (l2 : Nat) (l3 : Nat) (l4 : Int32) (l5 : Int32) (l6 : Int32) (h : zH) : Option (Int32 × zH) :=
  b0_963 n r23 l0 l1 l2 l3 l4 h
set_option maxRecDepth 20000 in
theorem tb0_532 {d n : Nat} {Q : zRs → zH → Prop}  {r23 : Option Nat → Nat → Nat → Nat → Int32 → zH → Option (Int32 × zH)} {l0 : Option Nat} {l1 : Nat} {l2 : Nat} {l3 : Nat} {l4 : Int32} {l5 : Int32} {l6 : Int32}   (hd : 77 ≤ d)  (hr23 : ∀ {l0 : Option Nat} {l1 : Nat} {l2 : Nat} {l3 : Nat} {l4 : Int32}  {x5 : Option Value} {x6 : Option Value} {h : zH} {p : (Int32 × zH)}, zn2 x5 = true → zn2 x6 = true → r23 l0 l1 l2 l3 l4 h = some p → Q (eI p.1) p.2 → zW d 0 23 [some (va_rf l0), some (.ref l1), some (.ref l2), some (.ref l3), some (.int l4), x5, x6] [] h Q) {h : zH} {p : (Int32 × zH)}  (hF : b0_532 n  r23 l0 l1 l2 l3 l4 l5 l6 h = some p) (q : Q (eI p.1) p.2) : zW d 0 532 [some (va_rf l0), some (.ref l1), some (.ref l2), some (.ref l3), some (.int l4), some (.int l5), some (.int l6)] [] h Q := by
  unfold b0_532 at hF
  obtain ⟨d, rfl⟩ : ∃ e, d = e + 1 := ⟨d - 1, by omega⟩
  refine zx_goto rfl rfl ?_
  exact tb0_963 (l0 := l0) (l1 := l1) (l2 := l2) (l3 := l3) (l4 := l4) hd hr23 rfl rfl hF q
def b0_600 (n : Nat)  (r23 : Option Nat → Nat → Nat → Nat → Int32 → zH → Option (Int32 × zH)) (l0 : Option Nat) (l1 : Nat) (l2 : Nat) (l3 : Nat) (l4 : Int32) (l5 : Int32) (l6 : Int32) (h : zH) : Option (Int32 × zH) :=
  b0_963 n r23 l0 l1 l2 l3 l4 h
set_option maxRecDepth 20000 in
theorem tb0_600 {d n : Nat} {Q : zRs → zH → Prop}  {r23 : Option Nat → Nat → Nat → Nat → Int32 → zH → Option (Int32 × zH)} {l0 : Option Nat} {l1 : Nat} {l2 : Nat} {l3 : Nat} {l4 : Int32} {l5 : Int32} {l6 : Int32}   (hd : 77 ≤ d)  (hr23 : ∀ {l0 : Option Nat} {l1 : Nat} {l2 : Nat} {l3 : Nat} {l4 : Int32}  {x5 : Option Value} {x6 : Option Value} {h : zH} {p : (Int32 × zH)}, zn2 x5 = true → zn2 x6 = true → r23 l0 l1 l2 l3 l4 h = some p → Q (eI p.1) p.2 → zW d 0 23 [some (va_rf l0), some (.ref l1), some (.ref l2), some (.ref l3), some (.int l4), x5, x6] [] h Q) {h : zH} {p : (Int32 × zH)}  (hF : b0_600 n  r23 l0 l1 l2 l3 l4 l5 l6 h = some p) (q : Q (eI p.1) p.2) : zW d 0 600 [some (va_rf l0), some (.ref l1), some (.ref l2), some (.ref l3), some (.int l4), some (.int l5), some (.int l6)] [] h Q := by
  unfold b0_600 at hF
  obtain ⟨d, rfl⟩ : ∃ e, d = e + 1 := ⟨d - 1, by omega⟩
  refine zx_goto rfl rfl ?_
  exact tb0_963 (l0 := l0) (l1 := l1) (l2 := l2) (l3 := l3) (l4 := l4) hd hr23 rfl rfl hF q
def b0_668 (n : Nat)  (r23 : Option Nat → Nat → Nat → Nat → Int32 → zH → Option (Int32 × zH)) (l0 : Option Nat) (l1 : Nat) (l2 : Nat) (l3 : Nat) (l4 : Int32) (l5 : Int32) (l6 : Int32) (h : zH) : Option (Int32 × zH) :=
  b0_963 n r23 l0 l1 l2 l3 l4 h
set_option maxRecDepth 20000 in
theorem tb0_668 {d n : Nat} {Q : zRs → zH → Prop}  {r23 : Option Nat → Nat → Nat → Nat → Int32 → zH → Option (Int32 × zH)} {l0 : Option Nat} {l1 : Nat} {l2 : Nat} {l3 : Nat} {l4 : Int32} {l5 : Int32} {l6 : Int32}   (hd : 77 ≤ d)  (hr23 : ∀ {l0 : Option Nat} {l1 : Nat} {l2 : Nat} {l3 : Nat} {l4 : Int32}  {x5 : Option Value} {x6 : Option Value} {h : zH} {p : (Int32 × zH)}, zn2 x5 = true → zn2 x6 = true → r23 l0 l1 l2 l3 l4 h = some p → Q (eI p.1) p.2 → zW d 0 23 [some (va_rf l0), some (.ref l1), some (.ref l2), some (.ref l3), some (.int l4), x5, x6] [] h Q) {h : zH} {p : (Int32 × zH)}  (hF : b0_668 n  r23 l0 l1 l2 l3 l4 l5 l6 h = some p) (q : Q (eI p.1) p.2) : zW d 0 668 [some (va_rf l0), some (.ref l1), some (.ref l2), some (.ref l3), some (.int l4), some (.int l5), some (.int l6)] [] h Q := by
  unfold b0_668 at hF
  obtain ⟨d, rfl⟩ : ∃ e, d = e + 1 := ⟨d - 1, by omega⟩
  refine zx_goto rfl rfl ?_
  exact tb0_963 (l0 := l0) (l1 := l1) (l2 := l2) (l3 := l3) (l4 := l4) hd hr23 rfl rfl hF q
def b0_724 (n : Nat)  (r23 : Option Nat → Nat → Nat → Nat → Int32 → zH → Option (Int32 × zH)) (l0 : Option Nat) (l1 : Nat) (l2 : Nat) (l3 : Nat) (l4 : Int32) (l5 : Int32) (l6 : Int32) (h : zH) : Option (Int32 × zH) :=
  b0_963 n r23 l0 l1 l2 l3 l4 h
set_option maxRecDepth 20000 in
theorem tb0_724 {d n : Nat} {Q : zRs → zH → Prop}  {r23 : Option Nat → Nat → Nat → Nat → Int32 → zH → Option (Int32 × zH)} {l0 : Option Nat} {l1 : Nat} {l2 : Nat} {l3 : Nat} {l4 : Int32} {l5 : Int32} {l6 : Int32}   (hd : 77 ≤ d)  (hr23 : ∀ {l0 : Option Nat} {l1 : Nat} {l2 : Nat} {l3 : Nat} {l4 : Int32}  {x5 : Option Value} {x6 : Option Value} {h : zH} {p : (Int32 × zH)}, zn2 x5 = true → zn2 x6 = true → r23 l0 l1 l2 l3 l4 h = some p → Q (eI p.1) p.2 → zW d 0 23 [some (va_rf l0), some (.ref l1), some (.ref l2), some (.ref l3), some (.int l4), x5, x6] [] h Q) {h : zH} {p : (Int32 × zH)}  (hF : b0_724 n  r23 l0 l1 l2 l3 l4 l5 l6 h = some p) (q : Q (eI p.1) p.2) : zW d 0 724 [some (va_rf l0), some (.ref l1), some (.ref l2), some (.ref l3), some (.int l4), some (.int l5), some (.int l6)] [] h Q := by
  unfold b0_724 at hF
  obtain ⟨d, rfl⟩ : ∃ e, d = e + 1 := ⟨d - 1, by omega⟩
  refine zx_goto rfl rfl ?_
  exact tb0_963 (l0 := l0) (l1 := l1) (l2 := l2) (l3 := l3) (l4 := l4) hd hr23 rfl rfl hF q
def b0_780 (n : Nat)  (r23 : Option Nat → Nat → Nat → Nat → Int32 → zH → Option (Int32 × zH)) (l0 : Option Nat) (l1 : Nat) (l2 : Nat) (l3 : Nat) (l4 : Int32) (l5 : Int32) (l6 : Int32) (h : zH) : Option (Int32 × zH) :=
  b0_963 n r23 l0 l1 l2 l3 l4 h
set_option maxRecDepth 20000 in
theorem tb0_780 {d n : Nat} {Q : zRs → zH → Prop}  {r23 : Option Nat → Nat → Nat → Nat → Int32 → zH → Option (Int32 × zH)} {l0 : Option Nat} {l1 : Nat} {l2 : Nat} {l3 : Nat} {l4 : Int32} {l5 : Int32} {l6 : Int32}   (hd : 77 ≤ d)  (hr23 : ∀ {l0 : Option Nat} {l1 : Nat} {l2 : Nat} {l3 : Nat} {l4 : Int32}  {x5 : Option Value} {x6 : Option Value} {h : zH} {p : (Int32 × zH)}, zn2 x5 = true → zn2 x6 = true → r23 l0 l1 l2 l3 l4 h = some p → Q (eI p.1) p.2 → zW d 0 23 [some (va_rf l0), some (.ref l1), some (.ref l2), some (.ref l3), some (.int l4), x5, x6] [] h Q) {h : zH} {p : (Int32 × zH)}  (hF : b0_780 n  r23 l0 l1 l2 l3 l4 l5 l6 h = some p) (q : Q (eI p.1) p.2) : zW d 0 780 [some (va_rf l0), some (.ref l1), some (.ref l2), some (.ref l3), some (.int l4), some (.int l5), some (.int l6)] [] h Q := by
  unfold b0_780 at hF
  obtain ⟨d, rfl⟩ : ∃ e, d = e + 1 := ⟨d - 1, by omega⟩
  refine zx_goto rfl rfl ?_
  exact tb0_963 (l0 := l0) (l1 := l1) (l2 := l2) (l3 := l3) (l4 := l4) hd hr23 rfl rfl hF q
def b0_836 (n : Nat)  (r23 : Option Nat → Nat → Nat → Nat → Int32 → zH → Option (Int32 × zH)) (l0 : Option Nat) (l1 : Nat) (l2 : Nat) (l3 : Nat) (l4 : Int32) (l5 : Int32) (l6 : Int32) (h : zH) : Option (Int32 × zH) :=
  b0_963 n r23 l0 l1 l2 l3 l4 h
set_option maxRecDepth 20000 in
theorem tb0_836 {d n : Nat} {Q : zRs → zH → Prop}  {r23 : Option Nat → Nat → Nat → Nat → Int32 → zH → Option (Int32 × zH)} {l0 : Option Nat} {l1 : Nat} {l2 : Nat} {l3 : Nat} {l4 : Int32} {l5 : Int32} {l6 : Int32}   (hd : 77 ≤ d)  (hr23 : ∀ {l0 : Option Nat} {l1 : Nat} {l2 : Nat} {l3 : Nat} {l4 : Int32}  {x5 : Option Value} {x6 : Option Value} {h : zH} {p : (Int32 × zH)}, zn2 x5 = true → zn2 x6 = true → r23 l0 l1 l2 l3 l4 h = some p → Q (eI p.1) p.2 → zW d 0 23 [some (va_rf l0), some (.ref l1), some (.ref l2), some (.ref l3), some (.int l4), x5, x6] [] h Q) {h : zH} {p : (Int32 × zH)}  (hF : b0_836 n  r23 l0 l1 l2 l3 l4 l5 l6 h = some p) (q : Q (eI p.1) p.2) : zW d 0 836 [some (va_rf l0), some (.ref l1), some (.ref l2), some (.ref l3), some (.int l4), some (.int l5), some (.int l6)] [] h Q := by
  unfold b0_836 at hF
  obtain ⟨d, rfl⟩ : ∃ e, d = e + 1 := ⟨d - 1, by omega⟩
  refine zx_goto rfl rfl ?_
  exact tb0_963 (l0 := l0) (l1 := l1) (l2 := l2) (l3 := l3) (l4 := l4) hd hr23 rfl rfl hF q
def b0_892 (n : Nat)  (r23 : Option Nat → Nat → Nat → Nat → Int32 → zH → Option (Int32 × zH)) (l0 : Option Nat) (l1 : Nat) (l2 : Nat) (l3 : Nat) (l4 : Int32) (l5 : Int32) (l6 : Int32) (h : zH) : Option (Int32 × zH) :=
  b0_963 n r23 l0 l1 l2 l3 l4 h
set_option maxRecDepth 20000 in
theorem tb0_892 {d n : Nat} {Q : zRs → zH → Prop}  {r23 : Option Nat → Nat → Nat → Nat → Int32 → zH → Option (Int32 × zH)} {l0 : Option Nat} {l1 : Nat} {l2 : Nat} {l3 : Nat} {l4 : Int32} {l5 : Int32} {l6 : Int32}   (hd : 77 ≤ d)  (hr23 : ∀ {l0 : Option Nat} {l1 : Nat} {l2 : Nat} {l3 : Nat} {l4 : Int32}  {x5 : Option Value} {x6 : Option Value} {h : zH} {p : (Int32 × zH)}, zn2 x5 = true → zn2 x6 = true → r23 l0 l1 l2 l3 l4 h = some p → Q (eI p.1) p.2 → zW d 0 23 [some (va_rf l0), some (.ref l1), some (.ref l2), some (.ref l3), some (.int l4), x5, x6] [] h Q) {h : zH} {p : (Int32 × zH)}  (hF : b0_892 n  r23 l0 l1 l2 l3 l4 l5 l6 h = some p) (q : Q (eI p.1) p.2) : zW d 0 892 [some (va_rf l0), some (.ref l1), some (.ref l2), some (.ref l3), some (.int l4), some (.int l5), some (.int l6)] [] h Q := by
  unfold b0_892 at hF
  obtain ⟨d, rfl⟩ : ∃ e, d = e + 1 := ⟨d - 1, by omega⟩
  refine zx_goto rfl rfl ?_
  exact tb0_963 (l0 := l0) (l1 := l1) (l2 := l2) (l3 := l3) (l4 := l4) hd hr23 rfl rfl hF q
def b0_960 (n : Nat)  (r23 : Option Nat → Nat → Nat → Nat → Int32 → zH → Option (Int32 × zH)) (l0 : Option Nat) (l1 : Nat) (l2 : Nat) (l3 : Nat) (l4 : Int32) (l5 : Int32) (l6 : Int32) (h : zH) : Option (Int32 × zH) :=
  b0_963 n r23 l0 l1 l2 l3 l4 h
set_option maxRecDepth 20000 in
theorem tb0_960 {d n : Nat} {Q : zRs → zH → Prop}  {r23 : Option Nat → Nat → Nat → Nat → Int32 → zH → Option (Int32 × zH)} {l0 : Option Nat} {l1 : Nat} {l2 : Nat} {l3 : Nat} {l4 : Int32} {l5 : Int32} {l6 : Int32}   (hd : 77 ≤ d)  (hr23 : ∀ {l0 : Option Nat} {l1 : Nat} {l2 : Nat} {l3 : Nat} {l4 : Int32}  {x5 : Option Value} {x6 : Option Value} {h : zH} {p : (Int32 × zH)}, zn2 x5 = true → zn2 x6 = true → r23 l0 l1 l2 l3 l4 h = some p → Q (eI p.1) p.2 → zW d 0 23 [some (va_rf l0), some (.ref l1), some (.ref l2), some (.ref l3), some (.int l4), x5, x6] [] h Q) {h : zH} {p : (Int32 × zH)}  (hF : b0_960 n  r23 l0 l1 l2 l3 l4 l5 l6 h = some p) (q : Q (eI p.1) p.2) : zW d 0 960 [some (va_rf l0), some (.ref l1), some (.ref l2), some (.ref l3), some (.int l4), some (.int l5), some (.int l6)] [] h Q := by
  unfold b0_960 at hF
  obtain ⟨d, rfl⟩ : ∃ e, d = e + 1 := ⟨d - 1, by omega⟩
  refine zx_goto rfl rfl ?_
  exact tb0_963 (l0 := l0) (l1 := l1) (l2 := l2) (l3 := l3) (l4 := l4) hd hr23 rfl rfl hF q
def b0_23 (n : Nat)  (r23 : Option Nat → Nat → Nat → Nat → Int32 → zH → Option (Int32 × zH)) (l0 : Option Nat) (l1 : Nat) (l2 : Nat) (l3 : Nat) (l4 : Int32) (h : zH) : Option (Int32 × zH) :=
  l0.bind fun a1 =>
  (aN h a1).bind fun x2 =>
  if (x2 - 6) < l4 then
    some (1, h)
  else
    (aI h a1 l4).bind fun x5 =>
    if (x5 &&& 15) = 0 then
      (aI h a1 (l4 + 1)).bind fun x8 =>
      (aI h a1 (l4 + 2)).bind fun x10 =>
      (aI h a1 (l4 + 3)).bind fun x12 =>
      (aI h a1 (l4 + 4)).bind fun x14 =>
      (aI h a1 (l4 + 5)).bind fun x16 =>
      (f124 n (some l1) x8 x10 x12 x14 x16 (some l3) h).bind fun p19 =>
      (aI p19.2 a1 (l4 + 1)).bind fun x20 =>
      (aI p19.2 a1 (l4 + 2)).bind fun x22 =>
      (aI p19.2 a1 (l4 + 3)).bind fun x24 =>
      (aI p19.2 a1 (l4 + 4)).bind fun x26 =>
      (aI p19.2 a1 (l4 + 5)).bind fun x28 =>
      zgd (isO p19.2 l2 11) <|
      (f184 n l2 x20 x22 x24 x26 x28 p19.2).bind fun p32 =>
      zgd (isO p32.2 l2 11) <|
      (f183 n l2 p32.2).bind fun p35 =>
      if p35.1 = p19.1 then
        if p19.1 = 0 then
          (aJ p35.2 l3 0).bind fun x38 =>
          if (lg_cmp x38 p32.1.toInt64) = 0 then
            b0_221 n r23 (some a1) l1 l2 l3 l4 p19.1 p32.1 p35.2
          else
            some (0, p35.2)
        else
          b0_221 n r23 (some a1) l1 l2 l3 l4 p19.1 p32.1 p35.2
      else
        some (0, p35.2)
    else
    if (x5 &&& 15) = 1 then
      (aI h a1 (l4 + 1)).bind fun x42 =>
      (f127 n (some l1) x42 h).bind fun p45 =>
      (aI p45.2 a1 (l4 + 1)).bind fun x46 =>
      zgd (isO p45.2 l2 11) <|
      (f186 n l2 x46 p45.2).bind fun p50 =>
      zgd (isO p50.2 l2 11) <|
      (f183 n l2 p50.2).bind fun p53 =>
      if p53.1 = p45.1 then
        b0_963 n r23 (some a1) l1 l2 l3 l4 p53.2
      else
        some (0, p53.2)
    else
    if (x5 &&& 15) = 2 then
      zgd (isO h l1 10) <|
      (f9 n l1 h).bind fun p58 =>
      zgd (isO p58.2 l2 11) <|
      (f188 n l2 p58.2).bind fun p61 =>
      if p58.1 = p61.1 then
        b0_963 n r23 (some a1) l1 l2 l3 l4 p61.2
      else
        some (0, p61.2)
    else
    if (x5 &&& 15) = 3 then
      zgd (isO h l1 10) <|
      (f121 n l1 h).bind fun p66 =>
      zgd (isO p66.2 l2 11) <|
      (f241 n l2 p66.2).bind fun p69 =>
      if p66.1 = p69.1 then
        b0_963 n r23 (some a1) l1 l2 l3 l4 p69.2
      else
        some (0, p69.2)
    else
    if (x5 &&& 15) = 4 then
      (aI h a1 (l4 + 1)).bind fun x72 =>
      (f129 n (some l1) x72 (some l3) h).bind fun p75 =>
      (aI p75.2 a1 (l4 + 1)).bind fun x76 =>
      zgd (isO p75.2 l2 11) <|
      (f242 n l2 x76 p75.2).bind fun p80 =>
      zgd (isO p80.2 l2 11) <|
      (f183 n l2 p80.2).bind fun p83 =>
      if p83.1 = p75.1 then
        if p75.1 = 0 then
          (aJ p83.2 l3 0).bind fun x86 =>
          if (lg_cmp x86 p80.1.toInt64) = 0 then
            b0_339 n r23 (some a1) l1 l2 l3 l4 p75.1 p80.1 p83.2
          else
            some (0, p83.2)
        else
          b0_339 n r23 (some a1) l1 l2 l3 l4 p75.1 p80.1 p83.2
      else
        some (0, p83.2)
    else
    if (x5 &&& 15) = 5 then
      (f131 n (some l1) (some l3) h).bind fun p91 =>
      zgd (isO p91.2 l2 11) <|
      (f243 n l2 p91.2).bind fun p94 =>
      zgd (isO p94.2 l2 11) <|
      (f183 n l2 p94.2).bind fun p97 =>
      if p97.1 = p91.1 then
        if p91.1 = 0 then
          (aJ p97.2 l3 0).bind fun x100 =>
          if (lg_cmp x100 p94.1.toInt64) = 0 then
            b0_383 n r23 (some a1) l1 l2 l3 l4 p91.1 p94.1 p97.2
          else
            some (0, p97.2)
        else
          b0_383 n r23 (some a1) l1 l2 l3 l4 p91.1 p94.1 p97.2
      else
        some (0, p97.2)
    else
    if (x5 &&& 15) = 6 then
      zgd (isO h l1 10) <|
      (f122 n l1 h).bind fun p106 =>
      zgd (isO p106.2 l2 11) <|
      (f244 n l2 p106.2).bind fun p109 =>
      if p106.1 = p109.1 then
        b0_963 n r23 (some a1) l1 l2 l3 l4 p109.2
      else
        some (0, p109.2)
    else
    if (x5 &&& 15) = 7 then
      (aI h a1 (l4 + 1)).bind fun x112 =>
      (f136 n (some l1) x112 (some l3) h).bind fun p115 =>
      (aI p115.2 a1 (l4 + 1)).bind fun x116 =>
      zgd (isO p115.2 l2 11) <|
      (f245 n l2 x116 p115.2).bind fun p120 =>
      zgd (isO p120.2 l2 11) <|
      (f183 n l2 p120.2).bind fun p123 =>
      if p123.1 = p115.1 then
        if p115.1 = 0 then
          (aJ p123.2 l3 0).bind fun x126 =>
          if (lg_cmp x126 p120.1.toInt64) = 0 then
            b0_452 n r23 (some a1) l1 l2 l3 l4 p115.1 p120.1 p123.2
          else
            some (0, p123.2)
        else
          b0_452 n r23 (some a1) l1 l2 l3 l4 p115.1 p120.1 p123.2
      else
        some (0, p123.2)
    else
    if (x5 &&& 15) = 8 then
      (aI h a1 (l4 + 1)).bind fun x130 =>
      (aI h a1 (l4 + 2)).bind fun x132 =>
      (aI h a1 (l4 + 3)).bind fun x134 =>
      (f141 n (some l1) x130 x132 x134 (some l3) h).bind fun p137 =>
      (aI p137.2 a1 (l4 + 1)).bind fun x138 =>
      (aI p137.2 a1 (l4 + 2)).bind fun x140 =>
      (aI p137.2 a1 (l4 + 3)).bind fun x142 =>
      zgd (isO p137.2 l2 11) <|
      (f246 n l2 x138 x140 x142 p137.2).bind fun p146 =>
      zgd (isO p146.2 l2 11) <|
      (f183 n l2 p146.2).bind fun p149 =>
      if p149.1 = p137.1 then
        if p137.1 = 0 then
          (aJ p149.2 l3 0).bind fun x152 =>
          if (lg_cmp x152 p146.1.toInt64) = 0 then
            b0_532 n r23 (some a1) l1 l2 l3 l4 p137.1 p146.1 p149.2
          else
            some (0, p149.2)
        else
          b0_532 n r23 (some a1) l1 l2 l3 l4 p137.1 p146.1 p149.2
      else
        some (0, p149.2)
    else
    if (x5 &&& 15) = 9 then
      (aI h a1 (l4 + 1)).bind fun x156 =>
      (aI h a1 (l4 + 2)).bind fun x158 =>
      (f143 n (some l1) x156 x158 (some l3) h).bind fun p161 =>
      (aI p161.2 a1 (l4 + 1)).bind fun x162 =>
      (aI p161.2 a1 (l4 + 2)).bind fun x164 =>
      zgd (isO p161.2 l2 11) <|
      (f247 n l2 x162 x164 p161.2).bind fun p168 =>
      zgd (isO p168.2 l2 11) <|
      (f183 n l2 p168.2).bind fun p171 =>
      if p171.1 = p161.1 then
        if p161.1 = 0 then
          (aJ p171.2 l3 0).bind fun x174 =>
          if (lg_cmp x174 p168.1.toInt64) = 0 then
            b0_600 n r23 (some a1) l1 l2 l3 l4 p161.1 p168.1 p171.2
          else
            some (0, p171.2)
        else
          b0_600 n r23 (some a1) l1 l2 l3 l4 p161.1 p168.1 p171.2
      else
        some (0, p171.2)
    else
    if (x5 &&& 15) = 10 then
      (aI h a1 (l4 + 1)).bind fun x178 =>
      (aI h a1 (l4 + 2)).bind fun x180 =>
      (f146 n (some l1) x178 x180 (some l3) h).bind fun p183 =>
      (aI p183.2 a1 (l4 + 1)).bind fun x184 =>
      (aI p183.2 a1 (l4 + 2)).bind fun x186 =>
      zgd (isO p183.2 l2 11) <|
      (f250 n l2 x184 x186 p183.2).bind fun p190 =>
      zgd (isO p190.2 l2 11) <|
      (f183 n l2 p190.2).bind fun p193 =>
      if p193.1 = p183.1 then
        if p183.1 = 0 then
          (aJ p193.2 l3 0).bind fun x196 =>
          if (lg_cmp x196 p190.1.toInt64) = 0 then
            b0_668 n r23 (some a1) l1 l2 l3 l4 p183.1 p190.1 p193.2
          else
            some (0, p193.2)
        else
          b0_668 n r23 (some a1) l1 l2 l3 l4 p183.1 p190.1 p193.2
      else
        some (0, p193.2)
    else
    if (x5 &&& 15) = 11 then
      (aI h a1 (l4 + 1)).bind fun x200 =>
      (f171 n (some l1) x200 (some l3) h).bind fun p203 =>
      (aI p203.2 a1 (l4 + 1)).bind fun x204 =>
      zgd (isO p203.2 l2 11) <|
      (f266 n l2 x204 p203.2).bind fun p208 =>
      zgd (isO p208.2 l2 11) <|
      (f183 n l2 p208.2).bind fun p211 =>
      if p211.1 = p203.1 then
        if p203.1 = 0 then
          (aJ p211.2 l3 0).bind fun x214 =>
          if (lg_cmp x214 p208.1.toInt64) = 0 then
            b0_724 n r23 (some a1) l1 l2 l3 l4 p203.1 p208.1 p211.2
          else
            some (0, p211.2)
        else
          b0_724 n r23 (some a1) l1 l2 l3 l4 p203.1 p208.1 p211.2
      else
        some (0, p211.2)
    else
    if (x5 &&& 15) = 12 then
      (aI h a1 (l4 + 1)).bind fun x218 =>
      (f173 n (some l1) x218 (some l3) h).bind fun p221 =>
      (aI p221.2 a1 (l4 + 1)).bind fun x222 =>
      zgd (isO p221.2 l2 11) <|
      (f267 n l2 x222 p221.2).bind fun p226 =>
      zgd (isO p226.2 l2 11) <|
      (f183 n l2 p226.2).bind fun p229 =>
      if p229.1 = p221.1 then
        if p221.1 = 0 then
          (aJ p229.2 l3 0).bind fun x232 =>
          if (lg_cmp x232 p226.1.toInt64) = 0 then
            b0_780 n r23 (some a1) l1 l2 l3 l4 p221.1 p226.1 p229.2
          else
            some (0, p229.2)
        else
          b0_780 n r23 (some a1) l1 l2 l3 l4 p221.1 p226.1 p229.2
      else
        some (0, p229.2)
    else
    if (x5 &&& 15) = 13 then
      (aI h a1 (l4 + 1)).bind fun x236 =>
      (f175 n (some l1) x236 (some l3) h).bind fun p239 =>
      (aI p239.2 a1 (l4 + 1)).bind fun x240 =>
      zgd (isO p239.2 l2 11) <|
      (f268 n l2 x240 p239.2).bind fun p244 =>
      zgd (isO p244.2 l2 11) <|
      (f183 n l2 p244.2).bind fun p247 =>
      if p247.1 = p239.1 then
        if p239.1 = 0 then
          (aJ p247.2 l3 0).bind fun x250 =>
          if (lg_cmp x250 p244.1.toInt64) = 0 then
            b0_836 n r23 (some a1) l1 l2 l3 l4 p239.1 p244.1 p247.2
          else
            some (0, p247.2)
        else
          b0_836 n r23 (some a1) l1 l2 l3 l4 p239.1 p244.1 p247.2
      else
        some (0, p247.2)
    else
    if (x5 &&& 15) = 14 then
      (aI h a1 (l4 + 1)).bind fun x254 =>
      (f177 n (some l1) x254 (some l3) h).bind fun p257 =>
      (aI p257.2 a1 (l4 + 1)).bind fun x258 =>
      zgd (isO p257.2 l2 11) <|
      (f269 n l2 x258 p257.2).bind fun p262 =>
      zgd (isO p262.2 l2 11) <|
      (f183 n l2 p262.2).bind fun p265 =>
      if p265.1 = p257.1 then
        if p257.1 = 0 then
          (aJ p265.2 l3 0).bind fun x268 =>
          if (lg_cmp x268 p262.1.toInt64) = 0 then
            b0_892 n r23 (some a1) l1 l2 l3 l4 p257.1 p262.1 p265.2
          else
            some (0, p265.2)
        else
          b0_892 n r23 (some a1) l1 l2 l3 l4 p257.1 p262.1 p265.2
      else
        some (0, p265.2)
    else
    if (x5 &&& 15) = 15 then
      (aI h a1 (l4 + 1)).bind fun x272 =>
      (aI h a1 (l4 + 2)).bind fun x274 =>
      (f179 n (some l1) x272 x274 (some l3) h).bind fun p277 =>
      (aI p277.2 a1 (l4 + 1)).bind fun x278 =>
      (aI p277.2 a1 (l4 + 2)).bind fun x280 =>
      zgd (isO p277.2 l2 11) <|
      (f270 n l2 x278 x280 p277.2).bind fun p284 =>
      zgd (isO p284.2 l2 11) <|
      (f183 n l2 p284.2).bind fun p287 =>
      if p287.1 = p277.1 then
        if p277.1 = 0 then
          (aJ p287.2 l3 0).bind fun x290 =>
          if (lg_cmp x290 p284.1.toInt64) = 0 then
            b0_960 n r23 (some a1) l1 l2 l3 l4 p277.1 p284.1 p287.2
          else
            some (0, p287.2)
        else
          b0_960 n r23 (some a1) l1 l2 l3 l4 p277.1 p284.1 p287.2
      else
        some (0, p287.2)
    else
    b0_963 n r23 (some a1) l1 l2 l3 l4 h
set_option maxRecDepth 20000 in
theorem tb0_23 {d n : Nat} {Q : zRs → zH → Prop}  {r23 : Option Nat → Nat → Nat → Nat → Int32 → zH → Option (Int32 × zH)} {l0 : Option Nat} {l1 : Nat} {l2 : Nat} {l3 : Nat} {l4 : Int32}  {x5 : Option Value} {x6 : Option Value} (hd : 77 ≤ d)  (hr23 : ∀ {l0 : Option Nat} {l1 : Nat} {l2 : Nat} {l3 : Nat} {l4 : Int32}  {x5 : Option Value} {x6 : Option Value} {h : zH} {p : (Int32 × zH)}, zn2 x5 = true → zn2 x6 = true → r23 l0 l1 l2 l3 l4 h = some p → Q (eI p.1) p.2 → zW d 0 23 [some (va_rf l0), some (.ref l1), some (.ref l2), some (.ref l3), some (.int l4), x5, x6] [] h Q) {h : zH} {p : (Int32 × zH)} (hx5 : zn2 x5 = true) (hx6 : zn2 x6 = true) (hF : b0_23 n  r23 l0 l1 l2 l3 l4 h = some p) (q : Q (eI p.1) p.2) : zW d 0 23 [some (va_rf l0), some (.ref l1), some (.ref l2), some (.ref l3), some (.int l4), x5, x6] [] h Q := by
  unfold b0_23 at hF
  obtain ⟨d, rfl⟩ : ∃ e, d = e + 1 := ⟨d - 1, by omega⟩
  refine zx_iload rfl rfl rfl ?_
  refine zy_rload_n rfl rfl rfl ?_
  replace hF := zbnd hF
  obtain ⟨a1, rfl, hF⟩ := hF
  replace hF := zbnd hF
  obtain ⟨x2, e3, hF⟩ := hF
  refine zy_alen rfl rfl e3 ?_
  refine zx_bipush (v := 6) rfl rfl rfl ?_
  refine zx_isub rfl rfl ?_
  refine zx_ic_gt rfl rfl (fun c4 => ?_) (fun c4 => ?_)
  · rw [if_pos c4] at hF
    refine zx_iconst (v := 1) rfl rfl rfl ?_
    replace hF := Option.some.inj hF
    subst hF
    exact zx_bret rfl rfl rfl rfl q
  · rw [if_neg c4] at hF
    refine zx_aload_n rfl rfl rfl ?_
    refine zx_iload rfl rfl rfl ?_
    replace hF := zbnd hF
    obtain ⟨x5, e6, hF⟩ := hF
    refine zy_aI rfl rfl e6 ?_
    refine zx_bipush (v := 15) rfl rfl rfl ?_
    refine zx_iand rfl rfl ?_
    by_cases c7 : (x5 &&& 15) = 0
    · rw [if_pos c7] at hF
      refine zw_switch rfl rfl (t := 120) (by rw [c7]; rfl) ?_
      refine zx_aload_n rfl rfl rfl ?_
      refine zx_aload_n rfl rfl rfl ?_
      refine zx_iload rfl rfl rfl ?_
      refine zx_iconst (v := 1) rfl rfl rfl ?_
      refine zx_iadd rfl rfl ?_
      replace hF := zbnd hF
      obtain ⟨x8, e9, hF⟩ := hF
      refine zy_aI rfl rfl e9 ?_
      refine zx_aload_n rfl rfl rfl ?_
      refine zx_iload rfl rfl rfl ?_
      refine zx_iconst (v := 2) rfl rfl rfl ?_
      refine zx_iadd rfl rfl ?_
      replace hF := zbnd hF
      obtain ⟨x10, e11, hF⟩ := hF
      refine zy_aI rfl rfl e11 ?_
      refine zx_aload_n rfl rfl rfl ?_
      refine zx_iload rfl rfl rfl ?_
      refine zx_iconst (v := 3) rfl rfl rfl ?_
      refine zx_iadd rfl rfl ?_
      replace hF := zbnd hF
      obtain ⟨x12, e13, hF⟩ := hF
      refine zy_aI rfl rfl e13 ?_
      refine zx_aload_n rfl rfl rfl ?_
      refine zx_iload rfl rfl rfl ?_
      refine zx_iconst (v := 4) rfl rfl rfl ?_
      refine zx_iadd rfl rfl ?_
      replace hF := zbnd hF
      obtain ⟨x14, e15, hF⟩ := hF
      refine zy_aI rfl rfl e15 ?_
      refine zx_aload_n rfl rfl rfl ?_
      refine zx_iload rfl rfl rfl ?_
      refine zx_iconst (v := 5) rfl rfl rfl ?_
      refine zx_iadd rfl rfl ?_
      replace hF := zbnd hF
      obtain ⟨x16, e17, hF⟩ := hF
      refine zy_aI rfl rfl e17 ?_
      refine zx_aload_n rfl rfl rfl ?_
      replace hF := zbnd hF
      obtain ⟨p19, e18, hF⟩ := hF
      refine zx_callE rfl rfl rfl rfl rfl rfl rfl (zc4 (Nat.le_of_ble_eq_true rfl)) (t124 (by omega) e18 (zaI ?_))
      refine zx_istore rfl rfl rfl ?_
      refine zx_aload_n rfl rfl rfl ?_
      refine zx_aload_n rfl rfl rfl ?_
      refine zx_iload rfl rfl rfl ?_
      refine zx_iconst (v := 1) rfl rfl rfl ?_
      refine zx_iadd rfl rfl ?_
      replace hF := zbnd hF
      obtain ⟨x20, e21, hF⟩ := hF
      refine zy_aI rfl rfl e21 ?_
      refine zx_aload_n rfl rfl rfl ?_
      refine zx_iload rfl rfl rfl ?_
      refine zx_iconst (v := 2) rfl rfl rfl ?_
      refine zx_iadd rfl rfl ?_
      replace hF := zbnd hF
      obtain ⟨x22, e23, hF⟩ := hF
      refine zy_aI rfl rfl e23 ?_
      refine zx_aload_n rfl rfl rfl ?_
      refine zx_iload rfl rfl rfl ?_
      refine zx_iconst (v := 3) rfl rfl rfl ?_
      refine zx_iadd rfl rfl ?_
      replace hF := zbnd hF
      obtain ⟨x24, e25, hF⟩ := hF
      refine zy_aI rfl rfl e25 ?_
      refine zx_aload_n rfl rfl rfl ?_
      refine zx_iload rfl rfl rfl ?_
      refine zx_iconst (v := 4) rfl rfl rfl ?_
      refine zx_iadd rfl rfl ?_
      replace hF := zbnd hF
      obtain ⟨x26, e27, hF⟩ := hF
      refine zy_aI rfl rfl e27 ?_
      refine zx_aload_n rfl rfl rfl ?_
      refine zx_iload rfl rfl rfl ?_
      refine zx_iconst (v := 5) rfl rfl rfl ?_
      refine zx_iadd rfl rfl ?_
      replace hF := zbnd hF
      obtain ⟨x28, e29, hF⟩ := hF
      refine zy_aI rfl rfl e29 ?_
      replace hF := zgd_some hF
      obtain ⟨g30, hF⟩ := hF
      replace hF := zbnd hF
      obtain ⟨p32, e31, hF⟩ := hF
      refine zx_callE rfl rfl rfl rfl (zrcv_isO g30) rfl rfl (zc4 (Nat.le_of_ble_eq_true rfl)) (t184 (by omega) e31 (zaI ?_))
      refine zx_istore rfl rfl rfl ?_
      refine zx_aload_n rfl rfl rfl ?_
      replace hF := zgd_some hF
      obtain ⟨g33, hF⟩ := hF
      replace hF := zbnd hF
      obtain ⟨p35, e34, hF⟩ := hF
      refine zx_callE rfl rfl rfl rfl (zrcv_isO g33) rfl rfl (zc4 (Nat.le_of_ble_eq_true rfl)) (t183 (by omega) e34 (zaI ?_))
      refine zx_iload rfl rfl rfl ?_
      refine zx_ic_eq rfl rfl (fun c36 => ?_) (fun c36 => ?_)
      · rw [if_pos c36] at hF
        refine zx_iload rfl rfl rfl ?_
        refine zx_if_ne rfl rfl (fun c37 => ?_) (fun c37 => ?_)
        · rw [if_neg c37] at hF
          exact tb0_221 (l0 := (some a1)) (l1 := l1) (l2 := l2) (l3 := l3) (l4 := l4) (l5 := p19.1) (l6 := p32.1) hd hr23  hF q
        · rw [if_pos c37] at hF
          refine zx_aload_n rfl rfl rfl ?_
          refine zx_iconst (v := 0) rfl rfl rfl ?_
          replace hF := zbnd hF
          obtain ⟨x38, e39, hF⟩ := hF
          refine zy_aJ rfl rfl e39 ?_
          refine zx_iload rfl rfl rfl ?_
          refine zx_i2l rfl rfl ?_
          refine zx_lcmp rfl rfl ?_
          refine zx_if_eq rfl rfl (fun c40 => ?_) (fun c40 => ?_)
          · rw [if_pos c40] at hF
            exact tb0_221 (l0 := (some a1)) (l1 := l1) (l2 := l2) (l3 := l3) (l4 := l4) (l5 := p19.1) (l6 := p32.1) hd hr23  hF q
          · rw [if_neg c40] at hF
            refine zx_iconst (v := 0) rfl rfl rfl ?_
            replace hF := Option.some.inj hF
            subst hF
            exact zx_bret rfl rfl rfl rfl q
      · rw [if_neg c36] at hF
        refine zx_iconst (v := 0) rfl rfl rfl ?_
        replace hF := Option.some.inj hF
        subst hF
        exact zx_bret rfl rfl rfl rfl q
    rw [if_neg c7] at hF
    by_cases c41 : (x5 &&& 15) = 1
    · rw [if_pos c41] at hF
      refine zw_switch rfl rfl (t := 224) (by rw [c41]; rfl) ?_
      refine zx_aload_n rfl rfl rfl ?_
      refine zx_aload_n rfl rfl rfl ?_
      refine zx_iload rfl rfl rfl ?_
      refine zx_iconst (v := 1) rfl rfl rfl ?_
      refine zx_iadd rfl rfl ?_
      replace hF := zbnd hF
      obtain ⟨x42, e43, hF⟩ := hF
      refine zy_aI rfl rfl e43 ?_
      replace hF := zbnd hF
      obtain ⟨p45, e44, hF⟩ := hF
      refine zx_callE rfl rfl rfl rfl rfl rfl rfl (zc4 (Nat.le_of_ble_eq_true rfl)) (t127 (by omega) e44 (zaI ?_))
      refine zx_istore rfl rfl rfl ?_
      refine zx_aload_n rfl rfl rfl ?_
      refine zx_aload_n rfl rfl rfl ?_
      refine zx_iload rfl rfl rfl ?_
      refine zx_iconst (v := 1) rfl rfl rfl ?_
      refine zx_iadd rfl rfl ?_
      replace hF := zbnd hF
      obtain ⟨x46, e47, hF⟩ := hF
      refine zy_aI rfl rfl e47 ?_
      replace hF := zgd_some hF
      obtain ⟨g48, hF⟩ := hF
      replace hF := zbnd hF
      obtain ⟨p50, e49, hF⟩ := hF
      refine zx_callE rfl rfl rfl rfl (zrcv_isO g48) rfl rfl (zc4 (Nat.le_of_ble_eq_true rfl)) (t186 (by omega) e49 (zaV ?_))
      refine zx_aload_n rfl rfl rfl ?_
      replace hF := zgd_some hF
      obtain ⟨g51, hF⟩ := hF
      replace hF := zbnd hF
      obtain ⟨p53, e52, hF⟩ := hF
      refine zx_callE rfl rfl rfl rfl (zrcv_isO g51) rfl rfl (zc4 (Nat.le_of_ble_eq_true rfl)) (t183 (by omega) e52 (zaI ?_))
      refine zx_iload rfl rfl rfl ?_
      refine zx_ic_eq rfl rfl (fun c54 => ?_) (fun c54 => ?_)
      · rw [if_pos c54] at hF
        refine zx_goto rfl rfl ?_
        exact tb0_963 (l0 := (some a1)) (l1 := l1) (l2 := l2) (l3 := l3) (l4 := l4) hd hr23 rfl hx6 hF q
      · rw [if_neg c54] at hF
        refine zx_iconst (v := 0) rfl rfl rfl ?_
        replace hF := Option.some.inj hF
        subst hF
        exact zx_bret rfl rfl rfl rfl q
    rw [if_neg c41] at hF
    by_cases c55 : (x5 &&& 15) = 2
    · rw [if_pos c55] at hF
      refine zw_switch rfl rfl (t := 260) (by rw [c55]; rfl) ?_
      refine zx_aload_n rfl rfl rfl ?_
      replace hF := zgd_some hF
      obtain ⟨g56, hF⟩ := hF
      replace hF := zbnd hF
      obtain ⟨p58, e57, hF⟩ := hF
      refine zx_callE rfl rfl rfl rfl (zrcv_isO g56) rfl rfl (zc4 (Nat.le_of_ble_eq_true rfl)) (t9 (by omega) e57 (zaI ?_))
      refine zx_aload_n rfl rfl rfl ?_
      replace hF := zgd_some hF
      obtain ⟨g59, hF⟩ := hF
      replace hF := zbnd hF
      obtain ⟨p61, e60, hF⟩ := hF
      refine zx_callE rfl rfl rfl rfl (zrcv_isO g59) rfl rfl (zc4 (Nat.le_of_ble_eq_true rfl)) (t188 (by omega) e60 (zaI ?_))
      refine zx_ic_eq rfl rfl (fun c62 => ?_) (fun c62 => ?_)
      · rw [if_pos c62] at hF
        exact tb0_963 (l0 := (some a1)) (l1 := l1) (l2 := l2) (l3 := l3) (l4 := l4) hd hr23 hx5 hx6 hF q
      · rw [if_neg c62] at hF
        refine zx_iconst (v := 0) rfl rfl rfl ?_
        replace hF := Option.some.inj hF
        subst hF
        exact zx_bret rfl rfl rfl rfl q
    rw [if_neg c55] at hF
    by_cases c63 : (x5 &&& 15) = 3
    · rw [if_pos c63] at hF
      refine zw_switch rfl rfl (t := 273) (by rw [c63]; rfl) ?_
      refine zx_aload_n rfl rfl rfl ?_
      replace hF := zgd_some hF
      obtain ⟨g64, hF⟩ := hF
      replace hF := zbnd hF
      obtain ⟨p66, e65, hF⟩ := hF
      refine zx_callE rfl rfl rfl rfl (zrcv_isO g64) rfl rfl (zc4 (Nat.le_of_ble_eq_true rfl)) (t121 (by omega) e65 (zaI ?_))
      refine zx_aload_n rfl rfl rfl ?_
      replace hF := zgd_some hF
      obtain ⟨g67, hF⟩ := hF
      replace hF := zbnd hF
      obtain ⟨p69, e68, hF⟩ := hF
      refine zx_callE rfl rfl rfl rfl (zrcv_isO g67) rfl rfl (zc4 (Nat.le_of_ble_eq_true rfl)) (t241 (by omega) e68 (zaI ?_))
      refine zx_ic_eq rfl rfl (fun c70 => ?_) (fun c70 => ?_)
      · rw [if_pos c70] at hF
        exact tb0_963 (l0 := (some a1)) (l1 := l1) (l2 := l2) (l3 := l3) (l4 := l4) hd hr23 hx5 hx6 hF q
      · rw [if_neg c70] at hF
        refine zx_iconst (v := 0) rfl rfl rfl ?_
        replace hF := Option.some.inj hF
        subst hF
        exact zx_bret rfl rfl rfl rfl q
    rw [if_neg c63] at hF
    by_cases c71 : (x5 &&& 15) = 4
    · rw [if_pos c71] at hF
      refine zw_switch rfl rfl (t := 286) (by rw [c71]; rfl) ?_
      refine zx_aload_n rfl rfl rfl ?_
      refine zx_aload_n rfl rfl rfl ?_
      refine zx_iload rfl rfl rfl ?_
      refine zx_iconst (v := 1) rfl rfl rfl ?_
      refine zx_iadd rfl rfl ?_
      replace hF := zbnd hF
      obtain ⟨x72, e73, hF⟩ := hF
      refine zy_aI rfl rfl e73 ?_
      refine zx_aload_n rfl rfl rfl ?_
      replace hF := zbnd hF
      obtain ⟨p75, e74, hF⟩ := hF
      refine zx_callE rfl rfl rfl rfl rfl rfl rfl (zc4 (Nat.le_of_ble_eq_true rfl)) (t129 (by omega) e74 (zaI ?_))
      refine zx_istore rfl rfl rfl ?_
      refine zx_aload_n rfl rfl rfl ?_
      refine zx_aload_n rfl rfl rfl ?_
      refine zx_iload rfl rfl rfl ?_
      refine zx_iconst (v := 1) rfl rfl rfl ?_
      refine zx_iadd rfl rfl ?_
      replace hF := zbnd hF
      obtain ⟨x76, e77, hF⟩ := hF
      refine zy_aI rfl rfl e77 ?_
      replace hF := zgd_some hF
      obtain ⟨g78, hF⟩ := hF
      replace hF := zbnd hF
      obtain ⟨p80, e79, hF⟩ := hF
      refine zx_callE rfl rfl rfl rfl (zrcv_isO g78) rfl rfl (zc4 (Nat.le_of_ble_eq_true rfl)) (t242 (by omega) e79 (zaI ?_))
      refine zx_istore rfl rfl rfl ?_
      refine zx_aload_n rfl rfl rfl ?_
      replace hF := zgd_some hF
      obtain ⟨g81, hF⟩ := hF
      replace hF := zbnd hF
      obtain ⟨p83, e82, hF⟩ := hF
      refine zx_callE rfl rfl rfl rfl (zrcv_isO g81) rfl rfl (zc4 (Nat.le_of_ble_eq_true rfl)) (t183 (by omega) e82 (zaI ?_))
      refine zx_iload rfl rfl rfl ?_
      refine zx_ic_eq rfl rfl (fun c84 => ?_) (fun c84 => ?_)
      · rw [if_pos c84] at hF
        refine zx_iload rfl rfl rfl ?_
        refine zx_if_ne rfl rfl (fun c85 => ?_) (fun c85 => ?_)
        · rw [if_neg c85] at hF
          exact tb0_339 (l0 := (some a1)) (l1 := l1) (l2 := l2) (l3 := l3) (l4 := l4) (l5 := p75.1) (l6 := p80.1) hd hr23  hF q
        · rw [if_pos c85] at hF
          refine zx_aload_n rfl rfl rfl ?_
          refine zx_iconst (v := 0) rfl rfl rfl ?_
          replace hF := zbnd hF
          obtain ⟨x86, e87, hF⟩ := hF
          refine zy_aJ rfl rfl e87 ?_
          refine zx_iload rfl rfl rfl ?_
          refine zx_i2l rfl rfl ?_
          refine zx_lcmp rfl rfl ?_
          refine zx_if_eq rfl rfl (fun c88 => ?_) (fun c88 => ?_)
          · rw [if_pos c88] at hF
            exact tb0_339 (l0 := (some a1)) (l1 := l1) (l2 := l2) (l3 := l3) (l4 := l4) (l5 := p75.1) (l6 := p80.1) hd hr23  hF q
          · rw [if_neg c88] at hF
            refine zx_iconst (v := 0) rfl rfl rfl ?_
            replace hF := Option.some.inj hF
            subst hF
            exact zx_bret rfl rfl rfl rfl q
      · rw [if_neg c84] at hF
        refine zx_iconst (v := 0) rfl rfl rfl ?_
        replace hF := Option.some.inj hF
        subst hF
        exact zx_bret rfl rfl rfl rfl q
    rw [if_neg c71] at hF
    by_cases c89 : (x5 &&& 15) = 5
    · rw [if_pos c89] at hF
      refine zw_switch rfl rfl (t := 342) (by rw [c89]; rfl) ?_
      refine zx_aload_n rfl rfl rfl ?_
      refine zx_aload_n rfl rfl rfl ?_
      replace hF := zbnd hF
      obtain ⟨p91, e90, hF⟩ := hF
      refine zx_callE rfl rfl rfl rfl rfl rfl rfl (zc4 (Nat.le_of_ble_eq_true rfl)) (t131 (by omega) e90 (zaI ?_))
      refine zx_istore rfl rfl rfl ?_
      refine zx_aload_n rfl rfl rfl ?_
      replace hF := zgd_some hF
      obtain ⟨g92, hF⟩ := hF
      replace hF := zbnd hF
      obtain ⟨p94, e93, hF⟩ := hF
      refine zx_callE rfl rfl rfl rfl (zrcv_isO g92) rfl rfl (zc4 (Nat.le_of_ble_eq_true rfl)) (t243 (by omega) e93 (zaI ?_))
      refine zx_istore rfl rfl rfl ?_
      refine zx_aload_n rfl rfl rfl ?_
      replace hF := zgd_some hF
      obtain ⟨g95, hF⟩ := hF
      replace hF := zbnd hF
      obtain ⟨p97, e96, hF⟩ := hF
      refine zx_callE rfl rfl rfl rfl (zrcv_isO g95) rfl rfl (zc4 (Nat.le_of_ble_eq_true rfl)) (t183 (by omega) e96 (zaI ?_))
      refine zx_iload rfl rfl rfl ?_
      refine zx_ic_eq rfl rfl (fun c98 => ?_) (fun c98 => ?_)
      · rw [if_pos c98] at hF
        refine zx_iload rfl rfl rfl ?_
        refine zx_if_ne rfl rfl (fun c99 => ?_) (fun c99 => ?_)
        · rw [if_neg c99] at hF
          exact tb0_383 (l0 := (some a1)) (l1 := l1) (l2 := l2) (l3 := l3) (l4 := l4) (l5 := p91.1) (l6 := p94.1) hd hr23  hF q
        · rw [if_pos c99] at hF
          refine zx_aload_n rfl rfl rfl ?_
          refine zx_iconst (v := 0) rfl rfl rfl ?_
          replace hF := zbnd hF
          obtain ⟨x100, e101, hF⟩ := hF
          refine zy_aJ rfl rfl e101 ?_
          refine zx_iload rfl rfl rfl ?_
          refine zx_i2l rfl rfl ?_
          refine zx_lcmp rfl rfl ?_
          refine zx_if_eq rfl rfl (fun c102 => ?_) (fun c102 => ?_)
          · rw [if_pos c102] at hF
            exact tb0_383 (l0 := (some a1)) (l1 := l1) (l2 := l2) (l3 := l3) (l4 := l4) (l5 := p91.1) (l6 := p94.1) hd hr23  hF q
          · rw [if_neg c102] at hF
            refine zx_iconst (v := 0) rfl rfl rfl ?_
            replace hF := Option.some.inj hF
            subst hF
            exact zx_bret rfl rfl rfl rfl q
      · rw [if_neg c98] at hF
        refine zx_iconst (v := 0) rfl rfl rfl ?_
        replace hF := Option.some.inj hF
        subst hF
        exact zx_bret rfl rfl rfl rfl q
    rw [if_neg c89] at hF
    by_cases c103 : (x5 &&& 15) = 6
    · rw [if_pos c103] at hF
      refine zw_switch rfl rfl (t := 386) (by rw [c103]; rfl) ?_
      refine zx_aload_n rfl rfl rfl ?_
      replace hF := zgd_some hF
      obtain ⟨g104, hF⟩ := hF
      replace hF := zbnd hF
      obtain ⟨p106, e105, hF⟩ := hF
      refine zx_callE rfl rfl rfl rfl (zrcv_isO g104) rfl rfl (zc4 (Nat.le_of_ble_eq_true rfl)) (t122 (by omega) e105 (zaI ?_))
      refine zx_aload_n rfl rfl rfl ?_
      replace hF := zgd_some hF
      obtain ⟨g107, hF⟩ := hF
      replace hF := zbnd hF
      obtain ⟨p109, e108, hF⟩ := hF
      refine zx_callE rfl rfl rfl rfl (zrcv_isO g107) rfl rfl (zc4 (Nat.le_of_ble_eq_true rfl)) (t244 (by omega) e108 (zaI ?_))
      refine zx_ic_eq rfl rfl (fun c110 => ?_) (fun c110 => ?_)
      · rw [if_pos c110] at hF
        exact tb0_963 (l0 := (some a1)) (l1 := l1) (l2 := l2) (l3 := l3) (l4 := l4) hd hr23 hx5 hx6 hF q
      · rw [if_neg c110] at hF
        refine zx_iconst (v := 0) rfl rfl rfl ?_
        replace hF := Option.some.inj hF
        subst hF
        exact zx_bret rfl rfl rfl rfl q
    rw [if_neg c103] at hF
    by_cases c111 : (x5 &&& 15) = 7
    · rw [if_pos c111] at hF
      refine zw_switch rfl rfl (t := 399) (by rw [c111]; rfl) ?_
      refine zx_aload_n rfl rfl rfl ?_
      refine zx_aload_n rfl rfl rfl ?_
      refine zx_iload rfl rfl rfl ?_
      refine zx_iconst (v := 1) rfl rfl rfl ?_
      refine zx_iadd rfl rfl ?_
      replace hF := zbnd hF
      obtain ⟨x112, e113, hF⟩ := hF
      refine zy_aI rfl rfl e113 ?_
      refine zx_aload_n rfl rfl rfl ?_
      replace hF := zbnd hF
      obtain ⟨p115, e114, hF⟩ := hF
      refine zx_callE rfl rfl rfl rfl rfl rfl rfl (zc4 (Nat.le_of_ble_eq_true rfl)) (t136 (by omega) e114 (zaI ?_))
      refine zx_istore rfl rfl rfl ?_
      refine zx_aload_n rfl rfl rfl ?_
      refine zx_aload_n rfl rfl rfl ?_
      refine zx_iload rfl rfl rfl ?_
      refine zx_iconst (v := 1) rfl rfl rfl ?_
      refine zx_iadd rfl rfl ?_
      replace hF := zbnd hF
      obtain ⟨x116, e117, hF⟩ := hF
      refine zy_aI rfl rfl e117 ?_
      replace hF := zgd_some hF
      obtain ⟨g118, hF⟩ := hF
      replace hF := zbnd hF
      obtain ⟨p120, e119, hF⟩ := hF
      refine zx_callE rfl rfl rfl rfl (zrcv_isO g118) rfl rfl (zc4 (Nat.le_of_ble_eq_true rfl)) (t245 (by omega) e119 (zaI ?_))
      refine zx_istore rfl rfl rfl ?_
      refine zx_aload_n rfl rfl rfl ?_
      replace hF := zgd_some hF
      obtain ⟨g121, hF⟩ := hF
      replace hF := zbnd hF
      obtain ⟨p123, e122, hF⟩ := hF
      refine zx_callE rfl rfl rfl rfl (zrcv_isO g121) rfl rfl (zc4 (Nat.le_of_ble_eq_true rfl)) (t183 (by omega) e122 (zaI ?_))
      refine zx_iload rfl rfl rfl ?_
      refine zx_ic_eq rfl rfl (fun c124 => ?_) (fun c124 => ?_)
      · rw [if_pos c124] at hF
        refine zx_iload rfl rfl rfl ?_
        refine zx_if_ne rfl rfl (fun c125 => ?_) (fun c125 => ?_)
        · rw [if_neg c125] at hF
          exact tb0_452 (l0 := (some a1)) (l1 := l1) (l2 := l2) (l3 := l3) (l4 := l4) (l5 := p115.1) (l6 := p120.1) hd hr23  hF q
        · rw [if_pos c125] at hF
          refine zx_aload_n rfl rfl rfl ?_
          refine zx_iconst (v := 0) rfl rfl rfl ?_
          replace hF := zbnd hF
          obtain ⟨x126, e127, hF⟩ := hF
          refine zy_aJ rfl rfl e127 ?_
          refine zx_iload rfl rfl rfl ?_
          refine zx_i2l rfl rfl ?_
          refine zx_lcmp rfl rfl ?_
          refine zx_if_eq rfl rfl (fun c128 => ?_) (fun c128 => ?_)
          · rw [if_pos c128] at hF
            exact tb0_452 (l0 := (some a1)) (l1 := l1) (l2 := l2) (l3 := l3) (l4 := l4) (l5 := p115.1) (l6 := p120.1) hd hr23  hF q
          · rw [if_neg c128] at hF
            refine zx_iconst (v := 0) rfl rfl rfl ?_
            replace hF := Option.some.inj hF
            subst hF
            exact zx_bret rfl rfl rfl rfl q
      · rw [if_neg c124] at hF
        refine zx_iconst (v := 0) rfl rfl rfl ?_
        replace hF := Option.some.inj hF
        subst hF
        exact zx_bret rfl rfl rfl rfl q
    rw [if_neg c111] at hF
    by_cases c129 : (x5 &&& 15) = 8
    · rw [if_pos c129] at hF
      refine zw_switch rfl rfl (t := 455) (by rw [c129]; rfl) ?_
      refine zx_aload_n rfl rfl rfl ?_
      refine zx_aload_n rfl rfl rfl ?_
      refine zx_iload rfl rfl rfl ?_
      refine zx_iconst (v := 1) rfl rfl rfl ?_
      refine zx_iadd rfl rfl ?_
      replace hF := zbnd hF
      obtain ⟨x130, e131, hF⟩ := hF
      refine zy_aI rfl rfl e131 ?_
      refine zx_aload_n rfl rfl rfl ?_
      refine zx_iload rfl rfl rfl ?_
      refine zx_iconst (v := 2) rfl rfl rfl ?_
      refine zx_iadd rfl rfl ?_
      replace hF := zbnd hF
      obtain ⟨x132, e133, hF⟩ := hF
      refine zy_aI rfl rfl e133 ?_
      refine zx_aload_n rfl rfl rfl ?_
      refine zx_iload rfl rfl rfl ?_
      refine zx_iconst (v := 3) rfl rfl rfl ?_
      refine zx_iadd rfl rfl ?_
      replace hF := zbnd hF
      obtain ⟨x134, e135, hF⟩ := hF
      refine zy_aI rfl rfl e135 ?_
      refine zx_aload_n rfl rfl rfl ?_
      replace hF := zbnd hF
      obtain ⟨p137, e136, hF⟩ := hF
      refine zx_callE rfl rfl rfl rfl rfl rfl rfl (zc4 (Nat.le_of_ble_eq_true rfl)) (t141 (by omega) e136 (zaI ?_))
      refine zx_istore rfl rfl rfl ?_
      refine zx_aload_n rfl rfl rfl ?_
      refine zx_aload_n rfl rfl rfl ?_
      refine zx_iload rfl rfl rfl ?_
      refine zx_iconst (v := 1) rfl rfl rfl ?_
      refine zx_iadd rfl rfl ?_
      replace hF := zbnd hF
      obtain ⟨x138, e139, hF⟩ := hF
      refine zy_aI rfl rfl e139 ?_
      refine zx_aload_n rfl rfl rfl ?_
      refine zx_iload rfl rfl rfl ?_
      refine zx_iconst (v := 2) rfl rfl rfl ?_
      refine zx_iadd rfl rfl ?_
      replace hF := zbnd hF
      obtain ⟨x140, e141, hF⟩ := hF
      refine zy_aI rfl rfl e141 ?_
      refine zx_aload_n rfl rfl rfl ?_
      refine zx_iload rfl rfl rfl ?_
      refine zx_iconst (v := 3) rfl rfl rfl ?_
      refine zx_iadd rfl rfl ?_
      replace hF := zbnd hF
      obtain ⟨x142, e143, hF⟩ := hF
      refine zy_aI rfl rfl e143 ?_
      replace hF := zgd_some hF
      obtain ⟨g144, hF⟩ := hF
      replace hF := zbnd hF
      obtain ⟨p146, e145, hF⟩ := hF
      refine zx_callE rfl rfl rfl rfl (zrcv_isO g144) rfl rfl (zc4 (Nat.le_of_ble_eq_true rfl)) (t246 (by omega) e145 (zaI ?_))
      refine zx_istore rfl rfl rfl ?_
      refine zx_aload_n rfl rfl rfl ?_
      replace hF := zgd_some hF
      obtain ⟨g147, hF⟩ := hF
      replace hF := zbnd hF
      obtain ⟨p149, e148, hF⟩ := hF
      refine zx_callE rfl rfl rfl rfl (zrcv_isO g147) rfl rfl (zc4 (Nat.le_of_ble_eq_true rfl)) (t183 (by omega) e148 (zaI ?_))
      refine zx_iload rfl rfl rfl ?_
      refine zx_ic_eq rfl rfl (fun c150 => ?_) (fun c150 => ?_)
      · rw [if_pos c150] at hF
        refine zx_iload rfl rfl rfl ?_
        refine zx_if_ne rfl rfl (fun c151 => ?_) (fun c151 => ?_)
        · rw [if_neg c151] at hF
          exact tb0_532 (l0 := (some a1)) (l1 := l1) (l2 := l2) (l3 := l3) (l4 := l4) (l5 := p137.1) (l6 := p146.1) hd hr23  hF q
        · rw [if_pos c151] at hF
          refine zx_aload_n rfl rfl rfl ?_
          refine zx_iconst (v := 0) rfl rfl rfl ?_
          replace hF := zbnd hF
          obtain ⟨x152, e153, hF⟩ := hF
          refine zy_aJ rfl rfl e153 ?_
          refine zx_iload rfl rfl rfl ?_
          refine zx_i2l rfl rfl ?_
          refine zx_lcmp rfl rfl ?_
          refine zx_if_eq rfl rfl (fun c154 => ?_) (fun c154 => ?_)
          · rw [if_pos c154] at hF
            exact tb0_532 (l0 := (some a1)) (l1 := l1) (l2 := l2) (l3 := l3) (l4 := l4) (l5 := p137.1) (l6 := p146.1) hd hr23  hF q
          · rw [if_neg c154] at hF
            refine zx_iconst (v := 0) rfl rfl rfl ?_
            replace hF := Option.some.inj hF
            subst hF
            exact zx_bret rfl rfl rfl rfl q
      · rw [if_neg c150] at hF
        refine zx_iconst (v := 0) rfl rfl rfl ?_
        replace hF := Option.some.inj hF
        subst hF
        exact zx_bret rfl rfl rfl rfl q
    rw [if_neg c129] at hF
    by_cases c155 : (x5 &&& 15) = 9
    · rw [if_pos c155] at hF
      refine zw_switch rfl rfl (t := 535) (by rw [c155]; rfl) ?_
      refine zx_aload_n rfl rfl rfl ?_
      refine zx_aload_n rfl rfl rfl ?_
      refine zx_iload rfl rfl rfl ?_
      refine zx_iconst (v := 1) rfl rfl rfl ?_
      refine zx_iadd rfl rfl ?_
      replace hF := zbnd hF
      obtain ⟨x156, e157, hF⟩ := hF
      refine zy_aI rfl rfl e157 ?_
      refine zx_aload_n rfl rfl rfl ?_
      refine zx_iload rfl rfl rfl ?_
      refine zx_iconst (v := 2) rfl rfl rfl ?_
      refine zx_iadd rfl rfl ?_
      replace hF := zbnd hF
      obtain ⟨x158, e159, hF⟩ := hF
      refine zy_aI rfl rfl e159 ?_
      refine zx_aload_n rfl rfl rfl ?_
      replace hF := zbnd hF
      obtain ⟨p161, e160, hF⟩ := hF
      refine zx_callE rfl rfl rfl rfl rfl rfl rfl (zc4 (Nat.le_of_ble_eq_true rfl)) (t143 (by omega) e160 (zaI ?_))
      refine zx_istore rfl rfl rfl ?_
      refine zx_aload_n rfl rfl rfl ?_
      refine zx_aload_n rfl rfl rfl ?_
      refine zx_iload rfl rfl rfl ?_
      refine zx_iconst (v := 1) rfl rfl rfl ?_
      refine zx_iadd rfl rfl ?_
      replace hF := zbnd hF
      obtain ⟨x162, e163, hF⟩ := hF
      refine zy_aI rfl rfl e163 ?_
      refine zx_aload_n rfl rfl rfl ?_
      refine zx_iload rfl rfl rfl ?_
      refine zx_iconst (v := 2) rfl rfl rfl ?_
      refine zx_iadd rfl rfl ?_
      replace hF := zbnd hF
      obtain ⟨x164, e165, hF⟩ := hF
      refine zy_aI rfl rfl e165 ?_
      replace hF := zgd_some hF
      obtain ⟨g166, hF⟩ := hF
      replace hF := zbnd hF
      obtain ⟨p168, e167, hF⟩ := hF
      refine zx_callE rfl rfl rfl rfl (zrcv_isO g166) rfl rfl (zc4 (Nat.le_of_ble_eq_true rfl)) (t247 (by omega) e167 (zaI ?_))
      refine zx_istore rfl rfl rfl ?_
      refine zx_aload_n rfl rfl rfl ?_
      replace hF := zgd_some hF
      obtain ⟨g169, hF⟩ := hF
      replace hF := zbnd hF
      obtain ⟨p171, e170, hF⟩ := hF
      refine zx_callE rfl rfl rfl rfl (zrcv_isO g169) rfl rfl (zc4 (Nat.le_of_ble_eq_true rfl)) (t183 (by omega) e170 (zaI ?_))
      refine zx_iload rfl rfl rfl ?_
      refine zx_ic_eq rfl rfl (fun c172 => ?_) (fun c172 => ?_)
      · rw [if_pos c172] at hF
        refine zx_iload rfl rfl rfl ?_
        refine zx_if_ne rfl rfl (fun c173 => ?_) (fun c173 => ?_)
        · rw [if_neg c173] at hF
          exact tb0_600 (l0 := (some a1)) (l1 := l1) (l2 := l2) (l3 := l3) (l4 := l4) (l5 := p161.1) (l6 := p168.1) hd hr23  hF q
        · rw [if_pos c173] at hF
          refine zx_aload_n rfl rfl rfl ?_
          refine zx_iconst (v := 0) rfl rfl rfl ?_
          replace hF := zbnd hF
          obtain ⟨x174, e175, hF⟩ := hF
          refine zy_aJ rfl rfl e175 ?_
          refine zx_iload rfl rfl rfl ?_
          refine zx_i2l rfl rfl ?_
          refine zx_lcmp rfl rfl ?_
          refine zx_if_eq rfl rfl (fun c176 => ?_) (fun c176 => ?_)
          · rw [if_pos c176] at hF
            exact tb0_600 (l0 := (some a1)) (l1 := l1) (l2 := l2) (l3 := l3) (l4 := l4) (l5 := p161.1) (l6 := p168.1) hd hr23  hF q
          · rw [if_neg c176] at hF
            refine zx_iconst (v := 0) rfl rfl rfl ?_
            replace hF := Option.some.inj hF
            subst hF
            exact zx_bret rfl rfl rfl rfl q
      · rw [if_neg c172] at hF
        refine zx_iconst (v := 0) rfl rfl rfl ?_
        replace hF := Option.some.inj hF
        subst hF
        exact zx_bret rfl rfl rfl rfl q
    rw [if_neg c155] at hF
    by_cases c177 : (x5 &&& 15) = 10
    · rw [if_pos c177] at hF
      refine zw_switch rfl rfl (t := 603) (by rw [c177]; rfl) ?_
      refine zx_aload_n rfl rfl rfl ?_
      refine zx_aload_n rfl rfl rfl ?_
      refine zx_iload rfl rfl rfl ?_
      refine zx_iconst (v := 1) rfl rfl rfl ?_
      refine zx_iadd rfl rfl ?_
      replace hF := zbnd hF
      obtain ⟨x178, e179, hF⟩ := hF
      refine zy_aI rfl rfl e179 ?_
      refine zx_aload_n rfl rfl rfl ?_
      refine zx_iload rfl rfl rfl ?_
      refine zx_iconst (v := 2) rfl rfl rfl ?_
      refine zx_iadd rfl rfl ?_
      replace hF := zbnd hF
      obtain ⟨x180, e181, hF⟩ := hF
      refine zy_aI rfl rfl e181 ?_
      refine zx_aload_n rfl rfl rfl ?_
      replace hF := zbnd hF
      obtain ⟨p183, e182, hF⟩ := hF
      refine zx_callE rfl rfl rfl rfl rfl rfl rfl (zc4 (Nat.le_of_ble_eq_true rfl)) (t146 (by omega) e182 (zaI ?_))
      refine zx_istore rfl rfl rfl ?_
      refine zx_aload_n rfl rfl rfl ?_
      refine zx_aload_n rfl rfl rfl ?_
      refine zx_iload rfl rfl rfl ?_
      refine zx_iconst (v := 1) rfl rfl rfl ?_
      refine zx_iadd rfl rfl ?_
      replace hF := zbnd hF
      obtain ⟨x184, e185, hF⟩ := hF
      refine zy_aI rfl rfl e185 ?_
      refine zx_aload_n rfl rfl rfl ?_
      refine zx_iload rfl rfl rfl ?_
      refine zx_iconst (v := 2) rfl rfl rfl ?_
      refine zx_iadd rfl rfl ?_
      replace hF := zbnd hF
      obtain ⟨x186, e187, hF⟩ := hF
      refine zy_aI rfl rfl e187 ?_
      replace hF := zgd_some hF
      obtain ⟨g188, hF⟩ := hF
      replace hF := zbnd hF
      obtain ⟨p190, e189, hF⟩ := hF
      refine zx_callE rfl rfl rfl rfl (zrcv_isO g188) rfl rfl (zc4 (Nat.le_of_ble_eq_true rfl)) (t250 (by omega) e189 (zaI ?_))
      refine zx_istore rfl rfl rfl ?_
      refine zx_aload_n rfl rfl rfl ?_
      replace hF := zgd_some hF
      obtain ⟨g191, hF⟩ := hF
      replace hF := zbnd hF
      obtain ⟨p193, e192, hF⟩ := hF
      refine zx_callE rfl rfl rfl rfl (zrcv_isO g191) rfl rfl (zc4 (Nat.le_of_ble_eq_true rfl)) (t183 (by omega) e192 (zaI ?_))
      refine zx_iload rfl rfl rfl ?_
      refine zx_ic_eq rfl rfl (fun c194 => ?_) (fun c194 => ?_)
      · rw [if_pos c194] at hF
        refine zx_iload rfl rfl rfl ?_
        refine zx_if_ne rfl rfl (fun c195 => ?_) (fun c195 => ?_)
        · rw [if_neg c195] at hF
          exact tb0_668 (l0 := (some a1)) (l1 := l1) (l2 := l2) (l3 := l3) (l4 := l4) (l5 := p183.1) (l6 := p190.1) hd hr23  hF q
        · rw [if_pos c195] at hF
          refine zx_aload_n rfl rfl rfl ?_
          refine zx_iconst (v := 0) rfl rfl rfl ?_
          replace hF := zbnd hF
          obtain ⟨x196, e197, hF⟩ := hF
          refine zy_aJ rfl rfl e197 ?_
          refine zx_iload rfl rfl rfl ?_
          refine zx_i2l rfl rfl ?_
          refine zx_lcmp rfl rfl ?_
          refine zx_if_eq rfl rfl (fun c198 => ?_) (fun c198 => ?_)
          · rw [if_pos c198] at hF
            exact tb0_668 (l0 := (some a1)) (l1 := l1) (l2 := l2) (l3 := l3) (l4 := l4) (l5 := p183.1) (l6 := p190.1) hd hr23  hF q
          · rw [if_neg c198] at hF
            refine zx_iconst (v := 0) rfl rfl rfl ?_
            replace hF := Option.some.inj hF
            subst hF
            exact zx_bret rfl rfl rfl rfl q
      · rw [if_neg c194] at hF
        refine zx_iconst (v := 0) rfl rfl rfl ?_
        replace hF := Option.some.inj hF
        subst hF
        exact zx_bret rfl rfl rfl rfl q
    rw [if_neg c177] at hF
    by_cases c199 : (x5 &&& 15) = 11
    · rw [if_pos c199] at hF
      refine zw_switch rfl rfl (t := 671) (by rw [c199]; rfl) ?_
      refine zx_aload_n rfl rfl rfl ?_
      refine zx_aload_n rfl rfl rfl ?_
      refine zx_iload rfl rfl rfl ?_
      refine zx_iconst (v := 1) rfl rfl rfl ?_
      refine zx_iadd rfl rfl ?_
      replace hF := zbnd hF
      obtain ⟨x200, e201, hF⟩ := hF
      refine zy_aI rfl rfl e201 ?_
      refine zx_aload_n rfl rfl rfl ?_
      replace hF := zbnd hF
      obtain ⟨p203, e202, hF⟩ := hF
      refine zx_callE rfl rfl rfl rfl rfl rfl rfl (zc4 (Nat.le_of_ble_eq_true rfl)) (t171 (by omega) e202 (zaI ?_))
      refine zx_istore rfl rfl rfl ?_
      refine zx_aload_n rfl rfl rfl ?_
      refine zx_aload_n rfl rfl rfl ?_
      refine zx_iload rfl rfl rfl ?_
      refine zx_iconst (v := 1) rfl rfl rfl ?_
      refine zx_iadd rfl rfl ?_
      replace hF := zbnd hF
      obtain ⟨x204, e205, hF⟩ := hF
      refine zy_aI rfl rfl e205 ?_
      replace hF := zgd_some hF
      obtain ⟨g206, hF⟩ := hF
      replace hF := zbnd hF
      obtain ⟨p208, e207, hF⟩ := hF
      refine zx_callE rfl rfl rfl rfl (zrcv_isO g206) rfl rfl (zc4 (Nat.le_of_ble_eq_true rfl)) (t266 (by omega) e207 (zaI ?_))
      refine zx_istore rfl rfl rfl ?_
      refine zx_aload_n rfl rfl rfl ?_
      replace hF := zgd_some hF
      obtain ⟨g209, hF⟩ := hF
      replace hF := zbnd hF
      obtain ⟨p211, e210, hF⟩ := hF
      refine zx_callE rfl rfl rfl rfl (zrcv_isO g209) rfl rfl (zc4 (Nat.le_of_ble_eq_true rfl)) (t183 (by omega) e210 (zaI ?_))
      refine zx_iload rfl rfl rfl ?_
      refine zx_ic_eq rfl rfl (fun c212 => ?_) (fun c212 => ?_)
      · rw [if_pos c212] at hF
        refine zx_iload rfl rfl rfl ?_
        refine zx_if_ne rfl rfl (fun c213 => ?_) (fun c213 => ?_)
        · rw [if_neg c213] at hF
          exact tb0_724 (l0 := (some a1)) (l1 := l1) (l2 := l2) (l3 := l3) (l4 := l4) (l5 := p203.1) (l6 := p208.1) hd hr23  hF q
        · rw [if_pos c213] at hF
          refine zx_aload_n rfl rfl rfl ?_
          refine zx_iconst (v := 0) rfl rfl rfl ?_
          replace hF := zbnd hF
          obtain ⟨x214, e215, hF⟩ := hF
          refine zy_aJ rfl rfl e215 ?_
          refine zx_iload rfl rfl rfl ?_
          refine zx_i2l rfl rfl ?_
          refine zx_lcmp rfl rfl ?_
          refine zx_if_eq rfl rfl (fun c216 => ?_) (fun c216 => ?_)
          · rw [if_pos c216] at hF
            exact tb0_724 (l0 := (some a1)) (l1 := l1) (l2 := l2) (l3 := l3) (l4 := l4) (l5 := p203.1) (l6 := p208.1) hd hr23  hF q
          · rw [if_neg c216] at hF
            refine zx_iconst (v := 0) rfl rfl rfl ?_
            replace hF := Option.some.inj hF
            subst hF
            exact zx_bret rfl rfl rfl rfl q
      · rw [if_neg c212] at hF
        refine zx_iconst (v := 0) rfl rfl rfl ?_
        replace hF := Option.some.inj hF
        subst hF
        exact zx_bret rfl rfl rfl rfl q
    rw [if_neg c199] at hF
    by_cases c217 : (x5 &&& 15) = 12
    · rw [if_pos c217] at hF
      refine zw_switch rfl rfl (t := 727) (by rw [c217]; rfl) ?_
      refine zx_aload_n rfl rfl rfl ?_
      refine zx_aload_n rfl rfl rfl ?_
      refine zx_iload rfl rfl rfl ?_
      refine zx_iconst (v := 1) rfl rfl rfl ?_
      refine zx_iadd rfl rfl ?_
      replace hF := zbnd hF
      obtain ⟨x218, e219, hF⟩ := hF
      refine zy_aI rfl rfl e219 ?_
      refine zx_aload_n rfl rfl rfl ?_
      replace hF := zbnd hF
      obtain ⟨p221, e220, hF⟩ := hF
      refine zx_callE rfl rfl rfl rfl rfl rfl rfl (zc4 (Nat.le_of_ble_eq_true rfl)) (t173 (by omega) e220 (zaI ?_))
      refine zx_istore rfl rfl rfl ?_
      refine zx_aload_n rfl rfl rfl ?_
      refine zx_aload_n rfl rfl rfl ?_
      refine zx_iload rfl rfl rfl ?_
      refine zx_iconst (v := 1) rfl rfl rfl ?_
      refine zx_iadd rfl rfl ?_
      replace hF := zbnd hF
      obtain ⟨x222, e223, hF⟩ := hF
      refine zy_aI rfl rfl e223 ?_
      replace hF := zgd_some hF
      obtain ⟨g224, hF⟩ := hF
      replace hF := zbnd hF
      obtain ⟨p226, e225, hF⟩ := hF
      refine zx_callE rfl rfl rfl rfl (zrcv_isO g224) rfl rfl (zc4 (Nat.le_of_ble_eq_true rfl)) (t267 (by omega) e225 (zaI ?_))
      refine zx_istore rfl rfl rfl ?_
      refine zx_aload_n rfl rfl rfl ?_
      replace hF := zgd_some hF
      obtain ⟨g227, hF⟩ := hF
      replace hF := zbnd hF
      obtain ⟨p229, e228, hF⟩ := hF
      refine zx_callE rfl rfl rfl rfl (zrcv_isO g227) rfl rfl (zc4 (Nat.le_of_ble_eq_true rfl)) (t183 (by omega) e228 (zaI ?_))
      refine zx_iload rfl rfl rfl ?_
      refine zx_ic_eq rfl rfl (fun c230 => ?_) (fun c230 => ?_)
      · rw [if_pos c230] at hF
        refine zx_iload rfl rfl rfl ?_
        refine zx_if_ne rfl rfl (fun c231 => ?_) (fun c231 => ?_)
        · rw [if_neg c231] at hF
          exact tb0_780 (l0 := (some a1)) (l1 := l1) (l2 := l2) (l3 := l3) (l4 := l4) (l5 := p221.1) (l6 := p226.1) hd hr23  hF q
        · rw [if_pos c231] at hF
          refine zx_aload_n rfl rfl rfl ?_
          refine zx_iconst (v := 0) rfl rfl rfl ?_
          replace hF := zbnd hF
          obtain ⟨x232, e233, hF⟩ := hF
          refine zy_aJ rfl rfl e233 ?_
          refine zx_iload rfl rfl rfl ?_
          refine zx_i2l rfl rfl ?_
          refine zx_lcmp rfl rfl ?_
          refine zx_if_eq rfl rfl (fun c234 => ?_) (fun c234 => ?_)
          · rw [if_pos c234] at hF
            exact tb0_780 (l0 := (some a1)) (l1 := l1) (l2 := l2) (l3 := l3) (l4 := l4) (l5 := p221.1) (l6 := p226.1) hd hr23  hF q
          · rw [if_neg c234] at hF
            refine zx_iconst (v := 0) rfl rfl rfl ?_
            replace hF := Option.some.inj hF
            subst hF
            exact zx_bret rfl rfl rfl rfl q
      · rw [if_neg c230] at hF
        refine zx_iconst (v := 0) rfl rfl rfl ?_
        replace hF := Option.some.inj hF
        subst hF
        exact zx_bret rfl rfl rfl rfl q
    rw [if_neg c217] at hF
    by_cases c235 : (x5 &&& 15) = 13
    · rw [if_pos c235] at hF
      refine zw_switch rfl rfl (t := 783) (by rw [c235]; rfl) ?_
      refine zx_aload_n rfl rfl rfl ?_
      refine zx_aload_n rfl rfl rfl ?_
      refine zx_iload rfl rfl rfl ?_
      refine zx_iconst (v := 1) rfl rfl rfl ?_
      refine zx_iadd rfl rfl ?_
      replace hF := zbnd hF
      obtain ⟨x236, e237, hF⟩ := hF
      refine zy_aI rfl rfl e237 ?_
      refine zx_aload_n rfl rfl rfl ?_
      replace hF := zbnd hF
      obtain ⟨p239, e238, hF⟩ := hF
      refine zx_callE rfl rfl rfl rfl rfl rfl rfl (zc4 (Nat.le_of_ble_eq_true rfl)) (t175 (by omega) e238 (zaI ?_))
      refine zx_istore rfl rfl rfl ?_
      refine zx_aload_n rfl rfl rfl ?_
      refine zx_aload_n rfl rfl rfl ?_
      refine zx_iload rfl rfl rfl ?_
      refine zx_iconst (v := 1) rfl rfl rfl ?_
      refine zx_iadd rfl rfl ?_
      replace hF := zbnd hF
      obtain ⟨x240, e241, hF⟩ := hF
      refine zy_aI rfl rfl e241 ?_
      replace hF := zgd_some hF
      obtain ⟨g242, hF⟩ := hF
      replace hF := zbnd hF
      obtain ⟨p244, e243, hF⟩ := hF
      refine zx_callE rfl rfl rfl rfl (zrcv_isO g242) rfl rfl (zc4 (Nat.le_of_ble_eq_true rfl)) (t268 (by omega) e243 (zaI ?_))
      refine zx_istore rfl rfl rfl ?_
      refine zx_aload_n rfl rfl rfl ?_
      replace hF := zgd_some hF
      obtain ⟨g245, hF⟩ := hF
      replace hF := zbnd hF
      obtain ⟨p247, e246, hF⟩ := hF
      refine zx_callE rfl rfl rfl rfl (zrcv_isO g245) rfl rfl (zc4 (Nat.le_of_ble_eq_true rfl)) (t183 (by omega) e246 (zaI ?_))
      refine zx_iload rfl rfl rfl ?_
      refine zx_ic_eq rfl rfl (fun c248 => ?_) (fun c248 => ?_)
      · rw [if_pos c248] at hF
        refine zx_iload rfl rfl rfl ?_
        refine zx_if_ne rfl rfl (fun c249 => ?_) (fun c249 => ?_)
        · rw [if_neg c249] at hF
          exact tb0_836 (l0 := (some a1)) (l1 := l1) (l2 := l2) (l3 := l3) (l4 := l4) (l5 := p239.1) (l6 := p244.1) hd hr23  hF q
        · rw [if_pos c249] at hF
          refine zx_aload_n rfl rfl rfl ?_
          refine zx_iconst (v := 0) rfl rfl rfl ?_
          replace hF := zbnd hF
          obtain ⟨x250, e251, hF⟩ := hF
          refine zy_aJ rfl rfl e251 ?_
          refine zx_iload rfl rfl rfl ?_
          refine zx_i2l rfl rfl ?_
          refine zx_lcmp rfl rfl ?_
          refine zx_if_eq rfl rfl (fun c252 => ?_) (fun c252 => ?_)
          · rw [if_pos c252] at hF
            exact tb0_836 (l0 := (some a1)) (l1 := l1) (l2 := l2) (l3 := l3) (l4 := l4) (l5 := p239.1) (l6 := p244.1) hd hr23  hF q
          · rw [if_neg c252] at hF
            refine zx_iconst (v := 0) rfl rfl rfl ?_
            replace hF := Option.some.inj hF
            subst hF
            exact zx_bret rfl rfl rfl rfl q
      · rw [if_neg c248] at hF
        refine zx_iconst (v := 0) rfl rfl rfl ?_
        replace hF := Option.some.inj hF
        subst hF
        exact zx_bret rfl rfl rfl rfl q
    rw [if_neg c235] at hF
    by_cases c253 : (x5 &&& 15) = 14
    · rw [if_pos c253] at hF
      refine zw_switch rfl rfl (t := 839) (by rw [c253]; rfl) ?_
      refine zx_aload_n rfl rfl rfl ?_
      refine zx_aload_n rfl rfl rfl ?_
      refine zx_iload rfl rfl rfl ?_
      refine zx_iconst (v := 1) rfl rfl rfl ?_
      refine zx_iadd rfl rfl ?_
      replace hF := zbnd hF
      obtain ⟨x254, e255, hF⟩ := hF
      refine zy_aI rfl rfl e255 ?_
      refine zx_aload_n rfl rfl rfl ?_
      replace hF := zbnd hF
      obtain ⟨p257, e256, hF⟩ := hF
      refine zx_callE rfl rfl rfl rfl rfl rfl rfl (zc4 (Nat.le_of_ble_eq_true rfl)) (t177 (by omega) e256 (zaI ?_))
      refine zx_istore rfl rfl rfl ?_
      refine zx_aload_n rfl rfl rfl ?_
      refine zx_aload_n rfl rfl rfl ?_
      refine zx_iload rfl rfl rfl ?_
      refine zx_iconst (v := 1) rfl rfl rfl ?_
      refine zx_iadd rfl rfl ?_
      replace hF := zbnd hF
      obtain ⟨x258, e259, hF⟩ := hF
      refine zy_aI rfl rfl e259 ?_
      replace hF := zgd_some hF
      obtain ⟨g260, hF⟩ := hF
      replace hF := zbnd hF
      obtain ⟨p262, e261, hF⟩ := hF
      refine zx_callE rfl rfl rfl rfl (zrcv_isO g260) rfl rfl (zc4 (Nat.le_of_ble_eq_true rfl)) (t269 (by omega) e261 (zaI ?_))
      refine zx_istore rfl rfl rfl ?_
      refine zx_aload_n rfl rfl rfl ?_
      replace hF := zgd_some hF
      obtain ⟨g263, hF⟩ := hF
      replace hF := zbnd hF
      obtain ⟨p265, e264, hF⟩ := hF
      refine zx_callE rfl rfl rfl rfl (zrcv_isO g263) rfl rfl (zc4 (Nat.le_of_ble_eq_true rfl)) (t183 (by omega) e264 (zaI ?_))
      refine zx_iload rfl rfl rfl ?_
      refine zx_ic_eq rfl rfl (fun c266 => ?_) (fun c266 => ?_)
      · rw [if_pos c266] at hF
        refine zx_iload rfl rfl rfl ?_
        refine zx_if_ne rfl rfl (fun c267 => ?_) (fun c267 => ?_)
        · rw [if_neg c267] at hF
          exact tb0_892 (l0 := (some a1)) (l1 := l1) (l2 := l2) (l3 := l3) (l4 := l4) (l5 := p257.1) (l6 := p262.1) hd hr23  hF q
        · rw [if_pos c267] at hF
          refine zx_aload_n rfl rfl rfl ?_
          refine zx_iconst (v := 0) rfl rfl rfl ?_
          replace hF := zbnd hF
          obtain ⟨x268, e269, hF⟩ := hF
          refine zy_aJ rfl rfl e269 ?_
          refine zx_iload rfl rfl rfl ?_
          refine zx_i2l rfl rfl ?_
          refine zx_lcmp rfl rfl ?_
          refine zx_if_eq rfl rfl (fun c270 => ?_) (fun c270 => ?_)
          · rw [if_pos c270] at hF
            exact tb0_892 (l0 := (some a1)) (l1 := l1) (l2 := l2) (l3 := l3) (l4 := l4) (l5 := p257.1) (l6 := p262.1) hd hr23  hF q
          · rw [if_neg c270] at hF
            refine zx_iconst (v := 0) rfl rfl rfl ?_
            replace hF := Option.some.inj hF
            subst hF
            exact zx_bret rfl rfl rfl rfl q
      · rw [if_neg c266] at hF
        refine zx_iconst (v := 0) rfl rfl rfl ?_
        replace hF := Option.some.inj hF
        subst hF
        exact zx_bret rfl rfl rfl rfl q
    rw [if_neg c253] at hF
    by_cases c271 : (x5 &&& 15) = 15
    · rw [if_pos c271] at hF
      refine zw_switch rfl rfl (t := 895) (by rw [c271]; rfl) ?_
      refine zx_aload_n rfl rfl rfl ?_
      refine zx_aload_n rfl rfl rfl ?_
      refine zx_iload rfl rfl rfl ?_
      refine zx_iconst (v := 1) rfl rfl rfl ?_
      refine zx_iadd rfl rfl ?_
      replace hF := zbnd hF
      obtain ⟨x272, e273, hF⟩ := hF
      refine zy_aI rfl rfl e273 ?_
      refine zx_aload_n rfl rfl rfl ?_
      refine zx_iload rfl rfl rfl ?_
      refine zx_iconst (v := 2) rfl rfl rfl ?_
      refine zx_iadd rfl rfl ?_
      replace hF := zbnd hF
      obtain ⟨x274, e275, hF⟩ := hF
      refine zy_aI rfl rfl e275 ?_
      refine zx_aload_n rfl rfl rfl ?_
      replace hF := zbnd hF
      obtain ⟨p277, e276, hF⟩ := hF
      refine zx_callE rfl rfl rfl rfl rfl rfl rfl (zc4 (Nat.le_of_ble_eq_true rfl)) (t179 (by omega) e276 (zaI ?_))
      refine zx_istore rfl rfl rfl ?_
      refine zx_aload_n rfl rfl rfl ?_
      refine zx_aload_n rfl rfl rfl ?_
      refine zx_iload rfl rfl rfl ?_
      refine zx_iconst (v := 1) rfl rfl rfl ?_
      refine zx_iadd rfl rfl ?_
      replace hF := zbnd hF
      obtain ⟨x278, e279, hF⟩ := hF
      refine zy_aI rfl rfl e279 ?_
      refine zx_aload_n rfl rfl rfl ?_
      refine zx_iload rfl rfl rfl ?_
      refine zx_iconst (v := 2) rfl rfl rfl ?_
      refine zx_iadd rfl rfl ?_
      replace hF := zbnd hF
      obtain ⟨x280, e281, hF⟩ := hF
      refine zy_aI rfl rfl e281 ?_
      replace hF := zgd_some hF
      obtain ⟨g282, hF⟩ := hF
      replace hF := zbnd hF
      obtain ⟨p284, e283, hF⟩ := hF
      refine zx_callE rfl rfl rfl rfl (zrcv_isO g282) rfl rfl (zc4 (Nat.le_of_ble_eq_true rfl)) (t270 (by omega) e283 (zaI ?_))
      refine zx_istore rfl rfl rfl ?_
      refine zx_aload_n rfl rfl rfl ?_
      replace hF := zgd_some hF
      obtain ⟨g285, hF⟩ := hF
      replace hF := zbnd hF
      obtain ⟨p287, e286, hF⟩ := hF
      refine zx_callE rfl rfl rfl rfl (zrcv_isO g285) rfl rfl (zc4 (Nat.le_of_ble_eq_true rfl)) (t183 (by omega) e286 (zaI ?_))
      refine zx_iload rfl rfl rfl ?_
      refine zx_ic_eq rfl rfl (fun c288 => ?_) (fun c288 => ?_)
      · rw [if_pos c288] at hF
        refine zx_iload rfl rfl rfl ?_
        refine zx_if_ne rfl rfl (fun c289 => ?_) (fun c289 => ?_)
        · rw [if_neg c289] at hF
          exact tb0_960 (l0 := (some a1)) (l1 := l1) (l2 := l2) (l3 := l3) (l4 := l4) (l5 := p277.1) (l6 := p284.1) hd hr23  hF q
        · rw [if_pos c289] at hF
          refine zx_aload_n rfl rfl rfl ?_
          refine zx_iconst (v := 0) rfl rfl rfl ?_
          replace hF := zbnd hF
          obtain ⟨x290, e291, hF⟩ := hF
          refine zy_aJ rfl rfl e291 ?_
          refine zx_iload rfl rfl rfl ?_
          refine zx_i2l rfl rfl ?_
          refine zx_lcmp rfl rfl ?_
          refine zx_if_eq rfl rfl (fun c292 => ?_) (fun c292 => ?_)
          · rw [if_pos c292] at hF
            exact tb0_960 (l0 := (some a1)) (l1 := l1) (l2 := l2) (l3 := l3) (l4 := l4) (l5 := p277.1) (l6 := p284.1) hd hr23  hF q
          · rw [if_neg c292] at hF
            refine zx_iconst (v := 0) rfl rfl rfl ?_
            replace hF := Option.some.inj hF
            subst hF
            exact zx_bret rfl rfl rfl rfl q
      · rw [if_neg c288] at hF
        refine zx_iconst (v := 0) rfl rfl rfl ?_
        replace hF := Option.some.inj hF
        subst hF
        exact zx_bret rfl rfl rfl rfl q
    rw [if_neg c271] at hF
    have zc7 := zne c7 (z := 0) (by decide)
    have zc41 := zne c41 (z := 1) (by decide)
    have zc55 := zne c55 (z := 2) (by decide)
    have zc63 := zne c63 (z := 3) (by decide)
    have zc71 := zne c71 (z := 4) (by decide)
    have zc89 := zne c89 (z := 5) (by decide)
    have zc103 := zne c103 (z := 6) (by decide)
    have zc111 := zne c111 (z := 7) (by decide)
    have zc129 := zne c129 (z := 8) (by decide)
    have zc155 := zne c155 (z := 9) (by decide)
    have zc177 := zne c177 (z := 10) (by decide)
    have zc199 := zne c199 (z := 11) (by decide)
    have zc217 := zne c217 (z := 12) (by decide)
    have zc235 := zne c235 (z := 13) (by decide)
    have zc253 := zne c253 (z := 14) (by decide)
    have zc271 := zne c271 (z := 15) (by decide)
    refine zw_switch rfl rfl (t := 963) (zsw_d (by omega) (by decide) (by decide)) ?_
    exact tb0_963 (l0 := (some a1)) (l1 := l1) (l2 := l2) (l3 := l3) (l4 := l4) hd hr23 hx5 hx6 hF q
def f0_23 (n : Nat)   (k : Nat) : Option Nat → Nat → Nat → Nat → Int32 → zH → Option (Int32 × zH) := Nat.rec (fun _ _ _ _ _ _ => none) (fun _ ih => b0_23 n  ih) k
theorem tf0_23 {d n : Nat} {Q : zRs → zH → Prop}   (hd : 77 ≤ d)   (k : Nat) : ∀ {l0 : Option Nat} {l1 : Nat} {l2 : Nat} {l3 : Nat} {l4 : Int32}  {x5 : Option Value} {x6 : Option Value} {h : zH} {p : (Int32 × zH)}, zn2 x5 = true → zn2 x6 = true → f0_23 n   k l0 l1 l2 l3 l4 h = some p → Q (eI p.1) p.2 → zW d 0 23 [some (va_rf l0), some (.ref l1), some (.ref l2), some (.ref l3), some (.int l4), x5, x6] [] h Q := by
  induction k with
  | zero => intros; rename_i hF _; cases hF
  | succ k ih => intros; rename_i hx5 hx6 hF q; exact tb0_23 (n := n) hd  ih hx5 hx6 hF q
def f0 (n : Nat)  (y0 : Option Nat) (h : zH) : Option (Int32 × zH) :=
  (f1 n h.1.length (nO h 10 4)).bind fun p2 =>
  (f182 n p2.2.1.length (nO p2.2 11 92)).bind fun p4 =>
  (nA p4.2 4 1).bind fun h5 =>
  f0_23 n  n y0 h.1.length p2.2.1.length p4.2.1.length 0 h5
set_option maxRecDepth 20000 in
theorem t0 {d n : Nat} {Q : zRs → zH → Prop}  {y0 : Option Nat} (hd : 77 ≤ d)  {h : zH} {p : (Int32 × zH)} (hF : f0 n  y0 h = some p) (q : Q (eI p.1) p.2) : zC d 0 [va_rf y0] h Q := by
  refine zC_of (L := [some (va_rf y0), none, none, none, none, none, none]) ((zsl_rf _ _).trans (congrArg (List.cons _) rfl)) rfl ?_
  unfold f0 at hF
  obtain ⟨d, rfl⟩ : ∃ e, d = e + 1 := ⟨d - 1, by omega⟩
  refine zy_new rfl rfl ?_
  refine zx_dup rfl rfl rfl ?_
  replace hF := zbnd hF
  obtain ⟨p2, e1, hF⟩ := hF
  refine zx_callF rfl rfl rfl rfl rfl rfl rfl (zc4 (Nat.le_of_ble_eq_true rfl)) (t1 (by omega) e1 (zaV ?_))
  refine zx_astore_n rfl rfl (zput_ok (L' := [some (va_rf y0), some (.ref h.1.length), none, none, none, none, none]) rfl (zcl_X (j := 0) rfl (zn2_rf _)) rfl) ?_
  refine zy_new rfl rfl ?_
  refine zx_dup rfl rfl rfl ?_
  replace hF := zbnd hF
  obtain ⟨p4, e3, hF⟩ := hF
  refine zx_callF rfl rfl rfl rfl rfl rfl rfl (zc4 (Nat.le_of_ble_eq_true rfl)) (t182 (by omega) e3 (zaV ?_))
  refine zx_astore_n rfl rfl rfl ?_
  refine zx_iconst (v := 1) rfl rfl rfl ?_
  replace hF := zbnd hF
  obtain ⟨h5, e6, hF⟩ := hF
  refine zy_newarr rfl rfl rfl e6 ?_
  refine zx_astore_n rfl rfl rfl ?_
  refine zx_iconst (v := 0) rfl rfl rfl ?_
  refine zx_istore rfl rfl rfl ?_
  exact tf0_23 hd  n (l0 := y0) (l1 := h.1.length) (l2 := p2.2.1.length) (l3 := p4.2.1.length) (l4 := 0) rfl rfl hF q
end ZDEC

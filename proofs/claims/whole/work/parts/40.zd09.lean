/-! THE PROGRAM AS FUNCTIONS, 9 (written by a program of the verifier's) -/
section ZDEC
def b243_285 (n : Nat)   (l0 : Nat) (l1 : Int32) (l2 : Int32) (l3 : Int32) (l4 : Int32) (l5 : Int32) (l6 : Int32) (l7 : Int32) (l8 : Int32) (h : zH) : Option (Int32 × zH) :=
  (pF h l0 11 2 (.int 0)).bind fun h1 =>
  some (1, h1)
set_option maxRecDepth 20000 in
theorem tb243_285 {d n : Nat} {Q : zRs → zH → Prop}   {l0 : Nat} {l1 : Int32} {l2 : Int32} {l3 : Int32} {l4 : Int32} {l5 : Int32} {l6 : Int32} {l7 : Int32} {l8 : Int32}   (hd : 6 ≤ d)   {h : zH} {p : (Int32 × zH)}  (hF : b243_285 n   l0 l1 l2 l3 l4 l5 l6 l7 l8 h = some p) (q : Q (eI p.1) p.2) : zW d 243 285 [some (.ref l0), some (.int l1), some (.int l2), some (.int l3), some (.int l4), some (.int l5), some (.int l6), some (.int l7), some (.int l8)] [] h Q := by
  unfold b243_285 at hF
  obtain ⟨d, rfl⟩ : ∃ e, d = e + 1 := ⟨d - 1, by omega⟩
  refine zx_aload_n rfl rfl rfl ?_
  refine zx_iconst (v := 0) rfl rfl rfl ?_
  replace hF := zbnd hF
  obtain ⟨h1, e2, hF⟩ := hF
  refine zy_put rfl rfl e2 ?_
  refine zx_iconst (v := 1) rfl rfl rfl ?_
  replace hF := Option.some.inj hF
  subst hF
  exact zx_bret rfl rfl rfl rfl q
def b243_233 (n : Nat)   (l0 : Nat) (l1 : Int32) (l2 : Int32) (l3 : Int32) (l4 : Int32) (l5 : Int32) (l6 : Int32) (l7 : Int32) (l8 : Int32) (s0 : Int32) (s1 : Nat) (h : zH) : Option (Int32 × zH) :=
  (pF h s1 11 65 (.int s0)).bind fun h1 =>
  zgd (isO h1 l0 11) <|
  (f207 n l0 (3000 + l8) l2 l3 h1).bind fun p5 =>
  (gR p5.2 l0 11 66).bind fun x6 =>
  x6.bind fun a8 =>
  (aS zsB p5.2 a8 l8 (.int l4)).bind fun h9 =>
  (gR h9 l0 11 67).bind fun x11 =>
  x11.bind fun a13 =>
  (aS zsI h9 a13 l8 (.int l5)).bind fun h14 =>
  if l4 = 0 then
    b243_285 n  l0 l1 l2 l3 l4 l5 l6 l7 l8 h14
  else
    zgd (isO h14 l0 11) <|
    (f207 n l0 (3008 + l8) l6 l7 h14).bind fun p19 =>
    b243_285 n  l0 l1 l2 l3 l4 l5 l6 l7 l8 p19.2
set_option maxRecDepth 20000 in
theorem tb243_233 {d n : Nat} {Q : zRs → zH → Prop}   {l0 : Nat} {l1 : Int32} {l2 : Int32} {l3 : Int32} {l4 : Int32} {l5 : Int32} {l6 : Int32} {l7 : Int32} {l8 : Int32} {s0 : Int32} {s1 : Nat}  (hd : 6 ≤ d)   {h : zH} {p : (Int32 × zH)}  (hF : b243_233 n   l0 l1 l2 l3 l4 l5 l6 l7 l8 s0 s1 h = some p) (q : Q (eI p.1) p.2) : zW d 243 233 [some (.ref l0), some (.int l1), some (.int l2), some (.int l3), some (.int l4), some (.int l5), some (.int l6), some (.int l7), some (.int l8)] [.int s0, .ref s1] h Q := by
  unfold b243_233 at hF
  obtain ⟨d, rfl⟩ : ∃ e, d = e + 1 := ⟨d - 1, by omega⟩
  replace hF := zbnd hF
  obtain ⟨h1, e2, hF⟩ := hF
  refine zy_put rfl rfl e2 ?_
  refine zx_aload_n rfl rfl rfl ?_
  refine zx_sipush (v := 3000) rfl rfl rfl ?_
  refine zx_iload rfl rfl rfl ?_
  refine zx_iadd rfl rfl ?_
  refine zx_iload_n rfl rfl rfl ?_
  refine zx_iload_n rfl rfl rfl ?_
  replace hF := zgd_some hF
  obtain ⟨g3, hF⟩ := hF
  replace hF := zbnd hF
  obtain ⟨p5, e4, hF⟩ := hF
  refine zx_callE rfl rfl rfl rfl (zrcv_isO g3) rfl rfl (zc4 (Nat.le_of_ble_eq_true rfl)) (t207 (by omega) e4 (zaV ?_))
  refine zx_aload_n rfl rfl rfl ?_
  replace hF := zbnd hF
  obtain ⟨x6, e7, hF⟩ := hF
  refine zy_getR rfl rfl e7 ?_
  refine zx_iload rfl rfl rfl ?_
  refine zx_iload rfl rfl rfl ?_
  replace hF := zbnd hF
  obtain ⟨a8, rfl, hF⟩ := hF
  replace hF := zbnd hF
  obtain ⟨h9, e10, hF⟩ := hF
  refine zy_sB rfl rfl e10 ?_
  refine zx_aload_n rfl rfl rfl ?_
  replace hF := zbnd hF
  obtain ⟨x11, e12, hF⟩ := hF
  refine zy_getR rfl rfl e12 ?_
  refine zx_iload rfl rfl rfl ?_
  refine zx_iload rfl rfl rfl ?_
  replace hF := zbnd hF
  obtain ⟨a13, rfl, hF⟩ := hF
  replace hF := zbnd hF
  obtain ⟨h14, e15, hF⟩ := hF
  refine zy_sI rfl rfl e15 ?_
  refine zx_iload rfl rfl rfl ?_
  refine zx_if_eq rfl rfl (fun c16 => ?_) (fun c16 => ?_)
  · rw [if_pos c16] at hF
    exact tb243_285 (l0 := l0) (l1 := l1) (l2 := l2) (l3 := l3) (l4 := l4) (l5 := l5) (l6 := l6) (l7 := l7) (l8 := l8) hd   hF q
  · rw [if_neg c16] at hF
    refine zx_aload_n rfl rfl rfl ?_
    refine zx_sipush (v := 3008) rfl rfl rfl ?_
    refine zx_iload rfl rfl rfl ?_
    refine zx_iadd rfl rfl ?_
    refine zx_iload rfl rfl rfl ?_
    refine zx_iload rfl rfl rfl ?_
    replace hF := zgd_some hF
    obtain ⟨g17, hF⟩ := hF
    replace hF := zbnd hF
    obtain ⟨p19, e18, hF⟩ := hF
    refine zx_callE rfl rfl rfl rfl (zrcv_isO g17) rfl rfl (zc4 (Nat.le_of_ble_eq_true rfl)) (t207 (by omega) e18 (zaV ?_))
    exact tb243_285 (l0 := l0) (l1 := l1) (l2 := l2) (l3 := l3) (l4 := l4) (l5 := l5) (l6 := l6) (l7 := l7) (l8 := l8) hd   hF q
def b243_186 (n : Nat)   (l0 : Nat) (l1 : Int32) (l2 : Int32) (l3 : Int32) (l4 : Int32) (l5 : Int32) (l6 : Int32) (l7 : Int32) (l8 : Int32) (h : zH) : Option (Int32 × zH) :=
  if l8 = 8 then
    (pF h l0 11 2 (.int 0)).bind fun h2 =>
    (pF h2 l0 11 0 (.int 2)).bind fun h4 =>
    some (0, h4)
  else
    (pF h l0 11 0 (.int 0)).bind fun h6 =>
    (gI h6 l0 11 65).bind fun x8 =>
    if l8 = x8 then
      (gI h6 l0 11 65).bind fun x11 =>
      b243_233 n  l0 l1 l2 l3 l4 l5 l6 l7 l8 (x11 + 1) l0 h6
    else
      (gI h6 l0 11 65).bind fun x13 =>
      b243_233 n  l0 l1 l2 l3 l4 l5 l6 l7 l8 x13 l0 h6
set_option maxRecDepth 20000 in
theorem tb243_186 {d n : Nat} {Q : zRs → zH → Prop}   {l0 : Nat} {l1 : Int32} {l2 : Int32} {l3 : Int32} {l4 : Int32} {l5 : Int32} {l6 : Int32} {l7 : Int32} {l8 : Int32}   (hd : 6 ≤ d)   {h : zH} {p : (Int32 × zH)}  (hF : b243_186 n   l0 l1 l2 l3 l4 l5 l6 l7 l8 h = some p) (q : Q (eI p.1) p.2) : zW d 243 186 [some (.ref l0), some (.int l1), some (.int l2), some (.int l3), some (.int l4), some (.int l5), some (.int l6), some (.int l7), some (.int l8)] [] h Q := by
  unfold b243_186 at hF
  obtain ⟨d, rfl⟩ : ∃ e, d = e + 1 := ⟨d - 1, by omega⟩
  refine zx_iload rfl rfl rfl ?_
  refine zx_bipush (v := 8) rfl rfl rfl ?_
  refine zx_ic_ne rfl rfl (fun c1 => ?_) (fun c1 => ?_)
  · rw [if_neg c1] at hF
    refine zx_aload_n rfl rfl rfl ?_
    refine zx_iconst (v := 0) rfl rfl rfl ?_
    replace hF := zbnd hF
    obtain ⟨h6, e7, hF⟩ := hF
    refine zy_put rfl rfl e7 ?_
    refine zx_aload_n rfl rfl rfl ?_
    refine zx_iload rfl rfl rfl ?_
    refine zx_aload_n rfl rfl rfl ?_
    replace hF := zbnd hF
    obtain ⟨x8, e9, hF⟩ := hF
    refine zy_getI rfl rfl e9 ?_
    refine zx_ic_ne rfl rfl (fun c10 => ?_) (fun c10 => ?_)
    · rw [if_neg c10] at hF
      refine zx_aload_n rfl rfl rfl ?_
      replace hF := zbnd hF
      obtain ⟨x13, e14, hF⟩ := hF
      refine zy_getI rfl rfl e14 ?_
      exact tb243_233 (l0 := l0) (l1 := l1) (l2 := l2) (l3 := l3) (l4 := l4) (l5 := l5) (l6 := l6) (l7 := l7) (l8 := l8) (s0 := x13) (s1 := l0) hd   hF q
    · rw [if_pos c10] at hF
      refine zx_aload_n rfl rfl rfl ?_
      replace hF := zbnd hF
      obtain ⟨x11, e12, hF⟩ := hF
      refine zy_getI rfl rfl e12 ?_
      refine zx_iconst (v := 1) rfl rfl rfl ?_
      refine zx_iadd rfl rfl ?_
      refine zx_goto rfl rfl ?_
      exact tb243_233 (l0 := l0) (l1 := l1) (l2 := l2) (l3 := l3) (l4 := l4) (l5 := l5) (l6 := l6) (l7 := l7) (l8 := l8) (s0 := (x11 + 1)) (s1 := l0) hd   hF q
  · rw [if_pos c1] at hF
    refine zx_aload_n rfl rfl rfl ?_
    refine zx_iconst (v := 0) rfl rfl rfl ?_
    replace hF := zbnd hF
    obtain ⟨h2, e3, hF⟩ := hF
    refine zy_put rfl rfl e3 ?_
    refine zx_aload_n rfl rfl rfl ?_
    refine zx_iconst (v := 2) rfl rfl rfl ?_
    replace hF := zbnd hF
    obtain ⟨h4, e5, hF⟩ := hF
    refine zy_put rfl rfl e5 ?_
    refine zx_iconst (v := 0) rfl rfl rfl ?_
    replace hF := Option.some.inj hF
    subst hF
    exact zx_bret rfl rfl rfl rfl q
def b243_156 (n : Nat)  (r156 : Nat → Int32 → Int32 → Int32 → Int32 → Int32 → Int32 → Int32 → Int32 → zH → Option (Int32 × zH)) (l0 : Nat) (l1 : Int32) (l2 : Int32) (l3 : Int32) (l4 : Int32) (l5 : Int32) (l6 : Int32) (l7 : Int32) (l8 : Int32) (h : zH) : Option (Int32 × zH) :=
  (gI h l0 11 65).bind fun x1 =>
  if x1 ≤ l8 then
    b243_186 n  l0 l1 l2 l3 l4 l5 l6 l7 l8 h
  else
    zgd (isO h l0 11) <|
    (f205 n l0 (3000 + l8) l2 l3 h).bind fun p6 =>
    if p6.1 = 0 then
      r156 l0 l1 l2 l3 l4 l5 l6 l7 (l8 + 1) p6.2
    else
      b243_186 n  l0 l1 l2 l3 l4 l5 l6 l7 l8 p6.2
set_option maxRecDepth 20000 in
theorem tb243_156 {d n : Nat} {Q : zRs → zH → Prop}  {r156 : Nat → Int32 → Int32 → Int32 → Int32 → Int32 → Int32 → Int32 → Int32 → zH → Option (Int32 × zH)} {l0 : Nat} {l1 : Int32} {l2 : Int32} {l3 : Int32} {l4 : Int32} {l5 : Int32} {l6 : Int32} {l7 : Int32} {l8 : Int32}   (hd : 6 ≤ d)  (hr156 : ∀ {l0 : Nat} {l1 : Int32} {l2 : Int32} {l3 : Int32} {l4 : Int32} {l5 : Int32} {l6 : Int32} {l7 : Int32} {l8 : Int32}   {h : zH} {p : (Int32 × zH)}, r156 l0 l1 l2 l3 l4 l5 l6 l7 l8 h = some p → Q (eI p.1) p.2 → zW d 243 156 [some (.ref l0), some (.int l1), some (.int l2), some (.int l3), some (.int l4), some (.int l5), some (.int l6), some (.int l7), some (.int l8)] [] h Q) {h : zH} {p : (Int32 × zH)}  (hF : b243_156 n  r156 l0 l1 l2 l3 l4 l5 l6 l7 l8 h = some p) (q : Q (eI p.1) p.2) : zW d 243 156 [some (.ref l0), some (.int l1), some (.int l2), some (.int l3), some (.int l4), some (.int l5), some (.int l6), some (.int l7), some (.int l8)] [] h Q := by
  unfold b243_156 at hF
  obtain ⟨d, rfl⟩ : ∃ e, d = e + 1 := ⟨d - 1, by omega⟩
  refine zx_iload rfl rfl rfl ?_
  refine zx_aload_n rfl rfl rfl ?_
  replace hF := zbnd hF
  obtain ⟨x1, e2, hF⟩ := hF
  refine zy_getI rfl rfl e2 ?_
  refine zx_ic_ge rfl rfl (fun c3 => ?_) (fun c3 => ?_)
  · rw [if_pos c3] at hF
    exact tb243_186 (l0 := l0) (l1 := l1) (l2 := l2) (l3 := l3) (l4 := l4) (l5 := l5) (l6 := l6) (l7 := l7) (l8 := l8) hd   hF q
  · rw [if_neg c3] at hF
    refine zx_aload_n rfl rfl rfl ?_
    refine zx_sipush (v := 3000) rfl rfl rfl ?_
    refine zx_iload rfl rfl rfl ?_
    refine zx_iadd rfl rfl ?_
    refine zx_iload_n rfl rfl rfl ?_
    refine zx_iload_n rfl rfl rfl ?_
    replace hF := zgd_some hF
    obtain ⟨g4, hF⟩ := hF
    replace hF := zbnd hF
    obtain ⟨p6, e5, hF⟩ := hF
    refine zx_callE rfl rfl rfl rfl (zrcv_isO g4) rfl rfl (zc4 (Nat.le_of_ble_eq_true rfl)) (t205 (by omega) e5 (zaI ?_))
    refine zx_if_ne rfl rfl (fun c7 => ?_) (fun c7 => ?_)
    · rw [if_neg c7] at hF
      exact tb243_186 (l0 := l0) (l1 := l1) (l2 := l2) (l3 := l3) (l4 := l4) (l5 := l5) (l6 := l6) (l7 := l7) (l8 := l8) hd   hF q
    · rw [if_pos c7] at hF
      refine zx_iinc (w := 1) rfl rfl rfl rfl rfl ?_
      refine zx_goto rfl rfl ?_
      exact hr156  hF q
def f243_156 (n : Nat)   (k : Nat) : Nat → Int32 → Int32 → Int32 → Int32 → Int32 → Int32 → Int32 → Int32 → zH → Option (Int32 × zH) := Nat.rec (fun _ _ _ _ _ _ _ _ _ _ => none) (fun _ ih => b243_156 n  ih) k
theorem tf243_156 {d n : Nat} {Q : zRs → zH → Prop}   (hd : 6 ≤ d)   (k : Nat) : ∀ {l0 : Nat} {l1 : Int32} {l2 : Int32} {l3 : Int32} {l4 : Int32} {l5 : Int32} {l6 : Int32} {l7 : Int32} {l8 : Int32}   {h : zH} {p : (Int32 × zH)}, f243_156 n   k l0 l1 l2 l3 l4 l5 l6 l7 l8 h = some p → Q (eI p.1) p.2 → zW d 243 156 [some (.ref l0), some (.int l1), some (.int l2), some (.int l3), some (.int l4), some (.int l5), some (.int l6), some (.int l7), some (.int l8)] [] h Q := by
  induction k with
  | zero => intros; rename_i hF _; cases hF
  | succ k ih => intros; rename_i  hF q; exact tb243_156 (n := n) hd  ih  hF q
def b243_125 (n : Nat)   (l0 : Nat) (l1 : Int32) (l2 : Int32) (l3 : Int32) (l4 : Int32) (l5 : Int32) (l6 : Int32) (l7 : Int32) (s0 : Int32) (s1 : Nat) (h : zH) : Option (Int32 × zH) :=
  zgd (isO h s1 11) <|
  (f200 n s1 s0 h).bind fun p3 =>
  (pF p3.2 l0 11 64 (.int l1)).bind fun h4 =>
  (gI h4 l0 11 73).bind fun x6 =>
  if x6 = (-1) then
    f243_156 n  n l0 l1 l2 l3 l4 l5 l6 l7 0 h4
  else
    (pF h4 l0 11 2 (.int 0)).bind fun h9 =>
    (pF h9 l0 11 0 (.int 1)).bind fun h11 =>
    some (0, h11)
set_option maxRecDepth 20000 in
theorem tb243_125 {d n : Nat} {Q : zRs → zH → Prop}   {l0 : Nat} {l1 : Int32} {l2 : Int32} {l3 : Int32} {l4 : Int32} {l5 : Int32} {l6 : Int32} {l7 : Int32} {s0 : Int32} {s1 : Nat} {x8 : Option Value} (hd : 6 ≤ d)   {h : zH} {p : (Int32 × zH)} (hx8 : zn2 x8 = true) (hF : b243_125 n   l0 l1 l2 l3 l4 l5 l6 l7 s0 s1 h = some p) (q : Q (eI p.1) p.2) : zW d 243 125 [some (.ref l0), some (.int l1), some (.int l2), some (.int l3), some (.int l4), some (.int l5), some (.int l6), some (.int l7), x8] [.int s0, .ref s1] h Q := by
  unfold b243_125 at hF
  obtain ⟨d, rfl⟩ : ∃ e, d = e + 1 := ⟨d - 1, by omega⟩
  replace hF := zgd_some hF
  obtain ⟨g1, hF⟩ := hF
  replace hF := zbnd hF
  obtain ⟨p3, e2, hF⟩ := hF
  refine zx_callE rfl rfl rfl rfl (zrcv_isO g1) rfl rfl (zc4 (Nat.le_of_ble_eq_true rfl)) (t200 (by omega) e2 (zaV ?_))
  refine zx_aload_n rfl rfl rfl ?_
  refine zx_iload_n rfl rfl rfl ?_
  replace hF := zbnd hF
  obtain ⟨h4, e5, hF⟩ := hF
  refine zy_put rfl rfl e5 ?_
  refine zx_aload_n rfl rfl rfl ?_
  replace hF := zbnd hF
  obtain ⟨x6, e7, hF⟩ := hF
  refine zy_getI rfl rfl e7 ?_
  refine zx_iconst (v := (-1)) rfl rfl rfl ?_
  refine zx_ic_eq rfl rfl (fun c8 => ?_) (fun c8 => ?_)
  · rw [if_pos c8] at hF
    refine zx_iconst (v := 0) rfl rfl rfl ?_
    refine zx_istore rfl rfl rfl ?_
    exact tf243_156 hd  n (l0 := l0) (l1 := l1) (l2 := l2) (l3 := l3) (l4 := l4) (l5 := l5) (l6 := l6) (l7 := l7) (l8 := 0)  hF q
  · rw [if_neg c8] at hF
    refine zx_aload_n rfl rfl rfl ?_
    refine zx_iconst (v := 0) rfl rfl rfl ?_
    replace hF := zbnd hF
    obtain ⟨h9, e10, hF⟩ := hF
    refine zy_put rfl rfl e10 ?_
    refine zx_aload_n rfl rfl rfl ?_
    refine zx_iconst (v := 1) rfl rfl rfl ?_
    replace hF := zbnd hF
    obtain ⟨h11, e12, hF⟩ := hF
    refine zy_put rfl rfl e12 ?_
    refine zx_iconst (v := 0) rfl rfl rfl ?_
    replace hF := Option.some.inj hF
    subst hF
    exact zx_bret rfl rfl rfl rfl q
def b243_85 (n : Nat)   (l0 : Nat) (l1 : Int32) (l2 : Int32) (l3 : Int32) (s0 : Int32) (h : zH) : Option (Int32 × zH) :=
  (gI h l0 11 72).bind fun x1 =>
  (gI h l0 11 70).bind fun x3 =>
  (gI h l0 11 71).bind fun x5 =>
  zgd (isO h l0 11) <|
  (f190 n l0 h).bind fun p9 =>
  (gI p9.2 l0 11 69).bind fun x10 =>
  if x10 = 5 then
    b243_125 n  l0 l1 l2 l3 s0 x1 (x3 + 1) x5 1 l0 p9.2
  else
    b243_125 n  l0 l1 l2 l3 s0 x1 (x3 + 1) x5 0 l0 p9.2
set_option maxRecDepth 20000 in
theorem tb243_85 {d n : Nat} {Q : zRs → zH → Prop}   {l0 : Nat} {l1 : Int32} {l2 : Int32} {l3 : Int32} {s0 : Int32} {x4 : Option Value} {x5 : Option Value} {x6 : Option Value} {x7 : Option Value} {x8 : Option Value} (hd : 6 ≤ d)   {h : zH} {p : (Int32 × zH)} (hx4 : zn2 x4 = true) (hx5 : zn2 x5 = true) (hx6 : zn2 x6 = true) (hx7 : zn2 x7 = true) (hx8 : zn2 x8 = true) (hF : b243_85 n   l0 l1 l2 l3 s0 h = some p) (q : Q (eI p.1) p.2) : zW d 243 85 [some (.ref l0), some (.int l1), some (.int l2), some (.int l3), x4, x5, x6, x7, x8] [.int s0] h Q := by
  unfold b243_85 at hF
  obtain ⟨d, rfl⟩ : ∃ e, d = e + 1 := ⟨d - 1, by omega⟩
  refine zx_istore rfl rfl rfl ?_
  refine zx_aload_n rfl rfl rfl ?_
  replace hF := zbnd hF
  obtain ⟨x1, e2, hF⟩ := hF
  refine zy_getI rfl rfl e2 ?_
  refine zx_istore rfl rfl rfl ?_
  refine zx_aload_n rfl rfl rfl ?_
  replace hF := zbnd hF
  obtain ⟨x3, e4, hF⟩ := hF
  refine zy_getI rfl rfl e4 ?_
  refine zx_iconst (v := 1) rfl rfl rfl ?_
  refine zx_iadd rfl rfl ?_
  refine zx_istore rfl rfl rfl ?_
  refine zx_aload_n rfl rfl rfl ?_
  replace hF := zbnd hF
  obtain ⟨x5, e6, hF⟩ := hF
  refine zy_getI rfl rfl e6 ?_
  refine zx_istore rfl rfl rfl ?_
  refine zx_aload_n rfl rfl rfl ?_
  replace hF := zgd_some hF
  obtain ⟨g7, hF⟩ := hF
  replace hF := zbnd hF
  obtain ⟨p9, e8, hF⟩ := hF
  refine zx_callE rfl rfl rfl rfl (zrcv_isO g7) rfl rfl (zc4 (Nat.le_of_ble_eq_true rfl)) (t190 (by omega) e8 (zaV ?_))
  refine zx_aload_n rfl rfl rfl ?_
  refine zx_aload_n rfl rfl rfl ?_
  replace hF := zbnd hF
  obtain ⟨x10, e11, hF⟩ := hF
  refine zy_getI rfl rfl e11 ?_
  refine zx_iconst (v := 5) rfl rfl rfl ?_
  refine zx_ic_ne rfl rfl (fun c12 => ?_) (fun c12 => ?_)
  · rw [if_neg c12] at hF
    refine zx_iconst (v := 0) rfl rfl rfl ?_
    exact tb243_125 (l0 := l0) (l1 := l1) (l2 := l2) (l3 := l3) (l4 := s0) (l5 := x1) (l6 := (x3 + 1)) (l7 := x5) (s0 := 0) (s1 := l0) hd  hx8 hF q
  · rw [if_pos c12] at hF
    refine zx_iconst (v := 1) rfl rfl rfl ?_
    refine zx_goto rfl rfl ?_
    exact tb243_125 (l0 := l0) (l1 := l1) (l2 := l2) (l3 := l3) (l4 := s0) (l5 := x1) (l6 := (x3 + 1)) (l7 := x5) (s0 := 1) (s1 := l0) hd  hx8 hF q
def b243_69 (n : Nat)   (l0 : Nat) (l1 : Int32) (l2 : Int32) (l3 : Int32) (s0 : Int32) (s1 : Nat) (h : zH) : Option (Int32 × zH) :=
  zgd (isO h s1 11) <|
  (f200 n s1 s0 h).bind fun p3 =>
  (gI p3.2 l0 11 69).bind fun x4 =>
  if x4 = 3 then
    b243_85 n  l0 l1 l2 l3 1 p3.2
  else
    b243_85 n  l0 l1 l2 l3 0 p3.2
set_option maxRecDepth 20000 in
theorem tb243_69 {d n : Nat} {Q : zRs → zH → Prop}   {l0 : Nat} {l1 : Int32} {l2 : Int32} {l3 : Int32} {s0 : Int32} {s1 : Nat} {x4 : Option Value} {x5 : Option Value} {x6 : Option Value} {x7 : Option Value} {x8 : Option Value} (hd : 6 ≤ d)   {h : zH} {p : (Int32 × zH)} (hx4 : zn2 x4 = true) (hx5 : zn2 x5 = true) (hx6 : zn2 x6 = true) (hx7 : zn2 x7 = true) (hx8 : zn2 x8 = true) (hF : b243_69 n   l0 l1 l2 l3 s0 s1 h = some p) (q : Q (eI p.1) p.2) : zW d 243 69 [some (.ref l0), some (.int l1), some (.int l2), some (.int l3), x4, x5, x6, x7, x8] [.int s0, .ref s1] h Q := by
  unfold b243_69 at hF
  obtain ⟨d, rfl⟩ : ∃ e, d = e + 1 := ⟨d - 1, by omega⟩
  replace hF := zgd_some hF
  obtain ⟨g1, hF⟩ := hF
  replace hF := zbnd hF
  obtain ⟨p3, e2, hF⟩ := hF
  refine zx_callE rfl rfl rfl rfl (zrcv_isO g1) rfl rfl (zc4 (Nat.le_of_ble_eq_true rfl)) (t200 (by omega) e2 (zaV ?_))
  refine zx_aload_n rfl rfl rfl ?_
  replace hF := zbnd hF
  obtain ⟨x4, e5, hF⟩ := hF
  refine zy_getI rfl rfl e5 ?_
  refine zx_iconst (v := 3) rfl rfl rfl ?_
  refine zx_ic_ne rfl rfl (fun c6 => ?_) (fun c6 => ?_)
  · rw [if_neg c6] at hF
    refine zx_iconst (v := 0) rfl rfl rfl ?_
    exact tb243_85 (l0 := l0) (l1 := l1) (l2 := l2) (l3 := l3) (s0 := 0) hd  hx4 hx5 hx6 hx7 hx8 hF q
  · rw [if_pos c6] at hF
    refine zx_iconst (v := 1) rfl rfl rfl ?_
    refine zx_goto rfl rfl ?_
    exact tb243_85 (l0 := l0) (l1 := l1) (l2 := l2) (l3 := l3) (s0 := 1) hd  hx4 hx5 hx6 hx7 hx8 hF q
def b243_64 (n : Nat)   (l0 : Nat) (l1 : Int32) (l2 : Int32) (l3 : Int32) (s0 : Nat) (h : zH) : Option (Int32 × zH) :=
  b243_69 n  l0 l1 l2 l3 1 s0 h
set_option maxRecDepth 20000 in
theorem tb243_64 {d n : Nat} {Q : zRs → zH → Prop}   {l0 : Nat} {l1 : Int32} {l2 : Int32} {l3 : Int32} {s0 : Nat} {x4 : Option Value} {x5 : Option Value} {x6 : Option Value} {x7 : Option Value} {x8 : Option Value} (hd : 6 ≤ d)   {h : zH} {p : (Int32 × zH)} (hx4 : zn2 x4 = true) (hx5 : zn2 x5 = true) (hx6 : zn2 x6 = true) (hx7 : zn2 x7 = true) (hx8 : zn2 x8 = true) (hF : b243_64 n   l0 l1 l2 l3 s0 h = some p) (q : Q (eI p.1) p.2) : zW d 243 64 [some (.ref l0), some (.int l1), some (.int l2), some (.int l3), x4, x5, x6, x7, x8] [.ref s0] h Q := by
  unfold b243_64 at hF
  obtain ⟨d, rfl⟩ : ∃ e, d = e + 1 := ⟨d - 1, by omega⟩
  refine zx_iconst (v := 1) rfl rfl rfl ?_
  refine zx_goto rfl rfl ?_
  exact tb243_69 (l0 := l0) (l1 := l1) (l2 := l2) (l3 := l3) (s0 := 1) (s1 := s0) hd  hx4 hx5 hx6 hx7 hx8 hF q
def f243 (n : Nat)  (y0 : Nat) (h : zH) : Option (Int32 × zH) :=
  (pF h y0 11 68 (.int 0)).bind fun h1 =>
  (pF h1 y0 11 73 (.int (-1))).bind fun h3 =>
  (gI h3 y0 11 64).bind fun x5 =>
  zgd (isO h3 y0 11) <|
  (f190 n y0 h3).bind fun p9 =>
  zgd (isO p9.2 y0 11) <|
  (f203 n y0 p9.2).bind fun p12 =>
  zgd (isO p12.2 y0 11) <|
  (f200 n y0 p12.1 p12.2).bind fun p15 =>
  (gI p15.2 y0 11 70).bind fun x16 =>
  (gI p15.2 y0 11 71).bind fun x18 =>
  zgd (isO p15.2 y0 11) <|
  (f190 n y0 p15.2).bind fun p22 =>
  zgd (isO p22.2 y0 11) <|
  (f208 n y0 61 p22.2).bind fun p25 =>
  (gI p25.2 y0 11 69).bind fun x26 =>
  if x26 = 2 then
    b243_64 n  y0 x5 x16 x18 y0 p25.2
  else
    (gI p25.2 y0 11 69).bind fun x29 =>
    if x29 = 3 then
      b243_64 n  y0 x5 x16 x18 y0 p25.2
    else
      b243_69 n  y0 x5 x16 x18 0 y0 p25.2
set_option maxRecDepth 20000 in
theorem t243 {d n : Nat} {Q : zRs → zH → Prop}  {y0 : Nat} (hd : 6 ≤ d)  {h : zH} {p : (Int32 × zH)} (hF : f243 n  y0 h = some p) (q : Q (eI p.1) p.2) : zC d 243 [.ref y0] h Q := by
  refine zC_of (L := [some (.ref y0), none, none, none, none, none, none, none, none]) rfl rfl ?_
  unfold f243 at hF
  obtain ⟨d, rfl⟩ : ∃ e, d = e + 1 := ⟨d - 1, by omega⟩
  refine zx_aload_n rfl rfl rfl ?_
  refine zx_iconst (v := 0) rfl rfl rfl ?_
  replace hF := zbnd hF
  obtain ⟨h1, e2, hF⟩ := hF
  refine zy_put rfl rfl e2 ?_
  refine zx_aload_n rfl rfl rfl ?_
  refine zx_iconst (v := (-1)) rfl rfl rfl ?_
  replace hF := zbnd hF
  obtain ⟨h3, e4, hF⟩ := hF
  refine zy_put rfl rfl e4 ?_
  refine zx_aload_n rfl rfl rfl ?_
  replace hF := zbnd hF
  obtain ⟨x5, e6, hF⟩ := hF
  refine zy_getI rfl rfl e6 ?_
  refine zx_istore_n rfl rfl rfl ?_
  refine zx_aload_n rfl rfl rfl ?_
  replace hF := zgd_some hF
  obtain ⟨g7, hF⟩ := hF
  replace hF := zbnd hF
  obtain ⟨p9, e8, hF⟩ := hF
  refine zx_callE rfl rfl rfl rfl (zrcv_isO g7) rfl rfl (zc4 (Nat.le_of_ble_eq_true rfl)) (t190 (by omega) e8 (zaV ?_))
  refine zx_aload_n rfl rfl rfl ?_
  refine zx_aload_n rfl rfl rfl ?_
  replace hF := zgd_some hF
  obtain ⟨g10, hF⟩ := hF
  replace hF := zbnd hF
  obtain ⟨p12, e11, hF⟩ := hF
  refine zx_callE rfl rfl rfl rfl (zrcv_isO g10) rfl rfl (zc4 (Nat.le_of_ble_eq_true rfl)) (t203 (by omega) e11 (zaI ?_))
  replace hF := zgd_some hF
  obtain ⟨g13, hF⟩ := hF
  replace hF := zbnd hF
  obtain ⟨p15, e14, hF⟩ := hF
  refine zx_callE rfl rfl rfl rfl (zrcv_isO g13) rfl rfl (zc4 (Nat.le_of_ble_eq_true rfl)) (t200 (by omega) e14 (zaV ?_))
  refine zx_aload_n rfl rfl rfl ?_
  replace hF := zbnd hF
  obtain ⟨x16, e17, hF⟩ := hF
  refine zy_getI rfl rfl e17 ?_
  refine zx_istore_n rfl rfl rfl ?_
  refine zx_aload_n rfl rfl rfl ?_
  replace hF := zbnd hF
  obtain ⟨x18, e19, hF⟩ := hF
  refine zy_getI rfl rfl e19 ?_
  refine zx_istore_n rfl rfl rfl ?_
  refine zx_aload_n rfl rfl rfl ?_
  replace hF := zgd_some hF
  obtain ⟨g20, hF⟩ := hF
  replace hF := zbnd hF
  obtain ⟨p22, e21, hF⟩ := hF
  refine zx_callE rfl rfl rfl rfl (zrcv_isO g20) rfl rfl (zc4 (Nat.le_of_ble_eq_true rfl)) (t190 (by omega) e21 (zaV ?_))
  refine zx_aload_n rfl rfl rfl ?_
  refine zx_bipush (v := 61) rfl rfl rfl ?_
  replace hF := zgd_some hF
  obtain ⟨g23, hF⟩ := hF
  replace hF := zbnd hF
  obtain ⟨p25, e24, hF⟩ := hF
  refine zx_callE rfl rfl rfl rfl (zrcv_isO g23) rfl rfl (zc4 (Nat.le_of_ble_eq_true rfl)) (t208 (by omega) e24 (zaV ?_))
  refine zx_aload_n rfl rfl rfl ?_
  refine zx_aload_n rfl rfl rfl ?_
  replace hF := zbnd hF
  obtain ⟨x26, e27, hF⟩ := hF
  refine zy_getI rfl rfl e27 ?_
  refine zx_iconst (v := 2) rfl rfl rfl ?_
  refine zx_ic_eq rfl rfl (fun c28 => ?_) (fun c28 => ?_)
  · rw [if_pos c28] at hF
    exact tb243_64 (l0 := y0) (l1 := x5) (l2 := x16) (l3 := x18) (s0 := y0) hd  rfl rfl rfl rfl rfl hF q
  · rw [if_neg c28] at hF
    refine zx_aload_n rfl rfl rfl ?_
    replace hF := zbnd hF
    obtain ⟨x29, e30, hF⟩ := hF
    refine zy_getI rfl rfl e30 ?_
    refine zx_iconst (v := 3) rfl rfl rfl ?_
    refine zx_ic_ne rfl rfl (fun c31 => ?_) (fun c31 => ?_)
    · rw [if_neg c31] at hF
      refine zx_iconst (v := 0) rfl rfl rfl ?_
      exact tb243_69 (l0 := y0) (l1 := x5) (l2 := x16) (l3 := x18) (s0 := 0) (s1 := y0) hd  rfl rfl rfl rfl rfl hF q
    · rw [if_pos c31] at hF
      exact tb243_64 (l0 := y0) (l1 := x5) (l2 := x16) (l3 := x18) (s0 := y0) hd  rfl rfl rfl rfl rfl hF q
def f244 (n : Nat)  (y0 : Nat) (h : zH) : Option (Int32 × zH) :=
  (pF h y0 11 0 (.int 0)).bind fun h1 =>
  (gI h1 y0 11 65).bind fun x3 =>
  (pF h1 y0 11 65 (.int 0)).bind fun h5 =>
  some (x3, h5)
set_option maxRecDepth 20000 in
theorem t244 {d n : Nat} {Q : zRs → zH → Prop}  {y0 : Nat} (hd : 0 ≤ d)  {h : zH} {p : (Int32 × zH)} (hF : f244 n  y0 h = some p) (q : Q (eI p.1) p.2) : zC d 244 [.ref y0] h Q := by
  refine zC_of (L := [some (.ref y0), none]) rfl rfl ?_
  unfold f244 at hF
  refine zx_aload_n rfl rfl rfl ?_
  refine zx_iconst (v := 0) rfl rfl rfl ?_
  replace hF := zbnd hF
  obtain ⟨h1, e2, hF⟩ := hF
  refine zy_put rfl rfl e2 ?_
  refine zx_aload_n rfl rfl rfl ?_
  replace hF := zbnd hF
  obtain ⟨x3, e4, hF⟩ := hF
  refine zy_getI rfl rfl e4 ?_
  refine zx_istore_n rfl rfl rfl ?_
  refine zx_aload_n rfl rfl rfl ?_
  refine zx_iconst (v := 0) rfl rfl rfl ?_
  replace hF := zbnd hF
  obtain ⟨h5, e6, hF⟩ := hF
  refine zy_put rfl rfl e6 ?_
  refine zx_iload_n rfl rfl rfl ?_
  replace hF := Option.some.inj hF
  subst hF
  exact zx_bret rfl rfl rfl rfl q
def f245 (n : Nat)  (y0 : Nat) (y1 : Int32) (h : zH) : Option (Int32 × zH) :=
  (f187 n y1 0 2 h).bind fun p2 =>
  zgd (isO p2.2 y0 11) <|
  (f185 n y0 p2.1 p2.2).bind fun p5 =>
  if p5.1 = 0 then
    some (0, p5.2)
  else
    (gI p5.2 y0 11 2).bind fun x7 =>
    (pF p5.2 y0 11 2 (.int 0)).bind fun h9 =>
    if y1 = 0 then
      (gR h9 y0 11 9).bind fun x12 =>
      (gI h9 y0 11 3).bind fun x14 =>
      (gR h9 y0 11 8).bind fun x16 =>
      (gI h9 y0 11 3).bind fun x18 =>
      x16.bind fun a20 =>
      (aI h9 a20 x18).bind fun x21 =>
      zgd (isO h9 y0 11) <|
      (f204 n y0 x12 (12 * x14) x21 0 x7 h9).bind fun p25 =>
      some (p25.1, p25.2)
    else
      if y1 = 1 then
        (gR h9 y0 11 14).bind fun x27 =>
        (gI h9 y0 11 3).bind fun x29 =>
        (gR h9 y0 11 13).bind fun x31 =>
        (gI h9 y0 11 3).bind fun x33 =>
        x31.bind fun a35 =>
        (aI h9 a35 x33).bind fun x36 =>
        zgd (isO h9 y0 11) <|
        (f204 n y0 x27 (24 * x29) x36 0 x7 h9).bind fun p40 =>
        some (p40.1, p40.2)
      else
        (gR h9 y0 11 30).bind fun x41 =>
        (gI h9 y0 11 3).bind fun x43 =>
        (gR h9 y0 11 29).bind fun x45 =>
        (gI h9 y0 11 3).bind fun x47 =>
        x45.bind fun a49 =>
        (aI h9 a49 x47).bind fun x50 =>
        zgd (isO h9 y0 11) <|
        (f204 n y0 x41 (8 * x43) x50 0 x7 h9).bind fun p54 =>
        some (p54.1, p54.2)
set_option maxRecDepth 20000 in
theorem t245 {d n : Nat} {Q : zRs → zH → Prop}  {y0 : Nat} {y1 : Int32} (hd : 2 ≤ d)  {h : zH} {p : (Int32 × zH)} (hF : f245 n  y0 y1 h = some p) (q : Q (eI p.1) p.2) : zC d 245 [.ref y0, .int y1] h Q := by
  refine zC_of (L := [some (.ref y0), some (.int y1), none]) rfl rfl ?_
  unfold f245 at hF
  obtain ⟨d, rfl⟩ : ∃ e, d = e + 1 := ⟨d - 1, by omega⟩
  refine zx_aload_n rfl rfl rfl ?_
  refine zx_iload_n rfl rfl rfl ?_
  refine zx_iconst (v := 0) rfl rfl rfl ?_
  refine zx_iconst (v := 2) rfl rfl rfl ?_
  replace hF := zbnd hF
  obtain ⟨p2, e1, hF⟩ := hF
  refine zx_callE rfl rfl rfl rfl rfl rfl rfl (zc4 (Nat.le_of_ble_eq_true rfl)) (t187 (by omega) e1 (zaI ?_))
  replace hF := zgd_some hF
  obtain ⟨g3, hF⟩ := hF
  replace hF := zbnd hF
  obtain ⟨p5, e4, hF⟩ := hF
  refine zx_callE rfl rfl rfl rfl (zrcv_isO g3) rfl rfl (zc4 (Nat.le_of_ble_eq_true rfl)) (t185 (by omega) e4 (zaI ?_))
  refine zx_if_ne rfl rfl (fun c6 => ?_) (fun c6 => ?_)
  · rw [if_neg c6] at hF
    refine zx_aload_n rfl rfl rfl ?_
    replace hF := zbnd hF
    obtain ⟨x7, e8, hF⟩ := hF
    refine zy_getI rfl rfl e8 ?_
    refine zx_istore_n rfl rfl rfl ?_
    refine zx_aload_n rfl rfl rfl ?_
    refine zx_iconst (v := 0) rfl rfl rfl ?_
    replace hF := zbnd hF
    obtain ⟨h9, e10, hF⟩ := hF
    refine zy_put rfl rfl e10 ?_
    refine zx_iload_n rfl rfl rfl ?_
    refine zx_if_ne rfl rfl (fun c11 => ?_) (fun c11 => ?_)
    · rw [if_neg c11] at hF
      refine zx_iload_n rfl rfl rfl ?_
      refine zx_iconst (v := 1) rfl rfl rfl ?_
      refine zx_ic_ne rfl rfl (fun c26 => ?_) (fun c26 => ?_)
      · rw [if_neg c26] at hF
        refine zx_aload_n rfl rfl rfl ?_
        refine zx_aload_n rfl rfl rfl ?_
        replace hF := zbnd hF
        obtain ⟨x41, e42, hF⟩ := hF
        refine zy_getR rfl rfl e42 ?_
        refine zx_bipush (v := 8) rfl rfl rfl ?_
        refine zx_aload_n rfl rfl rfl ?_
        replace hF := zbnd hF
        obtain ⟨x43, e44, hF⟩ := hF
        refine zy_getI rfl rfl e44 ?_
        refine zx_imul rfl rfl ?_
        refine zx_aload_n rfl rfl rfl ?_
        replace hF := zbnd hF
        obtain ⟨x45, e46, hF⟩ := hF
        refine zy_getR rfl rfl e46 ?_
        refine zx_aload_n rfl rfl rfl ?_
        replace hF := zbnd hF
        obtain ⟨x47, e48, hF⟩ := hF
        refine zy_getI rfl rfl e48 ?_
        replace hF := zbnd hF
        obtain ⟨a49, rfl, hF⟩ := hF
        replace hF := zbnd hF
        obtain ⟨x50, e51, hF⟩ := hF
        refine zy_aI rfl rfl e51 ?_
        refine zx_iconst (v := 0) rfl rfl rfl ?_
        refine zx_iload_n rfl rfl rfl ?_
        replace hF := zgd_some hF
        obtain ⟨g52, hF⟩ := hF
        replace hF := zbnd hF
        obtain ⟨p54, e53, hF⟩ := hF
        refine zx_callE rfl rfl rfl rfl (zrcv_isO g52) (congrArg (List.cons _) ((zsl_rf _ _).trans (congrArg (List.cons _) rfl))) rfl (zc4 (Nat.le_of_ble_eq_true rfl)) (t204 (by omega) e53 (zaI ?_))
        replace hF := Option.some.inj hF
        subst hF
        exact zx_bret rfl rfl rfl rfl q
      · rw [if_pos c26] at hF
        refine zx_aload_n rfl rfl rfl ?_
        refine zx_aload_n rfl rfl rfl ?_
        replace hF := zbnd hF
        obtain ⟨x27, e28, hF⟩ := hF
        refine zy_getR rfl rfl e28 ?_
        refine zx_bipush (v := 24) rfl rfl rfl ?_
        refine zx_aload_n rfl rfl rfl ?_
        replace hF := zbnd hF
        obtain ⟨x29, e30, hF⟩ := hF
        refine zy_getI rfl rfl e30 ?_
        refine zx_imul rfl rfl ?_
        refine zx_aload_n rfl rfl rfl ?_
        replace hF := zbnd hF
        obtain ⟨x31, e32, hF⟩ := hF
        refine zy_getR rfl rfl e32 ?_
        refine zx_aload_n rfl rfl rfl ?_
        replace hF := zbnd hF
        obtain ⟨x33, e34, hF⟩ := hF
        refine zy_getI rfl rfl e34 ?_
        replace hF := zbnd hF
        obtain ⟨a35, rfl, hF⟩ := hF
        replace hF := zbnd hF
        obtain ⟨x36, e37, hF⟩ := hF
        refine zy_aI rfl rfl e37 ?_
        refine zx_iconst (v := 0) rfl rfl rfl ?_
        refine zx_iload_n rfl rfl rfl ?_
        replace hF := zgd_some hF
        obtain ⟨g38, hF⟩ := hF
        replace hF := zbnd hF
        obtain ⟨p40, e39, hF⟩ := hF
        refine zx_callE rfl rfl rfl rfl (zrcv_isO g38) (congrArg (List.cons _) ((zsl_rf _ _).trans (congrArg (List.cons _) rfl))) rfl (zc4 (Nat.le_of_ble_eq_true rfl)) (t204 (by omega) e39 (zaI ?_))
        refine zx_goto rfl rfl ?_
        replace hF := Option.some.inj hF
        subst hF
        exact zx_bret rfl rfl rfl rfl q
    · rw [if_pos c11] at hF
      refine zx_aload_n rfl rfl rfl ?_
      refine zx_aload_n rfl rfl rfl ?_
      replace hF := zbnd hF
      obtain ⟨x12, e13, hF⟩ := hF
      refine zy_getR rfl rfl e13 ?_
      refine zx_bipush (v := 12) rfl rfl rfl ?_
      refine zx_aload_n rfl rfl rfl ?_
      replace hF := zbnd hF
      obtain ⟨x14, e15, hF⟩ := hF
      refine zy_getI rfl rfl e15 ?_
      refine zx_imul rfl rfl ?_
      refine zx_aload_n rfl rfl rfl ?_
      replace hF := zbnd hF
      obtain ⟨x16, e17, hF⟩ := hF
      refine zy_getR rfl rfl e17 ?_
      refine zx_aload_n rfl rfl rfl ?_
      replace hF := zbnd hF
      obtain ⟨x18, e19, hF⟩ := hF
      refine zy_getI rfl rfl e19 ?_
      replace hF := zbnd hF
      obtain ⟨a20, rfl, hF⟩ := hF
      replace hF := zbnd hF
      obtain ⟨x21, e22, hF⟩ := hF
      refine zy_aI rfl rfl e22 ?_
      refine zx_iconst (v := 0) rfl rfl rfl ?_
      refine zx_iload_n rfl rfl rfl ?_
      replace hF := zgd_some hF
      obtain ⟨g23, hF⟩ := hF
      replace hF := zbnd hF
      obtain ⟨p25, e24, hF⟩ := hF
      refine zx_callE rfl rfl rfl rfl (zrcv_isO g23) (congrArg (List.cons _) ((zsl_rf _ _).trans (congrArg (List.cons _) rfl))) rfl (zc4 (Nat.le_of_ble_eq_true rfl)) (t204 (by omega) e24 (zaI ?_))
      replace hF := Option.some.inj hF
      subst hF
      exact zx_bret rfl rfl rfl rfl q
  · rw [if_pos c6] at hF
    refine zx_iconst (v := 0) rfl rfl rfl ?_
    replace hF := Option.some.inj hF
    subst hF
    exact zx_bret rfl rfl rfl rfl q
def b246_128 (n : Nat)   (l0 : Nat) (l1 : Int32) (l2 : Int32) (l3 : Int32) (l4 : Int32) (s0 : Int32) (h : zH) : Option (Int32 × zH) :=
  if l3 = (-1) then
    (gR h l0 11 6).bind fun x2 =>
    x2.bind fun a4 =>
    (aI h a4 s0).bind fun x5 =>
    some (x5, h)
  else
    (gR h l0 11 6).bind fun x7 =>
    x7.bind fun a9 =>
    (aI h a9 s0).bind fun x10 =>
    (f187 n l3 0 (x10 - 1) h).bind fun p13 =>
    zgd (isO p13.2 l0 11) <|
    (f185 n l0 p13.1 p13.2).bind fun p16 =>
    if p16.1 = 0 then
      some (0, p16.2)
    else
      (gR p16.2 l0 11 7).bind fun x18 =>
      x18.bind fun a20 =>
      (aB p16.2 a20 ((16 * s0) + l3)).bind fun x21 =>
      some ((x21 &&& 255), p16.2)
set_option maxRecDepth 20000 in
theorem tb246_128 {d n : Nat} {Q : zRs → zH → Prop}   {l0 : Nat} {l1 : Int32} {l2 : Int32} {l3 : Int32} {l4 : Int32} {s0 : Int32} {x5 : Option Value} (hd : 1 ≤ d)   {h : zH} {p : (Int32 × zH)} (hx5 : zn2 x5 = true) (hF : b246_128 n   l0 l1 l2 l3 l4 s0 h = some p) (q : Q (eI p.1) p.2) : zW d 246 128 [some (.ref l0), some (.int l1), some (.int l2), some (.int l3), some (.int l4), x5] [.int s0] h Q := by
  unfold b246_128 at hF
  obtain ⟨d, rfl⟩ : ∃ e, d = e + 1 := ⟨d - 1, by omega⟩
  refine zx_istore rfl rfl rfl ?_
  refine zx_iload_n rfl rfl rfl ?_
  refine zx_iconst (v := (-1)) rfl rfl rfl ?_
  refine zx_ic_ne rfl rfl (fun c1 => ?_) (fun c1 => ?_)
  · rw [if_neg c1] at hF
    refine zx_aload_n rfl rfl rfl ?_
    refine zx_iload_n rfl rfl rfl ?_
    refine zx_iconst (v := 0) rfl rfl rfl ?_
    refine zx_aload_n rfl rfl rfl ?_
    replace hF := zbnd hF
    obtain ⟨x7, e8, hF⟩ := hF
    refine zy_getR rfl rfl e8 ?_
    refine zx_iload rfl rfl rfl ?_
    replace hF := zbnd hF
    obtain ⟨a9, rfl, hF⟩ := hF
    replace hF := zbnd hF
    obtain ⟨x10, e11, hF⟩ := hF
    refine zy_aI rfl rfl e11 ?_
    refine zx_iconst (v := 1) rfl rfl rfl ?_
    refine zx_isub rfl rfl ?_
    replace hF := zbnd hF
    obtain ⟨p13, e12, hF⟩ := hF
    refine zx_callE rfl rfl rfl rfl rfl rfl rfl (zc4 (Nat.le_of_ble_eq_true rfl)) (t187 (by omega) e12 (zaI ?_))
    replace hF := zgd_some hF
    obtain ⟨g14, hF⟩ := hF
    replace hF := zbnd hF
    obtain ⟨p16, e15, hF⟩ := hF
    refine zx_callE rfl rfl rfl rfl (zrcv_isO g14) rfl rfl (zc4 (Nat.le_of_ble_eq_true rfl)) (t185 (by omega) e15 (zaI ?_))
    refine zx_if_eq rfl rfl (fun c17 => ?_) (fun c17 => ?_)
    · rw [if_pos c17] at hF
      refine zx_iconst (v := 0) rfl rfl rfl ?_
      replace hF := Option.some.inj hF
      subst hF
      exact zx_bret rfl rfl rfl rfl q
    · rw [if_neg c17] at hF
      refine zx_aload_n rfl rfl rfl ?_
      replace hF := zbnd hF
      obtain ⟨x18, e19, hF⟩ := hF
      refine zy_getR rfl rfl e19 ?_
      refine zx_bipush (v := 16) rfl rfl rfl ?_
      refine zx_iload rfl rfl rfl ?_
      refine zx_imul rfl rfl ?_
      refine zx_iload_n rfl rfl rfl ?_
      refine zx_iadd rfl rfl ?_
      replace hF := zbnd hF
      obtain ⟨a20, rfl, hF⟩ := hF
      replace hF := zbnd hF
      obtain ⟨x21, e22, hF⟩ := hF
      refine zy_aB rfl rfl e22 ?_
      refine zx_sipush (v := 255) rfl rfl rfl ?_
      refine zx_iand rfl rfl ?_
      refine zx_goto rfl rfl ?_
      replace hF := Option.some.inj hF
      subst hF
      exact zx_bret rfl rfl rfl rfl q
  · rw [if_pos c1] at hF
    refine zx_aload_n rfl rfl rfl ?_
    replace hF := zbnd hF
    obtain ⟨x2, e3, hF⟩ := hF
    refine zy_getR rfl rfl e3 ?_
    refine zx_iload rfl rfl rfl ?_
    replace hF := zbnd hF
    obtain ⟨a4, rfl, hF⟩ := hF
    replace hF := zbnd hF
    obtain ⟨x5, e6, hF⟩ := hF
    refine zy_aI rfl rfl e6 ?_
    replace hF := Option.some.inj hF
    subst hF
    exact zx_bret rfl rfl rfl rfl q
def b246_51 (n : Nat)   (l0 : Nat) (l1 : Int32) (l2 : Int32) (l3 : Int32) (s0 : Int32) (h : zH) : Option (Int32 × zH) :=
  (f187 n l2 0 (s0 - 1) h).bind fun p2 =>
  zgd (isO p2.2 l0 11) <|
  (f185 n l0 p2.1 p2.2).bind fun p5 =>
  if p5.1 = 0 then
    some (0, p5.2)
  else
    if l1 = 0 then
      (gR p5.2 l0 11 9).bind fun x8 =>
      (gI p5.2 l0 11 3).bind fun x10 =>
      x8.bind fun a12 =>
      (aI p5.2 a12 ((12 * x10) + l2)).bind fun x13 =>
      b246_128 n  l0 l1 l2 l3 s0 x13 p5.2
    else
      if l1 = 1 then
        (gR p5.2 l0 11 14).bind fun x16 =>
        (gI p5.2 l0 11 3).bind fun x18 =>
        x16.bind fun a20 =>
        (aI p5.2 a20 ((24 * x18) + l2)).bind fun x21 =>
        b246_128 n  l0 l1 l2 l3 s0 x21 p5.2
      else
        (gR p5.2 l0 11 30).bind fun x23 =>
        (gI p5.2 l0 11 3).bind fun x25 =>
        x23.bind fun a27 =>
        (aI p5.2 a27 ((8 * x25) + l2)).bind fun x28 =>
        b246_128 n  l0 l1 l2 l3 s0 x28 p5.2
set_option maxRecDepth 20000 in
theorem tb246_51 {d n : Nat} {Q : zRs → zH → Prop}   {l0 : Nat} {l1 : Int32} {l2 : Int32} {l3 : Int32} {s0 : Int32} {x4 : Option Value} {x5 : Option Value} (hd : 1 ≤ d)   {h : zH} {p : (Int32 × zH)} (hx4 : zn2 x4 = true) (hx5 : zn2 x5 = true) (hF : b246_51 n   l0 l1 l2 l3 s0 h = some p) (q : Q (eI p.1) p.2) : zW d 246 51 [some (.ref l0), some (.int l1), some (.int l2), some (.int l3), x4, x5] [.int s0] h Q := by
  unfold b246_51 at hF
  obtain ⟨d, rfl⟩ : ∃ e, d = e + 1 := ⟨d - 1, by omega⟩
  refine zx_istore rfl rfl rfl ?_
  refine zx_aload_n rfl rfl rfl ?_
  refine zx_iload_n rfl rfl rfl ?_
  refine zx_iconst (v := 0) rfl rfl rfl ?_
  refine zx_iload rfl rfl rfl ?_
  refine zx_iconst (v := 1) rfl rfl rfl ?_
  refine zx_isub rfl rfl ?_
  replace hF := zbnd hF
  obtain ⟨p2, e1, hF⟩ := hF
  refine zx_callE rfl rfl rfl rfl rfl rfl rfl (zc4 (Nat.le_of_ble_eq_true rfl)) (t187 (by omega) e1 (zaI ?_))
  replace hF := zgd_some hF
  obtain ⟨g3, hF⟩ := hF
  replace hF := zbnd hF
  obtain ⟨p5, e4, hF⟩ := hF
  refine zx_callE rfl rfl rfl rfl (zrcv_isO g3) rfl rfl (zc4 (Nat.le_of_ble_eq_true rfl)) (t185 (by omega) e4 (zaI ?_))
  refine zx_if_ne rfl rfl (fun c6 => ?_) (fun c6 => ?_)
  · rw [if_neg c6] at hF
    refine zx_iload_n rfl rfl rfl ?_
    refine zx_if_ne rfl rfl (fun c7 => ?_) (fun c7 => ?_)
    · rw [if_neg c7] at hF
      refine zx_iload_n rfl rfl rfl ?_
      refine zx_iconst (v := 1) rfl rfl rfl ?_
      refine zx_ic_ne rfl rfl (fun c15 => ?_) (fun c15 => ?_)
      · rw [if_neg c15] at hF
        refine zx_aload_n rfl rfl rfl ?_
        replace hF := zbnd hF
        obtain ⟨x23, e24, hF⟩ := hF
        refine zy_getR rfl rfl e24 ?_
        refine zx_bipush (v := 8) rfl rfl rfl ?_
        refine zx_aload_n rfl rfl rfl ?_
        replace hF := zbnd hF
        obtain ⟨x25, e26, hF⟩ := hF
        refine zy_getI rfl rfl e26 ?_
        refine zx_imul rfl rfl ?_
        refine zx_iload_n rfl rfl rfl ?_
        refine zx_iadd rfl rfl ?_
        replace hF := zbnd hF
        obtain ⟨a27, rfl, hF⟩ := hF
        replace hF := zbnd hF
        obtain ⟨x28, e29, hF⟩ := hF
        refine zy_aI rfl rfl e29 ?_
        exact tb246_128 (l0 := l0) (l1 := l1) (l2 := l2) (l3 := l3) (l4 := s0) (s0 := x28) hd  hx5 hF q
      · rw [if_pos c15] at hF
        refine zx_aload_n rfl rfl rfl ?_
        replace hF := zbnd hF
        obtain ⟨x16, e17, hF⟩ := hF
        refine zy_getR rfl rfl e17 ?_
        refine zx_bipush (v := 24) rfl rfl rfl ?_
        refine zx_aload_n rfl rfl rfl ?_
        replace hF := zbnd hF
        obtain ⟨x18, e19, hF⟩ := hF
        refine zy_getI rfl rfl e19 ?_
        refine zx_imul rfl rfl ?_
        refine zx_iload_n rfl rfl rfl ?_
        refine zx_iadd rfl rfl ?_
        replace hF := zbnd hF
        obtain ⟨a20, rfl, hF⟩ := hF
        replace hF := zbnd hF
        obtain ⟨x21, e22, hF⟩ := hF
        refine zy_aI rfl rfl e22 ?_
        refine zx_goto rfl rfl ?_
        exact tb246_128 (l0 := l0) (l1 := l1) (l2 := l2) (l3 := l3) (l4 := s0) (s0 := x21) hd  hx5 hF q
    · rw [if_pos c7] at hF
      refine zx_aload_n rfl rfl rfl ?_
      replace hF := zbnd hF
      obtain ⟨x8, e9, hF⟩ := hF
      refine zy_getR rfl rfl e9 ?_
      refine zx_bipush (v := 12) rfl rfl rfl ?_
      refine zx_aload_n rfl rfl rfl ?_
      replace hF := zbnd hF
      obtain ⟨x10, e11, hF⟩ := hF
      refine zy_getI rfl rfl e11 ?_
      refine zx_imul rfl rfl ?_
      refine zx_iload_n rfl rfl rfl ?_
      refine zx_iadd rfl rfl ?_
      replace hF := zbnd hF
      obtain ⟨a12, rfl, hF⟩ := hF
      replace hF := zbnd hF
      obtain ⟨x13, e14, hF⟩ := hF
      refine zy_aI rfl rfl e14 ?_
      refine zx_goto rfl rfl ?_
      exact tb246_128 (l0 := l0) (l1 := l1) (l2 := l2) (l3 := l3) (l4 := s0) (s0 := x13) hd  hx5 hF q
  · rw [if_pos c6] at hF
    refine zx_iconst (v := 0) rfl rfl rfl ?_
    replace hF := Option.some.inj hF
    subst hF
    exact zx_bret rfl rfl rfl rfl q
def f246 (n : Nat)  (y0 : Nat) (y1 : Int32) (y2 : Int32) (y3 : Int32) (h : zH) : Option (Int32 × zH) :=
  if y1 = 0 then
    (gR h y0 11 8).bind fun x2 =>
    (gI h y0 11 3).bind fun x4 =>
    x2.bind fun a6 =>
    (aI h a6 x4).bind fun x7 =>
    b246_51 n  y0 y1 y2 y3 x7 h
  else
    if y1 = 1 then
      (gR h y0 11 13).bind fun x10 =>
      (gI h y0 11 3).bind fun x12 =>
      x10.bind fun a14 =>
      (aI h a14 x12).bind fun x15 =>
      b246_51 n  y0 y1 y2 y3 x15 h
    else
      if y1 = 2 then
        (gR h y0 11 29).bind fun x18 =>
        (gI h y0 11 3).bind fun x20 =>
        x18.bind fun a22 =>
        (aI h a22 x20).bind fun x23 =>
        b246_51 n  y0 y1 y2 y3 x23 h
      else
        b246_51 n  y0 y1 y2 y3 0 h
set_option maxRecDepth 20000 in
theorem t246 {d n : Nat} {Q : zRs → zH → Prop}  {y0 : Nat} {y1 : Int32} {y2 : Int32} {y3 : Int32} (hd : 1 ≤ d)  {h : zH} {p : (Int32 × zH)} (hF : f246 n  y0 y1 y2 y3 h = some p) (q : Q (eI p.1) p.2) : zC d 246 [.ref y0, .int y1, .int y2, .int y3] h Q := by
  refine zC_of (L := [some (.ref y0), some (.int y1), some (.int y2), some (.int y3), none, none]) rfl rfl ?_
  unfold f246 at hF
  obtain ⟨d, rfl⟩ : ∃ e, d = e + 1 := ⟨d - 1, by omega⟩
  refine zx_iload_n rfl rfl rfl ?_
  refine zx_if_ne rfl rfl (fun c1 => ?_) (fun c1 => ?_)
  · rw [if_neg c1] at hF
    refine zx_iload_n rfl rfl rfl ?_
    refine zx_iconst (v := 1) rfl rfl rfl ?_
    refine zx_ic_ne rfl rfl (fun c9 => ?_) (fun c9 => ?_)
    · rw [if_neg c9] at hF
      refine zx_iload_n rfl rfl rfl ?_
      refine zx_iconst (v := 2) rfl rfl rfl ?_
      refine zx_ic_ne rfl rfl (fun c17 => ?_) (fun c17 => ?_)
      · rw [if_neg c17] at hF
        refine zx_iconst (v := 0) rfl rfl rfl ?_
        exact tb246_51 (l0 := y0) (l1 := y1) (l2 := y2) (l3 := y3) (s0 := 0) hd  rfl rfl hF q
      · rw [if_pos c17] at hF
        refine zx_aload_n rfl rfl rfl ?_
        replace hF := zbnd hF
        obtain ⟨x18, e19, hF⟩ := hF
        refine zy_getR rfl rfl e19 ?_
        refine zx_aload_n rfl rfl rfl ?_
        replace hF := zbnd hF
        obtain ⟨x20, e21, hF⟩ := hF
        refine zy_getI rfl rfl e21 ?_
        replace hF := zbnd hF
        obtain ⟨a22, rfl, hF⟩ := hF
        replace hF := zbnd hF
        obtain ⟨x23, e24, hF⟩ := hF
        refine zy_aI rfl rfl e24 ?_
        refine zx_goto rfl rfl ?_
        exact tb246_51 (l0 := y0) (l1 := y1) (l2 := y2) (l3 := y3) (s0 := x23) hd  rfl rfl hF q
    · rw [if_pos c9] at hF
      refine zx_aload_n rfl rfl rfl ?_
      replace hF := zbnd hF
      obtain ⟨x10, e11, hF⟩ := hF
      refine zy_getR rfl rfl e11 ?_
      refine zx_aload_n rfl rfl rfl ?_
      replace hF := zbnd hF
      obtain ⟨x12, e13, hF⟩ := hF
      refine zy_getI rfl rfl e13 ?_
      replace hF := zbnd hF
      obtain ⟨a14, rfl, hF⟩ := hF
      replace hF := zbnd hF
      obtain ⟨x15, e16, hF⟩ := hF
      refine zy_aI rfl rfl e16 ?_
      refine zx_goto rfl rfl ?_
      exact tb246_51 (l0 := y0) (l1 := y1) (l2 := y2) (l3 := y3) (s0 := x15) hd  rfl rfl hF q
  · rw [if_pos c1] at hF
    refine zx_aload_n rfl rfl rfl ?_
    replace hF := zbnd hF
    obtain ⟨x2, e3, hF⟩ := hF
    refine zy_getR rfl rfl e3 ?_
    refine zx_aload_n rfl rfl rfl ?_
    replace hF := zbnd hF
    obtain ⟨x4, e5, hF⟩ := hF
    refine zy_getI rfl rfl e5 ?_
    replace hF := zbnd hF
    obtain ⟨a6, rfl, hF⟩ := hF
    replace hF := zbnd hF
    obtain ⟨x7, e8, hF⟩ := hF
    refine zy_aI rfl rfl e8 ?_
    refine zx_goto rfl rfl ?_
    exact tb246_51 (l0 := y0) (l1 := y1) (l2 := y2) (l3 := y3) (s0 := x7) hd  rfl rfl hF q
def f248 (n : Nat)  (y0 : Nat) (y1 : Int32) (h : zH) : Option (Int32 × zH) :=
  (gR h y0 11 13).bind fun x1 =>
  (gI h y0 11 3).bind fun x3 =>
  x1.bind fun a5 =>
  (aI h a5 x3).bind fun x6 =>
  (f187 n y1 0 (x6 - 1) h).bind fun p9 =>
  zgd (zrtn .boolean p9.1) <|
  some (p9.1, p9.2)
set_option maxRecDepth 20000 in
theorem t248 {d n : Nat} {Q : zRs → zH → Prop}  {y0 : Nat} {y1 : Int32} (hd : 1 ≤ d)  {h : zH} {p : (Int32 × zH)} (hF : f248 n  y0 y1 h = some p) (q : Q (eI p.1) p.2) : zC d 248 [.ref y0, .int y1] h Q := by
  refine zC_of (L := [some (.ref y0), some (.int y1)]) rfl rfl ?_
  unfold f248 at hF
  obtain ⟨d, rfl⟩ : ∃ e, d = e + 1 := ⟨d - 1, by omega⟩
  refine zx_iload_n rfl rfl rfl ?_
  refine zx_iconst (v := 0) rfl rfl rfl ?_
  refine zx_aload_n rfl rfl rfl ?_
  replace hF := zbnd hF
  obtain ⟨x1, e2, hF⟩ := hF
  refine zy_getR rfl rfl e2 ?_
  refine zx_aload_n rfl rfl rfl ?_
  replace hF := zbnd hF
  obtain ⟨x3, e4, hF⟩ := hF
  refine zy_getI rfl rfl e4 ?_
  replace hF := zbnd hF
  obtain ⟨a5, rfl, hF⟩ := hF
  replace hF := zbnd hF
  obtain ⟨x6, e7, hF⟩ := hF
  refine zy_aI rfl rfl e7 ?_
  refine zx_iconst (v := 1) rfl rfl rfl ?_
  refine zx_isub rfl rfl ?_
  replace hF := zbnd hF
  obtain ⟨p9, e8, hF⟩ := hF
  refine zx_callE rfl rfl rfl rfl rfl rfl rfl (zc4 (Nat.le_of_ble_eq_true rfl)) (t187 (by omega) e8 (zaI ?_))
  replace hF := zgd_some hF
  obtain ⟨g10, hF⟩ := hF
  replace hF := Option.some.inj hF
  subst hF
  exact zx_bret rfl rfl rfl g10 q
def b249_58 (n : Nat)  (r10 : Nat → Int32 → Int32 → Int32 → zH → Option (Int32 × zH)) (l0 : Nat) (l1 : Int32) (l2 : Int32) (l3 : Int32) (s0 : Int32) (h : zH) : Option (Int32 × zH) :=
  r10 l0 l1 s0 (l3 + 1) h
set_option maxRecDepth 20000 in
theorem tb249_58 {d n : Nat} {Q : zRs → zH → Prop}  {r10 : Nat → Int32 → Int32 → Int32 → zH → Option (Int32 × zH)} {l0 : Nat} {l1 : Int32} {l2 : Int32} {l3 : Int32} {s0 : Int32}  (hd : 0 ≤ d)  (hr10 : ∀ {l0 : Nat} {l1 : Int32} {l2 : Int32} {l3 : Int32}   {h : zH} {p : (Int32 × zH)}, r10 l0 l1 l2 l3 h = some p → Q (eI p.1) p.2 → zW d 249 10 [some (.ref l0), some (.int l1), some (.int l2), some (.int l3)] [] h Q) {h : zH} {p : (Int32 × zH)}  (hF : b249_58 n  r10 l0 l1 l2 l3 s0 h = some p) (q : Q (eI p.1) p.2) : zW d 249 58 [some (.ref l0), some (.int l1), some (.int l2), some (.int l3)] [.int s0] h Q := by
  unfold b249_58 at hF
  refine zx_istore_n rfl rfl rfl ?_
  refine zx_iinc (w := 1) rfl rfl rfl rfl rfl ?_
  refine zx_goto rfl rfl ?_
  exact hr10  hF q
def b249_57 (n : Nat)  (r10 : Nat → Int32 → Int32 → Int32 → zH → Option (Int32 × zH)) (l0 : Nat) (l1 : Int32) (l2 : Int32) (l3 : Int32) (h : zH) : Option (Int32 × zH) :=
  b249_58 n r10 l0 l1 l2 l3 l2 h
set_option maxRecDepth 20000 in
theorem tb249_57 {d n : Nat} {Q : zRs → zH → Prop}  {r10 : Nat → Int32 → Int32 → Int32 → zH → Option (Int32 × zH)} {l0 : Nat} {l1 : Int32} {l2 : Int32} {l3 : Int32}   (hd : 0 ≤ d)  (hr10 : ∀ {l0 : Nat} {l1 : Int32} {l2 : Int32} {l3 : Int32}   {h : zH} {p : (Int32 × zH)}, r10 l0 l1 l2 l3 h = some p → Q (eI p.1) p.2 → zW d 249 10 [some (.ref l0), some (.int l1), some (.int l2), some (.int l3)] [] h Q) {h : zH} {p : (Int32 × zH)}  (hF : b249_57 n  r10 l0 l1 l2 l3 h = some p) (q : Q (eI p.1) p.2) : zW d 249 57 [some (.ref l0), some (.int l1), some (.int l2), some (.int l3)] [] h Q := by
  unfold b249_57 at hF
  refine zx_iload_n rfl rfl rfl ?_
  exact tb249_58 (l0 := l0) (l1 := l1) (l2 := l2) (l3 := l3) (s0 := l2) hd hr10  hF q
def b249_10 (n : Nat)  (r10 : Nat → Int32 → Int32 → Int32 → zH → Option (Int32 × zH)) (l0 : Nat) (l1 : Int32) (l2 : Int32) (l3 : Int32) (h : zH) : Option (Int32 × zH) :=
  (gI h l0 11 3).bind fun x1 =>
  (gR h l0 11 32).bind fun x3 =>
  (gI h l0 11 3).bind fun x5 =>
  x3.bind fun a7 =>
  (aI h a7 x5).bind fun x8 =>
  if ((100 * x1) + x8) ≤ l3 then
    some (l2, h)
  else
    (gR h l0 11 33).bind fun x11 =>
    x11.bind fun a13 =>
    (aI h a13 l3).bind fun x14 =>
    if x14 = l1 then
      (gR h l0 11 34).bind fun x17 =>
      x17.bind fun a19 =>
      (aI h a19 l3).bind fun x20 =>
      if x20 = (-1) then
        b249_58 n r10 l0 l1 l2 l3 (l2 + 1) h
      else
        b249_57 n r10 l0 l1 l2 l3 h
    else
      b249_57 n r10 l0 l1 l2 l3 h
set_option maxRecDepth 20000 in
theorem tb249_10 {d n : Nat} {Q : zRs → zH → Prop}  {r10 : Nat → Int32 → Int32 → Int32 → zH → Option (Int32 × zH)} {l0 : Nat} {l1 : Int32} {l2 : Int32} {l3 : Int32}   (hd : 0 ≤ d)  (hr10 : ∀ {l0 : Nat} {l1 : Int32} {l2 : Int32} {l3 : Int32}   {h : zH} {p : (Int32 × zH)}, r10 l0 l1 l2 l3 h = some p → Q (eI p.1) p.2 → zW d 249 10 [some (.ref l0), some (.int l1), some (.int l2), some (.int l3)] [] h Q) {h : zH} {p : (Int32 × zH)}  (hF : b249_10 n  r10 l0 l1 l2 l3 h = some p) (q : Q (eI p.1) p.2) : zW d 249 10 [some (.ref l0), some (.int l1), some (.int l2), some (.int l3)] [] h Q := by
  unfold b249_10 at hF
  refine zx_iload_n rfl rfl rfl ?_
  refine zx_bipush (v := 100) rfl rfl rfl ?_
  refine zx_aload_n rfl rfl rfl ?_
  replace hF := zbnd hF
  obtain ⟨x1, e2, hF⟩ := hF
  refine zy_getI rfl rfl e2 ?_
  refine zx_imul rfl rfl ?_
  refine zx_aload_n rfl rfl rfl ?_
  replace hF := zbnd hF
  obtain ⟨x3, e4, hF⟩ := hF
  refine zy_getR rfl rfl e4 ?_
  refine zx_aload_n rfl rfl rfl ?_
  replace hF := zbnd hF
  obtain ⟨x5, e6, hF⟩ := hF
  refine zy_getI rfl rfl e6 ?_
  replace hF := zbnd hF
  obtain ⟨a7, rfl, hF⟩ := hF
  replace hF := zbnd hF
  obtain ⟨x8, e9, hF⟩ := hF
  refine zy_aI rfl rfl e9 ?_
  refine zx_iadd rfl rfl ?_
  refine zx_ic_ge rfl rfl (fun c10 => ?_) (fun c10 => ?_)
  · rw [if_pos c10] at hF
    refine zx_iload_n rfl rfl rfl ?_
    replace hF := Option.some.inj hF
    subst hF
    exact zx_bret rfl rfl rfl rfl q
  · rw [if_neg c10] at hF
    refine zx_aload_n rfl rfl rfl ?_
    replace hF := zbnd hF
    obtain ⟨x11, e12, hF⟩ := hF
    refine zy_getR rfl rfl e12 ?_
    refine zx_iload_n rfl rfl rfl ?_
    replace hF := zbnd hF
    obtain ⟨a13, rfl, hF⟩ := hF
    replace hF := zbnd hF
    obtain ⟨x14, e15, hF⟩ := hF
    refine zy_aI rfl rfl e15 ?_
    refine zx_iload_n rfl rfl rfl ?_
    refine zx_ic_ne rfl rfl (fun c16 => ?_) (fun c16 => ?_)
    · rw [if_neg c16] at hF
      exact tb249_57 (l0 := l0) (l1 := l1) (l2 := l2) (l3 := l3) hd hr10  hF q
    · rw [if_pos c16] at hF
      refine zx_aload_n rfl rfl rfl ?_
      replace hF := zbnd hF
      obtain ⟨x17, e18, hF⟩ := hF
      refine zy_getR rfl rfl e18 ?_
      refine zx_iload_n rfl rfl rfl ?_
      replace hF := zbnd hF
      obtain ⟨a19, rfl, hF⟩ := hF
      replace hF := zbnd hF
      obtain ⟨x20, e21, hF⟩ := hF
      refine zy_aI rfl rfl e21 ?_
      refine zx_iconst (v := (-1)) rfl rfl rfl ?_
      refine zx_ic_ne rfl rfl (fun c22 => ?_) (fun c22 => ?_)
      · rw [if_neg c22] at hF
        exact tb249_57 (l0 := l0) (l1 := l1) (l2 := l2) (l3 := l3) hd hr10  hF q
      · rw [if_pos c22] at hF
        refine zx_iload_n rfl rfl rfl ?_
        refine zx_iconst (v := 1) rfl rfl rfl ?_
        refine zx_iadd rfl rfl ?_
        refine zx_goto rfl rfl ?_
        exact tb249_58 (l0 := l0) (l1 := l1) (l2 := l2) (l3 := l3) (s0 := (l2 + 1)) hd hr10  hF q
def f249_10 (n : Nat)   (k : Nat) : Nat → Int32 → Int32 → Int32 → zH → Option (Int32 × zH) := Nat.rec (fun _ _ _ _ _ => none) (fun _ ih => b249_10 n  ih) k
theorem tf249_10 {d n : Nat} {Q : zRs → zH → Prop}   (hd : 0 ≤ d)   (k : Nat) : ∀ {l0 : Nat} {l1 : Int32} {l2 : Int32} {l3 : Int32}   {h : zH} {p : (Int32 × zH)}, f249_10 n   k l0 l1 l2 l3 h = some p → Q (eI p.1) p.2 → zW d 249 10 [some (.ref l0), some (.int l1), some (.int l2), some (.int l3)] [] h Q := by
  induction k with
  | zero => intros; rename_i hF _; cases hF
  | succ k ih => intros; rename_i  hF q; exact tb249_10 (n := n) hd  ih  hF q
def f249 (n : Nat)  (y0 : Nat) (y1 : Int32) (h : zH) : Option (Int32 × zH) :=
  (gI h y0 11 3).bind fun x1 =>
  f249_10 n  n y0 y1 0 (100 * x1) h
set_option maxRecDepth 20000 in
theorem t249 {d n : Nat} {Q : zRs → zH → Prop}  {y0 : Nat} {y1 : Int32} (hd : 0 ≤ d)  {h : zH} {p : (Int32 × zH)} (hF : f249 n  y0 y1 h = some p) (q : Q (eI p.1) p.2) : zC d 249 [.ref y0, .int y1] h Q := by
  refine zC_of (L := [some (.ref y0), some (.int y1), none, none]) rfl rfl ?_
  unfold f249 at hF
  refine zx_iconst (v := 0) rfl rfl rfl ?_
  refine zx_istore_n rfl rfl rfl ?_
  refine zx_bipush (v := 100) rfl rfl rfl ?_
  refine zx_aload_n rfl rfl rfl ?_
  replace hF := zbnd hF
  obtain ⟨x1, e2, hF⟩ := hF
  refine zy_getI rfl rfl e2 ?_
  refine zx_imul rfl rfl ?_
  refine zx_istore_n rfl rfl rfl ?_
  exact tf249_10 hd  n (l0 := y0) (l1 := y1) (l2 := 0) (l3 := (100 * x1))  hF q
def b247_23 (n : Nat)   (l0 : Nat) (l1 : Int32) (l2 : Int32) (s0 : Int32) (s1 : Nat) (h : zH) : Option (Int32 × zH) :=
  zgd (isO h s1 11) <|
  (f185 n s1 s0 h).bind fun p3 =>
  if p3.1 = 0 then
    some (0, p3.2)
  else
    (gI p3.2 l0 11 3).bind fun x5 =>
    if l2 = 0 then
      (gR p3.2 l0 11 15).bind fun x8 =>
      x8.bind fun a10 =>
      (aI p3.2 a10 ((24 * x5) + l1)).bind fun x11 =>
      some (x11, p3.2)
    else
      if l2 = 1 then
        (gR p3.2 l0 11 16).bind fun x14 =>
        x14.bind fun a16 =>
        (aI p3.2 a16 ((24 * x5) + l1)).bind fun x17 =>
        some (x17, p3.2)
      else
        if l2 = 2 then
          (gR p3.2 l0 11 20).bind fun x20 =>
          x20.bind fun a22 =>
          (aI p3.2 a22 ((24 * x5) + l1)).bind fun x23 =>
          some (x23, p3.2)
        else
          if l2 = 3 then
            zgd (isO p3.2 l0 11) <|
            (f249 n l0 l1 p3.2).bind fun p28 =>
            some (p28.1, p28.2)
          else
            (gR p3.2 l0 11 19).bind fun x29 =>
            x29.bind fun a31 =>
            (aI p3.2 a31 ((24 * x5) + l1)).bind fun x32 =>
            some (x32, p3.2)
set_option maxRecDepth 20000 in
theorem tb247_23 {d n : Nat} {Q : zRs → zH → Prop}   {l0 : Nat} {l1 : Int32} {l2 : Int32} {s0 : Int32} {s1 : Nat} {x3 : Option Value} (hd : 2 ≤ d)   {h : zH} {p : (Int32 × zH)} (hx3 : zn2 x3 = true) (hF : b247_23 n   l0 l1 l2 s0 s1 h = some p) (q : Q (eI p.1) p.2) : zW d 247 23 [some (.ref l0), some (.int l1), some (.int l2), x3] [.int s0, .ref s1] h Q := by
  unfold b247_23 at hF
  obtain ⟨d, rfl⟩ : ∃ e, d = e + 1 := ⟨d - 1, by omega⟩
  replace hF := zgd_some hF
  obtain ⟨g1, hF⟩ := hF
  replace hF := zbnd hF
  obtain ⟨p3, e2, hF⟩ := hF
  refine zx_callE rfl rfl rfl rfl (zrcv_isO g1) rfl rfl (zc4 (Nat.le_of_ble_eq_true rfl)) (t185 (by omega) e2 (zaI ?_))
  refine zx_if_ne rfl rfl (fun c4 => ?_) (fun c4 => ?_)
  · rw [if_neg c4] at hF
    refine zx_bipush (v := 24) rfl rfl rfl ?_
    refine zx_aload_n rfl rfl rfl ?_
    replace hF := zbnd hF
    obtain ⟨x5, e6, hF⟩ := hF
    refine zy_getI rfl rfl e6 ?_
    refine zx_imul rfl rfl ?_
    refine zx_iload_n rfl rfl rfl ?_
    refine zx_iadd rfl rfl ?_
    refine zx_istore_n rfl rfl rfl ?_
    refine zx_iload_n rfl rfl rfl ?_
    refine zx_if_ne rfl rfl (fun c7 => ?_) (fun c7 => ?_)
    · rw [if_neg c7] at hF
      refine zx_iload_n rfl rfl rfl ?_
      refine zx_iconst (v := 1) rfl rfl rfl ?_
      refine zx_ic_ne rfl rfl (fun c13 => ?_) (fun c13 => ?_)
      · rw [if_neg c13] at hF
        refine zx_iload_n rfl rfl rfl ?_
        refine zx_iconst (v := 2) rfl rfl rfl ?_
        refine zx_ic_ne rfl rfl (fun c19 => ?_) (fun c19 => ?_)
        · rw [if_neg c19] at hF
          refine zx_iload_n rfl rfl rfl ?_
          refine zx_iconst (v := 3) rfl rfl rfl ?_
          refine zx_ic_ne rfl rfl (fun c25 => ?_) (fun c25 => ?_)
          · rw [if_neg c25] at hF
            refine zx_aload_n rfl rfl rfl ?_
            replace hF := zbnd hF
            obtain ⟨x29, e30, hF⟩ := hF
            refine zy_getR rfl rfl e30 ?_
            refine zx_iload_n rfl rfl rfl ?_
            replace hF := zbnd hF
            obtain ⟨a31, rfl, hF⟩ := hF
            replace hF := zbnd hF
            obtain ⟨x32, e33, hF⟩ := hF
            refine zy_aI rfl rfl e33 ?_
            replace hF := Option.some.inj hF
            subst hF
            exact zx_bret rfl rfl rfl rfl q
          · rw [if_pos c25] at hF
            refine zx_aload_n rfl rfl rfl ?_
            refine zx_iload_n rfl rfl rfl ?_
            replace hF := zgd_some hF
            obtain ⟨g26, hF⟩ := hF
            replace hF := zbnd hF
            obtain ⟨p28, e27, hF⟩ := hF
            refine zx_callE rfl rfl rfl rfl (zrcv_isO g26) rfl rfl (zc4 (Nat.le_of_ble_eq_true rfl)) (t249 (by omega) e27 (zaI ?_))
            refine zx_goto rfl rfl ?_
            replace hF := Option.some.inj hF
            subst hF
            exact zx_bret rfl rfl rfl rfl q
        · rw [if_pos c19] at hF
          refine zx_aload_n rfl rfl rfl ?_
          replace hF := zbnd hF
          obtain ⟨x20, e21, hF⟩ := hF
          refine zy_getR rfl rfl e21 ?_
          refine zx_iload_n rfl rfl rfl ?_
          replace hF := zbnd hF
          obtain ⟨a22, rfl, hF⟩ := hF
          replace hF := zbnd hF
          obtain ⟨x23, e24, hF⟩ := hF
          refine zy_aI rfl rfl e24 ?_
          refine zx_goto rfl rfl ?_
          replace hF := Option.some.inj hF
          subst hF
          exact zx_bret rfl rfl rfl rfl q
      · rw [if_pos c13] at hF
        refine zx_aload_n rfl rfl rfl ?_
        replace hF := zbnd hF
        obtain ⟨x14, e15, hF⟩ := hF
        refine zy_getR rfl rfl e15 ?_
        refine zx_iload_n rfl rfl rfl ?_
        replace hF := zbnd hF
        obtain ⟨a16, rfl, hF⟩ := hF
        replace hF := zbnd hF
        obtain ⟨x17, e18, hF⟩ := hF
        refine zy_aI rfl rfl e18 ?_
        refine zx_goto rfl rfl ?_
        replace hF := Option.some.inj hF
        subst hF
        exact zx_bret rfl rfl rfl rfl q
    · rw [if_pos c7] at hF
      refine zx_aload_n rfl rfl rfl ?_
      replace hF := zbnd hF
      obtain ⟨x8, e9, hF⟩ := hF
      refine zy_getR rfl rfl e9 ?_
      refine zx_iload_n rfl rfl rfl ?_
      replace hF := zbnd hF
      obtain ⟨a10, rfl, hF⟩ := hF
      replace hF := zbnd hF
      obtain ⟨x11, e12, hF⟩ := hF
      refine zy_aI rfl rfl e12 ?_
      refine zx_goto rfl rfl ?_
      replace hF := Option.some.inj hF
      subst hF
      exact zx_bret rfl rfl rfl rfl q
  · rw [if_pos c4] at hF
    refine zx_iconst (v := 0) rfl rfl rfl ?_
    replace hF := Option.some.inj hF
    subst hF
    exact zx_bret rfl rfl rfl rfl q
def b247_22 (n : Nat)   (l0 : Nat) (l1 : Int32) (l2 : Int32) (s0 : Nat) (h : zH) : Option (Int32 × zH) :=
  b247_23 n  l0 l1 l2 0 s0 h
set_option maxRecDepth 20000 in
theorem tb247_22 {d n : Nat} {Q : zRs → zH → Prop}   {l0 : Nat} {l1 : Int32} {l2 : Int32} {s0 : Nat} {x3 : Option Value} (hd : 2 ≤ d)   {h : zH} {p : (Int32 × zH)} (hx3 : zn2 x3 = true) (hF : b247_22 n   l0 l1 l2 s0 h = some p) (q : Q (eI p.1) p.2) : zW d 247 22 [some (.ref l0), some (.int l1), some (.int l2), x3] [.ref s0] h Q := by
  unfold b247_22 at hF
  obtain ⟨d, rfl⟩ : ∃ e, d = e + 1 := ⟨d - 1, by omega⟩
  refine zx_iconst (v := 0) rfl rfl rfl ?_
  exact tb247_23 (l0 := l0) (l1 := l1) (l2 := l2) (s0 := 0) (s1 := s0) hd  hx3 hF q
def f247 (n : Nat)  (y0 : Nat) (y1 : Int32) (y2 : Int32) (h : zH) : Option (Int32 × zH) :=
  zgd (isO h y0 11) <|
  (f248 n y0 y1 h).bind fun p3 =>
  if p3.1 = 0 then
    b247_22 n  y0 y1 y2 y0 p3.2
  else
    (f187 n y2 0 4 p3.2).bind fun p6 =>
    if p6.1 = 0 then
      b247_22 n  y0 y1 y2 y0 p6.2
    else
      b247_23 n  y0 y1 y2 1 y0 p6.2
set_option maxRecDepth 20000 in
theorem t247 {d n : Nat} {Q : zRs → zH → Prop}  {y0 : Nat} {y1 : Int32} {y2 : Int32} (hd : 2 ≤ d)  {h : zH} {p : (Int32 × zH)} (hF : f247 n  y0 y1 y2 h = some p) (q : Q (eI p.1) p.2) : zC d 247 [.ref y0, .int y1, .int y2] h Q := by
  refine zC_of (L := [some (.ref y0), some (.int y1), some (.int y2), none]) rfl rfl ?_
  unfold f247 at hF
  obtain ⟨d, rfl⟩ : ∃ e, d = e + 1 := ⟨d - 1, by omega⟩
  refine zx_aload_n rfl rfl rfl ?_
  refine zx_aload_n rfl rfl rfl ?_
  refine zx_iload_n rfl rfl rfl ?_
  replace hF := zgd_some hF
  obtain ⟨g1, hF⟩ := hF
  replace hF := zbnd hF
  obtain ⟨p3, e2, hF⟩ := hF
  refine zx_callE rfl rfl rfl rfl (zrcv_isO g1) rfl rfl (zc4 (Nat.le_of_ble_eq_true rfl)) (t248 (by omega) e2 (zaI ?_))
  refine zx_if_eq rfl rfl (fun c4 => ?_) (fun c4 => ?_)
  · rw [if_pos c4] at hF
    exact tb247_22 (l0 := y0) (l1 := y1) (l2 := y2) (s0 := y0) hd  rfl hF q
  · rw [if_neg c4] at hF
    refine zx_iload_n rfl rfl rfl ?_
    refine zx_iconst (v := 0) rfl rfl rfl ?_
    refine zx_iconst (v := 4) rfl rfl rfl ?_
    replace hF := zbnd hF
    obtain ⟨p6, e5, hF⟩ := hF
    refine zx_callE rfl rfl rfl rfl rfl rfl rfl (zc4 (Nat.le_of_ble_eq_true rfl)) (t187 (by omega) e5 (zaI ?_))
    refine zx_if_eq rfl rfl (fun c7 => ?_) (fun c7 => ?_)
    · rw [if_pos c7] at hF
      exact tb247_22 (l0 := y0) (l1 := y1) (l2 := y2) (s0 := y0) hd  rfl hF q
    · rw [if_neg c7] at hF
      refine zx_iconst (v := 1) rfl rfl rfl ?_
      refine zx_goto rfl rfl ?_
      exact tb247_23 (l0 := y0) (l1 := y1) (l2 := y2) (s0 := 1) (s1 := y0) hd  rfl hF q
def b254_2 (n : Nat)  (r2 : Nat → Int32 → Int32 → zH → Option (Int32 × zH)) (l0 : Nat) (l1 : Int32) (l2 : Int32) (h : zH) : Option (Int32 × zH) :=
  (gI h l0 11 65).bind fun x1 =>
  if x1 ≤ l2 then
    some ((-1), h)
  else
    zgd (isO h l0 11) <|
    (f238 n l0 (3000 + l2) l1 h).bind fun p6 =>
    if p6.1 = 0 then
      r2 l0 l1 (l2 + 1) p6.2
    else
      some (l2, p6.2)
set_option maxRecDepth 20000 in
theorem tb254_2 {d n : Nat} {Q : zRs → zH → Prop}  {r2 : Nat → Int32 → Int32 → zH → Option (Int32 × zH)} {l0 : Nat} {l1 : Int32} {l2 : Int32}   (hd : 1 ≤ d)  (hr2 : ∀ {l0 : Nat} {l1 : Int32} {l2 : Int32}   {h : zH} {p : (Int32 × zH)}, r2 l0 l1 l2 h = some p → Q (eI p.1) p.2 → zW d 254 2 [some (.ref l0), some (.int l1), some (.int l2)] [] h Q) {h : zH} {p : (Int32 × zH)}  (hF : b254_2 n  r2 l0 l1 l2 h = some p) (q : Q (eI p.1) p.2) : zW d 254 2 [some (.ref l0), some (.int l1), some (.int l2)] [] h Q := by
  unfold b254_2 at hF
  obtain ⟨d, rfl⟩ : ∃ e, d = e + 1 := ⟨d - 1, by omega⟩
  refine zx_iload_n rfl rfl rfl ?_
  refine zx_aload_n rfl rfl rfl ?_
  replace hF := zbnd hF
  obtain ⟨x1, e2, hF⟩ := hF
  refine zy_getI rfl rfl e2 ?_
  refine zx_ic_ge rfl rfl (fun c3 => ?_) (fun c3 => ?_)
  · rw [if_pos c3] at hF
    refine zx_iconst (v := (-1)) rfl rfl rfl ?_
    replace hF := Option.some.inj hF
    subst hF
    exact zx_bret rfl rfl rfl rfl q
  · rw [if_neg c3] at hF
    refine zx_aload_n rfl rfl rfl ?_
    refine zx_sipush (v := 3000) rfl rfl rfl ?_
    refine zx_iload_n rfl rfl rfl ?_
    refine zx_iadd rfl rfl ?_
    refine zx_iload_n rfl rfl rfl ?_
    replace hF := zgd_some hF
    obtain ⟨g4, hF⟩ := hF
    replace hF := zbnd hF
    obtain ⟨p6, e5, hF⟩ := hF
    refine zx_callE rfl rfl rfl rfl (zrcv_isO g4) rfl rfl (zc4 (Nat.le_of_ble_eq_true rfl)) (t238 (by omega) e5 (zaI ?_))
    refine zx_if_eq rfl rfl (fun c7 => ?_) (fun c7 => ?_)
    · rw [if_pos c7] at hF
      refine zx_iinc (w := 1) rfl rfl rfl rfl rfl ?_
      refine zx_goto rfl rfl ?_
      exact hr2  hF q
    · rw [if_neg c7] at hF
      refine zx_iload_n rfl rfl rfl ?_
      replace hF := Option.some.inj hF
      subst hF
      exact zx_bret rfl rfl rfl rfl q
def f254_2 (n : Nat)   (k : Nat) : Nat → Int32 → Int32 → zH → Option (Int32 × zH) := Nat.rec (fun _ _ _ _ => none) (fun _ ih => b254_2 n  ih) k
theorem tf254_2 {d n : Nat} {Q : zRs → zH → Prop}   (hd : 1 ≤ d)   (k : Nat) : ∀ {l0 : Nat} {l1 : Int32} {l2 : Int32}   {h : zH} {p : (Int32 × zH)}, f254_2 n   k l0 l1 l2 h = some p → Q (eI p.1) p.2 → zW d 254 2 [some (.ref l0), some (.int l1), some (.int l2)] [] h Q := by
  induction k with
  | zero => intros; rename_i hF _; cases hF
  | succ k ih => intros; rename_i  hF q; exact tb254_2 (n := n) hd  ih  hF q
def f254 (n : Nat)  (y0 : Nat) (y1 : Int32) (h : zH) : Option (Int32 × zH) :=
  f254_2 n  n y0 y1 0 h
set_option maxRecDepth 20000 in
theorem t254 {d n : Nat} {Q : zRs → zH → Prop}  {y0 : Nat} {y1 : Int32} (hd : 1 ≤ d)  {h : zH} {p : (Int32 × zH)} (hF : f254 n  y0 y1 h = some p) (q : Q (eI p.1) p.2) : zC d 254 [.ref y0, .int y1] h Q := by
  refine zC_of (L := [some (.ref y0), some (.int y1), none]) rfl rfl ?_
  unfold f254 at hF
  obtain ⟨d, rfl⟩ : ∃ e, d = e + 1 := ⟨d - 1, by omega⟩
  refine zx_iconst (v := 0) rfl rfl rfl ?_
  refine zx_istore_n rfl rfl rfl ?_
  exact tf254_2 hd  n (l0 := y0) (l1 := y1) (l2 := 0)  hF q
def f255 (n : Nat)  (y0 : Nat) (y1 : Int32) (y2 : Int32) (h : zH) : Option (Int32 × zH) :=
  (gR h y0 11 66).bind fun x1 =>
  x1.bind fun a3 =>
  (aB h a3 y1).bind fun x4 =>
  (gR h y0 11 56).bind fun x6 =>
  x6.bind fun a8 =>
  (aB h a8 y2).bind fun x9 =>
  if x4 = x9 then
    (gR h y0 11 56).bind fun x12 =>
    x12.bind fun a14 =>
    (aB h a14 y2).bind fun x15 =>
    if x15 = 0 then
      (gR h y0 11 67).bind fun x18 =>
      x18.bind fun a20 =>
      (aI h a20 y1).bind fun x21 =>
      (gR h y0 11 57).bind fun x23 =>
      x23.bind fun a25 =>
      (aI h a25 y2).bind fun x26 =>
      if x21 = x26 then
        some (1, h)
      else
        some (0, h)
    else
      (gR h y0 11 58).bind fun x29 =>
      x29.bind fun a31 =>
      (aI h a31 y2).bind fun x32 =>
      zgd (isO h y0 11) <|
      (f238 n y0 (3008 + y1) x32 h).bind fun p36 =>
      if p36.1 = 0 then
        some (0, p36.2)
      else
        some (1, p36.2)
  else
    some (0, h)
set_option maxRecDepth 20000 in
theorem t255 {d n : Nat} {Q : zRs → zH → Prop}  {y0 : Nat} {y1 : Int32} {y2 : Int32} (hd : 1 ≤ d)  {h : zH} {p : (Int32 × zH)} (hF : f255 n  y0 y1 y2 h = some p) (q : Q (eI p.1) p.2) : zC d 255 [.ref y0, .int y1, .int y2] h Q := by
  refine zC_of (L := [some (.ref y0), some (.int y1), some (.int y2)]) rfl rfl ?_
  unfold f255 at hF
  obtain ⟨d, rfl⟩ : ∃ e, d = e + 1 := ⟨d - 1, by omega⟩
  refine zx_aload_n rfl rfl rfl ?_
  replace hF := zbnd hF
  obtain ⟨x1, e2, hF⟩ := hF
  refine zy_getR rfl rfl e2 ?_
  refine zx_iload_n rfl rfl rfl ?_
  replace hF := zbnd hF
  obtain ⟨a3, rfl, hF⟩ := hF
  replace hF := zbnd hF
  obtain ⟨x4, e5, hF⟩ := hF
  refine zy_aB rfl rfl e5 ?_
  refine zx_aload_n rfl rfl rfl ?_
  replace hF := zbnd hF
  obtain ⟨x6, e7, hF⟩ := hF
  refine zy_getR rfl rfl e7 ?_
  refine zx_iload_n rfl rfl rfl ?_
  replace hF := zbnd hF
  obtain ⟨a8, rfl, hF⟩ := hF
  replace hF := zbnd hF
  obtain ⟨x9, e10, hF⟩ := hF
  refine zy_aB rfl rfl e10 ?_
  refine zx_ic_ne rfl rfl (fun c11 => ?_) (fun c11 => ?_)
  · rw [if_neg c11] at hF
    refine zx_iconst (v := 0) rfl rfl rfl ?_
    replace hF := Option.some.inj hF
    subst hF
    exact zx_bret rfl rfl rfl rfl q
  · rw [if_pos c11] at hF
    refine zx_aload_n rfl rfl rfl ?_
    replace hF := zbnd hF
    obtain ⟨x12, e13, hF⟩ := hF
    refine zy_getR rfl rfl e13 ?_
    refine zx_iload_n rfl rfl rfl ?_
    replace hF := zbnd hF
    obtain ⟨a14, rfl, hF⟩ := hF
    replace hF := zbnd hF
    obtain ⟨x15, e16, hF⟩ := hF
    refine zy_aB rfl rfl e16 ?_
    refine zx_if_eq rfl rfl (fun c17 => ?_) (fun c17 => ?_)
    · rw [if_pos c17] at hF
      refine zx_aload_n rfl rfl rfl ?_
      replace hF := zbnd hF
      obtain ⟨x18, e19, hF⟩ := hF
      refine zy_getR rfl rfl e19 ?_
      refine zx_iload_n rfl rfl rfl ?_
      replace hF := zbnd hF
      obtain ⟨a20, rfl, hF⟩ := hF
      replace hF := zbnd hF
      obtain ⟨x21, e22, hF⟩ := hF
      refine zy_aI rfl rfl e22 ?_
      refine zx_aload_n rfl rfl rfl ?_
      replace hF := zbnd hF
      obtain ⟨x23, e24, hF⟩ := hF
      refine zy_getR rfl rfl e24 ?_
      refine zx_iload_n rfl rfl rfl ?_
      replace hF := zbnd hF
      obtain ⟨a25, rfl, hF⟩ := hF
      replace hF := zbnd hF
      obtain ⟨x26, e27, hF⟩ := hF
      refine zy_aI rfl rfl e27 ?_
      refine zx_ic_ne rfl rfl (fun c28 => ?_) (fun c28 => ?_)
      · rw [if_neg c28] at hF
        refine zx_iconst (v := 0) rfl rfl rfl ?_
        replace hF := Option.some.inj hF
        subst hF
        exact zx_bret rfl rfl rfl rfl q
      · rw [if_pos c28] at hF
        refine zx_iconst (v := 1) rfl rfl rfl ?_
        refine zx_goto rfl rfl ?_
        replace hF := Option.some.inj hF
        subst hF
        exact zx_bret rfl rfl rfl rfl q
    · rw [if_neg c17] at hF
      refine zx_aload_n rfl rfl rfl ?_
      refine zx_sipush (v := 3008) rfl rfl rfl ?_
      refine zx_iload_n rfl rfl rfl ?_
      refine zx_iadd rfl rfl ?_
      refine zx_aload_n rfl rfl rfl ?_
      replace hF := zbnd hF
      obtain ⟨x29, e30, hF⟩ := hF
      refine zy_getR rfl rfl e30 ?_
      refine zx_iload_n rfl rfl rfl ?_
      replace hF := zbnd hF
      obtain ⟨a31, rfl, hF⟩ := hF
      replace hF := zbnd hF
      obtain ⟨x32, e33, hF⟩ := hF
      refine zy_aI rfl rfl e33 ?_
      replace hF := zgd_some hF
      obtain ⟨g34, hF⟩ := hF
      replace hF := zbnd hF
      obtain ⟨p36, e35, hF⟩ := hF
      refine zx_callE rfl rfl rfl rfl (zrcv_isO g34) rfl rfl (zc4 (Nat.le_of_ble_eq_true rfl)) (t238 (by omega) e35 (zaI ?_))
      refine zx_if_eq rfl rfl (fun c37 => ?_) (fun c37 => ?_)
      · rw [if_pos c37] at hF
        refine zx_iconst (v := 0) rfl rfl rfl ?_
        replace hF := Option.some.inj hF
        subst hF
        exact zx_bret rfl rfl rfl rfl q
      · rw [if_neg c37] at hF
        refine zx_goto rfl rfl ?_
        refine zx_iconst (v := 1) rfl rfl rfl ?_
        refine zx_goto rfl rfl ?_
        replace hF := Option.some.inj hF
        subst hF
        exact zx_bret rfl rfl rfl rfl q
def b256_81 (n : Nat)  (r31 : Nat → Int32 → Int32 → Int32 → Int32 → Int32 → zH → Option (Int32 × zH)) (l0 : Nat) (l1 : Int32) (l2 : Int32) (l3 : Int32) (l4 : Int32) (l5 : Int32) (s0 : Int32) (h : zH) : Option (Int32 × zH) :=
  r31 l0 l1 l2 l3 s0 (l5 + 1) h
set_option maxRecDepth 20000 in
theorem tb256_81 {d n : Nat} {Q : zRs → zH → Prop}  {r31 : Nat → Int32 → Int32 → Int32 → Int32 → Int32 → zH → Option (Int32 × zH)} {l0 : Nat} {l1 : Int32} {l2 : Int32} {l3 : Int32} {l4 : Int32} {l5 : Int32} {s0 : Int32}  (hd : 0 ≤ d)  (hr31 : ∀ {l0 : Nat} {l1 : Int32} {l2 : Int32} {l3 : Int32} {l4 : Int32} {l5 : Int32}   {h : zH} {p : (Int32 × zH)}, r31 l0 l1 l2 l3 l4 l5 h = some p → Q (eI p.1) p.2 → zW d 256 31 [some (.ref l0), some (.int l1), some (.int l2), some (.int l3), some (.int l4), some (.int l5)] [] h Q) {h : zH} {p : (Int32 × zH)}  (hF : b256_81 n  r31 l0 l1 l2 l3 l4 l5 s0 h = some p) (q : Q (eI p.1) p.2) : zW d 256 81 [some (.ref l0), some (.int l1), some (.int l2), some (.int l3), some (.int l4), some (.int l5)] [.int s0] h Q := by
  unfold b256_81 at hF
  refine zx_istore rfl rfl rfl ?_
  refine zx_iinc (w := 1) rfl rfl rfl rfl rfl ?_
  refine zx_goto rfl rfl ?_
  exact hr31  hF q
def b256_31 (n : Nat)  (r31 : Nat → Int32 → Int32 → Int32 → Int32 → Int32 → zH → Option (Int32 × zH)) (l0 : Nat) (l1 : Int32) (l2 : Int32) (l3 : Int32) (l4 : Int32) (l5 : Int32) (h : zH) : Option (Int32 × zH) :=
  (gR h l0 11 6).bind fun x1 =>
  x1.bind fun a3 =>
  (aI h a3 l1).bind fun x4 =>
  if x4 ≤ l5 then
    zgd (zrtn .boolean l4) <|
    some (l4, h)
  else
    if l4 = 0 then
      zgd (zrtn .boolean l4) <|
      some (l4, h)
    else
      (gR h l0 11 7).bind fun x10 =>
      x10.bind fun a12 =>
      (aB h a12 ((16 * l1) + l5)).bind fun x13 =>
      (gR h l0 11 7).bind fun x15 =>
      x15.bind fun a17 =>
      (aB h a17 (((16 * l2) + l3) + l5)).bind fun x18 =>
      if x13 = x18 then
        b256_81 n r31 l0 l1 l2 l3 l4 l5 1 h
      else
        b256_81 n r31 l0 l1 l2 l3 l4 l5 0 h
set_option maxRecDepth 20000 in
theorem tb256_31 {d n : Nat} {Q : zRs → zH → Prop}  {r31 : Nat → Int32 → Int32 → Int32 → Int32 → Int32 → zH → Option (Int32 × zH)} {l0 : Nat} {l1 : Int32} {l2 : Int32} {l3 : Int32} {l4 : Int32} {l5 : Int32}   (hd : 0 ≤ d)  (hr31 : ∀ {l0 : Nat} {l1 : Int32} {l2 : Int32} {l3 : Int32} {l4 : Int32} {l5 : Int32}   {h : zH} {p : (Int32 × zH)}, r31 l0 l1 l2 l3 l4 l5 h = some p → Q (eI p.1) p.2 → zW d 256 31 [some (.ref l0), some (.int l1), some (.int l2), some (.int l3), some (.int l4), some (.int l5)] [] h Q) {h : zH} {p : (Int32 × zH)}  (hF : b256_31 n  r31 l0 l1 l2 l3 l4 l5 h = some p) (q : Q (eI p.1) p.2) : zW d 256 31 [some (.ref l0), some (.int l1), some (.int l2), some (.int l3), some (.int l4), some (.int l5)] [] h Q := by
  unfold b256_31 at hF
  refine zx_iload rfl rfl rfl ?_
  refine zx_aload_n rfl rfl rfl ?_
  replace hF := zbnd hF
  obtain ⟨x1, e2, hF⟩ := hF
  refine zy_getR rfl rfl e2 ?_
  refine zx_iload_n rfl rfl rfl ?_
  replace hF := zbnd hF
  obtain ⟨a3, rfl, hF⟩ := hF
  replace hF := zbnd hF
  obtain ⟨x4, e5, hF⟩ := hF
  refine zy_aI rfl rfl e5 ?_
  refine zx_ic_ge rfl rfl (fun c6 => ?_) (fun c6 => ?_)
  · rw [if_pos c6] at hF
    refine zx_iload rfl rfl rfl ?_
    replace hF := zgd_some hF
    obtain ⟨g7, hF⟩ := hF
    replace hF := Option.some.inj hF
    subst hF
    exact zx_bret rfl rfl rfl g7 q
  · rw [if_neg c6] at hF
    refine zx_iload rfl rfl rfl ?_
    refine zx_if_eq rfl rfl (fun c8 => ?_) (fun c8 => ?_)
    · rw [if_pos c8] at hF
      refine zx_iload rfl rfl rfl ?_
      replace hF := zgd_some hF
      obtain ⟨g9, hF⟩ := hF
      replace hF := Option.some.inj hF
      subst hF
      exact zx_bret rfl rfl rfl g9 q
    · rw [if_neg c8] at hF
      refine zx_aload_n rfl rfl rfl ?_
      replace hF := zbnd hF
      obtain ⟨x10, e11, hF⟩ := hF
      refine zy_getR rfl rfl e11 ?_
      refine zx_bipush (v := 16) rfl rfl rfl ?_
      refine zx_iload_n rfl rfl rfl ?_
      refine zx_imul rfl rfl ?_
      refine zx_iload rfl rfl rfl ?_
      refine zx_iadd rfl rfl ?_
      replace hF := zbnd hF
      obtain ⟨a12, rfl, hF⟩ := hF
      replace hF := zbnd hF
      obtain ⟨x13, e14, hF⟩ := hF
      refine zy_aB rfl rfl e14 ?_
      refine zx_aload_n rfl rfl rfl ?_
      replace hF := zbnd hF
      obtain ⟨x15, e16, hF⟩ := hF
      refine zy_getR rfl rfl e16 ?_
      refine zx_bipush (v := 16) rfl rfl rfl ?_
      refine zx_iload_n rfl rfl rfl ?_
      refine zx_imul rfl rfl ?_
      refine zx_iload_n rfl rfl rfl ?_
      refine zx_iadd rfl rfl ?_
      refine zx_iload rfl rfl rfl ?_
      refine zx_iadd rfl rfl ?_
      replace hF := zbnd hF
      obtain ⟨a17, rfl, hF⟩ := hF
      replace hF := zbnd hF
      obtain ⟨x18, e19, hF⟩ := hF
      refine zy_aB rfl rfl e19 ?_
      refine zx_ic_ne rfl rfl (fun c20 => ?_) (fun c20 => ?_)
      · rw [if_neg c20] at hF
        refine zx_iconst (v := 0) rfl rfl rfl ?_
        exact tb256_81 (l0 := l0) (l1 := l1) (l2 := l2) (l3 := l3) (l4 := l4) (l5 := l5) (s0 := 0) hd hr31  hF q
      · rw [if_pos c20] at hF
        refine zx_iconst (v := 1) rfl rfl rfl ?_
        refine zx_goto rfl rfl ?_
        exact tb256_81 (l0 := l0) (l1 := l1) (l2 := l2) (l3 := l3) (l4 := l4) (l5 := l5) (s0 := 1) hd hr31  hF q
def f256_31 (n : Nat)   (k : Nat) : Nat → Int32 → Int32 → Int32 → Int32 → Int32 → zH → Option (Int32 × zH) := Nat.rec (fun _ _ _ _ _ _ _ => none) (fun _ ih => b256_31 n  ih) k
theorem tf256_31 {d n : Nat} {Q : zRs → zH → Prop}   (hd : 0 ≤ d)   (k : Nat) : ∀ {l0 : Nat} {l1 : Int32} {l2 : Int32} {l3 : Int32} {l4 : Int32} {l5 : Int32}   {h : zH} {p : (Int32 × zH)}, f256_31 n   k l0 l1 l2 l3 l4 l5 h = some p → Q (eI p.1) p.2 → zW d 256 31 [some (.ref l0), some (.int l1), some (.int l2), some (.int l3), some (.int l4), some (.int l5)] [] h Q := by
  induction k with
  | zero => intros; rename_i hF _; cases hF
  | succ k ih => intros; rename_i  hF q; exact tb256_31 (n := n) hd  ih  hF q
def b256_26 (n : Nat)   (l0 : Nat) (l1 : Int32) (l2 : Int32) (l3 : Int32) (s0 : Int32) (h : zH) : Option (Int32 × zH) :=
  f256_31 n  n l0 l1 l2 l3 s0 0 h
set_option maxRecDepth 20000 in
theorem tb256_26 {d n : Nat} {Q : zRs → zH → Prop}   {l0 : Nat} {l1 : Int32} {l2 : Int32} {l3 : Int32} {s0 : Int32} {x4 : Option Value} {x5 : Option Value} (hd : 0 ≤ d)   {h : zH} {p : (Int32 × zH)} (hx4 : zn2 x4 = true) (hx5 : zn2 x5 = true) (hF : b256_26 n   l0 l1 l2 l3 s0 h = some p) (q : Q (eI p.1) p.2) : zW d 256 26 [some (.ref l0), some (.int l1), some (.int l2), some (.int l3), x4, x5] [.int s0] h Q := by
  unfold b256_26 at hF
  refine zx_istore rfl rfl rfl ?_
  refine zx_iconst (v := 0) rfl rfl rfl ?_
  refine zx_istore rfl rfl rfl ?_
  exact tf256_31 hd  n (l0 := l0) (l1 := l1) (l2 := l2) (l3 := l3) (l4 := s0) (l5 := 0)  hF q
def b256_25 (n : Nat)   (l0 : Nat) (l1 : Int32) (l2 : Int32) (l3 : Int32) (h : zH) : Option (Int32 × zH) :=
  b256_26 n  l0 l1 l2 l3 0 h
set_option maxRecDepth 20000 in
theorem tb256_25 {d n : Nat} {Q : zRs → zH → Prop}   {l0 : Nat} {l1 : Int32} {l2 : Int32} {l3 : Int32}  {x4 : Option Value} {x5 : Option Value} (hd : 0 ≤ d)   {h : zH} {p : (Int32 × zH)} (hx4 : zn2 x4 = true) (hx5 : zn2 x5 = true) (hF : b256_25 n   l0 l1 l2 l3 h = some p) (q : Q (eI p.1) p.2) : zW d 256 25 [some (.ref l0), some (.int l1), some (.int l2), some (.int l3), x4, x5] [] h Q := by
  unfold b256_25 at hF
  refine zx_iconst (v := 0) rfl rfl rfl ?_
  exact tb256_26 (l0 := l0) (l1 := l1) (l2 := l2) (l3 := l3) (s0 := 0) hd  hx4 hx5 hF q
def f256 (n : Nat)  (y0 : Nat) (y1 : Int32) (y2 : Int32) (y3 : Int32) (h : zH) : Option (Int32 × zH) :=
  if y3 < 0 then
    b256_25 n  y0 y1 y2 y3 h
  else
    (gR h y0 11 6).bind fun x2 =>
    x2.bind fun a4 =>
    (aI h a4 y1).bind fun x5 =>
    (gR h y0 11 6).bind fun x7 =>
    x7.bind fun a9 =>
    (aI h a9 y2).bind fun x10 =>
    if x10 < (y3 + x5) then
      b256_25 n  y0 y1 y2 y3 h
    else
      b256_26 n  y0 y1 y2 y3 1 h
set_option maxRecDepth 20000 in
theorem t256 {d n : Nat} {Q : zRs → zH → Prop}  {y0 : Nat} {y1 : Int32} {y2 : Int32} {y3 : Int32} (hd : 0 ≤ d)  {h : zH} {p : (Int32 × zH)} (hF : f256 n  y0 y1 y2 y3 h = some p) (q : Q (eI p.1) p.2) : zC d 256 [.ref y0, .int y1, .int y2, .int y3] h Q := by
  refine zC_of (L := [some (.ref y0), some (.int y1), some (.int y2), some (.int y3), none, none]) rfl rfl ?_
  unfold f256 at hF
  refine zx_iload_n rfl rfl rfl ?_
  refine zx_if_lt rfl rfl (fun c1 => ?_) (fun c1 => ?_)
  · rw [if_pos c1] at hF
    exact tb256_25 (l0 := y0) (l1 := y1) (l2 := y2) (l3 := y3) hd  rfl rfl hF q
  · rw [if_neg c1] at hF
    refine zx_iload_n rfl rfl rfl ?_
    refine zx_aload_n rfl rfl rfl ?_
    replace hF := zbnd hF
    obtain ⟨x2, e3, hF⟩ := hF
    refine zy_getR rfl rfl e3 ?_
    refine zx_iload_n rfl rfl rfl ?_
    replace hF := zbnd hF
    obtain ⟨a4, rfl, hF⟩ := hF
    replace hF := zbnd hF
    obtain ⟨x5, e6, hF⟩ := hF
    refine zy_aI rfl rfl e6 ?_
    refine zx_iadd rfl rfl ?_
    refine zx_aload_n rfl rfl rfl ?_
    replace hF := zbnd hF
    obtain ⟨x7, e8, hF⟩ := hF
    refine zy_getR rfl rfl e8 ?_
    refine zx_iload_n rfl rfl rfl ?_
    replace hF := zbnd hF
    obtain ⟨a9, rfl, hF⟩ := hF
    replace hF := zbnd hF
    obtain ⟨x10, e11, hF⟩ := hF
    refine zy_aI rfl rfl e11 ?_
    refine zx_ic_gt rfl rfl (fun c12 => ?_) (fun c12 => ?_)
    · rw [if_pos c12] at hF
      exact tb256_25 (l0 := y0) (l1 := y1) (l2 := y2) (l3 := y3) hd  rfl rfl hF q
    · rw [if_neg c12] at hF
      refine zx_iconst (v := 1) rfl rfl rfl ?_
      refine zx_goto rfl rfl ?_
      exact tb256_26 (l0 := y0) (l1 := y1) (l2 := y2) (l3 := y3) (s0 := 1) hd  rfl rfl hF q
def b257_36 (n : Nat)  (r5 : Nat → Int32 → Int32 → Int32 → Int32 → zH → Option (Int32 × zH)) (l0 : Nat) (l1 : Int32) (l2 : Int32) (l3 : Int32) (l4 : Int32) (s0 : Int32) (h : zH) : Option (Int32 × zH) :=
  r5 l0 l1 l2 s0 (l4 + 1) h
set_option maxRecDepth 20000 in
theorem tb257_36 {d n : Nat} {Q : zRs → zH → Prop}  {r5 : Nat → Int32 → Int32 → Int32 → Int32 → zH → Option (Int32 × zH)} {l0 : Nat} {l1 : Int32} {l2 : Int32} {l3 : Int32} {l4 : Int32} {s0 : Int32}  (hd : 1 ≤ d)  (hr5 : ∀ {l0 : Nat} {l1 : Int32} {l2 : Int32} {l3 : Int32} {l4 : Int32}   {h : zH} {p : (Int32 × zH)}, r5 l0 l1 l2 l3 l4 h = some p → Q (eI p.1) p.2 → zW d 257 5 [some (.ref l0), some (.int l1), some (.int l2), some (.int l3), some (.int l4)] [] h Q) {h : zH} {p : (Int32 × zH)}  (hF : b257_36 n  r5 l0 l1 l2 l3 l4 s0 h = some p) (q : Q (eI p.1) p.2) : zW d 257 36 [some (.ref l0), some (.int l1), some (.int l2), some (.int l3), some (.int l4)] [.int s0] h Q := by
  unfold b257_36 at hF
  obtain ⟨d, rfl⟩ : ∃ e, d = e + 1 := ⟨d - 1, by omega⟩
  refine zx_istore_n rfl rfl rfl ?_
  refine zx_iinc (w := 1) rfl rfl rfl rfl rfl ?_
  refine zx_goto rfl rfl ?_
  exact hr5  hF q
def b257_31 (n : Nat)  (r5 : Nat → Int32 → Int32 → Int32 → Int32 → zH → Option (Int32 × zH)) (l0 : Nat) (l1 : Int32) (l2 : Int32) (l3 : Int32) (l4 : Int32) (h : zH) : Option (Int32 × zH) :=
  b257_36 n r5 l0 l1 l2 l3 l4 1 h
set_option maxRecDepth 20000 in
theorem tb257_31 {d n : Nat} {Q : zRs → zH → Prop}  {r5 : Nat → Int32 → Int32 → Int32 → Int32 → zH → Option (Int32 × zH)} {l0 : Nat} {l1 : Int32} {l2 : Int32} {l3 : Int32} {l4 : Int32}   (hd : 1 ≤ d)  (hr5 : ∀ {l0 : Nat} {l1 : Int32} {l2 : Int32} {l3 : Int32} {l4 : Int32}   {h : zH} {p : (Int32 × zH)}, r5 l0 l1 l2 l3 l4 h = some p → Q (eI p.1) p.2 → zW d 257 5 [some (.ref l0), some (.int l1), some (.int l2), some (.int l3), some (.int l4)] [] h Q) {h : zH} {p : (Int32 × zH)}  (hF : b257_31 n  r5 l0 l1 l2 l3 l4 h = some p) (q : Q (eI p.1) p.2) : zW d 257 31 [some (.ref l0), some (.int l1), some (.int l2), some (.int l3), some (.int l4)] [] h Q := by
  unfold b257_31 at hF
  obtain ⟨d, rfl⟩ : ∃ e, d = e + 1 := ⟨d - 1, by omega⟩
  refine zx_iconst (v := 1) rfl rfl rfl ?_
  refine zx_goto rfl rfl ?_
  exact tb257_36 (l0 := l0) (l1 := l1) (l2 := l2) (l3 := l3) (l4 := l4) (s0 := 1) hd hr5  hF q
def b257_5 (n : Nat)  (r5 : Nat → Int32 → Int32 → Int32 → Int32 → zH → Option (Int32 × zH)) (l0 : Nat) (l1 : Int32) (l2 : Int32) (l3 : Int32) (l4 : Int32) (h : zH) : Option (Int32 × zH) :=
  (gR h l0 11 6).bind fun x1 =>
  x1.bind fun a3 =>
  (aI h a3 l2).bind fun x4 =>
  if x4 < l4 then
    zgd (zrtn .boolean l3) <|
    some (l3, h)
  else
    if l3 = 0 then
      zgd (isO h l0 11) <|
      (f256 n l0 l1 l2 l4 h).bind fun p11 =>
      if p11.1 = 0 then
        b257_36 n r5 l0 l1 l2 l3 l4 0 p11.2
      else
        b257_31 n r5 l0 l1 l2 l3 l4 p11.2
    else
      b257_31 n r5 l0 l1 l2 l3 l4 h
set_option maxRecDepth 20000 in
theorem tb257_5 {d n : Nat} {Q : zRs → zH → Prop}  {r5 : Nat → Int32 → Int32 → Int32 → Int32 → zH → Option (Int32 × zH)} {l0 : Nat} {l1 : Int32} {l2 : Int32} {l3 : Int32} {l4 : Int32}   (hd : 1 ≤ d)  (hr5 : ∀ {l0 : Nat} {l1 : Int32} {l2 : Int32} {l3 : Int32} {l4 : Int32}   {h : zH} {p : (Int32 × zH)}, r5 l0 l1 l2 l3 l4 h = some p → Q (eI p.1) p.2 → zW d 257 5 [some (.ref l0), some (.int l1), some (.int l2), some (.int l3), some (.int l4)] [] h Q) {h : zH} {p : (Int32 × zH)}  (hF : b257_5 n  r5 l0 l1 l2 l3 l4 h = some p) (q : Q (eI p.1) p.2) : zW d 257 5 [some (.ref l0), some (.int l1), some (.int l2), some (.int l3), some (.int l4)] [] h Q := by
  unfold b257_5 at hF
  obtain ⟨d, rfl⟩ : ∃ e, d = e + 1 := ⟨d - 1, by omega⟩
  refine zx_iload rfl rfl rfl ?_
  refine zx_aload_n rfl rfl rfl ?_
  replace hF := zbnd hF
  obtain ⟨x1, e2, hF⟩ := hF
  refine zy_getR rfl rfl e2 ?_
  refine zx_iload_n rfl rfl rfl ?_
  replace hF := zbnd hF
  obtain ⟨a3, rfl, hF⟩ := hF
  replace hF := zbnd hF
  obtain ⟨x4, e5, hF⟩ := hF
  refine zy_aI rfl rfl e5 ?_
  refine zx_ic_gt rfl rfl (fun c6 => ?_) (fun c6 => ?_)
  · rw [if_pos c6] at hF
    refine zx_iload_n rfl rfl rfl ?_
    replace hF := zgd_some hF
    obtain ⟨g7, hF⟩ := hF
    replace hF := Option.some.inj hF
    subst hF
    exact zx_bret rfl rfl rfl g7 q
  · rw [if_neg c6] at hF
    refine zx_iload_n rfl rfl rfl ?_
    refine zx_if_ne rfl rfl (fun c8 => ?_) (fun c8 => ?_)
    · rw [if_neg c8] at hF
      exact tb257_31 (l0 := l0) (l1 := l1) (l2 := l2) (l3 := l3) (l4 := l4) hd hr5  hF q
    · rw [if_pos c8] at hF
      refine zx_aload_n rfl rfl rfl ?_
      refine zx_iload_n rfl rfl rfl ?_
      refine zx_iload_n rfl rfl rfl ?_
      refine zx_iload rfl rfl rfl ?_
      replace hF := zgd_some hF
      obtain ⟨g9, hF⟩ := hF
      replace hF := zbnd hF
      obtain ⟨p11, e10, hF⟩ := hF
      refine zx_callE rfl rfl rfl rfl (zrcv_isO g9) rfl rfl (zc4 (Nat.le_of_ble_eq_true rfl)) (t256 (by omega) e10 (zaI ?_))
      refine zx_if_eq rfl rfl (fun c12 => ?_) (fun c12 => ?_)
      · rw [if_pos c12] at hF
        refine zx_iconst (v := 0) rfl rfl rfl ?_
        exact tb257_36 (l0 := l0) (l1 := l1) (l2 := l2) (l3 := l3) (l4 := l4) (s0 := 0) hd hr5  hF q
      · rw [if_neg c12] at hF
        exact tb257_31 (l0 := l0) (l1 := l1) (l2 := l2) (l3 := l3) (l4 := l4) hd hr5  hF q
def f257_5 (n : Nat)   (k : Nat) : Nat → Int32 → Int32 → Int32 → Int32 → zH → Option (Int32 × zH) := Nat.rec (fun _ _ _ _ _ _ => none) (fun _ ih => b257_5 n  ih) k
theorem tf257_5 {d n : Nat} {Q : zRs → zH → Prop}   (hd : 1 ≤ d)   (k : Nat) : ∀ {l0 : Nat} {l1 : Int32} {l2 : Int32} {l3 : Int32} {l4 : Int32}   {h : zH} {p : (Int32 × zH)}, f257_5 n   k l0 l1 l2 l3 l4 h = some p → Q (eI p.1) p.2 → zW d 257 5 [some (.ref l0), some (.int l1), some (.int l2), some (.int l3), some (.int l4)] [] h Q := by
  induction k with
  | zero => intros; rename_i hF _; cases hF
  | succ k ih => intros; rename_i  hF q; exact tb257_5 (n := n) hd  ih  hF q
def f257 (n : Nat)  (y0 : Nat) (y1 : Int32) (y2 : Int32) (h : zH) : Option (Int32 × zH) :=
  f257_5 n  n y0 y1 y2 0 0 h
set_option maxRecDepth 20000 in
theorem t257 {d n : Nat} {Q : zRs → zH → Prop}  {y0 : Nat} {y1 : Int32} {y2 : Int32} (hd : 1 ≤ d)  {h : zH} {p : (Int32 × zH)} (hF : f257 n  y0 y1 y2 h = some p) (q : Q (eI p.1) p.2) : zC d 257 [.ref y0, .int y1, .int y2] h Q := by
  refine zC_of (L := [some (.ref y0), some (.int y1), some (.int y2), none, none]) rfl rfl ?_
  unfold f257 at hF
  obtain ⟨d, rfl⟩ : ∃ e, d = e + 1 := ⟨d - 1, by omega⟩
  refine zx_iconst (v := 0) rfl rfl rfl ?_
  refine zx_istore_n rfl rfl rfl ?_
  refine zx_iconst (v := 0) rfl rfl rfl ?_
  refine zx_istore rfl rfl rfl ?_
  exact tf257_5 hd  n (l0 := y0) (l1 := y1) (l2 := y2) (l3 := 0) (l4 := 0)  hF q
def b253_296 (n : Nat)  (r261 : Nat → Int32 → Int32 → Int32 → Int32 → Int32 → zH → Option (Int32 × zH)) (l0 : Nat) (l1 : Int32) (l2 : Int32) (l3 : Int32) (l4 : Int32) (l5 : Int32) (s0 : Int32) (h : zH) : Option (Int32 × zH) :=
  (gR h l0 11 60).bind fun x1 =>
  (gI h l0 11 3).bind fun x3 =>
  x1.bind fun a5 =>
  (aI h a5 ((400 * x3) + l5)).bind fun x6 =>
  r261 l0 l1 l2 l3 s0 x6 h
set_option maxRecDepth 20000 in
theorem tb253_296 {d n : Nat} {Q : zRs → zH → Prop}  {r261 : Nat → Int32 → Int32 → Int32 → Int32 → Int32 → zH → Option (Int32 × zH)} {l0 : Nat} {l1 : Int32} {l2 : Int32} {l3 : Int32} {l4 : Int32} {l5 : Int32} {s0 : Int32}  (hd : 2 ≤ d)  (hr261 : ∀ {l0 : Nat} {l1 : Int32} {l2 : Int32} {l3 : Int32} {l4 : Int32} {l5 : Int32}   {h : zH} {p : (Int32 × zH)}, r261 l0 l1 l2 l3 l4 l5 h = some p → Q (eI p.1) p.2 → zW d 253 261 [some (.ref l0), some (.int l1), some (.int l2), some (.int l3), some (.int l4), some (.int l5)] [] h Q) {h : zH} {p : (Int32 × zH)}  (hF : b253_296 n  r261 l0 l1 l2 l3 l4 l5 s0 h = some p) (q : Q (eI p.1) p.2) : zW d 253 296 [some (.ref l0), some (.int l1), some (.int l2), some (.int l3), some (.int l4), some (.int l5)] [.int s0] h Q := by
  unfold b253_296 at hF
  obtain ⟨d, rfl⟩ : ∃ e, d = e + 1 := ⟨d - 1, by omega⟩
  refine zx_istore rfl rfl rfl ?_
  refine zx_aload_n rfl rfl rfl ?_
  replace hF := zbnd hF
  obtain ⟨x1, e2, hF⟩ := hF
  refine zy_getR rfl rfl e2 ?_
  refine zx_sipush (v := 400) rfl rfl rfl ?_
  refine zx_aload_n rfl rfl rfl ?_
  replace hF := zbnd hF
  obtain ⟨x3, e4, hF⟩ := hF
  refine zy_getI rfl rfl e4 ?_
  refine zx_imul rfl rfl ?_
  refine zx_iload rfl rfl rfl ?_
  refine zx_iadd rfl rfl ?_
  replace hF := zbnd hF
  obtain ⟨a5, rfl, hF⟩ := hF
  replace hF := zbnd hF
  obtain ⟨x6, e7, hF⟩ := hF
  refine zy_aI rfl rfl e7 ?_
  refine zx_istore rfl rfl rfl ?_
  refine zx_goto rfl rfl ?_
  exact hr261  hF q
def b253_291 (n : Nat)  (r261 : Nat → Int32 → Int32 → Int32 → Int32 → Int32 → zH → Option (Int32 × zH)) (l0 : Nat) (l1 : Int32) (l2 : Int32) (l3 : Int32) (l4 : Int32) (l5 : Int32) (h : zH) : Option (Int32 × zH) :=
  b253_296 n r261 l0 l1 l2 l3 l4 l5 1 h
set_option maxRecDepth 20000 in
theorem tb253_291 {d n : Nat} {Q : zRs → zH → Prop}  {r261 : Nat → Int32 → Int32 → Int32 → Int32 → Int32 → zH → Option (Int32 × zH)} {l0 : Nat} {l1 : Int32} {l2 : Int32} {l3 : Int32} {l4 : Int32} {l5 : Int32}   (hd : 2 ≤ d)  (hr261 : ∀ {l0 : Nat} {l1 : Int32} {l2 : Int32} {l3 : Int32} {l4 : Int32} {l5 : Int32}   {h : zH} {p : (Int32 × zH)}, r261 l0 l1 l2 l3 l4 l5 h = some p → Q (eI p.1) p.2 → zW d 253 261 [some (.ref l0), some (.int l1), some (.int l2), some (.int l3), some (.int l4), some (.int l5)] [] h Q) {h : zH} {p : (Int32 × zH)}  (hF : b253_291 n  r261 l0 l1 l2 l3 l4 l5 h = some p) (q : Q (eI p.1) p.2) : zW d 253 291 [some (.ref l0), some (.int l1), some (.int l2), some (.int l3), some (.int l4), some (.int l5)] [] h Q := by
  unfold b253_291 at hF
  obtain ⟨d, rfl⟩ : ∃ e, d = e + 1 := ⟨d - 1, by omega⟩
  refine zx_iconst (v := 1) rfl rfl rfl ?_
  refine zx_goto rfl rfl ?_
  exact tb253_296 (l0 := l0) (l1 := l1) (l2 := l2) (l3 := l3) (l4 := l4) (l5 := l5) (s0 := 1) hd hr261  hF q
def b253_261 (n : Nat)  (r261 : Nat → Int32 → Int32 → Int32 → Int32 → Int32 → zH → Option (Int32 × zH)) (l0 : Nat) (l1 : Int32) (l2 : Int32) (l3 : Int32) (l4 : Int32) (l5 : Int32) (h : zH) : Option (Int32 × zH) :=
  if l5 = (-1) then
    zgd (zrtn .boolean l4) <|
    some (l4, h)
  else
    if l4 = 0 then
      (gI h l0 11 3).bind fun x4 =>
      zgd (isO h l0 11) <|
      (f255 n l0 l2 ((400 * x4) + l5) h).bind fun p8 =>
      if p8.1 = 0 then
        b253_296 n r261 l0 l1 l2 l3 l4 l5 0 p8.2
      else
        b253_291 n r261 l0 l1 l2 l3 l4 l5 p8.2
    else
      b253_291 n r261 l0 l1 l2 l3 l4 l5 h
set_option maxRecDepth 20000 in
theorem tb253_261 {d n : Nat} {Q : zRs → zH → Prop}  {r261 : Nat → Int32 → Int32 → Int32 → Int32 → Int32 → zH → Option (Int32 × zH)} {l0 : Nat} {l1 : Int32} {l2 : Int32} {l3 : Int32} {l4 : Int32} {l5 : Int32}   (hd : 2 ≤ d)  (hr261 : ∀ {l0 : Nat} {l1 : Int32} {l2 : Int32} {l3 : Int32} {l4 : Int32} {l5 : Int32}   {h : zH} {p : (Int32 × zH)}, r261 l0 l1 l2 l3 l4 l5 h = some p → Q (eI p.1) p.2 → zW d 253 261 [some (.ref l0), some (.int l1), some (.int l2), some (.int l3), some (.int l4), some (.int l5)] [] h Q) {h : zH} {p : (Int32 × zH)}  (hF : b253_261 n  r261 l0 l1 l2 l3 l4 l5 h = some p) (q : Q (eI p.1) p.2) : zW d 253 261 [some (.ref l0), some (.int l1), some (.int l2), some (.int l3), some (.int l4), some (.int l5)] [] h Q := by
  unfold b253_261 at hF
  obtain ⟨d, rfl⟩ : ∃ e, d = e + 1 := ⟨d - 1, by omega⟩
  refine zx_iload rfl rfl rfl ?_
  refine zx_iconst (v := (-1)) rfl rfl rfl ?_
  refine zx_ic_eq rfl rfl (fun c1 => ?_) (fun c1 => ?_)
  · rw [if_pos c1] at hF
    refine zx_iload rfl rfl rfl ?_
    replace hF := zgd_some hF
    obtain ⟨g2, hF⟩ := hF
    replace hF := Option.some.inj hF
    subst hF
    exact zx_bret rfl rfl rfl g2 q
  · rw [if_neg c1] at hF
    refine zx_iload rfl rfl rfl ?_
    refine zx_if_ne rfl rfl (fun c3 => ?_) (fun c3 => ?_)
    · rw [if_neg c3] at hF
      exact tb253_291 (l0 := l0) (l1 := l1) (l2 := l2) (l3 := l3) (l4 := l4) (l5 := l5) hd hr261  hF q
    · rw [if_pos c3] at hF
      refine zx_aload_n rfl rfl rfl ?_
      refine zx_iload_n rfl rfl rfl ?_
      refine zx_sipush (v := 400) rfl rfl rfl ?_
      refine zx_aload_n rfl rfl rfl ?_
      replace hF := zbnd hF
      obtain ⟨x4, e5, hF⟩ := hF
      refine zy_getI rfl rfl e5 ?_
      refine zx_imul rfl rfl ?_
      refine zx_iload rfl rfl rfl ?_
      refine zx_iadd rfl rfl ?_
      replace hF := zgd_some hF
      obtain ⟨g6, hF⟩ := hF
      replace hF := zbnd hF
      obtain ⟨p8, e7, hF⟩ := hF
      refine zx_callE rfl rfl rfl rfl (zrcv_isO g6) rfl rfl (zc4 (Nat.le_of_ble_eq_true rfl)) (t255 (by omega) e7 (zaI ?_))
      refine zx_if_eq rfl rfl (fun c9 => ?_) (fun c9 => ?_)
      · rw [if_pos c9] at hF
        refine zx_iconst (v := 0) rfl rfl rfl ?_
        exact tb253_296 (l0 := l0) (l1 := l1) (l2 := l2) (l3 := l3) (l4 := l4) (l5 := l5) (s0 := 0) hd hr261  hF q
      · rw [if_neg c9] at hF
        exact tb253_291 (l0 := l0) (l1 := l1) (l2 := l2) (l3 := l3) (l4 := l4) (l5 := l5) hd hr261  hF q
def f253_261 (n : Nat)   (k : Nat) : Nat → Int32 → Int32 → Int32 → Int32 → Int32 → zH → Option (Int32 × zH) := Nat.rec (fun _ _ _ _ _ _ _ => none) (fun _ ih => b253_261 n  ih) k
theorem tf253_261 {d n : Nat} {Q : zRs → zH → Prop}   (hd : 2 ≤ d)   (k : Nat) : ∀ {l0 : Nat} {l1 : Int32} {l2 : Int32} {l3 : Int32} {l4 : Int32} {l5 : Int32}   {h : zH} {p : (Int32 × zH)}, f253_261 n   k l0 l1 l2 l3 l4 l5 h = some p → Q (eI p.1) p.2 → zW d 253 261 [some (.ref l0), some (.int l1), some (.int l2), some (.int l3), some (.int l4), some (.int l5)] [] h Q := by
  induction k with
  | zero => intros; rename_i hF _; cases hF
  | succ k ih => intros; rename_i  hF q; exact tb253_261 (n := n) hd  ih  hF q
def f253 (n : Nat)  (y0 : Nat) (y1 : Int32) (h : zH) : Option (Int32 × zH) :=
  (gR h y0 11 55).bind fun x1 =>
  x1.bind fun a3 =>
  (aI h a3 y1).bind fun x4 =>
  zgd (isO h y0 11) <|
  (f254 n y0 x4 h).bind fun p8 =>
  if p8.1 = (-1) then
    some (0, p8.2)
  else
    (gR p8.2 y0 11 54).bind fun x10 =>
    x10.bind fun a12 =>
    (aI p8.2 a12 y1).bind fun x13 =>
    if x13 = 3 then
      zgd (isO p8.2 y0 11) <|
      (f255 n y0 p8.1 y1 p8.2).bind fun p18 =>
      zgd (zrtn .boolean p18.1) <|
      some (p18.1, p18.2)
    else
    if x13 = 4 then
      (gR p8.2 y0 11 66).bind fun x21 =>
      x21.bind fun a23 =>
      (aB p8.2 a23 p8.1).bind fun x24 =>
      if x24 = 0 then
        (gR p8.2 y0 11 67).bind fun x27 =>
        x27.bind fun a29 =>
        (aI p8.2 a29 p8.1).bind fun x30 =>
        (gR p8.2 y0 11 57).bind fun x32 =>
        x32.bind fun a34 =>
        (aI p8.2 a34 y1).bind fun x35 =>
        if x35 ≤ x30 then
          some (0, p8.2)
        else
          some (1, p8.2)
      else
        some (0, p8.2)
    else
    if x13 = 5 then
      (gR p8.2 y0 11 66).bind fun x39 =>
      x39.bind fun a41 =>
      (aB p8.2 a41 p8.1).bind fun x42 =>
      if x42 = 0 then
        (gR p8.2 y0 11 67).bind fun x45 =>
        x45.bind fun a47 =>
        (aI p8.2 a47 p8.1).bind fun x48 =>
        (gR p8.2 y0 11 57).bind fun x50 =>
        x50.bind fun a52 =>
        (aI p8.2 a52 y1).bind fun x53 =>
        if x48 ≤ x53 then
          some (0, p8.2)
        else
          some (1, p8.2)
      else
        some (0, p8.2)
    else
    if x13 = 6 then
      (gR p8.2 y0 11 66).bind fun x57 =>
      x57.bind fun a59 =>
      (aB p8.2 a59 p8.1).bind fun x60 =>
      if x60 = 0 then
        some (0, p8.2)
      else
        (gR p8.2 y0 11 58).bind fun x63 =>
        x63.bind fun a65 =>
        (aI p8.2 a65 y1).bind fun x66 =>
        zgd (isO p8.2 y0 11) <|
        (f256 n y0 x66 (3008 + p8.1) 0 p8.2).bind fun p70 =>
        if p70.1 = 0 then
          some (0, p70.2)
        else
          some (1, p70.2)
    else
    if x13 = 7 then
      (gR p8.2 y0 11 66).bind fun x73 =>
      x73.bind fun a75 =>
      (aB p8.2 a75 p8.1).bind fun x76 =>
      if x76 = 0 then
        some (0, p8.2)
      else
        (gR p8.2 y0 11 58).bind fun x79 =>
        x79.bind fun a81 =>
        (aI p8.2 a81 y1).bind fun x82 =>
        (gR p8.2 y0 11 6).bind fun x84 =>
        x84.bind fun a86 =>
        (aI p8.2 a86 (3008 + p8.1)).bind fun x87 =>
        (gR p8.2 y0 11 6).bind fun x89 =>
        (gR p8.2 y0 11 58).bind fun x91 =>
        x91.bind fun a93 =>
        (aI p8.2 a93 y1).bind fun x94 =>
        x89.bind fun a96 =>
        (aI p8.2 a96 x94).bind fun x97 =>
        zgd (isO p8.2 y0 11) <|
        (f256 n y0 x82 (3008 + p8.1) (x87 - x97) p8.2).bind fun p101 =>
        if p101.1 = 0 then
          some (0, p101.2)
        else
          some (1, p101.2)
    else
    if x13 = 8 then
      (gR p8.2 y0 11 66).bind fun x104 =>
      x104.bind fun a106 =>
      (aB p8.2 a106 p8.1).bind fun x107 =>
      if x107 = 0 then
        some (0, p8.2)
      else
        (gR p8.2 y0 11 58).bind fun x110 =>
        x110.bind fun a112 =>
        (aI p8.2 a112 y1).bind fun x113 =>
        zgd (isO p8.2 y0 11) <|
        (f257 n y0 x113 (3008 + p8.1) p8.2).bind fun p117 =>
        if p117.1 = 0 then
          some (0, p117.2)
        else
          some (1, p117.2)
    else
    if x13 = 9 then
      zgd (isO p8.2 y0 11) <|
      (f255 n y0 p8.1 y1 p8.2).bind fun p122 =>
      (gR p122.2 y0 11 59).bind fun x123 =>
      x123.bind fun a125 =>
      (aI p122.2 a125 y1).bind fun x126 =>
      f253_261 n  n y0 y1 p8.1 (3008 + p8.1) p122.1 x126 p122.2
    else
    some (1, p8.2)
set_option maxRecDepth 20000 in
theorem t253 {d n : Nat} {Q : zRs → zH → Prop}  {y0 : Nat} {y1 : Int32} (hd : 2 ≤ d)  {h : zH} {p : (Int32 × zH)} (hF : f253 n  y0 y1 h = some p) (q : Q (eI p.1) p.2) : zC d 253 [.ref y0, .int y1] h Q := by
  refine zC_of (L := [some (.ref y0), some (.int y1), none, none, none, none]) rfl rfl ?_
  unfold f253 at hF
  obtain ⟨d, rfl⟩ : ∃ e, d = e + 1 := ⟨d - 1, by omega⟩
  refine zx_aload_n rfl rfl rfl ?_
  refine zx_aload_n rfl rfl rfl ?_
  replace hF := zbnd hF
  obtain ⟨x1, e2, hF⟩ := hF
  refine zy_getR rfl rfl e2 ?_
  refine zx_iload_n rfl rfl rfl ?_
  replace hF := zbnd hF
  obtain ⟨a3, rfl, hF⟩ := hF
  replace hF := zbnd hF
  obtain ⟨x4, e5, hF⟩ := hF
  refine zy_aI rfl rfl e5 ?_
  replace hF := zgd_some hF
  obtain ⟨g6, hF⟩ := hF
  replace hF := zbnd hF
  obtain ⟨p8, e7, hF⟩ := hF
  refine zx_callE rfl rfl rfl rfl (zrcv_isO g6) rfl rfl (zc4 (Nat.le_of_ble_eq_true rfl)) (t254 (by omega) e7 (zaI ?_))
  refine zx_istore_n rfl rfl rfl ?_
  refine zx_iload_n rfl rfl rfl ?_
  refine zx_iconst (v := (-1)) rfl rfl rfl ?_
  refine zx_ic_ne rfl rfl (fun c9 => ?_) (fun c9 => ?_)
  · rw [if_neg c9] at hF
    refine zx_sipush (v := 3008) rfl rfl rfl ?_
    refine zx_iload_n rfl rfl rfl ?_
    refine zx_iadd rfl rfl ?_
    refine zx_istore_n rfl rfl rfl ?_
    refine zx_aload_n rfl rfl rfl ?_
    replace hF := zbnd hF
    obtain ⟨x10, e11, hF⟩ := hF
    refine zy_getR rfl rfl e11 ?_
    refine zx_iload_n rfl rfl rfl ?_
    replace hF := zbnd hF
    obtain ⟨a12, rfl, hF⟩ := hF
    replace hF := zbnd hF
    obtain ⟨x13, e14, hF⟩ := hF
    refine zy_aI rfl rfl e14 ?_
    by_cases c15 : x13 = 3
    · rw [if_pos c15] at hF
      refine zw_switch rfl rfl (t := 72) (by rw [c15]; rfl) ?_
      refine zx_aload_n rfl rfl rfl ?_
      refine zx_iload_n rfl rfl rfl ?_
      refine zx_iload_n rfl rfl rfl ?_
      replace hF := zgd_some hF
      obtain ⟨g16, hF⟩ := hF
      replace hF := zbnd hF
      obtain ⟨p18, e17, hF⟩ := hF
      refine zx_callE rfl rfl rfl rfl (zrcv_isO g16) rfl rfl (zc4 (Nat.le_of_ble_eq_true rfl)) (t255 (by omega) e17 (zaI ?_))
      replace hF := zgd_some hF
      obtain ⟨g19, hF⟩ := hF
      replace hF := Option.some.inj hF
      subst hF
      exact zx_bret rfl rfl rfl g19 q
    rw [if_neg c15] at hF
    by_cases c20 : x13 = 4
    · rw [if_pos c20] at hF
      refine zw_switch rfl rfl (t := 79) (by rw [c20]; rfl) ?_
      refine zx_aload_n rfl rfl rfl ?_
      replace hF := zbnd hF
      obtain ⟨x21, e22, hF⟩ := hF
      refine zy_getR rfl rfl e22 ?_
      refine zx_iload_n rfl rfl rfl ?_
      replace hF := zbnd hF
      obtain ⟨a23, rfl, hF⟩ := hF
      replace hF := zbnd hF
      obtain ⟨x24, e25, hF⟩ := hF
      refine zy_aB rfl rfl e25 ?_
      refine zx_if_ne rfl rfl (fun c26 => ?_) (fun c26 => ?_)
      · rw [if_neg c26] at hF
        refine zx_iconst (v := 0) rfl rfl rfl ?_
        replace hF := Option.some.inj hF
        subst hF
        exact zx_bret rfl rfl rfl rfl q
      · rw [if_pos c26] at hF
        refine zx_aload_n rfl rfl rfl ?_
        replace hF := zbnd hF
        obtain ⟨x27, e28, hF⟩ := hF
        refine zy_getR rfl rfl e28 ?_
        refine zx_iload_n rfl rfl rfl ?_
        replace hF := zbnd hF
        obtain ⟨a29, rfl, hF⟩ := hF
        replace hF := zbnd hF
        obtain ⟨x30, e31, hF⟩ := hF
        refine zy_aI rfl rfl e31 ?_
        refine zx_aload_n rfl rfl rfl ?_
        replace hF := zbnd hF
        obtain ⟨x32, e33, hF⟩ := hF
        refine zy_getR rfl rfl e33 ?_
        refine zx_iload_n rfl rfl rfl ?_
        replace hF := zbnd hF
        obtain ⟨a34, rfl, hF⟩ := hF
        replace hF := zbnd hF
        obtain ⟨x35, e36, hF⟩ := hF
        refine zy_aI rfl rfl e36 ?_
        refine zx_ic_ge rfl rfl (fun c37 => ?_) (fun c37 => ?_)
        · rw [if_pos c37] at hF
          refine zx_iconst (v := 0) rfl rfl rfl ?_
          replace hF := Option.some.inj hF
          subst hF
          exact zx_bret rfl rfl rfl rfl q
        · rw [if_neg c37] at hF
          refine zx_iconst (v := 1) rfl rfl rfl ?_
          refine zx_goto rfl rfl ?_
          replace hF := Option.some.inj hF
          subst hF
          exact zx_bret rfl rfl rfl rfl q
    rw [if_neg c20] at hF
    by_cases c38 : x13 = 5
    · rw [if_pos c38] at hF
      refine zw_switch rfl rfl (t := 109) (by rw [c38]; rfl) ?_
      refine zx_aload_n rfl rfl rfl ?_
      replace hF := zbnd hF
      obtain ⟨x39, e40, hF⟩ := hF
      refine zy_getR rfl rfl e40 ?_
      refine zx_iload_n rfl rfl rfl ?_
      replace hF := zbnd hF
      obtain ⟨a41, rfl, hF⟩ := hF
      replace hF := zbnd hF
      obtain ⟨x42, e43, hF⟩ := hF
      refine zy_aB rfl rfl e43 ?_
      refine zx_if_ne rfl rfl (fun c44 => ?_) (fun c44 => ?_)
      · rw [if_neg c44] at hF
        refine zx_iconst (v := 0) rfl rfl rfl ?_
        replace hF := Option.some.inj hF
        subst hF
        exact zx_bret rfl rfl rfl rfl q
      · rw [if_pos c44] at hF
        refine zx_aload_n rfl rfl rfl ?_
        replace hF := zbnd hF
        obtain ⟨x45, e46, hF⟩ := hF
        refine zy_getR rfl rfl e46 ?_
        refine zx_iload_n rfl rfl rfl ?_
        replace hF := zbnd hF
        obtain ⟨a47, rfl, hF⟩ := hF
        replace hF := zbnd hF
        obtain ⟨x48, e49, hF⟩ := hF
        refine zy_aI rfl rfl e49 ?_
        refine zx_aload_n rfl rfl rfl ?_
        replace hF := zbnd hF
        obtain ⟨x50, e51, hF⟩ := hF
        refine zy_getR rfl rfl e51 ?_
        refine zx_iload_n rfl rfl rfl ?_
        replace hF := zbnd hF
        obtain ⟨a52, rfl, hF⟩ := hF
        replace hF := zbnd hF
        obtain ⟨x53, e54, hF⟩ := hF
        refine zy_aI rfl rfl e54 ?_
        refine zx_ic_le rfl rfl (fun c55 => ?_) (fun c55 => ?_)
        · rw [if_pos c55] at hF
          refine zx_iconst (v := 0) rfl rfl rfl ?_
          replace hF := Option.some.inj hF
          subst hF
          exact zx_bret rfl rfl rfl rfl q
        · rw [if_neg c55] at hF
          refine zx_iconst (v := 1) rfl rfl rfl ?_
          refine zx_goto rfl rfl ?_
          replace hF := Option.some.inj hF
          subst hF
          exact zx_bret rfl rfl rfl rfl q
    rw [if_neg c38] at hF
    by_cases c56 : x13 = 6
    · rw [if_pos c56] at hF
      refine zw_switch rfl rfl (t := 139) (by rw [c56]; rfl) ?_
      refine zx_aload_n rfl rfl rfl ?_
      replace hF := zbnd hF
      obtain ⟨x57, e58, hF⟩ := hF
      refine zy_getR rfl rfl e58 ?_
      refine zx_iload_n rfl rfl rfl ?_
      replace hF := zbnd hF
      obtain ⟨a59, rfl, hF⟩ := hF
      replace hF := zbnd hF
      obtain ⟨x60, e61, hF⟩ := hF
      refine zy_aB rfl rfl e61 ?_
      refine zx_if_eq rfl rfl (fun c62 => ?_) (fun c62 => ?_)
      · rw [if_pos c62] at hF
        refine zx_iconst (v := 0) rfl rfl rfl ?_
        replace hF := Option.some.inj hF
        subst hF
        exact zx_bret rfl rfl rfl rfl q
      · rw [if_neg c62] at hF
        refine zx_aload_n rfl rfl rfl ?_
        refine zx_aload_n rfl rfl rfl ?_
        replace hF := zbnd hF
        obtain ⟨x63, e64, hF⟩ := hF
        refine zy_getR rfl rfl e64 ?_
        refine zx_iload_n rfl rfl rfl ?_
        replace hF := zbnd hF
        obtain ⟨a65, rfl, hF⟩ := hF
        replace hF := zbnd hF
        obtain ⟨x66, e67, hF⟩ := hF
        refine zy_aI rfl rfl e67 ?_
        refine zx_iload_n rfl rfl rfl ?_
        refine zx_iconst (v := 0) rfl rfl rfl ?_
        replace hF := zgd_some hF
        obtain ⟨g68, hF⟩ := hF
        replace hF := zbnd hF
        obtain ⟨p70, e69, hF⟩ := hF
        refine zx_callE rfl rfl rfl rfl (zrcv_isO g68) rfl rfl (zc4 (Nat.le_of_ble_eq_true rfl)) (t256 (by omega) e69 (zaI ?_))
        refine zx_if_eq rfl rfl (fun c71 => ?_) (fun c71 => ?_)
        · rw [if_pos c71] at hF
          refine zx_iconst (v := 0) rfl rfl rfl ?_
          replace hF := Option.some.inj hF
          subst hF
          exact zx_bret rfl rfl rfl rfl q
        · rw [if_neg c71] at hF
          refine zx_iconst (v := 1) rfl rfl rfl ?_
          refine zx_goto rfl rfl ?_
          replace hF := Option.some.inj hF
          subst hF
          exact zx_bret rfl rfl rfl rfl q
    rw [if_neg c56] at hF
    by_cases c72 : x13 = 7
    · rw [if_pos c72] at hF
      refine zw_switch rfl rfl (t := 169) (by rw [c72]; rfl) ?_
      refine zx_aload_n rfl rfl rfl ?_
      replace hF := zbnd hF
      obtain ⟨x73, e74, hF⟩ := hF
      refine zy_getR rfl rfl e74 ?_
      refine zx_iload_n rfl rfl rfl ?_
      replace hF := zbnd hF
      obtain ⟨a75, rfl, hF⟩ := hF
      replace hF := zbnd hF
      obtain ⟨x76, e77, hF⟩ := hF
      refine zy_aB rfl rfl e77 ?_
      refine zx_if_eq rfl rfl (fun c78 => ?_) (fun c78 => ?_)
      · rw [if_pos c78] at hF
        refine zx_iconst (v := 0) rfl rfl rfl ?_
        replace hF := Option.some.inj hF
        subst hF
        exact zx_bret rfl rfl rfl rfl q
      · rw [if_neg c78] at hF
        refine zx_aload_n rfl rfl rfl ?_
        refine zx_aload_n rfl rfl rfl ?_
        replace hF := zbnd hF
        obtain ⟨x79, e80, hF⟩ := hF
        refine zy_getR rfl rfl e80 ?_
        refine zx_iload_n rfl rfl rfl ?_
        replace hF := zbnd hF
        obtain ⟨a81, rfl, hF⟩ := hF
        replace hF := zbnd hF
        obtain ⟨x82, e83, hF⟩ := hF
        refine zy_aI rfl rfl e83 ?_
        refine zx_iload_n rfl rfl rfl ?_
        refine zx_aload_n rfl rfl rfl ?_
        replace hF := zbnd hF
        obtain ⟨x84, e85, hF⟩ := hF
        refine zy_getR rfl rfl e85 ?_
        refine zx_iload_n rfl rfl rfl ?_
        replace hF := zbnd hF
        obtain ⟨a86, rfl, hF⟩ := hF
        replace hF := zbnd hF
        obtain ⟨x87, e88, hF⟩ := hF
        refine zy_aI rfl rfl e88 ?_
        refine zx_aload_n rfl rfl rfl ?_
        replace hF := zbnd hF
        obtain ⟨x89, e90, hF⟩ := hF
        refine zy_getR rfl rfl e90 ?_
        refine zx_aload_n rfl rfl rfl ?_
        replace hF := zbnd hF
        obtain ⟨x91, e92, hF⟩ := hF
        refine zy_getR rfl rfl e92 ?_
        refine zx_iload_n rfl rfl rfl ?_
        replace hF := zbnd hF
        obtain ⟨a93, rfl, hF⟩ := hF
        replace hF := zbnd hF
        obtain ⟨x94, e95, hF⟩ := hF
        refine zy_aI rfl rfl e95 ?_
        replace hF := zbnd hF
        obtain ⟨a96, rfl, hF⟩ := hF
        replace hF := zbnd hF
        obtain ⟨x97, e98, hF⟩ := hF
        refine zy_aI rfl rfl e98 ?_
        refine zx_isub rfl rfl ?_
        replace hF := zgd_some hF
        obtain ⟨g99, hF⟩ := hF
        replace hF := zbnd hF
        obtain ⟨p101, e100, hF⟩ := hF
        refine zx_callE rfl rfl rfl rfl (zrcv_isO g99) rfl rfl (zc4 (Nat.le_of_ble_eq_true rfl)) (t256 (by omega) e100 (zaI ?_))
        refine zx_if_eq rfl rfl (fun c102 => ?_) (fun c102 => ?_)
        · rw [if_pos c102] at hF
          refine zx_iconst (v := 0) rfl rfl rfl ?_
          replace hF := Option.some.inj hF
          subst hF
          exact zx_bret rfl rfl rfl rfl q
        · rw [if_neg c102] at hF
          refine zx_iconst (v := 1) rfl rfl rfl ?_
          refine zx_goto rfl rfl ?_
          replace hF := Option.some.inj hF
          subst hF
          exact zx_bret rfl rfl rfl rfl q
    rw [if_neg c72] at hF
    by_cases c103 : x13 = 8
    · rw [if_pos c103] at hF
      refine zw_switch rfl rfl (t := 216) (by rw [c103]; rfl) ?_
      refine zx_aload_n rfl rfl rfl ?_
      replace hF := zbnd hF
      obtain ⟨x104, e105, hF⟩ := hF
      refine zy_getR rfl rfl e105 ?_
      refine zx_iload_n rfl rfl rfl ?_
      replace hF := zbnd hF
      obtain ⟨a106, rfl, hF⟩ := hF
      replace hF := zbnd hF
      obtain ⟨x107, e108, hF⟩ := hF
      refine zy_aB rfl rfl e108 ?_
      refine zx_if_eq rfl rfl (fun c109 => ?_) (fun c109 => ?_)
      · rw [if_pos c109] at hF
        refine zx_iconst (v := 0) rfl rfl rfl ?_
        replace hF := Option.some.inj hF
        subst hF
        exact zx_bret rfl rfl rfl rfl q
      · rw [if_neg c109] at hF
        refine zx_aload_n rfl rfl rfl ?_
        refine zx_aload_n rfl rfl rfl ?_
        replace hF := zbnd hF
        obtain ⟨x110, e111, hF⟩ := hF
        refine zy_getR rfl rfl e111 ?_
        refine zx_iload_n rfl rfl rfl ?_
        replace hF := zbnd hF
        obtain ⟨a112, rfl, hF⟩ := hF
        replace hF := zbnd hF
        obtain ⟨x113, e114, hF⟩ := hF
        refine zy_aI rfl rfl e114 ?_
        refine zx_iload_n rfl rfl rfl ?_
        replace hF := zgd_some hF
        obtain ⟨g115, hF⟩ := hF
        replace hF := zbnd hF
        obtain ⟨p117, e116, hF⟩ := hF
        refine zx_callE rfl rfl rfl rfl (zrcv_isO g115) rfl rfl (zc4 (Nat.le_of_ble_eq_true rfl)) (t257 (by omega) e116 (zaI ?_))
        refine zx_if_eq rfl rfl (fun c118 => ?_) (fun c118 => ?_)
        · rw [if_pos c118] at hF
          refine zx_iconst (v := 0) rfl rfl rfl ?_
          replace hF := Option.some.inj hF
          subst hF
          exact zx_bret rfl rfl rfl rfl q
        · rw [if_neg c118] at hF
          refine zx_iconst (v := 1) rfl rfl rfl ?_
          refine zx_goto rfl rfl ?_
          replace hF := Option.some.inj hF
          subst hF
          exact zx_bret rfl rfl rfl rfl q
    rw [if_neg c103] at hF
    by_cases c119 : x13 = 9
    · rw [if_pos c119] at hF
      refine zw_switch rfl rfl (t := 245) (by rw [c119]; rfl) ?_
      refine zx_aload_n rfl rfl rfl ?_
      refine zx_iload_n rfl rfl rfl ?_
      refine zx_iload_n rfl rfl rfl ?_
      replace hF := zgd_some hF
      obtain ⟨g120, hF⟩ := hF
      replace hF := zbnd hF
      obtain ⟨p122, e121, hF⟩ := hF
      refine zx_callE rfl rfl rfl rfl (zrcv_isO g120) rfl rfl (zc4 (Nat.le_of_ble_eq_true rfl)) (t255 (by omega) e121 (zaI ?_))
      refine zx_istore rfl rfl rfl ?_
      refine zx_aload_n rfl rfl rfl ?_
      replace hF := zbnd hF
      obtain ⟨x123, e124, hF⟩ := hF
      refine zy_getR rfl rfl e124 ?_
      refine zx_iload_n rfl rfl rfl ?_
      replace hF := zbnd hF
      obtain ⟨a125, rfl, hF⟩ := hF
      replace hF := zbnd hF
      obtain ⟨x126, e127, hF⟩ := hF
      refine zy_aI rfl rfl e127 ?_
      refine zx_istore rfl rfl rfl ?_
      exact tf253_261 hd  n (l0 := y0) (l1 := y1) (l2 := p8.1) (l3 := (3008 + p8.1)) (l4 := p122.1) (l5 := x126)  hF q
    rw [if_neg c119] at hF
    have zc15 := zne c15 (z := 3) (by decide)
    have zc20 := zne c20 (z := 4) (by decide)
    have zc38 := zne c38 (z := 5) (by decide)
    have zc56 := zne c56 (z := 6) (by decide)
    have zc72 := zne c72 (z := 7) (by decide)
    have zc103 := zne c103 (z := 8) (by decide)
    have zc119 := zne c119 (z := 9) (by decide)
    refine zw_switch rfl rfl (t := 322) (zsw_d (by omega) (by decide) (by decide)) ?_
    refine zx_iconst (v := 1) rfl rfl rfl ?_
    replace hF := Option.some.inj hF
    subst hF
    exact zx_bret rfl rfl rfl rfl q
  · rw [if_pos c9] at hF
    refine zx_iconst (v := 0) rfl rfl rfl ?_
    replace hF := Option.some.inj hF
    subst hF
    exact zx_bret rfl rfl rfl rfl q
def b252_308 (n : Nat)  (r3 : Nat → Int32 → Int32 → Int32 → Int32 → zH → Option (Int32 × zH)) (l0 : Nat) (l1 : Int32) (l2 : Int32) (l3 : Int32) (l4 : Int32) (l5 : Int32) (l6 : Int32) (l7 : Int32) (h : zH) : Option (Int32 × zH) :=
  (gR h l0 11 82).bind fun x1 =>
  x1.bind fun a3 =>
  (aS zsB h a3 l5 (.int l7)).bind fun h4 =>
  r3 l0 l1 l2 l3 (l4 + 1) h4
set_option maxRecDepth 20000 in
theorem tb252_308 {d n : Nat} {Q : zRs → zH → Prop}  {r3 : Nat → Int32 → Int32 → Int32 → Int32 → zH → Option (Int32 × zH)} {l0 : Nat} {l1 : Int32} {l2 : Int32} {l3 : Int32} {l4 : Int32} {l5 : Int32} {l6 : Int32} {l7 : Int32}  {x8 : Option Value} (hd : 3 ≤ d)  (hr3 : ∀ {l0 : Nat} {l1 : Int32} {l2 : Int32} {l3 : Int32} {l4 : Int32}  {x5 : Option Value} {x6 : Option Value} {x7 : Option Value} {x8 : Option Value} {h : zH} {p : (Int32 × zH)}, zn2 x5 = true → zn2 x6 = true → zn2 x7 = true → zn2 x8 = true → r3 l0 l1 l2 l3 l4 h = some p → Q (eI p.1) p.2 → zW d 252 3 [some (.ref l0), some (.int l1), some (.int l2), some (.int l3), some (.int l4), x5, x6, x7, x8] [] h Q) {h : zH} {p : (Int32 × zH)} (hx8 : zn2 x8 = true) (hF : b252_308 n  r3 l0 l1 l2 l3 l4 l5 l6 l7 h = some p) (q : Q (eI p.1) p.2) : zW d 252 308 [some (.ref l0), some (.int l1), some (.int l2), some (.int l3), some (.int l4), some (.int l5), some (.int l6), some (.int l7), x8] [] h Q := by
  unfold b252_308 at hF
  obtain ⟨d, rfl⟩ : ∃ e, d = e + 1 := ⟨d - 1, by omega⟩
  refine zx_aload_n rfl rfl rfl ?_
  replace hF := zbnd hF
  obtain ⟨x1, e2, hF⟩ := hF
  refine zy_getR rfl rfl e2 ?_
  refine zx_iload rfl rfl rfl ?_
  refine zx_iload rfl rfl rfl ?_
  replace hF := zbnd hF
  obtain ⟨a3, rfl, hF⟩ := hF
  replace hF := zbnd hF
  obtain ⟨h4, e5, hF⟩ := hF
  refine zy_sB rfl rfl e5 ?_
  refine zx_iinc (w := 1) rfl rfl rfl rfl rfl ?_
  refine zx_goto rfl rfl ?_
  exact hr3 rfl rfl rfl hx8 hF q
def b252_170 (n : Nat)  (r3 : Nat → Int32 → Int32 → Int32 → Int32 → zH → Option (Int32 × zH)) (l0 : Nat) (l1 : Int32) (l2 : Int32) (l3 : Int32) (l4 : Int32) (l5 : Int32) (l6 : Int32) (l7 : Int32) (s0 : Int32) (h : zH) : Option (Int32 × zH) :=
  b252_308 n r3 l0 l1 l2 l3 l4 l5 l6 s0 h
set_option maxRecDepth 20000 in
theorem tb252_170 {d n : Nat} {Q : zRs → zH → Prop}  {r3 : Nat → Int32 → Int32 → Int32 → Int32 → zH → Option (Int32 × zH)} {l0 : Nat} {l1 : Int32} {l2 : Int32} {l3 : Int32} {l4 : Int32} {l5 : Int32} {l6 : Int32} {l7 : Int32} {s0 : Int32} {x8 : Option Value} (hd : 3 ≤ d)  (hr3 : ∀ {l0 : Nat} {l1 : Int32} {l2 : Int32} {l3 : Int32} {l4 : Int32}  {x5 : Option Value} {x6 : Option Value} {x7 : Option Value} {x8 : Option Value} {h : zH} {p : (Int32 × zH)}, zn2 x5 = true → zn2 x6 = true → zn2 x7 = true → zn2 x8 = true → r3 l0 l1 l2 l3 l4 h = some p → Q (eI p.1) p.2 → zW d 252 3 [some (.ref l0), some (.int l1), some (.int l2), some (.int l3), some (.int l4), x5, x6, x7, x8] [] h Q) {h : zH} {p : (Int32 × zH)} (hx8 : zn2 x8 = true) (hF : b252_170 n  r3 l0 l1 l2 l3 l4 l5 l6 l7 s0 h = some p) (q : Q (eI p.1) p.2) : zW d 252 170 [some (.ref l0), some (.int l1), some (.int l2), some (.int l3), some (.int l4), some (.int l5), some (.int l6), some (.int l7), x8] [.int s0] h Q := by
  unfold b252_170 at hF
  obtain ⟨d, rfl⟩ : ∃ e, d = e + 1 := ⟨d - 1, by omega⟩
  refine zx_istore rfl rfl rfl ?_
  refine zx_goto rfl rfl ?_
  exact tb252_308 (l0 := l0) (l1 := l1) (l2 := l2) (l3 := l3) (l4 := l4) (l5 := l5) (l6 := l6) (l7 := s0) hd hr3 hx8 hF q
def b252_210 (n : Nat)  (r3 : Nat → Int32 → Int32 → Int32 → Int32 → zH → Option (Int32 × zH)) (r184 : Nat → Int32 → Int32 → Int32 → Int32 → Int32 → Int32 → Int32 → Int32 → zH → Option (Int32 × zH)) (l0 : Nat) (l1 : Int32) (l2 : Int32) (l3 : Int32) (l4 : Int32) (l5 : Int32) (l6 : Int32) (l7 : Int32) (l8 : Int32) (s0 : Int32) (h : zH) : Option (Int32 × zH) :=
  (gR h l0 11 60).bind fun x1 =>
  (gI h l0 11 3).bind fun x3 =>
  x1.bind fun a5 =>
  (aI h a5 ((400 * x3) + l8)).bind fun x6 =>
  r184 l0 l1 l2 l3 l4 l5 l6 s0 x6 h
set_option maxRecDepth 20000 in
theorem tb252_210 {d n : Nat} {Q : zRs → zH → Prop}  {r3 : Nat → Int32 → Int32 → Int32 → Int32 → zH → Option (Int32 × zH)} {r184 : Nat → Int32 → Int32 → Int32 → Int32 → Int32 → Int32 → Int32 → Int32 → zH → Option (Int32 × zH)} {l0 : Nat} {l1 : Int32} {l2 : Int32} {l3 : Int32} {l4 : Int32} {l5 : Int32} {l6 : Int32} {l7 : Int32} {l8 : Int32} {s0 : Int32}  (hd : 3 ≤ d)  (hr3 : ∀ {l0 : Nat} {l1 : Int32} {l2 : Int32} {l3 : Int32} {l4 : Int32}  {x5 : Option Value} {x6 : Option Value} {x7 : Option Value} {x8 : Option Value} {h : zH} {p : (Int32 × zH)}, zn2 x5 = true → zn2 x6 = true → zn2 x7 = true → zn2 x8 = true → r3 l0 l1 l2 l3 l4 h = some p → Q (eI p.1) p.2 → zW d 252 3 [some (.ref l0), some (.int l1), some (.int l2), some (.int l3), some (.int l4), x5, x6, x7, x8] [] h Q) (hr184 : ∀ {l0 : Nat} {l1 : Int32} {l2 : Int32} {l3 : Int32} {l4 : Int32} {l5 : Int32} {l6 : Int32} {l7 : Int32} {l8 : Int32}   {h : zH} {p : (Int32 × zH)}, r184 l0 l1 l2 l3 l4 l5 l6 l7 l8 h = some p → Q (eI p.1) p.2 → zW d 252 184 [some (.ref l0), some (.int l1), some (.int l2), some (.int l3), some (.int l4), some (.int l5), some (.int l6), some (.int l7), some (.int l8)] [] h Q) {h : zH} {p : (Int32 × zH)}  (hF : b252_210 n  r3 r184 l0 l1 l2 l3 l4 l5 l6 l7 l8 s0 h = some p) (q : Q (eI p.1) p.2) : zW d 252 210 [some (.ref l0), some (.int l1), some (.int l2), some (.int l3), some (.int l4), some (.int l5), some (.int l6), some (.int l7), some (.int l8)] [.int s0] h Q := by
  unfold b252_210 at hF
  obtain ⟨d, rfl⟩ : ∃ e, d = e + 1 := ⟨d - 1, by omega⟩
  refine zx_istore rfl rfl rfl ?_
  refine zx_aload_n rfl rfl rfl ?_
  replace hF := zbnd hF
  obtain ⟨x1, e2, hF⟩ := hF
  refine zy_getR rfl rfl e2 ?_
  refine zx_sipush (v := 400) rfl rfl rfl ?_
  refine zx_aload_n rfl rfl rfl ?_
  replace hF := zbnd hF
  obtain ⟨x3, e4, hF⟩ := hF
  refine zy_getI rfl rfl e4 ?_
  refine zx_imul rfl rfl ?_
  refine zx_iload rfl rfl rfl ?_
  refine zx_iadd rfl rfl ?_
  replace hF := zbnd hF
  obtain ⟨a5, rfl, hF⟩ := hF
  replace hF := zbnd hF
  obtain ⟨x6, e7, hF⟩ := hF
  refine zy_aI rfl rfl e7 ?_
  refine zx_istore rfl rfl rfl ?_
  refine zx_goto rfl rfl ?_
  exact hr184  hF q
def b252_205 (n : Nat)  (r3 : Nat → Int32 → Int32 → Int32 → Int32 → zH → Option (Int32 × zH)) (r184 : Nat → Int32 → Int32 → Int32 → Int32 → Int32 → Int32 → Int32 → Int32 → zH → Option (Int32 × zH)) (l0 : Nat) (l1 : Int32) (l2 : Int32) (l3 : Int32) (l4 : Int32) (l5 : Int32) (l6 : Int32) (l7 : Int32) (l8 : Int32) (h : zH) : Option (Int32 × zH) :=
  b252_210 n r3 r184 l0 l1 l2 l3 l4 l5 l6 l7 l8 1 h
set_option maxRecDepth 20000 in
theorem tb252_205 {d n : Nat} {Q : zRs → zH → Prop}  {r3 : Nat → Int32 → Int32 → Int32 → Int32 → zH → Option (Int32 × zH)} {r184 : Nat → Int32 → Int32 → Int32 → Int32 → Int32 → Int32 → Int32 → Int32 → zH → Option (Int32 × zH)} {l0 : Nat} {l1 : Int32} {l2 : Int32} {l3 : Int32} {l4 : Int32} {l5 : Int32} {l6 : Int32} {l7 : Int32} {l8 : Int32}   (hd : 3 ≤ d)  (hr3 : ∀ {l0 : Nat} {l1 : Int32} {l2 : Int32} {l3 : Int32} {l4 : Int32}  {x5 : Option Value} {x6 : Option Value} {x7 : Option Value} {x8 : Option Value} {h : zH} {p : (Int32 × zH)}, zn2 x5 = true → zn2 x6 = true → zn2 x7 = true → zn2 x8 = true → r3 l0 l1 l2 l3 l4 h = some p → Q (eI p.1) p.2 → zW d 252 3 [some (.ref l0), some (.int l1), some (.int l2), some (.int l3), some (.int l4), x5, x6, x7, x8] [] h Q) (hr184 : ∀ {l0 : Nat} {l1 : Int32} {l2 : Int32} {l3 : Int32} {l4 : Int32} {l5 : Int32} {l6 : Int32} {l7 : Int32} {l8 : Int32}   {h : zH} {p : (Int32 × zH)}, r184 l0 l1 l2 l3 l4 l5 l6 l7 l8 h = some p → Q (eI p.1) p.2 → zW d 252 184 [some (.ref l0), some (.int l1), some (.int l2), some (.int l3), some (.int l4), some (.int l5), some (.int l6), some (.int l7), some (.int l8)] [] h Q) {h : zH} {p : (Int32 × zH)}  (hF : b252_205 n  r3 r184 l0 l1 l2 l3 l4 l5 l6 l7 l8 h = some p) (q : Q (eI p.1) p.2) : zW d 252 205 [some (.ref l0), some (.int l1), some (.int l2), some (.int l3), some (.int l4), some (.int l5), some (.int l6), some (.int l7), some (.int l8)] [] h Q := by
  unfold b252_205 at hF
  obtain ⟨d, rfl⟩ : ∃ e, d = e + 1 := ⟨d - 1, by omega⟩
  refine zx_iconst (v := 1) rfl rfl rfl ?_
  refine zx_goto rfl rfl ?_
  exact tb252_210 (l0 := l0) (l1 := l1) (l2 := l2) (l3 := l3) (l4 := l4) (l5 := l5) (l6 := l6) (l7 := l7) (l8 := l8) (s0 := 1) hd hr3 hr184  hF q
def b252_184 (n : Nat)  (r3 : Nat → Int32 → Int32 → Int32 → Int32 → zH → Option (Int32 × zH)) (r184 : Nat → Int32 → Int32 → Int32 → Int32 → Int32 → Int32 → Int32 → Int32 → zH → Option (Int32 × zH)) (l0 : Nat) (l1 : Int32) (l2 : Int32) (l3 : Int32) (l4 : Int32) (l5 : Int32) (l6 : Int32) (l7 : Int32) (l8 : Int32) (h : zH) : Option (Int32 × zH) :=
  if l8 = (-1) then
    b252_308 n r3 l0 l1 l2 l3 l4 l5 l6 l7 h
  else
    if l7 = 0 then
      (gR h l0 11 82).bind fun x3 =>
      x3.bind fun a5 =>
      (aB h a5 l8).bind fun x6 =>
      if x6 = 0 then
        b252_210 n r3 r184 l0 l1 l2 l3 l4 l5 l6 l7 l8 0 h
      else
        b252_205 n r3 r184 l0 l1 l2 l3 l4 l5 l6 l7 l8 h
    else
      b252_205 n r3 r184 l0 l1 l2 l3 l4 l5 l6 l7 l8 h
set_option maxRecDepth 20000 in
theorem tb252_184 {d n : Nat} {Q : zRs → zH → Prop}  {r3 : Nat → Int32 → Int32 → Int32 → Int32 → zH → Option (Int32 × zH)} {r184 : Nat → Int32 → Int32 → Int32 → Int32 → Int32 → Int32 → Int32 → Int32 → zH → Option (Int32 × zH)} {l0 : Nat} {l1 : Int32} {l2 : Int32} {l3 : Int32} {l4 : Int32} {l5 : Int32} {l6 : Int32} {l7 : Int32} {l8 : Int32}   (hd : 3 ≤ d)  (hr3 : ∀ {l0 : Nat} {l1 : Int32} {l2 : Int32} {l3 : Int32} {l4 : Int32}  {x5 : Option Value} {x6 : Option Value} {x7 : Option Value} {x8 : Option Value} {h : zH} {p : (Int32 × zH)}, zn2 x5 = true → zn2 x6 = true → zn2 x7 = true → zn2 x8 = true → r3 l0 l1 l2 l3 l4 h = some p → Q (eI p.1) p.2 → zW d 252 3 [some (.ref l0), some (.int l1), some (.int l2), some (.int l3), some (.int l4), x5, x6, x7, x8] [] h Q) (hr184 : ∀ {l0 : Nat} {l1 : Int32} {l2 : Int32} {l3 : Int32} {l4 : Int32} {l5 : Int32} {l6 : Int32} {l7 : Int32} {l8 : Int32}   {h : zH} {p : (Int32 × zH)}, r184 l0 l1 l2 l3 l4 l5 l6 l7 l8 h = some p → Q (eI p.1) p.2 → zW d 252 184 [some (.ref l0), some (.int l1), some (.int l2), some (.int l3), some (.int l4), some (.int l5), some (.int l6), some (.int l7), some (.int l8)] [] h Q) {h : zH} {p : (Int32 × zH)}  (hF : b252_184 n  r3 r184 l0 l1 l2 l3 l4 l5 l6 l7 l8 h = some p) (q : Q (eI p.1) p.2) : zW d 252 184 [some (.ref l0), some (.int l1), some (.int l2), some (.int l3), some (.int l4), some (.int l5), some (.int l6), some (.int l7), some (.int l8)] [] h Q := by
  unfold b252_184 at hF
  obtain ⟨d, rfl⟩ : ∃ e, d = e + 1 := ⟨d - 1, by omega⟩
  refine zx_iload rfl rfl rfl ?_
  refine zx_iconst (v := (-1)) rfl rfl rfl ?_
  refine zx_ic_eq rfl rfl (fun c1 => ?_) (fun c1 => ?_)
  · rw [if_pos c1] at hF
    refine zx_goto rfl rfl ?_
    exact tb252_308 (l0 := l0) (l1 := l1) (l2 := l2) (l3 := l3) (l4 := l4) (l5 := l5) (l6 := l6) (l7 := l7) hd hr3 rfl hF q
  · rw [if_neg c1] at hF
    refine zx_iload rfl rfl rfl ?_
    refine zx_if_ne rfl rfl (fun c2 => ?_) (fun c2 => ?_)
    · rw [if_neg c2] at hF
      exact tb252_205 (l0 := l0) (l1 := l1) (l2 := l2) (l3 := l3) (l4 := l4) (l5 := l5) (l6 := l6) (l7 := l7) (l8 := l8) hd hr3 hr184  hF q
    · rw [if_pos c2] at hF
      refine zx_aload_n rfl rfl rfl ?_
      replace hF := zbnd hF
      obtain ⟨x3, e4, hF⟩ := hF
      refine zy_getR rfl rfl e4 ?_
      refine zx_iload rfl rfl rfl ?_
      replace hF := zbnd hF
      obtain ⟨a5, rfl, hF⟩ := hF
      replace hF := zbnd hF
      obtain ⟨x6, e7, hF⟩ := hF
      refine zy_aB rfl rfl e7 ?_
      refine zx_if_eq rfl rfl (fun c8 => ?_) (fun c8 => ?_)
      · rw [if_pos c8] at hF
        refine zx_iconst (v := 0) rfl rfl rfl ?_
        exact tb252_210 (l0 := l0) (l1 := l1) (l2 := l2) (l3 := l3) (l4 := l4) (l5 := l5) (l6 := l6) (l7 := l7) (l8 := l8) (s0 := 0) hd hr3 hr184  hF q
      · rw [if_neg c8] at hF
        exact tb252_205 (l0 := l0) (l1 := l1) (l2 := l2) (l3 := l3) (l4 := l4) (l5 := l5) (l6 := l6) (l7 := l7) (l8 := l8) hd hr3 hr184  hF q
def f252_184 (n : Nat)  (r3 : Nat → Int32 → Int32 → Int32 → Int32 → zH → Option (Int32 × zH)) (k : Nat) : Nat → Int32 → Int32 → Int32 → Int32 → Int32 → Int32 → Int32 → Int32 → zH → Option (Int32 × zH) := Nat.rec (fun _ _ _ _ _ _ _ _ _ _ => none) (fun _ ih => b252_184 n  r3 ih) k
theorem tf252_184 {d n : Nat} {Q : zRs → zH → Prop}  {r3 : Nat → Int32 → Int32 → Int32 → Int32 → zH → Option (Int32 × zH)} (hd : 3 ≤ d)  (hr3 : ∀ {l0 : Nat} {l1 : Int32} {l2 : Int32} {l3 : Int32} {l4 : Int32}  {x5 : Option Value} {x6 : Option Value} {x7 : Option Value} {x8 : Option Value} {h : zH} {p : (Int32 × zH)}, zn2 x5 = true → zn2 x6 = true → zn2 x7 = true → zn2 x8 = true → r3 l0 l1 l2 l3 l4 h = some p → Q (eI p.1) p.2 → zW d 252 3 [some (.ref l0), some (.int l1), some (.int l2), some (.int l3), some (.int l4), x5, x6, x7, x8] [] h Q) (k : Nat) : ∀ {l0 : Nat} {l1 : Int32} {l2 : Int32} {l3 : Int32} {l4 : Int32} {l5 : Int32} {l6 : Int32} {l7 : Int32} {l8 : Int32}   {h : zH} {p : (Int32 × zH)}, f252_184 n  r3 k l0 l1 l2 l3 l4 l5 l6 l7 l8 h = some p → Q (eI p.1) p.2 → zW d 252 184 [some (.ref l0), some (.int l1), some (.int l2), some (.int l3), some (.int l4), some (.int l5), some (.int l6), some (.int l7), some (.int l8)] [] h Q := by
  induction k with
  | zero => intros; rename_i hF _; cases hF
  | succ k ih => intros; rename_i  hF q; exact tb252_184 (n := n) hd  hr3 ih  hF q
def b252_274 (n : Nat)  (r3 : Nat → Int32 → Int32 → Int32 → Int32 → zH → Option (Int32 × zH)) (r248 : Nat → Int32 → Int32 → Int32 → Int32 → Int32 → Int32 → Int32 → Int32 → zH → Option (Int32 × zH)) (l0 : Nat) (l1 : Int32) (l2 : Int32) (l3 : Int32) (l4 : Int32) (l5 : Int32) (l6 : Int32) (l7 : Int32) (l8 : Int32) (s0 : Int32) (h : zH) : Option (Int32 × zH) :=
  (gR h l0 11 60).bind fun x1 =>
  (gI h l0 11 3).bind fun x3 =>
  x1.bind fun a5 =>
  (aI h a5 ((400 * x3) + l8)).bind fun x6 =>
  r248 l0 l1 l2 l3 l4 l5 l6 s0 x6 h
set_option maxRecDepth 20000 in
theorem tb252_274 {d n : Nat} {Q : zRs → zH → Prop}  {r3 : Nat → Int32 → Int32 → Int32 → Int32 → zH → Option (Int32 × zH)} {r248 : Nat → Int32 → Int32 → Int32 → Int32 → Int32 → Int32 → Int32 → Int32 → zH → Option (Int32 × zH)} {l0 : Nat} {l1 : Int32} {l2 : Int32} {l3 : Int32} {l4 : Int32} {l5 : Int32} {l6 : Int32} {l7 : Int32} {l8 : Int32} {s0 : Int32}  (hd : 3 ≤ d)  (hr3 : ∀ {l0 : Nat} {l1 : Int32} {l2 : Int32} {l3 : Int32} {l4 : Int32}  {x5 : Option Value} {x6 : Option Value} {x7 : Option Value} {x8 : Option Value} {h : zH} {p : (Int32 × zH)}, zn2 x5 = true → zn2 x6 = true → zn2 x7 = true → zn2 x8 = true → r3 l0 l1 l2 l3 l4 h = some p → Q (eI p.1) p.2 → zW d 252 3 [some (.ref l0), some (.int l1), some (.int l2), some (.int l3), some (.int l4), x5, x6, x7, x8] [] h Q) (hr248 : ∀ {l0 : Nat} {l1 : Int32} {l2 : Int32} {l3 : Int32} {l4 : Int32} {l5 : Int32} {l6 : Int32} {l7 : Int32} {l8 : Int32}   {h : zH} {p : (Int32 × zH)}, r248 l0 l1 l2 l3 l4 l5 l6 l7 l8 h = some p → Q (eI p.1) p.2 → zW d 252 248 [some (.ref l0), some (.int l1), some (.int l2), some (.int l3), some (.int l4), some (.int l5), some (.int l6), some (.int l7), some (.int l8)] [] h Q) {h : zH} {p : (Int32 × zH)}  (hF : b252_274 n  r3 r248 l0 l1 l2 l3 l4 l5 l6 l7 l8 s0 h = some p) (q : Q (eI p.1) p.2) : zW d 252 274 [some (.ref l0), some (.int l1), some (.int l2), some (.int l3), some (.int l4), some (.int l5), some (.int l6), some (.int l7), some (.int l8)] [.int s0] h Q := by
  unfold b252_274 at hF
  obtain ⟨d, rfl⟩ : ∃ e, d = e + 1 := ⟨d - 1, by omega⟩
  refine zx_istore rfl rfl rfl ?_
  refine zx_aload_n rfl rfl rfl ?_
  replace hF := zbnd hF
  obtain ⟨x1, e2, hF⟩ := hF
  refine zy_getR rfl rfl e2 ?_
  refine zx_sipush (v := 400) rfl rfl rfl ?_
  refine zx_aload_n rfl rfl rfl ?_
  replace hF := zbnd hF
  obtain ⟨x3, e4, hF⟩ := hF
  refine zy_getI rfl rfl e4 ?_
  refine zx_imul rfl rfl ?_
  refine zx_iload rfl rfl rfl ?_
  refine zx_iadd rfl rfl ?_
  replace hF := zbnd hF
  obtain ⟨a5, rfl, hF⟩ := hF
  replace hF := zbnd hF
  obtain ⟨x6, e7, hF⟩ := hF
  refine zy_aI rfl rfl e7 ?_
  refine zx_istore rfl rfl rfl ?_
  refine zx_goto rfl rfl ?_
  exact hr248  hF q
def b252_273 (n : Nat)  (r3 : Nat → Int32 → Int32 → Int32 → Int32 → zH → Option (Int32 × zH)) (r248 : Nat → Int32 → Int32 → Int32 → Int32 → Int32 → Int32 → Int32 → Int32 → zH → Option (Int32 × zH)) (l0 : Nat) (l1 : Int32) (l2 : Int32) (l3 : Int32) (l4 : Int32) (l5 : Int32) (l6 : Int32) (l7 : Int32) (l8 : Int32) (h : zH) : Option (Int32 × zH) :=
  b252_274 n r3 r248 l0 l1 l2 l3 l4 l5 l6 l7 l8 0 h
set_option maxRecDepth 20000 in
theorem tb252_273 {d n : Nat} {Q : zRs → zH → Prop}  {r3 : Nat → Int32 → Int32 → Int32 → Int32 → zH → Option (Int32 × zH)} {r248 : Nat → Int32 → Int32 → Int32 → Int32 → Int32 → Int32 → Int32 → Int32 → zH → Option (Int32 × zH)} {l0 : Nat} {l1 : Int32} {l2 : Int32} {l3 : Int32} {l4 : Int32} {l5 : Int32} {l6 : Int32} {l7 : Int32} {l8 : Int32}   (hd : 3 ≤ d)  (hr3 : ∀ {l0 : Nat} {l1 : Int32} {l2 : Int32} {l3 : Int32} {l4 : Int32}  {x5 : Option Value} {x6 : Option Value} {x7 : Option Value} {x8 : Option Value} {h : zH} {p : (Int32 × zH)}, zn2 x5 = true → zn2 x6 = true → zn2 x7 = true → zn2 x8 = true → r3 l0 l1 l2 l3 l4 h = some p → Q (eI p.1) p.2 → zW d 252 3 [some (.ref l0), some (.int l1), some (.int l2), some (.int l3), some (.int l4), x5, x6, x7, x8] [] h Q) (hr248 : ∀ {l0 : Nat} {l1 : Int32} {l2 : Int32} {l3 : Int32} {l4 : Int32} {l5 : Int32} {l6 : Int32} {l7 : Int32} {l8 : Int32}   {h : zH} {p : (Int32 × zH)}, r248 l0 l1 l2 l3 l4 l5 l6 l7 l8 h = some p → Q (eI p.1) p.2 → zW d 252 248 [some (.ref l0), some (.int l1), some (.int l2), some (.int l3), some (.int l4), some (.int l5), some (.int l6), some (.int l7), some (.int l8)] [] h Q) {h : zH} {p : (Int32 × zH)}  (hF : b252_273 n  r3 r248 l0 l1 l2 l3 l4 l5 l6 l7 l8 h = some p) (q : Q (eI p.1) p.2) : zW d 252 273 [some (.ref l0), some (.int l1), some (.int l2), some (.int l3), some (.int l4), some (.int l5), some (.int l6), some (.int l7), some (.int l8)] [] h Q := by
  unfold b252_273 at hF
  obtain ⟨d, rfl⟩ : ∃ e, d = e + 1 := ⟨d - 1, by omega⟩
  refine zx_iconst (v := 0) rfl rfl rfl ?_
  exact tb252_274 (l0 := l0) (l1 := l1) (l2 := l2) (l3 := l3) (l4 := l4) (l5 := l5) (l6 := l6) (l7 := l7) (l8 := l8) (s0 := 0) hd hr3 hr248  hF q
def b252_248 (n : Nat)  (r3 : Nat → Int32 → Int32 → Int32 → Int32 → zH → Option (Int32 × zH)) (r248 : Nat → Int32 → Int32 → Int32 → Int32 → Int32 → Int32 → Int32 → Int32 → zH → Option (Int32 × zH)) (l0 : Nat) (l1 : Int32) (l2 : Int32) (l3 : Int32) (l4 : Int32) (l5 : Int32) (l6 : Int32) (l7 : Int32) (l8 : Int32) (h : zH) : Option (Int32 × zH) :=
  if l8 = (-1) then
    b252_308 n r3 l0 l1 l2 l3 l4 l5 l6 l7 h
  else
    if l7 = 0 then
      b252_273 n r3 r248 l0 l1 l2 l3 l4 l5 l6 l7 l8 h
    else
      (gR h l0 11 82).bind fun x3 =>
      x3.bind fun a5 =>
      (aB h a5 l8).bind fun x6 =>
      if x6 = 0 then
        b252_273 n r3 r248 l0 l1 l2 l3 l4 l5 l6 l7 l8 h
      else
        b252_274 n r3 r248 l0 l1 l2 l3 l4 l5 l6 l7 l8 1 h
set_option maxRecDepth 20000 in
theorem tb252_248 {d n : Nat} {Q : zRs → zH → Prop}  {r3 : Nat → Int32 → Int32 → Int32 → Int32 → zH → Option (Int32 × zH)} {r248 : Nat → Int32 → Int32 → Int32 → Int32 → Int32 → Int32 → Int32 → Int32 → zH → Option (Int32 × zH)} {l0 : Nat} {l1 : Int32} {l2 : Int32} {l3 : Int32} {l4 : Int32} {l5 : Int32} {l6 : Int32} {l7 : Int32} {l8 : Int32}   (hd : 3 ≤ d)  (hr3 : ∀ {l0 : Nat} {l1 : Int32} {l2 : Int32} {l3 : Int32} {l4 : Int32}  {x5 : Option Value} {x6 : Option Value} {x7 : Option Value} {x8 : Option Value} {h : zH} {p : (Int32 × zH)}, zn2 x5 = true → zn2 x6 = true → zn2 x7 = true → zn2 x8 = true → r3 l0 l1 l2 l3 l4 h = some p → Q (eI p.1) p.2 → zW d 252 3 [some (.ref l0), some (.int l1), some (.int l2), some (.int l3), some (.int l4), x5, x6, x7, x8] [] h Q) (hr248 : ∀ {l0 : Nat} {l1 : Int32} {l2 : Int32} {l3 : Int32} {l4 : Int32} {l5 : Int32} {l6 : Int32} {l7 : Int32} {l8 : Int32}   {h : zH} {p : (Int32 × zH)}, r248 l0 l1 l2 l3 l4 l5 l6 l7 l8 h = some p → Q (eI p.1) p.2 → zW d 252 248 [some (.ref l0), some (.int l1), some (.int l2), some (.int l3), some (.int l4), some (.int l5), some (.int l6), some (.int l7), some (.int l8)] [] h Q) {h : zH} {p : (Int32 × zH)}  (hF : b252_248 n  r3 r248 l0 l1 l2 l3 l4 l5 l6 l7 l8 h = some p) (q : Q (eI p.1) p.2) : zW d 252 248 [some (.ref l0), some (.int l1), some (.int l2), some (.int l3), some (.int l4), some (.int l5), some (.int l6), some (.int l7), some (.int l8)] [] h Q := by
  unfold b252_248 at hF
  obtain ⟨d, rfl⟩ : ∃ e, d = e + 1 := ⟨d - 1, by omega⟩
  refine zx_iload rfl rfl rfl ?_
  refine zx_iconst (v := (-1)) rfl rfl rfl ?_
  refine zx_ic_eq rfl rfl (fun c1 => ?_) (fun c1 => ?_)
  · rw [if_pos c1] at hF
    refine zx_goto rfl rfl ?_
    exact tb252_308 (l0 := l0) (l1 := l1) (l2 := l2) (l3 := l3) (l4 := l4) (l5 := l5) (l6 := l6) (l7 := l7) hd hr3 rfl hF q
  · rw [if_neg c1] at hF
    refine zx_iload rfl rfl rfl ?_
    refine zx_if_eq rfl rfl (fun c2 => ?_) (fun c2 => ?_)
    · rw [if_pos c2] at hF
      exact tb252_273 (l0 := l0) (l1 := l1) (l2 := l2) (l3 := l3) (l4 := l4) (l5 := l5) (l6 := l6) (l7 := l7) (l8 := l8) hd hr3 hr248  hF q
    · rw [if_neg c2] at hF
      refine zx_aload_n rfl rfl rfl ?_
      replace hF := zbnd hF
      obtain ⟨x3, e4, hF⟩ := hF
      refine zy_getR rfl rfl e4 ?_
      refine zx_iload rfl rfl rfl ?_
      replace hF := zbnd hF
      obtain ⟨a5, rfl, hF⟩ := hF
      replace hF := zbnd hF
      obtain ⟨x6, e7, hF⟩ := hF
      refine zy_aB rfl rfl e7 ?_
      refine zx_if_eq rfl rfl (fun c8 => ?_) (fun c8 => ?_)
      · rw [if_pos c8] at hF
        exact tb252_273 (l0 := l0) (l1 := l1) (l2 := l2) (l3 := l3) (l4 := l4) (l5 := l5) (l6 := l6) (l7 := l7) (l8 := l8) hd hr3 hr248  hF q
      · rw [if_neg c8] at hF
        refine zx_iconst (v := 1) rfl rfl rfl ?_
        refine zx_goto rfl rfl ?_
        exact tb252_274 (l0 := l0) (l1 := l1) (l2 := l2) (l3 := l3) (l4 := l4) (l5 := l5) (l6 := l6) (l7 := l7) (l8 := l8) (s0 := 1) hd hr3 hr248  hF q
def f252_248 (n : Nat)  (r3 : Nat → Int32 → Int32 → Int32 → Int32 → zH → Option (Int32 × zH)) (k : Nat) : Nat → Int32 → Int32 → Int32 → Int32 → Int32 → Int32 → Int32 → Int32 → zH → Option (Int32 × zH) := Nat.rec (fun _ _ _ _ _ _ _ _ _ _ => none) (fun _ ih => b252_248 n  r3 ih) k
theorem tf252_248 {d n : Nat} {Q : zRs → zH → Prop}  {r3 : Nat → Int32 → Int32 → Int32 → Int32 → zH → Option (Int32 × zH)} (hd : 3 ≤ d)  (hr3 : ∀ {l0 : Nat} {l1 : Int32} {l2 : Int32} {l3 : Int32} {l4 : Int32}  {x5 : Option Value} {x6 : Option Value} {x7 : Option Value} {x8 : Option Value} {h : zH} {p : (Int32 × zH)}, zn2 x5 = true → zn2 x6 = true → zn2 x7 = true → zn2 x8 = true → r3 l0 l1 l2 l3 l4 h = some p → Q (eI p.1) p.2 → zW d 252 3 [some (.ref l0), some (.int l1), some (.int l2), some (.int l3), some (.int l4), x5, x6, x7, x8] [] h Q) (k : Nat) : ∀ {l0 : Nat} {l1 : Int32} {l2 : Int32} {l3 : Int32} {l4 : Int32} {l5 : Int32} {l6 : Int32} {l7 : Int32} {l8 : Int32}   {h : zH} {p : (Int32 × zH)}, f252_248 n  r3 k l0 l1 l2 l3 l4 l5 l6 l7 l8 h = some p → Q (eI p.1) p.2 → zW d 252 248 [some (.ref l0), some (.int l1), some (.int l2), some (.int l3), some (.int l4), some (.int l5), some (.int l6), some (.int l7), some (.int l8)] [] h Q := by
  induction k with
  | zero => intros; rename_i hF _; cases hF
  | succ k ih => intros; rename_i  hF q; exact tb252_248 (n := n) hd  hr3 ih  hF q
def b252_3 (n : Nat)  (r3 : Nat → Int32 → Int32 → Int32 → Int32 → zH → Option (Int32 × zH)) (l0 : Nat) (l1 : Int32) (l2 : Int32) (l3 : Int32) (l4 : Int32) (h : zH) : Option (Int32 × zH) :=
  if l3 ≤ l4 then
    (gR h l0 11 82).bind fun x2 =>
    x2.bind fun a4 =>
    (aB h a4 l1).bind fun x5 =>
    zgd (zrtn .boolean x5) <|
    some (x5, h)
  else
    (gR h l0 11 61).bind fun x8 =>
    (gI h l0 11 3).bind fun x10 =>
    x8.bind fun a12 =>
    (aI h a12 ((400 * x10) + l4)).bind fun x13 =>
    (gI h l0 11 3).bind fun x15 =>
    (gR h l0 11 54).bind fun x17 =>
    x17.bind fun a19 =>
    (aI h a19 ((400 * x15) + x13)).bind fun x20 =>
    if x20 = 0 then
      b252_308 n r3 l0 l1 l2 l3 l4 x13 ((400 * x15) + x13) 1 h
    else
    if x20 = 1 then
      b252_308 n r3 l0 l1 l2 l3 l4 x13 ((400 * x15) + x13) 0 h
    else
    if x20 = 2 then
      (gR h l0 11 83).bind fun x25 =>
      (gR h l0 11 55).bind fun x27 =>
      x27.bind fun a29 =>
      (aI h a29 ((400 * x15) + x13)).bind fun x30 =>
      x25.bind fun a32 =>
      (aB h a32 x30).bind fun x33 =>
      b252_308 n r3 l0 l1 l2 l3 l4 x13 ((400 * x15) + x13) x33 h
    else
    if x20 = 3 then
      zgd (isO h l0 11) <|
      (f253 n l0 ((400 * x15) + x13) h).bind fun p38 =>
      b252_308 n r3 l0 l1 l2 l3 l4 x13 ((400 * x15) + x13) p38.1 p38.2
    else
    if x20 = 4 then
      zgd (isO h l0 11) <|
      (f253 n l0 ((400 * x15) + x13) h).bind fun p42 =>
      b252_308 n r3 l0 l1 l2 l3 l4 x13 ((400 * x15) + x13) p42.1 p42.2
    else
    if x20 = 5 then
      zgd (isO h l0 11) <|
      (f253 n l0 ((400 * x15) + x13) h).bind fun p46 =>
      b252_308 n r3 l0 l1 l2 l3 l4 x13 ((400 * x15) + x13) p46.1 p46.2
    else
    if x20 = 6 then
      zgd (isO h l0 11) <|
      (f253 n l0 ((400 * x15) + x13) h).bind fun p50 =>
      b252_308 n r3 l0 l1 l2 l3 l4 x13 ((400 * x15) + x13) p50.1 p50.2
    else
    if x20 = 7 then
      zgd (isO h l0 11) <|
      (f253 n l0 ((400 * x15) + x13) h).bind fun p54 =>
      b252_308 n r3 l0 l1 l2 l3 l4 x13 ((400 * x15) + x13) p54.1 p54.2
    else
    if x20 = 8 then
      zgd (isO h l0 11) <|
      (f253 n l0 ((400 * x15) + x13) h).bind fun p58 =>
      b252_308 n r3 l0 l1 l2 l3 l4 x13 ((400 * x15) + x13) p58.1 p58.2
    else
    if x20 = 9 then
      zgd (isO h l0 11) <|
      (f253 n l0 ((400 * x15) + x13) h).bind fun p62 =>
      b252_308 n r3 l0 l1 l2 l3 l4 x13 ((400 * x15) + x13) p62.1 p62.2
    else
    if x20 = 10 then
      zgd (isO h l0 11) <|
      (f253 n l0 ((400 * x15) + x13) h).bind fun p66 =>
      b252_308 n r3 l0 l1 l2 l3 l4 x13 ((400 * x15) + x13) p66.1 p66.2
    else
    if x20 = 11 then
      zgd (isO h l0 11) <|
      (f253 n l0 ((400 * x15) + x13) h).bind fun p70 =>
      b252_308 n r3 l0 l1 l2 l3 l4 x13 ((400 * x15) + x13) p70.1 p70.2
    else
    if x20 = 12 then
      (gR h l0 11 82).bind fun x72 =>
      (gR h l0 11 59).bind fun x74 =>
      x74.bind fun a76 =>
      (aI h a76 ((400 * x15) + x13)).bind fun x77 =>
      x72.bind fun a79 =>
      (aB h a79 x77).bind fun x80 =>
      if x80 = 0 then
        b252_170 n r3 l0 l1 l2 l3 l4 x13 ((400 * x15) + x13) 0 1 h
      else
        b252_170 n r3 l0 l1 l2 l3 l4 x13 ((400 * x15) + x13) 0 0 h
    else
    if x20 = 13 then
      (gR h l0 11 59).bind fun x84 =>
      x84.bind fun a86 =>
      (aI h a86 ((400 * x15) + x13)).bind fun x87 =>
      f252_184 n r3 n l0 l1 l2 l3 l4 x13 ((400 * x15) + x13) 0 x87 h
    else
    if x20 = 14 then
      (gR h l0 11 59).bind fun x90 =>
      x90.bind fun a92 =>
      (aI h a92 ((400 * x15) + x13)).bind fun x93 =>
      f252_248 n r3 n l0 l1 l2 l3 l4 x13 ((400 * x15) + x13) 1 x93 h
    else
    zgd (isO h l0 11) <|
    (f253 n l0 ((400 * x15) + x13) h).bind fun p97 =>
    b252_308 n r3 l0 l1 l2 l3 l4 x13 ((400 * x15) + x13) p97.1 p97.2
set_option maxRecDepth 20000 in
theorem tb252_3 {d n : Nat} {Q : zRs → zH → Prop}  {r3 : Nat → Int32 → Int32 → Int32 → Int32 → zH → Option (Int32 × zH)} {l0 : Nat} {l1 : Int32} {l2 : Int32} {l3 : Int32} {l4 : Int32}  {x5 : Option Value} {x6 : Option Value} {x7 : Option Value} {x8 : Option Value} (hd : 3 ≤ d)  (hr3 : ∀ {l0 : Nat} {l1 : Int32} {l2 : Int32} {l3 : Int32} {l4 : Int32}  {x5 : Option Value} {x6 : Option Value} {x7 : Option Value} {x8 : Option Value} {h : zH} {p : (Int32 × zH)}, zn2 x5 = true → zn2 x6 = true → zn2 x7 = true → zn2 x8 = true → r3 l0 l1 l2 l3 l4 h = some p → Q (eI p.1) p.2 → zW d 252 3 [some (.ref l0), some (.int l1), some (.int l2), some (.int l3), some (.int l4), x5, x6, x7, x8] [] h Q) {h : zH} {p : (Int32 × zH)} (hx5 : zn2 x5 = true) (hx6 : zn2 x6 = true) (hx7 : zn2 x7 = true) (hx8 : zn2 x8 = true) (hF : b252_3 n  r3 l0 l1 l2 l3 l4 h = some p) (q : Q (eI p.1) p.2) : zW d 252 3 [some (.ref l0), some (.int l1), some (.int l2), some (.int l3), some (.int l4), x5, x6, x7, x8] [] h Q := by
  unfold b252_3 at hF
  obtain ⟨d, rfl⟩ : ∃ e, d = e + 1 := ⟨d - 1, by omega⟩
  refine zx_iload rfl rfl rfl ?_
  refine zx_iload_n rfl rfl rfl ?_
  refine zx_ic_ge rfl rfl (fun c1 => ?_) (fun c1 => ?_)
  · rw [if_pos c1] at hF
    refine zx_aload_n rfl rfl rfl ?_
    replace hF := zbnd hF
    obtain ⟨x2, e3, hF⟩ := hF
    refine zy_getR rfl rfl e3 ?_
    refine zx_iload_n rfl rfl rfl ?_
    replace hF := zbnd hF
    obtain ⟨a4, rfl, hF⟩ := hF
    replace hF := zbnd hF
    obtain ⟨x5, e6, hF⟩ := hF
    refine zy_aB rfl rfl e6 ?_
    replace hF := zgd_some hF
    obtain ⟨g7, hF⟩ := hF
    replace hF := Option.some.inj hF
    subst hF
    exact zx_bret rfl rfl rfl g7 q
  · rw [if_neg c1] at hF
    refine zx_aload_n rfl rfl rfl ?_
    replace hF := zbnd hF
    obtain ⟨x8, e9, hF⟩ := hF
    refine zy_getR rfl rfl e9 ?_
    refine zx_sipush (v := 400) rfl rfl rfl ?_
    refine zx_aload_n rfl rfl rfl ?_
    replace hF := zbnd hF
    obtain ⟨x10, e11, hF⟩ := hF
    refine zy_getI rfl rfl e11 ?_
    refine zx_imul rfl rfl ?_
    refine zx_iload rfl rfl rfl ?_
    refine zx_iadd rfl rfl ?_
    replace hF := zbnd hF
    obtain ⟨a12, rfl, hF⟩ := hF
    replace hF := zbnd hF
    obtain ⟨x13, e14, hF⟩ := hF
    refine zy_aI rfl rfl e14 ?_
    refine zx_istore rfl rfl rfl ?_
    refine zx_sipush (v := 400) rfl rfl rfl ?_
    refine zx_aload_n rfl rfl rfl ?_
    replace hF := zbnd hF
    obtain ⟨x15, e16, hF⟩ := hF
    refine zy_getI rfl rfl e16 ?_
    refine zx_imul rfl rfl ?_
    refine zx_iload rfl rfl rfl ?_
    refine zx_iadd rfl rfl ?_
    refine zx_istore rfl rfl rfl ?_
    refine zx_iconst (v := 0) rfl rfl rfl ?_
    refine zx_istore rfl rfl rfl ?_
    refine zx_aload_n rfl rfl rfl ?_
    replace hF := zbnd hF
    obtain ⟨x17, e18, hF⟩ := hF
    refine zy_getR rfl rfl e18 ?_
    refine zx_iload rfl rfl rfl ?_
    replace hF := zbnd hF
    obtain ⟨a19, rfl, hF⟩ := hF
    replace hF := zbnd hF
    obtain ⟨x20, e21, hF⟩ := hF
    refine zy_aI rfl rfl e21 ?_
    by_cases c22 : x20 = 0
    · rw [if_pos c22] at hF
      refine zw_switch rfl rfl (t := 124) (by rw [c22]; rfl) ?_
      refine zx_iconst (v := 1) rfl rfl rfl ?_
      refine zx_istore rfl rfl rfl ?_
      refine zx_goto rfl rfl ?_
      exact tb252_308 (l0 := l0) (l1 := l1) (l2 := l2) (l3 := l3) (l4 := l4) (l5 := x13) (l6 := ((400 * x15) + x13)) (l7 := 1) hd hr3 hx8 hF q
    rw [if_neg c22] at hF
    by_cases c23 : x20 = 1
    · rw [if_pos c23] at hF
      refine zw_switch rfl rfl (t := 130) (by rw [c23]; rfl) ?_
      refine zx_goto rfl rfl ?_
      exact tb252_308 (l0 := l0) (l1 := l1) (l2 := l2) (l3 := l3) (l4 := l4) (l5 := x13) (l6 := ((400 * x15) + x13)) (l7 := 0) hd hr3 hx8 hF q
    rw [if_neg c23] at hF
    by_cases c24 : x20 = 2
    · rw [if_pos c24] at hF
      refine zw_switch rfl rfl (t := 133) (by rw [c24]; rfl) ?_
      refine zx_aload_n rfl rfl rfl ?_
      replace hF := zbnd hF
      obtain ⟨x25, e26, hF⟩ := hF
      refine zy_getR rfl rfl e26 ?_
      refine zx_aload_n rfl rfl rfl ?_
      replace hF := zbnd hF
      obtain ⟨x27, e28, hF⟩ := hF
      refine zy_getR rfl rfl e28 ?_
      refine zx_iload rfl rfl rfl ?_
      replace hF := zbnd hF
      obtain ⟨a29, rfl, hF⟩ := hF
      replace hF := zbnd hF
      obtain ⟨x30, e31, hF⟩ := hF
      refine zy_aI rfl rfl e31 ?_
      replace hF := zbnd hF
      obtain ⟨a32, rfl, hF⟩ := hF
      replace hF := zbnd hF
      obtain ⟨x33, e34, hF⟩ := hF
      refine zy_aB rfl rfl e34 ?_
      refine zx_istore rfl rfl rfl ?_
      refine zx_goto rfl rfl ?_
      exact tb252_308 (l0 := l0) (l1 := l1) (l2 := l2) (l3 := l3) (l4 := l4) (l5 := x13) (l6 := ((400 * x15) + x13)) (l7 := x33) hd hr3 hx8 hF q
    rw [if_neg c24] at hF
    by_cases c35 : x20 = 3
    · rw [if_pos c35] at hF
      refine zw_switch rfl rfl (t := 300) (by rw [c35]; rfl) ?_
      refine zx_aload_n rfl rfl rfl ?_
      refine zx_iload rfl rfl rfl ?_
      replace hF := zgd_some hF
      obtain ⟨g36, hF⟩ := hF
      replace hF := zbnd hF
      obtain ⟨p38, e37, hF⟩ := hF
      refine zx_callE rfl rfl rfl rfl (zrcv_isO g36) rfl rfl (zc4 (Nat.le_of_ble_eq_true rfl)) (t253 (by omega) e37 (zaI ?_))
      refine zx_istore rfl rfl rfl ?_
      exact tb252_308 (l0 := l0) (l1 := l1) (l2 := l2) (l3 := l3) (l4 := l4) (l5 := x13) (l6 := ((400 * x15) + x13)) (l7 := p38.1) hd hr3 hx8 hF q
    rw [if_neg c35] at hF
    by_cases c39 : x20 = 4
    · rw [if_pos c39] at hF
      refine zw_switch rfl rfl (t := 300) (by rw [c39]; rfl) ?_
      refine zx_aload_n rfl rfl rfl ?_
      refine zx_iload rfl rfl rfl ?_
      replace hF := zgd_some hF
      obtain ⟨g40, hF⟩ := hF
      replace hF := zbnd hF
      obtain ⟨p42, e41, hF⟩ := hF
      refine zx_callE rfl rfl rfl rfl (zrcv_isO g40) rfl rfl (zc4 (Nat.le_of_ble_eq_true rfl)) (t253 (by omega) e41 (zaI ?_))
      refine zx_istore rfl rfl rfl ?_
      exact tb252_308 (l0 := l0) (l1 := l1) (l2 := l2) (l3 := l3) (l4 := l4) (l5 := x13) (l6 := ((400 * x15) + x13)) (l7 := p42.1) hd hr3 hx8 hF q
    rw [if_neg c39] at hF
    by_cases c43 : x20 = 5
    · rw [if_pos c43] at hF
      refine zw_switch rfl rfl (t := 300) (by rw [c43]; rfl) ?_
      refine zx_aload_n rfl rfl rfl ?_
      refine zx_iload rfl rfl rfl ?_
      replace hF := zgd_some hF
      obtain ⟨g44, hF⟩ := hF
      replace hF := zbnd hF
      obtain ⟨p46, e45, hF⟩ := hF
      refine zx_callE rfl rfl rfl rfl (zrcv_isO g44) rfl rfl (zc4 (Nat.le_of_ble_eq_true rfl)) (t253 (by omega) e45 (zaI ?_))
      refine zx_istore rfl rfl rfl ?_
      exact tb252_308 (l0 := l0) (l1 := l1) (l2 := l2) (l3 := l3) (l4 := l4) (l5 := x13) (l6 := ((400 * x15) + x13)) (l7 := p46.1) hd hr3 hx8 hF q
    rw [if_neg c43] at hF
    by_cases c47 : x20 = 6
    · rw [if_pos c47] at hF
      refine zw_switch rfl rfl (t := 300) (by rw [c47]; rfl) ?_
      refine zx_aload_n rfl rfl rfl ?_
      refine zx_iload rfl rfl rfl ?_
      replace hF := zgd_some hF
      obtain ⟨g48, hF⟩ := hF
      replace hF := zbnd hF
      obtain ⟨p50, e49, hF⟩ := hF
      refine zx_callE rfl rfl rfl rfl (zrcv_isO g48) rfl rfl (zc4 (Nat.le_of_ble_eq_true rfl)) (t253 (by omega) e49 (zaI ?_))
      refine zx_istore rfl rfl rfl ?_
      exact tb252_308 (l0 := l0) (l1 := l1) (l2 := l2) (l3 := l3) (l4 := l4) (l5 := x13) (l6 := ((400 * x15) + x13)) (l7 := p50.1) hd hr3 hx8 hF q
    rw [if_neg c47] at hF
    by_cases c51 : x20 = 7
    · rw [if_pos c51] at hF
      refine zw_switch rfl rfl (t := 300) (by rw [c51]; rfl) ?_
      refine zx_aload_n rfl rfl rfl ?_
      refine zx_iload rfl rfl rfl ?_
      replace hF := zgd_some hF
      obtain ⟨g52, hF⟩ := hF
      replace hF := zbnd hF
      obtain ⟨p54, e53, hF⟩ := hF
      refine zx_callE rfl rfl rfl rfl (zrcv_isO g52) rfl rfl (zc4 (Nat.le_of_ble_eq_true rfl)) (t253 (by omega) e53 (zaI ?_))
      refine zx_istore rfl rfl rfl ?_
      exact tb252_308 (l0 := l0) (l1 := l1) (l2 := l2) (l3 := l3) (l4 := l4) (l5 := x13) (l6 := ((400 * x15) + x13)) (l7 := p54.1) hd hr3 hx8 hF q
    rw [if_neg c51] at hF
    by_cases c55 : x20 = 8
    · rw [if_pos c55] at hF
      refine zw_switch rfl rfl (t := 300) (by rw [c55]; rfl) ?_
      refine zx_aload_n rfl rfl rfl ?_
      refine zx_iload rfl rfl rfl ?_
      replace hF := zgd_some hF
      obtain ⟨g56, hF⟩ := hF
      replace hF := zbnd hF
      obtain ⟨p58, e57, hF⟩ := hF
      refine zx_callE rfl rfl rfl rfl (zrcv_isO g56) rfl rfl (zc4 (Nat.le_of_ble_eq_true rfl)) (t253 (by omega) e57 (zaI ?_))
      refine zx_istore rfl rfl rfl ?_
      exact tb252_308 (l0 := l0) (l1 := l1) (l2 := l2) (l3 := l3) (l4 := l4) (l5 := x13) (l6 := ((400 * x15) + x13)) (l7 := p58.1) hd hr3 hx8 hF q
    rw [if_neg c55] at hF
    by_cases c59 : x20 = 9
    · rw [if_pos c59] at hF
      refine zw_switch rfl rfl (t := 300) (by rw [c59]; rfl) ?_
      refine zx_aload_n rfl rfl rfl ?_
      refine zx_iload rfl rfl rfl ?_
      replace hF := zgd_some hF
      obtain ⟨g60, hF⟩ := hF
      replace hF := zbnd hF
      obtain ⟨p62, e61, hF⟩ := hF
      refine zx_callE rfl rfl rfl rfl (zrcv_isO g60) rfl rfl (zc4 (Nat.le_of_ble_eq_true rfl)) (t253 (by omega) e61 (zaI ?_))
      refine zx_istore rfl rfl rfl ?_
      exact tb252_308 (l0 := l0) (l1 := l1) (l2 := l2) (l3 := l3) (l4 := l4) (l5 := x13) (l6 := ((400 * x15) + x13)) (l7 := p62.1) hd hr3 hx8 hF q
    rw [if_neg c59] at hF
    by_cases c63 : x20 = 10
    · rw [if_pos c63] at hF
      refine zw_switch rfl rfl (t := 300) (by rw [c63]; rfl) ?_
      refine zx_aload_n rfl rfl rfl ?_
      refine zx_iload rfl rfl rfl ?_
      replace hF := zgd_some hF
      obtain ⟨g64, hF⟩ := hF
      replace hF := zbnd hF
      obtain ⟨p66, e65, hF⟩ := hF
      refine zx_callE rfl rfl rfl rfl (zrcv_isO g64) rfl rfl (zc4 (Nat.le_of_ble_eq_true rfl)) (t253 (by omega) e65 (zaI ?_))
      refine zx_istore rfl rfl rfl ?_
      exact tb252_308 (l0 := l0) (l1 := l1) (l2 := l2) (l3 := l3) (l4 := l4) (l5 := x13) (l6 := ((400 * x15) + x13)) (l7 := p66.1) hd hr3 hx8 hF q
    rw [if_neg c63] at hF
    by_cases c67 : x20 = 11
    · rw [if_pos c67] at hF
      refine zw_switch rfl rfl (t := 300) (by rw [c67]; rfl) ?_
      refine zx_aload_n rfl rfl rfl ?_
      refine zx_iload rfl rfl rfl ?_
      replace hF := zgd_some hF
      obtain ⟨g68, hF⟩ := hF
      replace hF := zbnd hF
      obtain ⟨p70, e69, hF⟩ := hF
      refine zx_callE rfl rfl rfl rfl (zrcv_isO g68) rfl rfl (zc4 (Nat.le_of_ble_eq_true rfl)) (t253 (by omega) e69 (zaI ?_))
      refine zx_istore rfl rfl rfl ?_
      exact tb252_308 (l0 := l0) (l1 := l1) (l2 := l2) (l3 := l3) (l4 := l4) (l5 := x13) (l6 := ((400 * x15) + x13)) (l7 := p70.1) hd hr3 hx8 hF q
    rw [if_neg c67] at hF
    by_cases c71 : x20 = 12
    · rw [if_pos c71] at hF
      refine zw_switch rfl rfl (t := 150) (by rw [c71]; rfl) ?_
      refine zx_aload_n rfl rfl rfl ?_
      replace hF := zbnd hF
      obtain ⟨x72, e73, hF⟩ := hF
      refine zy_getR rfl rfl e73 ?_
      refine zx_aload_n rfl rfl rfl ?_
      replace hF := zbnd hF
      obtain ⟨x74, e75, hF⟩ := hF
      refine zy_getR rfl rfl e75 ?_
      refine zx_iload rfl rfl rfl ?_
      replace hF := zbnd hF
      obtain ⟨a76, rfl, hF⟩ := hF
      replace hF := zbnd hF
      obtain ⟨x77, e78, hF⟩ := hF
      refine zy_aI rfl rfl e78 ?_
      replace hF := zbnd hF
      obtain ⟨a79, rfl, hF⟩ := hF
      replace hF := zbnd hF
      obtain ⟨x80, e81, hF⟩ := hF
      refine zy_aB rfl rfl e81 ?_
      refine zx_if_ne rfl rfl (fun c82 => ?_) (fun c82 => ?_)
      · rw [if_neg c82] at hF
        refine zx_iconst (v := 0) rfl rfl rfl ?_
        exact tb252_170 (l0 := l0) (l1 := l1) (l2 := l2) (l3 := l3) (l4 := l4) (l5 := x13) (l6 := ((400 * x15) + x13)) (l7 := 0) (s0 := 0) hd hr3 hx8 hF q
      · rw [if_pos c82] at hF
        refine zx_iconst (v := 1) rfl rfl rfl ?_
        refine zx_goto rfl rfl ?_
        exact tb252_170 (l0 := l0) (l1 := l1) (l2 := l2) (l3 := l3) (l4 := l4) (l5 := x13) (l6 := ((400 * x15) + x13)) (l7 := 0) (s0 := 1) hd hr3 hx8 hF q
    rw [if_neg c71] at hF
    by_cases c83 : x20 = 13
    · rw [if_pos c83] at hF
      refine zw_switch rfl rfl (t := 175) (by rw [c83]; rfl) ?_
      refine zx_aload_n rfl rfl rfl ?_
      replace hF := zbnd hF
      obtain ⟨x84, e85, hF⟩ := hF
      refine zy_getR rfl rfl e85 ?_
      refine zx_iload rfl rfl rfl ?_
      replace hF := zbnd hF
      obtain ⟨a86, rfl, hF⟩ := hF
      replace hF := zbnd hF
      obtain ⟨x87, e88, hF⟩ := hF
      refine zy_aI rfl rfl e88 ?_
      refine zx_istore rfl rfl rfl ?_
      exact tf252_184 hd hr3 n (l0 := l0) (l1 := l1) (l2 := l2) (l3 := l3) (l4 := l4) (l5 := x13) (l6 := ((400 * x15) + x13)) (l7 := 0) (l8 := x87)  hF q
    rw [if_neg c83] at hF
    by_cases c89 : x20 = 14
    · rw [if_pos c89] at hF
      refine zw_switch rfl rfl (t := 236) (by rw [c89]; rfl) ?_
      refine zx_iconst (v := 1) rfl rfl rfl ?_
      refine zx_istore rfl rfl rfl ?_
      refine zx_aload_n rfl rfl rfl ?_
      replace hF := zbnd hF
      obtain ⟨x90, e91, hF⟩ := hF
      refine zy_getR rfl rfl e91 ?_
      refine zx_iload rfl rfl rfl ?_
      replace hF := zbnd hF
      obtain ⟨a92, rfl, hF⟩ := hF
      replace hF := zbnd hF
      obtain ⟨x93, e94, hF⟩ := hF
      refine zy_aI rfl rfl e94 ?_
      refine zx_istore rfl rfl rfl ?_
      exact tf252_248 hd hr3 n (l0 := l0) (l1 := l1) (l2 := l2) (l3 := l3) (l4 := l4) (l5 := x13) (l6 := ((400 * x15) + x13)) (l7 := 1) (l8 := x93)  hF q
    rw [if_neg c89] at hF
    have zc22 := zne c22 (z := 0) (by decide)
    have zc23 := zne c23 (z := 1) (by decide)
    have zc24 := zne c24 (z := 2) (by decide)
    have zc35 := zne c35 (z := 3) (by decide)
    have zc39 := zne c39 (z := 4) (by decide)
    have zc43 := zne c43 (z := 5) (by decide)
    have zc47 := zne c47 (z := 6) (by decide)
    have zc51 := zne c51 (z := 7) (by decide)
    have zc55 := zne c55 (z := 8) (by decide)
    have zc59 := zne c59 (z := 9) (by decide)
    have zc63 := zne c63 (z := 10) (by decide)
    have zc67 := zne c67 (z := 11) (by decide)
    have zc71 := zne c71 (z := 12) (by decide)
    have zc83 := zne c83 (z := 13) (by decide)
    have zc89 := zne c89 (z := 14) (by decide)
    refine zw_switch rfl rfl (t := 300) (zsw_d (by omega) (by decide) (by decide)) ?_
    refine zx_aload_n rfl rfl rfl ?_
    refine zx_iload rfl rfl rfl ?_
    replace hF := zgd_some hF
    obtain ⟨g95, hF⟩ := hF
    replace hF := zbnd hF
    obtain ⟨p97, e96, hF⟩ := hF
    refine zx_callE rfl rfl rfl rfl (zrcv_isO g95) rfl rfl (zc4 (Nat.le_of_ble_eq_true rfl)) (t253 (by omega) e96 (zaI ?_))
    refine zx_istore rfl rfl rfl ?_
    exact tb252_308 (l0 := l0) (l1 := l1) (l2 := l2) (l3 := l3) (l4 := l4) (l5 := x13) (l6 := ((400 * x15) + x13)) (l7 := p97.1) hd hr3 hx8 hF q
def f252_3 (n : Nat)   (k : Nat) : Nat → Int32 → Int32 → Int32 → Int32 → zH → Option (Int32 × zH) := Nat.rec (fun _ _ _ _ _ _ => none) (fun _ ih => b252_3 n  ih) k
theorem tf252_3 {d n : Nat} {Q : zRs → zH → Prop}   (hd : 3 ≤ d)   (k : Nat) : ∀ {l0 : Nat} {l1 : Int32} {l2 : Int32} {l3 : Int32} {l4 : Int32}  {x5 : Option Value} {x6 : Option Value} {x7 : Option Value} {x8 : Option Value} {h : zH} {p : (Int32 × zH)}, zn2 x5 = true → zn2 x6 = true → zn2 x7 = true → zn2 x8 = true → f252_3 n   k l0 l1 l2 l3 l4 h = some p → Q (eI p.1) p.2 → zW d 252 3 [some (.ref l0), some (.int l1), some (.int l2), some (.int l3), some (.int l4), x5, x6, x7, x8] [] h Q := by
  induction k with
  | zero => intros; rename_i hF _; cases hF
  | succ k ih => intros; rename_i hx5 hx6 hx7 hx8 hF q; exact tb252_3 (n := n) hd  ih hx5 hx6 hx7 hx8 hF q
def f252 (n : Nat)  (y0 : Nat) (y1 : Int32) (y2 : Int32) (y3 : Int32) (h : zH) : Option (Int32 × zH) :=
  f252_3 n  n y0 y1 y2 y3 y2 h
set_option maxRecDepth 20000 in
theorem t252 {d n : Nat} {Q : zRs → zH → Prop}  {y0 : Nat} {y1 : Int32} {y2 : Int32} {y3 : Int32} (hd : 3 ≤ d)  {h : zH} {p : (Int32 × zH)} (hF : f252 n  y0 y1 y2 y3 h = some p) (q : Q (eI p.1) p.2) : zC d 252 [.ref y0, .int y1, .int y2, .int y3] h Q := by
  refine zC_of (L := [some (.ref y0), some (.int y1), some (.int y2), some (.int y3), none, none, none, none, none]) rfl rfl ?_
  unfold f252 at hF
  obtain ⟨d, rfl⟩ : ∃ e, d = e + 1 := ⟨d - 1, by omega⟩
  refine zx_iload_n rfl rfl rfl ?_
  refine zx_istore rfl rfl rfl ?_
  exact tf252_3 hd  n (l0 := y0) (l1 := y1) (l2 := y2) (l3 := y3) (l4 := y2) rfl rfl rfl rfl hF q
def b251_2 (n : Nat)  (r2 : Nat → Int32 → zH → Option (Unit × zH)) (l0 : Nat) (l1 : Int32) (h : zH) : Option (Unit × zH) :=
  (gR h l0 11 8).bind fun x1 =>
  (gI h l0 11 3).bind fun x3 =>
  x1.bind fun a5 =>
  (aI h a5 x3).bind fun x6 =>
  if x6 ≤ l1 then
    some ((), h)
  else
    (gI h l0 11 3).bind fun x9 =>
    (gR h l0 11 83).bind fun x11 =>
    (gR h l0 11 10).bind fun x13 =>
    x13.bind fun a15 =>
    (aI h a15 ((12 * x9) + l1)).bind fun x16 =>
    (gR h l0 11 11).bind fun x18 =>
    x18.bind fun a20 =>
    (aI h a20 ((12 * x9) + l1)).bind fun x21 =>
    (gR h l0 11 12).bind fun x23 =>
    x23.bind fun a25 =>
    (aI h a25 ((12 * x9) + l1)).bind fun x26 =>
    zgd (isO h l0 11) <|
    (f252 n l0 x16 x21 x26 h).bind fun p30 =>
    x11.bind fun a31 =>
    (aS zsB p30.2 a31 l1 (.int p30.1)).bind fun h32 =>
    r2 l0 (l1 + 1) h32
set_option maxRecDepth 20000 in
theorem tb251_2 {d n : Nat} {Q : zRs → zH → Prop}  {r2 : Nat → Int32 → zH → Option (Unit × zH)} {l0 : Nat} {l1 : Int32}  {x2 : Option Value} (hd : 4 ≤ d)  (hr2 : ∀ {l0 : Nat} {l1 : Int32}  {x2 : Option Value} {h : zH} {p : (Unit × zH)}, zn2 x2 = true → r2 l0 l1 h = some p → Q (eV p.1) p.2 → zW d 251 2 [some (.ref l0), some (.int l1), x2] [] h Q) {h : zH} {p : (Unit × zH)} (hx2 : zn2 x2 = true) (hF : b251_2 n  r2 l0 l1 h = some p) (q : Q (eV p.1) p.2) : zW d 251 2 [some (.ref l0), some (.int l1), x2] [] h Q := by
  unfold b251_2 at hF
  obtain ⟨d, rfl⟩ : ∃ e, d = e + 1 := ⟨d - 1, by omega⟩
  refine zx_iload_n rfl rfl rfl ?_
  refine zx_aload_n rfl rfl rfl ?_
  replace hF := zbnd hF
  obtain ⟨x1, e2, hF⟩ := hF
  refine zy_getR rfl rfl e2 ?_
  refine zx_aload_n rfl rfl rfl ?_
  replace hF := zbnd hF
  obtain ⟨x3, e4, hF⟩ := hF
  refine zy_getI rfl rfl e4 ?_
  replace hF := zbnd hF
  obtain ⟨a5, rfl, hF⟩ := hF
  replace hF := zbnd hF
  obtain ⟨x6, e7, hF⟩ := hF
  refine zy_aI rfl rfl e7 ?_
  refine zx_ic_ge rfl rfl (fun c8 => ?_) (fun c8 => ?_)
  · rw [if_pos c8] at hF
    replace hF := Option.some.inj hF
    subst hF
    exact zx_return rfl rfl rfl q
  · rw [if_neg c8] at hF
    refine zx_bipush (v := 12) rfl rfl rfl ?_
    refine zx_aload_n rfl rfl rfl ?_
    replace hF := zbnd hF
    obtain ⟨x9, e10, hF⟩ := hF
    refine zy_getI rfl rfl e10 ?_
    refine zx_imul rfl rfl ?_
    refine zx_iload_n rfl rfl rfl ?_
    refine zx_iadd rfl rfl ?_
    refine zx_istore_n rfl rfl rfl ?_
    refine zx_aload_n rfl rfl rfl ?_
    replace hF := zbnd hF
    obtain ⟨x11, e12, hF⟩ := hF
    refine zy_getR rfl rfl e12 ?_
    refine zx_iload_n rfl rfl rfl ?_
    refine zx_aload_n rfl rfl rfl ?_
    refine zx_aload_n rfl rfl rfl ?_
    replace hF := zbnd hF
    obtain ⟨x13, e14, hF⟩ := hF
    refine zy_getR rfl rfl e14 ?_
    refine zx_iload_n rfl rfl rfl ?_
    replace hF := zbnd hF
    obtain ⟨a15, rfl, hF⟩ := hF
    replace hF := zbnd hF
    obtain ⟨x16, e17, hF⟩ := hF
    refine zy_aI rfl rfl e17 ?_
    refine zx_aload_n rfl rfl rfl ?_
    replace hF := zbnd hF
    obtain ⟨x18, e19, hF⟩ := hF
    refine zy_getR rfl rfl e19 ?_
    refine zx_iload_n rfl rfl rfl ?_
    replace hF := zbnd hF
    obtain ⟨a20, rfl, hF⟩ := hF
    replace hF := zbnd hF
    obtain ⟨x21, e22, hF⟩ := hF
    refine zy_aI rfl rfl e22 ?_
    refine zx_aload_n rfl rfl rfl ?_
    replace hF := zbnd hF
    obtain ⟨x23, e24, hF⟩ := hF
    refine zy_getR rfl rfl e24 ?_
    refine zx_iload_n rfl rfl rfl ?_
    replace hF := zbnd hF
    obtain ⟨a25, rfl, hF⟩ := hF
    replace hF := zbnd hF
    obtain ⟨x26, e27, hF⟩ := hF
    refine zy_aI rfl rfl e27 ?_
    replace hF := zgd_some hF
    obtain ⟨g28, hF⟩ := hF
    replace hF := zbnd hF
    obtain ⟨p30, e29, hF⟩ := hF
    refine zx_callE rfl rfl rfl rfl (zrcv_isO g28) rfl rfl (zc4 (Nat.le_of_ble_eq_true rfl)) (t252 (by omega) e29 (zaI ?_))
    replace hF := zbnd hF
    obtain ⟨a31, rfl, hF⟩ := hF
    replace hF := zbnd hF
    obtain ⟨h32, e33, hF⟩ := hF
    refine zy_sB rfl rfl e33 ?_
    refine zx_iinc (w := 1) rfl rfl rfl rfl rfl ?_
    refine zx_goto rfl rfl ?_
    exact hr2 rfl hF q
def f251_2 (n : Nat)   (k : Nat) : Nat → Int32 → zH → Option (Unit × zH) := Nat.rec (fun _ _ _ => none) (fun _ ih => b251_2 n  ih) k
theorem tf251_2 {d n : Nat} {Q : zRs → zH → Prop}   (hd : 4 ≤ d)   (k : Nat) : ∀ {l0 : Nat} {l1 : Int32}  {x2 : Option Value} {h : zH} {p : (Unit × zH)}, zn2 x2 = true → f251_2 n   k l0 l1 h = some p → Q (eV p.1) p.2 → zW d 251 2 [some (.ref l0), some (.int l1), x2] [] h Q := by
  induction k with
  | zero => intros; rename_i hF _; cases hF
  | succ k ih => intros; rename_i hx2 hF q; exact tb251_2 (n := n) hd  ih hx2 hF q
def f251 (n : Nat)  (y0 : Nat) (h : zH) : Option (Unit × zH) :=
  f251_2 n  n y0 0 h
set_option maxRecDepth 20000 in
theorem t251 {d n : Nat} {Q : zRs → zH → Prop}  {y0 : Nat} (hd : 4 ≤ d)  {h : zH} {p : (Unit × zH)} (hF : f251 n  y0 h = some p) (q : Q (eV p.1) p.2) : zC d 251 [.ref y0] h Q := by
  refine zC_of (L := [some (.ref y0), none, none]) rfl rfl ?_
  unfold f251 at hF
  obtain ⟨d, rfl⟩ : ∃ e, d = e + 1 := ⟨d - 1, by omega⟩
  refine zx_iconst (v := 0) rfl rfl rfl ?_
  refine zx_istore_n rfl rfl rfl ?_
  exact tf251_2 hd  n (l0 := y0) (l1 := 0) rfl hF q
end ZDEC

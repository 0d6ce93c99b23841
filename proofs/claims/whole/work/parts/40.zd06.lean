/-! THE PROGRAM AS FUNCTIONS, 6 (written by a program of the verifier's) -/
section ZDEC
def b216_56 (n : Nat)   (l0 : Nat) (l1 : Option Nat) (l2 : Int32) (l3 : Int32) (l4 : Int32) (h : zH) : Option (Int32 × zH) :=
  zgd (isO h l0 11) <|
  (f190 n l0 h).bind fun p3 =>
  some (l4, p3.2)
set_option maxRecDepth 20000 in
theorem tb216_56 {d n : Nat} {Q : zRs → zH → Prop}   {l0 : Nat} {l1 : Option Nat} {l2 : Int32} {l3 : Int32} {l4 : Int32}   (hd : 6 ≤ d)   {h : zH} {p : (Int32 × zH)}  (hF : b216_56 n   l0 l1 l2 l3 l4 h = some p) (q : Q (eI p.1) p.2) : zW d 216 56 [some (.ref l0), some (va_rf l1), some (.int l2), some (.int l3), some (.int l4)] [] h Q := by
  unfold b216_56 at hF
  obtain ⟨d, rfl⟩ : ∃ e, d = e + 1 := ⟨d - 1, by omega⟩
  refine zx_aload_n rfl rfl rfl ?_
  replace hF := zgd_some hF
  obtain ⟨g1, hF⟩ := hF
  replace hF := zbnd hF
  obtain ⟨p3, e2, hF⟩ := hF
  refine zx_callE rfl rfl rfl rfl (zrcv_isO g1) rfl rfl (zc4 (Nat.le_of_ble_eq_true rfl)) (t190 (by omega) e2 (zaV ?_))
  refine zx_iload rfl rfl rfl ?_
  replace hF := Option.some.inj hF
  subst hF
  exact zx_bret rfl rfl rfl rfl q
def b216_35 (n : Nat)   (l0 : Nat) (l1 : Option Nat) (l2 : Int32) (l3 : Int32) (s0 : Int32) (h : zH) : Option (Int32 × zH) :=
  (gI h l0 11 73).bind fun x1 =>
  if x1 = (-1) then
    if s0 = (-1) then
      zgd (isO h l0 11) <|
      (f195 n l0 3 h).bind fun p7 =>
      b216_56 n  l0 l1 l2 l3 s0 p7.2
    else
      b216_56 n  l0 l1 l2 l3 s0 h
  else
    b216_56 n  l0 l1 l2 l3 s0 h
set_option maxRecDepth 20000 in
theorem tb216_35 {d n : Nat} {Q : zRs → zH → Prop}   {l0 : Nat} {l1 : Option Nat} {l2 : Int32} {l3 : Int32} {s0 : Int32} {x4 : Option Value} (hd : 6 ≤ d)   {h : zH} {p : (Int32 × zH)} (hx4 : zn2 x4 = true) (hF : b216_35 n   l0 l1 l2 l3 s0 h = some p) (q : Q (eI p.1) p.2) : zW d 216 35 [some (.ref l0), some (va_rf l1), some (.int l2), some (.int l3), x4] [.int s0] h Q := by
  unfold b216_35 at hF
  obtain ⟨d, rfl⟩ : ∃ e, d = e + 1 := ⟨d - 1, by omega⟩
  refine zx_istore rfl rfl rfl ?_
  refine zx_aload_n rfl rfl rfl ?_
  replace hF := zbnd hF
  obtain ⟨x1, e2, hF⟩ := hF
  refine zy_getI rfl rfl e2 ?_
  refine zx_iconst (v := (-1)) rfl rfl rfl ?_
  refine zx_ic_ne rfl rfl (fun c3 => ?_) (fun c3 => ?_)
  · rw [if_neg c3] at hF
    exact tb216_56 (l0 := l0) (l1 := l1) (l2 := l2) (l3 := l3) (l4 := s0) hd   hF q
  · rw [if_pos c3] at hF
    refine zx_iload rfl rfl rfl ?_
    refine zx_iconst (v := (-1)) rfl rfl rfl ?_
    refine zx_ic_ne rfl rfl (fun c4 => ?_) (fun c4 => ?_)
    · rw [if_neg c4] at hF
      exact tb216_56 (l0 := l0) (l1 := l1) (l2 := l2) (l3 := l3) (l4 := s0) hd   hF q
    · rw [if_pos c4] at hF
      refine zx_aload_n rfl rfl rfl ?_
      refine zx_iconst (v := 3) rfl rfl rfl ?_
      replace hF := zgd_some hF
      obtain ⟨g5, hF⟩ := hF
      replace hF := zbnd hF
      obtain ⟨p7, e6, hF⟩ := hF
      refine zx_callE rfl rfl rfl rfl (zrcv_isO g5) rfl rfl (zc4 (Nat.le_of_ble_eq_true rfl)) (t195 (by omega) e6 (zaV ?_))
      exact tb216_56 (l0 := l0) (l1 := l1) (l2 := l2) (l3 := l3) (l4 := s0) hd   hF q
def f216 (n : Nat)  (y0 : Nat) (y1 : Option Nat) (y2 : Int32) (y3 : Int32) (h : zH) : Option (Int32 × zH) :=
  zgd (isO h y0 11) <|
  (f203 n y0 h).bind fun p3 =>
  zgd (isO p3.2 y0 11) <|
  (f200 n y0 p3.1 p3.2).bind fun p6 =>
  (gI p6.2 y0 11 73).bind fun x7 =>
  if x7 = (-1) then
    (gI p6.2 y0 11 70).bind fun x10 =>
    (gI p6.2 y0 11 71).bind fun x12 =>
    zgd (isO p6.2 y0 11) <|
    (f204 n y0 y1 y2 y3 x10 x12 p6.2).bind fun p16 =>
    b216_35 n  y0 y1 y2 y3 p16.1 p16.2
  else
    b216_35 n  y0 y1 y2 y3 0 p6.2
set_option maxRecDepth 20000 in
theorem t216 {d n : Nat} {Q : zRs → zH → Prop}  {y0 : Nat} {y1 : Option Nat} {y2 : Int32} {y3 : Int32} (hd : 6 ≤ d)  {h : zH} {p : (Int32 × zH)} (hF : f216 n  y0 y1 y2 y3 h = some p) (q : Q (eI p.1) p.2) : zC d 216 [.ref y0, va_rf y1, .int y2, .int y3] h Q := by
  refine zC_of (L := [some (.ref y0), some (va_rf y1), some (.int y2), some (.int y3), none]) (congrArg (List.cons _) ((zsl_rf _ _).trans (congrArg (List.cons _) rfl))) rfl ?_
  unfold f216 at hF
  obtain ⟨d, rfl⟩ : ∃ e, d = e + 1 := ⟨d - 1, by omega⟩
  refine zx_aload_n rfl rfl rfl ?_
  refine zx_aload_n rfl rfl rfl ?_
  replace hF := zgd_some hF
  obtain ⟨g1, hF⟩ := hF
  replace hF := zbnd hF
  obtain ⟨p3, e2, hF⟩ := hF
  refine zx_callE rfl rfl rfl rfl (zrcv_isO g1) rfl rfl (zc4 (Nat.le_of_ble_eq_true rfl)) (t203 (by omega) e2 (zaI ?_))
  replace hF := zgd_some hF
  obtain ⟨g4, hF⟩ := hF
  replace hF := zbnd hF
  obtain ⟨p6, e5, hF⟩ := hF
  refine zx_callE rfl rfl rfl rfl (zrcv_isO g4) rfl rfl (zc4 (Nat.le_of_ble_eq_true rfl)) (t200 (by omega) e5 (zaV ?_))
  refine zx_aload_n rfl rfl rfl ?_
  replace hF := zbnd hF
  obtain ⟨x7, e8, hF⟩ := hF
  refine zy_getI rfl rfl e8 ?_
  refine zx_iconst (v := (-1)) rfl rfl rfl ?_
  refine zx_ic_ne rfl rfl (fun c9 => ?_) (fun c9 => ?_)
  · rw [if_neg c9] at hF
    refine zx_iconst (v := 0) rfl rfl rfl ?_
    exact tb216_35 (l0 := y0) (l1 := y1) (l2 := y2) (l3 := y3) (s0 := 0) hd  rfl hF q
  · rw [if_pos c9] at hF
    refine zx_aload_n rfl rfl rfl ?_
    refine zy_rload_n rfl rfl rfl ?_
    refine zx_iload_n rfl rfl rfl ?_
    refine zx_iload_n rfl rfl rfl ?_
    refine zx_aload_n rfl rfl rfl ?_
    replace hF := zbnd hF
    obtain ⟨x10, e11, hF⟩ := hF
    refine zy_getI rfl rfl e11 ?_
    refine zx_aload_n rfl rfl rfl ?_
    replace hF := zbnd hF
    obtain ⟨x12, e13, hF⟩ := hF
    refine zy_getI rfl rfl e13 ?_
    replace hF := zgd_some hF
    obtain ⟨g14, hF⟩ := hF
    replace hF := zbnd hF
    obtain ⟨p16, e15, hF⟩ := hF
    refine zx_callE rfl rfl rfl rfl (zrcv_isO g14) (congrArg (List.cons _) ((zsl_rf _ _).trans (congrArg (List.cons _) rfl))) rfl (zc4 (Nat.le_of_ble_eq_true rfl)) (t204 (by omega) e15 (zaI ?_))
    refine zx_goto rfl rfl ?_
    exact tb216_35 (l0 := y0) (l1 := y1) (l2 := y2) (l3 := y3) (s0 := p16.1) hd  rfl hF q
def b218_84 (n : Nat)   (l0 : Nat) (l1 : Int32) (h : zH) : Option (Unit × zH) :=
  zgd (isO h l0 11) <|
  (f190 n l0 h).bind fun p3 =>
  some ((), p3.2)
set_option maxRecDepth 20000 in
theorem tb218_84 {d n : Nat} {Q : zRs → zH → Prop}   {l0 : Nat} {l1 : Int32}   (hd : 5 ≤ d)   {h : zH} {p : (Unit × zH)}  (hF : b218_84 n   l0 l1 h = some p) (q : Q (eV p.1) p.2) : zW d 218 84 [some (.ref l0), some (.int l1)] [] h Q := by
  unfold b218_84 at hF
  obtain ⟨d, rfl⟩ : ∃ e, d = e + 1 := ⟨d - 1, by omega⟩
  refine zx_aload_n rfl rfl rfl ?_
  replace hF := zgd_some hF
  obtain ⟨g1, hF⟩ := hF
  replace hF := zbnd hF
  obtain ⟨p3, e2, hF⟩ := hF
  refine zx_callE rfl rfl rfl rfl (zrcv_isO g1) rfl rfl (zc4 (Nat.le_of_ble_eq_true rfl)) (t190 (by omega) e2 (zaV ?_))
  replace hF := Option.some.inj hF
  subst hF
  exact zx_return rfl rfl rfl q
def b218_83 (n : Nat)   (l0 : Nat) (l1 : Int32) (s0 : Int32) (s1 : Int32) (s2 : Option Nat) (h : zH) : Option (Unit × zH) :=
  s2.bind fun a1 =>
  (aS zsI h a1 s1 (.int s0)).bind fun h2 =>
  b218_84 n  l0 l1 h2
set_option maxRecDepth 20000 in
theorem tb218_83 {d n : Nat} {Q : zRs → zH → Prop}   {l0 : Nat} {l1 : Int32} {s0 : Int32} {s1 : Int32} {s2 : Option Nat}  (hd : 5 ≤ d)   {h : zH} {p : (Unit × zH)}  (hF : b218_83 n   l0 l1 s0 s1 s2 h = some p) (q : Q (eV p.1) p.2) : zW d 218 83 [some (.ref l0), some (.int l1)] [.int s0, .int s1, va_rf s2] h Q := by
  unfold b218_83 at hF
  obtain ⟨d, rfl⟩ : ∃ e, d = e + 1 := ⟨d - 1, by omega⟩
  replace hF := zbnd hF
  obtain ⟨a1, rfl, hF⟩ := hF
  replace hF := zbnd hF
  obtain ⟨h2, e3, hF⟩ := hF
  refine zy_sI rfl rfl e3 ?_
  exact tb218_84 (l0 := l0) (l1 := l1) hd   hF q
def b218_51 (n : Nat)   (l0 : Nat) (l1 : Int32) (s0 : Int32) (s1 : Int32) (s2 : Option Nat) (h : zH) : Option (Unit × zH) :=
  s2.bind fun a1 =>
  (aS zsB h a1 s1 (.int s0)).bind fun h2 =>
  (gR h2 l0 11 57).bind fun x4 =>
  (gI h2 l0 11 72).bind fun x6 =>
  x4.bind fun a8 =>
  (aS zsI h2 a8 l1 (.int x6)).bind fun h9 =>
  (gR h9 l0 11 58).bind fun x11 =>
  (gI h9 l0 11 69).bind fun x13 =>
  if x13 = 3 then
    zgd (isO h9 l0 11) <|
    (f206 n l0 h9).bind fun p18 =>
    b218_83 n  l0 l1 p18.1 l1 x11 p18.2
  else
    b218_83 n  l0 l1 (-1) l1 x11 h9
set_option maxRecDepth 20000 in
theorem tb218_51 {d n : Nat} {Q : zRs → zH → Prop}   {l0 : Nat} {l1 : Int32} {s0 : Int32} {s1 : Int32} {s2 : Option Nat}  (hd : 5 ≤ d)   {h : zH} {p : (Unit × zH)}  (hF : b218_51 n   l0 l1 s0 s1 s2 h = some p) (q : Q (eV p.1) p.2) : zW d 218 51 [some (.ref l0), some (.int l1)] [.int s0, .int s1, va_rf s2] h Q := by
  unfold b218_51 at hF
  obtain ⟨d, rfl⟩ : ∃ e, d = e + 1 := ⟨d - 1, by omega⟩
  replace hF := zbnd hF
  obtain ⟨a1, rfl, hF⟩ := hF
  replace hF := zbnd hF
  obtain ⟨h2, e3, hF⟩ := hF
  refine zy_sB rfl rfl e3 ?_
  refine zx_aload_n rfl rfl rfl ?_
  replace hF := zbnd hF
  obtain ⟨x4, e5, hF⟩ := hF
  refine zy_getR rfl rfl e5 ?_
  refine zx_iload_n rfl rfl rfl ?_
  refine zx_aload_n rfl rfl rfl ?_
  replace hF := zbnd hF
  obtain ⟨x6, e7, hF⟩ := hF
  refine zy_getI rfl rfl e7 ?_
  replace hF := zbnd hF
  obtain ⟨a8, rfl, hF⟩ := hF
  replace hF := zbnd hF
  obtain ⟨h9, e10, hF⟩ := hF
  refine zy_sI rfl rfl e10 ?_
  refine zx_aload_n rfl rfl rfl ?_
  replace hF := zbnd hF
  obtain ⟨x11, e12, hF⟩ := hF
  refine zy_getR rfl rfl e12 ?_
  refine zx_iload_n rfl rfl rfl ?_
  refine zx_aload_n rfl rfl rfl ?_
  replace hF := zbnd hF
  obtain ⟨x13, e14, hF⟩ := hF
  refine zy_getI rfl rfl e14 ?_
  refine zx_iconst (v := 3) rfl rfl rfl ?_
  refine zx_ic_ne rfl rfl (fun c15 => ?_) (fun c15 => ?_)
  · rw [if_neg c15] at hF
    refine zx_iconst (v := (-1)) rfl rfl rfl ?_
    exact tb218_83 (l0 := l0) (l1 := l1) (s0 := (-1)) (s1 := l1) (s2 := x11) hd   hF q
  · rw [if_pos c15] at hF
    refine zx_aload_n rfl rfl rfl ?_
    replace hF := zgd_some hF
    obtain ⟨g16, hF⟩ := hF
    replace hF := zbnd hF
    obtain ⟨p18, e17, hF⟩ := hF
    refine zx_callE rfl rfl rfl rfl (zrcv_isO g16) rfl rfl (zc4 (Nat.le_of_ble_eq_true rfl)) (t206 (by omega) e17 (zaI ?_))
    refine zx_goto rfl rfl ?_
    exact tb218_83 (l0 := l0) (l1 := l1) (s0 := p18.1) (s1 := l1) (s2 := x11) hd   hF q
def b218_22 (n : Nat)   (l0 : Nat) (l1 : Int32) (s0 : Int32) (s1 : Nat) (h : zH) : Option (Unit × zH) :=
  zgd (isO h s1 11) <|
  (f200 n s1 s0 h).bind fun p3 =>
  (gI p3.2 l0 11 73).bind fun x4 =>
  if x4 = (-1) then
    (gR p3.2 l0 11 56).bind fun x7 =>
    (gI p3.2 l0 11 69).bind fun x9 =>
    if x9 = 3 then
      b218_51 n  l0 l1 1 l1 x7 p3.2
    else
      b218_51 n  l0 l1 0 l1 x7 p3.2
  else
    b218_84 n  l0 l1 p3.2
set_option maxRecDepth 20000 in
theorem tb218_22 {d n : Nat} {Q : zRs → zH → Prop}   {l0 : Nat} {l1 : Int32} {s0 : Int32} {s1 : Nat}  (hd : 5 ≤ d)   {h : zH} {p : (Unit × zH)}  (hF : b218_22 n   l0 l1 s0 s1 h = some p) (q : Q (eV p.1) p.2) : zW d 218 22 [some (.ref l0), some (.int l1)] [.int s0, .ref s1] h Q := by
  unfold b218_22 at hF
  obtain ⟨d, rfl⟩ : ∃ e, d = e + 1 := ⟨d - 1, by omega⟩
  replace hF := zgd_some hF
  obtain ⟨g1, hF⟩ := hF
  replace hF := zbnd hF
  obtain ⟨p3, e2, hF⟩ := hF
  refine zx_callE rfl rfl rfl rfl (zrcv_isO g1) rfl rfl (zc4 (Nat.le_of_ble_eq_true rfl)) (t200 (by omega) e2 (zaV ?_))
  refine zx_aload_n rfl rfl rfl ?_
  replace hF := zbnd hF
  obtain ⟨x4, e5, hF⟩ := hF
  refine zy_getI rfl rfl e5 ?_
  refine zx_iconst (v := (-1)) rfl rfl rfl ?_
  refine zx_ic_ne rfl rfl (fun c6 => ?_) (fun c6 => ?_)
  · rw [if_neg c6] at hF
    exact tb218_84 (l0 := l0) (l1 := l1) hd   hF q
  · rw [if_pos c6] at hF
    refine zx_aload_n rfl rfl rfl ?_
    replace hF := zbnd hF
    obtain ⟨x7, e8, hF⟩ := hF
    refine zy_getR rfl rfl e8 ?_
    refine zx_iload_n rfl rfl rfl ?_
    refine zx_aload_n rfl rfl rfl ?_
    replace hF := zbnd hF
    obtain ⟨x9, e10, hF⟩ := hF
    refine zy_getI rfl rfl e10 ?_
    refine zx_iconst (v := 3) rfl rfl rfl ?_
    refine zx_ic_ne rfl rfl (fun c11 => ?_) (fun c11 => ?_)
    · rw [if_neg c11] at hF
      refine zx_iconst (v := 0) rfl rfl rfl ?_
      exact tb218_51 (l0 := l0) (l1 := l1) (s0 := 0) (s1 := l1) (s2 := x7) hd   hF q
    · rw [if_pos c11] at hF
      refine zx_iconst (v := 1) rfl rfl rfl ?_
      refine zx_goto rfl rfl ?_
      exact tb218_51 (l0 := l0) (l1 := l1) (s0 := 1) (s1 := l1) (s2 := x7) hd   hF q
def b218_17 (n : Nat)   (l0 : Nat) (l1 : Int32) (s0 : Nat) (h : zH) : Option (Unit × zH) :=
  b218_22 n  l0 l1 1 s0 h
set_option maxRecDepth 20000 in
theorem tb218_17 {d n : Nat} {Q : zRs → zH → Prop}   {l0 : Nat} {l1 : Int32} {s0 : Nat}  (hd : 5 ≤ d)   {h : zH} {p : (Unit × zH)}  (hF : b218_17 n   l0 l1 s0 h = some p) (q : Q (eV p.1) p.2) : zW d 218 17 [some (.ref l0), some (.int l1)] [.ref s0] h Q := by
  unfold b218_17 at hF
  obtain ⟨d, rfl⟩ : ∃ e, d = e + 1 := ⟨d - 1, by omega⟩
  refine zx_iconst (v := 1) rfl rfl rfl ?_
  refine zx_goto rfl rfl ?_
  exact tb218_22 (l0 := l0) (l1 := l1) (s0 := 1) (s1 := s0) hd   hF q
def f218 (n : Nat)  (y0 : Nat) (y1 : Int32) (h : zH) : Option (Unit × zH) :=
  (gI h y0 11 69).bind fun x1 =>
  if x1 = 2 then
    b218_17 n  y0 y1 y0 h
  else
    (gI h y0 11 69).bind fun x4 =>
    if x4 = 3 then
      b218_17 n  y0 y1 y0 h
    else
      b218_22 n  y0 y1 0 y0 h
set_option maxRecDepth 20000 in
theorem t218 {d n : Nat} {Q : zRs → zH → Prop}  {y0 : Nat} {y1 : Int32} (hd : 5 ≤ d)  {h : zH} {p : (Unit × zH)} (hF : f218 n  y0 y1 h = some p) (q : Q (eV p.1) p.2) : zC d 218 [.ref y0, .int y1] h Q := by
  refine zC_of (L := [some (.ref y0), some (.int y1)]) rfl rfl ?_
  unfold f218 at hF
  obtain ⟨d, rfl⟩ : ∃ e, d = e + 1 := ⟨d - 1, by omega⟩
  refine zx_aload_n rfl rfl rfl ?_
  refine zx_aload_n rfl rfl rfl ?_
  replace hF := zbnd hF
  obtain ⟨x1, e2, hF⟩ := hF
  refine zy_getI rfl rfl e2 ?_
  refine zx_iconst (v := 2) rfl rfl rfl ?_
  refine zx_ic_eq rfl rfl (fun c3 => ?_) (fun c3 => ?_)
  · rw [if_pos c3] at hF
    exact tb218_17 (l0 := y0) (l1 := y1) (s0 := y0) hd   hF q
  · rw [if_neg c3] at hF
    refine zx_aload_n rfl rfl rfl ?_
    replace hF := zbnd hF
    obtain ⟨x4, e5, hF⟩ := hF
    refine zy_getI rfl rfl e5 ?_
    refine zx_iconst (v := 3) rfl rfl rfl ?_
    refine zx_ic_ne rfl rfl (fun c6 => ?_) (fun c6 => ?_)
    · rw [if_neg c6] at hF
      refine zx_iconst (v := 0) rfl rfl rfl ?_
      exact tb218_22 (l0 := y0) (l1 := y1) (s0 := 0) (s1 := y0) hd   hF q
    · rw [if_pos c6] at hF
      exact tb218_17 (l0 := y0) (l1 := y1) (s0 := y0) hd   hF q
def f220 (n : Nat)  (y0 : Nat) (y1 : Int32) (y2 : Int32) (y3 : Int32) (h : zH) : Option (Unit × zH) :=
  if y2 = (-1) then
    (gR h y0 11 59).bind fun x2 =>
    (gI h y0 11 4).bind fun x4 =>
    x2.bind fun a6 =>
    (aS zsI h a6 ((400 * x4) + y1) (.int y3)).bind fun h7 =>
    some ((), h7)
  else
    (gR h y0 11 60).bind fun x9 =>
    (gI h y0 11 4).bind fun x11 =>
    x9.bind fun a13 =>
    (aS zsI h a13 ((400 * x11) + y2) (.int y3)).bind fun h14 =>
    some ((), h14)
set_option maxRecDepth 20000 in
theorem t220 {d n : Nat} {Q : zRs → zH → Prop}  {y0 : Nat} {y1 : Int32} {y2 : Int32} {y3 : Int32} (hd : 0 ≤ d)  {h : zH} {p : (Unit × zH)} (hF : f220 n  y0 y1 y2 y3 h = some p) (q : Q (eV p.1) p.2) : zC d 220 [.ref y0, .int y1, .int y2, .int y3] h Q := by
  refine zC_of (L := [some (.ref y0), some (.int y1), some (.int y2), some (.int y3)]) rfl rfl ?_
  unfold f220 at hF
  refine zx_iload_n rfl rfl rfl ?_
  refine zx_iconst (v := (-1)) rfl rfl rfl ?_
  refine zx_ic_ne rfl rfl (fun c1 => ?_) (fun c1 => ?_)
  · rw [if_neg c1] at hF
    refine zx_aload_n rfl rfl rfl ?_
    replace hF := zbnd hF
    obtain ⟨x9, e10, hF⟩ := hF
    refine zy_getR rfl rfl e10 ?_
    refine zx_sipush (v := 400) rfl rfl rfl ?_
    refine zx_aload_n rfl rfl rfl ?_
    replace hF := zbnd hF
    obtain ⟨x11, e12, hF⟩ := hF
    refine zy_getI rfl rfl e12 ?_
    refine zx_imul rfl rfl ?_
    refine zx_iload_n rfl rfl rfl ?_
    refine zx_iadd rfl rfl ?_
    refine zx_iload_n rfl rfl rfl ?_
    replace hF := zbnd hF
    obtain ⟨a13, rfl, hF⟩ := hF
    replace hF := zbnd hF
    obtain ⟨h14, e15, hF⟩ := hF
    refine zy_sI rfl rfl e15 ?_
    replace hF := Option.some.inj hF
    subst hF
    exact zx_return rfl rfl rfl q
  · rw [if_pos c1] at hF
    refine zx_aload_n rfl rfl rfl ?_
    replace hF := zbnd hF
    obtain ⟨x2, e3, hF⟩ := hF
    refine zy_getR rfl rfl e3 ?_
    refine zx_sipush (v := 400) rfl rfl rfl ?_
    refine zx_aload_n rfl rfl rfl ?_
    replace hF := zbnd hF
    obtain ⟨x4, e5, hF⟩ := hF
    refine zy_getI rfl rfl e5 ?_
    refine zx_imul rfl rfl ?_
    refine zx_iload_n rfl rfl rfl ?_
    refine zx_iadd rfl rfl ?_
    refine zx_iload_n rfl rfl rfl ?_
    replace hF := zbnd hF
    obtain ⟨a6, rfl, hF⟩ := hF
    replace hF := zbnd hF
    obtain ⟨h7, e8, hF⟩ := hF
    refine zy_sI rfl rfl e8 ?_
    refine zx_goto rfl rfl ?_
    replace hF := Option.some.inj hF
    subst hF
    exact zx_return rfl rfl rfl q
def b219_109 (n : Nat)   (l0 : Nat) (l1 : Int32) (l2 : Int32) (h : zH) : Option (Unit × zH) :=
  zgd (isO h l0 11) <|
  (f208 n l0 41 h).bind fun p3 =>
  some ((), p3.2)
set_option maxRecDepth 20000 in
theorem tb219_109 {d n : Nat} {Q : zRs → zH → Prop}   {l0 : Nat} {l1 : Int32} {l2 : Int32}  {x3 : Option Value} (hd : 6 ≤ d)   {h : zH} {p : (Unit × zH)} (hx3 : zn2 x3 = true) (hF : b219_109 n   l0 l1 l2 h = some p) (q : Q (eV p.1) p.2) : zW d 219 109 [some (.ref l0), some (.int l1), some (.int l2), x3] [] h Q := by
  unfold b219_109 at hF
  obtain ⟨d, rfl⟩ : ∃ e, d = e + 1 := ⟨d - 1, by omega⟩
  refine zx_aload_n rfl rfl rfl ?_
  refine zx_bipush (v := 41) rfl rfl rfl ?_
  replace hF := zgd_some hF
  obtain ⟨g1, hF⟩ := hF
  replace hF := zbnd hF
  obtain ⟨p3, e2, hF⟩ := hF
  refine zx_callE rfl rfl rfl rfl (zrcv_isO g1) rfl rfl (zc4 (Nat.le_of_ble_eq_true rfl)) (t208 (by omega) e2 (zaV ?_))
  replace hF := Option.some.inj hF
  subst hF
  exact zx_return rfl rfl rfl q
def b219_106 (n : Nat)  (r13 : Nat → Int32 → Int32 → zH → Option (Unit × zH)) (l0 : Nat) (l1 : Int32) (l2 : Int32) (l3 : Int32) (h : zH) : Option (Unit × zH) :=
  r13 l0 l1 l2 h
set_option maxRecDepth 20000 in
theorem tb219_106 {d n : Nat} {Q : zRs → zH → Prop}  {r13 : Nat → Int32 → Int32 → zH → Option (Unit × zH)} {l0 : Nat} {l1 : Int32} {l2 : Int32} {l3 : Int32}   (hd : 6 ≤ d)  (hr13 : ∀ {l0 : Nat} {l1 : Int32} {l2 : Int32}  {x3 : Option Value} {h : zH} {p : (Unit × zH)}, zn2 x3 = true → r13 l0 l1 l2 h = some p → Q (eV p.1) p.2 → zW d 219 13 [some (.ref l0), some (.int l1), some (.int l2), x3] [] h Q) {h : zH} {p : (Unit × zH)}  (hF : b219_106 n  r13 l0 l1 l2 l3 h = some p) (q : Q (eV p.1) p.2) : zW d 219 106 [some (.ref l0), some (.int l1), some (.int l2), some (.int l3)] [] h Q := by
  unfold b219_106 at hF
  obtain ⟨d, rfl⟩ : ∃ e, d = e + 1 := ⟨d - 1, by omega⟩
  refine zx_goto rfl rfl ?_
  exact hr13 rfl hF q
def b219_56 (n : Nat)  (r13 : Nat → Int32 → Int32 → zH → Option (Unit × zH)) (l0 : Nat) (l1 : Int32) (l2 : Int32) (s0 : Int32) (s1 : Nat) (h : zH) : Option (Unit × zH) :=
  zgd (isO h s1 11) <|
  (f200 n s1 s0 h).bind fun p3 =>
  zgd (isO p3.2 l0 11) <|
  (f215 n l0 11 p3.2).bind fun p6 =>
  (gI p6.2 l0 11 73).bind fun x7 =>
  if x7 = (-1) then
    (gI p6.2 l0 11 4).bind fun x10 =>
    zgd (isO p6.2 l0 11) <|
    (f218 n l0 ((400 * x10) + p6.1) p6.2).bind fun p14 =>
    (gI p14.2 l0 11 4).bind fun x15 =>
    zgd (isO p14.2 l0 11) <|
    (f220 n l0 (l1 - (400 * x15)) l2 p6.1 p14.2).bind fun p19 =>
    b219_106 n r13 l0 l1 p6.1 p6.1 p19.2
  else
    b219_106 n r13 l0 l1 l2 p6.1 p6.2
set_option maxRecDepth 20000 in
theorem tb219_56 {d n : Nat} {Q : zRs → zH → Prop}  {r13 : Nat → Int32 → Int32 → zH → Option (Unit × zH)} {l0 : Nat} {l1 : Int32} {l2 : Int32} {s0 : Int32} {s1 : Nat} {x3 : Option Value} (hd : 6 ≤ d)  (hr13 : ∀ {l0 : Nat} {l1 : Int32} {l2 : Int32}  {x3 : Option Value} {h : zH} {p : (Unit × zH)}, zn2 x3 = true → r13 l0 l1 l2 h = some p → Q (eV p.1) p.2 → zW d 219 13 [some (.ref l0), some (.int l1), some (.int l2), x3] [] h Q) {h : zH} {p : (Unit × zH)} (hx3 : zn2 x3 = true) (hF : b219_56 n  r13 l0 l1 l2 s0 s1 h = some p) (q : Q (eV p.1) p.2) : zW d 219 56 [some (.ref l0), some (.int l1), some (.int l2), x3] [.int s0, .ref s1] h Q := by
  unfold b219_56 at hF
  obtain ⟨d, rfl⟩ : ∃ e, d = e + 1 := ⟨d - 1, by omega⟩
  replace hF := zgd_some hF
  obtain ⟨g1, hF⟩ := hF
  replace hF := zbnd hF
  obtain ⟨p3, e2, hF⟩ := hF
  refine zx_callE rfl rfl rfl rfl (zrcv_isO g1) rfl rfl (zc4 (Nat.le_of_ble_eq_true rfl)) (t200 (by omega) e2 (zaV ?_))
  refine zx_aload_n rfl rfl rfl ?_
  refine zx_bipush (v := 11) rfl rfl rfl ?_
  replace hF := zgd_some hF
  obtain ⟨g4, hF⟩ := hF
  replace hF := zbnd hF
  obtain ⟨p6, e5, hF⟩ := hF
  refine zx_callE rfl rfl rfl rfl (zrcv_isO g4) rfl rfl (zc4 (Nat.le_of_ble_eq_true rfl)) (t215 (by omega) e5 (zaI ?_))
  refine zx_istore_n rfl rfl rfl ?_
  refine zx_aload_n rfl rfl rfl ?_
  replace hF := zbnd hF
  obtain ⟨x7, e8, hF⟩ := hF
  refine zy_getI rfl rfl e8 ?_
  refine zx_iconst (v := (-1)) rfl rfl rfl ?_
  refine zx_ic_ne rfl rfl (fun c9 => ?_) (fun c9 => ?_)
  · rw [if_neg c9] at hF
    exact tb219_106 (l0 := l0) (l1 := l1) (l2 := l2) (l3 := p6.1) hd hr13  hF q
  · rw [if_pos c9] at hF
    refine zx_aload_n rfl rfl rfl ?_
    refine zx_sipush (v := 400) rfl rfl rfl ?_
    refine zx_aload_n rfl rfl rfl ?_
    replace hF := zbnd hF
    obtain ⟨x10, e11, hF⟩ := hF
    refine zy_getI rfl rfl e11 ?_
    refine zx_imul rfl rfl ?_
    refine zx_iload_n rfl rfl rfl ?_
    refine zx_iadd rfl rfl ?_
    replace hF := zgd_some hF
    obtain ⟨g12, hF⟩ := hF
    replace hF := zbnd hF
    obtain ⟨p14, e13, hF⟩ := hF
    refine zx_callE rfl rfl rfl rfl (zrcv_isO g12) rfl rfl (zc4 (Nat.le_of_ble_eq_true rfl)) (t218 (by omega) e13 (zaV ?_))
    refine zx_aload_n rfl rfl rfl ?_
    refine zx_iload_n rfl rfl rfl ?_
    refine zx_sipush (v := 400) rfl rfl rfl ?_
    refine zx_aload_n rfl rfl rfl ?_
    replace hF := zbnd hF
    obtain ⟨x15, e16, hF⟩ := hF
    refine zy_getI rfl rfl e16 ?_
    refine zx_imul rfl rfl ?_
    refine zx_isub rfl rfl ?_
    refine zx_iload_n rfl rfl rfl ?_
    refine zx_iload_n rfl rfl rfl ?_
    replace hF := zgd_some hF
    obtain ⟨g17, hF⟩ := hF
    replace hF := zbnd hF
    obtain ⟨p19, e18, hF⟩ := hF
    refine zx_callE rfl rfl rfl rfl (zrcv_isO g17) rfl rfl (zc4 (Nat.le_of_ble_eq_true rfl)) (t220 (by omega) e18 (zaV ?_))
    refine zx_iload_n rfl rfl rfl ?_
    refine zx_istore_n rfl rfl rfl ?_
    exact tb219_106 (l0 := l0) (l1 := l1) (l2 := p6.1) (l3 := p6.1) hd hr13  hF q
def b219_51 (n : Nat)  (r13 : Nat → Int32 → Int32 → zH → Option (Unit × zH)) (l0 : Nat) (l1 : Int32) (l2 : Int32) (s0 : Nat) (h : zH) : Option (Unit × zH) :=
  b219_56 n r13 l0 l1 l2 1 s0 h
set_option maxRecDepth 20000 in
theorem tb219_51 {d n : Nat} {Q : zRs → zH → Prop}  {r13 : Nat → Int32 → Int32 → zH → Option (Unit × zH)} {l0 : Nat} {l1 : Int32} {l2 : Int32} {s0 : Nat} {x3 : Option Value} (hd : 6 ≤ d)  (hr13 : ∀ {l0 : Nat} {l1 : Int32} {l2 : Int32}  {x3 : Option Value} {h : zH} {p : (Unit × zH)}, zn2 x3 = true → r13 l0 l1 l2 h = some p → Q (eV p.1) p.2 → zW d 219 13 [some (.ref l0), some (.int l1), some (.int l2), x3] [] h Q) {h : zH} {p : (Unit × zH)} (hx3 : zn2 x3 = true) (hF : b219_51 n  r13 l0 l1 l2 s0 h = some p) (q : Q (eV p.1) p.2) : zW d 219 51 [some (.ref l0), some (.int l1), some (.int l2), x3] [.ref s0] h Q := by
  unfold b219_51 at hF
  obtain ⟨d, rfl⟩ : ∃ e, d = e + 1 := ⟨d - 1, by omega⟩
  refine zx_iconst (v := 1) rfl rfl rfl ?_
  refine zx_goto rfl rfl ?_
  exact tb219_56 (l0 := l0) (l1 := l1) (l2 := l2) (s0 := 1) (s1 := s0) hd hr13 hx3 hF q
def b219_13 (n : Nat)  (r13 : Nat → Int32 → Int32 → zH → Option (Unit × zH)) (l0 : Nat) (l1 : Int32) (l2 : Int32) (h : zH) : Option (Unit × zH) :=
  (gI h l0 11 73).bind fun x1 =>
  if x1 = (-1) then
    zgd (isO h l0 11) <|
    (f209 n l0 44 h).bind fun p6 =>
    if p6.1 = 0 then
      b219_109 n  l0 l1 l2 p6.2
    else
      zgd (isO p6.2 l0 11) <|
      (f190 n l0 p6.2).bind fun p10 =>
      (gI p10.2 l0 11 69).bind fun x11 =>
      if x11 = 2 then
        b219_51 n r13 l0 l1 l2 l0 p10.2
      else
        (gI p10.2 l0 11 69).bind fun x14 =>
        if x14 = 3 then
          b219_51 n r13 l0 l1 l2 l0 p10.2
        else
          b219_56 n r13 l0 l1 l2 0 l0 p10.2
  else
    b219_109 n  l0 l1 l2 h
set_option maxRecDepth 20000 in
theorem tb219_13 {d n : Nat} {Q : zRs → zH → Prop}  {r13 : Nat → Int32 → Int32 → zH → Option (Unit × zH)} {l0 : Nat} {l1 : Int32} {l2 : Int32}  {x3 : Option Value} (hd : 6 ≤ d)  (hr13 : ∀ {l0 : Nat} {l1 : Int32} {l2 : Int32}  {x3 : Option Value} {h : zH} {p : (Unit × zH)}, zn2 x3 = true → r13 l0 l1 l2 h = some p → Q (eV p.1) p.2 → zW d 219 13 [some (.ref l0), some (.int l1), some (.int l2), x3] [] h Q) {h : zH} {p : (Unit × zH)} (hx3 : zn2 x3 = true) (hF : b219_13 n  r13 l0 l1 l2 h = some p) (q : Q (eV p.1) p.2) : zW d 219 13 [some (.ref l0), some (.int l1), some (.int l2), x3] [] h Q := by
  unfold b219_13 at hF
  obtain ⟨d, rfl⟩ : ∃ e, d = e + 1 := ⟨d - 1, by omega⟩
  refine zx_aload_n rfl rfl rfl ?_
  replace hF := zbnd hF
  obtain ⟨x1, e2, hF⟩ := hF
  refine zy_getI rfl rfl e2 ?_
  refine zx_iconst (v := (-1)) rfl rfl rfl ?_
  refine zx_ic_ne rfl rfl (fun c3 => ?_) (fun c3 => ?_)
  · rw [if_neg c3] at hF
    exact tb219_109 (l0 := l0) (l1 := l1) (l2 := l2) hd  hx3 hF q
  · rw [if_pos c3] at hF
    refine zx_aload_n rfl rfl rfl ?_
    refine zx_bipush (v := 44) rfl rfl rfl ?_
    replace hF := zgd_some hF
    obtain ⟨g4, hF⟩ := hF
    replace hF := zbnd hF
    obtain ⟨p6, e5, hF⟩ := hF
    refine zx_callE rfl rfl rfl rfl (zrcv_isO g4) rfl rfl (zc4 (Nat.le_of_ble_eq_true rfl)) (t209 (by omega) e5 (zaI ?_))
    refine zx_if_eq rfl rfl (fun c7 => ?_) (fun c7 => ?_)
    · rw [if_pos c7] at hF
      exact tb219_109 (l0 := l0) (l1 := l1) (l2 := l2) hd  hx3 hF q
    · rw [if_neg c7] at hF
      refine zx_aload_n rfl rfl rfl ?_
      replace hF := zgd_some hF
      obtain ⟨g8, hF⟩ := hF
      replace hF := zbnd hF
      obtain ⟨p10, e9, hF⟩ := hF
      refine zx_callE rfl rfl rfl rfl (zrcv_isO g8) rfl rfl (zc4 (Nat.le_of_ble_eq_true rfl)) (t190 (by omega) e9 (zaV ?_))
      refine zx_aload_n rfl rfl rfl ?_
      refine zx_aload_n rfl rfl rfl ?_
      replace hF := zbnd hF
      obtain ⟨x11, e12, hF⟩ := hF
      refine zy_getI rfl rfl e12 ?_
      refine zx_iconst (v := 2) rfl rfl rfl ?_
      refine zx_ic_eq rfl rfl (fun c13 => ?_) (fun c13 => ?_)
      · rw [if_pos c13] at hF
        exact tb219_51 (l0 := l0) (l1 := l1) (l2 := l2) (s0 := l0) hd hr13 hx3 hF q
      · rw [if_neg c13] at hF
        refine zx_aload_n rfl rfl rfl ?_
        replace hF := zbnd hF
        obtain ⟨x14, e15, hF⟩ := hF
        refine zy_getI rfl rfl e15 ?_
        refine zx_iconst (v := 3) rfl rfl rfl ?_
        refine zx_ic_ne rfl rfl (fun c16 => ?_) (fun c16 => ?_)
        · rw [if_neg c16] at hF
          refine zx_iconst (v := 0) rfl rfl rfl ?_
          exact tb219_56 (l0 := l0) (l1 := l1) (l2 := l2) (s0 := 0) (s1 := l0) hd hr13 hx3 hF q
        · rw [if_pos c16] at hF
          exact tb219_51 (l0 := l0) (l1 := l1) (l2 := l2) (s0 := l0) hd hr13 hx3 hF q
def f219_13 (n : Nat)   (k : Nat) : Nat → Int32 → Int32 → zH → Option (Unit × zH) := Nat.rec (fun _ _ _ _ => none) (fun _ ih => b219_13 n  ih) k
theorem tf219_13 {d n : Nat} {Q : zRs → zH → Prop}   (hd : 6 ≤ d)   (k : Nat) : ∀ {l0 : Nat} {l1 : Int32} {l2 : Int32}  {x3 : Option Value} {h : zH} {p : (Unit × zH)}, zn2 x3 = true → f219_13 n   k l0 l1 l2 h = some p → Q (eV p.1) p.2 → zW d 219 13 [some (.ref l0), some (.int l1), some (.int l2), x3] [] h Q := by
  induction k with
  | zero => intros; rename_i hF _; cases hF
  | succ k ih => intros; rename_i hx3 hF q; exact tb219_13 (n := n) hd  ih hx3 hF q
def f219 (n : Nat)  (y0 : Nat) (y1 : Int32) (h : zH) : Option (Unit × zH) :=
  zgd (isO h y0 11) <|
  (f208 n y0 40 h).bind fun p3 =>
  zgd (isO p3.2 y0 11) <|
  (f218 n y0 y1 p3.2).bind fun p6 =>
  f219_13 n  n y0 y1 (-1) p6.2
set_option maxRecDepth 20000 in
theorem t219 {d n : Nat} {Q : zRs → zH → Prop}  {y0 : Nat} {y1 : Int32} (hd : 6 ≤ d)  {h : zH} {p : (Unit × zH)} (hF : f219 n  y0 y1 h = some p) (q : Q (eV p.1) p.2) : zC d 219 [.ref y0, .int y1] h Q := by
  refine zC_of (L := [some (.ref y0), some (.int y1), none, none]) rfl rfl ?_
  unfold f219 at hF
  obtain ⟨d, rfl⟩ : ∃ e, d = e + 1 := ⟨d - 1, by omega⟩
  refine zx_aload_n rfl rfl rfl ?_
  refine zx_bipush (v := 40) rfl rfl rfl ?_
  replace hF := zgd_some hF
  obtain ⟨g1, hF⟩ := hF
  replace hF := zbnd hF
  obtain ⟨p3, e2, hF⟩ := hF
  refine zx_callE rfl rfl rfl rfl (zrcv_isO g1) rfl rfl (zc4 (Nat.le_of_ble_eq_true rfl)) (t208 (by omega) e2 (zaV ?_))
  refine zx_aload_n rfl rfl rfl ?_
  refine zx_iload_n rfl rfl rfl ?_
  replace hF := zgd_some hF
  obtain ⟨g4, hF⟩ := hF
  replace hF := zbnd hF
  obtain ⟨p6, e5, hF⟩ := hF
  refine zx_callE rfl rfl rfl rfl (zrcv_isO g4) rfl rfl (zc4 (Nat.le_of_ble_eq_true rfl)) (t218 (by omega) e5 (zaV ?_))
  refine zx_iconst (v := (-1)) rfl rfl rfl ?_
  refine zx_istore_n rfl rfl rfl ?_
  exact tf219_13 hd  n (l0 := y0) (l1 := y1) (l2 := (-1)) rfl hF q
def b217_122 (n : Nat)   (l0 : Nat) (l1 : Int32) (l2 : Int32) (s0 : Int32) (s1 : Nat) (h : zH) : Option (Unit × zH) :=
  zgd (isO h s1 11) <|
  (f200 n s1 s0 h).bind fun p3 =>
  (gR p3.2 l0 11 57).bind fun x4 =>
  (gI p3.2 l0 11 72).bind fun x6 =>
  x4.bind fun a8 =>
  (aS zsI p3.2 a8 l1 (.int x6)).bind fun h9 =>
  zgd (isO h9 l0 11) <|
  (f190 n l0 h9).bind fun p13 =>
  some ((), p13.2)
set_option maxRecDepth 20000 in
theorem tb217_122 {d n : Nat} {Q : zRs → zH → Prop}   {l0 : Nat} {l1 : Int32} {l2 : Int32} {s0 : Int32} {s1 : Nat}  (hd : 7 ≤ d)   {h : zH} {p : (Unit × zH)}  (hF : b217_122 n   l0 l1 l2 s0 s1 h = some p) (q : Q (eV p.1) p.2) : zW d 217 122 [some (.ref l0), some (.int l1), some (.int l2)] [.int s0, .ref s1] h Q := by
  unfold b217_122 at hF
  obtain ⟨d, rfl⟩ : ∃ e, d = e + 1 := ⟨d - 1, by omega⟩
  replace hF := zgd_some hF
  obtain ⟨g1, hF⟩ := hF
  replace hF := zbnd hF
  obtain ⟨p3, e2, hF⟩ := hF
  refine zx_callE rfl rfl rfl rfl (zrcv_isO g1) rfl rfl (zc4 (Nat.le_of_ble_eq_true rfl)) (t200 (by omega) e2 (zaV ?_))
  refine zx_aload_n rfl rfl rfl ?_
  replace hF := zbnd hF
  obtain ⟨x4, e5, hF⟩ := hF
  refine zy_getR rfl rfl e5 ?_
  refine zx_iload_n rfl rfl rfl ?_
  refine zx_aload_n rfl rfl rfl ?_
  replace hF := zbnd hF
  obtain ⟨x6, e7, hF⟩ := hF
  refine zy_getI rfl rfl e7 ?_
  replace hF := zbnd hF
  obtain ⟨a8, rfl, hF⟩ := hF
  replace hF := zbnd hF
  obtain ⟨h9, e10, hF⟩ := hF
  refine zy_sI rfl rfl e10 ?_
  refine zx_aload_n rfl rfl rfl ?_
  replace hF := zgd_some hF
  obtain ⟨g11, hF⟩ := hF
  replace hF := zbnd hF
  obtain ⟨p13, e12, hF⟩ := hF
  refine zx_callE rfl rfl rfl rfl (zrcv_isO g11) rfl rfl (zc4 (Nat.le_of_ble_eq_true rfl)) (t190 (by omega) e12 (zaV ?_))
  refine zx_goto rfl rfl ?_
  replace hF := Option.some.inj hF
  subst hF
  exact zx_return rfl rfl rfl q
def b217_108 (n : Nat)   (l0 : Nat) (l1 : Int32) (l2 : Int32) (h : zH) : Option (Unit × zH) :=
  (gI h l0 11 69).bind fun x1 =>
  if x1 = 2 then
    b217_122 n  l0 l1 l2 1 l0 h
  else
    b217_122 n  l0 l1 l2 0 l0 h
set_option maxRecDepth 20000 in
theorem tb217_108 {d n : Nat} {Q : zRs → zH → Prop}   {l0 : Nat} {l1 : Int32} {l2 : Int32}   (hd : 7 ≤ d)   {h : zH} {p : (Unit × zH)}  (hF : b217_108 n   l0 l1 l2 h = some p) (q : Q (eV p.1) p.2) : zW d 217 108 [some (.ref l0), some (.int l1), some (.int l2)] [] h Q := by
  unfold b217_108 at hF
  obtain ⟨d, rfl⟩ : ∃ e, d = e + 1 := ⟨d - 1, by omega⟩
  refine zx_aload_n rfl rfl rfl ?_
  refine zx_aload_n rfl rfl rfl ?_
  replace hF := zbnd hF
  obtain ⟨x1, e2, hF⟩ := hF
  refine zy_getI rfl rfl e2 ?_
  refine zx_iconst (v := 2) rfl rfl rfl ?_
  refine zx_ic_ne rfl rfl (fun c3 => ?_) (fun c3 => ?_)
  · rw [if_neg c3] at hF
    refine zx_iconst (v := 0) rfl rfl rfl ?_
    exact tb217_122 (l0 := l0) (l1 := l1) (l2 := l2) (s0 := 0) (s1 := l0) hd   hF q
  · rw [if_pos c3] at hF
    refine zx_iconst (v := 1) rfl rfl rfl ?_
    refine zx_goto rfl rfl ?_
    exact tb217_122 (l0 := l0) (l1 := l1) (l2 := l2) (s0 := 1) (s1 := l0) hd   hF q
def b217_203 (n : Nat)   (l0 : Nat) (l1 : Int32) (l2 : Int32) (s0 : Int32) (s1 : Int32) (s2 : Option Nat) (h : zH) : Option (Unit × zH) :=
  s2.bind fun a1 =>
  (aS zsI h a1 s1 (.int s0)).bind fun h2 =>
  zgd (isO h2 l0 11) <|
  (f190 n l0 h2).bind fun p6 =>
  some ((), p6.2)
set_option maxRecDepth 20000 in
theorem tb217_203 {d n : Nat} {Q : zRs → zH → Prop}   {l0 : Nat} {l1 : Int32} {l2 : Int32} {s0 : Int32} {s1 : Int32} {s2 : Option Nat}  (hd : 7 ≤ d)   {h : zH} {p : (Unit × zH)}  (hF : b217_203 n   l0 l1 l2 s0 s1 s2 h = some p) (q : Q (eV p.1) p.2) : zW d 217 203 [some (.ref l0), some (.int l1), some (.int l2)] [.int s0, .int s1, va_rf s2] h Q := by
  unfold b217_203 at hF
  obtain ⟨d, rfl⟩ : ∃ e, d = e + 1 := ⟨d - 1, by omega⟩
  replace hF := zbnd hF
  obtain ⟨a1, rfl, hF⟩ := hF
  replace hF := zbnd hF
  obtain ⟨h2, e3, hF⟩ := hF
  refine zy_sI rfl rfl e3 ?_
  refine zx_aload_n rfl rfl rfl ?_
  replace hF := zgd_some hF
  obtain ⟨g4, hF⟩ := hF
  replace hF := zbnd hF
  obtain ⟨p6, e5, hF⟩ := hF
  refine zx_callE rfl rfl rfl rfl (zrcv_isO g4) rfl rfl (zc4 (Nat.le_of_ble_eq_true rfl)) (t190 (by omega) e5 (zaV ?_))
  refine zx_goto rfl rfl ?_
  replace hF := Option.some.inj hF
  subst hF
  exact zx_return rfl rfl rfl q
def b217_172 (n : Nat)   (l0 : Nat) (l1 : Int32) (l2 : Int32) (s0 : Int32) (s1 : Nat) (h : zH) : Option (Unit × zH) :=
  zgd (isO h s1 11) <|
  (f200 n s1 s0 h).bind fun p3 =>
  (gR p3.2 l0 11 56).bind fun x4 =>
  x4.bind fun a6 =>
  (aS zsB p3.2 a6 l1 (.int 1)).bind fun h7 =>
  (gR h7 l0 11 58).bind fun x9 =>
  (gI h7 l0 11 73).bind fun x11 =>
  if x11 = (-1) then
    zgd (isO h7 l0 11) <|
    (f206 n l0 h7).bind fun p16 =>
    b217_203 n  l0 l1 l2 p16.1 l1 x9 p16.2
  else
    b217_203 n  l0 l1 l2 (-1) l1 x9 h7
set_option maxRecDepth 20000 in
theorem tb217_172 {d n : Nat} {Q : zRs → zH → Prop}   {l0 : Nat} {l1 : Int32} {l2 : Int32} {s0 : Int32} {s1 : Nat}  (hd : 7 ≤ d)   {h : zH} {p : (Unit × zH)}  (hF : b217_172 n   l0 l1 l2 s0 s1 h = some p) (q : Q (eV p.1) p.2) : zW d 217 172 [some (.ref l0), some (.int l1), some (.int l2)] [.int s0, .ref s1] h Q := by
  unfold b217_172 at hF
  obtain ⟨d, rfl⟩ : ∃ e, d = e + 1 := ⟨d - 1, by omega⟩
  replace hF := zgd_some hF
  obtain ⟨g1, hF⟩ := hF
  replace hF := zbnd hF
  obtain ⟨p3, e2, hF⟩ := hF
  refine zx_callE rfl rfl rfl rfl (zrcv_isO g1) rfl rfl (zc4 (Nat.le_of_ble_eq_true rfl)) (t200 (by omega) e2 (zaV ?_))
  refine zx_aload_n rfl rfl rfl ?_
  replace hF := zbnd hF
  obtain ⟨x4, e5, hF⟩ := hF
  refine zy_getR rfl rfl e5 ?_
  refine zx_iload_n rfl rfl rfl ?_
  refine zx_iconst (v := 1) rfl rfl rfl ?_
  replace hF := zbnd hF
  obtain ⟨a6, rfl, hF⟩ := hF
  replace hF := zbnd hF
  obtain ⟨h7, e8, hF⟩ := hF
  refine zy_sB rfl rfl e8 ?_
  refine zx_aload_n rfl rfl rfl ?_
  replace hF := zbnd hF
  obtain ⟨x9, e10, hF⟩ := hF
  refine zy_getR rfl rfl e10 ?_
  refine zx_iload_n rfl rfl rfl ?_
  refine zx_aload_n rfl rfl rfl ?_
  replace hF := zbnd hF
  obtain ⟨x11, e12, hF⟩ := hF
  refine zy_getI rfl rfl e12 ?_
  refine zx_iconst (v := (-1)) rfl rfl rfl ?_
  refine zx_ic_ne rfl rfl (fun c13 => ?_) (fun c13 => ?_)
  · rw [if_neg c13] at hF
    refine zx_iconst (v := (-1)) rfl rfl rfl ?_
    exact tb217_203 (l0 := l0) (l1 := l1) (l2 := l2) (s0 := (-1)) (s1 := l1) (s2 := x9) hd   hF q
  · rw [if_pos c13] at hF
    refine zx_aload_n rfl rfl rfl ?_
    replace hF := zgd_some hF
    obtain ⟨g14, hF⟩ := hF
    replace hF := zbnd hF
    obtain ⟨p16, e15, hF⟩ := hF
    refine zx_callE rfl rfl rfl rfl (zrcv_isO g14) rfl rfl (zc4 (Nat.le_of_ble_eq_true rfl)) (t206 (by omega) e15 (zaI ?_))
    refine zx_goto rfl rfl ?_
    exact tb217_203 (l0 := l0) (l1 := l1) (l2 := l2) (s0 := p16.1) (s1 := l1) (s2 := x9) hd   hF q
def b217_45 (n : Nat)   (l0 : Nat) (l1 : Int32) (l2 : Int32) (s0 : Int32) (s1 : Nat) (h : zH) : Option (Unit × zH) :=
  zgd (isO h s1 11) <|
  (f200 n s1 s0 h).bind fun p3 =>
  (gI p3.2 l0 11 73).bind fun x4 =>
  if x4 = (-1) then
    (gR p3.2 l0 11 54).bind fun x7 =>
    x7.bind fun a9 =>
    (aS zsI p3.2 a9 l1 (.int (3 + l2))).bind fun h10 =>
    zgd (isO h10 l0 11) <|
    (f190 n l0 h10).bind fun p14 =>
    (gR p14.2 l0 11 54).bind fun x15 =>
    x15.bind fun a17 =>
    (aI p14.2 a17 l1).bind fun x18 =>
    if x18 = 3 then
      zgd (isO p14.2 l0 11) <|
      (f218 n l0 l1 p14.2).bind fun p23 =>
      some ((), p23.2)
    else
      (gR p14.2 l0 11 54).bind fun x24 =>
      x24.bind fun a26 =>
      (aI p14.2 a26 l1).bind fun x27 =>
      if x27 = 4 then
        b217_108 n  l0 l1 l2 p14.2
      else
        (gR p14.2 l0 11 54).bind fun x30 =>
        x30.bind fun a32 =>
        (aI p14.2 a32 l1).bind fun x33 =>
        if x33 = 5 then
          b217_108 n  l0 l1 l2 p14.2
        else
          (gR p14.2 l0 11 54).bind fun x36 =>
          x36.bind fun a38 =>
          (aI p14.2 a38 l1).bind fun x39 =>
          (f187 n x39 6 8 p14.2).bind fun p42 =>
          if p42.1 = 0 then
            (gR p42.2 l0 11 54).bind fun x44 =>
            x44.bind fun a46 =>
            (aI p42.2 a46 l1).bind fun x47 =>
            if x47 = 9 then
              zgd (isO p42.2 l0 11) <|
              (f219 n l0 l1 p42.2).bind fun p52 =>
              some ((), p52.2)
            else
              some ((), p42.2)
          else
            (gI p42.2 l0 11 69).bind fun x53 =>
            if x53 = 3 then
              b217_172 n  l0 l1 l2 1 l0 p42.2
            else
              b217_172 n  l0 l1 l2 0 l0 p42.2
  else
    some ((), p3.2)
set_option maxRecDepth 20000 in
theorem tb217_45 {d n : Nat} {Q : zRs → zH → Prop}   {l0 : Nat} {l1 : Int32} {l2 : Int32} {s0 : Int32} {s1 : Nat}  (hd : 7 ≤ d)   {h : zH} {p : (Unit × zH)}  (hF : b217_45 n   l0 l1 l2 s0 s1 h = some p) (q : Q (eV p.1) p.2) : zW d 217 45 [some (.ref l0), some (.int l1), some (.int l2)] [.int s0, .ref s1] h Q := by
  unfold b217_45 at hF
  obtain ⟨d, rfl⟩ : ∃ e, d = e + 1 := ⟨d - 1, by omega⟩
  replace hF := zgd_some hF
  obtain ⟨g1, hF⟩ := hF
  replace hF := zbnd hF
  obtain ⟨p3, e2, hF⟩ := hF
  refine zx_callE rfl rfl rfl rfl (zrcv_isO g1) rfl rfl (zc4 (Nat.le_of_ble_eq_true rfl)) (t200 (by omega) e2 (zaV ?_))
  refine zx_aload_n rfl rfl rfl ?_
  replace hF := zbnd hF
  obtain ⟨x4, e5, hF⟩ := hF
  refine zy_getI rfl rfl e5 ?_
  refine zx_iconst (v := (-1)) rfl rfl rfl ?_
  refine zx_ic_eq rfl rfl (fun c6 => ?_) (fun c6 => ?_)
  · rw [if_pos c6] at hF
    refine zx_aload_n rfl rfl rfl ?_
    replace hF := zbnd hF
    obtain ⟨x7, e8, hF⟩ := hF
    refine zy_getR rfl rfl e8 ?_
    refine zx_iload_n rfl rfl rfl ?_
    refine zx_iconst (v := 3) rfl rfl rfl ?_
    refine zx_iload_n rfl rfl rfl ?_
    refine zx_iadd rfl rfl ?_
    replace hF := zbnd hF
    obtain ⟨a9, rfl, hF⟩ := hF
    replace hF := zbnd hF
    obtain ⟨h10, e11, hF⟩ := hF
    refine zy_sI rfl rfl e11 ?_
    refine zx_aload_n rfl rfl rfl ?_
    replace hF := zgd_some hF
    obtain ⟨g12, hF⟩ := hF
    replace hF := zbnd hF
    obtain ⟨p14, e13, hF⟩ := hF
    refine zx_callE rfl rfl rfl rfl (zrcv_isO g12) rfl rfl (zc4 (Nat.le_of_ble_eq_true rfl)) (t190 (by omega) e13 (zaV ?_))
    refine zx_aload_n rfl rfl rfl ?_
    replace hF := zbnd hF
    obtain ⟨x15, e16, hF⟩ := hF
    refine zy_getR rfl rfl e16 ?_
    refine zx_iload_n rfl rfl rfl ?_
    replace hF := zbnd hF
    obtain ⟨a17, rfl, hF⟩ := hF
    replace hF := zbnd hF
    obtain ⟨x18, e19, hF⟩ := hF
    refine zy_aI rfl rfl e19 ?_
    refine zx_iconst (v := 3) rfl rfl rfl ?_
    refine zx_ic_ne rfl rfl (fun c20 => ?_) (fun c20 => ?_)
    · rw [if_neg c20] at hF
      refine zx_aload_n rfl rfl rfl ?_
      replace hF := zbnd hF
      obtain ⟨x24, e25, hF⟩ := hF
      refine zy_getR rfl rfl e25 ?_
      refine zx_iload_n rfl rfl rfl ?_
      replace hF := zbnd hF
      obtain ⟨a26, rfl, hF⟩ := hF
      replace hF := zbnd hF
      obtain ⟨x27, e28, hF⟩ := hF
      refine zy_aI rfl rfl e28 ?_
      refine zx_iconst (v := 4) rfl rfl rfl ?_
      refine zx_ic_eq rfl rfl (fun c29 => ?_) (fun c29 => ?_)
      · rw [if_pos c29] at hF
        exact tb217_108 (l0 := l0) (l1 := l1) (l2 := l2) hd   hF q
      · rw [if_neg c29] at hF
        refine zx_aload_n rfl rfl rfl ?_
        replace hF := zbnd hF
        obtain ⟨x30, e31, hF⟩ := hF
        refine zy_getR rfl rfl e31 ?_
        refine zx_iload_n rfl rfl rfl ?_
        replace hF := zbnd hF
        obtain ⟨a32, rfl, hF⟩ := hF
        replace hF := zbnd hF
        obtain ⟨x33, e34, hF⟩ := hF
        refine zy_aI rfl rfl e34 ?_
        refine zx_iconst (v := 5) rfl rfl rfl ?_
        refine zx_ic_ne rfl rfl (fun c35 => ?_) (fun c35 => ?_)
        · rw [if_neg c35] at hF
          refine zx_aload_n rfl rfl rfl ?_
          replace hF := zbnd hF
          obtain ⟨x36, e37, hF⟩ := hF
          refine zy_getR rfl rfl e37 ?_
          refine zx_iload_n rfl rfl rfl ?_
          replace hF := zbnd hF
          obtain ⟨a38, rfl, hF⟩ := hF
          replace hF := zbnd hF
          obtain ⟨x39, e40, hF⟩ := hF
          refine zy_aI rfl rfl e40 ?_
          refine zx_bipush (v := 6) rfl rfl rfl ?_
          refine zx_bipush (v := 8) rfl rfl rfl ?_
          replace hF := zbnd hF
          obtain ⟨p42, e41, hF⟩ := hF
          refine zx_callE rfl rfl rfl rfl rfl rfl rfl (zc4 (Nat.le_of_ble_eq_true rfl)) (t187 (by omega) e41 (zaI ?_))
          refine zx_if_eq rfl rfl (fun c43 => ?_) (fun c43 => ?_)
          · rw [if_pos c43] at hF
            refine zx_aload_n rfl rfl rfl ?_
            replace hF := zbnd hF
            obtain ⟨x44, e45, hF⟩ := hF
            refine zy_getR rfl rfl e45 ?_
            refine zx_iload_n rfl rfl rfl ?_
            replace hF := zbnd hF
            obtain ⟨a46, rfl, hF⟩ := hF
            replace hF := zbnd hF
            obtain ⟨x47, e48, hF⟩ := hF
            refine zy_aI rfl rfl e48 ?_
            refine zx_bipush (v := 9) rfl rfl rfl ?_
            refine zx_ic_ne rfl rfl (fun c49 => ?_) (fun c49 => ?_)
            · rw [if_neg c49] at hF
              replace hF := Option.some.inj hF
              subst hF
              exact zx_return rfl rfl rfl q
            · rw [if_pos c49] at hF
              refine zx_aload_n rfl rfl rfl ?_
              refine zx_iload_n rfl rfl rfl ?_
              replace hF := zgd_some hF
              obtain ⟨g50, hF⟩ := hF
              replace hF := zbnd hF
              obtain ⟨p52, e51, hF⟩ := hF
              refine zx_callE rfl rfl rfl rfl (zrcv_isO g50) rfl rfl (zc4 (Nat.le_of_ble_eq_true rfl)) (t219 (by omega) e51 (zaV ?_))
              replace hF := Option.some.inj hF
              subst hF
              exact zx_return rfl rfl rfl q
          · rw [if_neg c43] at hF
            refine zx_aload_n rfl rfl rfl ?_
            refine zx_aload_n rfl rfl rfl ?_
            replace hF := zbnd hF
            obtain ⟨x53, e54, hF⟩ := hF
            refine zy_getI rfl rfl e54 ?_
            refine zx_iconst (v := 3) rfl rfl rfl ?_
            refine zx_ic_ne rfl rfl (fun c55 => ?_) (fun c55 => ?_)
            · rw [if_neg c55] at hF
              refine zx_iconst (v := 0) rfl rfl rfl ?_
              exact tb217_172 (l0 := l0) (l1 := l1) (l2 := l2) (s0 := 0) (s1 := l0) hd   hF q
            · rw [if_pos c55] at hF
              refine zx_iconst (v := 1) rfl rfl rfl ?_
              refine zx_goto rfl rfl ?_
              exact tb217_172 (l0 := l0) (l1 := l1) (l2 := l2) (s0 := 1) (s1 := l0) hd   hF q
        · rw [if_pos c35] at hF
          exact tb217_108 (l0 := l0) (l1 := l1) (l2 := l2) hd   hF q
    · rw [if_pos c20] at hF
      refine zx_aload_n rfl rfl rfl ?_
      refine zx_iload_n rfl rfl rfl ?_
      replace hF := zgd_some hF
      obtain ⟨g21, hF⟩ := hF
      replace hF := zbnd hF
      obtain ⟨p23, e22, hF⟩ := hF
      refine zx_callE rfl rfl rfl rfl (zrcv_isO g21) rfl rfl (zc4 (Nat.le_of_ble_eq_true rfl)) (t218 (by omega) e22 (zaV ?_))
      refine zx_goto rfl rfl ?_
      replace hF := Option.some.inj hF
      subst hF
      exact zx_return rfl rfl rfl q
  · rw [if_neg c6] at hF
    replace hF := Option.some.inj hF
    subst hF
    exact zx_return rfl rfl rfl q
def b217_33 (n : Nat)   (l0 : Nat) (l1 : Int32) (s0 : Int32) (h : zH) : Option (Unit × zH) :=
  if s0 = (-1) then
    b217_45 n  l0 l1 s0 0 l0 h
  else
    b217_45 n  l0 l1 s0 1 l0 h
set_option maxRecDepth 20000 in
theorem tb217_33 {d n : Nat} {Q : zRs → zH → Prop}   {l0 : Nat} {l1 : Int32} {s0 : Int32} {x2 : Option Value} (hd : 7 ≤ d)   {h : zH} {p : (Unit × zH)} (hx2 : zn2 x2 = true) (hF : b217_33 n   l0 l1 s0 h = some p) (q : Q (eV p.1) p.2) : zW d 217 33 [some (.ref l0), some (.int l1), x2] [.int s0] h Q := by
  unfold b217_33 at hF
  obtain ⟨d, rfl⟩ : ∃ e, d = e + 1 := ⟨d - 1, by omega⟩
  refine zx_istore_n rfl rfl rfl ?_
  refine zx_aload_n rfl rfl rfl ?_
  refine zx_iload_n rfl rfl rfl ?_
  refine zx_iconst (v := (-1)) rfl rfl rfl ?_
  refine zx_ic_eq rfl rfl (fun c1 => ?_) (fun c1 => ?_)
  · rw [if_pos c1] at hF
    refine zx_iconst (v := 0) rfl rfl rfl ?_
    exact tb217_45 (l0 := l0) (l1 := l1) (l2 := s0) (s0 := 0) (s1 := l0) hd   hF q
  · rw [if_neg c1] at hF
    refine zx_iconst (v := 1) rfl rfl rfl ?_
    refine zx_goto rfl rfl ?_
    exact tb217_45 (l0 := l0) (l1 := l1) (l2 := s0) (s0 := 1) (s1 := l0) hd   hF q
def f217 (n : Nat)  (y0 : Nat) (y1 : Int32) (h : zH) : Option (Unit × zH) :=
  (gR h y0 11 55).bind fun x1 =>
  zgd (isO h y0 11) <|
  (f206 n y0 h).bind fun p5 =>
  x1.bind fun a6 =>
  (aS zsI p5.2 a6 y1 (.int p5.1)).bind fun h7 =>
  zgd (isO h7 y0 11) <|
  (f190 n y0 h7).bind fun p11 =>
  (gI p11.2 y0 11 73).bind fun x12 =>
  if x12 = (-1) then
    zgd (isO p11.2 y0 11) <|
    (f199 n y0 (some 65) p11.2).bind fun p17 =>
    b217_33 n  y0 y1 p17.1 p17.2
  else
    b217_33 n  y0 y1 (-1) p11.2
set_option maxRecDepth 20000 in
theorem t217 {d n : Nat} {Q : zRs → zH → Prop}  {y0 : Nat} {y1 : Int32} (hd : 7 ≤ d)  {h : zH} {p : (Unit × zH)} (hF : f217 n  y0 y1 h = some p) (q : Q (eV p.1) p.2) : zC d 217 [.ref y0, .int y1] h Q := by
  refine zC_of (L := [some (.ref y0), some (.int y1), none]) rfl rfl ?_
  unfold f217 at hF
  obtain ⟨d, rfl⟩ : ∃ e, d = e + 1 := ⟨d - 1, by omega⟩
  refine zx_aload_n rfl rfl rfl ?_
  replace hF := zbnd hF
  obtain ⟨x1, e2, hF⟩ := hF
  refine zy_getR rfl rfl e2 ?_
  refine zx_iload_n rfl rfl rfl ?_
  refine zx_aload_n rfl rfl rfl ?_
  replace hF := zgd_some hF
  obtain ⟨g3, hF⟩ := hF
  replace hF := zbnd hF
  obtain ⟨p5, e4, hF⟩ := hF
  refine zx_callE rfl rfl rfl rfl (zrcv_isO g3) rfl rfl (zc4 (Nat.le_of_ble_eq_true rfl)) (t206 (by omega) e4 (zaI ?_))
  replace hF := zbnd hF
  obtain ⟨a6, rfl, hF⟩ := hF
  replace hF := zbnd hF
  obtain ⟨h7, e8, hF⟩ := hF
  refine zy_sI rfl rfl e8 ?_
  refine zx_aload_n rfl rfl rfl ?_
  replace hF := zgd_some hF
  obtain ⟨g9, hF⟩ := hF
  replace hF := zbnd hF
  obtain ⟨p11, e10, hF⟩ := hF
  refine zx_callE rfl rfl rfl rfl (zrcv_isO g9) rfl rfl (zc4 (Nat.le_of_ble_eq_true rfl)) (t190 (by omega) e10 (zaV ?_))
  refine zx_aload_n rfl rfl rfl ?_
  replace hF := zbnd hF
  obtain ⟨x12, e13, hF⟩ := hF
  refine zy_getI rfl rfl e13 ?_
  refine zx_iconst (v := (-1)) rfl rfl rfl ?_
  refine zx_ic_ne rfl rfl (fun c14 => ?_) (fun c14 => ?_)
  · rw [if_neg c14] at hF
    refine zx_iconst (v := (-1)) rfl rfl rfl ?_
    exact tb217_33 (l0 := y0) (l1 := y1) (s0 := (-1)) hd  rfl hF q
  · rw [if_pos c14] at hF
    refine zx_aload_n rfl rfl rfl ?_
    refine zx_ldcw rfl rfl rfl ?_
    replace hF := zgd_some hF
    obtain ⟨g15, hF⟩ := hF
    replace hF := zbnd hF
    obtain ⟨p17, e16, hF⟩ := hF
    refine zx_callE rfl rfl rfl rfl (zrcv_isO g15) rfl rfl (zc4 (Nat.le_of_ble_eq_true rfl)) (t199 (by omega) e16 (zaI ?_))
    refine zx_goto rfl rfl ?_
    exact tb217_33 (l0 := y0) (l1 := y1) (s0 := p17.1) hd  rfl hF q
def f221 (n : Nat)  (y0 : Nat) (y1 : Int32) (h : zH) : Option (Unit × zH) :=
  (gR h y0 11 61).bind fun x1 =>
  (gI h y0 11 4).bind fun x3 =>
  (gR h y0 11 62).bind fun x5 =>
  (gI h y0 11 4).bind fun x7 =>
  x5.bind fun a9 =>
  (aI h a9 x7).bind fun x10 =>
  x1.bind fun a12 =>
  (aS zsI h a12 ((400 * x3) + x10) (.int y1)).bind fun h13 =>
  (gR h13 y0 11 62).bind fun x15 =>
  (gI h13 y0 11 4).bind fun x17 =>
  x15.bind fun a19 =>
  (aI h13 a19 x17).bind fun x20 =>
  (aS zsI h13 a19 x17 (.int (x20 + 1))).bind fun h22 =>
  some ((), h22)
set_option maxRecDepth 20000 in
theorem t221 {d n : Nat} {Q : zRs → zH → Prop}  {y0 : Nat} {y1 : Int32} (hd : 0 ≤ d)  {h : zH} {p : (Unit × zH)} (hF : f221 n  y0 y1 h = some p) (q : Q (eV p.1) p.2) : zC d 221 [.ref y0, .int y1] h Q := by
  refine zC_of (L := [some (.ref y0), some (.int y1)]) rfl rfl ?_
  unfold f221 at hF
  refine zx_aload_n rfl rfl rfl ?_
  replace hF := zbnd hF
  obtain ⟨x1, e2, hF⟩ := hF
  refine zy_getR rfl rfl e2 ?_
  refine zx_sipush (v := 400) rfl rfl rfl ?_
  refine zx_aload_n rfl rfl rfl ?_
  replace hF := zbnd hF
  obtain ⟨x3, e4, hF⟩ := hF
  refine zy_getI rfl rfl e4 ?_
  refine zx_imul rfl rfl ?_
  refine zx_aload_n rfl rfl rfl ?_
  replace hF := zbnd hF
  obtain ⟨x5, e6, hF⟩ := hF
  refine zy_getR rfl rfl e6 ?_
  refine zx_aload_n rfl rfl rfl ?_
  replace hF := zbnd hF
  obtain ⟨x7, e8, hF⟩ := hF
  refine zy_getI rfl rfl e8 ?_
  replace hF := zbnd hF
  obtain ⟨a9, rfl, hF⟩ := hF
  replace hF := zbnd hF
  obtain ⟨x10, e11, hF⟩ := hF
  refine zy_aI rfl rfl e11 ?_
  refine zx_iadd rfl rfl ?_
  refine zx_iload_n rfl rfl rfl ?_
  replace hF := zbnd hF
  obtain ⟨a12, rfl, hF⟩ := hF
  replace hF := zbnd hF
  obtain ⟨h13, e14, hF⟩ := hF
  refine zy_sI rfl rfl e14 ?_
  refine zx_aload_n rfl rfl rfl ?_
  replace hF := zbnd hF
  obtain ⟨x15, e16, hF⟩ := hF
  refine zy_getR rfl rfl e16 ?_
  refine zx_aload_n rfl rfl rfl ?_
  replace hF := zbnd hF
  obtain ⟨x17, e18, hF⟩ := hF
  refine zy_getI rfl rfl e18 ?_
  refine zx_dup2 rfl rfl (by rw [zc1_rf]; rfl) ?_
  replace hF := zbnd hF
  obtain ⟨a19, rfl, hF⟩ := hF
  replace hF := zbnd hF
  obtain ⟨x20, e21, hF⟩ := hF
  refine zy_aI rfl rfl e21 ?_
  refine zx_iconst (v := 1) rfl rfl rfl ?_
  refine zx_iadd rfl rfl ?_
  replace hF := zbnd hF
  obtain ⟨h22, e23, hF⟩ := hF
  refine zy_sI rfl rfl e23 ?_
  replace hF := Option.some.inj hF
  subst hF
  exact zx_return rfl rfl rfl q
def b222_100 (n : Nat)   (l0 : Nat) (l1 : Int32) (l2 : Int32) (l3 : Int32) (h : zH) : Option (Unit × zH) :=
  (gR h l0 11 81).bind fun x1 =>
  x1.bind fun a3 =>
  (aS zsI h a3 l3 (.int l2)).bind fun h4 =>
  some ((), h4)
set_option maxRecDepth 20000 in
theorem tb222_100 {d n : Nat} {Q : zRs → zH → Prop}   {l0 : Nat} {l1 : Int32} {l2 : Int32} {l3 : Int32}   (hd : 1 ≤ d)   {h : zH} {p : (Unit × zH)}  (hF : b222_100 n   l0 l1 l2 l3 h = some p) (q : Q (eV p.1) p.2) : zW d 222 100 [some (.ref l0), some (.int l1), some (.int l2), some (.int l3)] [] h Q := by
  unfold b222_100 at hF
  obtain ⟨d, rfl⟩ : ∃ e, d = e + 1 := ⟨d - 1, by omega⟩
  refine zx_aload_n rfl rfl rfl ?_
  replace hF := zbnd hF
  obtain ⟨x1, e2, hF⟩ := hF
  refine zy_getR rfl rfl e2 ?_
  refine zx_iload_n rfl rfl rfl ?_
  refine zx_iload_n rfl rfl rfl ?_
  replace hF := zbnd hF
  obtain ⟨a3, rfl, hF⟩ := hF
  replace hF := zbnd hF
  obtain ⟨h4, e5, hF⟩ := hF
  refine zy_sI rfl rfl e5 ?_
  replace hF := Option.some.inj hF
  subst hF
  exact zx_return rfl rfl rfl q
def b222_2 (n : Nat)  (r2 : Nat → Int32 → Int32 → zH → Option (Unit × zH)) (l0 : Nat) (l1 : Int32) (l2 : Int32) (h : zH) : Option (Unit × zH) :=
  (gR h l0 11 77).bind fun x1 =>
  (gI h l0 11 75).bind fun x3 =>
  x1.bind fun a5 =>
  (aI h a5 (x3 - 1)).bind fun x6 =>
  if x6 = (-1) then
    (gI h l0 11 75).bind fun x9 =>
    (gR h l0 11 80).bind fun x11 =>
    x11.bind fun a13 =>
    (aI h a13 (x9 - 1)).bind fun x14 =>
    if x14 = (-1) then
      b222_100 n  l0 l1 l2 (x9 - 1) h
    else
      (gR h l0 11 80).bind fun x17 =>
      x17.bind fun a19 =>
      (aI h a19 (x9 - 1)).bind fun x20 =>
      (gR h l0 11 81).bind fun x22 =>
      x22.bind fun a24 =>
      (aI h a24 (x9 - 1)).bind fun x25 =>
      zgd (isO h l0 11) <|
      (f220 n l0 x20 x25 l2 h).bind fun p29 =>
      b222_100 n  l0 l1 l2 (x9 - 1) p29.2
  else
    (gR h l0 11 77).bind fun x30 =>
    (gI h l0 11 75).bind fun x32 =>
    x30.bind fun a34 =>
    (aI h a34 (x32 - 1)).bind fun x35 =>
    zgd (isO h l0 11) <|
    (f220 n l0 x35 (-1) l2 h).bind fun p39 =>
    zgd (isO p39.2 l0 11) <|
    (f221 n l0 x35 p39.2).bind fun p42 =>
    (gI p42.2 l0 11 75).bind fun x43 =>
    (pF p42.2 l0 11 75 (.int (x43 - 1))).bind fun h45 =>
    (gI h45 l0 11 76).bind fun x47 =>
    (pF h45 l0 11 76 (.int (x47 - 1))).bind fun h49 =>
    r2 l0 l1 x35 h49
set_option maxRecDepth 20000 in
theorem tb222_2 {d n : Nat} {Q : zRs → zH → Prop}  {r2 : Nat → Int32 → Int32 → zH → Option (Unit × zH)} {l0 : Nat} {l1 : Int32} {l2 : Int32}  {x3 : Option Value} (hd : 1 ≤ d)  (hr2 : ∀ {l0 : Nat} {l1 : Int32} {l2 : Int32}  {x3 : Option Value} {h : zH} {p : (Unit × zH)}, zn2 x3 = true → r2 l0 l1 l2 h = some p → Q (eV p.1) p.2 → zW d 222 2 [some (.ref l0), some (.int l1), some (.int l2), x3] [] h Q) {h : zH} {p : (Unit × zH)} (hx3 : zn2 x3 = true) (hF : b222_2 n  r2 l0 l1 l2 h = some p) (q : Q (eV p.1) p.2) : zW d 222 2 [some (.ref l0), some (.int l1), some (.int l2), x3] [] h Q := by
  unfold b222_2 at hF
  obtain ⟨d, rfl⟩ : ∃ e, d = e + 1 := ⟨d - 1, by omega⟩
  refine zx_aload_n rfl rfl rfl ?_
  replace hF := zbnd hF
  obtain ⟨x1, e2, hF⟩ := hF
  refine zy_getR rfl rfl e2 ?_
  refine zx_aload_n rfl rfl rfl ?_
  replace hF := zbnd hF
  obtain ⟨x3, e4, hF⟩ := hF
  refine zy_getI rfl rfl e4 ?_
  refine zx_iconst (v := 1) rfl rfl rfl ?_
  refine zx_isub rfl rfl ?_
  replace hF := zbnd hF
  obtain ⟨a5, rfl, hF⟩ := hF
  replace hF := zbnd hF
  obtain ⟨x6, e7, hF⟩ := hF
  refine zy_aI rfl rfl e7 ?_
  refine zx_iconst (v := (-1)) rfl rfl rfl ?_
  refine zx_ic_eq rfl rfl (fun c8 => ?_) (fun c8 => ?_)
  · rw [if_pos c8] at hF
    refine zx_aload_n rfl rfl rfl ?_
    replace hF := zbnd hF
    obtain ⟨x9, e10, hF⟩ := hF
    refine zy_getI rfl rfl e10 ?_
    refine zx_iconst (v := 1) rfl rfl rfl ?_
    refine zx_isub rfl rfl ?_
    refine zx_istore_n rfl rfl rfl ?_
    refine zx_aload_n rfl rfl rfl ?_
    replace hF := zbnd hF
    obtain ⟨x11, e12, hF⟩ := hF
    refine zy_getR rfl rfl e12 ?_
    refine zx_iload_n rfl rfl rfl ?_
    replace hF := zbnd hF
    obtain ⟨a13, rfl, hF⟩ := hF
    replace hF := zbnd hF
    obtain ⟨x14, e15, hF⟩ := hF
    refine zy_aI rfl rfl e15 ?_
    refine zx_iconst (v := (-1)) rfl rfl rfl ?_
    refine zx_ic_eq rfl rfl (fun c16 => ?_) (fun c16 => ?_)
    · rw [if_pos c16] at hF
      exact tb222_100 (l0 := l0) (l1 := l1) (l2 := l2) (l3 := (x9 - 1)) hd   hF q
    · rw [if_neg c16] at hF
      refine zx_aload_n rfl rfl rfl ?_
      refine zx_aload_n rfl rfl rfl ?_
      replace hF := zbnd hF
      obtain ⟨x17, e18, hF⟩ := hF
      refine zy_getR rfl rfl e18 ?_
      refine zx_iload_n rfl rfl rfl ?_
      replace hF := zbnd hF
      obtain ⟨a19, rfl, hF⟩ := hF
      replace hF := zbnd hF
      obtain ⟨x20, e21, hF⟩ := hF
      refine zy_aI rfl rfl e21 ?_
      refine zx_aload_n rfl rfl rfl ?_
      replace hF := zbnd hF
      obtain ⟨x22, e23, hF⟩ := hF
      refine zy_getR rfl rfl e23 ?_
      refine zx_iload_n rfl rfl rfl ?_
      replace hF := zbnd hF
      obtain ⟨a24, rfl, hF⟩ := hF
      replace hF := zbnd hF
      obtain ⟨x25, e26, hF⟩ := hF
      refine zy_aI rfl rfl e26 ?_
      refine zx_iload_n rfl rfl rfl ?_
      replace hF := zgd_some hF
      obtain ⟨g27, hF⟩ := hF
      replace hF := zbnd hF
      obtain ⟨p29, e28, hF⟩ := hF
      refine zx_callE rfl rfl rfl rfl (zrcv_isO g27) rfl rfl (zc4 (Nat.le_of_ble_eq_true rfl)) (t220 (by omega) e28 (zaV ?_))
      exact tb222_100 (l0 := l0) (l1 := l1) (l2 := l2) (l3 := (x9 - 1)) hd   hF q
  · rw [if_neg c8] at hF
    refine zx_aload_n rfl rfl rfl ?_
    replace hF := zbnd hF
    obtain ⟨x30, e31, hF⟩ := hF
    refine zy_getR rfl rfl e31 ?_
    refine zx_aload_n rfl rfl rfl ?_
    replace hF := zbnd hF
    obtain ⟨x32, e33, hF⟩ := hF
    refine zy_getI rfl rfl e33 ?_
    refine zx_iconst (v := 1) rfl rfl rfl ?_
    refine zx_isub rfl rfl ?_
    replace hF := zbnd hF
    obtain ⟨a34, rfl, hF⟩ := hF
    replace hF := zbnd hF
    obtain ⟨x35, e36, hF⟩ := hF
    refine zy_aI rfl rfl e36 ?_
    refine zx_istore_n rfl rfl rfl ?_
    refine zx_aload_n rfl rfl rfl ?_
    refine zx_iload_n rfl rfl rfl ?_
    refine zx_iconst (v := (-1)) rfl rfl rfl ?_
    refine zx_iload_n rfl rfl rfl ?_
    replace hF := zgd_some hF
    obtain ⟨g37, hF⟩ := hF
    replace hF := zbnd hF
    obtain ⟨p39, e38, hF⟩ := hF
    refine zx_callE rfl rfl rfl rfl (zrcv_isO g37) rfl rfl (zc4 (Nat.le_of_ble_eq_true rfl)) (t220 (by omega) e38 (zaV ?_))
    refine zx_aload_n rfl rfl rfl ?_
    refine zx_iload_n rfl rfl rfl ?_
    replace hF := zgd_some hF
    obtain ⟨g40, hF⟩ := hF
    replace hF := zbnd hF
    obtain ⟨p42, e41, hF⟩ := hF
    refine zx_callE rfl rfl rfl rfl (zrcv_isO g40) rfl rfl (zc4 (Nat.le_of_ble_eq_true rfl)) (t221 (by omega) e41 (zaV ?_))
    refine zx_aload_n rfl rfl rfl ?_
    refine zx_dup rfl rfl rfl ?_
    replace hF := zbnd hF
    obtain ⟨x43, e44, hF⟩ := hF
    refine zy_getI rfl rfl e44 ?_
    refine zx_iconst (v := 1) rfl rfl rfl ?_
    refine zx_isub rfl rfl ?_
    replace hF := zbnd hF
    obtain ⟨h45, e46, hF⟩ := hF
    refine zy_put rfl rfl e46 ?_
    refine zx_aload_n rfl rfl rfl ?_
    refine zx_dup rfl rfl rfl ?_
    replace hF := zbnd hF
    obtain ⟨x47, e48, hF⟩ := hF
    refine zy_getI rfl rfl e48 ?_
    refine zx_iconst (v := 1) rfl rfl rfl ?_
    refine zx_isub rfl rfl ?_
    replace hF := zbnd hF
    obtain ⟨h49, e50, hF⟩ := hF
    refine zy_put rfl rfl e50 ?_
    refine zx_iload_n rfl rfl rfl ?_
    refine zx_istore_n rfl rfl rfl ?_
    refine zx_goto rfl rfl ?_
    exact hr2 rfl hF q
def f222_2 (n : Nat)   (k : Nat) : Nat → Int32 → Int32 → zH → Option (Unit × zH) := Nat.rec (fun _ _ _ _ => none) (fun _ ih => b222_2 n  ih) k
theorem tf222_2 {d n : Nat} {Q : zRs → zH → Prop}   (hd : 1 ≤ d)   (k : Nat) : ∀ {l0 : Nat} {l1 : Int32} {l2 : Int32}  {x3 : Option Value} {h : zH} {p : (Unit × zH)}, zn2 x3 = true → f222_2 n   k l0 l1 l2 h = some p → Q (eV p.1) p.2 → zW d 222 2 [some (.ref l0), some (.int l1), some (.int l2), x3] [] h Q := by
  induction k with
  | zero => intros; rename_i hF _; cases hF
  | succ k ih => intros; rename_i hx3 hF q; exact tb222_2 (n := n) hd  ih hx3 hF q
def f222 (n : Nat)  (y0 : Nat) (y1 : Int32) (h : zH) : Option (Unit × zH) :=
  f222_2 n  n y0 y1 y1 h
set_option maxRecDepth 20000 in
theorem t222 {d n : Nat} {Q : zRs → zH → Prop}  {y0 : Nat} {y1 : Int32} (hd : 1 ≤ d)  {h : zH} {p : (Unit × zH)} (hF : f222 n  y0 y1 h = some p) (q : Q (eV p.1) p.2) : zC d 222 [.ref y0, .int y1] h Q := by
  refine zC_of (L := [some (.ref y0), some (.int y1), none, none]) rfl rfl ?_
  unfold f222 at hF
  obtain ⟨d, rfl⟩ : ∃ e, d = e + 1 := ⟨d - 1, by omega⟩
  refine zx_iload_n rfl rfl rfl ?_
  refine zx_istore_n rfl rfl rfl ?_
  exact tf222_2 hd  n (l0 := y0) (l1 := y1) (l2 := y1) rfl hF q
def b212_206 (n : Nat)   (l0 : Nat) (l1 : Int32) (l2 : Int32) (h : zH) : Option (Int32 × zH) :=
  (gI h l0 11 73).bind fun x1 =>
  if x1 = (-1) then
    zgd (isO h l0 11) <|
    (f221 n l0 l2 h).bind fun p6 =>
    zgd (isO p6.2 l0 11) <|
    (f222 n l0 l2 p6.2).bind fun p9 =>
    some (0, p9.2)
  else
    some (0, h)
set_option maxRecDepth 20000 in
theorem tb212_206 {d n : Nat} {Q : zRs → zH → Prop}   {l0 : Nat} {l1 : Int32} {l2 : Int32}  {x3 : Option Value} (hd : 8 ≤ d)   {h : zH} {p : (Int32 × zH)} (hx3 : zn2 x3 = true) (hF : b212_206 n   l0 l1 l2 h = some p) (q : Q (eI p.1) p.2) : zW d 212 206 [some (.ref l0), some (.int l1), some (.int l2), x3] [] h Q := by
  unfold b212_206 at hF
  obtain ⟨d, rfl⟩ : ∃ e, d = e + 1 := ⟨d - 1, by omega⟩
  refine zx_aload_n rfl rfl rfl ?_
  replace hF := zbnd hF
  obtain ⟨x1, e2, hF⟩ := hF
  refine zy_getI rfl rfl e2 ?_
  refine zx_iconst (v := (-1)) rfl rfl rfl ?_
  refine zx_ic_ne rfl rfl (fun c3 => ?_) (fun c3 => ?_)
  · rw [if_neg c3] at hF
    refine zx_iconst (v := 0) rfl rfl rfl ?_
    replace hF := Option.some.inj hF
    subst hF
    exact zx_bret rfl rfl rfl rfl q
  · rw [if_pos c3] at hF
    refine zx_aload_n rfl rfl rfl ?_
    refine zx_iload_n rfl rfl rfl ?_
    replace hF := zgd_some hF
    obtain ⟨g4, hF⟩ := hF
    replace hF := zbnd hF
    obtain ⟨p6, e5, hF⟩ := hF
    refine zx_callE rfl rfl rfl rfl (zrcv_isO g4) rfl rfl (zc4 (Nat.le_of_ble_eq_true rfl)) (t221 (by omega) e5 (zaV ?_))
    refine zx_aload_n rfl rfl rfl ?_
    refine zx_iload_n rfl rfl rfl ?_
    replace hF := zgd_some hF
    obtain ⟨g7, hF⟩ := hF
    replace hF := zbnd hF
    obtain ⟨p9, e8, hF⟩ := hF
    refine zx_callE rfl rfl rfl rfl (zrcv_isO g7) rfl rfl (zc4 (Nat.le_of_ble_eq_true rfl)) (t222 (by omega) e8 (zaV ?_))
    refine zx_iconst (v := 0) rfl rfl rfl ?_
    replace hF := Option.some.inj hF
    subst hF
    exact zx_bret rfl rfl rfl rfl q
def b212_164 (n : Nat)   (l0 : Nat) (l1 : Int32) (l2 : Int32) (l3 : Int32) (s0 : Int32) (s1 : Int32) (s2 : Option Nat) (h : zH) : Option (Int32 × zH) :=
  s2.bind fun a1 =>
  (aS zsI h a1 (s1 + s0) (.int l3)).bind fun h2 =>
  b212_206 n  l0 l1 l2 h2
set_option maxRecDepth 20000 in
theorem tb212_164 {d n : Nat} {Q : zRs → zH → Prop}   {l0 : Nat} {l1 : Int32} {l2 : Int32} {l3 : Int32} {s0 : Int32} {s1 : Int32} {s2 : Option Nat}  (hd : 8 ≤ d)   {h : zH} {p : (Int32 × zH)}  (hF : b212_164 n   l0 l1 l2 l3 s0 s1 s2 h = some p) (q : Q (eI p.1) p.2) : zW d 212 164 [some (.ref l0), some (.int l1), some (.int l2), some (.int l3)] [.int s0, .int s1, va_rf s2] h Q := by
  unfold b212_164 at hF
  obtain ⟨d, rfl⟩ : ∃ e, d = e + 1 := ⟨d - 1, by omega⟩
  refine zx_iadd rfl rfl ?_
  refine zx_iload_n rfl rfl rfl ?_
  replace hF := zbnd hF
  obtain ⟨a1, rfl, hF⟩ := hF
  replace hF := zbnd hF
  obtain ⟨h2, e3, hF⟩ := hF
  refine zy_sI rfl rfl e3 ?_
  refine zx_goto rfl rfl ?_
  exact tb212_206 (l0 := l0) (l1 := l1) (l2 := l2) hd  rfl hF q
def b212_138 (n : Nat)   (l0 : Nat) (l1 : Int32) (l2 : Int32) (s0 : Int32) (h : zH) : Option (Int32 × zH) :=
  (gR h l0 11 55).bind fun x1 =>
  (gI h l0 11 4).bind fun x3 =>
  (gI h l0 11 73).bind fun x5 =>
  if x5 = (-1) then
    b212_164 n  l0 l1 l2 s0 l2 (400 * x3) x1 h
  else
    b212_164 n  l0 l1 l2 s0 0 (400 * x3) x1 h
set_option maxRecDepth 20000 in
theorem tb212_138 {d n : Nat} {Q : zRs → zH → Prop}   {l0 : Nat} {l1 : Int32} {l2 : Int32} {s0 : Int32} {x3 : Option Value} (hd : 8 ≤ d)   {h : zH} {p : (Int32 × zH)} (hx3 : zn2 x3 = true) (hF : b212_138 n   l0 l1 l2 s0 h = some p) (q : Q (eI p.1) p.2) : zW d 212 138 [some (.ref l0), some (.int l1), some (.int l2), x3] [.int s0] h Q := by
  unfold b212_138 at hF
  obtain ⟨d, rfl⟩ : ∃ e, d = e + 1 := ⟨d - 1, by omega⟩
  refine zx_istore_n rfl rfl rfl ?_
  refine zx_aload_n rfl rfl rfl ?_
  replace hF := zbnd hF
  obtain ⟨x1, e2, hF⟩ := hF
  refine zy_getR rfl rfl e2 ?_
  refine zx_sipush (v := 400) rfl rfl rfl ?_
  refine zx_aload_n rfl rfl rfl ?_
  replace hF := zbnd hF
  obtain ⟨x3, e4, hF⟩ := hF
  refine zy_getI rfl rfl e4 ?_
  refine zx_imul rfl rfl ?_
  refine zx_aload_n rfl rfl rfl ?_
  replace hF := zbnd hF
  obtain ⟨x5, e6, hF⟩ := hF
  refine zy_getI rfl rfl e6 ?_
  refine zx_iconst (v := (-1)) rfl rfl rfl ?_
  refine zx_ic_ne rfl rfl (fun c7 => ?_) (fun c7 => ?_)
  · rw [if_neg c7] at hF
    refine zx_iconst (v := 0) rfl rfl rfl ?_
    exact tb212_164 (l0 := l0) (l1 := l1) (l2 := l2) (l3 := s0) (s0 := 0) (s1 := (400 * x3)) (s2 := x1) hd   hF q
  · rw [if_pos c7] at hF
    refine zx_iload_n rfl rfl rfl ?_
    refine zx_goto rfl rfl ?_
    exact tb212_164 (l0 := l0) (l1 := l1) (l2 := l2) (l3 := s0) (s0 := l2) (s1 := (400 * x3)) (s2 := x1) hd   hF q
def b212_66 (n : Nat)   (l0 : Nat) (h : zH) : Option (Int32 × zH) :=
  zgd (isO h l0 11) <|
  (f190 n l0 h).bind fun p3 =>
  some (1, p3.2)
set_option maxRecDepth 20000 in
theorem tb212_66 {d n : Nat} {Q : zRs → zH → Prop}   {l0 : Nat}  {x1 : Option Value} {x2 : Option Value} {x3 : Option Value} (hd : 8 ≤ d)   {h : zH} {p : (Int32 × zH)} (hx1 : zn2 x1 = true) (hx2 : zn2 x2 = true) (hx3 : zn2 x3 = true) (hF : b212_66 n   l0 h = some p) (q : Q (eI p.1) p.2) : zW d 212 66 [some (.ref l0), x1, x2, x3] [] h Q := by
  unfold b212_66 at hF
  obtain ⟨d, rfl⟩ : ∃ e, d = e + 1 := ⟨d - 1, by omega⟩
  refine zx_aload_n rfl rfl rfl ?_
  replace hF := zgd_some hF
  obtain ⟨g1, hF⟩ := hF
  replace hF := zbnd hF
  obtain ⟨p3, e2, hF⟩ := hF
  refine zx_callE rfl rfl rfl rfl (zrcv_isO g1) rfl rfl (zc4 (Nat.le_of_ble_eq_true rfl)) (t190 (by omega) e2 (zaV ?_))
  refine zx_iconst (v := 1) rfl rfl rfl ?_
  replace hF := Option.some.inj hF
  subst hF
  exact zx_bret rfl rfl rfl rfl q
def b212_34 (n : Nat)   (l0 : Nat) (l1 : Int32) (h : zH) : Option (Int32 × zH) :=
  zgd (isO h l0 11) <|
  (f190 n l0 h).bind fun p3 =>
  some (1, p3.2)
set_option maxRecDepth 20000 in
theorem tb212_34 {d n : Nat} {Q : zRs → zH → Prop}   {l0 : Nat} {l1 : Int32}  {x2 : Option Value} {x3 : Option Value} (hd : 8 ≤ d)   {h : zH} {p : (Int32 × zH)} (hx2 : zn2 x2 = true) (hx3 : zn2 x3 = true) (hF : b212_34 n   l0 l1 h = some p) (q : Q (eI p.1) p.2) : zW d 212 34 [some (.ref l0), some (.int l1), x2, x3] [] h Q := by
  unfold b212_34 at hF
  obtain ⟨d, rfl⟩ : ∃ e, d = e + 1 := ⟨d - 1, by omega⟩
  refine zx_aload_n rfl rfl rfl ?_
  replace hF := zgd_some hF
  obtain ⟨g1, hF⟩ := hF
  replace hF := zbnd hF
  obtain ⟨p3, e2, hF⟩ := hF
  refine zx_callE rfl rfl rfl rfl (zrcv_isO g1) rfl rfl (zc4 (Nat.le_of_ble_eq_true rfl)) (t190 (by omega) e2 (zaV ?_))
  refine zx_iconst (v := 1) rfl rfl rfl ?_
  replace hF := Option.some.inj hF
  subst hF
  exact zx_bret rfl rfl rfl rfl q
def f212 (n : Nat)  (y0 : Nat) (h : zH) : Option (Int32 × zH) :=
  zgd (isO h y0 11) <|
  (f213 n y0 (some 61) h).bind fun p3 =>
  if p3.1 = 0 then
    zgd (isO p3.2 y0 11) <|
    (f209 n y0 40 p3.2).bind fun p7 =>
    if p7.1 = 0 then
      zgd (isO p7.2 y0 11) <|
      (f199 n y0 (some 63) p7.2).bind fun p11 =>
      if p11.1 = (-1) then
        zgd (isO p11.2 y0 11) <|
        (f203 n y0 p11.2).bind fun p15 =>
        zgd (isO p15.2 y0 11) <|
        (f200 n y0 p15.1 p15.2).bind fun p18 =>
        zgd (isO p18.2 y0 11) <|
        (f215 n y0 3 p18.2).bind fun p21 =>
        (gI p21.2 y0 11 73).bind fun x22 =>
        if x22 = (-1) then
          (gI p21.2 y0 11 4).bind fun x25 =>
          zgd (isO p21.2 y0 11) <|
          (f217 n y0 ((400 * x25) + p21.1) p21.2).bind fun p29 =>
          b212_206 n  y0 p11.1 p21.1 p29.2
        else
          b212_206 n  y0 p11.1 p21.1 p21.2
      else
        zgd (isO p11.2 y0 11) <|
        (f215 n y0 p11.1 p11.2).bind fun p32 =>
        zgd (isO p32.2 y0 11) <|
        (f190 n y0 p32.2).bind fun p35 =>
        if p11.1 = 2 then
          (gI p35.2 y0 11 73).bind fun x37 =>
          if x37 = (-1) then
            (gR p35.2 y0 11 9).bind fun x40 =>
            (gI p35.2 y0 11 4).bind fun x42 =>
            (gR p35.2 y0 11 8).bind fun x44 =>
            (gI p35.2 y0 11 4).bind fun x46 =>
            x44.bind fun a48 =>
            (aI p35.2 a48 x46).bind fun x49 =>
            zgd (isO p35.2 y0 11) <|
            (f216 n y0 x40 (12 * x42) x49 p35.2).bind fun p53 =>
            b212_138 n  y0 p11.1 p32.1 p53.1 p53.2
          else
            b212_138 n  y0 p11.1 p32.1 0 p35.2
        else
          b212_206 n  y0 p11.1 p32.1 p35.2
    else
      zgd (isO p7.2 y0 11) <|
      (f214 n y0 p7.2).bind fun p56 =>
      (gI p56.2 y0 11 73).bind fun x57 =>
      if x57 = (-1) then
        zgd (isO p56.2 y0 11) <|
        (f211 n y0 (-1) p56.2).bind fun p62 =>
        b212_66 n  y0 p62.2
      else
        b212_66 n  y0 p56.2
  else
    zgd (isO p3.2 y0 11) <|
    (f214 n y0 p3.2).bind fun p65 =>
    zgd (isO p65.2 y0 11) <|
    (f215 n y0 12 p65.2).bind fun p68 =>
    (gI p68.2 y0 11 73).bind fun x69 =>
    if x69 = (-1) then
      zgd (isO p68.2 y0 11) <|
      (f211 n y0 p68.1 p68.2).bind fun p74 =>
      b212_34 n  y0 p68.1 p74.2
    else
      b212_34 n  y0 p68.1 p68.2
set_option maxRecDepth 20000 in
theorem t212 {d n : Nat} {Q : zRs → zH → Prop}  {y0 : Nat} (hd : 8 ≤ d)  {h : zH} {p : (Int32 × zH)} (hF : f212 n  y0 h = some p) (q : Q (eI p.1) p.2) : zC d 212 [.ref y0] h Q := by
  refine zC_of (L := [some (.ref y0), none, none, none]) rfl rfl ?_
  unfold f212 at hF
  obtain ⟨d, rfl⟩ : ∃ e, d = e + 1 := ⟨d - 1, by omega⟩
  refine zx_aload_n rfl rfl rfl ?_
  refine zx_ldcw rfl rfl rfl ?_
  replace hF := zgd_some hF
  obtain ⟨g1, hF⟩ := hF
  replace hF := zbnd hF
  obtain ⟨p3, e2, hF⟩ := hF
  refine zx_callE rfl rfl rfl rfl (zrcv_isO g1) rfl rfl (zc4 (Nat.le_of_ble_eq_true rfl)) (t213 (by omega) e2 (zaI ?_))
  refine zx_if_eq rfl rfl (fun c4 => ?_) (fun c4 => ?_)
  · rw [if_pos c4] at hF
    refine zx_aload_n rfl rfl rfl ?_
    refine zx_bipush (v := 40) rfl rfl rfl ?_
    replace hF := zgd_some hF
    obtain ⟨g5, hF⟩ := hF
    replace hF := zbnd hF
    obtain ⟨p7, e6, hF⟩ := hF
    refine zx_callE rfl rfl rfl rfl (zrcv_isO g5) rfl rfl (zc4 (Nat.le_of_ble_eq_true rfl)) (t209 (by omega) e6 (zaI ?_))
    refine zx_if_eq rfl rfl (fun c8 => ?_) (fun c8 => ?_)
    · rw [if_pos c8] at hF
      refine zx_aload_n rfl rfl rfl ?_
      refine zx_ldcw rfl rfl rfl ?_
      replace hF := zgd_some hF
      obtain ⟨g9, hF⟩ := hF
      replace hF := zbnd hF
      obtain ⟨p11, e10, hF⟩ := hF
      refine zx_callE rfl rfl rfl rfl (zrcv_isO g9) rfl rfl (zc4 (Nat.le_of_ble_eq_true rfl)) (t199 (by omega) e10 (zaI ?_))
      refine zx_istore_n rfl rfl rfl ?_
      refine zx_iconst (v := (-1)) rfl rfl rfl ?_
      refine zx_istore_n rfl rfl rfl ?_
      refine zx_iload_n rfl rfl rfl ?_
      refine zx_iconst (v := (-1)) rfl rfl rfl ?_
      refine zx_ic_eq rfl rfl (fun c12 => ?_) (fun c12 => ?_)
      · rw [if_pos c12] at hF
        refine zx_aload_n rfl rfl rfl ?_
        refine zx_aload_n rfl rfl rfl ?_
        replace hF := zgd_some hF
        obtain ⟨g13, hF⟩ := hF
        replace hF := zbnd hF
        obtain ⟨p15, e14, hF⟩ := hF
        refine zx_callE rfl rfl rfl rfl (zrcv_isO g13) rfl rfl (zc4 (Nat.le_of_ble_eq_true rfl)) (t203 (by omega) e14 (zaI ?_))
        replace hF := zgd_some hF
        obtain ⟨g16, hF⟩ := hF
        replace hF := zbnd hF
        obtain ⟨p18, e17, hF⟩ := hF
        refine zx_callE rfl rfl rfl rfl (zrcv_isO g16) rfl rfl (zc4 (Nat.le_of_ble_eq_true rfl)) (t200 (by omega) e17 (zaV ?_))
        refine zx_aload_n rfl rfl rfl ?_
        refine zx_iconst (v := 3) rfl rfl rfl ?_
        replace hF := zgd_some hF
        obtain ⟨g19, hF⟩ := hF
        replace hF := zbnd hF
        obtain ⟨p21, e20, hF⟩ := hF
        refine zx_callE rfl rfl rfl rfl (zrcv_isO g19) rfl rfl (zc4 (Nat.le_of_ble_eq_true rfl)) (t215 (by omega) e20 (zaI ?_))
        refine zx_istore_n rfl rfl rfl ?_
        refine zx_aload_n rfl rfl rfl ?_
        replace hF := zbnd hF
        obtain ⟨x22, e23, hF⟩ := hF
        refine zy_getI rfl rfl e23 ?_
        refine zx_iconst (v := (-1)) rfl rfl rfl ?_
        refine zx_ic_ne rfl rfl (fun c24 => ?_) (fun c24 => ?_)
        · rw [if_neg c24] at hF
          exact tb212_206 (l0 := y0) (l1 := p11.1) (l2 := p21.1) hd  rfl hF q
        · rw [if_pos c24] at hF
          refine zx_aload_n rfl rfl rfl ?_
          refine zx_sipush (v := 400) rfl rfl rfl ?_
          refine zx_aload_n rfl rfl rfl ?_
          replace hF := zbnd hF
          obtain ⟨x25, e26, hF⟩ := hF
          refine zy_getI rfl rfl e26 ?_
          refine zx_imul rfl rfl ?_
          refine zx_iload_n rfl rfl rfl ?_
          refine zx_iadd rfl rfl ?_
          replace hF := zgd_some hF
          obtain ⟨g27, hF⟩ := hF
          replace hF := zbnd hF
          obtain ⟨p29, e28, hF⟩ := hF
          refine zx_callE rfl rfl rfl rfl (zrcv_isO g27) rfl rfl (zc4 (Nat.le_of_ble_eq_true rfl)) (t217 (by omega) e28 (zaV ?_))
          exact tb212_206 (l0 := y0) (l1 := p11.1) (l2 := p21.1) hd  rfl hF q
      · rw [if_neg c12] at hF
        refine zx_aload_n rfl rfl rfl ?_
        refine zx_iload_n rfl rfl rfl ?_
        replace hF := zgd_some hF
        obtain ⟨g30, hF⟩ := hF
        replace hF := zbnd hF
        obtain ⟨p32, e31, hF⟩ := hF
        refine zx_callE rfl rfl rfl rfl (zrcv_isO g30) rfl rfl (zc4 (Nat.le_of_ble_eq_true rfl)) (t215 (by omega) e31 (zaI ?_))
        refine zx_istore_n rfl rfl rfl ?_
        refine zx_aload_n rfl rfl rfl ?_
        replace hF := zgd_some hF
        obtain ⟨g33, hF⟩ := hF
        replace hF := zbnd hF
        obtain ⟨p35, e34, hF⟩ := hF
        refine zx_callE rfl rfl rfl rfl (zrcv_isO g33) rfl rfl (zc4 (Nat.le_of_ble_eq_true rfl)) (t190 (by omega) e34 (zaV ?_))
        refine zx_iload_n rfl rfl rfl ?_
        refine zx_iconst (v := 2) rfl rfl rfl ?_
        refine zx_ic_ne rfl rfl (fun c36 => ?_) (fun c36 => ?_)
        · rw [if_neg c36] at hF
          exact tb212_206 (l0 := y0) (l1 := p11.1) (l2 := p32.1) hd  rfl hF q
        · rw [if_pos c36] at hF
          refine zx_aload_n rfl rfl rfl ?_
          replace hF := zbnd hF
          obtain ⟨x37, e38, hF⟩ := hF
          refine zy_getI rfl rfl e38 ?_
          refine zx_iconst (v := (-1)) rfl rfl rfl ?_
          refine zx_ic_ne rfl rfl (fun c39 => ?_) (fun c39 => ?_)
          · rw [if_neg c39] at hF
            refine zx_iconst (v := 0) rfl rfl rfl ?_
            exact tb212_138 (l0 := y0) (l1 := p11.1) (l2 := p32.1) (s0 := 0) hd  rfl hF q
          · rw [if_pos c39] at hF
            refine zx_aload_n rfl rfl rfl ?_
            refine zx_aload_n rfl rfl rfl ?_
            replace hF := zbnd hF
            obtain ⟨x40, e41, hF⟩ := hF
            refine zy_getR rfl rfl e41 ?_
            refine zx_bipush (v := 12) rfl rfl rfl ?_
            refine zx_aload_n rfl rfl rfl ?_
            replace hF := zbnd hF
            obtain ⟨x42, e43, hF⟩ := hF
            refine zy_getI rfl rfl e43 ?_
            refine zx_imul rfl rfl ?_
            refine zx_aload_n rfl rfl rfl ?_
            replace hF := zbnd hF
            obtain ⟨x44, e45, hF⟩ := hF
            refine zy_getR rfl rfl e45 ?_
            refine zx_aload_n rfl rfl rfl ?_
            replace hF := zbnd hF
            obtain ⟨x46, e47, hF⟩ := hF
            refine zy_getI rfl rfl e47 ?_
            replace hF := zbnd hF
            obtain ⟨a48, rfl, hF⟩ := hF
            replace hF := zbnd hF
            obtain ⟨x49, e50, hF⟩ := hF
            refine zy_aI rfl rfl e50 ?_
            replace hF := zgd_some hF
            obtain ⟨g51, hF⟩ := hF
            replace hF := zbnd hF
            obtain ⟨p53, e52, hF⟩ := hF
            refine zx_callE rfl rfl rfl rfl (zrcv_isO g51) (congrArg (List.cons _) ((zsl_rf _ _).trans (congrArg (List.cons _) rfl))) rfl (zc4 (Nat.le_of_ble_eq_true rfl)) (t216 (by omega) e52 (zaI ?_))
            refine zx_goto rfl rfl ?_
            exact tb212_138 (l0 := y0) (l1 := p11.1) (l2 := p32.1) (s0 := p53.1) hd  rfl hF q
    · rw [if_neg c8] at hF
      refine zx_aload_n rfl rfl rfl ?_
      replace hF := zgd_some hF
      obtain ⟨g54, hF⟩ := hF
      replace hF := zbnd hF
      obtain ⟨p56, e55, hF⟩ := hF
      refine zx_callE rfl rfl rfl rfl (zrcv_isO g54) rfl rfl (zc4 (Nat.le_of_ble_eq_true rfl)) (t214 (by omega) e55 (zaV ?_))
      refine zx_aload_n rfl rfl rfl ?_
      replace hF := zbnd hF
      obtain ⟨x57, e58, hF⟩ := hF
      refine zy_getI rfl rfl e58 ?_
      refine zx_iconst (v := (-1)) rfl rfl rfl ?_
      refine zx_ic_ne rfl rfl (fun c59 => ?_) (fun c59 => ?_)
      · rw [if_neg c59] at hF
        exact tb212_66 (l0 := y0) hd  rfl rfl rfl hF q
      · rw [if_pos c59] at hF
        refine zx_aload_n rfl rfl rfl ?_
        refine zx_iconst (v := (-1)) rfl rfl rfl ?_
        replace hF := zgd_some hF
        obtain ⟨g60, hF⟩ := hF
        replace hF := zbnd hF
        obtain ⟨p62, e61, hF⟩ := hF
        refine zx_callE rfl rfl rfl rfl (zrcv_isO g60) rfl rfl (zc4 (Nat.le_of_ble_eq_true rfl)) (t211 (by omega) e61 (zaV ?_))
        exact tb212_66 (l0 := y0) hd  rfl rfl rfl hF q
  · rw [if_neg c4] at hF
    refine zx_aload_n rfl rfl rfl ?_
    replace hF := zgd_some hF
    obtain ⟨g63, hF⟩ := hF
    replace hF := zbnd hF
    obtain ⟨p65, e64, hF⟩ := hF
    refine zx_callE rfl rfl rfl rfl (zrcv_isO g63) rfl rfl (zc4 (Nat.le_of_ble_eq_true rfl)) (t214 (by omega) e64 (zaV ?_))
    refine zx_aload_n rfl rfl rfl ?_
    refine zx_bipush (v := 12) rfl rfl rfl ?_
    replace hF := zgd_some hF
    obtain ⟨g66, hF⟩ := hF
    replace hF := zbnd hF
    obtain ⟨p68, e67, hF⟩ := hF
    refine zx_callE rfl rfl rfl rfl (zrcv_isO g66) rfl rfl (zc4 (Nat.le_of_ble_eq_true rfl)) (t215 (by omega) e67 (zaI ?_))
    refine zx_istore_n rfl rfl rfl ?_
    refine zx_aload_n rfl rfl rfl ?_
    replace hF := zbnd hF
    obtain ⟨x69, e70, hF⟩ := hF
    refine zy_getI rfl rfl e70 ?_
    refine zx_iconst (v := (-1)) rfl rfl rfl ?_
    refine zx_ic_ne rfl rfl (fun c71 => ?_) (fun c71 => ?_)
    · rw [if_neg c71] at hF
      exact tb212_34 (l0 := y0) (l1 := p68.1) hd  rfl rfl hF q
    · rw [if_pos c71] at hF
      refine zx_aload_n rfl rfl rfl ?_
      refine zx_iload_n rfl rfl rfl ?_
      replace hF := zgd_some hF
      obtain ⟨g72, hF⟩ := hF
      replace hF := zbnd hF
      obtain ⟨p74, e73, hF⟩ := hF
      refine zx_callE rfl rfl rfl rfl (zrcv_isO g72) rfl rfl (zc4 (Nat.le_of_ble_eq_true rfl)) (t211 (by omega) e73 (zaV ?_))
      exact tb212_34 (l0 := y0) (l1 := p68.1) hd  rfl rfl hF q
def b224_36 (n : Nat)   (l0 : Nat) (l1 : Int32) (l2 : Int32) (h : zH) : Option (Int32 × zH) :=
  (gR h l0 11 80).bind fun x1 =>
  x1.bind fun a3 =>
  (aS zsI h a3 l1 (.int (-1))).bind fun h4 =>
  (gR h4 l0 11 81).bind fun x6 =>
  x6.bind fun a8 =>
  (aS zsI h4 a8 l1 (.int (-1))).bind fun h9 =>
  some (l2, h9)
set_option maxRecDepth 20000 in
theorem tb224_36 {d n : Nat} {Q : zRs → zH → Prop}   {l0 : Nat} {l1 : Int32} {l2 : Int32}   (hd : 1 ≤ d)   {h : zH} {p : (Int32 × zH)}  (hF : b224_36 n   l0 l1 l2 h = some p) (q : Q (eI p.1) p.2) : zW d 224 36 [some (.ref l0), some (.int l1), some (.int l2)] [] h Q := by
  unfold b224_36 at hF
  obtain ⟨d, rfl⟩ : ∃ e, d = e + 1 := ⟨d - 1, by omega⟩
  refine zx_aload_n rfl rfl rfl ?_
  replace hF := zbnd hF
  obtain ⟨x1, e2, hF⟩ := hF
  refine zy_getR rfl rfl e2 ?_
  refine zx_iload_n rfl rfl rfl ?_
  refine zx_iconst (v := (-1)) rfl rfl rfl ?_
  replace hF := zbnd hF
  obtain ⟨a3, rfl, hF⟩ := hF
  replace hF := zbnd hF
  obtain ⟨h4, e5, hF⟩ := hF
  refine zy_sI rfl rfl e5 ?_
  refine zx_aload_n rfl rfl rfl ?_
  replace hF := zbnd hF
  obtain ⟨x6, e7, hF⟩ := hF
  refine zy_getR rfl rfl e7 ?_
  refine zx_iload_n rfl rfl rfl ?_
  refine zx_iconst (v := (-1)) rfl rfl rfl ?_
  replace hF := zbnd hF
  obtain ⟨a8, rfl, hF⟩ := hF
  replace hF := zbnd hF
  obtain ⟨h9, e10, hF⟩ := hF
  refine zy_sI rfl rfl e10 ?_
  refine zx_iload_n rfl rfl rfl ?_
  replace hF := Option.some.inj hF
  subst hF
  exact zx_bret rfl rfl rfl rfl q
def f224 (n : Nat)  (y0 : Nat) (h : zH) : Option (Int32 × zH) :=
  (gI h y0 11 75).bind fun x1 =>
  (gR h y0 11 81).bind fun x3 =>
  x3.bind fun a5 =>
  (aI h a5 (x1 - 1)).bind fun x6 =>
  (gR h y0 11 80).bind fun x8 =>
  x8.bind fun a10 =>
  (aI h a10 (x1 - 1)).bind fun x11 =>
  if x11 = (-1) then
    b224_36 n  y0 (x1 - 1) x6 h
  else
    (gR h y0 11 80).bind fun x14 =>
    x14.bind fun a16 =>
    (aI h a16 (x1 - 1)).bind fun x17 =>
    zgd (isO h y0 11) <|
    (f221 n y0 x17 h).bind fun p21 =>
    b224_36 n  y0 (x1 - 1) x17 p21.2
set_option maxRecDepth 20000 in
theorem t224 {d n : Nat} {Q : zRs → zH → Prop}  {y0 : Nat} (hd : 1 ≤ d)  {h : zH} {p : (Int32 × zH)} (hF : f224 n  y0 h = some p) (q : Q (eI p.1) p.2) : zC d 224 [.ref y0] h Q := by
  refine zC_of (L := [some (.ref y0), none, none]) rfl rfl ?_
  unfold f224 at hF
  obtain ⟨d, rfl⟩ : ∃ e, d = e + 1 := ⟨d - 1, by omega⟩
  refine zx_aload_n rfl rfl rfl ?_
  replace hF := zbnd hF
  obtain ⟨x1, e2, hF⟩ := hF
  refine zy_getI rfl rfl e2 ?_
  refine zx_iconst (v := 1) rfl rfl rfl ?_
  refine zx_isub rfl rfl ?_
  refine zx_istore_n rfl rfl rfl ?_
  refine zx_aload_n rfl rfl rfl ?_
  replace hF := zbnd hF
  obtain ⟨x3, e4, hF⟩ := hF
  refine zy_getR rfl rfl e4 ?_
  refine zx_iload_n rfl rfl rfl ?_
  replace hF := zbnd hF
  obtain ⟨a5, rfl, hF⟩ := hF
  replace hF := zbnd hF
  obtain ⟨x6, e7, hF⟩ := hF
  refine zy_aI rfl rfl e7 ?_
  refine zx_istore_n rfl rfl rfl ?_
  refine zx_aload_n rfl rfl rfl ?_
  replace hF := zbnd hF
  obtain ⟨x8, e9, hF⟩ := hF
  refine zy_getR rfl rfl e9 ?_
  refine zx_iload_n rfl rfl rfl ?_
  replace hF := zbnd hF
  obtain ⟨a10, rfl, hF⟩ := hF
  replace hF := zbnd hF
  obtain ⟨x11, e12, hF⟩ := hF
  refine zy_aI rfl rfl e12 ?_
  refine zx_iconst (v := (-1)) rfl rfl rfl ?_
  refine zx_ic_eq rfl rfl (fun c13 => ?_) (fun c13 => ?_)
  · rw [if_pos c13] at hF
    exact tb224_36 (l0 := y0) (l1 := (x1 - 1)) (l2 := x6) hd   hF q
  · rw [if_neg c13] at hF
    refine zx_aload_n rfl rfl rfl ?_
    replace hF := zbnd hF
    obtain ⟨x14, e15, hF⟩ := hF
    refine zy_getR rfl rfl e15 ?_
    refine zx_iload_n rfl rfl rfl ?_
    replace hF := zbnd hF
    obtain ⟨a16, rfl, hF⟩ := hF
    replace hF := zbnd hF
    obtain ⟨x17, e18, hF⟩ := hF
    refine zy_aI rfl rfl e18 ?_
    refine zx_istore_n rfl rfl rfl ?_
    refine zx_aload_n rfl rfl rfl ?_
    refine zx_iload_n rfl rfl rfl ?_
    replace hF := zgd_some hF
    obtain ⟨g19, hF⟩ := hF
    replace hF := zbnd hF
    obtain ⟨p21, e20, hF⟩ := hF
    refine zx_callE rfl rfl rfl rfl (zrcv_isO g19) rfl rfl (zc4 (Nat.le_of_ble_eq_true rfl)) (t221 (by omega) e20 (zaV ?_))
    exact tb224_36 (l0 := y0) (l1 := (x1 - 1)) (l2 := x17) hd   hF q
def b223_19 (n : Nat)   (l0 : Nat) (l1 : Int32) (l2 : Int32) (s0 : Int32) (s1 : Nat) (h : zH) : Option (Unit × zH) :=
  zgd (isO h s1 11) <|
  (f215 n s1 s0 h).bind fun p3 =>
  (gI p3.2 l0 11 73).bind fun x4 =>
  if x4 = (-1) then
    if l1 = 0 then
      (gR p3.2 l0 11 81).bind fun x8 =>
      x8.bind fun a10 =>
      (aI p3.2 a10 l2).bind fun x11 =>
      zgd (isO p3.2 l0 11) <|
      (f220 n l0 p3.1 (-1) x11 p3.2).bind fun p15 =>
      (gR p15.2 l0 11 80).bind fun x16 =>
      x16.bind fun a18 =>
      (aS zsI p15.2 a18 l2 (.int p3.1)).bind fun h19 =>
      some ((), h19)
    else
      zgd (isO p3.2 l0 11) <|
      (f224 n l0 p3.2).bind fun p23 =>
      zgd (isO p23.2 l0 11) <|
      (f220 n l0 p3.1 (-1) p23.1 p23.2).bind fun p26 =>
      (gR p26.2 l0 11 78).bind fun x27 =>
      x27.bind fun a29 =>
      (aS zsI p26.2 a29 l2 (.int p3.1)).bind fun h30 =>
      (gR h30 l0 11 79).bind fun x32 =>
      x32.bind fun a34 =>
      (aS zsI h30 a34 l2 (.int p23.1)).bind fun h35 =>
      some ((), h35)
  else
    some ((), p3.2)
set_option maxRecDepth 20000 in
theorem tb223_19 {d n : Nat} {Q : zRs → zH → Prop}   {l0 : Nat} {l1 : Int32} {l2 : Int32} {s0 : Int32} {s1 : Nat} {x3 : Option Value} {x4 : Option Value} (hd : 3 ≤ d)   {h : zH} {p : (Unit × zH)} (hx3 : zn2 x3 = true) (hx4 : zn2 x4 = true) (hF : b223_19 n   l0 l1 l2 s0 s1 h = some p) (q : Q (eV p.1) p.2) : zW d 223 19 [some (.ref l0), some (.int l1), some (.int l2), x3, x4] [.int s0, .ref s1] h Q := by
  unfold b223_19 at hF
  obtain ⟨d, rfl⟩ : ∃ e, d = e + 1 := ⟨d - 1, by omega⟩
  replace hF := zgd_some hF
  obtain ⟨g1, hF⟩ := hF
  replace hF := zbnd hF
  obtain ⟨p3, e2, hF⟩ := hF
  refine zx_callE rfl rfl rfl rfl (zrcv_isO g1) rfl rfl (zc4 (Nat.le_of_ble_eq_true rfl)) (t215 (by omega) e2 (zaI ?_))
  refine zx_istore_n rfl rfl rfl ?_
  refine zx_aload_n rfl rfl rfl ?_
  replace hF := zbnd hF
  obtain ⟨x4, e5, hF⟩ := hF
  refine zy_getI rfl rfl e5 ?_
  refine zx_iconst (v := (-1)) rfl rfl rfl ?_
  refine zx_ic_eq rfl rfl (fun c6 => ?_) (fun c6 => ?_)
  · rw [if_pos c6] at hF
    refine zx_iload_n rfl rfl rfl ?_
    refine zx_if_eq rfl rfl (fun c7 => ?_) (fun c7 => ?_)
    · rw [if_pos c7] at hF
      refine zx_aload_n rfl rfl rfl ?_
      refine zx_iload_n rfl rfl rfl ?_
      refine zx_iconst (v := (-1)) rfl rfl rfl ?_
      refine zx_aload_n rfl rfl rfl ?_
      replace hF := zbnd hF
      obtain ⟨x8, e9, hF⟩ := hF
      refine zy_getR rfl rfl e9 ?_
      refine zx_iload_n rfl rfl rfl ?_
      replace hF := zbnd hF
      obtain ⟨a10, rfl, hF⟩ := hF
      replace hF := zbnd hF
      obtain ⟨x11, e12, hF⟩ := hF
      refine zy_aI rfl rfl e12 ?_
      replace hF := zgd_some hF
      obtain ⟨g13, hF⟩ := hF
      replace hF := zbnd hF
      obtain ⟨p15, e14, hF⟩ := hF
      refine zx_callE rfl rfl rfl rfl (zrcv_isO g13) rfl rfl (zc4 (Nat.le_of_ble_eq_true rfl)) (t220 (by omega) e14 (zaV ?_))
      refine zx_aload_n rfl rfl rfl ?_
      replace hF := zbnd hF
      obtain ⟨x16, e17, hF⟩ := hF
      refine zy_getR rfl rfl e17 ?_
      refine zx_iload_n rfl rfl rfl ?_
      refine zx_iload_n rfl rfl rfl ?_
      replace hF := zbnd hF
      obtain ⟨a18, rfl, hF⟩ := hF
      replace hF := zbnd hF
      obtain ⟨h19, e20, hF⟩ := hF
      refine zy_sI rfl rfl e20 ?_
      replace hF := Option.some.inj hF
      subst hF
      exact zx_return rfl rfl rfl q
    · rw [if_neg c7] at hF
      refine zx_aload_n rfl rfl rfl ?_
      replace hF := zgd_some hF
      obtain ⟨g21, hF⟩ := hF
      replace hF := zbnd hF
      obtain ⟨p23, e22, hF⟩ := hF
      refine zx_callE rfl rfl rfl rfl (zrcv_isO g21) rfl rfl (zc4 (Nat.le_of_ble_eq_true rfl)) (t224 (by omega) e22 (zaI ?_))
      refine zx_istore rfl rfl rfl ?_
      refine zx_aload_n rfl rfl rfl ?_
      refine zx_iload_n rfl rfl rfl ?_
      refine zx_iconst (v := (-1)) rfl rfl rfl ?_
      refine zx_iload rfl rfl rfl ?_
      replace hF := zgd_some hF
      obtain ⟨g24, hF⟩ := hF
      replace hF := zbnd hF
      obtain ⟨p26, e25, hF⟩ := hF
      refine zx_callE rfl rfl rfl rfl (zrcv_isO g24) rfl rfl (zc4 (Nat.le_of_ble_eq_true rfl)) (t220 (by omega) e25 (zaV ?_))
      refine zx_aload_n rfl rfl rfl ?_
      replace hF := zbnd hF
      obtain ⟨x27, e28, hF⟩ := hF
      refine zy_getR rfl rfl e28 ?_
      refine zx_iload_n rfl rfl rfl ?_
      refine zx_iload_n rfl rfl rfl ?_
      replace hF := zbnd hF
      obtain ⟨a29, rfl, hF⟩ := hF
      replace hF := zbnd hF
      obtain ⟨h30, e31, hF⟩ := hF
      refine zy_sI rfl rfl e31 ?_
      refine zx_aload_n rfl rfl rfl ?_
      replace hF := zbnd hF
      obtain ⟨x32, e33, hF⟩ := hF
      refine zy_getR rfl rfl e33 ?_
      refine zx_iload_n rfl rfl rfl ?_
      refine zx_iload rfl rfl rfl ?_
      replace hF := zbnd hF
      obtain ⟨a34, rfl, hF⟩ := hF
      replace hF := zbnd hF
      obtain ⟨h35, e36, hF⟩ := hF
      refine zy_sI rfl rfl e36 ?_
      refine zx_goto rfl rfl ?_
      replace hF := Option.some.inj hF
      subst hF
      exact zx_return rfl rfl rfl q
  · rw [if_neg c6] at hF
    replace hF := Option.some.inj hF
    subst hF
    exact zx_return rfl rfl rfl q
def f223 (n : Nat)  (y0 : Nat) (y1 : Int32) (h : zH) : Option (Unit × zH) :=
  (gI h y0 11 75).bind fun x1 =>
  if y1 = 0 then
    b223_19 n  y0 y1 (x1 - 1) 14 y0 h
  else
    b223_19 n  y0 y1 (x1 - 1) 13 y0 h
set_option maxRecDepth 20000 in
theorem t223 {d n : Nat} {Q : zRs → zH → Prop}  {y0 : Nat} {y1 : Int32} (hd : 3 ≤ d)  {h : zH} {p : (Unit × zH)} (hF : f223 n  y0 y1 h = some p) (q : Q (eV p.1) p.2) : zC d 223 [.ref y0, .int y1] h Q := by
  refine zC_of (L := [some (.ref y0), some (.int y1), none, none, none]) rfl rfl ?_
  unfold f223 at hF
  obtain ⟨d, rfl⟩ : ∃ e, d = e + 1 := ⟨d - 1, by omega⟩
  refine zx_aload_n rfl rfl rfl ?_
  replace hF := zbnd hF
  obtain ⟨x1, e2, hF⟩ := hF
  refine zy_getI rfl rfl e2 ?_
  refine zx_iconst (v := 1) rfl rfl rfl ?_
  refine zx_isub rfl rfl ?_
  refine zx_istore_n rfl rfl rfl ?_
  refine zx_aload_n rfl rfl rfl ?_
  refine zx_iload_n rfl rfl rfl ?_
  refine zx_if_eq rfl rfl (fun c3 => ?_) (fun c3 => ?_)
  · rw [if_pos c3] at hF
    refine zx_bipush (v := 14) rfl rfl rfl ?_
    exact tb223_19 (l0 := y0) (l1 := y1) (l2 := (x1 - 1)) (s0 := 14) (s1 := y0) hd  rfl rfl hF q
  · rw [if_neg c3] at hF
    refine zx_bipush (v := 13) rfl rfl rfl ?_
    refine zx_goto rfl rfl ?_
    exact tb223_19 (l0 := y0) (l1 := y1) (l2 := (x1 - 1)) (s0 := 13) (s1 := y0) hd  rfl rfl hF q
def f225 (n : Nat)  (y0 : Nat) (h : zH) : Option (Int32 × zH) :=
  (gI h y0 11 75).bind fun x1 =>
  zgd (isO h y0 11) <|
  (f224 n y0 h).bind fun p5 =>
  (gR p5.2 y0 11 78).bind fun x6 =>
  x6.bind fun a8 =>
  (aI p5.2 a8 (x1 - 1)).bind fun x9 =>
  if x9 = (-1) then
    some (p5.1, p5.2)
  else
    (gR p5.2 y0 11 78).bind fun x12 =>
    x12.bind fun a14 =>
    (aI p5.2 a14 (x1 - 1)).bind fun x15 =>
    (gR p5.2 y0 11 79).bind fun x17 =>
    x17.bind fun a19 =>
    (aI p5.2 a19 (x1 - 1)).bind fun x20 =>
    zgd (isO p5.2 y0 11) <|
    (f220 n y0 x15 x20 p5.1 p5.2).bind fun p24 =>
    (gR p24.2 y0 11 78).bind fun x25 =>
    x25.bind fun a27 =>
    (aI p24.2 a27 (x1 - 1)).bind fun x28 =>
    zgd (isO p24.2 y0 11) <|
    (f221 n y0 x28 p24.2).bind fun p32 =>
    some (x28, p32.2)
set_option maxRecDepth 20000 in
theorem t225 {d n : Nat} {Q : zRs → zH → Prop}  {y0 : Nat} (hd : 2 ≤ d)  {h : zH} {p : (Int32 × zH)} (hF : f225 n  y0 h = some p) (q : Q (eI p.1) p.2) : zC d 225 [.ref y0] h Q := by
  refine zC_of (L := [some (.ref y0), none, none]) rfl rfl ?_
  unfold f225 at hF
  obtain ⟨d, rfl⟩ : ∃ e, d = e + 1 := ⟨d - 1, by omega⟩
  refine zx_aload_n rfl rfl rfl ?_
  replace hF := zbnd hF
  obtain ⟨x1, e2, hF⟩ := hF
  refine zy_getI rfl rfl e2 ?_
  refine zx_iconst (v := 1) rfl rfl rfl ?_
  refine zx_isub rfl rfl ?_
  refine zx_istore_n rfl rfl rfl ?_
  refine zx_aload_n rfl rfl rfl ?_
  replace hF := zgd_some hF
  obtain ⟨g3, hF⟩ := hF
  replace hF := zbnd hF
  obtain ⟨p5, e4, hF⟩ := hF
  refine zx_callE rfl rfl rfl rfl (zrcv_isO g3) rfl rfl (zc4 (Nat.le_of_ble_eq_true rfl)) (t224 (by omega) e4 (zaI ?_))
  refine zx_istore_n rfl rfl rfl ?_
  refine zx_aload_n rfl rfl rfl ?_
  replace hF := zbnd hF
  obtain ⟨x6, e7, hF⟩ := hF
  refine zy_getR rfl rfl e7 ?_
  refine zx_iload_n rfl rfl rfl ?_
  replace hF := zbnd hF
  obtain ⟨a8, rfl, hF⟩ := hF
  replace hF := zbnd hF
  obtain ⟨x9, e10, hF⟩ := hF
  refine zy_aI rfl rfl e10 ?_
  refine zx_iconst (v := (-1)) rfl rfl rfl ?_
  refine zx_ic_eq rfl rfl (fun c11 => ?_) (fun c11 => ?_)
  · rw [if_pos c11] at hF
    refine zx_iload_n rfl rfl rfl ?_
    replace hF := Option.some.inj hF
    subst hF
    exact zx_bret rfl rfl rfl rfl q
  · rw [if_neg c11] at hF
    refine zx_aload_n rfl rfl rfl ?_
    refine zx_aload_n rfl rfl rfl ?_
    replace hF := zbnd hF
    obtain ⟨x12, e13, hF⟩ := hF
    refine zy_getR rfl rfl e13 ?_
    refine zx_iload_n rfl rfl rfl ?_
    replace hF := zbnd hF
    obtain ⟨a14, rfl, hF⟩ := hF
    replace hF := zbnd hF
    obtain ⟨x15, e16, hF⟩ := hF
    refine zy_aI rfl rfl e16 ?_
    refine zx_aload_n rfl rfl rfl ?_
    replace hF := zbnd hF
    obtain ⟨x17, e18, hF⟩ := hF
    refine zy_getR rfl rfl e18 ?_
    refine zx_iload_n rfl rfl rfl ?_
    replace hF := zbnd hF
    obtain ⟨a19, rfl, hF⟩ := hF
    replace hF := zbnd hF
    obtain ⟨x20, e21, hF⟩ := hF
    refine zy_aI rfl rfl e21 ?_
    refine zx_iload_n rfl rfl rfl ?_
    replace hF := zgd_some hF
    obtain ⟨g22, hF⟩ := hF
    replace hF := zbnd hF
    obtain ⟨p24, e23, hF⟩ := hF
    refine zx_callE rfl rfl rfl rfl (zrcv_isO g22) rfl rfl (zc4 (Nat.le_of_ble_eq_true rfl)) (t220 (by omega) e23 (zaV ?_))
    refine zx_aload_n rfl rfl rfl ?_
    replace hF := zbnd hF
    obtain ⟨x25, e26, hF⟩ := hF
    refine zy_getR rfl rfl e26 ?_
    refine zx_iload_n rfl rfl rfl ?_
    replace hF := zbnd hF
    obtain ⟨a27, rfl, hF⟩ := hF
    replace hF := zbnd hF
    obtain ⟨x28, e29, hF⟩ := hF
    refine zy_aI rfl rfl e29 ?_
    refine zx_istore_n rfl rfl rfl ?_
    refine zx_aload_n rfl rfl rfl ?_
    refine zx_iload_n rfl rfl rfl ?_
    replace hF := zgd_some hF
    obtain ⟨g30, hF⟩ := hF
    replace hF := zbnd hF
    obtain ⟨p32, e31, hF⟩ := hF
    refine zx_callE rfl rfl rfl rfl (zrcv_isO g30) rfl rfl (zc4 (Nat.le_of_ble_eq_true rfl)) (t221 (by omega) e31 (zaV ?_))
    refine zx_iload_n rfl rfl rfl ?_
    replace hF := Option.some.inj hF
    subst hF
    exact zx_bret rfl rfl rfl rfl q
def b210_212 (n : Nat)  (r17 : Nat → Int32 → zH → Option (Int32 × zH)) (l0 : Nat) (l1 : Int32) (l2 : Int32) (h : zH) : Option (Int32 × zH) :=
  r17 l0 l1 h
set_option maxRecDepth 20000 in
theorem tb210_212 {d n : Nat} {Q : zRs → zH → Prop}  {r17 : Nat → Int32 → zH → Option (Int32 × zH)} {l0 : Nat} {l1 : Int32} {l2 : Int32}  {x3 : Option Value} (hd : 9 ≤ d)  (hr17 : ∀ {l0 : Nat} {l1 : Int32}  {x2 : Option Value} {x3 : Option Value} {h : zH} {p : (Int32 × zH)}, zn2 x2 = true → zn2 x3 = true → r17 l0 l1 h = some p → Q (eI p.1) p.2 → zW d 210 17 [some (.ref l0), some (.int l1), x2, x3] [] h Q) {h : zH} {p : (Int32 × zH)} (hx3 : zn2 x3 = true) (hF : b210_212 n  r17 l0 l1 l2 h = some p) (q : Q (eI p.1) p.2) : zW d 210 212 [some (.ref l0), some (.int l1), some (.int l2), x3] [] h Q := by
  unfold b210_212 at hF
  obtain ⟨d, rfl⟩ : ∃ e, d = e + 1 := ⟨d - 1, by omega⟩
  refine zx_goto rfl rfl ?_
  exact hr17 rfl hx3 hF q
def b210_135 (n : Nat)  (r17 : Nat → Int32 → zH → Option (Int32 × zH)) (l0 : Nat) (l1 : Int32) (l2 : Int32) (h : zH) : Option (Int32 × zH) :=
  zgd (isO h l0 11) <|
  (f190 n l0 h).bind fun p3 =>
  b210_212 n r17 l0 1 l2 p3.2
set_option maxRecDepth 20000 in
theorem tb210_135 {d n : Nat} {Q : zRs → zH → Prop}  {r17 : Nat → Int32 → zH → Option (Int32 × zH)} {l0 : Nat} {l1 : Int32} {l2 : Int32}  {x3 : Option Value} (hd : 9 ≤ d)  (hr17 : ∀ {l0 : Nat} {l1 : Int32}  {x2 : Option Value} {x3 : Option Value} {h : zH} {p : (Int32 × zH)}, zn2 x2 = true → zn2 x3 = true → r17 l0 l1 h = some p → Q (eI p.1) p.2 → zW d 210 17 [some (.ref l0), some (.int l1), x2, x3] [] h Q) {h : zH} {p : (Int32 × zH)} (hx3 : zn2 x3 = true) (hF : b210_135 n  r17 l0 l1 l2 h = some p) (q : Q (eI p.1) p.2) : zW d 210 135 [some (.ref l0), some (.int l1), some (.int l2), x3] [] h Q := by
  unfold b210_135 at hF
  obtain ⟨d, rfl⟩ : ∃ e, d = e + 1 := ⟨d - 1, by omega⟩
  refine zx_aload_n rfl rfl rfl ?_
  replace hF := zgd_some hF
  obtain ⟨g1, hF⟩ := hF
  replace hF := zbnd hF
  obtain ⟨p3, e2, hF⟩ := hF
  refine zx_callE rfl rfl rfl rfl (zrcv_isO g1) rfl rfl (zc4 (Nat.le_of_ble_eq_true rfl)) (t190 (by omega) e2 (zaV ?_))
  refine zx_iconst (v := 1) rfl rfl rfl ?_
  refine zx_istore_n rfl rfl rfl ?_
  refine zx_goto rfl rfl ?_
  exact tb210_212 (l0 := l0) (l1 := 1) (l2 := l2) hd hr17 hx3 hF q
def b210_69 (n : Nat)  (r17 : Nat → Int32 → zH → Option (Int32 × zH)) (l0 : Nat) (l1 : Int32) (l2 : Int32) (h : zH) : Option (Int32 × zH) :=
  zgd (isO h l0 11) <|
  (f190 n l0 h).bind fun p3 =>
  b210_212 n r17 l0 1 l2 p3.2
set_option maxRecDepth 20000 in
theorem tb210_69 {d n : Nat} {Q : zRs → zH → Prop}  {r17 : Nat → Int32 → zH → Option (Int32 × zH)} {l0 : Nat} {l1 : Int32} {l2 : Int32}  {x3 : Option Value} (hd : 9 ≤ d)  (hr17 : ∀ {l0 : Nat} {l1 : Int32}  {x2 : Option Value} {x3 : Option Value} {h : zH} {p : (Int32 × zH)}, zn2 x2 = true → zn2 x3 = true → r17 l0 l1 h = some p → Q (eI p.1) p.2 → zW d 210 17 [some (.ref l0), some (.int l1), x2, x3] [] h Q) {h : zH} {p : (Int32 × zH)} (hx3 : zn2 x3 = true) (hF : b210_69 n  r17 l0 l1 l2 h = some p) (q : Q (eI p.1) p.2) : zW d 210 69 [some (.ref l0), some (.int l1), some (.int l2), x3] [] h Q := by
  unfold b210_69 at hF
  obtain ⟨d, rfl⟩ : ∃ e, d = e + 1 := ⟨d - 1, by omega⟩
  refine zx_aload_n rfl rfl rfl ?_
  replace hF := zgd_some hF
  obtain ⟨g1, hF⟩ := hF
  replace hF := zbnd hF
  obtain ⟨p3, e2, hF⟩ := hF
  refine zx_callE rfl rfl rfl rfl (zrcv_isO g1) rfl rfl (zc4 (Nat.le_of_ble_eq_true rfl)) (t190 (by omega) e2 (zaV ?_))
  refine zx_iconst (v := 1) rfl rfl rfl ?_
  refine zx_istore_n rfl rfl rfl ?_
  refine zx_goto rfl rfl ?_
  exact tb210_212 (l0 := l0) (l1 := 1) (l2 := l2) hd hr17 hx3 hF q
def b210_17 (n : Nat)  (r17 : Nat → Int32 → zH → Option (Int32 × zH)) (l0 : Nat) (l1 : Int32) (h : zH) : Option (Int32 × zH) :=
  (gI h l0 11 73).bind fun x1 =>
  if x1 = (-1) then
    (gI h l0 11 75).bind fun x4 =>
    if l1 = 0 then
      zgd (isO h l0 11) <|
      (f213 n l0 (some 57) h).bind fun p9 =>
      if p9.1 = 0 then
        zgd (isO p9.2 l0 11) <|
        (f213 n l0 (some 59) p9.2).bind fun p13 =>
        if p13.1 = 0 then
          (gI p13.2 l0 11 75).bind fun x15 =>
          if x15 ≤ 1 then
            zgd (isO p13.2 l0 11) <|
            (f225 n l0 p13.2).bind fun p20 =>
            some (p20.1, p20.2)
          else
            zgd (isO p13.2 l0 11) <|
            (f209 n l0 41 p13.2).bind fun p23 =>
            zgd (isO p23.2 l0 11) <|
            (f200 n l0 p23.1 p23.2).bind fun p26 =>
            (gI p26.2 l0 11 73).bind fun x27 =>
            if x27 = (-1) then
              zgd (isO p26.2 l0 11) <|
              (f225 n l0 p26.2).bind fun p32 =>
              (gI p32.2 l0 11 75).bind fun x33 =>
              (pF p32.2 l0 11 75 (.int (x33 - 1))).bind fun h35 =>
              (gI h35 l0 11 76).bind fun x37 =>
              (pF h35 l0 11 76 (.int (x37 - 1))).bind fun h39 =>
              zgd (isO h39 l0 11) <|
              (f222 n l0 p32.1 h39).bind fun p43 =>
              zgd (isO p43.2 l0 11) <|
              (f190 n l0 p43.2).bind fun p46 =>
              b210_212 n r17 l0 l1 (x4 - 1) p46.2
            else
              b210_212 n r17 l0 l1 (x4 - 1) p26.2
        else
          (gR p13.2 l0 11 78).bind fun x47 =>
          x47.bind fun a49 =>
          (aI p13.2 a49 (x4 - 1)).bind fun x50 =>
          if x50 = (-1) then
            zgd (isO p13.2 l0 11) <|
            (f223 n l0 1 p13.2).bind fun p55 =>
            b210_135 n r17 l0 l1 (x4 - 1) p55.2
          else
            zgd (isO p13.2 l0 11) <|
            (f224 n l0 p13.2).bind fun p58 =>
            (gR p58.2 l0 11 78).bind fun x59 =>
            x59.bind fun a61 =>
            (aI p58.2 a61 (x4 - 1)).bind fun x62 =>
            (gR p58.2 l0 11 79).bind fun x64 =>
            x64.bind fun a66 =>
            (aI p58.2 a66 (x4 - 1)).bind fun x67 =>
            zgd (isO p58.2 l0 11) <|
            (f220 n l0 x62 x67 p58.1 p58.2).bind fun p71 =>
            (gR p71.2 l0 11 79).bind fun x72 =>
            x72.bind fun a74 =>
            (aS zsI p71.2 a74 (x4 - 1) (.int p58.1)).bind fun h75 =>
            b210_135 n r17 l0 l1 (x4 - 1) h75
      else
        (gR p9.2 l0 11 80).bind fun x77 =>
        x77.bind fun a79 =>
        (aI p9.2 a79 (x4 - 1)).bind fun x80 =>
        if x80 = (-1) then
          zgd (isO p9.2 l0 11) <|
          (f223 n l0 0 p9.2).bind fun p85 =>
          b210_69 n r17 l0 l1 (x4 - 1) p85.2
        else
          b210_69 n r17 l0 l1 (x4 - 1) p9.2
    else
      zgd (isO h l0 11) <|
      (f212 n l0 h).bind fun p88 =>
      b210_212 n r17 l0 p88.1 (x4 - 1) p88.2
  else
    some ((-1), h)
set_option maxRecDepth 20000 in
theorem tb210_17 {d n : Nat} {Q : zRs → zH → Prop}  {r17 : Nat → Int32 → zH → Option (Int32 × zH)} {l0 : Nat} {l1 : Int32}  {x2 : Option Value} {x3 : Option Value} (hd : 9 ≤ d)  (hr17 : ∀ {l0 : Nat} {l1 : Int32}  {x2 : Option Value} {x3 : Option Value} {h : zH} {p : (Int32 × zH)}, zn2 x2 = true → zn2 x3 = true → r17 l0 l1 h = some p → Q (eI p.1) p.2 → zW d 210 17 [some (.ref l0), some (.int l1), x2, x3] [] h Q) {h : zH} {p : (Int32 × zH)} (hx2 : zn2 x2 = true) (hx3 : zn2 x3 = true) (hF : b210_17 n  r17 l0 l1 h = some p) (q : Q (eI p.1) p.2) : zW d 210 17 [some (.ref l0), some (.int l1), x2, x3] [] h Q := by
  unfold b210_17 at hF
  obtain ⟨d, rfl⟩ : ∃ e, d = e + 1 := ⟨d - 1, by omega⟩
  refine zx_aload_n rfl rfl rfl ?_
  replace hF := zbnd hF
  obtain ⟨x1, e2, hF⟩ := hF
  refine zy_getI rfl rfl e2 ?_
  refine zx_iconst (v := (-1)) rfl rfl rfl ?_
  refine zx_ic_ne rfl rfl (fun c3 => ?_) (fun c3 => ?_)
  · rw [if_neg c3] at hF
    refine zx_iconst (v := (-1)) rfl rfl rfl ?_
    replace hF := Option.some.inj hF
    subst hF
    exact zx_bret rfl rfl rfl rfl q
  · rw [if_pos c3] at hF
    refine zx_aload_n rfl rfl rfl ?_
    replace hF := zbnd hF
    obtain ⟨x4, e5, hF⟩ := hF
    refine zy_getI rfl rfl e5 ?_
    refine zx_iconst (v := 1) rfl rfl rfl ?_
    refine zx_isub rfl rfl ?_
    refine zx_istore_n rfl rfl rfl ?_
    refine zx_iload_n rfl rfl rfl ?_
    refine zx_if_eq rfl rfl (fun c6 => ?_) (fun c6 => ?_)
    · rw [if_pos c6] at hF
      refine zx_aload_n rfl rfl rfl ?_
      refine zx_ldcw rfl rfl rfl ?_
      replace hF := zgd_some hF
      obtain ⟨g7, hF⟩ := hF
      replace hF := zbnd hF
      obtain ⟨p9, e8, hF⟩ := hF
      refine zx_callE rfl rfl rfl rfl (zrcv_isO g7) rfl rfl (zc4 (Nat.le_of_ble_eq_true rfl)) (t213 (by omega) e8 (zaI ?_))
      refine zx_if_eq rfl rfl (fun c10 => ?_) (fun c10 => ?_)
      · rw [if_pos c10] at hF
        refine zx_aload_n rfl rfl rfl ?_
        refine zx_ldcw rfl rfl rfl ?_
        replace hF := zgd_some hF
        obtain ⟨g11, hF⟩ := hF
        replace hF := zbnd hF
        obtain ⟨p13, e12, hF⟩ := hF
        refine zx_callE rfl rfl rfl rfl (zrcv_isO g11) rfl rfl (zc4 (Nat.le_of_ble_eq_true rfl)) (t213 (by omega) e12 (zaI ?_))
        refine zx_if_eq rfl rfl (fun c14 => ?_) (fun c14 => ?_)
        · rw [if_pos c14] at hF
          refine zx_aload_n rfl rfl rfl ?_
          replace hF := zbnd hF
          obtain ⟨x15, e16, hF⟩ := hF
          refine zy_getI rfl rfl e16 ?_
          refine zx_iconst (v := 1) rfl rfl rfl ?_
          refine zx_ic_le rfl rfl (fun c17 => ?_) (fun c17 => ?_)
          · rw [if_pos c17] at hF
            refine zx_aload_n rfl rfl rfl ?_
            replace hF := zgd_some hF
            obtain ⟨g18, hF⟩ := hF
            replace hF := zbnd hF
            obtain ⟨p20, e19, hF⟩ := hF
            refine zx_callE rfl rfl rfl rfl (zrcv_isO g18) rfl rfl (zc4 (Nat.le_of_ble_eq_true rfl)) (t225 (by omega) e19 (zaI ?_))
            replace hF := Option.some.inj hF
            subst hF
            exact zx_bret rfl rfl rfl rfl q
          · rw [if_neg c17] at hF
            refine zx_aload_n rfl rfl rfl ?_
            refine zx_aload_n rfl rfl rfl ?_
            refine zx_bipush (v := 41) rfl rfl rfl ?_
            replace hF := zgd_some hF
            obtain ⟨g21, hF⟩ := hF
            replace hF := zbnd hF
            obtain ⟨p23, e22, hF⟩ := hF
            refine zx_callE rfl rfl rfl rfl (zrcv_isO g21) rfl rfl (zc4 (Nat.le_of_ble_eq_true rfl)) (t209 (by omega) e22 (zaI ?_))
            replace hF := zgd_some hF
            obtain ⟨g24, hF⟩ := hF
            replace hF := zbnd hF
            obtain ⟨p26, e25, hF⟩ := hF
            refine zx_callE rfl rfl rfl rfl (zrcv_isO g24) rfl rfl (zc4 (Nat.le_of_ble_eq_true rfl)) (t200 (by omega) e25 (zaV ?_))
            refine zx_aload_n rfl rfl rfl ?_
            replace hF := zbnd hF
            obtain ⟨x27, e28, hF⟩ := hF
            refine zy_getI rfl rfl e28 ?_
            refine zx_iconst (v := (-1)) rfl rfl rfl ?_
            refine zx_ic_ne rfl rfl (fun c29 => ?_) (fun c29 => ?_)
            · rw [if_neg c29] at hF
              exact tb210_212 (l0 := l0) (l1 := l1) (l2 := (x4 - 1)) hd hr17 hx3 hF q
            · rw [if_pos c29] at hF
              refine zx_aload_n rfl rfl rfl ?_
              replace hF := zgd_some hF
              obtain ⟨g30, hF⟩ := hF
              replace hF := zbnd hF
              obtain ⟨p32, e31, hF⟩ := hF
              refine zx_callE rfl rfl rfl rfl (zrcv_isO g30) rfl rfl (zc4 (Nat.le_of_ble_eq_true rfl)) (t225 (by omega) e31 (zaI ?_))
              refine zx_istore_n rfl rfl rfl ?_
              refine zx_aload_n rfl rfl rfl ?_
              refine zx_dup rfl rfl rfl ?_
              replace hF := zbnd hF
              obtain ⟨x33, e34, hF⟩ := hF
              refine zy_getI rfl rfl e34 ?_
              refine zx_iconst (v := 1) rfl rfl rfl ?_
              refine zx_isub rfl rfl ?_
              replace hF := zbnd hF
              obtain ⟨h35, e36, hF⟩ := hF
              refine zy_put rfl rfl e36 ?_
              refine zx_aload_n rfl rfl rfl ?_
              refine zx_dup rfl rfl rfl ?_
              replace hF := zbnd hF
              obtain ⟨x37, e38, hF⟩ := hF
              refine zy_getI rfl rfl e38 ?_
              refine zx_iconst (v := 1) rfl rfl rfl ?_
              refine zx_isub rfl rfl ?_
              replace hF := zbnd hF
              obtain ⟨h39, e40, hF⟩ := hF
              refine zy_put rfl rfl e40 ?_
              refine zx_aload_n rfl rfl rfl ?_
              refine zx_iload_n rfl rfl rfl ?_
              replace hF := zgd_some hF
              obtain ⟨g41, hF⟩ := hF
              replace hF := zbnd hF
              obtain ⟨p43, e42, hF⟩ := hF
              refine zx_callE rfl rfl rfl rfl (zrcv_isO g41) rfl rfl (zc4 (Nat.le_of_ble_eq_true rfl)) (t222 (by omega) e42 (zaV ?_))
              refine zx_aload_n rfl rfl rfl ?_
              replace hF := zgd_some hF
              obtain ⟨g44, hF⟩ := hF
              replace hF := zbnd hF
              obtain ⟨p46, e45, hF⟩ := hF
              refine zx_callE rfl rfl rfl rfl (zrcv_isO g44) rfl rfl (zc4 (Nat.le_of_ble_eq_true rfl)) (t190 (by omega) e45 (zaV ?_))
              refine zx_goto rfl rfl ?_
              exact tb210_212 (l0 := l0) (l1 := l1) (l2 := (x4 - 1)) hd hr17 rfl hF q
        · rw [if_neg c14] at hF
          refine zx_aload_n rfl rfl rfl ?_
          replace hF := zbnd hF
          obtain ⟨x47, e48, hF⟩ := hF
          refine zy_getR rfl rfl e48 ?_
          refine zx_iload_n rfl rfl rfl ?_
          replace hF := zbnd hF
          obtain ⟨a49, rfl, hF⟩ := hF
          replace hF := zbnd hF
          obtain ⟨x50, e51, hF⟩ := hF
          refine zy_aI rfl rfl e51 ?_
          refine zx_iconst (v := (-1)) rfl rfl rfl ?_
          refine zx_ic_ne rfl rfl (fun c52 => ?_) (fun c52 => ?_)
          · rw [if_neg c52] at hF
            refine zx_aload_n rfl rfl rfl ?_
            replace hF := zgd_some hF
            obtain ⟨g56, hF⟩ := hF
            replace hF := zbnd hF
            obtain ⟨p58, e57, hF⟩ := hF
            refine zx_callE rfl rfl rfl rfl (zrcv_isO g56) rfl rfl (zc4 (Nat.le_of_ble_eq_true rfl)) (t224 (by omega) e57 (zaI ?_))
            refine zx_istore_n rfl rfl rfl ?_
            refine zx_aload_n rfl rfl rfl ?_
            refine zx_aload_n rfl rfl rfl ?_
            replace hF := zbnd hF
            obtain ⟨x59, e60, hF⟩ := hF
            refine zy_getR rfl rfl e60 ?_
            refine zx_iload_n rfl rfl rfl ?_
            replace hF := zbnd hF
            obtain ⟨a61, rfl, hF⟩ := hF
            replace hF := zbnd hF
            obtain ⟨x62, e63, hF⟩ := hF
            refine zy_aI rfl rfl e63 ?_
            refine zx_aload_n rfl rfl rfl ?_
            replace hF := zbnd hF
            obtain ⟨x64, e65, hF⟩ := hF
            refine zy_getR rfl rfl e65 ?_
            refine zx_iload_n rfl rfl rfl ?_
            replace hF := zbnd hF
            obtain ⟨a66, rfl, hF⟩ := hF
            replace hF := zbnd hF
            obtain ⟨x67, e68, hF⟩ := hF
            refine zy_aI rfl rfl e68 ?_
            refine zx_iload_n rfl rfl rfl ?_
            replace hF := zgd_some hF
            obtain ⟨g69, hF⟩ := hF
            replace hF := zbnd hF
            obtain ⟨p71, e70, hF⟩ := hF
            refine zx_callE rfl rfl rfl rfl (zrcv_isO g69) rfl rfl (zc4 (Nat.le_of_ble_eq_true rfl)) (t220 (by omega) e70 (zaV ?_))
            refine zx_aload_n rfl rfl rfl ?_
            replace hF := zbnd hF
            obtain ⟨x72, e73, hF⟩ := hF
            refine zy_getR rfl rfl e73 ?_
            refine zx_iload_n rfl rfl rfl ?_
            refine zx_iload_n rfl rfl rfl ?_
            replace hF := zbnd hF
            obtain ⟨a74, rfl, hF⟩ := hF
            replace hF := zbnd hF
            obtain ⟨h75, e76, hF⟩ := hF
            refine zy_sI rfl rfl e76 ?_
            exact tb210_135 (l0 := l0) (l1 := l1) (l2 := (x4 - 1)) hd hr17 rfl hF q
          · rw [if_pos c52] at hF
            refine zx_aload_n rfl rfl rfl ?_
            refine zx_iconst (v := 1) rfl rfl rfl ?_
            replace hF := zgd_some hF
            obtain ⟨g53, hF⟩ := hF
            replace hF := zbnd hF
            obtain ⟨p55, e54, hF⟩ := hF
            refine zx_callE rfl rfl rfl rfl (zrcv_isO g53) rfl rfl (zc4 (Nat.le_of_ble_eq_true rfl)) (t223 (by omega) e54 (zaV ?_))
            refine zx_goto rfl rfl ?_
            exact tb210_135 (l0 := l0) (l1 := l1) (l2 := (x4 - 1)) hd hr17 hx3 hF q
      · rw [if_neg c10] at hF
        refine zx_aload_n rfl rfl rfl ?_
        replace hF := zbnd hF
        obtain ⟨x77, e78, hF⟩ := hF
        refine zy_getR rfl rfl e78 ?_
        refine zx_iload_n rfl rfl rfl ?_
        replace hF := zbnd hF
        obtain ⟨a79, rfl, hF⟩ := hF
        replace hF := zbnd hF
        obtain ⟨x80, e81, hF⟩ := hF
        refine zy_aI rfl rfl e81 ?_
        refine zx_iconst (v := (-1)) rfl rfl rfl ?_
        refine zx_ic_ne rfl rfl (fun c82 => ?_) (fun c82 => ?_)
        · rw [if_neg c82] at hF
          exact tb210_69 (l0 := l0) (l1 := l1) (l2 := (x4 - 1)) hd hr17 hx3 hF q
        · rw [if_pos c82] at hF
          refine zx_aload_n rfl rfl rfl ?_
          refine zx_iconst (v := 0) rfl rfl rfl ?_
          replace hF := zgd_some hF
          obtain ⟨g83, hF⟩ := hF
          replace hF := zbnd hF
          obtain ⟨p85, e84, hF⟩ := hF
          refine zx_callE rfl rfl rfl rfl (zrcv_isO g83) rfl rfl (zc4 (Nat.le_of_ble_eq_true rfl)) (t223 (by omega) e84 (zaV ?_))
          exact tb210_69 (l0 := l0) (l1 := l1) (l2 := (x4 - 1)) hd hr17 hx3 hF q
    · rw [if_neg c6] at hF
      refine zx_aload_n rfl rfl rfl ?_
      replace hF := zgd_some hF
      obtain ⟨g86, hF⟩ := hF
      replace hF := zbnd hF
      obtain ⟨p88, e87, hF⟩ := hF
      refine zx_callE rfl rfl rfl rfl (zrcv_isO g86) rfl rfl (zc4 (Nat.le_of_ble_eq_true rfl)) (t212 (by omega) e87 (zaI ?_))
      refine zx_istore_n rfl rfl rfl ?_
      refine zx_goto rfl rfl ?_
      exact tb210_212 (l0 := l0) (l1 := p88.1) (l2 := (x4 - 1)) hd hr17 hx3 hF q
def f210_17 (n : Nat)   (k : Nat) : Nat → Int32 → zH → Option (Int32 × zH) := Nat.rec (fun _ _ _ => none) (fun _ ih => b210_17 n  ih) k
theorem tf210_17 {d n : Nat} {Q : zRs → zH → Prop}   (hd : 9 ≤ d)   (k : Nat) : ∀ {l0 : Nat} {l1 : Int32}  {x2 : Option Value} {x3 : Option Value} {h : zH} {p : (Int32 × zH)}, zn2 x2 = true → zn2 x3 = true → f210_17 n   k l0 l1 h = some p → Q (eI p.1) p.2 → zW d 210 17 [some (.ref l0), some (.int l1), x2, x3] [] h Q := by
  induction k with
  | zero => intros; rename_i hF _; cases hF
  | succ k ih => intros; rename_i hx2 hx3 hF q; exact tb210_17 (n := n) hd  ih hx2 hx3 hF q
def f210 (n : Nat)  (y0 : Nat) (h : zH) : Option (Int32 × zH) :=
  (pF h y0 11 75 (.int 0)).bind fun h1 =>
  (pF h1 y0 11 76 (.int 0)).bind fun h3 =>
  zgd (isO h3 y0 11) <|
  (f211 n y0 (-1) h3).bind fun p7 =>
  f210_17 n  n y0 1 p7.2
set_option maxRecDepth 20000 in
theorem t210 {d n : Nat} {Q : zRs → zH → Prop}  {y0 : Nat} (hd : 9 ≤ d)  {h : zH} {p : (Int32 × zH)} (hF : f210 n  y0 h = some p) (q : Q (eI p.1) p.2) : zC d 210 [.ref y0] h Q := by
  refine zC_of (L := [some (.ref y0), none, none, none]) rfl rfl ?_
  unfold f210 at hF
  obtain ⟨d, rfl⟩ : ∃ e, d = e + 1 := ⟨d - 1, by omega⟩
  refine zx_aload_n rfl rfl rfl ?_
  refine zx_iconst (v := 0) rfl rfl rfl ?_
  replace hF := zbnd hF
  obtain ⟨h1, e2, hF⟩ := hF
  refine zy_put rfl rfl e2 ?_
  refine zx_aload_n rfl rfl rfl ?_
  refine zx_iconst (v := 0) rfl rfl rfl ?_
  replace hF := zbnd hF
  obtain ⟨h3, e4, hF⟩ := hF
  refine zy_put rfl rfl e4 ?_
  refine zx_aload_n rfl rfl rfl ?_
  refine zx_iconst (v := (-1)) rfl rfl rfl ?_
  replace hF := zgd_some hF
  obtain ⟨g5, hF⟩ := hF
  replace hF := zbnd hF
  obtain ⟨p7, e6, hF⟩ := hF
  refine zx_callE rfl rfl rfl rfl (zrcv_isO g5) rfl rfl (zc4 (Nat.le_of_ble_eq_true rfl)) (t211 (by omega) e6 (zaV ?_))
  refine zx_iconst (v := 1) rfl rfl rfl ?_
  refine zx_istore_n rfl rfl rfl ?_
  exact tf210_17 hd  n (l0 := y0) (l1 := 1) rfl rfl hF q
def b201_149 (n : Nat)   (l0 : Nat) (l1 : Int32) (l2 : Int32) (l3 : Int32) (h : zH) : Option (Unit × zH) :=
  zgd (isO h l0 11) <|
  (f208 n l0 59 h).bind fun p3 =>
  some ((), p3.2)
set_option maxRecDepth 20000 in
theorem tb201_149 {d n : Nat} {Q : zRs → zH → Prop}   {l0 : Nat} {l1 : Int32} {l2 : Int32} {l3 : Int32}  {x4 : Option Value} (hd : 10 ≤ d)   {h : zH} {p : (Unit × zH)} (hx4 : zn2 x4 = true) (hF : b201_149 n   l0 l1 l2 l3 h = some p) (q : Q (eV p.1) p.2) : zW d 201 149 [some (.ref l0), some (.int l1), some (.int l2), some (.int l3), x4] [] h Q := by
  unfold b201_149 at hF
  obtain ⟨d, rfl⟩ : ∃ e, d = e + 1 := ⟨d - 1, by omega⟩
  refine zx_aload_n rfl rfl rfl ?_
  refine zx_bipush (v := 59) rfl rfl rfl ?_
  replace hF := zgd_some hF
  obtain ⟨g1, hF⟩ := hF
  replace hF := zbnd hF
  obtain ⟨p3, e2, hF⟩ := hF
  refine zx_callE rfl rfl rfl rfl (zrcv_isO g1) rfl rfl (zc4 (Nat.le_of_ble_eq_true rfl)) (t208 (by omega) e2 (zaV ?_))
  replace hF := Option.some.inj hF
  subst hF
  exact zx_return rfl rfl rfl q
def b201_19 (n : Nat)   (l0 : Nat) (h : zH) : Option (Unit × zH) :=
  zgd (isO h l0 11) <|
  (f190 n l0 h).bind fun p3 =>
  (gR p3.2 l0 11 9).bind fun x4 =>
  (gI p3.2 l0 11 4).bind fun x6 =>
  (gR p3.2 l0 11 8).bind fun x8 =>
  (gI p3.2 l0 11 4).bind fun x10 =>
  x8.bind fun a12 =>
  (aI p3.2 a12 x10).bind fun x13 =>
  zgd (isO p3.2 l0 11) <|
  (f202 n l0 x4 (12 * x6) x13 p3.2).bind fun p17 =>
  zgd (isO p17.2 l0 11) <|
  (f208 n l0 61 p17.2).bind fun p20 =>
  (gR p20.2 l0 11 62).bind fun x21 =>
  (gI p20.2 l0 11 4).bind fun x23 =>
  x21.bind fun a25 =>
  (aI p20.2 a25 x23).bind fun x26 =>
  zgd (isO p20.2 l0 11) <|
  (f210 n l0 p20.2).bind fun p30 =>
  (gI p30.2 l0 11 73).bind fun x31 =>
  if x31 = (-1) then
    (gI p30.2 l0 11 4).bind fun x34 =>
    (gR p30.2 l0 11 8).bind fun x36 =>
    (gI p30.2 l0 11 4).bind fun x38 =>
    x36.bind fun a40 =>
    (aI p30.2 a40 x38).bind fun x41 =>
    (gR p30.2 l0 11 9).bind fun x43 =>
    x43.bind fun a45 =>
    (aS zsI p30.2 a45 ((12 * x34) + x41) (.int p17.1)).bind fun h46 =>
    (gR h46 l0 11 10).bind fun x48 =>
    x48.bind fun a50 =>
    (aS zsI h46 a50 ((12 * x34) + x41) (.int p30.1)).bind fun h51 =>
    (gR h51 l0 11 11).bind fun x53 =>
    x53.bind fun a55 =>
    (aS zsI h51 a55 ((12 * x34) + x41) (.int x26)).bind fun h56 =>
    (gR h56 l0 11 12).bind fun x58 =>
    (gR h56 l0 11 62).bind fun x60 =>
    (gI h56 l0 11 4).bind fun x62 =>
    x60.bind fun a64 =>
    (aI h56 a64 x62).bind fun x65 =>
    x58.bind fun a67 =>
    (aS zsI h56 a67 ((12 * x34) + x41) (.int x65)).bind fun h68 =>
    (gR h68 l0 11 8).bind fun x70 =>
    (gI h68 l0 11 4).bind fun x72 =>
    x70.bind fun a74 =>
    (aI h68 a74 x72).bind fun x75 =>
    (aS zsI h68 a74 x72 (.int (x75 + 1))).bind fun h77 =>
    b201_149 n  l0 p17.1 x26 p30.1 h77
  else
    b201_149 n  l0 p17.1 x26 p30.1 p30.2
set_option maxRecDepth 20000 in
theorem tb201_19 {d n : Nat} {Q : zRs → zH → Prop}   {l0 : Nat}  {x1 : Option Value} {x2 : Option Value} {x3 : Option Value} {x4 : Option Value} (hd : 10 ≤ d)   {h : zH} {p : (Unit × zH)} (hx1 : zn2 x1 = true) (hx2 : zn2 x2 = true) (hx3 : zn2 x3 = true) (hx4 : zn2 x4 = true) (hF : b201_19 n   l0 h = some p) (q : Q (eV p.1) p.2) : zW d 201 19 [some (.ref l0), x1, x2, x3, x4] [] h Q := by
  unfold b201_19 at hF
  obtain ⟨d, rfl⟩ : ∃ e, d = e + 1 := ⟨d - 1, by omega⟩
  refine zx_aload_n rfl rfl rfl ?_
  replace hF := zgd_some hF
  obtain ⟨g1, hF⟩ := hF
  replace hF := zbnd hF
  obtain ⟨p3, e2, hF⟩ := hF
  refine zx_callE rfl rfl rfl rfl (zrcv_isO g1) rfl rfl (zc4 (Nat.le_of_ble_eq_true rfl)) (t190 (by omega) e2 (zaV ?_))
  refine zx_aload_n rfl rfl rfl ?_
  refine zx_aload_n rfl rfl rfl ?_
  replace hF := zbnd hF
  obtain ⟨x4, e5, hF⟩ := hF
  refine zy_getR rfl rfl e5 ?_
  refine zx_bipush (v := 12) rfl rfl rfl ?_
  refine zx_aload_n rfl rfl rfl ?_
  replace hF := zbnd hF
  obtain ⟨x6, e7, hF⟩ := hF
  refine zy_getI rfl rfl e7 ?_
  refine zx_imul rfl rfl ?_
  refine zx_aload_n rfl rfl rfl ?_
  replace hF := zbnd hF
  obtain ⟨x8, e9, hF⟩ := hF
  refine zy_getR rfl rfl e9 ?_
  refine zx_aload_n rfl rfl rfl ?_
  replace hF := zbnd hF
  obtain ⟨x10, e11, hF⟩ := hF
  refine zy_getI rfl rfl e11 ?_
  replace hF := zbnd hF
  obtain ⟨a12, rfl, hF⟩ := hF
  replace hF := zbnd hF
  obtain ⟨x13, e14, hF⟩ := hF
  refine zy_aI rfl rfl e14 ?_
  replace hF := zgd_some hF
  obtain ⟨g15, hF⟩ := hF
  replace hF := zbnd hF
  obtain ⟨p17, e16, hF⟩ := hF
  refine zx_callE rfl rfl rfl rfl (zrcv_isO g15) (congrArg (List.cons _) ((zsl_rf _ _).trans (congrArg (List.cons _) rfl))) rfl (zc4 (Nat.le_of_ble_eq_true rfl)) (t202 (by omega) e16 (zaI ?_))
  refine zx_istore_n rfl rfl rfl ?_
  refine zx_aload_n rfl rfl rfl ?_
  refine zx_bipush (v := 61) rfl rfl rfl ?_
  replace hF := zgd_some hF
  obtain ⟨g18, hF⟩ := hF
  replace hF := zbnd hF
  obtain ⟨p20, e19, hF⟩ := hF
  refine zx_callE rfl rfl rfl rfl (zrcv_isO g18) rfl rfl (zc4 (Nat.le_of_ble_eq_true rfl)) (t208 (by omega) e19 (zaV ?_))
  refine zx_aload_n rfl rfl rfl ?_
  replace hF := zbnd hF
  obtain ⟨x21, e22, hF⟩ := hF
  refine zy_getR rfl rfl e22 ?_
  refine zx_aload_n rfl rfl rfl ?_
  replace hF := zbnd hF
  obtain ⟨x23, e24, hF⟩ := hF
  refine zy_getI rfl rfl e24 ?_
  replace hF := zbnd hF
  obtain ⟨a25, rfl, hF⟩ := hF
  replace hF := zbnd hF
  obtain ⟨x26, e27, hF⟩ := hF
  refine zy_aI rfl rfl e27 ?_
  refine zx_istore_n rfl rfl rfl ?_
  refine zx_aload_n rfl rfl rfl ?_
  replace hF := zgd_some hF
  obtain ⟨g28, hF⟩ := hF
  replace hF := zbnd hF
  obtain ⟨p30, e29, hF⟩ := hF
  refine zx_callE rfl rfl rfl rfl (zrcv_isO g28) rfl rfl (zc4 (Nat.le_of_ble_eq_true rfl)) (t210 (by omega) e29 (zaI ?_))
  refine zx_istore_n rfl rfl rfl ?_
  refine zx_aload_n rfl rfl rfl ?_
  replace hF := zbnd hF
  obtain ⟨x31, e32, hF⟩ := hF
  refine zy_getI rfl rfl e32 ?_
  refine zx_iconst (v := (-1)) rfl rfl rfl ?_
  refine zx_ic_ne rfl rfl (fun c33 => ?_) (fun c33 => ?_)
  · rw [if_neg c33] at hF
    exact tb201_149 (l0 := l0) (l1 := p17.1) (l2 := x26) (l3 := p30.1) hd  hx4 hF q
  · rw [if_pos c33] at hF
    refine zx_bipush (v := 12) rfl rfl rfl ?_
    refine zx_aload_n rfl rfl rfl ?_
    replace hF := zbnd hF
    obtain ⟨x34, e35, hF⟩ := hF
    refine zy_getI rfl rfl e35 ?_
    refine zx_imul rfl rfl ?_
    refine zx_aload_n rfl rfl rfl ?_
    replace hF := zbnd hF
    obtain ⟨x36, e37, hF⟩ := hF
    refine zy_getR rfl rfl e37 ?_
    refine zx_aload_n rfl rfl rfl ?_
    replace hF := zbnd hF
    obtain ⟨x38, e39, hF⟩ := hF
    refine zy_getI rfl rfl e39 ?_
    replace hF := zbnd hF
    obtain ⟨a40, rfl, hF⟩ := hF
    replace hF := zbnd hF
    obtain ⟨x41, e42, hF⟩ := hF
    refine zy_aI rfl rfl e42 ?_
    refine zx_iadd rfl rfl ?_
    refine zx_istore rfl rfl rfl ?_
    refine zx_aload_n rfl rfl rfl ?_
    replace hF := zbnd hF
    obtain ⟨x43, e44, hF⟩ := hF
    refine zy_getR rfl rfl e44 ?_
    refine zx_iload rfl rfl rfl ?_
    refine zx_iload_n rfl rfl rfl ?_
    replace hF := zbnd hF
    obtain ⟨a45, rfl, hF⟩ := hF
    replace hF := zbnd hF
    obtain ⟨h46, e47, hF⟩ := hF
    refine zy_sI rfl rfl e47 ?_
    refine zx_aload_n rfl rfl rfl ?_
    replace hF := zbnd hF
    obtain ⟨x48, e49, hF⟩ := hF
    refine zy_getR rfl rfl e49 ?_
    refine zx_iload rfl rfl rfl ?_
    refine zx_iload_n rfl rfl rfl ?_
    replace hF := zbnd hF
    obtain ⟨a50, rfl, hF⟩ := hF
    replace hF := zbnd hF
    obtain ⟨h51, e52, hF⟩ := hF
    refine zy_sI rfl rfl e52 ?_
    refine zx_aload_n rfl rfl rfl ?_
    replace hF := zbnd hF
    obtain ⟨x53, e54, hF⟩ := hF
    refine zy_getR rfl rfl e54 ?_
    refine zx_iload rfl rfl rfl ?_
    refine zx_iload_n rfl rfl rfl ?_
    replace hF := zbnd hF
    obtain ⟨a55, rfl, hF⟩ := hF
    replace hF := zbnd hF
    obtain ⟨h56, e57, hF⟩ := hF
    refine zy_sI rfl rfl e57 ?_
    refine zx_aload_n rfl rfl rfl ?_
    replace hF := zbnd hF
    obtain ⟨x58, e59, hF⟩ := hF
    refine zy_getR rfl rfl e59 ?_
    refine zx_iload rfl rfl rfl ?_
    refine zx_aload_n rfl rfl rfl ?_
    replace hF := zbnd hF
    obtain ⟨x60, e61, hF⟩ := hF
    refine zy_getR rfl rfl e61 ?_
    refine zx_aload_n rfl rfl rfl ?_
    replace hF := zbnd hF
    obtain ⟨x62, e63, hF⟩ := hF
    refine zy_getI rfl rfl e63 ?_
    replace hF := zbnd hF
    obtain ⟨a64, rfl, hF⟩ := hF
    replace hF := zbnd hF
    obtain ⟨x65, e66, hF⟩ := hF
    refine zy_aI rfl rfl e66 ?_
    replace hF := zbnd hF
    obtain ⟨a67, rfl, hF⟩ := hF
    replace hF := zbnd hF
    obtain ⟨h68, e69, hF⟩ := hF
    refine zy_sI rfl rfl e69 ?_
    refine zx_aload_n rfl rfl rfl ?_
    replace hF := zbnd hF
    obtain ⟨x70, e71, hF⟩ := hF
    refine zy_getR rfl rfl e71 ?_
    refine zx_aload_n rfl rfl rfl ?_
    replace hF := zbnd hF
    obtain ⟨x72, e73, hF⟩ := hF
    refine zy_getI rfl rfl e73 ?_
    refine zx_dup2 rfl rfl (by rw [zc1_rf]; rfl) ?_
    replace hF := zbnd hF
    obtain ⟨a74, rfl, hF⟩ := hF
    replace hF := zbnd hF
    obtain ⟨x75, e76, hF⟩ := hF
    refine zy_aI rfl rfl e76 ?_
    refine zx_iconst (v := 1) rfl rfl rfl ?_
    refine zx_iadd rfl rfl ?_
    replace hF := zbnd hF
    obtain ⟨h77, e78, hF⟩ := hF
    refine zy_sI rfl rfl e78 ?_
    exact tb201_149 (l0 := l0) (l1 := p17.1) (l2 := x26) (l3 := p30.1) hd  rfl hF q
def f201 (n : Nat)  (y0 : Nat) (h : zH) : Option (Unit × zH) :=
  (gR h y0 11 8).bind fun x1 =>
  (gI h y0 11 4).bind fun x3 =>
  x1.bind fun a5 =>
  (aI h a5 x3).bind fun x6 =>
  if x6 = 12 then
    zgd (isO h y0 11) <|
    (f195 n y0 5 h).bind fun p11 =>
    b201_19 n  y0 p11.2
  else
    b201_19 n  y0 h
set_option maxRecDepth 20000 in
theorem t201 {d n : Nat} {Q : zRs → zH → Prop}  {y0 : Nat} (hd : 10 ≤ d)  {h : zH} {p : (Unit × zH)} (hF : f201 n  y0 h = some p) (q : Q (eV p.1) p.2) : zC d 201 [.ref y0] h Q := by
  refine zC_of (L := [some (.ref y0), none, none, none, none]) rfl rfl ?_
  unfold f201 at hF
  obtain ⟨d, rfl⟩ : ∃ e, d = e + 1 := ⟨d - 1, by omega⟩
  refine zx_aload_n rfl rfl rfl ?_
  replace hF := zbnd hF
  obtain ⟨x1, e2, hF⟩ := hF
  refine zy_getR rfl rfl e2 ?_
  refine zx_aload_n rfl rfl rfl ?_
  replace hF := zbnd hF
  obtain ⟨x3, e4, hF⟩ := hF
  refine zy_getI rfl rfl e4 ?_
  replace hF := zbnd hF
  obtain ⟨a5, rfl, hF⟩ := hF
  replace hF := zbnd hF
  obtain ⟨x6, e7, hF⟩ := hF
  refine zy_aI rfl rfl e7 ?_
  refine zx_bipush (v := 12) rfl rfl rfl ?_
  refine zx_ic_ne rfl rfl (fun c8 => ?_) (fun c8 => ?_)
  · rw [if_neg c8] at hF
    exact tb201_19 (l0 := y0) hd  rfl rfl rfl rfl hF q
  · rw [if_pos c8] at hF
    refine zx_aload_n rfl rfl rfl ?_
    refine zx_iconst (v := 5) rfl rfl rfl ?_
    replace hF := zgd_some hF
    obtain ⟨g9, hF⟩ := hF
    replace hF := zbnd hF
    obtain ⟨p11, e10, hF⟩ := hF
    refine zx_callE rfl rfl rfl rfl (zrcv_isO g9) rfl rfl (zc4 (Nat.le_of_ble_eq_true rfl)) (t195 (by omega) e10 (zaV ?_))
    exact tb201_19 (l0 := y0) hd  rfl rfl rfl rfl hF q
def b227_171 (n : Nat)   (l0 : Nat) (l1 : Int32) (l2 : Int32) (h : zH) : Option (Unit × zH) :=
  zgd (isO h l0 11) <|
  (f208 n l0 41 h).bind fun p3 =>
  some ((), p3.2)
set_option maxRecDepth 20000 in
theorem tb227_171 {d n : Nat} {Q : zRs → zH → Prop}   {l0 : Nat} {l1 : Int32} {l2 : Int32}   (hd : 6 ≤ d)   {h : zH} {p : (Unit × zH)}  (hF : b227_171 n   l0 l1 l2 h = some p) (q : Q (eV p.1) p.2) : zW d 227 171 [some (.ref l0), some (.int l1), some (.int l2)] [] h Q := by
  unfold b227_171 at hF
  obtain ⟨d, rfl⟩ : ∃ e, d = e + 1 := ⟨d - 1, by omega⟩
  refine zx_aload_n rfl rfl rfl ?_
  refine zx_bipush (v := 41) rfl rfl rfl ?_
  replace hF := zgd_some hF
  obtain ⟨g1, hF⟩ := hF
  replace hF := zbnd hF
  obtain ⟨p3, e2, hF⟩ := hF
  refine zx_callE rfl rfl rfl rfl (zrcv_isO g1) rfl rfl (zc4 (Nat.le_of_ble_eq_true rfl)) (t208 (by omega) e2 (zaV ?_))
  replace hF := Option.some.inj hF
  subst hF
  exact zx_return rfl rfl rfl q
def b227_159 (n : Nat)  (r8 : Nat → Int32 → Int32 → zH → Option (Unit × zH)) (l0 : Nat) (l1 : Int32) (l2 : Int32) (s0 : Int32) (h : zH) : Option (Unit × zH) :=
  if s0 = 0 then
    r8 l0 l1 s0 h
  else
    zgd (isO h l0 11) <|
    (f190 n l0 h).bind fun p4 =>
    r8 l0 l1 s0 p4.2
set_option maxRecDepth 20000 in
theorem tb227_159 {d n : Nat} {Q : zRs → zH → Prop}  {r8 : Nat → Int32 → Int32 → zH → Option (Unit × zH)} {l0 : Nat} {l1 : Int32} {l2 : Int32} {s0 : Int32}  (hd : 6 ≤ d)  (hr8 : ∀ {l0 : Nat} {l1 : Int32} {l2 : Int32}   {h : zH} {p : (Unit × zH)}, r8 l0 l1 l2 h = some p → Q (eV p.1) p.2 → zW d 227 8 [some (.ref l0), some (.int l1), some (.int l2)] [] h Q) {h : zH} {p : (Unit × zH)}  (hF : b227_159 n  r8 l0 l1 l2 s0 h = some p) (q : Q (eV p.1) p.2) : zW d 227 159 [some (.ref l0), some (.int l1), some (.int l2)] [.int s0] h Q := by
  unfold b227_159 at hF
  obtain ⟨d, rfl⟩ : ∃ e, d = e + 1 := ⟨d - 1, by omega⟩
  refine zx_istore_n rfl rfl rfl ?_
  refine zx_iload_n rfl rfl rfl ?_
  refine zx_if_eq rfl rfl (fun c1 => ?_) (fun c1 => ?_)
  · rw [if_pos c1] at hF
    exact hr8  hF q
  · rw [if_neg c1] at hF
    refine zx_aload_n rfl rfl rfl ?_
    replace hF := zgd_some hF
    obtain ⟨g2, hF⟩ := hF
    replace hF := zbnd hF
    obtain ⟨p4, e3, hF⟩ := hF
    refine zx_callE rfl rfl rfl rfl (zrcv_isO g2) rfl rfl (zc4 (Nat.le_of_ble_eq_true rfl)) (t190 (by omega) e3 (zaV ?_))
    refine zx_goto rfl rfl ?_
    exact hr8  hF q
def b227_158 (n : Nat)  (r8 : Nat → Int32 → Int32 → zH → Option (Unit × zH)) (l0 : Nat) (l1 : Int32) (l2 : Int32) (h : zH) : Option (Unit × zH) :=
  b227_159 n r8 l0 l1 l2 0 h
set_option maxRecDepth 20000 in
theorem tb227_158 {d n : Nat} {Q : zRs → zH → Prop}  {r8 : Nat → Int32 → Int32 → zH → Option (Unit × zH)} {l0 : Nat} {l1 : Int32} {l2 : Int32}   (hd : 6 ≤ d)  (hr8 : ∀ {l0 : Nat} {l1 : Int32} {l2 : Int32}   {h : zH} {p : (Unit × zH)}, r8 l0 l1 l2 h = some p → Q (eV p.1) p.2 → zW d 227 8 [some (.ref l0), some (.int l1), some (.int l2)] [] h Q) {h : zH} {p : (Unit × zH)}  (hF : b227_158 n  r8 l0 l1 l2 h = some p) (q : Q (eV p.1) p.2) : zW d 227 158 [some (.ref l0), some (.int l1), some (.int l2)] [] h Q := by
  unfold b227_158 at hF
  obtain ⟨d, rfl⟩ : ∃ e, d = e + 1 := ⟨d - 1, by omega⟩
  refine zx_iconst (v := 0) rfl rfl rfl ?_
  exact tb227_159 (l0 := l0) (l1 := l1) (l2 := l2) (s0 := 0) hd hr8  hF q
def b227_133 (n : Nat)  (r8 : Nat → Int32 → Int32 → zH → Option (Unit × zH)) (l0 : Nat) (l1 : Int32) (l2 : Int32) (h : zH) : Option (Unit × zH) :=
  zgd (isO h l0 11) <|
  (f190 n l0 h).bind fun p3 =>
  (gI p3.2 l0 11 73).bind fun x4 =>
  if x4 = (-1) then
    zgd (isO p3.2 l0 11) <|
    (f209 n l0 44 p3.2).bind fun p9 =>
    if p9.1 = 0 then
      b227_158 n r8 l0 l1 l2 p9.2
    else
      b227_159 n r8 l0 l1 l2 1 p9.2
  else
    b227_158 n r8 l0 l1 l2 p3.2
set_option maxRecDepth 20000 in
theorem tb227_133 {d n : Nat} {Q : zRs → zH → Prop}  {r8 : Nat → Int32 → Int32 → zH → Option (Unit × zH)} {l0 : Nat} {l1 : Int32} {l2 : Int32}   (hd : 6 ≤ d)  (hr8 : ∀ {l0 : Nat} {l1 : Int32} {l2 : Int32}   {h : zH} {p : (Unit × zH)}, r8 l0 l1 l2 h = some p → Q (eV p.1) p.2 → zW d 227 8 [some (.ref l0), some (.int l1), some (.int l2)] [] h Q) {h : zH} {p : (Unit × zH)}  (hF : b227_133 n  r8 l0 l1 l2 h = some p) (q : Q (eV p.1) p.2) : zW d 227 133 [some (.ref l0), some (.int l1), some (.int l2)] [] h Q := by
  unfold b227_133 at hF
  obtain ⟨d, rfl⟩ : ∃ e, d = e + 1 := ⟨d - 1, by omega⟩
  refine zx_aload_n rfl rfl rfl ?_
  replace hF := zgd_some hF
  obtain ⟨g1, hF⟩ := hF
  replace hF := zbnd hF
  obtain ⟨p3, e2, hF⟩ := hF
  refine zx_callE rfl rfl rfl rfl (zrcv_isO g1) rfl rfl (zc4 (Nat.le_of_ble_eq_true rfl)) (t190 (by omega) e2 (zaV ?_))
  refine zx_aload_n rfl rfl rfl ?_
  replace hF := zbnd hF
  obtain ⟨x4, e5, hF⟩ := hF
  refine zy_getI rfl rfl e5 ?_
  refine zx_iconst (v := (-1)) rfl rfl rfl ?_
  refine zx_ic_ne rfl rfl (fun c6 => ?_) (fun c6 => ?_)
  · rw [if_neg c6] at hF
    exact tb227_158 (l0 := l0) (l1 := l1) (l2 := l2) hd hr8  hF q
  · rw [if_pos c6] at hF
    refine zx_aload_n rfl rfl rfl ?_
    refine zx_bipush (v := 44) rfl rfl rfl ?_
    replace hF := zgd_some hF
    obtain ⟨g7, hF⟩ := hF
    replace hF := zbnd hF
    obtain ⟨p9, e8, hF⟩ := hF
    refine zx_callE rfl rfl rfl rfl (zrcv_isO g7) rfl rfl (zc4 (Nat.le_of_ble_eq_true rfl)) (t209 (by omega) e8 (zaI ?_))
    refine zx_if_eq rfl rfl (fun c10 => ?_) (fun c10 => ?_)
    · rw [if_pos c10] at hF
      exact tb227_158 (l0 := l0) (l1 := l1) (l2 := l2) hd hr8  hF q
    · rw [if_neg c10] at hF
      refine zx_iconst (v := 1) rfl rfl rfl ?_
      refine zx_goto rfl rfl ?_
      exact tb227_159 (l0 := l0) (l1 := l1) (l2 := l2) (s0 := 1) hd hr8  hF q
def b227_95 (n : Nat)  (r8 : Nat → Int32 → Int32 → zH → Option (Unit × zH)) (l0 : Nat) (l1 : Int32) (l2 : Int32) (h : zH) : Option (Unit × zH) :=
  (gI h l0 11 73).bind fun x1 =>
  if x1 = (-1) then
    (gR h l0 11 17).bind fun x4 =>
    (gR h l0 11 16).bind fun x6 =>
    x6.bind fun a8 =>
    (aI h a8 l1).bind fun x9 =>
    zgd (isO h l0 11) <|
    (f206 n l0 h).bind fun p13 =>
    x4.bind fun a14 =>
    (aS zsI p13.2 a14 ((8 * l1) + x9) (.int p13.1)).bind fun h15 =>
    (gR h15 l0 11 16).bind fun x17 =>
    x17.bind fun a19 =>
    (aI h15 a19 l1).bind fun x20 =>
    (aS zsI h15 a19 l1 (.int (x20 + 1))).bind fun h22 =>
    b227_133 n r8 l0 l1 l2 h22
  else
    b227_133 n r8 l0 l1 l2 h
set_option maxRecDepth 20000 in
theorem tb227_95 {d n : Nat} {Q : zRs → zH → Prop}  {r8 : Nat → Int32 → Int32 → zH → Option (Unit × zH)} {l0 : Nat} {l1 : Int32} {l2 : Int32}   (hd : 6 ≤ d)  (hr8 : ∀ {l0 : Nat} {l1 : Int32} {l2 : Int32}   {h : zH} {p : (Unit × zH)}, r8 l0 l1 l2 h = some p → Q (eV p.1) p.2 → zW d 227 8 [some (.ref l0), some (.int l1), some (.int l2)] [] h Q) {h : zH} {p : (Unit × zH)}  (hF : b227_95 n  r8 l0 l1 l2 h = some p) (q : Q (eV p.1) p.2) : zW d 227 95 [some (.ref l0), some (.int l1), some (.int l2)] [] h Q := by
  unfold b227_95 at hF
  obtain ⟨d, rfl⟩ : ∃ e, d = e + 1 := ⟨d - 1, by omega⟩
  refine zx_aload_n rfl rfl rfl ?_
  replace hF := zbnd hF
  obtain ⟨x1, e2, hF⟩ := hF
  refine zy_getI rfl rfl e2 ?_
  refine zx_iconst (v := (-1)) rfl rfl rfl ?_
  refine zx_ic_ne rfl rfl (fun c3 => ?_) (fun c3 => ?_)
  · rw [if_neg c3] at hF
    exact tb227_133 (l0 := l0) (l1 := l1) (l2 := l2) hd hr8  hF q
  · rw [if_pos c3] at hF
    refine zx_aload_n rfl rfl rfl ?_
    replace hF := zbnd hF
    obtain ⟨x4, e5, hF⟩ := hF
    refine zy_getR rfl rfl e5 ?_
    refine zx_bipush (v := 8) rfl rfl rfl ?_
    refine zx_iload_n rfl rfl rfl ?_
    refine zx_imul rfl rfl ?_
    refine zx_aload_n rfl rfl rfl ?_
    replace hF := zbnd hF
    obtain ⟨x6, e7, hF⟩ := hF
    refine zy_getR rfl rfl e7 ?_
    refine zx_iload_n rfl rfl rfl ?_
    replace hF := zbnd hF
    obtain ⟨a8, rfl, hF⟩ := hF
    replace hF := zbnd hF
    obtain ⟨x9, e10, hF⟩ := hF
    refine zy_aI rfl rfl e10 ?_
    refine zx_iadd rfl rfl ?_
    refine zx_aload_n rfl rfl rfl ?_
    replace hF := zgd_some hF
    obtain ⟨g11, hF⟩ := hF
    replace hF := zbnd hF
    obtain ⟨p13, e12, hF⟩ := hF
    refine zx_callE rfl rfl rfl rfl (zrcv_isO g11) rfl rfl (zc4 (Nat.le_of_ble_eq_true rfl)) (t206 (by omega) e12 (zaI ?_))
    replace hF := zbnd hF
    obtain ⟨a14, rfl, hF⟩ := hF
    replace hF := zbnd hF
    obtain ⟨h15, e16, hF⟩ := hF
    refine zy_sI rfl rfl e16 ?_
    refine zx_aload_n rfl rfl rfl ?_
    replace hF := zbnd hF
    obtain ⟨x17, e18, hF⟩ := hF
    refine zy_getR rfl rfl e18 ?_
    refine zx_iload_n rfl rfl rfl ?_
    refine zx_dup2 rfl rfl (by rw [zc1_rf]; rfl) ?_
    replace hF := zbnd hF
    obtain ⟨a19, rfl, hF⟩ := hF
    replace hF := zbnd hF
    obtain ⟨x20, e21, hF⟩ := hF
    refine zy_aI rfl rfl e21 ?_
    refine zx_iconst (v := 1) rfl rfl rfl ?_
    refine zx_iadd rfl rfl ?_
    replace hF := zbnd hF
    obtain ⟨h22, e23, hF⟩ := hF
    refine zy_sI rfl rfl e23 ?_
    exact tb227_133 (l0 := l0) (l1 := l1) (l2 := l2) hd hr8  hF q
def b227_71 (n : Nat)  (r8 : Nat → Int32 → Int32 → zH → Option (Unit × zH)) (l0 : Nat) (l1 : Int32) (l2 : Int32) (h : zH) : Option (Unit × zH) :=
  (gI h l0 11 73).bind fun x1 =>
  if x1 = (-1) then
    (gR h l0 11 16).bind fun x4 =>
    x4.bind fun a6 =>
    (aI h a6 l1).bind fun x7 =>
    if x7 = 8 then
      zgd (isO h l0 11) <|
      (f195 n l0 5 h).bind fun p12 =>
      b227_95 n r8 l0 l1 l2 p12.2
    else
      b227_95 n r8 l0 l1 l2 h
  else
    b227_95 n r8 l0 l1 l2 h
set_option maxRecDepth 20000 in
theorem tb227_71 {d n : Nat} {Q : zRs → zH → Prop}  {r8 : Nat → Int32 → Int32 → zH → Option (Unit × zH)} {l0 : Nat} {l1 : Int32} {l2 : Int32}   (hd : 6 ≤ d)  (hr8 : ∀ {l0 : Nat} {l1 : Int32} {l2 : Int32}   {h : zH} {p : (Unit × zH)}, r8 l0 l1 l2 h = some p → Q (eV p.1) p.2 → zW d 227 8 [some (.ref l0), some (.int l1), some (.int l2)] [] h Q) {h : zH} {p : (Unit × zH)}  (hF : b227_71 n  r8 l0 l1 l2 h = some p) (q : Q (eV p.1) p.2) : zW d 227 71 [some (.ref l0), some (.int l1), some (.int l2)] [] h Q := by
  unfold b227_71 at hF
  obtain ⟨d, rfl⟩ : ∃ e, d = e + 1 := ⟨d - 1, by omega⟩
  refine zx_aload_n rfl rfl rfl ?_
  replace hF := zbnd hF
  obtain ⟨x1, e2, hF⟩ := hF
  refine zy_getI rfl rfl e2 ?_
  refine zx_iconst (v := (-1)) rfl rfl rfl ?_
  refine zx_ic_ne rfl rfl (fun c3 => ?_) (fun c3 => ?_)
  · rw [if_neg c3] at hF
    exact tb227_95 (l0 := l0) (l1 := l1) (l2 := l2) hd hr8  hF q
  · rw [if_pos c3] at hF
    refine zx_aload_n rfl rfl rfl ?_
    replace hF := zbnd hF
    obtain ⟨x4, e5, hF⟩ := hF
    refine zy_getR rfl rfl e5 ?_
    refine zx_iload_n rfl rfl rfl ?_
    replace hF := zbnd hF
    obtain ⟨a6, rfl, hF⟩ := hF
    replace hF := zbnd hF
    obtain ⟨x7, e8, hF⟩ := hF
    refine zy_aI rfl rfl e8 ?_
    refine zx_bipush (v := 8) rfl rfl rfl ?_
    refine zx_ic_ne rfl rfl (fun c9 => ?_) (fun c9 => ?_)
    · rw [if_neg c9] at hF
      exact tb227_95 (l0 := l0) (l1 := l1) (l2 := l2) hd hr8  hF q
    · rw [if_pos c9] at hF
      refine zx_aload_n rfl rfl rfl ?_
      refine zx_iconst (v := 5) rfl rfl rfl ?_
      replace hF := zgd_some hF
      obtain ⟨g10, hF⟩ := hF
      replace hF := zbnd hF
      obtain ⟨p12, e11, hF⟩ := hF
      refine zx_callE rfl rfl rfl rfl (zrcv_isO g10) rfl rfl (zc4 (Nat.le_of_ble_eq_true rfl)) (t195 (by omega) e11 (zaV ?_))
      exact tb227_95 (l0 := l0) (l1 := l1) (l2 := l2) hd hr8  hF q
def b227_8 (n : Nat)  (r8 : Nat → Int32 → Int32 → zH → Option (Unit × zH)) (l0 : Nat) (l1 : Int32) (l2 : Int32) (h : zH) : Option (Unit × zH) :=
  if l2 = 0 then
    b227_171 n  l0 l1 l2 h
  else
    (gI h l0 11 73).bind fun x2 =>
    if x2 = (-1) then
      zgd (isO h l0 11) <|
      (f203 n l0 h).bind fun p7 =>
      zgd (isO p7.2 l0 11) <|
      (f200 n l0 p7.1 p7.2).bind fun p10 =>
      (gI p10.2 l0 11 73).bind fun x11 =>
      if x11 = (-1) then
        (gR p10.2 l0 11 17).bind fun x14 =>
        (gR p10.2 l0 11 16).bind fun x16 =>
        x16.bind fun a18 =>
        (aI p10.2 a18 l1).bind fun x19 =>
        (gI p10.2 l0 11 70).bind fun x21 =>
        (gI p10.2 l0 11 71).bind fun x23 =>
        zgd (isO p10.2 l0 11) <|
        (f204 n l0 x14 (8 * l1) x19 x21 x23 p10.2).bind fun p27 =>
        if p27.1 = (-1) then
          b227_71 n r8 l0 l1 l2 p27.2
        else
          zgd (isO p27.2 l0 11) <|
          (f195 n l0 3 p27.2).bind fun p31 =>
          b227_71 n r8 l0 l1 l2 p31.2
      else
        b227_71 n r8 l0 l1 l2 p10.2
    else
      b227_171 n  l0 l1 l2 h
set_option maxRecDepth 20000 in
theorem tb227_8 {d n : Nat} {Q : zRs → zH → Prop}  {r8 : Nat → Int32 → Int32 → zH → Option (Unit × zH)} {l0 : Nat} {l1 : Int32} {l2 : Int32}   (hd : 6 ≤ d)  (hr8 : ∀ {l0 : Nat} {l1 : Int32} {l2 : Int32}   {h : zH} {p : (Unit × zH)}, r8 l0 l1 l2 h = some p → Q (eV p.1) p.2 → zW d 227 8 [some (.ref l0), some (.int l1), some (.int l2)] [] h Q) {h : zH} {p : (Unit × zH)}  (hF : b227_8 n  r8 l0 l1 l2 h = some p) (q : Q (eV p.1) p.2) : zW d 227 8 [some (.ref l0), some (.int l1), some (.int l2)] [] h Q := by
  unfold b227_8 at hF
  obtain ⟨d, rfl⟩ : ∃ e, d = e + 1 := ⟨d - 1, by omega⟩
  refine zx_iload_n rfl rfl rfl ?_
  refine zx_if_eq rfl rfl (fun c1 => ?_) (fun c1 => ?_)
  · rw [if_pos c1] at hF
    exact tb227_171 (l0 := l0) (l1 := l1) (l2 := l2) hd   hF q
  · rw [if_neg c1] at hF
    refine zx_aload_n rfl rfl rfl ?_
    replace hF := zbnd hF
    obtain ⟨x2, e3, hF⟩ := hF
    refine zy_getI rfl rfl e3 ?_
    refine zx_iconst (v := (-1)) rfl rfl rfl ?_
    refine zx_ic_ne rfl rfl (fun c4 => ?_) (fun c4 => ?_)
    · rw [if_neg c4] at hF
      exact tb227_171 (l0 := l0) (l1 := l1) (l2 := l2) hd   hF q
    · rw [if_pos c4] at hF
      refine zx_aload_n rfl rfl rfl ?_
      refine zx_aload_n rfl rfl rfl ?_
      replace hF := zgd_some hF
      obtain ⟨g5, hF⟩ := hF
      replace hF := zbnd hF
      obtain ⟨p7, e6, hF⟩ := hF
      refine zx_callE rfl rfl rfl rfl (zrcv_isO g5) rfl rfl (zc4 (Nat.le_of_ble_eq_true rfl)) (t203 (by omega) e6 (zaI ?_))
      replace hF := zgd_some hF
      obtain ⟨g8, hF⟩ := hF
      replace hF := zbnd hF
      obtain ⟨p10, e9, hF⟩ := hF
      refine zx_callE rfl rfl rfl rfl (zrcv_isO g8) rfl rfl (zc4 (Nat.le_of_ble_eq_true rfl)) (t200 (by omega) e9 (zaV ?_))
      refine zx_aload_n rfl rfl rfl ?_
      replace hF := zbnd hF
      obtain ⟨x11, e12, hF⟩ := hF
      refine zy_getI rfl rfl e12 ?_
      refine zx_iconst (v := (-1)) rfl rfl rfl ?_
      refine zx_ic_ne rfl rfl (fun c13 => ?_) (fun c13 => ?_)
      · rw [if_neg c13] at hF
        exact tb227_71 (l0 := l0) (l1 := l1) (l2 := l2) hd hr8  hF q
      · rw [if_pos c13] at hF
        refine zx_aload_n rfl rfl rfl ?_
        refine zx_aload_n rfl rfl rfl ?_
        replace hF := zbnd hF
        obtain ⟨x14, e15, hF⟩ := hF
        refine zy_getR rfl rfl e15 ?_
        refine zx_bipush (v := 8) rfl rfl rfl ?_
        refine zx_iload_n rfl rfl rfl ?_
        refine zx_imul rfl rfl ?_
        refine zx_aload_n rfl rfl rfl ?_
        replace hF := zbnd hF
        obtain ⟨x16, e17, hF⟩ := hF
        refine zy_getR rfl rfl e17 ?_
        refine zx_iload_n rfl rfl rfl ?_
        replace hF := zbnd hF
        obtain ⟨a18, rfl, hF⟩ := hF
        replace hF := zbnd hF
        obtain ⟨x19, e20, hF⟩ := hF
        refine zy_aI rfl rfl e20 ?_
        refine zx_aload_n rfl rfl rfl ?_
        replace hF := zbnd hF
        obtain ⟨x21, e22, hF⟩ := hF
        refine zy_getI rfl rfl e22 ?_
        refine zx_aload_n rfl rfl rfl ?_
        replace hF := zbnd hF
        obtain ⟨x23, e24, hF⟩ := hF
        refine zy_getI rfl rfl e24 ?_
        replace hF := zgd_some hF
        obtain ⟨g25, hF⟩ := hF
        replace hF := zbnd hF
        obtain ⟨p27, e26, hF⟩ := hF
        refine zx_callE rfl rfl rfl rfl (zrcv_isO g25) (congrArg (List.cons _) ((zsl_rf _ _).trans (congrArg (List.cons _) rfl))) rfl (zc4 (Nat.le_of_ble_eq_true rfl)) (t204 (by omega) e26 (zaI ?_))
        refine zx_iconst (v := (-1)) rfl rfl rfl ?_
        refine zx_ic_eq rfl rfl (fun c28 => ?_) (fun c28 => ?_)
        · rw [if_pos c28] at hF
          exact tb227_71 (l0 := l0) (l1 := l1) (l2 := l2) hd hr8  hF q
        · rw [if_neg c28] at hF
          refine zx_aload_n rfl rfl rfl ?_
          refine zx_iconst (v := 3) rfl rfl rfl ?_
          replace hF := zgd_some hF
          obtain ⟨g29, hF⟩ := hF
          replace hF := zbnd hF
          obtain ⟨p31, e30, hF⟩ := hF
          refine zx_callE rfl rfl rfl rfl (zrcv_isO g29) rfl rfl (zc4 (Nat.le_of_ble_eq_true rfl)) (t195 (by omega) e30 (zaV ?_))
          exact tb227_71 (l0 := l0) (l1 := l1) (l2 := l2) hd hr8  hF q
def f227_8 (n : Nat)   (k : Nat) : Nat → Int32 → Int32 → zH → Option (Unit × zH) := Nat.rec (fun _ _ _ _ => none) (fun _ ih => b227_8 n  ih) k
theorem tf227_8 {d n : Nat} {Q : zRs → zH → Prop}   (hd : 6 ≤ d)   (k : Nat) : ∀ {l0 : Nat} {l1 : Int32} {l2 : Int32}   {h : zH} {p : (Unit × zH)}, f227_8 n   k l0 l1 l2 h = some p → Q (eV p.1) p.2 → zW d 227 8 [some (.ref l0), some (.int l1), some (.int l2)] [] h Q := by
  induction k with
  | zero => intros; rename_i hF _; cases hF
  | succ k ih => intros; rename_i  hF q; exact tb227_8 (n := n) hd  ih  hF q
def f227 (n : Nat)  (y0 : Nat) (y1 : Int32) (h : zH) : Option (Unit × zH) :=
  zgd (isO h y0 11) <|
  (f208 n y0 40 h).bind fun p3 =>
  f227_8 n  n y0 y1 1 p3.2
set_option maxRecDepth 20000 in
theorem t227 {d n : Nat} {Q : zRs → zH → Prop}  {y0 : Nat} {y1 : Int32} (hd : 6 ≤ d)  {h : zH} {p : (Unit × zH)} (hF : f227 n  y0 y1 h = some p) (q : Q (eV p.1) p.2) : zC d 227 [.ref y0, .int y1] h Q := by
  refine zC_of (L := [some (.ref y0), some (.int y1), none]) rfl rfl ?_
  unfold f227 at hF
  obtain ⟨d, rfl⟩ : ∃ e, d = e + 1 := ⟨d - 1, by omega⟩
  refine zx_aload_n rfl rfl rfl ?_
  refine zx_bipush (v := 40) rfl rfl rfl ?_
  replace hF := zgd_some hF
  obtain ⟨g1, hF⟩ := hF
  replace hF := zbnd hF
  obtain ⟨p3, e2, hF⟩ := hF
  refine zx_callE rfl rfl rfl rfl (zrcv_isO g1) rfl rfl (zc4 (Nat.le_of_ble_eq_true rfl)) (t208 (by omega) e2 (zaV ?_))
  refine zx_iconst (v := 1) rfl rfl rfl ?_
  refine zx_istore_n rfl rfl rfl ?_
  exact tf227_8 hd  n (l0 := y0) (l1 := y1) (l2 := 1)  hF q
end ZDEC

/-! THE PROGRAM AS FUNCTIONS, 7 (written by a program of the verifier's) -/
section ZDEC
def f228 (n : Nat)  (y0 : Nat) (y1 : Option Nat) (h : zH) : Option (Unit × zH) :=
  zgd (isO h y0 11) <|
  (f213 n y0 y1 h).bind fun p3 =>
  zgd (isO p3.2 y0 11) <|
  (f200 n y0 p3.1 p3.2).bind fun p6 =>
  zgd (isO p6.2 y0 11) <|
  (f190 n y0 p6.2).bind fun p9 =>
  some ((), p9.2)
set_option maxRecDepth 20000 in
theorem t228 {d n : Nat} {Q : zRs → zH → Prop}  {y0 : Nat} {y1 : Option Nat} (hd : 6 ≤ d)  {h : zH} {p : (Unit × zH)} (hF : f228 n  y0 y1 h = some p) (q : Q (eV p.1) p.2) : zC d 228 [.ref y0, va_rf y1] h Q := by
  refine zC_of (L := [some (.ref y0), some (va_rf y1)]) (congrArg (List.cons _) ((zsl_rf _ _).trans (congrArg (List.cons _) rfl))) rfl ?_
  unfold f228 at hF
  obtain ⟨d, rfl⟩ : ∃ e, d = e + 1 := ⟨d - 1, by omega⟩
  refine zx_aload_n rfl rfl rfl ?_
  refine zx_aload_n rfl rfl rfl ?_
  refine zy_rload_n rfl rfl rfl ?_
  replace hF := zgd_some hF
  obtain ⟨g1, hF⟩ := hF
  replace hF := zbnd hF
  obtain ⟨p3, e2, hF⟩ := hF
  refine zx_callE rfl rfl rfl rfl (zrcv_isO g1) (congrArg (List.cons _) ((zsl_rf _ _).trans (congrArg (List.cons _) rfl))) rfl (zc4 (Nat.le_of_ble_eq_true rfl)) (t213 (by omega) e2 (zaI ?_))
  replace hF := zgd_some hF
  obtain ⟨g4, hF⟩ := hF
  replace hF := zbnd hF
  obtain ⟨p6, e5, hF⟩ := hF
  refine zx_callE rfl rfl rfl rfl (zrcv_isO g4) rfl rfl (zc4 (Nat.le_of_ble_eq_true rfl)) (t200 (by omega) e5 (zaV ?_))
  refine zx_aload_n rfl rfl rfl ?_
  replace hF := zgd_some hF
  obtain ⟨g7, hF⟩ := hF
  replace hF := zbnd hF
  obtain ⟨p9, e8, hF⟩ := hF
  refine zx_callE rfl rfl rfl rfl (zrcv_isO g7) rfl rfl (zc4 (Nat.le_of_ble_eq_true rfl)) (t190 (by omega) e8 (zaV ?_))
  replace hF := Option.some.inj hF
  subst hF
  exact zx_return rfl rfl rfl q
def b231_44 (n : Nat)   (l0 : Nat) (h : zH) : Option (Int32 × zH) :=
  (gI h l0 11 72).bind fun x1 =>
  some (x1, h)
set_option maxRecDepth 20000 in
theorem tb231_44 {d n : Nat} {Q : zRs → zH → Prop}   {l0 : Nat}   (hd : 3 ≤ d)   {h : zH} {p : (Int32 × zH)}  (hF : b231_44 n   l0 h = some p) (q : Q (eI p.1) p.2) : zW d 231 44 [some (.ref l0)] [] h Q := by
  unfold b231_44 at hF
  obtain ⟨d, rfl⟩ : ∃ e, d = e + 1 := ⟨d - 1, by omega⟩
  refine zx_aload_n rfl rfl rfl ?_
  replace hF := zbnd hF
  obtain ⟨x1, e2, hF⟩ := hF
  refine zy_getI rfl rfl e2 ?_
  replace hF := Option.some.inj hF
  subst hF
  exact zx_bret rfl rfl rfl rfl q
def b231_14 (n : Nat)   (l0 : Nat) (s0 : Int32) (s1 : Nat) (h : zH) : Option (Int32 × zH) :=
  zgd (isO h s1 11) <|
  (f200 n s1 s0 h).bind fun p3 =>
  (gI p3.2 l0 11 73).bind fun x4 =>
  if x4 = (-1) then
    (gI p3.2 l0 11 72).bind fun x7 =>
    (f187 n x7 0 10000 p3.2).bind fun p10 =>
    if p10.1 = 0 then
      zgd (isO p10.2 l0 11) <|
      (f195 n l0 4 p10.2).bind fun p14 =>
      b231_44 n  l0 p14.2
    else
      b231_44 n  l0 p10.2
  else
    b231_44 n  l0 p3.2
set_option maxRecDepth 20000 in
theorem tb231_14 {d n : Nat} {Q : zRs → zH → Prop}   {l0 : Nat} {s0 : Int32} {s1 : Nat}  (hd : 3 ≤ d)   {h : zH} {p : (Int32 × zH)}  (hF : b231_14 n   l0 s0 s1 h = some p) (q : Q (eI p.1) p.2) : zW d 231 14 [some (.ref l0)] [.int s0, .ref s1] h Q := by
  unfold b231_14 at hF
  obtain ⟨d, rfl⟩ : ∃ e, d = e + 1 := ⟨d - 1, by omega⟩
  replace hF := zgd_some hF
  obtain ⟨g1, hF⟩ := hF
  replace hF := zbnd hF
  obtain ⟨p3, e2, hF⟩ := hF
  refine zx_callE rfl rfl rfl rfl (zrcv_isO g1) rfl rfl (zc4 (Nat.le_of_ble_eq_true rfl)) (t200 (by omega) e2 (zaV ?_))
  refine zx_aload_n rfl rfl rfl ?_
  replace hF := zbnd hF
  obtain ⟨x4, e5, hF⟩ := hF
  refine zy_getI rfl rfl e5 ?_
  refine zx_iconst (v := (-1)) rfl rfl rfl ?_
  refine zx_ic_ne rfl rfl (fun c6 => ?_) (fun c6 => ?_)
  · rw [if_neg c6] at hF
    exact tb231_44 (l0 := l0) hd   hF q
  · rw [if_pos c6] at hF
    refine zx_aload_n rfl rfl rfl ?_
    replace hF := zbnd hF
    obtain ⟨x7, e8, hF⟩ := hF
    refine zy_getI rfl rfl e8 ?_
    refine zx_iconst (v := 0) rfl rfl rfl ?_
    refine zx_sipush (v := 10000) rfl rfl rfl ?_
    replace hF := zbnd hF
    obtain ⟨p10, e9, hF⟩ := hF
    refine zx_callE rfl rfl rfl rfl rfl rfl rfl (zc4 (Nat.le_of_ble_eq_true rfl)) (t187 (by omega) e9 (zaI ?_))
    refine zx_if_ne rfl rfl (fun c11 => ?_) (fun c11 => ?_)
    · rw [if_neg c11] at hF
      exact tb231_44 (l0 := l0) hd   hF q
    · rw [if_pos c11] at hF
      refine zx_aload_n rfl rfl rfl ?_
      refine zx_iconst (v := 4) rfl rfl rfl ?_
      replace hF := zgd_some hF
      obtain ⟨g12, hF⟩ := hF
      replace hF := zbnd hF
      obtain ⟨p14, e13, hF⟩ := hF
      refine zx_callE rfl rfl rfl rfl (zrcv_isO g12) rfl rfl (zc4 (Nat.le_of_ble_eq_true rfl)) (t195 (by omega) e13 (zaV ?_))
      exact tb231_44 (l0 := l0) hd   hF q
def f231 (n : Nat)  (y0 : Nat) (h : zH) : Option (Int32 × zH) :=
  (gI h y0 11 69).bind fun x1 =>
  if x1 = 2 then
    b231_14 n  y0 1 y0 h
  else
    b231_14 n  y0 0 y0 h
set_option maxRecDepth 20000 in
theorem t231 {d n : Nat} {Q : zRs → zH → Prop}  {y0 : Nat} (hd : 3 ≤ d)  {h : zH} {p : (Int32 × zH)} (hF : f231 n  y0 h = some p) (q : Q (eI p.1) p.2) : zC d 231 [.ref y0] h Q := by
  refine zC_of (L := [some (.ref y0)]) rfl rfl ?_
  unfold f231 at hF
  obtain ⟨d, rfl⟩ : ∃ e, d = e + 1 := ⟨d - 1, by omega⟩
  refine zx_aload_n rfl rfl rfl ?_
  refine zx_aload_n rfl rfl rfl ?_
  replace hF := zbnd hF
  obtain ⟨x1, e2, hF⟩ := hF
  refine zy_getI rfl rfl e2 ?_
  refine zx_iconst (v := 2) rfl rfl rfl ?_
  refine zx_ic_ne rfl rfl (fun c3 => ?_) (fun c3 => ?_)
  · rw [if_neg c3] at hF
    refine zx_iconst (v := 0) rfl rfl rfl ?_
    exact tb231_14 (l0 := y0) (s0 := 0) (s1 := y0) hd   hF q
  · rw [if_pos c3] at hF
    refine zx_iconst (v := 1) rfl rfl rfl ?_
    refine zx_goto rfl rfl ?_
    exact tb231_14 (l0 := y0) (s0 := 1) (s1 := y0) hd   hF q
def b232_146 (n : Nat)   (l0 : Nat) (l1 : Int32) (l2 : Int32) (h : zH) : Option (Int32 × zH) :=
  zgd (isO h l0 11) <|
  (f190 n l0 h).bind fun p3 =>
  some (l2, p3.2)
set_option maxRecDepth 20000 in
theorem tb232_146 {d n : Nat} {Q : zRs → zH → Prop}   {l0 : Nat} {l1 : Int32} {l2 : Int32}   (hd : 6 ≤ d)   {h : zH} {p : (Int32 × zH)}  (hF : b232_146 n   l0 l1 l2 h = some p) (q : Q (eI p.1) p.2) : zW d 232 146 [some (.ref l0), some (.int l1), some (.int l2)] [] h Q := by
  unfold b232_146 at hF
  obtain ⟨d, rfl⟩ : ∃ e, d = e + 1 := ⟨d - 1, by omega⟩
  refine zx_aload_n rfl rfl rfl ?_
  replace hF := zgd_some hF
  obtain ⟨g1, hF⟩ := hF
  replace hF := zbnd hF
  obtain ⟨p3, e2, hF⟩ := hF
  refine zx_callE rfl rfl rfl rfl (zrcv_isO g1) rfl rfl (zc4 (Nat.le_of_ble_eq_true rfl)) (t190 (by omega) e2 (zaV ?_))
  refine zx_iload_n rfl rfl rfl ?_
  replace hF := Option.some.inj hF
  subst hF
  exact zx_bret rfl rfl rfl rfl q
def b232_143 (n : Nat)   (l0 : Nat) (l1 : Int32) (l2 : Int32) (s0 : Int32) (s1 : Nat) (h : zH) : Option (Int32 × zH) :=
  zgd (isO h s1 11) <|
  (f200 n s1 s0 h).bind fun p3 =>
  b232_146 n  l0 l1 l2 p3.2
set_option maxRecDepth 20000 in
theorem tb232_143 {d n : Nat} {Q : zRs → zH → Prop}   {l0 : Nat} {l1 : Int32} {l2 : Int32} {s0 : Int32} {s1 : Nat}  (hd : 6 ≤ d)   {h : zH} {p : (Int32 × zH)}  (hF : b232_143 n   l0 l1 l2 s0 s1 h = some p) (q : Q (eI p.1) p.2) : zW d 232 143 [some (.ref l0), some (.int l1), some (.int l2)] [.int s0, .ref s1] h Q := by
  unfold b232_143 at hF
  obtain ⟨d, rfl⟩ : ∃ e, d = e + 1 := ⟨d - 1, by omega⟩
  replace hF := zgd_some hF
  obtain ⟨g1, hF⟩ := hF
  replace hF := zbnd hF
  obtain ⟨p3, e2, hF⟩ := hF
  refine zx_callE rfl rfl rfl rfl (zrcv_isO g1) rfl rfl (zc4 (Nat.le_of_ble_eq_true rfl)) (t200 (by omega) e2 (zaV ?_))
  exact tb232_146 (l0 := l0) (l1 := l1) (l2 := l2) hd   hF q
def b232_131 (n : Nat)   (l0 : Nat) (l1 : Int32) (l2 : Int32) (s0 : Int32) (h : zH) : Option (Int32 × zH) :=
  if s0 = (-1) then
    b232_143 n  l0 l1 s0 0 l0 h
  else
    b232_143 n  l0 l1 s0 1 l0 h
set_option maxRecDepth 20000 in
theorem tb232_131 {d n : Nat} {Q : zRs → zH → Prop}   {l0 : Nat} {l1 : Int32} {l2 : Int32} {s0 : Int32}  (hd : 6 ≤ d)   {h : zH} {p : (Int32 × zH)}  (hF : b232_131 n   l0 l1 l2 s0 h = some p) (q : Q (eI p.1) p.2) : zW d 232 131 [some (.ref l0), some (.int l1), some (.int l2)] [.int s0] h Q := by
  unfold b232_131 at hF
  obtain ⟨d, rfl⟩ : ∃ e, d = e + 1 := ⟨d - 1, by omega⟩
  refine zx_istore_n rfl rfl rfl ?_
  refine zx_aload_n rfl rfl rfl ?_
  refine zx_iload_n rfl rfl rfl ?_
  refine zx_iconst (v := (-1)) rfl rfl rfl ?_
  refine zx_ic_eq rfl rfl (fun c1 => ?_) (fun c1 => ?_)
  · rw [if_pos c1] at hF
    refine zx_iconst (v := 0) rfl rfl rfl ?_
    exact tb232_143 (l0 := l0) (l1 := l1) (l2 := s0) (s0 := 0) (s1 := l0) hd   hF q
  · rw [if_neg c1] at hF
    refine zx_iconst (v := 1) rfl rfl rfl ?_
    refine zx_goto rfl rfl ?_
    exact tb232_143 (l0 := l0) (l1 := l1) (l2 := s0) (s0 := 1) (s1 := l0) hd   hF q
def b232_83 (n : Nat)   (l0 : Nat) (l1 : Int32) (l2 : Int32) (s0 : Int32) (s1 : Nat) (h : zH) : Option (Int32 × zH) :=
  zgd (isO h s1 11) <|
  (f200 n s1 s0 h).bind fun p3 =>
  (gI p3.2 l0 11 72).bind fun x4 =>
  b232_146 n  l0 l1 x4 p3.2
set_option maxRecDepth 20000 in
theorem tb232_83 {d n : Nat} {Q : zRs → zH → Prop}   {l0 : Nat} {l1 : Int32} {l2 : Int32} {s0 : Int32} {s1 : Nat}  (hd : 6 ≤ d)   {h : zH} {p : (Int32 × zH)}  (hF : b232_83 n   l0 l1 l2 s0 s1 h = some p) (q : Q (eI p.1) p.2) : zW d 232 83 [some (.ref l0), some (.int l1), some (.int l2)] [.int s0, .ref s1] h Q := by
  unfold b232_83 at hF
  obtain ⟨d, rfl⟩ : ∃ e, d = e + 1 := ⟨d - 1, by omega⟩
  replace hF := zgd_some hF
  obtain ⟨g1, hF⟩ := hF
  replace hF := zbnd hF
  obtain ⟨p3, e2, hF⟩ := hF
  refine zx_callE rfl rfl rfl rfl (zrcv_isO g1) rfl rfl (zc4 (Nat.le_of_ble_eq_true rfl)) (t200 (by omega) e2 (zaV ?_))
  refine zx_aload_n rfl rfl rfl ?_
  replace hF := zbnd hF
  obtain ⟨x4, e5, hF⟩ := hF
  refine zy_getI rfl rfl e5 ?_
  refine zx_istore_n rfl rfl rfl ?_
  refine zx_goto rfl rfl ?_
  exact tb232_146 (l0 := l0) (l1 := l1) (l2 := x4) hd   hF q
def b232_55 (n : Nat)   (l0 : Nat) (l1 : Int32) (l2 : Int32) (s0 : Int32) (h : zH) : Option (Int32 × zH) :=
  b232_146 n  l0 l1 s0 h
set_option maxRecDepth 20000 in
theorem tb232_55 {d n : Nat} {Q : zRs → zH → Prop}   {l0 : Nat} {l1 : Int32} {l2 : Int32} {s0 : Int32}  (hd : 6 ≤ d)   {h : zH} {p : (Int32 × zH)}  (hF : b232_55 n   l0 l1 l2 s0 h = some p) (q : Q (eI p.1) p.2) : zW d 232 55 [some (.ref l0), some (.int l1), some (.int l2)] [.int s0] h Q := by
  unfold b232_55 at hF
  obtain ⟨d, rfl⟩ : ∃ e, d = e + 1 := ⟨d - 1, by omega⟩
  refine zx_istore_n rfl rfl rfl ?_
  refine zx_goto rfl rfl ?_
  exact tb232_146 (l0 := l0) (l1 := l1) (l2 := s0) hd   hF q
def b232_37 (n : Nat)   (l0 : Nat) (l1 : Int32) (l2 : Int32) (s0 : Int32) (s1 : Nat) (h : zH) : Option (Int32 × zH) :=
  zgd (isO h s1 11) <|
  (f200 n s1 s0 h).bind fun p3 =>
  zgd (isO p3.2 l0 11) <|
  (f213 n l0 (some 83) p3.2).bind fun p6 =>
  if p6.1 = 0 then
    b232_55 n  l0 l1 l2 0 p6.2
  else
    b232_55 n  l0 l1 l2 1 p6.2
set_option maxRecDepth 20000 in
theorem tb232_37 {d n : Nat} {Q : zRs → zH → Prop}   {l0 : Nat} {l1 : Int32} {l2 : Int32} {s0 : Int32} {s1 : Nat}  (hd : 6 ≤ d)   {h : zH} {p : (Int32 × zH)}  (hF : b232_37 n   l0 l1 l2 s0 s1 h = some p) (q : Q (eI p.1) p.2) : zW d 232 37 [some (.ref l0), some (.int l1), some (.int l2)] [.int s0, .ref s1] h Q := by
  unfold b232_37 at hF
  obtain ⟨d, rfl⟩ : ∃ e, d = e + 1 := ⟨d - 1, by omega⟩
  replace hF := zgd_some hF
  obtain ⟨g1, hF⟩ := hF
  replace hF := zbnd hF
  obtain ⟨p3, e2, hF⟩ := hF
  refine zx_callE rfl rfl rfl rfl (zrcv_isO g1) rfl rfl (zc4 (Nat.le_of_ble_eq_true rfl)) (t200 (by omega) e2 (zaV ?_))
  refine zx_aload_n rfl rfl rfl ?_
  refine zx_ldcw rfl rfl rfl ?_
  replace hF := zgd_some hF
  obtain ⟨g4, hF⟩ := hF
  replace hF := zbnd hF
  obtain ⟨p6, e5, hF⟩ := hF
  refine zx_callE rfl rfl rfl rfl (zrcv_isO g4) rfl rfl (zc4 (Nat.le_of_ble_eq_true rfl)) (t213 (by omega) e5 (zaI ?_))
  refine zx_if_eq rfl rfl (fun c7 => ?_) (fun c7 => ?_)
  · rw [if_pos c7] at hF
    refine zx_iconst (v := 0) rfl rfl rfl ?_
    exact tb232_55 (l0 := l0) (l1 := l1) (l2 := l2) (s0 := 0) hd   hF q
  · rw [if_neg c7] at hF
    refine zx_iconst (v := 1) rfl rfl rfl ?_
    refine zx_goto rfl rfl ?_
    exact tb232_55 (l0 := l0) (l1 := l1) (l2 := l2) (s0 := 1) hd   hF q
def b232_32 (n : Nat)   (l0 : Nat) (l1 : Int32) (l2 : Int32) (s0 : Nat) (h : zH) : Option (Int32 × zH) :=
  b232_37 n  l0 l1 l2 1 s0 h
set_option maxRecDepth 20000 in
theorem tb232_32 {d n : Nat} {Q : zRs → zH → Prop}   {l0 : Nat} {l1 : Int32} {l2 : Int32} {s0 : Nat}  (hd : 6 ≤ d)   {h : zH} {p : (Int32 × zH)}  (hF : b232_32 n   l0 l1 l2 s0 h = some p) (q : Q (eI p.1) p.2) : zW d 232 32 [some (.ref l0), some (.int l1), some (.int l2)] [.ref s0] h Q := by
  unfold b232_32 at hF
  obtain ⟨d, rfl⟩ : ∃ e, d = e + 1 := ⟨d - 1, by omega⟩
  refine zx_iconst (v := 1) rfl rfl rfl ?_
  refine zx_goto rfl rfl ?_
  exact tb232_37 (l0 := l0) (l1 := l1) (l2 := l2) (s0 := 1) (s1 := s0) hd   hF q
def f232 (n : Nat)  (y0 : Nat) (y1 : Int32) (h : zH) : Option (Int32 × zH) :=
  (gR h y0 11 15).bind fun x1 =>
  x1.bind fun a3 =>
  (aI h a3 y1).bind fun x4 =>
  if x4 = 0 then
    zgd (isO h y0 11) <|
    (f213 n y0 (some 83) h).bind fun p9 =>
    if p9.1 = 0 then
      zgd (isO p9.2 y0 11) <|
      (f213 n y0 (some 85) p9.2).bind fun p13 =>
      if p13.1 = 0 then
        b232_37 n  y0 y1 0 0 y0 p13.2
      else
        b232_32 n  y0 y1 0 y0 p13.2
    else
      b232_32 n  y0 y1 0 y0 p9.2
  else
    (gR h y0 11 15).bind fun x15 =>
    x15.bind fun a17 =>
    (aI h a17 y1).bind fun x18 =>
    if x18 = 1 then
      (gI h y0 11 69).bind fun x21 =>
      if x21 = 2 then
        b232_83 n  y0 y1 0 1 y0 h
      else
        b232_83 n  y0 y1 0 0 y0 h
    else
      zgd (isO h y0 11) <|
      (f203 n y0 h).bind fun p26 =>
      if p26.1 = 0 then
        b232_131 n  y0 y1 0 (-1) p26.2
      else
        (gR p26.2 y0 11 17).bind fun x28 =>
        (gR p26.2 y0 11 16).bind fun x30 =>
        x30.bind fun a32 =>
        (aI p26.2 a32 y1).bind fun x33 =>
        (gI p26.2 y0 11 70).bind fun x35 =>
        (gI p26.2 y0 11 71).bind fun x37 =>
        zgd (isO p26.2 y0 11) <|
        (f204 n y0 x28 (8 * y1) x33 x35 x37 p26.2).bind fun p41 =>
        b232_131 n  y0 y1 0 p41.1 p41.2
set_option maxRecDepth 20000 in
theorem t232 {d n : Nat} {Q : zRs → zH → Prop}  {y0 : Nat} {y1 : Int32} (hd : 6 ≤ d)  {h : zH} {p : (Int32 × zH)} (hF : f232 n  y0 y1 h = some p) (q : Q (eI p.1) p.2) : zC d 232 [.ref y0, .int y1] h Q := by
  refine zC_of (L := [some (.ref y0), some (.int y1), none]) rfl rfl ?_
  unfold f232 at hF
  obtain ⟨d, rfl⟩ : ∃ e, d = e + 1 := ⟨d - 1, by omega⟩
  refine zx_iconst (v := 0) rfl rfl rfl ?_
  refine zx_istore_n rfl rfl rfl ?_
  refine zx_aload_n rfl rfl rfl ?_
  replace hF := zbnd hF
  obtain ⟨x1, e2, hF⟩ := hF
  refine zy_getR rfl rfl e2 ?_
  refine zx_iload_n rfl rfl rfl ?_
  replace hF := zbnd hF
  obtain ⟨a3, rfl, hF⟩ := hF
  replace hF := zbnd hF
  obtain ⟨x4, e5, hF⟩ := hF
  refine zy_aI rfl rfl e5 ?_
  refine zx_if_ne rfl rfl (fun c6 => ?_) (fun c6 => ?_)
  · rw [if_neg c6] at hF
    refine zx_aload_n rfl rfl rfl ?_
    replace hF := zbnd hF
    obtain ⟨x15, e16, hF⟩ := hF
    refine zy_getR rfl rfl e16 ?_
    refine zx_iload_n rfl rfl rfl ?_
    replace hF := zbnd hF
    obtain ⟨a17, rfl, hF⟩ := hF
    replace hF := zbnd hF
    obtain ⟨x18, e19, hF⟩ := hF
    refine zy_aI rfl rfl e19 ?_
    refine zx_iconst (v := 1) rfl rfl rfl ?_
    refine zx_ic_ne rfl rfl (fun c20 => ?_) (fun c20 => ?_)
    · rw [if_neg c20] at hF
      refine zx_aload_n rfl rfl rfl ?_
      replace hF := zgd_some hF
      obtain ⟨g24, hF⟩ := hF
      replace hF := zbnd hF
      obtain ⟨p26, e25, hF⟩ := hF
      refine zx_callE rfl rfl rfl rfl (zrcv_isO g24) rfl rfl (zc4 (Nat.le_of_ble_eq_true rfl)) (t203 (by omega) e25 (zaI ?_))
      refine zx_if_eq rfl rfl (fun c27 => ?_) (fun c27 => ?_)
      · rw [if_pos c27] at hF
        refine zx_iconst (v := (-1)) rfl rfl rfl ?_
        exact tb232_131 (l0 := y0) (l1 := y1) (l2 := 0) (s0 := (-1)) hd   hF q
      · rw [if_neg c27] at hF
        refine zx_aload_n rfl rfl rfl ?_
        refine zx_aload_n rfl rfl rfl ?_
        replace hF := zbnd hF
        obtain ⟨x28, e29, hF⟩ := hF
        refine zy_getR rfl rfl e29 ?_
        refine zx_bipush (v := 8) rfl rfl rfl ?_
        refine zx_iload_n rfl rfl rfl ?_
        refine zx_imul rfl rfl ?_
        refine zx_aload_n rfl rfl rfl ?_
        replace hF := zbnd hF
        obtain ⟨x30, e31, hF⟩ := hF
        refine zy_getR rfl rfl e31 ?_
        refine zx_iload_n rfl rfl rfl ?_
        replace hF := zbnd hF
        obtain ⟨a32, rfl, hF⟩ := hF
        replace hF := zbnd hF
        obtain ⟨x33, e34, hF⟩ := hF
        refine zy_aI rfl rfl e34 ?_
        refine zx_aload_n rfl rfl rfl ?_
        replace hF := zbnd hF
        obtain ⟨x35, e36, hF⟩ := hF
        refine zy_getI rfl rfl e36 ?_
        refine zx_aload_n rfl rfl rfl ?_
        replace hF := zbnd hF
        obtain ⟨x37, e38, hF⟩ := hF
        refine zy_getI rfl rfl e38 ?_
        replace hF := zgd_some hF
        obtain ⟨g39, hF⟩ := hF
        replace hF := zbnd hF
        obtain ⟨p41, e40, hF⟩ := hF
        refine zx_callE rfl rfl rfl rfl (zrcv_isO g39) (congrArg (List.cons _) ((zsl_rf _ _).trans (congrArg (List.cons _) rfl))) rfl (zc4 (Nat.le_of_ble_eq_true rfl)) (t204 (by omega) e40 (zaI ?_))
        refine zx_goto rfl rfl ?_
        exact tb232_131 (l0 := y0) (l1 := y1) (l2 := 0) (s0 := p41.1) hd   hF q
    · rw [if_pos c20] at hF
      refine zx_aload_n rfl rfl rfl ?_
      refine zx_aload_n rfl rfl rfl ?_
      replace hF := zbnd hF
      obtain ⟨x21, e22, hF⟩ := hF
      refine zy_getI rfl rfl e22 ?_
      refine zx_iconst (v := 2) rfl rfl rfl ?_
      refine zx_ic_ne rfl rfl (fun c23 => ?_) (fun c23 => ?_)
      · rw [if_neg c23] at hF
        refine zx_iconst (v := 0) rfl rfl rfl ?_
        exact tb232_83 (l0 := y0) (l1 := y1) (l2 := 0) (s0 := 0) (s1 := y0) hd   hF q
      · rw [if_pos c23] at hF
        refine zx_iconst (v := 1) rfl rfl rfl ?_
        refine zx_goto rfl rfl ?_
        exact tb232_83 (l0 := y0) (l1 := y1) (l2 := 0) (s0 := 1) (s1 := y0) hd   hF q
  · rw [if_pos c6] at hF
    refine zx_aload_n rfl rfl rfl ?_
    refine zx_aload_n rfl rfl rfl ?_
    refine zx_ldcw rfl rfl rfl ?_
    replace hF := zgd_some hF
    obtain ⟨g7, hF⟩ := hF
    replace hF := zbnd hF
    obtain ⟨p9, e8, hF⟩ := hF
    refine zx_callE rfl rfl rfl rfl (zrcv_isO g7) rfl rfl (zc4 (Nat.le_of_ble_eq_true rfl)) (t213 (by omega) e8 (zaI ?_))
    refine zx_if_ne rfl rfl (fun c10 => ?_) (fun c10 => ?_)
    · rw [if_neg c10] at hF
      exact tb232_32 (l0 := y0) (l1 := y1) (l2 := 0) (s0 := y0) hd   hF q
    · rw [if_pos c10] at hF
      refine zx_aload_n rfl rfl rfl ?_
      refine zx_ldcw rfl rfl rfl ?_
      replace hF := zgd_some hF
      obtain ⟨g11, hF⟩ := hF
      replace hF := zbnd hF
      obtain ⟨p13, e12, hF⟩ := hF
      refine zx_callE rfl rfl rfl rfl (zrcv_isO g11) rfl rfl (zc4 (Nat.le_of_ble_eq_true rfl)) (t213 (by omega) e12 (zaI ?_))
      refine zx_if_eq rfl rfl (fun c14 => ?_) (fun c14 => ?_)
      · rw [if_pos c14] at hF
        refine zx_iconst (v := 0) rfl rfl rfl ?_
        exact tb232_37 (l0 := y0) (l1 := y1) (l2 := 0) (s0 := 0) (s1 := y0) hd   hF q
      · rw [if_neg c14] at hF
        exact tb232_32 (l0 := y0) (l1 := y1) (l2 := 0) (s0 := y0) hd   hF q
def b230_507 (n : Nat)   (l0 : Nat) (l1 : Int32) (l2 : Int32) (l3 : Int32) (l4 : Int32) (l5 : Int32) (l6 : Int32) (l7 : Int32) (l8 : Int32) (l9 : Int32) (h : zH) : Option (Int32 × zH) :=
  zgd (isO h l0 11) <|
  (f190 n l0 h).bind fun p3 =>
  some (l6, p3.2)
set_option maxRecDepth 20000 in
theorem tb230_507 {d n : Nat} {Q : zRs → zH → Prop}   {l0 : Nat} {l1 : Int32} {l2 : Int32} {l3 : Int32} {l4 : Int32} {l5 : Int32} {l6 : Int32} {l7 : Int32} {l8 : Int32} {l9 : Int32}  {x10 : Option Value} {x11 : Option Value} (hd : 7 ≤ d)   {h : zH} {p : (Int32 × zH)} (hx10 : zn2 x10 = true) (hx11 : zn2 x11 = true) (hF : b230_507 n   l0 l1 l2 l3 l4 l5 l6 l7 l8 l9 h = some p) (q : Q (eI p.1) p.2) : zW d 230 507 [some (.ref l0), some (.int l1), some (.int l2), some (.int l3), some (.int l4), some (.int l5), some (.int l6), some (.int l7), some (.int l8), some (.int l9), x10, x11] [] h Q := by
  unfold b230_507 at hF
  obtain ⟨d, rfl⟩ : ∃ e, d = e + 1 := ⟨d - 1, by omega⟩
  refine zx_aload_n rfl rfl rfl ?_
  replace hF := zgd_some hF
  obtain ⟨g1, hF⟩ := hF
  replace hF := zbnd hF
  obtain ⟨p3, e2, hF⟩ := hF
  refine zx_callE rfl rfl rfl rfl (zrcv_isO g1) rfl rfl (zc4 (Nat.le_of_ble_eq_true rfl)) (t190 (by omega) e2 (zaV ?_))
  refine zx_iload rfl rfl rfl ?_
  replace hF := Option.some.inj hF
  subst hF
  exact zx_bret rfl rfl rfl rfl q
def b230_476 (n : Nat)   (l0 : Nat) (l1 : Int32) (l2 : Int32) (l3 : Int32) (l4 : Int32) (l5 : Int32) (l6 : Int32) (l7 : Int32) (l8 : Int32) (l9 : Int32) (h : zH) : Option (Int32 × zH) :=
  zgd (isO h l0 11) <|
  (f209 n l0 41 h).bind fun p3 =>
  zgd (isO p3.2 l0 11) <|
  (f200 n l0 p3.1 p3.2).bind fun p6 =>
  (gI p6.2 l0 11 73).bind fun x7 =>
  if x7 = (-1) then
    if l8 = 10000 then
      b230_507 n  l0 l1 l2 l3 l4 l5 l6 l7 l8 l9 p6.2
    else
      zgd (isO p6.2 l0 11) <|
      (f195 n l0 4 p6.2).bind fun p13 =>
      b230_507 n  l0 l1 l2 l3 l4 l5 l6 l7 l8 l9 p13.2
  else
    b230_507 n  l0 l1 l2 l3 l4 l5 l6 l7 l8 l9 p6.2
set_option maxRecDepth 20000 in
theorem tb230_476 {d n : Nat} {Q : zRs → zH → Prop}   {l0 : Nat} {l1 : Int32} {l2 : Int32} {l3 : Int32} {l4 : Int32} {l5 : Int32} {l6 : Int32} {l7 : Int32} {l8 : Int32} {l9 : Int32}  {x10 : Option Value} {x11 : Option Value} (hd : 7 ≤ d)   {h : zH} {p : (Int32 × zH)} (hx10 : zn2 x10 = true) (hx11 : zn2 x11 = true) (hF : b230_476 n   l0 l1 l2 l3 l4 l5 l6 l7 l8 l9 h = some p) (q : Q (eI p.1) p.2) : zW d 230 476 [some (.ref l0), some (.int l1), some (.int l2), some (.int l3), some (.int l4), some (.int l5), some (.int l6), some (.int l7), some (.int l8), some (.int l9), x10, x11] [] h Q := by
  unfold b230_476 at hF
  obtain ⟨d, rfl⟩ : ∃ e, d = e + 1 := ⟨d - 1, by omega⟩
  refine zx_aload_n rfl rfl rfl ?_
  refine zx_aload_n rfl rfl rfl ?_
  refine zx_bipush (v := 41) rfl rfl rfl ?_
  replace hF := zgd_some hF
  obtain ⟨g1, hF⟩ := hF
  replace hF := zbnd hF
  obtain ⟨p3, e2, hF⟩ := hF
  refine zx_callE rfl rfl rfl rfl (zrcv_isO g1) rfl rfl (zc4 (Nat.le_of_ble_eq_true rfl)) (t209 (by omega) e2 (zaI ?_))
  replace hF := zgd_some hF
  obtain ⟨g4, hF⟩ := hF
  replace hF := zbnd hF
  obtain ⟨p6, e5, hF⟩ := hF
  refine zx_callE rfl rfl rfl rfl (zrcv_isO g4) rfl rfl (zc4 (Nat.le_of_ble_eq_true rfl)) (t200 (by omega) e5 (zaV ?_))
  refine zx_aload_n rfl rfl rfl ?_
  replace hF := zbnd hF
  obtain ⟨x7, e8, hF⟩ := hF
  refine zy_getI rfl rfl e8 ?_
  refine zx_iconst (v := (-1)) rfl rfl rfl ?_
  refine zx_ic_ne rfl rfl (fun c9 => ?_) (fun c9 => ?_)
  · rw [if_neg c9] at hF
    exact tb230_507 (l0 := l0) (l1 := l1) (l2 := l2) (l3 := l3) (l4 := l4) (l5 := l5) (l6 := l6) (l7 := l7) (l8 := l8) (l9 := l9) hd  hx10 hx11 hF q
  · rw [if_pos c9] at hF
    refine zx_iload rfl rfl rfl ?_
    refine zx_sipush (v := 10000) rfl rfl rfl ?_
    refine zx_ic_eq rfl rfl (fun c10 => ?_) (fun c10 => ?_)
    · rw [if_pos c10] at hF
      exact tb230_507 (l0 := l0) (l1 := l1) (l2 := l2) (l3 := l3) (l4 := l4) (l5 := l5) (l6 := l6) (l7 := l7) (l8 := l8) (l9 := l9) hd  hx10 hx11 hF q
    · rw [if_neg c10] at hF
      refine zx_aload_n rfl rfl rfl ?_
      refine zx_iconst (v := 4) rfl rfl rfl ?_
      replace hF := zgd_some hF
      obtain ⟨g11, hF⟩ := hF
      replace hF := zbnd hF
      obtain ⟨p13, e12, hF⟩ := hF
      refine zx_callE rfl rfl rfl rfl (zrcv_isO g11) rfl rfl (zc4 (Nat.le_of_ble_eq_true rfl)) (t195 (by omega) e12 (zaV ?_))
      exact tb230_507 (l0 := l0) (l1 := l1) (l2 := l2) (l3 := l3) (l4 := l4) (l5 := l5) (l6 := l6) (l7 := l7) (l8 := l8) (l9 := l9) hd  hx10 hx11 hF q
def b230_473 (n : Nat)  (r301 : Nat → Int32 → Int32 → Int32 → Int32 → Int32 → Int32 → Int32 → Int32 → Int32 → zH → Option (Int32 × zH)) (l0 : Nat) (l1 : Int32) (l2 : Int32) (l3 : Int32) (l4 : Int32) (l5 : Int32) (l6 : Int32) (l7 : Int32) (l8 : Int32) (l9 : Int32) (l10 : Int32) (l11 : Int32) (h : zH) : Option (Int32 × zH) :=
  r301 l0 l1 l2 l3 l4 l5 l6 l7 l8 l9 h
set_option maxRecDepth 20000 in
theorem tb230_473 {d n : Nat} {Q : zRs → zH → Prop}  {r301 : Nat → Int32 → Int32 → Int32 → Int32 → Int32 → Int32 → Int32 → Int32 → Int32 → zH → Option (Int32 × zH)} {l0 : Nat} {l1 : Int32} {l2 : Int32} {l3 : Int32} {l4 : Int32} {l5 : Int32} {l6 : Int32} {l7 : Int32} {l8 : Int32} {l9 : Int32} {l10 : Int32} {l11 : Int32}   (hd : 7 ≤ d)  (hr301 : ∀ {l0 : Nat} {l1 : Int32} {l2 : Int32} {l3 : Int32} {l4 : Int32} {l5 : Int32} {l6 : Int32} {l7 : Int32} {l8 : Int32} {l9 : Int32}  {x10 : Option Value} {x11 : Option Value} {h : zH} {p : (Int32 × zH)}, zn2 x10 = true → zn2 x11 = true → r301 l0 l1 l2 l3 l4 l5 l6 l7 l8 l9 h = some p → Q (eI p.1) p.2 → zW d 230 301 [some (.ref l0), some (.int l1), some (.int l2), some (.int l3), some (.int l4), some (.int l5), some (.int l6), some (.int l7), some (.int l8), some (.int l9), x10, x11] [] h Q) {h : zH} {p : (Int32 × zH)}  (hF : b230_473 n  r301 l0 l1 l2 l3 l4 l5 l6 l7 l8 l9 l10 l11 h = some p) (q : Q (eI p.1) p.2) : zW d 230 473 [some (.ref l0), some (.int l1), some (.int l2), some (.int l3), some (.int l4), some (.int l5), some (.int l6), some (.int l7), some (.int l8), some (.int l9), some (.int l10), some (.int l11)] [] h Q := by
  unfold b230_473 at hF
  obtain ⟨d, rfl⟩ : ∃ e, d = e + 1 := ⟨d - 1, by omega⟩
  refine zx_goto rfl rfl ?_
  exact hr301 rfl rfl hF q
def b230_462 (n : Nat)  (r301 : Nat → Int32 → Int32 → Int32 → Int32 → Int32 → Int32 → Int32 → Int32 → Int32 → zH → Option (Int32 × zH)) (l0 : Nat) (l1 : Int32) (l2 : Int32) (l3 : Int32) (l4 : Int32) (l5 : Int32) (l6 : Int32) (l7 : Int32) (l8 : Int32) (l9 : Int32) (l10 : Int32) (l11 : Int32) (s0 : Int32) (h : zH) : Option (Int32 × zH) :=
  if s0 = 0 then
    b230_473 n r301 l0 l1 l2 l3 l4 l5 l6 l7 l8 s0 l10 l11 h
  else
    zgd (isO h l0 11) <|
    (f190 n l0 h).bind fun p4 =>
    b230_473 n r301 l0 l1 l2 l3 l4 l5 l6 l7 l8 s0 l10 l11 p4.2
set_option maxRecDepth 20000 in
theorem tb230_462 {d n : Nat} {Q : zRs → zH → Prop}  {r301 : Nat → Int32 → Int32 → Int32 → Int32 → Int32 → Int32 → Int32 → Int32 → Int32 → zH → Option (Int32 × zH)} {l0 : Nat} {l1 : Int32} {l2 : Int32} {l3 : Int32} {l4 : Int32} {l5 : Int32} {l6 : Int32} {l7 : Int32} {l8 : Int32} {l9 : Int32} {l10 : Int32} {l11 : Int32} {s0 : Int32}  (hd : 7 ≤ d)  (hr301 : ∀ {l0 : Nat} {l1 : Int32} {l2 : Int32} {l3 : Int32} {l4 : Int32} {l5 : Int32} {l6 : Int32} {l7 : Int32} {l8 : Int32} {l9 : Int32}  {x10 : Option Value} {x11 : Option Value} {h : zH} {p : (Int32 × zH)}, zn2 x10 = true → zn2 x11 = true → r301 l0 l1 l2 l3 l4 l5 l6 l7 l8 l9 h = some p → Q (eI p.1) p.2 → zW d 230 301 [some (.ref l0), some (.int l1), some (.int l2), some (.int l3), some (.int l4), some (.int l5), some (.int l6), some (.int l7), some (.int l8), some (.int l9), x10, x11] [] h Q) {h : zH} {p : (Int32 × zH)}  (hF : b230_462 n  r301 l0 l1 l2 l3 l4 l5 l6 l7 l8 l9 l10 l11 s0 h = some p) (q : Q (eI p.1) p.2) : zW d 230 462 [some (.ref l0), some (.int l1), some (.int l2), some (.int l3), some (.int l4), some (.int l5), some (.int l6), some (.int l7), some (.int l8), some (.int l9), some (.int l10), some (.int l11)] [.int s0] h Q := by
  unfold b230_462 at hF
  obtain ⟨d, rfl⟩ : ∃ e, d = e + 1 := ⟨d - 1, by omega⟩
  refine zx_istore rfl rfl rfl ?_
  refine zx_iload rfl rfl rfl ?_
  refine zx_if_eq rfl rfl (fun c1 => ?_) (fun c1 => ?_)
  · rw [if_pos c1] at hF
    exact tb230_473 (l0 := l0) (l1 := l1) (l2 := l2) (l3 := l3) (l4 := l4) (l5 := l5) (l6 := l6) (l7 := l7) (l8 := l8) (l9 := s0) (l10 := l10) (l11 := l11) hd hr301  hF q
  · rw [if_neg c1] at hF
    refine zx_aload_n rfl rfl rfl ?_
    replace hF := zgd_some hF
    obtain ⟨g2, hF⟩ := hF
    replace hF := zbnd hF
    obtain ⟨p4, e3, hF⟩ := hF
    refine zx_callE rfl rfl rfl rfl (zrcv_isO g2) rfl rfl (zc4 (Nat.le_of_ble_eq_true rfl)) (t190 (by omega) e3 (zaV ?_))
    exact tb230_473 (l0 := l0) (l1 := l1) (l2 := l2) (l3 := l3) (l4 := l4) (l5 := l5) (l6 := l6) (l7 := l7) (l8 := l8) (l9 := s0) (l10 := l10) (l11 := l11) hd hr301  hF q
def b230_461 (n : Nat)  (r301 : Nat → Int32 → Int32 → Int32 → Int32 → Int32 → Int32 → Int32 → Int32 → Int32 → zH → Option (Int32 × zH)) (l0 : Nat) (l1 : Int32) (l2 : Int32) (l3 : Int32) (l4 : Int32) (l5 : Int32) (l6 : Int32) (l7 : Int32) (l8 : Int32) (l9 : Int32) (l10 : Int32) (l11 : Int32) (h : zH) : Option (Int32 × zH) :=
  b230_462 n r301 l0 l1 l2 l3 l4 l5 l6 l7 l8 l9 l10 l11 0 h
set_option maxRecDepth 20000 in
theorem tb230_461 {d n : Nat} {Q : zRs → zH → Prop}  {r301 : Nat → Int32 → Int32 → Int32 → Int32 → Int32 → Int32 → Int32 → Int32 → Int32 → zH → Option (Int32 × zH)} {l0 : Nat} {l1 : Int32} {l2 : Int32} {l3 : Int32} {l4 : Int32} {l5 : Int32} {l6 : Int32} {l7 : Int32} {l8 : Int32} {l9 : Int32} {l10 : Int32} {l11 : Int32}   (hd : 7 ≤ d)  (hr301 : ∀ {l0 : Nat} {l1 : Int32} {l2 : Int32} {l3 : Int32} {l4 : Int32} {l5 : Int32} {l6 : Int32} {l7 : Int32} {l8 : Int32} {l9 : Int32}  {x10 : Option Value} {x11 : Option Value} {h : zH} {p : (Int32 × zH)}, zn2 x10 = true → zn2 x11 = true → r301 l0 l1 l2 l3 l4 l5 l6 l7 l8 l9 h = some p → Q (eI p.1) p.2 → zW d 230 301 [some (.ref l0), some (.int l1), some (.int l2), some (.int l3), some (.int l4), some (.int l5), some (.int l6), some (.int l7), some (.int l8), some (.int l9), x10, x11] [] h Q) {h : zH} {p : (Int32 × zH)}  (hF : b230_461 n  r301 l0 l1 l2 l3 l4 l5 l6 l7 l8 l9 l10 l11 h = some p) (q : Q (eI p.1) p.2) : zW d 230 461 [some (.ref l0), some (.int l1), some (.int l2), some (.int l3), some (.int l4), some (.int l5), some (.int l6), some (.int l7), some (.int l8), some (.int l9), some (.int l10), some (.int l11)] [] h Q := by
  unfold b230_461 at hF
  obtain ⟨d, rfl⟩ : ∃ e, d = e + 1 := ⟨d - 1, by omega⟩
  refine zx_iconst (v := 0) rfl rfl rfl ?_
  exact tb230_462 (l0 := l0) (l1 := l1) (l2 := l2) (l3 := l3) (l4 := l4) (l5 := l5) (l6 := l6) (l7 := l7) (l8 := l8) (l9 := l9) (l10 := l10) (l11 := l11) (s0 := 0) hd hr301  hF q
def b230_440 (n : Nat)  (r301 : Nat → Int32 → Int32 → Int32 → Int32 → Int32 → Int32 → Int32 → Int32 → Int32 → zH → Option (Int32 × zH)) (l0 : Nat) (l1 : Int32) (l2 : Int32) (l3 : Int32) (l4 : Int32) (l5 : Int32) (l6 : Int32) (l7 : Int32) (l8 : Int32) (l9 : Int32) (l10 : Int32) (l11 : Int32) (h : zH) : Option (Int32 × zH) :=
  (gI h l0 11 73).bind fun x1 =>
  if x1 = (-1) then
    zgd (isO h l0 11) <|
    (f209 n l0 44 h).bind fun p6 =>
    if p6.1 = 0 then
      b230_461 n r301 l0 l1 l2 l3 l4 l5 l6 l7 l8 l9 l10 l11 p6.2
    else
      b230_462 n r301 l0 l1 l2 l3 l4 l5 l6 l7 l8 l9 l10 l11 1 p6.2
  else
    b230_461 n r301 l0 l1 l2 l3 l4 l5 l6 l7 l8 l9 l10 l11 h
set_option maxRecDepth 20000 in
theorem tb230_440 {d n : Nat} {Q : zRs → zH → Prop}  {r301 : Nat → Int32 → Int32 → Int32 → Int32 → Int32 → Int32 → Int32 → Int32 → Int32 → zH → Option (Int32 × zH)} {l0 : Nat} {l1 : Int32} {l2 : Int32} {l3 : Int32} {l4 : Int32} {l5 : Int32} {l6 : Int32} {l7 : Int32} {l8 : Int32} {l9 : Int32} {l10 : Int32} {l11 : Int32}   (hd : 7 ≤ d)  (hr301 : ∀ {l0 : Nat} {l1 : Int32} {l2 : Int32} {l3 : Int32} {l4 : Int32} {l5 : Int32} {l6 : Int32} {l7 : Int32} {l8 : Int32} {l9 : Int32}  {x10 : Option Value} {x11 : Option Value} {h : zH} {p : (Int32 × zH)}, zn2 x10 = true → zn2 x11 = true → r301 l0 l1 l2 l3 l4 l5 l6 l7 l8 l9 h = some p → Q (eI p.1) p.2 → zW d 230 301 [some (.ref l0), some (.int l1), some (.int l2), some (.int l3), some (.int l4), some (.int l5), some (.int l6), some (.int l7), some (.int l8), some (.int l9), x10, x11] [] h Q) {h : zH} {p : (Int32 × zH)}  (hF : b230_440 n  r301 l0 l1 l2 l3 l4 l5 l6 l7 l8 l9 l10 l11 h = some p) (q : Q (eI p.1) p.2) : zW d 230 440 [some (.ref l0), some (.int l1), some (.int l2), some (.int l3), some (.int l4), some (.int l5), some (.int l6), some (.int l7), some (.int l8), some (.int l9), some (.int l10), some (.int l11)] [] h Q := by
  unfold b230_440 at hF
  obtain ⟨d, rfl⟩ : ∃ e, d = e + 1 := ⟨d - 1, by omega⟩
  refine zx_aload_n rfl rfl rfl ?_
  replace hF := zbnd hF
  obtain ⟨x1, e2, hF⟩ := hF
  refine zy_getI rfl rfl e2 ?_
  refine zx_iconst (v := (-1)) rfl rfl rfl ?_
  refine zx_ic_ne rfl rfl (fun c3 => ?_) (fun c3 => ?_)
  · rw [if_neg c3] at hF
    exact tb230_461 (l0 := l0) (l1 := l1) (l2 := l2) (l3 := l3) (l4 := l4) (l5 := l5) (l6 := l6) (l7 := l7) (l8 := l8) (l9 := l9) (l10 := l10) (l11 := l11) hd hr301  hF q
  · rw [if_pos c3] at hF
    refine zx_aload_n rfl rfl rfl ?_
    refine zx_bipush (v := 44) rfl rfl rfl ?_
    replace hF := zgd_some hF
    obtain ⟨g4, hF⟩ := hF
    replace hF := zbnd hF
    obtain ⟨p6, e5, hF⟩ := hF
    refine zx_callE rfl rfl rfl rfl (zrcv_isO g4) rfl rfl (zc4 (Nat.le_of_ble_eq_true rfl)) (t209 (by omega) e5 (zaI ?_))
    refine zx_if_eq rfl rfl (fun c7 => ?_) (fun c7 => ?_)
    · rw [if_pos c7] at hF
      exact tb230_461 (l0 := l0) (l1 := l1) (l2 := l2) (l3 := l3) (l4 := l4) (l5 := l5) (l6 := l6) (l7 := l7) (l8 := l8) (l9 := l9) (l10 := l10) (l11 := l11) hd hr301  hF q
    · rw [if_neg c7] at hF
      refine zx_iconst (v := 1) rfl rfl rfl ?_
      refine zx_goto rfl rfl ?_
      exact tb230_462 (l0 := l0) (l1 := l1) (l2 := l2) (l3 := l3) (l4 := l4) (l5 := l5) (l6 := l6) (l7 := l7) (l8 := l8) (l9 := l9) (l10 := l10) (l11 := l11) (s0 := 1) hd hr301  hF q
def b230_372 (n : Nat)  (r301 : Nat → Int32 → Int32 → Int32 → Int32 → Int32 → Int32 → Int32 → Int32 → Int32 → zH → Option (Int32 × zH)) (l0 : Nat) (l1 : Int32) (l2 : Int32) (l3 : Int32) (l4 : Int32) (l5 : Int32) (l6 : Int32) (l7 : Int32) (l8 : Int32) (l9 : Int32) (l10 : Int32) (s0 : Int32) (h : zH) : Option (Int32 × zH) :=
  (gI h l0 11 73).bind fun x1 =>
  if x1 = (-1) then
    (gR h l0 11 51).bind fun x4 =>
    (gR h l0 11 50).bind fun x6 =>
    x6.bind fun a8 =>
    (aI h a8 l7).bind fun x9 =>
    x4.bind fun a11 =>
    (aS zsI h a11 ((8 * l7) + x9) (.int l10)).bind fun h12 =>
    (gR h12 l0 11 52).bind fun x14 =>
    (gR h12 l0 11 50).bind fun x16 =>
    x16.bind fun a18 =>
    (aI h12 a18 l7).bind fun x19 =>
    x14.bind fun a21 =>
    (aS zsI h12 a21 ((8 * l7) + x19) (.int s0)).bind fun h22 =>
    (gR h22 l0 11 50).bind fun x24 =>
    x24.bind fun a26 =>
    (aI h22 a26 l7).bind fun x27 =>
    (aS zsI h22 a26 l7 (.int (x27 + 1))).bind fun h29 =>
    b230_440 n r301 l0 l1 l2 l3 l4 l5 l6 l7 (l8 + l10) l9 l10 s0 h29
  else
    b230_440 n r301 l0 l1 l2 l3 l4 l5 l6 l7 l8 l9 l10 s0 h
set_option maxRecDepth 20000 in
theorem tb230_372 {d n : Nat} {Q : zRs → zH → Prop}  {r301 : Nat → Int32 → Int32 → Int32 → Int32 → Int32 → Int32 → Int32 → Int32 → Int32 → zH → Option (Int32 × zH)} {l0 : Nat} {l1 : Int32} {l2 : Int32} {l3 : Int32} {l4 : Int32} {l5 : Int32} {l6 : Int32} {l7 : Int32} {l8 : Int32} {l9 : Int32} {l10 : Int32} {s0 : Int32} {x11 : Option Value} (hd : 7 ≤ d)  (hr301 : ∀ {l0 : Nat} {l1 : Int32} {l2 : Int32} {l3 : Int32} {l4 : Int32} {l5 : Int32} {l6 : Int32} {l7 : Int32} {l8 : Int32} {l9 : Int32}  {x10 : Option Value} {x11 : Option Value} {h : zH} {p : (Int32 × zH)}, zn2 x10 = true → zn2 x11 = true → r301 l0 l1 l2 l3 l4 l5 l6 l7 l8 l9 h = some p → Q (eI p.1) p.2 → zW d 230 301 [some (.ref l0), some (.int l1), some (.int l2), some (.int l3), some (.int l4), some (.int l5), some (.int l6), some (.int l7), some (.int l8), some (.int l9), x10, x11] [] h Q) {h : zH} {p : (Int32 × zH)} (hx11 : zn2 x11 = true) (hF : b230_372 n  r301 l0 l1 l2 l3 l4 l5 l6 l7 l8 l9 l10 s0 h = some p) (q : Q (eI p.1) p.2) : zW d 230 372 [some (.ref l0), some (.int l1), some (.int l2), some (.int l3), some (.int l4), some (.int l5), some (.int l6), some (.int l7), some (.int l8), some (.int l9), some (.int l10), x11] [.int s0] h Q := by
  unfold b230_372 at hF
  obtain ⟨d, rfl⟩ : ∃ e, d = e + 1 := ⟨d - 1, by omega⟩
  refine zx_istore rfl rfl rfl ?_
  refine zx_aload_n rfl rfl rfl ?_
  replace hF := zbnd hF
  obtain ⟨x1, e2, hF⟩ := hF
  refine zy_getI rfl rfl e2 ?_
  refine zx_iconst (v := (-1)) rfl rfl rfl ?_
  refine zx_ic_ne rfl rfl (fun c3 => ?_) (fun c3 => ?_)
  · rw [if_neg c3] at hF
    exact tb230_440 (l0 := l0) (l1 := l1) (l2 := l2) (l3 := l3) (l4 := l4) (l5 := l5) (l6 := l6) (l7 := l7) (l8 := l8) (l9 := l9) (l10 := l10) (l11 := s0) hd hr301  hF q
  · rw [if_pos c3] at hF
    refine zx_aload_n rfl rfl rfl ?_
    replace hF := zbnd hF
    obtain ⟨x4, e5, hF⟩ := hF
    refine zy_getR rfl rfl e5 ?_
    refine zx_bipush (v := 8) rfl rfl rfl ?_
    refine zx_iload rfl rfl rfl ?_
    refine zx_imul rfl rfl ?_
    refine zx_aload_n rfl rfl rfl ?_
    replace hF := zbnd hF
    obtain ⟨x6, e7, hF⟩ := hF
    refine zy_getR rfl rfl e7 ?_
    refine zx_iload rfl rfl rfl ?_
    replace hF := zbnd hF
    obtain ⟨a8, rfl, hF⟩ := hF
    replace hF := zbnd hF
    obtain ⟨x9, e10, hF⟩ := hF
    refine zy_aI rfl rfl e10 ?_
    refine zx_iadd rfl rfl ?_
    refine zx_iload rfl rfl rfl ?_
    replace hF := zbnd hF
    obtain ⟨a11, rfl, hF⟩ := hF
    replace hF := zbnd hF
    obtain ⟨h12, e13, hF⟩ := hF
    refine zy_sI rfl rfl e13 ?_
    refine zx_aload_n rfl rfl rfl ?_
    replace hF := zbnd hF
    obtain ⟨x14, e15, hF⟩ := hF
    refine zy_getR rfl rfl e15 ?_
    refine zx_bipush (v := 8) rfl rfl rfl ?_
    refine zx_iload rfl rfl rfl ?_
    refine zx_imul rfl rfl ?_
    refine zx_aload_n rfl rfl rfl ?_
    replace hF := zbnd hF
    obtain ⟨x16, e17, hF⟩ := hF
    refine zy_getR rfl rfl e17 ?_
    refine zx_iload rfl rfl rfl ?_
    replace hF := zbnd hF
    obtain ⟨a18, rfl, hF⟩ := hF
    replace hF := zbnd hF
    obtain ⟨x19, e20, hF⟩ := hF
    refine zy_aI rfl rfl e20 ?_
    refine zx_iadd rfl rfl ?_
    refine zx_iload rfl rfl rfl ?_
    replace hF := zbnd hF
    obtain ⟨a21, rfl, hF⟩ := hF
    replace hF := zbnd hF
    obtain ⟨h22, e23, hF⟩ := hF
    refine zy_sI rfl rfl e23 ?_
    refine zx_aload_n rfl rfl rfl ?_
    replace hF := zbnd hF
    obtain ⟨x24, e25, hF⟩ := hF
    refine zy_getR rfl rfl e25 ?_
    refine zx_iload rfl rfl rfl ?_
    refine zx_dup2 rfl rfl (by rw [zc1_rf]; rfl) ?_
    replace hF := zbnd hF
    obtain ⟨a26, rfl, hF⟩ := hF
    replace hF := zbnd hF
    obtain ⟨x27, e28, hF⟩ := hF
    refine zy_aI rfl rfl e28 ?_
    refine zx_iconst (v := 1) rfl rfl rfl ?_
    refine zx_iadd rfl rfl ?_
    replace hF := zbnd hF
    obtain ⟨h29, e30, hF⟩ := hF
    refine zy_sI rfl rfl e30 ?_
    refine zx_iload rfl rfl rfl ?_
    refine zx_iload rfl rfl rfl ?_
    refine zx_iadd rfl rfl ?_
    refine zx_istore rfl rfl rfl ?_
    exact tb230_440 (l0 := l0) (l1 := l1) (l2 := l2) (l3 := l3) (l4 := l4) (l5 := l5) (l6 := l6) (l7 := l7) (l8 := (l8 + l10)) (l9 := l9) (l10 := l10) (l11 := s0) hd hr301  hF q
def b230_345 (n : Nat)  (r301 : Nat → Int32 → Int32 → Int32 → Int32 → Int32 → Int32 → Int32 → Int32 → Int32 → zH → Option (Int32 × zH)) (l0 : Nat) (l1 : Int32) (l2 : Int32) (l3 : Int32) (l4 : Int32) (l5 : Int32) (l6 : Int32) (l7 : Int32) (l8 : Int32) (l9 : Int32) (l10 : Int32) (h : zH) : Option (Int32 × zH) :=
  zgd (isO h l0 11) <|
  (f190 n l0 h).bind fun p3 =>
  zgd (isO p3.2 l0 11) <|
  (f208 n l0 58 p3.2).bind fun p6 =>
  (gI p6.2 l0 11 73).bind fun x7 =>
  if x7 = (-1) then
    zgd (isO p6.2 l0 11) <|
    (f232 n l0 l1 p6.2).bind fun p12 =>
    b230_372 n r301 l0 l1 l2 l3 l4 l5 l6 l7 l8 l9 l10 p12.1 p12.2
  else
    b230_372 n r301 l0 l1 l2 l3 l4 l5 l6 l7 l8 l9 l10 0 p6.2
set_option maxRecDepth 20000 in
theorem tb230_345 {d n : Nat} {Q : zRs → zH → Prop}  {r301 : Nat → Int32 → Int32 → Int32 → Int32 → Int32 → Int32 → Int32 → Int32 → Int32 → zH → Option (Int32 × zH)} {l0 : Nat} {l1 : Int32} {l2 : Int32} {l3 : Int32} {l4 : Int32} {l5 : Int32} {l6 : Int32} {l7 : Int32} {l8 : Int32} {l9 : Int32} {l10 : Int32}  {x11 : Option Value} (hd : 7 ≤ d)  (hr301 : ∀ {l0 : Nat} {l1 : Int32} {l2 : Int32} {l3 : Int32} {l4 : Int32} {l5 : Int32} {l6 : Int32} {l7 : Int32} {l8 : Int32} {l9 : Int32}  {x10 : Option Value} {x11 : Option Value} {h : zH} {p : (Int32 × zH)}, zn2 x10 = true → zn2 x11 = true → r301 l0 l1 l2 l3 l4 l5 l6 l7 l8 l9 h = some p → Q (eI p.1) p.2 → zW d 230 301 [some (.ref l0), some (.int l1), some (.int l2), some (.int l3), some (.int l4), some (.int l5), some (.int l6), some (.int l7), some (.int l8), some (.int l9), x10, x11] [] h Q) {h : zH} {p : (Int32 × zH)} (hx11 : zn2 x11 = true) (hF : b230_345 n  r301 l0 l1 l2 l3 l4 l5 l6 l7 l8 l9 l10 h = some p) (q : Q (eI p.1) p.2) : zW d 230 345 [some (.ref l0), some (.int l1), some (.int l2), some (.int l3), some (.int l4), some (.int l5), some (.int l6), some (.int l7), some (.int l8), some (.int l9), some (.int l10), x11] [] h Q := by
  unfold b230_345 at hF
  obtain ⟨d, rfl⟩ : ∃ e, d = e + 1 := ⟨d - 1, by omega⟩
  refine zx_aload_n rfl rfl rfl ?_
  replace hF := zgd_some hF
  obtain ⟨g1, hF⟩ := hF
  replace hF := zbnd hF
  obtain ⟨p3, e2, hF⟩ := hF
  refine zx_callE rfl rfl rfl rfl (zrcv_isO g1) rfl rfl (zc4 (Nat.le_of_ble_eq_true rfl)) (t190 (by omega) e2 (zaV ?_))
  refine zx_aload_n rfl rfl rfl ?_
  refine zx_bipush (v := 58) rfl rfl rfl ?_
  replace hF := zgd_some hF
  obtain ⟨g4, hF⟩ := hF
  replace hF := zbnd hF
  obtain ⟨p6, e5, hF⟩ := hF
  refine zx_callE rfl rfl rfl rfl (zrcv_isO g4) rfl rfl (zc4 (Nat.le_of_ble_eq_true rfl)) (t208 (by omega) e5 (zaV ?_))
  refine zx_aload_n rfl rfl rfl ?_
  replace hF := zbnd hF
  obtain ⟨x7, e8, hF⟩ := hF
  refine zy_getI rfl rfl e8 ?_
  refine zx_iconst (v := (-1)) rfl rfl rfl ?_
  refine zx_ic_ne rfl rfl (fun c9 => ?_) (fun c9 => ?_)
  · rw [if_neg c9] at hF
    refine zx_iconst (v := 0) rfl rfl rfl ?_
    exact tb230_372 (l0 := l0) (l1 := l1) (l2 := l2) (l3 := l3) (l4 := l4) (l5 := l5) (l6 := l6) (l7 := l7) (l8 := l8) (l9 := l9) (l10 := l10) (s0 := 0) hd hr301 hx11 hF q
  · rw [if_pos c9] at hF
    refine zx_aload_n rfl rfl rfl ?_
    refine zx_iload_n rfl rfl rfl ?_
    replace hF := zgd_some hF
    obtain ⟨g10, hF⟩ := hF
    replace hF := zbnd hF
    obtain ⟨p12, e11, hF⟩ := hF
    refine zx_callE rfl rfl rfl rfl (zrcv_isO g10) rfl rfl (zc4 (Nat.le_of_ble_eq_true rfl)) (t232 (by omega) e11 (zaI ?_))
    refine zx_goto rfl rfl ?_
    exact tb230_372 (l0 := l0) (l1 := l1) (l2 := l2) (l3 := l3) (l4 := l4) (l5 := l5) (l6 := l6) (l7 := l7) (l8 := l8) (l9 := l9) (l10 := l10) (s0 := p12.1) hd hr301 hx11 hF q
def b230_301 (n : Nat)  (r301 : Nat → Int32 → Int32 → Int32 → Int32 → Int32 → Int32 → Int32 → Int32 → Int32 → zH → Option (Int32 × zH)) (l0 : Nat) (l1 : Int32) (l2 : Int32) (l3 : Int32) (l4 : Int32) (l5 : Int32) (l6 : Int32) (l7 : Int32) (l8 : Int32) (l9 : Int32) (h : zH) : Option (Int32 × zH) :=
  if l9 = 0 then
    b230_476 n  l0 l1 l2 l3 l4 l5 l6 l7 l8 l9 h
  else
    (gI h l0 11 73).bind fun x2 =>
    if x2 = (-1) then
      zgd (isO h l0 11) <|
      (f231 n l0 h).bind fun p7 =>
      (gI p7.2 l0 11 73).bind fun x8 =>
      if x8 = (-1) then
        (gR p7.2 l0 11 50).bind fun x11 =>
        x11.bind fun a13 =>
        (aI p7.2 a13 l7).bind fun x14 =>
        if x14 = 8 then
          zgd (isO p7.2 l0 11) <|
          (f195 n l0 5 p7.2).bind fun p19 =>
          b230_345 n r301 l0 l1 l2 l3 l4 l5 l6 l7 l8 l9 p7.1 p19.2
        else
          b230_345 n r301 l0 l1 l2 l3 l4 l5 l6 l7 l8 l9 p7.1 p7.2
      else
        b230_345 n r301 l0 l1 l2 l3 l4 l5 l6 l7 l8 l9 p7.1 p7.2
    else
      b230_476 n  l0 l1 l2 l3 l4 l5 l6 l7 l8 l9 h
set_option maxRecDepth 20000 in
theorem tb230_301 {d n : Nat} {Q : zRs → zH → Prop}  {r301 : Nat → Int32 → Int32 → Int32 → Int32 → Int32 → Int32 → Int32 → Int32 → Int32 → zH → Option (Int32 × zH)} {l0 : Nat} {l1 : Int32} {l2 : Int32} {l3 : Int32} {l4 : Int32} {l5 : Int32} {l6 : Int32} {l7 : Int32} {l8 : Int32} {l9 : Int32}  {x10 : Option Value} {x11 : Option Value} (hd : 7 ≤ d)  (hr301 : ∀ {l0 : Nat} {l1 : Int32} {l2 : Int32} {l3 : Int32} {l4 : Int32} {l5 : Int32} {l6 : Int32} {l7 : Int32} {l8 : Int32} {l9 : Int32}  {x10 : Option Value} {x11 : Option Value} {h : zH} {p : (Int32 × zH)}, zn2 x10 = true → zn2 x11 = true → r301 l0 l1 l2 l3 l4 l5 l6 l7 l8 l9 h = some p → Q (eI p.1) p.2 → zW d 230 301 [some (.ref l0), some (.int l1), some (.int l2), some (.int l3), some (.int l4), some (.int l5), some (.int l6), some (.int l7), some (.int l8), some (.int l9), x10, x11] [] h Q) {h : zH} {p : (Int32 × zH)} (hx10 : zn2 x10 = true) (hx11 : zn2 x11 = true) (hF : b230_301 n  r301 l0 l1 l2 l3 l4 l5 l6 l7 l8 l9 h = some p) (q : Q (eI p.1) p.2) : zW d 230 301 [some (.ref l0), some (.int l1), some (.int l2), some (.int l3), some (.int l4), some (.int l5), some (.int l6), some (.int l7), some (.int l8), some (.int l9), x10, x11] [] h Q := by
  unfold b230_301 at hF
  obtain ⟨d, rfl⟩ : ∃ e, d = e + 1 := ⟨d - 1, by omega⟩
  refine zx_iload rfl rfl rfl ?_
  refine zx_if_eq rfl rfl (fun c1 => ?_) (fun c1 => ?_)
  · rw [if_pos c1] at hF
    exact tb230_476 (l0 := l0) (l1 := l1) (l2 := l2) (l3 := l3) (l4 := l4) (l5 := l5) (l6 := l6) (l7 := l7) (l8 := l8) (l9 := l9) hd  hx10 hx11 hF q
  · rw [if_neg c1] at hF
    refine zx_aload_n rfl rfl rfl ?_
    replace hF := zbnd hF
    obtain ⟨x2, e3, hF⟩ := hF
    refine zy_getI rfl rfl e3 ?_
    refine zx_iconst (v := (-1)) rfl rfl rfl ?_
    refine zx_ic_ne rfl rfl (fun c4 => ?_) (fun c4 => ?_)
    · rw [if_neg c4] at hF
      exact tb230_476 (l0 := l0) (l1 := l1) (l2 := l2) (l3 := l3) (l4 := l4) (l5 := l5) (l6 := l6) (l7 := l7) (l8 := l8) (l9 := l9) hd  hx10 hx11 hF q
    · rw [if_pos c4] at hF
      refine zx_aload_n rfl rfl rfl ?_
      replace hF := zgd_some hF
      obtain ⟨g5, hF⟩ := hF
      replace hF := zbnd hF
      obtain ⟨p7, e6, hF⟩ := hF
      refine zx_callE rfl rfl rfl rfl (zrcv_isO g5) rfl rfl (zc4 (Nat.le_of_ble_eq_true rfl)) (t231 (by omega) e6 (zaI ?_))
      refine zx_istore rfl rfl rfl ?_
      refine zx_aload_n rfl rfl rfl ?_
      replace hF := zbnd hF
      obtain ⟨x8, e9, hF⟩ := hF
      refine zy_getI rfl rfl e9 ?_
      refine zx_iconst (v := (-1)) rfl rfl rfl ?_
      refine zx_ic_ne rfl rfl (fun c10 => ?_) (fun c10 => ?_)
      · rw [if_neg c10] at hF
        exact tb230_345 (l0 := l0) (l1 := l1) (l2 := l2) (l3 := l3) (l4 := l4) (l5 := l5) (l6 := l6) (l7 := l7) (l8 := l8) (l9 := l9) (l10 := p7.1) hd hr301 hx11 hF q
      · rw [if_pos c10] at hF
        refine zx_aload_n rfl rfl rfl ?_
        replace hF := zbnd hF
        obtain ⟨x11, e12, hF⟩ := hF
        refine zy_getR rfl rfl e12 ?_
        refine zx_iload rfl rfl rfl ?_
        replace hF := zbnd hF
        obtain ⟨a13, rfl, hF⟩ := hF
        replace hF := zbnd hF
        obtain ⟨x14, e15, hF⟩ := hF
        refine zy_aI rfl rfl e15 ?_
        refine zx_bipush (v := 8) rfl rfl rfl ?_
        refine zx_ic_ne rfl rfl (fun c16 => ?_) (fun c16 => ?_)
        · rw [if_neg c16] at hF
          exact tb230_345 (l0 := l0) (l1 := l1) (l2 := l2) (l3 := l3) (l4 := l4) (l5 := l5) (l6 := l6) (l7 := l7) (l8 := l8) (l9 := l9) (l10 := p7.1) hd hr301 hx11 hF q
        · rw [if_pos c16] at hF
          refine zx_aload_n rfl rfl rfl ?_
          refine zx_iconst (v := 5) rfl rfl rfl ?_
          replace hF := zgd_some hF
          obtain ⟨g17, hF⟩ := hF
          replace hF := zbnd hF
          obtain ⟨p19, e18, hF⟩ := hF
          refine zx_callE rfl rfl rfl rfl (zrcv_isO g17) rfl rfl (zc4 (Nat.le_of_ble_eq_true rfl)) (t195 (by omega) e18 (zaV ?_))
          exact tb230_345 (l0 := l0) (l1 := l1) (l2 := l2) (l3 := l3) (l4 := l4) (l5 := l5) (l6 := l6) (l7 := l7) (l8 := l8) (l9 := l9) (l10 := p7.1) hd hr301 hx11 hF q
def f230_301 (n : Nat)   (k : Nat) : Nat → Int32 → Int32 → Int32 → Int32 → Int32 → Int32 → Int32 → Int32 → Int32 → zH → Option (Int32 × zH) := Nat.rec (fun _ _ _ _ _ _ _ _ _ _ _ => none) (fun _ ih => b230_301 n  ih) k
theorem tf230_301 {d n : Nat} {Q : zRs → zH → Prop}   (hd : 7 ≤ d)   (k : Nat) : ∀ {l0 : Nat} {l1 : Int32} {l2 : Int32} {l3 : Int32} {l4 : Int32} {l5 : Int32} {l6 : Int32} {l7 : Int32} {l8 : Int32} {l9 : Int32}  {x10 : Option Value} {x11 : Option Value} {h : zH} {p : (Int32 × zH)}, zn2 x10 = true → zn2 x11 = true → f230_301 n   k l0 l1 l2 l3 l4 l5 l6 l7 l8 l9 h = some p → Q (eI p.1) p.2 → zW d 230 301 [some (.ref l0), some (.int l1), some (.int l2), some (.int l3), some (.int l4), some (.int l5), some (.int l6), some (.int l7), some (.int l8), some (.int l9), x10, x11] [] h Q := by
  induction k with
  | zero => intros; rename_i hF _; cases hF
  | succ k ih => intros; rename_i hx10 hx11 hF q; exact tb230_301 (n := n) hd  ih hx10 hx11 hF q
def b230_285 (n : Nat)   (l0 : Nat) (l1 : Int32) (l2 : Int32) (l3 : Int32) (l4 : Int32) (l5 : Int32) (l6 : Int32) (l7 : Int32) (s0 : Int32) (s1 : Int32) (s2 : Option Nat) (h : zH) : Option (Int32 × zH) :=
  s2.bind fun a1 =>
  (aS zsI h a1 s1 (.int s0)).bind fun h2 =>
  some (l6, h2)
set_option maxRecDepth 20000 in
theorem tb230_285 {d n : Nat} {Q : zRs → zH → Prop}   {l0 : Nat} {l1 : Int32} {l2 : Int32} {l3 : Int32} {l4 : Int32} {l5 : Int32} {l6 : Int32} {l7 : Int32} {s0 : Int32} {s1 : Int32} {s2 : Option Nat} {x8 : Option Value} {x9 : Option Value} {x10 : Option Value} {x11 : Option Value} (hd : 7 ≤ d)   {h : zH} {p : (Int32 × zH)} (hx8 : zn2 x8 = true) (hx9 : zn2 x9 = true) (hx10 : zn2 x10 = true) (hx11 : zn2 x11 = true) (hF : b230_285 n   l0 l1 l2 l3 l4 l5 l6 l7 s0 s1 s2 h = some p) (q : Q (eI p.1) p.2) : zW d 230 285 [some (.ref l0), some (.int l1), some (.int l2), some (.int l3), some (.int l4), some (.int l5), some (.int l6), some (.int l7), x8, x9, x10, x11] [.int s0, .int s1, va_rf s2] h Q := by
  unfold b230_285 at hF
  obtain ⟨d, rfl⟩ : ∃ e, d = e + 1 := ⟨d - 1, by omega⟩
  replace hF := zbnd hF
  obtain ⟨a1, rfl, hF⟩ := hF
  replace hF := zbnd hF
  obtain ⟨h2, e3, hF⟩ := hF
  refine zy_sI rfl rfl e3 ?_
  refine zx_iload rfl rfl rfl ?_
  replace hF := Option.some.inj hF
  subst hF
  exact zx_bret rfl rfl rfl rfl q
def b230_109 (n : Nat)   (l0 : Nat) (l1 : Int32) (l2 : Int32) (l3 : Int32) (l4 : Int32) (s0 : Int32) (h : zH) : Option (Int32 × zH) :=
  zgd (isO h l0 11) <|
  (f190 n l0 h).bind fun p3 =>
  (gI p3.2 l0 11 73).bind fun x4 =>
  if x4 = (-1) then
    (gR p3.2 l0 11 46).bind fun x7 =>
    (gI p3.2 l0 11 4).bind fun x9 =>
    x7.bind fun a11 =>
    (aI p3.2 a11 x9).bind fun x12 =>
    (gI p3.2 l0 11 4).bind fun x14 =>
    (gR p3.2 l0 11 46).bind fun x16 =>
    (gI p3.2 l0 11 4).bind fun x18 =>
    x16.bind fun a20 =>
    (aI p3.2 a20 x18).bind fun x21 =>
    (aS zsI p3.2 a20 x18 (.int (x21 + 1))).bind fun h23 =>
    (gR h23 l0 11 47).bind fun x25 =>
    x25.bind fun a27 =>
    (aS zsB h23 a27 ((100 * x14) + x12) (.int l2)).bind fun h28 =>
    (gR h28 l0 11 48).bind fun x30 =>
    x30.bind fun a32 =>
    (aS zsI h28 a32 ((100 * x14) + x12) (.int l4)).bind fun h33 =>
    (gR h33 l0 11 49).bind fun x35 =>
    x35.bind fun a37 =>
    (aS zsI h33 a37 ((100 * x14) + x12) (.int s0)).bind fun h38 =>
    (gR h38 l0 11 50).bind fun x40 =>
    x40.bind fun a42 =>
    (aS zsI h38 a42 ((100 * x14) + x12) (.int 0)).bind fun h43 =>
    if l2 = 0 then
      zgd (isO h43 l0 11) <|
      (f208 n l0 40 h43).bind fun p48 =>
      f230_301 n  n l0 l1 l2 l3 l4 s0 x12 ((100 * x14) + x12) 0 1 p48.2
    else
      (gR h43 l0 11 50).bind fun x49 =>
      x49.bind fun a51 =>
      (aS zsI h43 a51 ((100 * x14) + x12) (.int 2)).bind fun h52 =>
      (gR h52 l0 11 51).bind fun x54 =>
      x54.bind fun a56 =>
      (aS zsI h52 a56 (8 * ((100 * x14) + x12)) (.int l3)).bind fun h57 =>
      (gR h57 l0 11 51).bind fun x59 =>
      x59.bind fun a61 =>
      (aS zsI h57 a61 ((8 * ((100 * x14) + x12)) + 1) (.int (10000 - l3))).bind fun h62 =>
      (gR h62 l0 11 52).bind fun x64 =>
      zgd (isO h62 l0 11) <|
      (f232 n l0 l1 h62).bind fun p68 =>
      x64.bind fun a69 =>
      (aS zsI p68.2 a69 (8 * ((100 * x14) + x12)) (.int p68.1)).bind fun h70 =>
      zgd (isO h70 l0 11) <|
      (f228 n l0 (some 81) h70).bind fun p74 =>
      (gR p74.2 l0 11 52).bind fun x75 =>
      (gI p74.2 l0 11 73).bind fun x77 =>
      if x77 = (-1) then
        zgd (isO p74.2 l0 11) <|
        (f232 n l0 l1 p74.2).bind fun p82 =>
        b230_285 n  l0 l1 l2 l3 l4 s0 x12 ((100 * x14) + x12) p82.1 ((8 * ((100 * x14) + x12)) + 1) x75 p82.2
      else
        b230_285 n  l0 l1 l2 l3 l4 s0 x12 ((100 * x14) + x12) 0 ((8 * ((100 * x14) + x12)) + 1) x75 p74.2
  else
    some (0, p3.2)
set_option maxRecDepth 20000 in
theorem tb230_109 {d n : Nat} {Q : zRs → zH → Prop}   {l0 : Nat} {l1 : Int32} {l2 : Int32} {l3 : Int32} {l4 : Int32} {s0 : Int32} {x5 : Option Value} {x6 : Option Value} {x7 : Option Value} {x8 : Option Value} {x9 : Option Value} {x10 : Option Value} {x11 : Option Value} (hd : 7 ≤ d)   {h : zH} {p : (Int32 × zH)} (hx5 : zn2 x5 = true) (hx6 : zn2 x6 = true) (hx7 : zn2 x7 = true) (hx8 : zn2 x8 = true) (hx9 : zn2 x9 = true) (hx10 : zn2 x10 = true) (hx11 : zn2 x11 = true) (hF : b230_109 n   l0 l1 l2 l3 l4 s0 h = some p) (q : Q (eI p.1) p.2) : zW d 230 109 [some (.ref l0), some (.int l1), some (.int l2), some (.int l3), some (.int l4), x5, x6, x7, x8, x9, x10, x11] [.int s0] h Q := by
  unfold b230_109 at hF
  obtain ⟨d, rfl⟩ : ∃ e, d = e + 1 := ⟨d - 1, by omega⟩
  refine zx_istore rfl rfl rfl ?_
  refine zx_aload_n rfl rfl rfl ?_
  replace hF := zgd_some hF
  obtain ⟨g1, hF⟩ := hF
  replace hF := zbnd hF
  obtain ⟨p3, e2, hF⟩ := hF
  refine zx_callE rfl rfl rfl rfl (zrcv_isO g1) rfl rfl (zc4 (Nat.le_of_ble_eq_true rfl)) (t190 (by omega) e2 (zaV ?_))
  refine zx_aload_n rfl rfl rfl ?_
  replace hF := zbnd hF
  obtain ⟨x4, e5, hF⟩ := hF
  refine zy_getI rfl rfl e5 ?_
  refine zx_iconst (v := (-1)) rfl rfl rfl ?_
  refine zx_ic_eq rfl rfl (fun c6 => ?_) (fun c6 => ?_)
  · rw [if_pos c6] at hF
    refine zx_aload_n rfl rfl rfl ?_
    replace hF := zbnd hF
    obtain ⟨x7, e8, hF⟩ := hF
    refine zy_getR rfl rfl e8 ?_
    refine zx_aload_n rfl rfl rfl ?_
    replace hF := zbnd hF
    obtain ⟨x9, e10, hF⟩ := hF
    refine zy_getI rfl rfl e10 ?_
    replace hF := zbnd hF
    obtain ⟨a11, rfl, hF⟩ := hF
    replace hF := zbnd hF
    obtain ⟨x12, e13, hF⟩ := hF
    refine zy_aI rfl rfl e13 ?_
    refine zx_istore rfl rfl rfl ?_
    refine zx_bipush (v := 100) rfl rfl rfl ?_
    refine zx_aload_n rfl rfl rfl ?_
    replace hF := zbnd hF
    obtain ⟨x14, e15, hF⟩ := hF
    refine zy_getI rfl rfl e15 ?_
    refine zx_imul rfl rfl ?_
    refine zx_iload rfl rfl rfl ?_
    refine zx_iadd rfl rfl ?_
    refine zx_istore rfl rfl rfl ?_
    refine zx_aload_n rfl rfl rfl ?_
    replace hF := zbnd hF
    obtain ⟨x16, e17, hF⟩ := hF
    refine zy_getR rfl rfl e17 ?_
    refine zx_aload_n rfl rfl rfl ?_
    replace hF := zbnd hF
    obtain ⟨x18, e19, hF⟩ := hF
    refine zy_getI rfl rfl e19 ?_
    refine zx_dup2 rfl rfl (by rw [zc1_rf]; rfl) ?_
    replace hF := zbnd hF
    obtain ⟨a20, rfl, hF⟩ := hF
    replace hF := zbnd hF
    obtain ⟨x21, e22, hF⟩ := hF
    refine zy_aI rfl rfl e22 ?_
    refine zx_iconst (v := 1) rfl rfl rfl ?_
    refine zx_iadd rfl rfl ?_
    replace hF := zbnd hF
    obtain ⟨h23, e24, hF⟩ := hF
    refine zy_sI rfl rfl e24 ?_
    refine zx_aload_n rfl rfl rfl ?_
    replace hF := zbnd hF
    obtain ⟨x25, e26, hF⟩ := hF
    refine zy_getR rfl rfl e26 ?_
    refine zx_iload rfl rfl rfl ?_
    refine zx_iload_n rfl rfl rfl ?_
    replace hF := zbnd hF
    obtain ⟨a27, rfl, hF⟩ := hF
    replace hF := zbnd hF
    obtain ⟨h28, e29, hF⟩ := hF
    refine zy_sB rfl rfl e29 ?_
    refine zx_aload_n rfl rfl rfl ?_
    replace hF := zbnd hF
    obtain ⟨x30, e31, hF⟩ := hF
    refine zy_getR rfl rfl e31 ?_
    refine zx_iload rfl rfl rfl ?_
    refine zx_iload rfl rfl rfl ?_
    replace hF := zbnd hF
    obtain ⟨a32, rfl, hF⟩ := hF
    replace hF := zbnd hF
    obtain ⟨h33, e34, hF⟩ := hF
    refine zy_sI rfl rfl e34 ?_
    refine zx_aload_n rfl rfl rfl ?_
    replace hF := zbnd hF
    obtain ⟨x35, e36, hF⟩ := hF
    refine zy_getR rfl rfl e36 ?_
    refine zx_iload rfl rfl rfl ?_
    refine zx_iload rfl rfl rfl ?_
    replace hF := zbnd hF
    obtain ⟨a37, rfl, hF⟩ := hF
    replace hF := zbnd hF
    obtain ⟨h38, e39, hF⟩ := hF
    refine zy_sI rfl rfl e39 ?_
    refine zx_aload_n rfl rfl rfl ?_
    replace hF := zbnd hF
    obtain ⟨x40, e41, hF⟩ := hF
    refine zy_getR rfl rfl e41 ?_
    refine zx_iload rfl rfl rfl ?_
    refine zx_iconst (v := 0) rfl rfl rfl ?_
    replace hF := zbnd hF
    obtain ⟨a42, rfl, hF⟩ := hF
    replace hF := zbnd hF
    obtain ⟨h43, e44, hF⟩ := hF
    refine zy_sI rfl rfl e44 ?_
    refine zx_iload_n rfl rfl rfl ?_
    refine zx_if_eq rfl rfl (fun c45 => ?_) (fun c45 => ?_)
    · rw [if_pos c45] at hF
      refine zx_aload_n rfl rfl rfl ?_
      refine zx_bipush (v := 40) rfl rfl rfl ?_
      replace hF := zgd_some hF
      obtain ⟨g46, hF⟩ := hF
      replace hF := zbnd hF
      obtain ⟨p48, e47, hF⟩ := hF
      refine zx_callE rfl rfl rfl rfl (zrcv_isO g46) rfl rfl (zc4 (Nat.le_of_ble_eq_true rfl)) (t208 (by omega) e47 (zaV ?_))
      refine zx_iconst (v := 0) rfl rfl rfl ?_
      refine zx_istore rfl rfl rfl ?_
      refine zx_iconst (v := 1) rfl rfl rfl ?_
      refine zx_istore rfl rfl rfl ?_
      exact tf230_301 hd  n (l0 := l0) (l1 := l1) (l2 := l2) (l3 := l3) (l4 := l4) (l5 := s0) (l6 := x12) (l7 := ((100 * x14) + x12)) (l8 := 0) (l9 := 1) hx10 hx11 hF q
    · rw [if_neg c45] at hF
      refine zx_aload_n rfl rfl rfl ?_
      replace hF := zbnd hF
      obtain ⟨x49, e50, hF⟩ := hF
      refine zy_getR rfl rfl e50 ?_
      refine zx_iload rfl rfl rfl ?_
      refine zx_iconst (v := 2) rfl rfl rfl ?_
      replace hF := zbnd hF
      obtain ⟨a51, rfl, hF⟩ := hF
      replace hF := zbnd hF
      obtain ⟨h52, e53, hF⟩ := hF
      refine zy_sI rfl rfl e53 ?_
      refine zx_aload_n rfl rfl rfl ?_
      replace hF := zbnd hF
      obtain ⟨x54, e55, hF⟩ := hF
      refine zy_getR rfl rfl e55 ?_
      refine zx_bipush (v := 8) rfl rfl rfl ?_
      refine zx_iload rfl rfl rfl ?_
      refine zx_imul rfl rfl ?_
      refine zx_iload_n rfl rfl rfl ?_
      replace hF := zbnd hF
      obtain ⟨a56, rfl, hF⟩ := hF
      replace hF := zbnd hF
      obtain ⟨h57, e58, hF⟩ := hF
      refine zy_sI rfl rfl e58 ?_
      refine zx_aload_n rfl rfl rfl ?_
      replace hF := zbnd hF
      obtain ⟨x59, e60, hF⟩ := hF
      refine zy_getR rfl rfl e60 ?_
      refine zx_bipush (v := 8) rfl rfl rfl ?_
      refine zx_iload rfl rfl rfl ?_
      refine zx_imul rfl rfl ?_
      refine zx_iconst (v := 1) rfl rfl rfl ?_
      refine zx_iadd rfl rfl ?_
      refine zx_sipush (v := 10000) rfl rfl rfl ?_
      refine zx_iload_n rfl rfl rfl ?_
      refine zx_isub rfl rfl ?_
      replace hF := zbnd hF
      obtain ⟨a61, rfl, hF⟩ := hF
      replace hF := zbnd hF
      obtain ⟨h62, e63, hF⟩ := hF
      refine zy_sI rfl rfl e63 ?_
      refine zx_aload_n rfl rfl rfl ?_
      replace hF := zbnd hF
      obtain ⟨x64, e65, hF⟩ := hF
      refine zy_getR rfl rfl e65 ?_
      refine zx_bipush (v := 8) rfl rfl rfl ?_
      refine zx_iload rfl rfl rfl ?_
      refine zx_imul rfl rfl ?_
      refine zx_aload_n rfl rfl rfl ?_
      refine zx_iload_n rfl rfl rfl ?_
      replace hF := zgd_some hF
      obtain ⟨g66, hF⟩ := hF
      replace hF := zbnd hF
      obtain ⟨p68, e67, hF⟩ := hF
      refine zx_callE rfl rfl rfl rfl (zrcv_isO g66) rfl rfl (zc4 (Nat.le_of_ble_eq_true rfl)) (t232 (by omega) e67 (zaI ?_))
      replace hF := zbnd hF
      obtain ⟨a69, rfl, hF⟩ := hF
      replace hF := zbnd hF
      obtain ⟨h70, e71, hF⟩ := hF
      refine zy_sI rfl rfl e71 ?_
      refine zx_aload_n rfl rfl rfl ?_
      refine zx_ldcw rfl rfl rfl ?_
      replace hF := zgd_some hF
      obtain ⟨g72, hF⟩ := hF
      replace hF := zbnd hF
      obtain ⟨p74, e73, hF⟩ := hF
      refine zx_callE rfl rfl rfl rfl (zrcv_isO g72) rfl rfl (zc4 (Nat.le_of_ble_eq_true rfl)) (t228 (by omega) e73 (zaV ?_))
      refine zx_aload_n rfl rfl rfl ?_
      replace hF := zbnd hF
      obtain ⟨x75, e76, hF⟩ := hF
      refine zy_getR rfl rfl e76 ?_
      refine zx_bipush (v := 8) rfl rfl rfl ?_
      refine zx_iload rfl rfl rfl ?_
      refine zx_imul rfl rfl ?_
      refine zx_iconst (v := 1) rfl rfl rfl ?_
      refine zx_iadd rfl rfl ?_
      refine zx_aload_n rfl rfl rfl ?_
      replace hF := zbnd hF
      obtain ⟨x77, e78, hF⟩ := hF
      refine zy_getI rfl rfl e78 ?_
      refine zx_iconst (v := (-1)) rfl rfl rfl ?_
      refine zx_ic_ne rfl rfl (fun c79 => ?_) (fun c79 => ?_)
      · rw [if_neg c79] at hF
        refine zx_iconst (v := 0) rfl rfl rfl ?_
        exact tb230_285 (l0 := l0) (l1 := l1) (l2 := l2) (l3 := l3) (l4 := l4) (l5 := s0) (l6 := x12) (l7 := ((100 * x14) + x12)) (s0 := 0) (s1 := ((8 * ((100 * x14) + x12)) + 1)) (s2 := x75) hd  hx8 hx9 hx10 hx11 hF q
      · rw [if_pos c79] at hF
        refine zx_aload_n rfl rfl rfl ?_
        refine zx_iload_n rfl rfl rfl ?_
        replace hF := zgd_some hF
        obtain ⟨g80, hF⟩ := hF
        replace hF := zbnd hF
        obtain ⟨p82, e81, hF⟩ := hF
        refine zx_callE rfl rfl rfl rfl (zrcv_isO g80) rfl rfl (zc4 (Nat.le_of_ble_eq_true rfl)) (t232 (by omega) e81 (zaI ?_))
        refine zx_goto rfl rfl ?_
        exact tb230_285 (l0 := l0) (l1 := l1) (l2 := l2) (l3 := l3) (l4 := l4) (l5 := s0) (l6 := x12) (l7 := ((100 * x14) + x12)) (s0 := p82.1) (s1 := ((8 * ((100 * x14) + x12)) + 1)) (s2 := x75) hd  hx8 hx9 hx10 hx11 hF q
  · rw [if_neg c6] at hF
    refine zx_iconst (v := 0) rfl rfl rfl ?_
    replace hF := Option.some.inj hF
    subst hF
    exact zx_bret rfl rfl rfl rfl q
def b230_90 (n : Nat)   (l0 : Nat) (l1 : Int32) (l2 : Int32) (l3 : Int32) (l4 : Int32) (s0 : Int32) (s1 : Nat) (h : zH) : Option (Int32 × zH) :=
  zgd (isO h s1 11) <|
  (f200 n s1 s0 h).bind fun p3 =>
  (gI p3.2 l0 11 73).bind fun x4 =>
  if x4 = (-1) then
    zgd (isO p3.2 l0 11) <|
    (f206 n l0 p3.2).bind fun p9 =>
    b230_109 n  l0 l1 l2 l3 l4 p9.1 p9.2
  else
    b230_109 n  l0 l1 l2 l3 l4 0 p3.2
set_option maxRecDepth 20000 in
theorem tb230_90 {d n : Nat} {Q : zRs → zH → Prop}   {l0 : Nat} {l1 : Int32} {l2 : Int32} {l3 : Int32} {l4 : Int32} {s0 : Int32} {s1 : Nat} {x5 : Option Value} {x6 : Option Value} {x7 : Option Value} {x8 : Option Value} {x9 : Option Value} {x10 : Option Value} {x11 : Option Value} (hd : 7 ≤ d)   {h : zH} {p : (Int32 × zH)} (hx5 : zn2 x5 = true) (hx6 : zn2 x6 = true) (hx7 : zn2 x7 = true) (hx8 : zn2 x8 = true) (hx9 : zn2 x9 = true) (hx10 : zn2 x10 = true) (hx11 : zn2 x11 = true) (hF : b230_90 n   l0 l1 l2 l3 l4 s0 s1 h = some p) (q : Q (eI p.1) p.2) : zW d 230 90 [some (.ref l0), some (.int l1), some (.int l2), some (.int l3), some (.int l4), x5, x6, x7, x8, x9, x10, x11] [.int s0, .ref s1] h Q := by
  unfold b230_90 at hF
  obtain ⟨d, rfl⟩ : ∃ e, d = e + 1 := ⟨d - 1, by omega⟩
  replace hF := zgd_some hF
  obtain ⟨g1, hF⟩ := hF
  replace hF := zbnd hF
  obtain ⟨p3, e2, hF⟩ := hF
  refine zx_callE rfl rfl rfl rfl (zrcv_isO g1) rfl rfl (zc4 (Nat.le_of_ble_eq_true rfl)) (t200 (by omega) e2 (zaV ?_))
  refine zx_aload_n rfl rfl rfl ?_
  replace hF := zbnd hF
  obtain ⟨x4, e5, hF⟩ := hF
  refine zy_getI rfl rfl e5 ?_
  refine zx_iconst (v := (-1)) rfl rfl rfl ?_
  refine zx_ic_ne rfl rfl (fun c6 => ?_) (fun c6 => ?_)
  · rw [if_neg c6] at hF
    refine zx_iconst (v := 0) rfl rfl rfl ?_
    exact tb230_109 (l0 := l0) (l1 := l1) (l2 := l2) (l3 := l3) (l4 := l4) (s0 := 0) hd  hx5 hx6 hx7 hx8 hx9 hx10 hx11 hF q
  · rw [if_pos c6] at hF
    refine zx_aload_n rfl rfl rfl ?_
    replace hF := zgd_some hF
    obtain ⟨g7, hF⟩ := hF
    replace hF := zbnd hF
    obtain ⟨p9, e8, hF⟩ := hF
    refine zx_callE rfl rfl rfl rfl (zrcv_isO g7) rfl rfl (zc4 (Nat.le_of_ble_eq_true rfl)) (t206 (by omega) e8 (zaI ?_))
    refine zx_goto rfl rfl ?_
    exact tb230_109 (l0 := l0) (l1 := l1) (l2 := l2) (l3 := l3) (l4 := l4) (s0 := p9.1) hd  hx5 hx6 hx7 hx8 hx9 hx10 hx11 hF q
def b230_70 (n : Nat)   (l0 : Nat) (l1 : Int32) (l2 : Int32) (l3 : Int32) (s0 : Int32) (h : zH) : Option (Int32 × zH) :=
  zgd (isO h l0 11) <|
  (f190 n l0 h).bind fun p3 =>
  (gI p3.2 l0 11 69).bind fun x4 =>
  if x4 = 3 then
    b230_90 n  l0 l1 l2 l3 s0 1 l0 p3.2
  else
    b230_90 n  l0 l1 l2 l3 s0 0 l0 p3.2
set_option maxRecDepth 20000 in
theorem tb230_70 {d n : Nat} {Q : zRs → zH → Prop}   {l0 : Nat} {l1 : Int32} {l2 : Int32} {l3 : Int32} {s0 : Int32} {x4 : Option Value} {x5 : Option Value} {x6 : Option Value} {x7 : Option Value} {x8 : Option Value} {x9 : Option Value} {x10 : Option Value} {x11 : Option Value} (hd : 7 ≤ d)   {h : zH} {p : (Int32 × zH)} (hx4 : zn2 x4 = true) (hx5 : zn2 x5 = true) (hx6 : zn2 x6 = true) (hx7 : zn2 x7 = true) (hx8 : zn2 x8 = true) (hx9 : zn2 x9 = true) (hx10 : zn2 x10 = true) (hx11 : zn2 x11 = true) (hF : b230_70 n   l0 l1 l2 l3 s0 h = some p) (q : Q (eI p.1) p.2) : zW d 230 70 [some (.ref l0), some (.int l1), some (.int l2), some (.int l3), x4, x5, x6, x7, x8, x9, x10, x11] [.int s0] h Q := by
  unfold b230_70 at hF
  obtain ⟨d, rfl⟩ : ∃ e, d = e + 1 := ⟨d - 1, by omega⟩
  refine zx_istore rfl rfl rfl ?_
  refine zx_aload_n rfl rfl rfl ?_
  replace hF := zgd_some hF
  obtain ⟨g1, hF⟩ := hF
  replace hF := zbnd hF
  obtain ⟨p3, e2, hF⟩ := hF
  refine zx_callE rfl rfl rfl rfl (zrcv_isO g1) rfl rfl (zc4 (Nat.le_of_ble_eq_true rfl)) (t190 (by omega) e2 (zaV ?_))
  refine zx_aload_n rfl rfl rfl ?_
  refine zx_aload_n rfl rfl rfl ?_
  replace hF := zbnd hF
  obtain ⟨x4, e5, hF⟩ := hF
  refine zy_getI rfl rfl e5 ?_
  refine zx_iconst (v := 3) rfl rfl rfl ?_
  refine zx_ic_ne rfl rfl (fun c6 => ?_) (fun c6 => ?_)
  · rw [if_neg c6] at hF
    refine zx_iconst (v := 0) rfl rfl rfl ?_
    exact tb230_90 (l0 := l0) (l1 := l1) (l2 := l2) (l3 := l3) (l4 := s0) (s0 := 0) (s1 := l0) hd  hx5 hx6 hx7 hx8 hx9 hx10 hx11 hF q
  · rw [if_pos c6] at hF
    refine zx_iconst (v := 1) rfl rfl rfl ?_
    refine zx_goto rfl rfl ?_
    exact tb230_90 (l0 := l0) (l1 := l1) (l2 := l2) (l3 := l3) (l4 := s0) (s0 := 1) (s1 := l0) hd  hx5 hx6 hx7 hx8 hx9 hx10 hx11 hF q
def b230_46 (n : Nat)   (l0 : Nat) (l1 : Int32) (l2 : Int32) (l3 : Int32) (h : zH) : Option (Int32 × zH) :=
  zgd (isO h l0 11) <|
  (f203 n l0 h).bind fun p3 =>
  zgd (isO p3.2 l0 11) <|
  (f200 n l0 p3.1 p3.2).bind fun p6 =>
  (gI p6.2 l0 11 73).bind fun x7 =>
  if x7 = (-1) then
    zgd (isO p6.2 l0 11) <|
    (f206 n l0 p6.2).bind fun p12 =>
    b230_70 n  l0 l1 l2 l3 p12.1 p12.2
  else
    b230_70 n  l0 l1 l2 l3 0 p6.2
set_option maxRecDepth 20000 in
theorem tb230_46 {d n : Nat} {Q : zRs → zH → Prop}   {l0 : Nat} {l1 : Int32} {l2 : Int32} {l3 : Int32}  {x4 : Option Value} {x5 : Option Value} {x6 : Option Value} {x7 : Option Value} {x8 : Option Value} {x9 : Option Value} {x10 : Option Value} {x11 : Option Value} (hd : 7 ≤ d)   {h : zH} {p : (Int32 × zH)} (hx4 : zn2 x4 = true) (hx5 : zn2 x5 = true) (hx6 : zn2 x6 = true) (hx7 : zn2 x7 = true) (hx8 : zn2 x8 = true) (hx9 : zn2 x9 = true) (hx10 : zn2 x10 = true) (hx11 : zn2 x11 = true) (hF : b230_46 n   l0 l1 l2 l3 h = some p) (q : Q (eI p.1) p.2) : zW d 230 46 [some (.ref l0), some (.int l1), some (.int l2), some (.int l3), x4, x5, x6, x7, x8, x9, x10, x11] [] h Q := by
  unfold b230_46 at hF
  obtain ⟨d, rfl⟩ : ∃ e, d = e + 1 := ⟨d - 1, by omega⟩
  refine zx_aload_n rfl rfl rfl ?_
  refine zx_aload_n rfl rfl rfl ?_
  replace hF := zgd_some hF
  obtain ⟨g1, hF⟩ := hF
  replace hF := zbnd hF
  obtain ⟨p3, e2, hF⟩ := hF
  refine zx_callE rfl rfl rfl rfl (zrcv_isO g1) rfl rfl (zc4 (Nat.le_of_ble_eq_true rfl)) (t203 (by omega) e2 (zaI ?_))
  replace hF := zgd_some hF
  obtain ⟨g4, hF⟩ := hF
  replace hF := zbnd hF
  obtain ⟨p6, e5, hF⟩ := hF
  refine zx_callE rfl rfl rfl rfl (zrcv_isO g4) rfl rfl (zc4 (Nat.le_of_ble_eq_true rfl)) (t200 (by omega) e5 (zaV ?_))
  refine zx_aload_n rfl rfl rfl ?_
  replace hF := zbnd hF
  obtain ⟨x7, e8, hF⟩ := hF
  refine zy_getI rfl rfl e8 ?_
  refine zx_iconst (v := (-1)) rfl rfl rfl ?_
  refine zx_ic_ne rfl rfl (fun c9 => ?_) (fun c9 => ?_)
  · rw [if_neg c9] at hF
    refine zx_iconst (v := 0) rfl rfl rfl ?_
    exact tb230_70 (l0 := l0) (l1 := l1) (l2 := l2) (l3 := l3) (s0 := 0) hd  hx4 hx5 hx6 hx7 hx8 hx9 hx10 hx11 hF q
  · rw [if_pos c9] at hF
    refine zx_aload_n rfl rfl rfl ?_
    replace hF := zgd_some hF
    obtain ⟨g10, hF⟩ := hF
    replace hF := zbnd hF
    obtain ⟨p12, e11, hF⟩ := hF
    refine zx_callE rfl rfl rfl rfl (zrcv_isO g10) rfl rfl (zc4 (Nat.le_of_ble_eq_true rfl)) (t206 (by omega) e11 (zaI ?_))
    refine zx_goto rfl rfl ?_
    exact tb230_70 (l0 := l0) (l1 := l1) (l2 := l2) (l3 := l3) (s0 := p12.1) hd  hx4 hx5 hx6 hx7 hx8 hx9 hx10 hx11 hF q
def b230_19 (n : Nat)   (l0 : Nat) (l1 : Int32) (l2 : Int32) (h : zH) : Option (Int32 × zH) :=
  zgd (isO h l0 11) <|
  (f190 n l0 h).bind fun p3 =>
  if l2 = 0 then
    b230_46 n  l0 l1 l2 0 p3.2
  else
    (gI p3.2 l0 11 73).bind fun x5 =>
    if x5 = (-1) then
      zgd (isO p3.2 l0 11) <|
      (f231 n l0 p3.2).bind fun p10 =>
      zgd (isO p10.2 l0 11) <|
      (f190 n l0 p10.2).bind fun p13 =>
      b230_46 n  l0 l1 l2 p10.1 p13.2
    else
      b230_46 n  l0 l1 l2 0 p3.2
set_option maxRecDepth 20000 in
theorem tb230_19 {d n : Nat} {Q : zRs → zH → Prop}   {l0 : Nat} {l1 : Int32} {l2 : Int32}  {x3 : Option Value} {x4 : Option Value} {x5 : Option Value} {x6 : Option Value} {x7 : Option Value} {x8 : Option Value} {x9 : Option Value} {x10 : Option Value} {x11 : Option Value} (hd : 7 ≤ d)   {h : zH} {p : (Int32 × zH)} (hx3 : zn2 x3 = true) (hx4 : zn2 x4 = true) (hx5 : zn2 x5 = true) (hx6 : zn2 x6 = true) (hx7 : zn2 x7 = true) (hx8 : zn2 x8 = true) (hx9 : zn2 x9 = true) (hx10 : zn2 x10 = true) (hx11 : zn2 x11 = true) (hF : b230_19 n   l0 l1 l2 h = some p) (q : Q (eI p.1) p.2) : zW d 230 19 [some (.ref l0), some (.int l1), some (.int l2), x3, x4, x5, x6, x7, x8, x9, x10, x11] [] h Q := by
  unfold b230_19 at hF
  obtain ⟨d, rfl⟩ : ∃ e, d = e + 1 := ⟨d - 1, by omega⟩
  refine zx_aload_n rfl rfl rfl ?_
  replace hF := zgd_some hF
  obtain ⟨g1, hF⟩ := hF
  replace hF := zbnd hF
  obtain ⟨p3, e2, hF⟩ := hF
  refine zx_callE rfl rfl rfl rfl (zrcv_isO g1) rfl rfl (zc4 (Nat.le_of_ble_eq_true rfl)) (t190 (by omega) e2 (zaV ?_))
  refine zx_iconst (v := 0) rfl rfl rfl ?_
  refine zx_istore_n rfl rfl rfl ?_
  refine zx_iload_n rfl rfl rfl ?_
  refine zx_if_eq rfl rfl (fun c4 => ?_) (fun c4 => ?_)
  · rw [if_pos c4] at hF
    exact tb230_46 (l0 := l0) (l1 := l1) (l2 := l2) (l3 := 0) hd  hx4 hx5 hx6 hx7 hx8 hx9 hx10 hx11 hF q
  · rw [if_neg c4] at hF
    refine zx_aload_n rfl rfl rfl ?_
    replace hF := zbnd hF
    obtain ⟨x5, e6, hF⟩ := hF
    refine zy_getI rfl rfl e6 ?_
    refine zx_iconst (v := (-1)) rfl rfl rfl ?_
    refine zx_ic_ne rfl rfl (fun c7 => ?_) (fun c7 => ?_)
    · rw [if_neg c7] at hF
      exact tb230_46 (l0 := l0) (l1 := l1) (l2 := l2) (l3 := 0) hd  hx4 hx5 hx6 hx7 hx8 hx9 hx10 hx11 hF q
    · rw [if_pos c7] at hF
      refine zx_aload_n rfl rfl rfl ?_
      replace hF := zgd_some hF
      obtain ⟨g8, hF⟩ := hF
      replace hF := zbnd hF
      obtain ⟨p10, e9, hF⟩ := hF
      refine zx_callE rfl rfl rfl rfl (zrcv_isO g8) rfl rfl (zc4 (Nat.le_of_ble_eq_true rfl)) (t231 (by omega) e9 (zaI ?_))
      refine zx_istore_n rfl rfl rfl ?_
      refine zx_aload_n rfl rfl rfl ?_
      replace hF := zgd_some hF
      obtain ⟨g11, hF⟩ := hF
      replace hF := zbnd hF
      obtain ⟨p13, e12, hF⟩ := hF
      refine zx_callE rfl rfl rfl rfl (zrcv_isO g11) rfl rfl (zc4 (Nat.le_of_ble_eq_true rfl)) (t190 (by omega) e12 (zaV ?_))
      exact tb230_46 (l0 := l0) (l1 := l1) (l2 := l2) (l3 := p10.1) hd  hx4 hx5 hx6 hx7 hx8 hx9 hx10 hx11 hF q
def f230 (n : Nat)  (y0 : Nat) (y1 : Int32) (y2 : Int32) (h : zH) : Option (Int32 × zH) :=
  (gR h y0 11 46).bind fun x1 =>
  (gI h y0 11 4).bind fun x3 =>
  x1.bind fun a5 =>
  (aI h a5 x3).bind fun x6 =>
  if x6 = 100 then
    zgd (isO h y0 11) <|
    (f195 n y0 5 h).bind fun p11 =>
    b230_19 n  y0 y1 y2 p11.2
  else
    b230_19 n  y0 y1 y2 h
set_option maxRecDepth 20000 in
theorem t230 {d n : Nat} {Q : zRs → zH → Prop}  {y0 : Nat} {y1 : Int32} {y2 : Int32} (hd : 7 ≤ d)  {h : zH} {p : (Int32 × zH)} (hF : f230 n  y0 y1 y2 h = some p) (q : Q (eI p.1) p.2) : zC d 230 [.ref y0, .int y1, .int y2] h Q := by
  refine zC_of (L := [some (.ref y0), some (.int y1), some (.int y2), none, none, none, none, none, none, none, none, none]) rfl rfl ?_
  unfold f230 at hF
  obtain ⟨d, rfl⟩ : ∃ e, d = e + 1 := ⟨d - 1, by omega⟩
  refine zx_aload_n rfl rfl rfl ?_
  replace hF := zbnd hF
  obtain ⟨x1, e2, hF⟩ := hF
  refine zy_getR rfl rfl e2 ?_
  refine zx_aload_n rfl rfl rfl ?_
  replace hF := zbnd hF
  obtain ⟨x3, e4, hF⟩ := hF
  refine zy_getI rfl rfl e4 ?_
  replace hF := zbnd hF
  obtain ⟨a5, rfl, hF⟩ := hF
  replace hF := zbnd hF
  obtain ⟨x6, e7, hF⟩ := hF
  refine zy_aI rfl rfl e7 ?_
  refine zx_bipush (v := 100) rfl rfl rfl ?_
  refine zx_ic_ne rfl rfl (fun c8 => ?_) (fun c8 => ?_)
  · rw [if_neg c8] at hF
    exact tb230_19 (l0 := y0) (l1 := y1) (l2 := y2) hd  rfl rfl rfl rfl rfl rfl rfl rfl rfl hF q
  · rw [if_pos c8] at hF
    refine zx_aload_n rfl rfl rfl ?_
    refine zx_iconst (v := 5) rfl rfl rfl ?_
    replace hF := zgd_some hF
    obtain ⟨g9, hF⟩ := hF
    replace hF := zbnd hF
    obtain ⟨p11, e10, hF⟩ := hF
    refine zx_callE rfl rfl rfl rfl (zrcv_isO g9) rfl rfl (zc4 (Nat.le_of_ble_eq_true rfl)) (t195 (by omega) e10 (zaV ?_))
    exact tb230_19 (l0 := y0) (l1 := y1) (l2 := y2) hd  rfl rfl rfl rfl rfl rfl rfl rfl rfl hF q
def b229_44 (n : Nat)   (l0 : Nat) (l1 : Int32) (l2 : Int32) (l3 : Int32) (l4 : Int32) (h : zH) : Option (Int32 × zH) :=
  (gI h l0 11 73).bind fun x1 =>
  if x1 = (-1) then
    (gI h l0 11 4).bind fun x4 =>
    (gR h l0 11 43).bind fun x6 =>
    (gI h l0 11 4).bind fun x8 =>
    x6.bind fun a10 =>
    (aI h a10 x8).bind fun x11 =>
    (gR h l0 11 44).bind fun x13 =>
    x13.bind fun a15 =>
    (aS zsI h a15 ((240 * x4) + x11) (.int l3)).bind fun h16 =>
    (gR h16 l0 11 45).bind fun x18 =>
    x18.bind fun a20 =>
    (aS zsI h16 a20 ((240 * x4) + x11) (.int l4)).bind fun h21 =>
    (gR h21 l0 11 43).bind fun x23 =>
    (gI h21 l0 11 4).bind fun x25 =>
    x23.bind fun a27 =>
    (aI h21 a27 x25).bind fun x28 =>
    (aS zsI h21 a27 x25 (.int (x28 + 1))).bind fun h30 =>
    (gR h30 l0 11 43).bind fun x32 =>
    (gI h30 l0 11 4).bind fun x34 =>
    x32.bind fun a36 =>
    (aI h30 a36 x34).bind fun x37 =>
    some ((x37 - 1), h30)
  else
    some (0, h)
set_option maxRecDepth 20000 in
theorem tb229_44 {d n : Nat} {Q : zRs → zH → Prop}   {l0 : Nat} {l1 : Int32} {l2 : Int32} {l3 : Int32} {l4 : Int32}  {x5 : Option Value} (hd : 8 ≤ d)   {h : zH} {p : (Int32 × zH)} (hx5 : zn2 x5 = true) (hF : b229_44 n   l0 l1 l2 l3 l4 h = some p) (q : Q (eI p.1) p.2) : zW d 229 44 [some (.ref l0), some (.int l1), some (.int l2), some (.int l3), some (.int l4), x5] [] h Q := by
  unfold b229_44 at hF
  obtain ⟨d, rfl⟩ : ∃ e, d = e + 1 := ⟨d - 1, by omega⟩
  refine zx_aload_n rfl rfl rfl ?_
  replace hF := zbnd hF
  obtain ⟨x1, e2, hF⟩ := hF
  refine zy_getI rfl rfl e2 ?_
  refine zx_iconst (v := (-1)) rfl rfl rfl ?_
  refine zx_ic_eq rfl rfl (fun c3 => ?_) (fun c3 => ?_)
  · rw [if_pos c3] at hF
    refine zx_sipush (v := 240) rfl rfl rfl ?_
    refine zx_aload_n rfl rfl rfl ?_
    replace hF := zbnd hF
    obtain ⟨x4, e5, hF⟩ := hF
    refine zy_getI rfl rfl e5 ?_
    refine zx_imul rfl rfl ?_
    refine zx_aload_n rfl rfl rfl ?_
    replace hF := zbnd hF
    obtain ⟨x6, e7, hF⟩ := hF
    refine zy_getR rfl rfl e7 ?_
    refine zx_aload_n rfl rfl rfl ?_
    replace hF := zbnd hF
    obtain ⟨x8, e9, hF⟩ := hF
    refine zy_getI rfl rfl e9 ?_
    replace hF := zbnd hF
    obtain ⟨a10, rfl, hF⟩ := hF
    replace hF := zbnd hF
    obtain ⟨x11, e12, hF⟩ := hF
    refine zy_aI rfl rfl e12 ?_
    refine zx_iadd rfl rfl ?_
    refine zx_istore rfl rfl rfl ?_
    refine zx_aload_n rfl rfl rfl ?_
    replace hF := zbnd hF
    obtain ⟨x13, e14, hF⟩ := hF
    refine zy_getR rfl rfl e14 ?_
    refine zx_iload rfl rfl rfl ?_
    refine zx_iload_n rfl rfl rfl ?_
    replace hF := zbnd hF
    obtain ⟨a15, rfl, hF⟩ := hF
    replace hF := zbnd hF
    obtain ⟨h16, e17, hF⟩ := hF
    refine zy_sI rfl rfl e17 ?_
    refine zx_aload_n rfl rfl rfl ?_
    replace hF := zbnd hF
    obtain ⟨x18, e19, hF⟩ := hF
    refine zy_getR rfl rfl e19 ?_
    refine zx_iload rfl rfl rfl ?_
    refine zx_iload rfl rfl rfl ?_
    replace hF := zbnd hF
    obtain ⟨a20, rfl, hF⟩ := hF
    replace hF := zbnd hF
    obtain ⟨h21, e22, hF⟩ := hF
    refine zy_sI rfl rfl e22 ?_
    refine zx_aload_n rfl rfl rfl ?_
    replace hF := zbnd hF
    obtain ⟨x23, e24, hF⟩ := hF
    refine zy_getR rfl rfl e24 ?_
    refine zx_aload_n rfl rfl rfl ?_
    replace hF := zbnd hF
    obtain ⟨x25, e26, hF⟩ := hF
    refine zy_getI rfl rfl e26 ?_
    refine zx_dup2 rfl rfl (by rw [zc1_rf]; rfl) ?_
    replace hF := zbnd hF
    obtain ⟨a27, rfl, hF⟩ := hF
    replace hF := zbnd hF
    obtain ⟨x28, e29, hF⟩ := hF
    refine zy_aI rfl rfl e29 ?_
    refine zx_iconst (v := 1) rfl rfl rfl ?_
    refine zx_iadd rfl rfl ?_
    replace hF := zbnd hF
    obtain ⟨h30, e31, hF⟩ := hF
    refine zy_sI rfl rfl e31 ?_
    refine zx_aload_n rfl rfl rfl ?_
    replace hF := zbnd hF
    obtain ⟨x32, e33, hF⟩ := hF
    refine zy_getR rfl rfl e33 ?_
    refine zx_aload_n rfl rfl rfl ?_
    replace hF := zbnd hF
    obtain ⟨x34, e35, hF⟩ := hF
    refine zy_getI rfl rfl e35 ?_
    replace hF := zbnd hF
    obtain ⟨a36, rfl, hF⟩ := hF
    replace hF := zbnd hF
    obtain ⟨x37, e38, hF⟩ := hF
    refine zy_aI rfl rfl e38 ?_
    refine zx_iconst (v := 1) rfl rfl rfl ?_
    refine zx_isub rfl rfl ?_
    replace hF := Option.some.inj hF
    subst hF
    exact zx_bret rfl rfl rfl rfl q
  · rw [if_neg c3] at hF
    refine zx_iconst (v := 0) rfl rfl rfl ?_
    replace hF := Option.some.inj hF
    subst hF
    exact zx_bret rfl rfl rfl rfl q
def b229_27 (n : Nat)   (l0 : Nat) (l1 : Int32) (l2 : Int32) (l3 : Int32) (l4 : Int32) (h : zH) : Option (Int32 × zH) :=
  zgd (isO h l0 11) <|
  (f230 n l0 l1 l2 h).bind fun p3 =>
  b229_44 n  l0 l1 l2 p3.1 l4 p3.2
set_option maxRecDepth 20000 in
theorem tb229_27 {d n : Nat} {Q : zRs → zH → Prop}   {l0 : Nat} {l1 : Int32} {l2 : Int32} {l3 : Int32} {l4 : Int32}  {x5 : Option Value} (hd : 8 ≤ d)   {h : zH} {p : (Int32 × zH)} (hx5 : zn2 x5 = true) (hF : b229_27 n   l0 l1 l2 l3 l4 h = some p) (q : Q (eI p.1) p.2) : zW d 229 27 [some (.ref l0), some (.int l1), some (.int l2), some (.int l3), some (.int l4), x5] [] h Q := by
  unfold b229_27 at hF
  obtain ⟨d, rfl⟩ : ∃ e, d = e + 1 := ⟨d - 1, by omega⟩
  refine zx_aload_n rfl rfl rfl ?_
  refine zx_iload_n rfl rfl rfl ?_
  refine zx_iload_n rfl rfl rfl ?_
  replace hF := zgd_some hF
  obtain ⟨g1, hF⟩ := hF
  replace hF := zbnd hF
  obtain ⟨p3, e2, hF⟩ := hF
  refine zx_callE rfl rfl rfl rfl (zrcv_isO g1) rfl rfl (zc4 (Nat.le_of_ble_eq_true rfl)) (t230 (by omega) e2 (zaI ?_))
  refine zx_istore_n rfl rfl rfl ?_
  refine zx_goto rfl rfl ?_
  exact tb229_44 (l0 := l0) (l1 := l1) (l2 := l2) (l3 := p3.1) (l4 := l4) hd  hx5 hF q
def f229 (n : Nat)  (y0 : Nat) (y1 : Int32) (h : zH) : Option (Int32 × zH) :=
  zgd (isO h y0 11) <|
  (f213 n y0 (some 77) h).bind fun p3 =>
  if p3.1 = 0 then
    zgd (isO p3.2 y0 11) <|
    (f213 n y0 (some 79) p3.2).bind fun p7 =>
    if p7.1 = 0 then
      zgd (isO p7.2 y0 11) <|
      (f232 n y0 y1 p7.2).bind fun p11 =>
      b229_44 n  y0 y1 p3.1 (-1) p11.1 p11.2
    else
      b229_27 n  y0 y1 p3.1 (-1) 0 p7.2
  else
    b229_27 n  y0 y1 p3.1 (-1) 0 p3.2
set_option maxRecDepth 20000 in
theorem t229 {d n : Nat} {Q : zRs → zH → Prop}  {y0 : Nat} {y1 : Int32} (hd : 8 ≤ d)  {h : zH} {p : (Int32 × zH)} (hF : f229 n  y0 y1 h = some p) (q : Q (eI p.1) p.2) : zC d 229 [.ref y0, .int y1] h Q := by
  refine zC_of (L := [some (.ref y0), some (.int y1), none, none, none, none]) rfl rfl ?_
  unfold f229 at hF
  obtain ⟨d, rfl⟩ : ∃ e, d = e + 1 := ⟨d - 1, by omega⟩
  refine zx_aload_n rfl rfl rfl ?_
  refine zx_ldcw rfl rfl rfl ?_
  replace hF := zgd_some hF
  obtain ⟨g1, hF⟩ := hF
  replace hF := zbnd hF
  obtain ⟨p3, e2, hF⟩ := hF
  refine zx_callE rfl rfl rfl rfl (zrcv_isO g1) rfl rfl (zc4 (Nat.le_of_ble_eq_true rfl)) (t213 (by omega) e2 (zaI ?_))
  refine zx_istore_n rfl rfl rfl ?_
  refine zx_iconst (v := (-1)) rfl rfl rfl ?_
  refine zx_istore_n rfl rfl rfl ?_
  refine zx_iconst (v := 0) rfl rfl rfl ?_
  refine zx_istore rfl rfl rfl ?_
  refine zx_iload_n rfl rfl rfl ?_
  refine zx_if_ne rfl rfl (fun c4 => ?_) (fun c4 => ?_)
  · rw [if_neg c4] at hF
    exact tb229_27 (l0 := y0) (l1 := y1) (l2 := p3.1) (l3 := (-1)) (l4 := 0) hd  rfl hF q
  · rw [if_pos c4] at hF
    refine zx_aload_n rfl rfl rfl ?_
    refine zx_ldcw rfl rfl rfl ?_
    replace hF := zgd_some hF
    obtain ⟨g5, hF⟩ := hF
    replace hF := zbnd hF
    obtain ⟨p7, e6, hF⟩ := hF
    refine zx_callE rfl rfl rfl rfl (zrcv_isO g5) rfl rfl (zc4 (Nat.le_of_ble_eq_true rfl)) (t213 (by omega) e6 (zaI ?_))
    refine zx_if_eq rfl rfl (fun c8 => ?_) (fun c8 => ?_)
    · rw [if_pos c8] at hF
      refine zx_aload_n rfl rfl rfl ?_
      refine zx_iload_n rfl rfl rfl ?_
      replace hF := zgd_some hF
      obtain ⟨g9, hF⟩ := hF
      replace hF := zbnd hF
      obtain ⟨p11, e10, hF⟩ := hF
      refine zx_callE rfl rfl rfl rfl (zrcv_isO g9) rfl rfl (zc4 (Nat.le_of_ble_eq_true rfl)) (t232 (by omega) e10 (zaI ?_))
      refine zx_istore rfl rfl rfl ?_
      exact tb229_44 (l0 := y0) (l1 := y1) (l2 := p3.1) (l3 := (-1)) (l4 := p11.1) hd  rfl hF q
    · rw [if_neg c8] at hF
      exact tb229_27 (l0 := y0) (l1 := y1) (l2 := p3.1) (l3 := (-1)) (l4 := 0) hd  rfl hF q
def b233_232 (n : Nat)   (l0 : Nat) (l1 : Int32) (l2 : Int32) (l3 : Int32) (s0 : Int32) (s1 : Int32) (s2 : Option Nat) (h : zH) : Option (Unit × zH) :=
  s2.bind fun a1 =>
  (aS zsI h a1 s1 (.int s0)).bind fun h2 =>
  (gR h2 l0 11 20).bind fun x4 =>
  x4.bind fun a6 =>
  (aI h2 a6 l1).bind fun x7 =>
  (aS zsI h2 a6 l1 (.int (x7 + 1))).bind fun h9 =>
  zgd (isO h9 l0 11) <|
  (f190 n l0 h9).bind fun p13 =>
  zgd (isO p13.2 l0 11) <|
  (f208 n l0 59 p13.2).bind fun p16 =>
  some ((), p16.2)
set_option maxRecDepth 20000 in
theorem tb233_232 {d n : Nat} {Q : zRs → zH → Prop}   {l0 : Nat} {l1 : Int32} {l2 : Int32} {l3 : Int32} {s0 : Int32} {s1 : Int32} {s2 : Option Nat}  (hd : 6 ≤ d)   {h : zH} {p : (Unit × zH)}  (hF : b233_232 n   l0 l1 l2 l3 s0 s1 s2 h = some p) (q : Q (eV p.1) p.2) : zW d 233 232 [some (.ref l0), some (.int l1), some (.int l2), some (.int l3)] [.int s0, .int s1, va_rf s2] h Q := by
  unfold b233_232 at hF
  obtain ⟨d, rfl⟩ : ∃ e, d = e + 1 := ⟨d - 1, by omega⟩
  replace hF := zbnd hF
  obtain ⟨a1, rfl, hF⟩ := hF
  replace hF := zbnd hF
  obtain ⟨h2, e3, hF⟩ := hF
  refine zy_sI rfl rfl e3 ?_
  refine zx_aload_n rfl rfl rfl ?_
  replace hF := zbnd hF
  obtain ⟨x4, e5, hF⟩ := hF
  refine zy_getR rfl rfl e5 ?_
  refine zx_iload_n rfl rfl rfl ?_
  refine zx_dup2 rfl rfl (by rw [zc1_rf]; rfl) ?_
  replace hF := zbnd hF
  obtain ⟨a6, rfl, hF⟩ := hF
  replace hF := zbnd hF
  obtain ⟨x7, e8, hF⟩ := hF
  refine zy_aI rfl rfl e8 ?_
  refine zx_iconst (v := 1) rfl rfl rfl ?_
  refine zx_iadd rfl rfl ?_
  replace hF := zbnd hF
  obtain ⟨h9, e10, hF⟩ := hF
  refine zy_sI rfl rfl e10 ?_
  refine zx_aload_n rfl rfl rfl ?_
  replace hF := zgd_some hF
  obtain ⟨g11, hF⟩ := hF
  replace hF := zbnd hF
  obtain ⟨p13, e12, hF⟩ := hF
  refine zx_callE rfl rfl rfl rfl (zrcv_isO g11) rfl rfl (zc4 (Nat.le_of_ble_eq_true rfl)) (t190 (by omega) e12 (zaV ?_))
  refine zx_aload_n rfl rfl rfl ?_
  refine zx_bipush (v := 59) rfl rfl rfl ?_
  replace hF := zgd_some hF
  obtain ⟨g14, hF⟩ := hF
  replace hF := zbnd hF
  obtain ⟨p16, e15, hF⟩ := hF
  refine zx_callE rfl rfl rfl rfl (zrcv_isO g14) rfl rfl (zc4 (Nat.le_of_ble_eq_true rfl)) (t208 (by omega) e15 (zaV ?_))
  replace hF := Option.some.inj hF
  subst hF
  exact zx_return rfl rfl rfl q
def b233_208 (n : Nat)   (l0 : Nat) (l1 : Int32) (l2 : Int32) (l3 : Int32) (s0 : Int32) (s1 : Int32) (s2 : Option Nat) (h : zH) : Option (Unit × zH) :=
  s2.bind fun a1 =>
  (aS zsI h a1 s1 (.int s0)).bind fun h2 =>
  (gR h2 l0 11 26).bind fun x4 =>
  (gR h2 l0 11 24).bind fun x6 =>
  x6.bind fun a8 =>
  (aI h2 a8 l2).bind fun x9 =>
  if x9 = 2 then
    zgd (isO h2 l0 11) <|
    (f206 n l0 h2).bind fun p14 =>
    b233_232 n  l0 l1 l2 l3 p14.1 l2 x4 p14.2
  else
    b233_232 n  l0 l1 l2 l3 0 l2 x4 h2
set_option maxRecDepth 20000 in
theorem tb233_208 {d n : Nat} {Q : zRs → zH → Prop}   {l0 : Nat} {l1 : Int32} {l2 : Int32} {l3 : Int32} {s0 : Int32} {s1 : Int32} {s2 : Option Nat}  (hd : 6 ≤ d)   {h : zH} {p : (Unit × zH)}  (hF : b233_208 n   l0 l1 l2 l3 s0 s1 s2 h = some p) (q : Q (eV p.1) p.2) : zW d 233 208 [some (.ref l0), some (.int l1), some (.int l2), some (.int l3)] [.int s0, .int s1, va_rf s2] h Q := by
  unfold b233_208 at hF
  obtain ⟨d, rfl⟩ : ∃ e, d = e + 1 := ⟨d - 1, by omega⟩
  replace hF := zbnd hF
  obtain ⟨a1, rfl, hF⟩ := hF
  replace hF := zbnd hF
  obtain ⟨h2, e3, hF⟩ := hF
  refine zy_sI rfl rfl e3 ?_
  refine zx_aload_n rfl rfl rfl ?_
  replace hF := zbnd hF
  obtain ⟨x4, e5, hF⟩ := hF
  refine zy_getR rfl rfl e5 ?_
  refine zx_iload_n rfl rfl rfl ?_
  refine zx_aload_n rfl rfl rfl ?_
  replace hF := zbnd hF
  obtain ⟨x6, e7, hF⟩ := hF
  refine zy_getR rfl rfl e7 ?_
  refine zx_iload_n rfl rfl rfl ?_
  replace hF := zbnd hF
  obtain ⟨a8, rfl, hF⟩ := hF
  replace hF := zbnd hF
  obtain ⟨x9, e10, hF⟩ := hF
  refine zy_aI rfl rfl e10 ?_
  refine zx_iconst (v := 2) rfl rfl rfl ?_
  refine zx_ic_ne rfl rfl (fun c11 => ?_) (fun c11 => ?_)
  · rw [if_neg c11] at hF
    refine zx_iconst (v := 0) rfl rfl rfl ?_
    exact tb233_232 (l0 := l0) (l1 := l1) (l2 := l2) (l3 := l3) (s0 := 0) (s1 := l2) (s2 := x4) hd   hF q
  · rw [if_pos c11] at hF
    refine zx_aload_n rfl rfl rfl ?_
    replace hF := zgd_some hF
    obtain ⟨g12, hF⟩ := hF
    replace hF := zbnd hF
    obtain ⟨p14, e13, hF⟩ := hF
    refine zx_callE rfl rfl rfl rfl (zrcv_isO g12) rfl rfl (zc4 (Nat.le_of_ble_eq_true rfl)) (t206 (by omega) e13 (zaI ?_))
    refine zx_goto rfl rfl ?_
    exact tb233_232 (l0 := l0) (l1 := l1) (l2 := l2) (l3 := l3) (s0 := p14.1) (s1 := l2) (s2 := x4) hd   hF q
def b233_176 (n : Nat)   (l0 : Nat) (l1 : Int32) (l2 : Int32) (l3 : Int32) (s0 : Int32) (s1 : Int32) (s2 : Option Nat) (h : zH) : Option (Unit × zH) :=
  s2.bind fun a1 =>
  (aS zsI h a1 s1 (.int s0)).bind fun h2 =>
  (gR h2 l0 11 25).bind fun x4 =>
  if l3 = 0 then
    (gI h2 l0 11 72).bind fun x7 =>
    b233_208 n  l0 l1 l2 l3 x7 l2 x4 h2
  else
    zgd (isO h2 l0 11) <|
    (f213 n l0 (some 83) h2).bind fun p11 =>
    if p11.1 = 0 then
      b233_208 n  l0 l1 l2 l3 0 l2 x4 p11.2
    else
      b233_208 n  l0 l1 l2 l3 1 l2 x4 p11.2
set_option maxRecDepth 20000 in
theorem tb233_176 {d n : Nat} {Q : zRs → zH → Prop}   {l0 : Nat} {l1 : Int32} {l2 : Int32} {l3 : Int32} {s0 : Int32} {s1 : Int32} {s2 : Option Nat}  (hd : 6 ≤ d)   {h : zH} {p : (Unit × zH)}  (hF : b233_176 n   l0 l1 l2 l3 s0 s1 s2 h = some p) (q : Q (eV p.1) p.2) : zW d 233 176 [some (.ref l0), some (.int l1), some (.int l2), some (.int l3)] [.int s0, .int s1, va_rf s2] h Q := by
  unfold b233_176 at hF
  obtain ⟨d, rfl⟩ : ∃ e, d = e + 1 := ⟨d - 1, by omega⟩
  replace hF := zbnd hF
  obtain ⟨a1, rfl, hF⟩ := hF
  replace hF := zbnd hF
  obtain ⟨h2, e3, hF⟩ := hF
  refine zy_sI rfl rfl e3 ?_
  refine zx_aload_n rfl rfl rfl ?_
  replace hF := zbnd hF
  obtain ⟨x4, e5, hF⟩ := hF
  refine zy_getR rfl rfl e5 ?_
  refine zx_iload_n rfl rfl rfl ?_
  refine zx_iload_n rfl rfl rfl ?_
  refine zx_if_eq rfl rfl (fun c6 => ?_) (fun c6 => ?_)
  · rw [if_pos c6] at hF
    refine zx_aload_n rfl rfl rfl ?_
    replace hF := zbnd hF
    obtain ⟨x7, e8, hF⟩ := hF
    refine zy_getI rfl rfl e8 ?_
    exact tb233_208 (l0 := l0) (l1 := l1) (l2 := l2) (l3 := l3) (s0 := x7) (s1 := l2) (s2 := x4) hd   hF q
  · rw [if_neg c6] at hF
    refine zx_aload_n rfl rfl rfl ?_
    refine zx_ldcw rfl rfl rfl ?_
    replace hF := zgd_some hF
    obtain ⟨g9, hF⟩ := hF
    replace hF := zbnd hF
    obtain ⟨p11, e10, hF⟩ := hF
    refine zx_callE rfl rfl rfl rfl (zrcv_isO g9) rfl rfl (zc4 (Nat.le_of_ble_eq_true rfl)) (t213 (by omega) e10 (zaI ?_))
    refine zx_if_eq rfl rfl (fun c12 => ?_) (fun c12 => ?_)
    · rw [if_pos c12] at hF
      refine zx_iconst (v := 0) rfl rfl rfl ?_
      refine zx_goto rfl rfl ?_
      exact tb233_208 (l0 := l0) (l1 := l1) (l2 := l2) (l3 := l3) (s0 := 0) (s1 := l2) (s2 := x4) hd   hF q
    · rw [if_neg c12] at hF
      refine zx_iconst (v := 1) rfl rfl rfl ?_
      refine zx_goto rfl rfl ?_
      exact tb233_208 (l0 := l0) (l1 := l1) (l2 := l2) (l3 := l3) (s0 := 1) (s1 := l2) (s2 := x4) hd   hF q
def b233_128 (n : Nat)   (l0 : Nat) (l1 : Int32) (l2 : Int32) (l3 : Int32) (s0 : Int32) (s1 : Nat) (h : zH) : Option (Unit × zH) :=
  zgd (isO h s1 11) <|
  (f200 n s1 s0 h).bind fun p3 =>
  (gI p3.2 l0 11 73).bind fun x4 =>
  if x4 = (-1) then
    (gR p3.2 l0 11 27).bind fun x7 =>
    (gI p3.2 l0 11 70).bind fun x9 =>
    x7.bind fun a11 =>
    (aS zsI p3.2 a11 l2 (.int x9)).bind fun h12 =>
    (gR h12 l0 11 24).bind fun x14 =>
    if l3 = 0 then
      (gI h12 l0 11 69).bind fun x17 =>
      if x17 = 2 then
        b233_176 n  l0 l1 l2 l3 1 l2 x14 h12
      else
        b233_176 n  l0 l1 l2 l3 2 l2 x14 h12
    else
      b233_176 n  l0 l1 l2 l3 0 l2 x14 h12
  else
    some ((), p3.2)
set_option maxRecDepth 20000 in
theorem tb233_128 {d n : Nat} {Q : zRs → zH → Prop}   {l0 : Nat} {l1 : Int32} {l2 : Int32} {l3 : Int32} {s0 : Int32} {s1 : Nat}  (hd : 6 ≤ d)   {h : zH} {p : (Unit × zH)}  (hF : b233_128 n   l0 l1 l2 l3 s0 s1 h = some p) (q : Q (eV p.1) p.2) : zW d 233 128 [some (.ref l0), some (.int l1), some (.int l2), some (.int l3)] [.int s0, .ref s1] h Q := by
  unfold b233_128 at hF
  obtain ⟨d, rfl⟩ : ∃ e, d = e + 1 := ⟨d - 1, by omega⟩
  replace hF := zgd_some hF
  obtain ⟨g1, hF⟩ := hF
  replace hF := zbnd hF
  obtain ⟨p3, e2, hF⟩ := hF
  refine zx_callE rfl rfl rfl rfl (zrcv_isO g1) rfl rfl (zc4 (Nat.le_of_ble_eq_true rfl)) (t200 (by omega) e2 (zaV ?_))
  refine zx_aload_n rfl rfl rfl ?_
  replace hF := zbnd hF
  obtain ⟨x4, e5, hF⟩ := hF
  refine zy_getI rfl rfl e5 ?_
  refine zx_iconst (v := (-1)) rfl rfl rfl ?_
  refine zx_ic_eq rfl rfl (fun c6 => ?_) (fun c6 => ?_)
  · rw [if_pos c6] at hF
    refine zx_aload_n rfl rfl rfl ?_
    replace hF := zbnd hF
    obtain ⟨x7, e8, hF⟩ := hF
    refine zy_getR rfl rfl e8 ?_
    refine zx_iload_n rfl rfl rfl ?_
    refine zx_aload_n rfl rfl rfl ?_
    replace hF := zbnd hF
    obtain ⟨x9, e10, hF⟩ := hF
    refine zy_getI rfl rfl e10 ?_
    replace hF := zbnd hF
    obtain ⟨a11, rfl, hF⟩ := hF
    replace hF := zbnd hF
    obtain ⟨h12, e13, hF⟩ := hF
    refine zy_sI rfl rfl e13 ?_
    refine zx_aload_n rfl rfl rfl ?_
    replace hF := zbnd hF
    obtain ⟨x14, e15, hF⟩ := hF
    refine zy_getR rfl rfl e15 ?_
    refine zx_iload_n rfl rfl rfl ?_
    refine zx_iload_n rfl rfl rfl ?_
    refine zx_if_eq rfl rfl (fun c16 => ?_) (fun c16 => ?_)
    · rw [if_pos c16] at hF
      refine zx_aload_n rfl rfl rfl ?_
      replace hF := zbnd hF
      obtain ⟨x17, e18, hF⟩ := hF
      refine zy_getI rfl rfl e18 ?_
      refine zx_iconst (v := 2) rfl rfl rfl ?_
      refine zx_ic_ne rfl rfl (fun c19 => ?_) (fun c19 => ?_)
      · rw [if_neg c19] at hF
        refine zx_iconst (v := 2) rfl rfl rfl ?_
        exact tb233_176 (l0 := l0) (l1 := l1) (l2 := l2) (l3 := l3) (s0 := 2) (s1 := l2) (s2 := x14) hd   hF q
      · rw [if_pos c19] at hF
        refine zx_iconst (v := 1) rfl rfl rfl ?_
        refine zx_goto rfl rfl ?_
        exact tb233_176 (l0 := l0) (l1 := l1) (l2 := l2) (l3 := l3) (s0 := 1) (s1 := l2) (s2 := x14) hd   hF q
    · rw [if_neg c16] at hF
      refine zx_iconst (v := 0) rfl rfl rfl ?_
      refine zx_goto rfl rfl ?_
      exact tb233_176 (l0 := l0) (l1 := l1) (l2 := l2) (l3 := l3) (s0 := 0) (s1 := l2) (s2 := x14) hd   hF q
  · rw [if_neg c6] at hF
    replace hF := Option.some.inj hF
    subst hF
    exact zx_return rfl rfl rfl q
def b233_123 (n : Nat)   (l0 : Nat) (l1 : Int32) (l2 : Int32) (l3 : Int32) (s0 : Nat) (h : zH) : Option (Unit × zH) :=
  b233_128 n  l0 l1 l2 l3 1 s0 h
set_option maxRecDepth 20000 in
theorem tb233_123 {d n : Nat} {Q : zRs → zH → Prop}   {l0 : Nat} {l1 : Int32} {l2 : Int32} {l3 : Int32} {s0 : Nat}  (hd : 6 ≤ d)   {h : zH} {p : (Unit × zH)}  (hF : b233_123 n   l0 l1 l2 l3 s0 h = some p) (q : Q (eV p.1) p.2) : zW d 233 123 [some (.ref l0), some (.int l1), some (.int l2), some (.int l3)] [.ref s0] h Q := by
  unfold b233_123 at hF
  obtain ⟨d, rfl⟩ : ∃ e, d = e + 1 := ⟨d - 1, by omega⟩
  refine zx_iconst (v := 1) rfl rfl rfl ?_
  refine zx_goto rfl rfl ?_
  exact tb233_128 (l0 := l0) (l1 := l1) (l2 := l2) (l3 := l3) (s0 := 1) (s1 := s0) hd   hF q
def b233_102 (n : Nat)   (l0 : Nat) (l1 : Int32) (l2 : Int32) (s0 : Int32) (h : zH) : Option (Unit × zH) :=
  (gI h l0 11 69).bind fun x1 =>
  if x1 = 2 then
    b233_123 n  l0 l1 l2 s0 l0 h
  else
    if s0 = 0 then
      zgd (isO h l0 11) <|
      (f203 n l0 h).bind fun p7 =>
      if p7.1 = 0 then
        b233_128 n  l0 l1 l2 s0 0 l0 p7.2
      else
        b233_123 n  l0 l1 l2 s0 l0 p7.2
    else
      b233_123 n  l0 l1 l2 s0 l0 h
set_option maxRecDepth 20000 in
theorem tb233_102 {d n : Nat} {Q : zRs → zH → Prop}   {l0 : Nat} {l1 : Int32} {l2 : Int32} {s0 : Int32} {x3 : Option Value} (hd : 6 ≤ d)   {h : zH} {p : (Unit × zH)} (hx3 : zn2 x3 = true) (hF : b233_102 n   l0 l1 l2 s0 h = some p) (q : Q (eV p.1) p.2) : zW d 233 102 [some (.ref l0), some (.int l1), some (.int l2), x3] [.int s0] h Q := by
  unfold b233_102 at hF
  obtain ⟨d, rfl⟩ : ∃ e, d = e + 1 := ⟨d - 1, by omega⟩
  refine zx_istore_n rfl rfl rfl ?_
  refine zx_aload_n rfl rfl rfl ?_
  refine zx_aload_n rfl rfl rfl ?_
  replace hF := zbnd hF
  obtain ⟨x1, e2, hF⟩ := hF
  refine zy_getI rfl rfl e2 ?_
  refine zx_iconst (v := 2) rfl rfl rfl ?_
  refine zx_ic_eq rfl rfl (fun c3 => ?_) (fun c3 => ?_)
  · rw [if_pos c3] at hF
    exact tb233_123 (l0 := l0) (l1 := l1) (l2 := l2) (l3 := s0) (s0 := l0) hd   hF q
  · rw [if_neg c3] at hF
    refine zx_iload_n rfl rfl rfl ?_
    refine zx_if_ne rfl rfl (fun c4 => ?_) (fun c4 => ?_)
    · rw [if_neg c4] at hF
      exact tb233_123 (l0 := l0) (l1 := l1) (l2 := l2) (l3 := s0) (s0 := l0) hd   hF q
    · rw [if_pos c4] at hF
      refine zx_aload_n rfl rfl rfl ?_
      replace hF := zgd_some hF
      obtain ⟨g5, hF⟩ := hF
      replace hF := zbnd hF
      obtain ⟨p7, e6, hF⟩ := hF
      refine zx_callE rfl rfl rfl rfl (zrcv_isO g5) rfl rfl (zc4 (Nat.le_of_ble_eq_true rfl)) (t203 (by omega) e6 (zaI ?_))
      refine zx_if_eq rfl rfl (fun c8 => ?_) (fun c8 => ?_)
      · rw [if_pos c8] at hF
        refine zx_iconst (v := 0) rfl rfl rfl ?_
        exact tb233_128 (l0 := l0) (l1 := l1) (l2 := l2) (l3 := s0) (s0 := 0) (s1 := l0) hd   hF q
      · rw [if_neg c8] at hF
        exact tb233_123 (l0 := l0) (l1 := l1) (l2 := l2) (l3 := s0) (s0 := l0) hd   hF q
def b233_97 (n : Nat)   (l0 : Nat) (l1 : Int32) (l2 : Int32) (h : zH) : Option (Unit × zH) :=
  b233_102 n  l0 l1 l2 1 h
set_option maxRecDepth 20000 in
theorem tb233_97 {d n : Nat} {Q : zRs → zH → Prop}   {l0 : Nat} {l1 : Int32} {l2 : Int32}  {x3 : Option Value} (hd : 6 ≤ d)   {h : zH} {p : (Unit × zH)} (hx3 : zn2 x3 = true) (hF : b233_97 n   l0 l1 l2 h = some p) (q : Q (eV p.1) p.2) : zW d 233 97 [some (.ref l0), some (.int l1), some (.int l2), x3] [] h Q := by
  unfold b233_97 at hF
  obtain ⟨d, rfl⟩ : ∃ e, d = e + 1 := ⟨d - 1, by omega⟩
  refine zx_iconst (v := 1) rfl rfl rfl ?_
  refine zx_goto rfl rfl ?_
  exact tb233_102 (l0 := l0) (l1 := l1) (l2 := l2) (s0 := 1) hd  hx3 hF q
def b233_15 (n : Nat)   (l0 : Nat) (l1 : Int32) (h : zH) : Option (Unit × zH) :=
  zgd (isO h l0 11) <|
  (f190 n l0 h).bind fun p3 =>
  zgd (isO p3.2 l0 11) <|
  (f203 n l0 p3.2).bind fun p6 =>
  zgd (isO p6.2 l0 11) <|
  (f200 n l0 p6.1 p6.2).bind fun p9 =>
  (gI p9.2 l0 11 73).bind fun x10 =>
  if x10 = (-1) then
    (gR p9.2 l0 11 20).bind fun x13 =>
    x13.bind fun a15 =>
    (aI p9.2 a15 l1).bind fun x16 =>
    (gR p9.2 l0 11 21).bind fun x18 =>
    zgd (isO p9.2 l0 11) <|
    (f206 n l0 p9.2).bind fun p22 =>
    x18.bind fun a23 =>
    (aS zsI p22.2 a23 ((4 * l1) + x16) (.int p22.1)).bind fun h24 =>
    (gR h24 l0 11 22).bind fun x26 =>
    (gI h24 l0 11 70).bind fun x28 =>
    x26.bind fun a30 =>
    (aS zsI h24 a30 ((4 * l1) + x16) (.int x28)).bind fun h31 =>
    zgd (isO h31 l0 11) <|
    (f190 n l0 h31).bind fun p35 =>
    zgd (isO p35.2 l0 11) <|
    (f208 n l0 61 p35.2).bind fun p38 =>
    zgd (isO p38.2 l0 11) <|
    (f213 n l0 (some 83) p38.2).bind fun p41 =>
    if p41.1 = 0 then
      zgd (isO p41.2 l0 11) <|
      (f213 n l0 (some 85) p41.2).bind fun p45 =>
      if p45.1 = 0 then
        b233_102 n  l0 l1 ((4 * l1) + x16) 0 p45.2
      else
        b233_97 n  l0 l1 ((4 * l1) + x16) p45.2
    else
      b233_97 n  l0 l1 ((4 * l1) + x16) p41.2
  else
    some ((), p9.2)
set_option maxRecDepth 20000 in
theorem tb233_15 {d n : Nat} {Q : zRs → zH → Prop}   {l0 : Nat} {l1 : Int32}  {x2 : Option Value} {x3 : Option Value} (hd : 6 ≤ d)   {h : zH} {p : (Unit × zH)} (hx2 : zn2 x2 = true) (hx3 : zn2 x3 = true) (hF : b233_15 n   l0 l1 h = some p) (q : Q (eV p.1) p.2) : zW d 233 15 [some (.ref l0), some (.int l1), x2, x3] [] h Q := by
  unfold b233_15 at hF
  obtain ⟨d, rfl⟩ : ∃ e, d = e + 1 := ⟨d - 1, by omega⟩
  refine zx_aload_n rfl rfl rfl ?_
  replace hF := zgd_some hF
  obtain ⟨g1, hF⟩ := hF
  replace hF := zbnd hF
  obtain ⟨p3, e2, hF⟩ := hF
  refine zx_callE rfl rfl rfl rfl (zrcv_isO g1) rfl rfl (zc4 (Nat.le_of_ble_eq_true rfl)) (t190 (by omega) e2 (zaV ?_))
  refine zx_aload_n rfl rfl rfl ?_
  refine zx_aload_n rfl rfl rfl ?_
  replace hF := zgd_some hF
  obtain ⟨g4, hF⟩ := hF
  replace hF := zbnd hF
  obtain ⟨p6, e5, hF⟩ := hF
  refine zx_callE rfl rfl rfl rfl (zrcv_isO g4) rfl rfl (zc4 (Nat.le_of_ble_eq_true rfl)) (t203 (by omega) e5 (zaI ?_))
  replace hF := zgd_some hF
  obtain ⟨g7, hF⟩ := hF
  replace hF := zbnd hF
  obtain ⟨p9, e8, hF⟩ := hF
  refine zx_callE rfl rfl rfl rfl (zrcv_isO g7) rfl rfl (zc4 (Nat.le_of_ble_eq_true rfl)) (t200 (by omega) e8 (zaV ?_))
  refine zx_aload_n rfl rfl rfl ?_
  replace hF := zbnd hF
  obtain ⟨x10, e11, hF⟩ := hF
  refine zy_getI rfl rfl e11 ?_
  refine zx_iconst (v := (-1)) rfl rfl rfl ?_
  refine zx_ic_eq rfl rfl (fun c12 => ?_) (fun c12 => ?_)
  · rw [if_pos c12] at hF
    refine zx_iconst (v := 4) rfl rfl rfl ?_
    refine zx_iload_n rfl rfl rfl ?_
    refine zx_imul rfl rfl ?_
    refine zx_aload_n rfl rfl rfl ?_
    replace hF := zbnd hF
    obtain ⟨x13, e14, hF⟩ := hF
    refine zy_getR rfl rfl e14 ?_
    refine zx_iload_n rfl rfl rfl ?_
    replace hF := zbnd hF
    obtain ⟨a15, rfl, hF⟩ := hF
    replace hF := zbnd hF
    obtain ⟨x16, e17, hF⟩ := hF
    refine zy_aI rfl rfl e17 ?_
    refine zx_iadd rfl rfl ?_
    refine zx_istore_n rfl rfl rfl ?_
    refine zx_aload_n rfl rfl rfl ?_
    replace hF := zbnd hF
    obtain ⟨x18, e19, hF⟩ := hF
    refine zy_getR rfl rfl e19 ?_
    refine zx_iload_n rfl rfl rfl ?_
    refine zx_aload_n rfl rfl rfl ?_
    replace hF := zgd_some hF
    obtain ⟨g20, hF⟩ := hF
    replace hF := zbnd hF
    obtain ⟨p22, e21, hF⟩ := hF
    refine zx_callE rfl rfl rfl rfl (zrcv_isO g20) rfl rfl (zc4 (Nat.le_of_ble_eq_true rfl)) (t206 (by omega) e21 (zaI ?_))
    replace hF := zbnd hF
    obtain ⟨a23, rfl, hF⟩ := hF
    replace hF := zbnd hF
    obtain ⟨h24, e25, hF⟩ := hF
    refine zy_sI rfl rfl e25 ?_
    refine zx_aload_n rfl rfl rfl ?_
    replace hF := zbnd hF
    obtain ⟨x26, e27, hF⟩ := hF
    refine zy_getR rfl rfl e27 ?_
    refine zx_iload_n rfl rfl rfl ?_
    refine zx_aload_n rfl rfl rfl ?_
    replace hF := zbnd hF
    obtain ⟨x28, e29, hF⟩ := hF
    refine zy_getI rfl rfl e29 ?_
    replace hF := zbnd hF
    obtain ⟨a30, rfl, hF⟩ := hF
    replace hF := zbnd hF
    obtain ⟨h31, e32, hF⟩ := hF
    refine zy_sI rfl rfl e32 ?_
    refine zx_aload_n rfl rfl rfl ?_
    replace hF := zgd_some hF
    obtain ⟨g33, hF⟩ := hF
    replace hF := zbnd hF
    obtain ⟨p35, e34, hF⟩ := hF
    refine zx_callE rfl rfl rfl rfl (zrcv_isO g33) rfl rfl (zc4 (Nat.le_of_ble_eq_true rfl)) (t190 (by omega) e34 (zaV ?_))
    refine zx_aload_n rfl rfl rfl ?_
    refine zx_bipush (v := 61) rfl rfl rfl ?_
    replace hF := zgd_some hF
    obtain ⟨g36, hF⟩ := hF
    replace hF := zbnd hF
    obtain ⟨p38, e37, hF⟩ := hF
    refine zx_callE rfl rfl rfl rfl (zrcv_isO g36) rfl rfl (zc4 (Nat.le_of_ble_eq_true rfl)) (t208 (by omega) e37 (zaV ?_))
    refine zx_aload_n rfl rfl rfl ?_
    refine zx_ldcw rfl rfl rfl ?_
    replace hF := zgd_some hF
    obtain ⟨g39, hF⟩ := hF
    replace hF := zbnd hF
    obtain ⟨p41, e40, hF⟩ := hF
    refine zx_callE rfl rfl rfl rfl (zrcv_isO g39) rfl rfl (zc4 (Nat.le_of_ble_eq_true rfl)) (t213 (by omega) e40 (zaI ?_))
    refine zx_if_ne rfl rfl (fun c42 => ?_) (fun c42 => ?_)
    · rw [if_neg c42] at hF
      exact tb233_97 (l0 := l0) (l1 := l1) (l2 := ((4 * l1) + x16)) hd  hx3 hF q
    · rw [if_pos c42] at hF
      refine zx_aload_n rfl rfl rfl ?_
      refine zx_ldcw rfl rfl rfl ?_
      replace hF := zgd_some hF
      obtain ⟨g43, hF⟩ := hF
      replace hF := zbnd hF
      obtain ⟨p45, e44, hF⟩ := hF
      refine zx_callE rfl rfl rfl rfl (zrcv_isO g43) rfl rfl (zc4 (Nat.le_of_ble_eq_true rfl)) (t213 (by omega) e44 (zaI ?_))
      refine zx_if_eq rfl rfl (fun c46 => ?_) (fun c46 => ?_)
      · rw [if_pos c46] at hF
        refine zx_iconst (v := 0) rfl rfl rfl ?_
        exact tb233_102 (l0 := l0) (l1 := l1) (l2 := ((4 * l1) + x16)) (s0 := 0) hd  hx3 hF q
      · rw [if_neg c46] at hF
        exact tb233_97 (l0 := l0) (l1 := l1) (l2 := ((4 * l1) + x16)) hd  hx3 hF q
  · rw [if_neg c12] at hF
    replace hF := Option.some.inj hF
    subst hF
    exact zx_return rfl rfl rfl q
def f233 (n : Nat)  (y0 : Nat) (y1 : Int32) (h : zH) : Option (Unit × zH) :=
  (gR h y0 11 20).bind fun x1 =>
  x1.bind fun a3 =>
  (aI h a3 y1).bind fun x4 =>
  if x4 = 4 then
    zgd (isO h y0 11) <|
    (f195 n y0 5 h).bind fun p9 =>
    b233_15 n  y0 y1 p9.2
  else
    b233_15 n  y0 y1 h
set_option maxRecDepth 20000 in
theorem t233 {d n : Nat} {Q : zRs → zH → Prop}  {y0 : Nat} {y1 : Int32} (hd : 6 ≤ d)  {h : zH} {p : (Unit × zH)} (hF : f233 n  y0 y1 h = some p) (q : Q (eV p.1) p.2) : zC d 233 [.ref y0, .int y1] h Q := by
  refine zC_of (L := [some (.ref y0), some (.int y1), none, none]) rfl rfl ?_
  unfold f233 at hF
  obtain ⟨d, rfl⟩ : ∃ e, d = e + 1 := ⟨d - 1, by omega⟩
  refine zx_aload_n rfl rfl rfl ?_
  replace hF := zbnd hF
  obtain ⟨x1, e2, hF⟩ := hF
  refine zy_getR rfl rfl e2 ?_
  refine zx_iload_n rfl rfl rfl ?_
  replace hF := zbnd hF
  obtain ⟨a3, rfl, hF⟩ := hF
  replace hF := zbnd hF
  obtain ⟨x4, e5, hF⟩ := hF
  refine zy_aI rfl rfl e5 ?_
  refine zx_iconst (v := 4) rfl rfl rfl ?_
  refine zx_ic_ne rfl rfl (fun c6 => ?_) (fun c6 => ?_)
  · rw [if_neg c6] at hF
    exact tb233_15 (l0 := y0) (l1 := y1) hd  rfl rfl hF q
  · rw [if_pos c6] at hF
    refine zx_aload_n rfl rfl rfl ?_
    refine zx_iconst (v := 5) rfl rfl rfl ?_
    replace hF := zgd_some hF
    obtain ⟨g7, hF⟩ := hF
    replace hF := zbnd hF
    obtain ⟨p9, e8, hF⟩ := hF
    refine zx_callE rfl rfl rfl rfl (zrcv_isO g7) rfl rfl (zc4 (Nat.le_of_ble_eq_true rfl)) (t195 (by omega) e8 (zaV ?_))
    exact tb233_15 (l0 := y0) (l1 := y1) hd  rfl rfl hF q
def b234_242 (n : Nat)   (l0 : Nat) (l1 : Int32) (l2 : Int32) (l3 : Int32) (l4 : Int32) (l5 : Int32) (l6 : Int32) (h : zH) : Option (Unit × zH) :=
  zgd (isO h l0 11) <|
  (f208 n l0 59 h).bind fun p3 =>
  some ((), p3.2)
set_option maxRecDepth 20000 in
theorem tb234_242 {d n : Nat} {Q : zRs → zH → Prop}   {l0 : Nat} {l1 : Int32} {l2 : Int32} {l3 : Int32} {l4 : Int32} {l5 : Int32} {l6 : Int32}  {x7 : Option Value} (hd : 10 ≤ d)   {h : zH} {p : (Unit × zH)} (hx7 : zn2 x7 = true) (hF : b234_242 n   l0 l1 l2 l3 l4 l5 l6 h = some p) (q : Q (eV p.1) p.2) : zW d 234 242 [some (.ref l0), some (.int l1), some (.int l2), some (.int l3), some (.int l4), some (.int l5), some (.int l6), x7] [] h Q := by
  unfold b234_242 at hF
  obtain ⟨d, rfl⟩ : ∃ e, d = e + 1 := ⟨d - 1, by omega⟩
  refine zx_aload_n rfl rfl rfl ?_
  refine zx_bipush (v := 59) rfl rfl rfl ?_
  replace hF := zgd_some hF
  obtain ⟨g1, hF⟩ := hF
  replace hF := zbnd hF
  obtain ⟨p3, e2, hF⟩ := hF
  refine zx_callE rfl rfl rfl rfl (zrcv_isO g1) rfl rfl (zc4 (Nat.le_of_ble_eq_true rfl)) (t208 (by omega) e2 (zaV ?_))
  replace hF := Option.some.inj hF
  subst hF
  exact zx_return rfl rfl rfl q
def b234_141 (n : Nat)   (l0 : Nat) (l1 : Int32) (l2 : Int32) (l3 : Int32) (l4 : Int32) (l5 : Int32) (s0 : Int32) (h : zH) : Option (Unit × zH) :=
  (gI h l0 11 73).bind fun x1 =>
  if x1 = (-1) then
    (gI h l0 11 4).bind fun x4 =>
    (gR h l0 11 32).bind fun x6 =>
    (gI h l0 11 4).bind fun x8 =>
    x6.bind fun a10 =>
    (aI h a10 x8).bind fun x11 =>
    (gR h l0 11 33).bind fun x13 =>
    x13.bind fun a15 =>
    (aS zsI h a15 ((100 * x4) + x11) (.int l3)).bind fun h16 =>
    (gR h16 l0 11 34).bind fun x18 =>
    x18.bind fun a20 =>
    (aS zsI h16 a20 ((100 * x4) + x11) (.int l2)).bind fun h21 =>
    (gR h21 l0 11 35).bind fun x23 =>
    x23.bind fun a25 =>
    (aS zsI h21 a25 ((100 * x4) + x11) (.int l5)).bind fun h26 =>
    (gR h26 l0 11 36).bind fun x28 =>
    x28.bind fun a30 =>
    (aS zsI h26 a30 ((100 * x4) + x11) (.int l4)).bind fun h31 =>
    (gR h31 l0 11 37).bind fun x33 =>
    (gR h31 l0 11 62).bind fun x35 =>
    (gI h31 l0 11 4).bind fun x37 =>
    x35.bind fun a39 =>
    (aI h31 a39 x37).bind fun x40 =>
    x33.bind fun a42 =>
    (aS zsI h31 a42 ((100 * x4) + x11) (.int x40)).bind fun h43 =>
    (gR h43 l0 11 38).bind fun x45 =>
    x45.bind fun a47 =>
    (aS zsI h43 a47 ((100 * x4) + x11) (.int s0)).bind fun h48 =>
    (gR h48 l0 11 32).bind fun x50 =>
    (gI h48 l0 11 4).bind fun x52 =>
    x50.bind fun a54 =>
    (aI h48 a54 x52).bind fun x55 =>
    (aS zsI h48 a54 x52 (.int (x55 + 1))).bind fun h57 =>
    b234_242 n  l0 l1 l2 l3 l4 l5 s0 h57
  else
    b234_242 n  l0 l1 l2 l3 l4 l5 s0 h
set_option maxRecDepth 20000 in
theorem tb234_141 {d n : Nat} {Q : zRs → zH → Prop}   {l0 : Nat} {l1 : Int32} {l2 : Int32} {l3 : Int32} {l4 : Int32} {l5 : Int32} {s0 : Int32} {x6 : Option Value} {x7 : Option Value} (hd : 10 ≤ d)   {h : zH} {p : (Unit × zH)} (hx6 : zn2 x6 = true) (hx7 : zn2 x7 = true) (hF : b234_141 n   l0 l1 l2 l3 l4 l5 s0 h = some p) (q : Q (eV p.1) p.2) : zW d 234 141 [some (.ref l0), some (.int l1), some (.int l2), some (.int l3), some (.int l4), some (.int l5), x6, x7] [.int s0] h Q := by
  unfold b234_141 at hF
  obtain ⟨d, rfl⟩ : ∃ e, d = e + 1 := ⟨d - 1, by omega⟩
  refine zx_istore rfl rfl rfl ?_
  refine zx_aload_n rfl rfl rfl ?_
  replace hF := zbnd hF
  obtain ⟨x1, e2, hF⟩ := hF
  refine zy_getI rfl rfl e2 ?_
  refine zx_iconst (v := (-1)) rfl rfl rfl ?_
  refine zx_ic_ne rfl rfl (fun c3 => ?_) (fun c3 => ?_)
  · rw [if_neg c3] at hF
    exact tb234_242 (l0 := l0) (l1 := l1) (l2 := l2) (l3 := l3) (l4 := l4) (l5 := l5) (l6 := s0) hd  hx7 hF q
  · rw [if_pos c3] at hF
    refine zx_bipush (v := 100) rfl rfl rfl ?_
    refine zx_aload_n rfl rfl rfl ?_
    replace hF := zbnd hF
    obtain ⟨x4, e5, hF⟩ := hF
    refine zy_getI rfl rfl e5 ?_
    refine zx_imul rfl rfl ?_
    refine zx_aload_n rfl rfl rfl ?_
    replace hF := zbnd hF
    obtain ⟨x6, e7, hF⟩ := hF
    refine zy_getR rfl rfl e7 ?_
    refine zx_aload_n rfl rfl rfl ?_
    replace hF := zbnd hF
    obtain ⟨x8, e9, hF⟩ := hF
    refine zy_getI rfl rfl e9 ?_
    replace hF := zbnd hF
    obtain ⟨a10, rfl, hF⟩ := hF
    replace hF := zbnd hF
    obtain ⟨x11, e12, hF⟩ := hF
    refine zy_aI rfl rfl e12 ?_
    refine zx_iadd rfl rfl ?_
    refine zx_istore rfl rfl rfl ?_
    refine zx_aload_n rfl rfl rfl ?_
    replace hF := zbnd hF
    obtain ⟨x13, e14, hF⟩ := hF
    refine zy_getR rfl rfl e14 ?_
    refine zx_iload rfl rfl rfl ?_
    refine zx_iload_n rfl rfl rfl ?_
    replace hF := zbnd hF
    obtain ⟨a15, rfl, hF⟩ := hF
    replace hF := zbnd hF
    obtain ⟨h16, e17, hF⟩ := hF
    refine zy_sI rfl rfl e17 ?_
    refine zx_aload_n rfl rfl rfl ?_
    replace hF := zbnd hF
    obtain ⟨x18, e19, hF⟩ := hF
    refine zy_getR rfl rfl e19 ?_
    refine zx_iload rfl rfl rfl ?_
    refine zx_iload_n rfl rfl rfl ?_
    replace hF := zbnd hF
    obtain ⟨a20, rfl, hF⟩ := hF
    replace hF := zbnd hF
    obtain ⟨h21, e22, hF⟩ := hF
    refine zy_sI rfl rfl e22 ?_
    refine zx_aload_n rfl rfl rfl ?_
    replace hF := zbnd hF
    obtain ⟨x23, e24, hF⟩ := hF
    refine zy_getR rfl rfl e24 ?_
    refine zx_iload rfl rfl rfl ?_
    refine zx_iload rfl rfl rfl ?_
    replace hF := zbnd hF
    obtain ⟨a25, rfl, hF⟩ := hF
    replace hF := zbnd hF
    obtain ⟨h26, e27, hF⟩ := hF
    refine zy_sI rfl rfl e27 ?_
    refine zx_aload_n rfl rfl rfl ?_
    replace hF := zbnd hF
    obtain ⟨x28, e29, hF⟩ := hF
    refine zy_getR rfl rfl e29 ?_
    refine zx_iload rfl rfl rfl ?_
    refine zx_iload rfl rfl rfl ?_
    replace hF := zbnd hF
    obtain ⟨a30, rfl, hF⟩ := hF
    replace hF := zbnd hF
    obtain ⟨h31, e32, hF⟩ := hF
    refine zy_sI rfl rfl e32 ?_
    refine zx_aload_n rfl rfl rfl ?_
    replace hF := zbnd hF
    obtain ⟨x33, e34, hF⟩ := hF
    refine zy_getR rfl rfl e34 ?_
    refine zx_iload rfl rfl rfl ?_
    refine zx_aload_n rfl rfl rfl ?_
    replace hF := zbnd hF
    obtain ⟨x35, e36, hF⟩ := hF
    refine zy_getR rfl rfl e36 ?_
    refine zx_aload_n rfl rfl rfl ?_
    replace hF := zbnd hF
    obtain ⟨x37, e38, hF⟩ := hF
    refine zy_getI rfl rfl e38 ?_
    replace hF := zbnd hF
    obtain ⟨a39, rfl, hF⟩ := hF
    replace hF := zbnd hF
    obtain ⟨x40, e41, hF⟩ := hF
    refine zy_aI rfl rfl e41 ?_
    replace hF := zbnd hF
    obtain ⟨a42, rfl, hF⟩ := hF
    replace hF := zbnd hF
    obtain ⟨h43, e44, hF⟩ := hF
    refine zy_sI rfl rfl e44 ?_
    refine zx_aload_n rfl rfl rfl ?_
    replace hF := zbnd hF
    obtain ⟨x45, e46, hF⟩ := hF
    refine zy_getR rfl rfl e46 ?_
    refine zx_iload rfl rfl rfl ?_
    refine zx_iload rfl rfl rfl ?_
    replace hF := zbnd hF
    obtain ⟨a47, rfl, hF⟩ := hF
    replace hF := zbnd hF
    obtain ⟨h48, e49, hF⟩ := hF
    refine zy_sI rfl rfl e49 ?_
    refine zx_aload_n rfl rfl rfl ?_
    replace hF := zbnd hF
    obtain ⟨x50, e51, hF⟩ := hF
    refine zy_getR rfl rfl e51 ?_
    refine zx_aload_n rfl rfl rfl ?_
    replace hF := zbnd hF
    obtain ⟨x52, e53, hF⟩ := hF
    refine zy_getI rfl rfl e53 ?_
    refine zx_dup2 rfl rfl (by rw [zc1_rf]; rfl) ?_
    replace hF := zbnd hF
    obtain ⟨a54, rfl, hF⟩ := hF
    replace hF := zbnd hF
    obtain ⟨x55, e56, hF⟩ := hF
    refine zy_aI rfl rfl e56 ?_
    refine zx_iconst (v := 1) rfl rfl rfl ?_
    refine zx_iadd rfl rfl ?_
    replace hF := zbnd hF
    obtain ⟨h57, e58, hF⟩ := hF
    refine zy_sI rfl rfl e58 ?_
    exact tb234_242 (l0 := l0) (l1 := l1) (l2 := l2) (l3 := l3) (l4 := l4) (l5 := l5) (l6 := s0) hd  rfl hF q
def b234_109 (n : Nat)   (l0 : Nat) (l1 : Int32) (l2 : Int32) (l3 : Int32) (l4 : Int32) (l5 : Int32) (s0 : Int32) (s1 : Nat) (h : zH) : Option (Unit × zH) :=
  zgd (isO h s1 11) <|
  (f200 n s1 s0 h).bind fun p3 =>
  zgd (isO p3.2 l0 11) <|
  (f190 n l0 p3.2).bind fun p6 =>
  (gI p6.2 l0 11 73).bind fun x7 =>
  if x7 = (-1) then
    (gI p6.2 l0 11 4).bind fun x10 =>
    zgd (isO p6.2 l0 11) <|
    (f229 n l0 ((24 * x10) + l3) p6.2).bind fun p14 =>
    b234_141 n  l0 l1 l2 l3 l4 l5 p14.1 p14.2
  else
    b234_141 n  l0 l1 l2 l3 l4 l5 0 p6.2
set_option maxRecDepth 20000 in
theorem tb234_109 {d n : Nat} {Q : zRs → zH → Prop}   {l0 : Nat} {l1 : Int32} {l2 : Int32} {l3 : Int32} {l4 : Int32} {l5 : Int32} {s0 : Int32} {s1 : Nat} {x6 : Option Value} {x7 : Option Value} (hd : 10 ≤ d)   {h : zH} {p : (Unit × zH)} (hx6 : zn2 x6 = true) (hx7 : zn2 x7 = true) (hF : b234_109 n   l0 l1 l2 l3 l4 l5 s0 s1 h = some p) (q : Q (eV p.1) p.2) : zW d 234 109 [some (.ref l0), some (.int l1), some (.int l2), some (.int l3), some (.int l4), some (.int l5), x6, x7] [.int s0, .ref s1] h Q := by
  unfold b234_109 at hF
  obtain ⟨d, rfl⟩ : ∃ e, d = e + 1 := ⟨d - 1, by omega⟩
  replace hF := zgd_some hF
  obtain ⟨g1, hF⟩ := hF
  replace hF := zbnd hF
  obtain ⟨p3, e2, hF⟩ := hF
  refine zx_callE rfl rfl rfl rfl (zrcv_isO g1) rfl rfl (zc4 (Nat.le_of_ble_eq_true rfl)) (t200 (by omega) e2 (zaV ?_))
  refine zx_aload_n rfl rfl rfl ?_
  replace hF := zgd_some hF
  obtain ⟨g4, hF⟩ := hF
  replace hF := zbnd hF
  obtain ⟨p6, e5, hF⟩ := hF
  refine zx_callE rfl rfl rfl rfl (zrcv_isO g4) rfl rfl (zc4 (Nat.le_of_ble_eq_true rfl)) (t190 (by omega) e5 (zaV ?_))
  refine zx_aload_n rfl rfl rfl ?_
  replace hF := zbnd hF
  obtain ⟨x7, e8, hF⟩ := hF
  refine zy_getI rfl rfl e8 ?_
  refine zx_iconst (v := (-1)) rfl rfl rfl ?_
  refine zx_ic_ne rfl rfl (fun c9 => ?_) (fun c9 => ?_)
  · rw [if_neg c9] at hF
    refine zx_iconst (v := 0) rfl rfl rfl ?_
    exact tb234_141 (l0 := l0) (l1 := l1) (l2 := l2) (l3 := l3) (l4 := l4) (l5 := l5) (s0 := 0) hd  hx6 hx7 hF q
  · rw [if_pos c9] at hF
    refine zx_aload_n rfl rfl rfl ?_
    refine zx_bipush (v := 24) rfl rfl rfl ?_
    refine zx_aload_n rfl rfl rfl ?_
    replace hF := zbnd hF
    obtain ⟨x10, e11, hF⟩ := hF
    refine zy_getI rfl rfl e11 ?_
    refine zx_imul rfl rfl ?_
    refine zx_iload_n rfl rfl rfl ?_
    refine zx_iadd rfl rfl ?_
    replace hF := zgd_some hF
    obtain ⟨g12, hF⟩ := hF
    replace hF := zbnd hF
    obtain ⟨p14, e13, hF⟩ := hF
    refine zx_callE rfl rfl rfl rfl (zrcv_isO g12) rfl rfl (zc4 (Nat.le_of_ble_eq_true rfl)) (t229 (by omega) e13 (zaI ?_))
    refine zx_goto rfl rfl ?_
    exact tb234_141 (l0 := l0) (l1 := l1) (l2 := l2) (l3 := l3) (l4 := l4) (l5 := l5) (s0 := p14.1) hd  hx6 hx7 hF q
def b234_92 (n : Nat)   (l0 : Nat) (l1 : Int32) (l2 : Int32) (l3 : Int32) (l4 : Int32) (s0 : Int32) (h : zH) : Option (Unit × zH) :=
  (gI h l0 11 69).bind fun x1 =>
  if x1 = 6 then
    b234_109 n  l0 l1 l2 l3 l4 s0 1 l0 h
  else
    b234_109 n  l0 l1 l2 l3 l4 s0 0 l0 h
set_option maxRecDepth 20000 in
theorem tb234_92 {d n : Nat} {Q : zRs → zH → Prop}   {l0 : Nat} {l1 : Int32} {l2 : Int32} {l3 : Int32} {l4 : Int32} {s0 : Int32} {x5 : Option Value} {x6 : Option Value} {x7 : Option Value} (hd : 10 ≤ d)   {h : zH} {p : (Unit × zH)} (hx5 : zn2 x5 = true) (hx6 : zn2 x6 = true) (hx7 : zn2 x7 = true) (hF : b234_92 n   l0 l1 l2 l3 l4 s0 h = some p) (q : Q (eV p.1) p.2) : zW d 234 92 [some (.ref l0), some (.int l1), some (.int l2), some (.int l3), some (.int l4), x5, x6, x7] [.int s0] h Q := by
  unfold b234_92 at hF
  obtain ⟨d, rfl⟩ : ∃ e, d = e + 1 := ⟨d - 1, by omega⟩
  refine zx_istore rfl rfl rfl ?_
  refine zx_aload_n rfl rfl rfl ?_
  refine zx_aload_n rfl rfl rfl ?_
  replace hF := zbnd hF
  obtain ⟨x1, e2, hF⟩ := hF
  refine zy_getI rfl rfl e2 ?_
  refine zx_bipush (v := 6) rfl rfl rfl ?_
  refine zx_ic_ne rfl rfl (fun c3 => ?_) (fun c3 => ?_)
  · rw [if_neg c3] at hF
    refine zx_iconst (v := 0) rfl rfl rfl ?_
    exact tb234_109 (l0 := l0) (l1 := l1) (l2 := l2) (l3 := l3) (l4 := l4) (l5 := s0) (s0 := 0) (s1 := l0) hd  hx6 hx7 hF q
  · rw [if_pos c3] at hF
    refine zx_iconst (v := 1) rfl rfl rfl ?_
    refine zx_goto rfl rfl ?_
    exact tb234_109 (l0 := l0) (l1 := l1) (l2 := l2) (l3 := l3) (l4 := l4) (l5 := s0) (s0 := 1) (s1 := l0) hd  hx6 hx7 hF q
def b234_64 (n : Nat)   (l0 : Nat) (l1 : Int32) (l2 : Int32) (s0 : Int32) (h : zH) : Option (Unit × zH) :=
  (gR h l0 11 62).bind fun x1 =>
  (gI h l0 11 4).bind fun x3 =>
  x1.bind fun a5 =>
  (aI h a5 x3).bind fun x6 =>
  (gI h l0 11 73).bind fun x8 =>
  if x8 = (-1) then
    zgd (isO h l0 11) <|
    (f210 n l0 h).bind fun p13 =>
    b234_92 n  l0 l1 l2 s0 x6 p13.1 p13.2
  else
    b234_92 n  l0 l1 l2 s0 x6 0 h
set_option maxRecDepth 20000 in
theorem tb234_64 {d n : Nat} {Q : zRs → zH → Prop}   {l0 : Nat} {l1 : Int32} {l2 : Int32} {s0 : Int32} {x3 : Option Value} {x4 : Option Value} {x5 : Option Value} {x6 : Option Value} {x7 : Option Value} (hd : 10 ≤ d)   {h : zH} {p : (Unit × zH)} (hx3 : zn2 x3 = true) (hx4 : zn2 x4 = true) (hx5 : zn2 x5 = true) (hx6 : zn2 x6 = true) (hx7 : zn2 x7 = true) (hF : b234_64 n   l0 l1 l2 s0 h = some p) (q : Q (eV p.1) p.2) : zW d 234 64 [some (.ref l0), some (.int l1), some (.int l2), x3, x4, x5, x6, x7] [.int s0] h Q := by
  unfold b234_64 at hF
  obtain ⟨d, rfl⟩ : ∃ e, d = e + 1 := ⟨d - 1, by omega⟩
  refine zx_istore_n rfl rfl rfl ?_
  refine zx_aload_n rfl rfl rfl ?_
  replace hF := zbnd hF
  obtain ⟨x1, e2, hF⟩ := hF
  refine zy_getR rfl rfl e2 ?_
  refine zx_aload_n rfl rfl rfl ?_
  replace hF := zbnd hF
  obtain ⟨x3, e4, hF⟩ := hF
  refine zy_getI rfl rfl e4 ?_
  replace hF := zbnd hF
  obtain ⟨a5, rfl, hF⟩ := hF
  replace hF := zbnd hF
  obtain ⟨x6, e7, hF⟩ := hF
  refine zy_aI rfl rfl e7 ?_
  refine zx_istore rfl rfl rfl ?_
  refine zx_aload_n rfl rfl rfl ?_
  replace hF := zbnd hF
  obtain ⟨x8, e9, hF⟩ := hF
  refine zy_getI rfl rfl e9 ?_
  refine zx_iconst (v := (-1)) rfl rfl rfl ?_
  refine zx_ic_ne rfl rfl (fun c10 => ?_) (fun c10 => ?_)
  · rw [if_neg c10] at hF
    refine zx_iconst (v := 0) rfl rfl rfl ?_
    exact tb234_92 (l0 := l0) (l1 := l1) (l2 := l2) (l3 := s0) (l4 := x6) (s0 := 0) hd  hx5 hx6 hx7 hF q
  · rw [if_pos c10] at hF
    refine zx_aload_n rfl rfl rfl ?_
    replace hF := zgd_some hF
    obtain ⟨g11, hF⟩ := hF
    replace hF := zbnd hF
    obtain ⟨p13, e12, hF⟩ := hF
    refine zx_callE rfl rfl rfl rfl (zrcv_isO g11) rfl rfl (zc4 (Nat.le_of_ble_eq_true rfl)) (t210 (by omega) e12 (zaI ?_))
    refine zx_goto rfl rfl ?_
    exact tb234_92 (l0 := l0) (l1 := l1) (l2 := l2) (l3 := s0) (l4 := x6) (s0 := p13.1) hd  hx5 hx6 hx7 hF q
def b234_27 (n : Nat)   (l0 : Nat) (l1 : Int32) (l2 : Int32) (h : zH) : Option (Unit × zH) :=
  zgd (isO h l0 11) <|
  (f190 n l0 h).bind fun p3 =>
  if l2 = (-1) then
    b234_64 n  l0 l1 l2 l1 p3.2
  else
    (gR p3.2 l0 11 14).bind fun x5 =>
    (gI p3.2 l0 11 4).bind fun x7 =>
    (gR p3.2 l0 11 13).bind fun x9 =>
    (gI p3.2 l0 11 4).bind fun x11 =>
    x9.bind fun a13 =>
    (aI p3.2 a13 x11).bind fun x14 =>
    zgd (isO p3.2 l0 11) <|
    (f216 n l0 x5 (24 * x7) x14 p3.2).bind fun p18 =>
    b234_64 n  l0 l1 l2 p18.1 p18.2
set_option maxRecDepth 20000 in
theorem tb234_27 {d n : Nat} {Q : zRs → zH → Prop}   {l0 : Nat} {l1 : Int32} {l2 : Int32}  {x3 : Option Value} {x4 : Option Value} {x5 : Option Value} {x6 : Option Value} {x7 : Option Value} (hd : 10 ≤ d)   {h : zH} {p : (Unit × zH)} (hx3 : zn2 x3 = true) (hx4 : zn2 x4 = true) (hx5 : zn2 x5 = true) (hx6 : zn2 x6 = true) (hx7 : zn2 x7 = true) (hF : b234_27 n   l0 l1 l2 h = some p) (q : Q (eV p.1) p.2) : zW d 234 27 [some (.ref l0), some (.int l1), some (.int l2), x3, x4, x5, x6, x7] [] h Q := by
  unfold b234_27 at hF
  obtain ⟨d, rfl⟩ : ∃ e, d = e + 1 := ⟨d - 1, by omega⟩
  refine zx_aload_n rfl rfl rfl ?_
  replace hF := zgd_some hF
  obtain ⟨g1, hF⟩ := hF
  replace hF := zbnd hF
  obtain ⟨p3, e2, hF⟩ := hF
  refine zx_callE rfl rfl rfl rfl (zrcv_isO g1) rfl rfl (zc4 (Nat.le_of_ble_eq_true rfl)) (t190 (by omega) e2 (zaV ?_))
  refine zx_iload_n rfl rfl rfl ?_
  refine zx_iconst (v := (-1)) rfl rfl rfl ?_
  refine zx_ic_ne rfl rfl (fun c4 => ?_) (fun c4 => ?_)
  · rw [if_neg c4] at hF
    refine zx_aload_n rfl rfl rfl ?_
    refine zx_aload_n rfl rfl rfl ?_
    replace hF := zbnd hF
    obtain ⟨x5, e6, hF⟩ := hF
    refine zy_getR rfl rfl e6 ?_
    refine zx_bipush (v := 24) rfl rfl rfl ?_
    refine zx_aload_n rfl rfl rfl ?_
    replace hF := zbnd hF
    obtain ⟨x7, e8, hF⟩ := hF
    refine zy_getI rfl rfl e8 ?_
    refine zx_imul rfl rfl ?_
    refine zx_aload_n rfl rfl rfl ?_
    replace hF := zbnd hF
    obtain ⟨x9, e10, hF⟩ := hF
    refine zy_getR rfl rfl e10 ?_
    refine zx_aload_n rfl rfl rfl ?_
    replace hF := zbnd hF
    obtain ⟨x11, e12, hF⟩ := hF
    refine zy_getI rfl rfl e12 ?_
    replace hF := zbnd hF
    obtain ⟨a13, rfl, hF⟩ := hF
    replace hF := zbnd hF
    obtain ⟨x14, e15, hF⟩ := hF
    refine zy_aI rfl rfl e15 ?_
    replace hF := zgd_some hF
    obtain ⟨g16, hF⟩ := hF
    replace hF := zbnd hF
    obtain ⟨p18, e17, hF⟩ := hF
    refine zx_callE rfl rfl rfl rfl (zrcv_isO g16) (congrArg (List.cons _) ((zsl_rf _ _).trans (congrArg (List.cons _) rfl))) rfl (zc4 (Nat.le_of_ble_eq_true rfl)) (t216 (by omega) e17 (zaI ?_))
    exact tb234_64 (l0 := l0) (l1 := l1) (l2 := l2) (s0 := p18.1) hd  hx3 hx4 hx5 hx6 hx7 hF q
  · rw [if_pos c4] at hF
    refine zx_iload_n rfl rfl rfl ?_
    refine zx_goto rfl rfl ?_
    exact tb234_64 (l0 := l0) (l1 := l1) (l2 := l2) (s0 := l1) hd  hx3 hx4 hx5 hx6 hx7 hF q
def f234 (n : Nat)  (y0 : Nat) (y1 : Int32) (y2 : Int32) (h : zH) : Option (Unit × zH) :=
  (gI h y0 11 73).bind fun x1 =>
  if x1 = (-1) then
    (gR h y0 11 32).bind fun x4 =>
    (gI h y0 11 4).bind fun x6 =>
    x4.bind fun a8 =>
    (aI h a8 x6).bind fun x9 =>
    if x9 = 100 then
      zgd (isO h y0 11) <|
      (f195 n y0 5 h).bind fun p14 =>
      b234_27 n  y0 y1 y2 p14.2
    else
      b234_27 n  y0 y1 y2 h
  else
    b234_27 n  y0 y1 y2 h
set_option maxRecDepth 20000 in
theorem t234 {d n : Nat} {Q : zRs → zH → Prop}  {y0 : Nat} {y1 : Int32} {y2 : Int32} (hd : 10 ≤ d)  {h : zH} {p : (Unit × zH)} (hF : f234 n  y0 y1 y2 h = some p) (q : Q (eV p.1) p.2) : zC d 234 [.ref y0, .int y1, .int y2] h Q := by
  refine zC_of (L := [some (.ref y0), some (.int y1), some (.int y2), none, none, none, none, none]) rfl rfl ?_
  unfold f234 at hF
  obtain ⟨d, rfl⟩ : ∃ e, d = e + 1 := ⟨d - 1, by omega⟩
  refine zx_aload_n rfl rfl rfl ?_
  replace hF := zbnd hF
  obtain ⟨x1, e2, hF⟩ := hF
  refine zy_getI rfl rfl e2 ?_
  refine zx_iconst (v := (-1)) rfl rfl rfl ?_
  refine zx_ic_ne rfl rfl (fun c3 => ?_) (fun c3 => ?_)
  · rw [if_neg c3] at hF
    exact tb234_27 (l0 := y0) (l1 := y1) (l2 := y2) hd  rfl rfl rfl rfl rfl hF q
  · rw [if_pos c3] at hF
    refine zx_aload_n rfl rfl rfl ?_
    replace hF := zbnd hF
    obtain ⟨x4, e5, hF⟩ := hF
    refine zy_getR rfl rfl e5 ?_
    refine zx_aload_n rfl rfl rfl ?_
    replace hF := zbnd hF
    obtain ⟨x6, e7, hF⟩ := hF
    refine zy_getI rfl rfl e7 ?_
    replace hF := zbnd hF
    obtain ⟨a8, rfl, hF⟩ := hF
    replace hF := zbnd hF
    obtain ⟨x9, e10, hF⟩ := hF
    refine zy_aI rfl rfl e10 ?_
    refine zx_bipush (v := 100) rfl rfl rfl ?_
    refine zx_ic_ne rfl rfl (fun c11 => ?_) (fun c11 => ?_)
    · rw [if_neg c11] at hF
      exact tb234_27 (l0 := y0) (l1 := y1) (l2 := y2) hd  rfl rfl rfl rfl rfl hF q
    · rw [if_pos c11] at hF
      refine zx_aload_n rfl rfl rfl ?_
      refine zx_iconst (v := 5) rfl rfl rfl ?_
      replace hF := zgd_some hF
      obtain ⟨g12, hF⟩ := hF
      replace hF := zbnd hF
      obtain ⟨p14, e13, hF⟩ := hF
      refine zx_callE rfl rfl rfl rfl (zrcv_isO g12) rfl rfl (zc4 (Nat.le_of_ble_eq_true rfl)) (t195 (by omega) e13 (zaV ?_))
      exact tb234_27 (l0 := y0) (l1 := y1) (l2 := y2) hd  rfl rfl rfl rfl rfl hF q
def b226_327 (n : Nat)   (l0 : Nat) (l1 : Int32) (l2 : Int32) (l3 : Int32) (l4 : Int32) (h : zH) : Option (Unit × zH) :=
  zgd (isO h l0 11) <|
  (f208 n l0 125 h).bind fun p3 =>
  some ((), p3.2)
set_option maxRecDepth 20000 in
theorem tb226_327 {d n : Nat} {Q : zRs → zH → Prop}   {l0 : Nat} {l1 : Int32} {l2 : Int32} {l3 : Int32} {l4 : Int32}   (hd : 11 ≤ d)   {h : zH} {p : (Unit × zH)}  (hF : b226_327 n   l0 l1 l2 l3 l4 h = some p) (q : Q (eV p.1) p.2) : zW d 226 327 [some (.ref l0), some (.int l1), some (.int l2), some (.int l3), some (.int l4)] [] h Q := by
  unfold b226_327 at hF
  obtain ⟨d, rfl⟩ : ∃ e, d = e + 1 := ⟨d - 1, by omega⟩
  refine zx_aload_n rfl rfl rfl ?_
  refine zx_bipush (v := 125) rfl rfl rfl ?_
  replace hF := zgd_some hF
  obtain ⟨g1, hF⟩ := hF
  replace hF := zbnd hF
  obtain ⟨p3, e2, hF⟩ := hF
  refine zx_callE rfl rfl rfl rfl (zrcv_isO g1) rfl rfl (zc4 (Nat.le_of_ble_eq_true rfl)) (t208 (by omega) e2 (zaV ?_))
  replace hF := Option.some.inj hF
  subst hF
  exact zx_return rfl rfl rfl q
def b226_306 (n : Nat)   (l0 : Nat) (l1 : Int32) (l2 : Int32) (l3 : Int32) (l4 : Int32) (h : zH) : Option (Unit × zH) :=
  (gI h l0 11 73).bind fun x1 =>
  if x1 = (-1) then
    (gR h l0 11 13).bind fun x4 =>
    (gI h l0 11 4).bind fun x6 =>
    x4.bind fun a8 =>
    (aI h a8 x6).bind fun x9 =>
    (aS zsI h a8 x6 (.int (x9 + 1))).bind fun h11 =>
    b226_327 n  l0 l1 l2 l3 l4 h11
  else
    b226_327 n  l0 l1 l2 l3 l4 h
set_option maxRecDepth 20000 in
theorem tb226_306 {d n : Nat} {Q : zRs → zH → Prop}   {l0 : Nat} {l1 : Int32} {l2 : Int32} {l3 : Int32} {l4 : Int32}   (hd : 11 ≤ d)   {h : zH} {p : (Unit × zH)}  (hF : b226_306 n   l0 l1 l2 l3 l4 h = some p) (q : Q (eV p.1) p.2) : zW d 226 306 [some (.ref l0), some (.int l1), some (.int l2), some (.int l3), some (.int l4)] [] h Q := by
  unfold b226_306 at hF
  obtain ⟨d, rfl⟩ : ∃ e, d = e + 1 := ⟨d - 1, by omega⟩
  refine zx_aload_n rfl rfl rfl ?_
  replace hF := zbnd hF
  obtain ⟨x1, e2, hF⟩ := hF
  refine zy_getI rfl rfl e2 ?_
  refine zx_iconst (v := (-1)) rfl rfl rfl ?_
  refine zx_ic_ne rfl rfl (fun c3 => ?_) (fun c3 => ?_)
  · rw [if_neg c3] at hF
    exact tb226_327 (l0 := l0) (l1 := l1) (l2 := l2) (l3 := l3) (l4 := l4) hd   hF q
  · rw [if_pos c3] at hF
    refine zx_aload_n rfl rfl rfl ?_
    replace hF := zbnd hF
    obtain ⟨x4, e5, hF⟩ := hF
    refine zy_getR rfl rfl e5 ?_
    refine zx_aload_n rfl rfl rfl ?_
    replace hF := zbnd hF
    obtain ⟨x6, e7, hF⟩ := hF
    refine zy_getI rfl rfl e7 ?_
    refine zx_dup2 rfl rfl (by rw [zc1_rf]; rfl) ?_
    replace hF := zbnd hF
    obtain ⟨a8, rfl, hF⟩ := hF
    replace hF := zbnd hF
    obtain ⟨x9, e10, hF⟩ := hF
    refine zy_aI rfl rfl e10 ?_
    refine zx_iconst (v := 1) rfl rfl rfl ?_
    refine zx_iadd rfl rfl ?_
    replace hF := zbnd hF
    obtain ⟨h11, e12, hF⟩ := hF
    refine zy_sI rfl rfl e12 ?_
    exact tb226_327 (l0 := l0) (l1 := l1) (l2 := l2) (l3 := l3) (l4 := l4) hd   hF q
def b226_271 (n : Nat)  (r271 : Nat → Int32 → Int32 → Int32 → Int32 → zH → Option (Unit × zH)) (l0 : Nat) (l1 : Int32) (l2 : Int32) (l3 : Int32) (l4 : Int32) (h : zH) : Option (Unit × zH) :=
  (gI h l0 11 73).bind fun x1 =>
  if x1 = (-1) then
    zgd (isO h l0 11) <|
    (f213 n l0 (some 75) h).bind fun p6 =>
    if p6.1 = 0 then
      b226_306 n  l0 l1 l2 l3 l4 p6.2
    else
      (gR p6.2 l0 11 13).bind fun x8 =>
      (gI p6.2 l0 11 4).bind fun x10 =>
      x8.bind fun a12 =>
      (aI p6.2 a12 x10).bind fun x13 =>
      zgd (isO p6.2 l0 11) <|
      (f234 n l0 x13 (-1) p6.2).bind fun p17 =>
      r271 l0 l1 l2 l3 l4 p17.2
  else
    b226_306 n  l0 l1 l2 l3 l4 h
set_option maxRecDepth 20000 in
theorem tb226_271 {d n : Nat} {Q : zRs → zH → Prop}  {r271 : Nat → Int32 → Int32 → Int32 → Int32 → zH → Option (Unit × zH)} {l0 : Nat} {l1 : Int32} {l2 : Int32} {l3 : Int32} {l4 : Int32}   (hd : 11 ≤ d)  (hr271 : ∀ {l0 : Nat} {l1 : Int32} {l2 : Int32} {l3 : Int32} {l4 : Int32}   {h : zH} {p : (Unit × zH)}, r271 l0 l1 l2 l3 l4 h = some p → Q (eV p.1) p.2 → zW d 226 271 [some (.ref l0), some (.int l1), some (.int l2), some (.int l3), some (.int l4)] [] h Q) {h : zH} {p : (Unit × zH)}  (hF : b226_271 n  r271 l0 l1 l2 l3 l4 h = some p) (q : Q (eV p.1) p.2) : zW d 226 271 [some (.ref l0), some (.int l1), some (.int l2), some (.int l3), some (.int l4)] [] h Q := by
  unfold b226_271 at hF
  obtain ⟨d, rfl⟩ : ∃ e, d = e + 1 := ⟨d - 1, by omega⟩
  refine zx_aload_n rfl rfl rfl ?_
  replace hF := zbnd hF
  obtain ⟨x1, e2, hF⟩ := hF
  refine zy_getI rfl rfl e2 ?_
  refine zx_iconst (v := (-1)) rfl rfl rfl ?_
  refine zx_ic_ne rfl rfl (fun c3 => ?_) (fun c3 => ?_)
  · rw [if_neg c3] at hF
    exact tb226_306 (l0 := l0) (l1 := l1) (l2 := l2) (l3 := l3) (l4 := l4) hd   hF q
  · rw [if_pos c3] at hF
    refine zx_aload_n rfl rfl rfl ?_
    refine zx_ldcw rfl rfl rfl ?_
    replace hF := zgd_some hF
    obtain ⟨g4, hF⟩ := hF
    replace hF := zbnd hF
    obtain ⟨p6, e5, hF⟩ := hF
    refine zx_callE rfl rfl rfl rfl (zrcv_isO g4) rfl rfl (zc4 (Nat.le_of_ble_eq_true rfl)) (t213 (by omega) e5 (zaI ?_))
    refine zx_if_eq rfl rfl (fun c7 => ?_) (fun c7 => ?_)
    · rw [if_pos c7] at hF
      exact tb226_306 (l0 := l0) (l1 := l1) (l2 := l2) (l3 := l3) (l4 := l4) hd   hF q
    · rw [if_neg c7] at hF
      refine zx_aload_n rfl rfl rfl ?_
      refine zx_aload_n rfl rfl rfl ?_
      replace hF := zbnd hF
      obtain ⟨x8, e9, hF⟩ := hF
      refine zy_getR rfl rfl e9 ?_
      refine zx_aload_n rfl rfl rfl ?_
      replace hF := zbnd hF
      obtain ⟨x10, e11, hF⟩ := hF
      refine zy_getI rfl rfl e11 ?_
      replace hF := zbnd hF
      obtain ⟨a12, rfl, hF⟩ := hF
      replace hF := zbnd hF
      obtain ⟨x13, e14, hF⟩ := hF
      refine zy_aI rfl rfl e14 ?_
      refine zx_iconst (v := (-1)) rfl rfl rfl ?_
      replace hF := zgd_some hF
      obtain ⟨g15, hF⟩ := hF
      replace hF := zbnd hF
      obtain ⟨p17, e16, hF⟩ := hF
      refine zx_callE rfl rfl rfl rfl (zrcv_isO g15) rfl rfl (zc4 (Nat.le_of_ble_eq_true rfl)) (t234 (by omega) e16 (zaV ?_))
      refine zx_goto rfl rfl ?_
      exact hr271  hF q
def f226_271 (n : Nat)   (k : Nat) : Nat → Int32 → Int32 → Int32 → Int32 → zH → Option (Unit × zH) := Nat.rec (fun _ _ _ _ _ _ => none) (fun _ ih => b226_271 n  ih) k
theorem tf226_271 {d n : Nat} {Q : zRs → zH → Prop}   (hd : 11 ≤ d)   (k : Nat) : ∀ {l0 : Nat} {l1 : Int32} {l2 : Int32} {l3 : Int32} {l4 : Int32}   {h : zH} {p : (Unit × zH)}, f226_271 n   k l0 l1 l2 l3 l4 h = some p → Q (eV p.1) p.2 → zW d 226 271 [some (.ref l0), some (.int l1), some (.int l2), some (.int l3), some (.int l4)] [] h Q := by
  induction k with
  | zero => intros; rename_i hF _; cases hF
  | succ k ih => intros; rename_i  hF q; exact tb226_271 (n := n) hd  ih  hF q
def b226_245 (n : Nat)  (r245 : Nat → Int32 → Int32 → Int32 → Int32 → zH → Option (Unit × zH)) (l0 : Nat) (l1 : Int32) (l2 : Int32) (l3 : Int32) (l4 : Int32) (h : zH) : Option (Unit × zH) :=
  (gI h l0 11 73).bind fun x1 =>
  if x1 = (-1) then
    zgd (isO h l0 11) <|
    (f213 n l0 (some 73) h).bind fun p6 =>
    if p6.1 = 0 then
      f226_271 n  n l0 l1 l2 l3 l4 p6.2
    else
      zgd (isO p6.2 l0 11) <|
      (f233 n l0 l2 p6.2).bind fun p10 =>
      r245 l0 l1 l2 l3 l4 p10.2
  else
    f226_271 n  n l0 l1 l2 l3 l4 h
set_option maxRecDepth 20000 in
theorem tb226_245 {d n : Nat} {Q : zRs → zH → Prop}  {r245 : Nat → Int32 → Int32 → Int32 → Int32 → zH → Option (Unit × zH)} {l0 : Nat} {l1 : Int32} {l2 : Int32} {l3 : Int32} {l4 : Int32}   (hd : 11 ≤ d)  (hr245 : ∀ {l0 : Nat} {l1 : Int32} {l2 : Int32} {l3 : Int32} {l4 : Int32}   {h : zH} {p : (Unit × zH)}, r245 l0 l1 l2 l3 l4 h = some p → Q (eV p.1) p.2 → zW d 226 245 [some (.ref l0), some (.int l1), some (.int l2), some (.int l3), some (.int l4)] [] h Q) {h : zH} {p : (Unit × zH)}  (hF : b226_245 n  r245 l0 l1 l2 l3 l4 h = some p) (q : Q (eV p.1) p.2) : zW d 226 245 [some (.ref l0), some (.int l1), some (.int l2), some (.int l3), some (.int l4)] [] h Q := by
  unfold b226_245 at hF
  obtain ⟨d, rfl⟩ : ∃ e, d = e + 1 := ⟨d - 1, by omega⟩
  refine zx_aload_n rfl rfl rfl ?_
  replace hF := zbnd hF
  obtain ⟨x1, e2, hF⟩ := hF
  refine zy_getI rfl rfl e2 ?_
  refine zx_iconst (v := (-1)) rfl rfl rfl ?_
  refine zx_ic_ne rfl rfl (fun c3 => ?_) (fun c3 => ?_)
  · rw [if_neg c3] at hF
    exact tf226_271 hd  n (l0 := l0) (l1 := l1) (l2 := l2) (l3 := l3) (l4 := l4)  hF q
  · rw [if_pos c3] at hF
    refine zx_aload_n rfl rfl rfl ?_
    refine zx_ldcw rfl rfl rfl ?_
    replace hF := zgd_some hF
    obtain ⟨g4, hF⟩ := hF
    replace hF := zbnd hF
    obtain ⟨p6, e5, hF⟩ := hF
    refine zx_callE rfl rfl rfl rfl (zrcv_isO g4) rfl rfl (zc4 (Nat.le_of_ble_eq_true rfl)) (t213 (by omega) e5 (zaI ?_))
    refine zx_if_eq rfl rfl (fun c7 => ?_) (fun c7 => ?_)
    · rw [if_pos c7] at hF
      exact tf226_271 hd  n (l0 := l0) (l1 := l1) (l2 := l2) (l3 := l3) (l4 := l4)  hF q
    · rw [if_neg c7] at hF
      refine zx_aload_n rfl rfl rfl ?_
      refine zx_iload_n rfl rfl rfl ?_
      replace hF := zgd_some hF
      obtain ⟨g8, hF⟩ := hF
      replace hF := zbnd hF
      obtain ⟨p10, e9, hF⟩ := hF
      refine zx_callE rfl rfl rfl rfl (zrcv_isO g8) rfl rfl (zc4 (Nat.le_of_ble_eq_true rfl)) (t233 (by omega) e9 (zaV ?_))
      refine zx_goto rfl rfl ?_
      exact hr245  hF q
def f226_245 (n : Nat)   (k : Nat) : Nat → Int32 → Int32 → Int32 → Int32 → zH → Option (Unit × zH) := Nat.rec (fun _ _ _ _ _ _ => none) (fun _ ih => b226_245 n  ih) k
theorem tf226_245 {d n : Nat} {Q : zRs → zH → Prop}   (hd : 11 ≤ d)   (k : Nat) : ∀ {l0 : Nat} {l1 : Int32} {l2 : Int32} {l3 : Int32} {l4 : Int32}   {h : zH} {p : (Unit × zH)}, f226_245 n   k l0 l1 l2 l3 l4 h = some p → Q (eV p.1) p.2 → zW d 226 245 [some (.ref l0), some (.int l1), some (.int l2), some (.int l3), some (.int l4)] [] h Q := by
  induction k with
  | zero => intros; rename_i hF _; cases hF
  | succ k ih => intros; rename_i  hF q; exact tb226_245 (n := n) hd  ih  hF q
def b226_222 (n : Nat)   (l0 : Nat) (l1 : Int32) (l2 : Int32) (l3 : Int32) (s0 : Int32) (h : zH) : Option (Unit × zH) :=
  zgd (isO h l0 11) <|
  (f208 n l0 59 h).bind fun p3 =>
  (gR p3.2 l0 11 18).bind fun x4 =>
  x4.bind fun a6 =>
  (aS zsI p3.2 a6 l2 (.int l3)).bind fun h7 =>
  (gR h7 l0 11 19).bind fun x9 =>
  x9.bind fun a11 =>
  (aS zsI h7 a11 l2 (.int s0)).bind fun h12 =>
  f226_245 n  n l0 l1 l2 l3 s0 h12
set_option maxRecDepth 20000 in
theorem tb226_222 {d n : Nat} {Q : zRs → zH → Prop}   {l0 : Nat} {l1 : Int32} {l2 : Int32} {l3 : Int32} {s0 : Int32} {x4 : Option Value} (hd : 11 ≤ d)   {h : zH} {p : (Unit × zH)} (hx4 : zn2 x4 = true) (hF : b226_222 n   l0 l1 l2 l3 s0 h = some p) (q : Q (eV p.1) p.2) : zW d 226 222 [some (.ref l0), some (.int l1), some (.int l2), some (.int l3), x4] [.int s0] h Q := by
  unfold b226_222 at hF
  obtain ⟨d, rfl⟩ : ∃ e, d = e + 1 := ⟨d - 1, by omega⟩
  refine zx_istore rfl rfl rfl ?_
  refine zx_aload_n rfl rfl rfl ?_
  refine zx_bipush (v := 59) rfl rfl rfl ?_
  replace hF := zgd_some hF
  obtain ⟨g1, hF⟩ := hF
  replace hF := zbnd hF
  obtain ⟨p3, e2, hF⟩ := hF
  refine zx_callE rfl rfl rfl rfl (zrcv_isO g1) rfl rfl (zc4 (Nat.le_of_ble_eq_true rfl)) (t208 (by omega) e2 (zaV ?_))
  refine zx_aload_n rfl rfl rfl ?_
  replace hF := zbnd hF
  obtain ⟨x4, e5, hF⟩ := hF
  refine zy_getR rfl rfl e5 ?_
  refine zx_iload_n rfl rfl rfl ?_
  refine zx_iload_n rfl rfl rfl ?_
  replace hF := zbnd hF
  obtain ⟨a6, rfl, hF⟩ := hF
  replace hF := zbnd hF
  obtain ⟨h7, e8, hF⟩ := hF
  refine zy_sI rfl rfl e8 ?_
  refine zx_aload_n rfl rfl rfl ?_
  replace hF := zbnd hF
  obtain ⟨x9, e10, hF⟩ := hF
  refine zy_getR rfl rfl e10 ?_
  refine zx_iload_n rfl rfl rfl ?_
  refine zx_iload rfl rfl rfl ?_
  replace hF := zbnd hF
  obtain ⟨a11, rfl, hF⟩ := hF
  replace hF := zbnd hF
  obtain ⟨h12, e13, hF⟩ := hF
  refine zy_sI rfl rfl e13 ?_
  exact tf226_245 hd  n (l0 := l0) (l1 := l1) (l2 := l2) (l3 := l3) (l4 := s0)  hF q
def b226_191 (n : Nat)   (l0 : Nat) (l1 : Int32) (l2 : Int32) (s0 : Int32) (h : zH) : Option (Unit × zH) :=
  zgd (isO h l0 11) <|
  (f208 n l0 59 h).bind fun p3 =>
  zgd (isO p3.2 l0 11) <|
  (f228 n l0 (some 71) p3.2).bind fun p6 =>
  (gI p6.2 l0 11 73).bind fun x7 =>
  if x7 = (-1) then
    zgd (isO p6.2 l0 11) <|
    (f232 n l0 l2 p6.2).bind fun p12 =>
    b226_222 n  l0 l1 l2 s0 p12.1 p12.2
  else
    b226_222 n  l0 l1 l2 s0 0 p6.2
set_option maxRecDepth 20000 in
theorem tb226_191 {d n : Nat} {Q : zRs → zH → Prop}   {l0 : Nat} {l1 : Int32} {l2 : Int32} {s0 : Int32} {x3 : Option Value} {x4 : Option Value} (hd : 11 ≤ d)   {h : zH} {p : (Unit × zH)} (hx3 : zn2 x3 = true) (hx4 : zn2 x4 = true) (hF : b226_191 n   l0 l1 l2 s0 h = some p) (q : Q (eV p.1) p.2) : zW d 226 191 [some (.ref l0), some (.int l1), some (.int l2), x3, x4] [.int s0] h Q := by
  unfold b226_191 at hF
  obtain ⟨d, rfl⟩ : ∃ e, d = e + 1 := ⟨d - 1, by omega⟩
  refine zx_istore_n rfl rfl rfl ?_
  refine zx_aload_n rfl rfl rfl ?_
  refine zx_bipush (v := 59) rfl rfl rfl ?_
  replace hF := zgd_some hF
  obtain ⟨g1, hF⟩ := hF
  replace hF := zbnd hF
  obtain ⟨p3, e2, hF⟩ := hF
  refine zx_callE rfl rfl rfl rfl (zrcv_isO g1) rfl rfl (zc4 (Nat.le_of_ble_eq_true rfl)) (t208 (by omega) e2 (zaV ?_))
  refine zx_aload_n rfl rfl rfl ?_
  refine zx_ldcw rfl rfl rfl ?_
  replace hF := zgd_some hF
  obtain ⟨g4, hF⟩ := hF
  replace hF := zbnd hF
  obtain ⟨p6, e5, hF⟩ := hF
  refine zx_callE rfl rfl rfl rfl (zrcv_isO g4) rfl rfl (zc4 (Nat.le_of_ble_eq_true rfl)) (t228 (by omega) e5 (zaV ?_))
  refine zx_aload_n rfl rfl rfl ?_
  replace hF := zbnd hF
  obtain ⟨x7, e8, hF⟩ := hF
  refine zy_getI rfl rfl e8 ?_
  refine zx_iconst (v := (-1)) rfl rfl rfl ?_
  refine zx_ic_ne rfl rfl (fun c9 => ?_) (fun c9 => ?_)
  · rw [if_neg c9] at hF
    refine zx_iconst (v := 0) rfl rfl rfl ?_
    exact tb226_222 (l0 := l0) (l1 := l1) (l2 := l2) (l3 := s0) (s0 := 0) hd  hx4 hF q
  · rw [if_pos c9] at hF
    refine zx_aload_n rfl rfl rfl ?_
    refine zx_iload_n rfl rfl rfl ?_
    replace hF := zgd_some hF
    obtain ⟨g10, hF⟩ := hF
    replace hF := zbnd hF
    obtain ⟨p12, e11, hF⟩ := hF
    refine zx_callE rfl rfl rfl rfl (zrcv_isO g10) rfl rfl (zc4 (Nat.le_of_ble_eq_true rfl)) (t232 (by omega) e11 (zaI ?_))
    refine zx_goto rfl rfl ?_
    exact tb226_222 (l0 := l0) (l1 := l1) (l2 := l2) (l3 := s0) (s0 := p12.1) hd  hx4 hF q
def b226_161 (n : Nat)   (l0 : Nat) (l1 : Int32) (l2 : Int32) (h : zH) : Option (Unit × zH) :=
  zgd (isO h l0 11) <|
  (f208 n l0 123 h).bind fun p3 =>
  zgd (isO p3.2 l0 11) <|
  (f228 n l0 (some 69) p3.2).bind fun p6 =>
  (gI p6.2 l0 11 73).bind fun x7 =>
  if x7 = (-1) then
    zgd (isO p6.2 l0 11) <|
    (f229 n l0 l2 p6.2).bind fun p12 =>
    b226_191 n  l0 l1 l2 p12.1 p12.2
  else
    b226_191 n  l0 l1 l2 0 p6.2
set_option maxRecDepth 20000 in
theorem tb226_161 {d n : Nat} {Q : zRs → zH → Prop}   {l0 : Nat} {l1 : Int32} {l2 : Int32}  {x3 : Option Value} {x4 : Option Value} (hd : 11 ≤ d)   {h : zH} {p : (Unit × zH)} (hx3 : zn2 x3 = true) (hx4 : zn2 x4 = true) (hF : b226_161 n   l0 l1 l2 h = some p) (q : Q (eV p.1) p.2) : zW d 226 161 [some (.ref l0), some (.int l1), some (.int l2), x3, x4] [] h Q := by
  unfold b226_161 at hF
  obtain ⟨d, rfl⟩ : ∃ e, d = e + 1 := ⟨d - 1, by omega⟩
  refine zx_aload_n rfl rfl rfl ?_
  refine zx_bipush (v := 123) rfl rfl rfl ?_
  replace hF := zgd_some hF
  obtain ⟨g1, hF⟩ := hF
  replace hF := zbnd hF
  obtain ⟨p3, e2, hF⟩ := hF
  refine zx_callE rfl rfl rfl rfl (zrcv_isO g1) rfl rfl (zc4 (Nat.le_of_ble_eq_true rfl)) (t208 (by omega) e2 (zaV ?_))
  refine zx_aload_n rfl rfl rfl ?_
  refine zx_ldcw rfl rfl rfl ?_
  replace hF := zgd_some hF
  obtain ⟨g4, hF⟩ := hF
  replace hF := zbnd hF
  obtain ⟨p6, e5, hF⟩ := hF
  refine zx_callE rfl rfl rfl rfl (zrcv_isO g4) rfl rfl (zc4 (Nat.le_of_ble_eq_true rfl)) (t228 (by omega) e5 (zaV ?_))
  refine zx_aload_n rfl rfl rfl ?_
  replace hF := zbnd hF
  obtain ⟨x7, e8, hF⟩ := hF
  refine zy_getI rfl rfl e8 ?_
  refine zx_iconst (v := (-1)) rfl rfl rfl ?_
  refine zx_ic_ne rfl rfl (fun c9 => ?_) (fun c9 => ?_)
  · rw [if_neg c9] at hF
    refine zx_iconst (v := 0) rfl rfl rfl ?_
    exact tb226_191 (l0 := l0) (l1 := l1) (l2 := l2) (s0 := 0) hd  hx3 hx4 hF q
  · rw [if_pos c9] at hF
    refine zx_aload_n rfl rfl rfl ?_
    refine zx_iload_n rfl rfl rfl ?_
    replace hF := zgd_some hF
    obtain ⟨g10, hF⟩ := hF
    replace hF := zbnd hF
    obtain ⟨p12, e11, hF⟩ := hF
    refine zx_callE rfl rfl rfl rfl (zrcv_isO g10) rfl rfl (zc4 (Nat.le_of_ble_eq_true rfl)) (t229 (by omega) e11 (zaI ?_))
    refine zx_goto rfl rfl ?_
    exact tb226_191 (l0 := l0) (l1 := l1) (l2 := l2) (s0 := p12.1) hd  hx3 hx4 hF q
def b226_131 (n : Nat)   (l0 : Nat) (l1 : Int32) (l2 : Int32) (s0 : Int32) (s1 : Nat) (h : zH) : Option (Unit × zH) :=
  zgd (isO h s1 11) <|
  (f200 n s1 s0 h).bind fun p3 =>
  zgd (isO p3.2 l0 11) <|
  (f190 n l0 p3.2).bind fun p6 =>
  (gI p6.2 l0 11 73).bind fun x7 =>
  if x7 = (-1) then
    (gR p6.2 l0 11 15).bind fun x10 =>
    x10.bind fun a12 =>
    (aI p6.2 a12 l2).bind fun x13 =>
    if x13 = 2 then
      zgd (isO p6.2 l0 11) <|
      (f227 n l0 l2 p6.2).bind fun p18 =>
      b226_161 n  l0 l1 l2 p18.2
    else
      b226_161 n  l0 l1 l2 p6.2
  else
    b226_161 n  l0 l1 l2 p6.2
set_option maxRecDepth 20000 in
theorem tb226_131 {d n : Nat} {Q : zRs → zH → Prop}   {l0 : Nat} {l1 : Int32} {l2 : Int32} {s0 : Int32} {s1 : Nat} {x3 : Option Value} {x4 : Option Value} (hd : 11 ≤ d)   {h : zH} {p : (Unit × zH)} (hx3 : zn2 x3 = true) (hx4 : zn2 x4 = true) (hF : b226_131 n   l0 l1 l2 s0 s1 h = some p) (q : Q (eV p.1) p.2) : zW d 226 131 [some (.ref l0), some (.int l1), some (.int l2), x3, x4] [.int s0, .ref s1] h Q := by
  unfold b226_131 at hF
  obtain ⟨d, rfl⟩ : ∃ e, d = e + 1 := ⟨d - 1, by omega⟩
  replace hF := zgd_some hF
  obtain ⟨g1, hF⟩ := hF
  replace hF := zbnd hF
  obtain ⟨p3, e2, hF⟩ := hF
  refine zx_callE rfl rfl rfl rfl (zrcv_isO g1) rfl rfl (zc4 (Nat.le_of_ble_eq_true rfl)) (t200 (by omega) e2 (zaV ?_))
  refine zx_aload_n rfl rfl rfl ?_
  replace hF := zgd_some hF
  obtain ⟨g4, hF⟩ := hF
  replace hF := zbnd hF
  obtain ⟨p6, e5, hF⟩ := hF
  refine zx_callE rfl rfl rfl rfl (zrcv_isO g4) rfl rfl (zc4 (Nat.le_of_ble_eq_true rfl)) (t190 (by omega) e5 (zaV ?_))
  refine zx_aload_n rfl rfl rfl ?_
  replace hF := zbnd hF
  obtain ⟨x7, e8, hF⟩ := hF
  refine zy_getI rfl rfl e8 ?_
  refine zx_iconst (v := (-1)) rfl rfl rfl ?_
  refine zx_ic_ne rfl rfl (fun c9 => ?_) (fun c9 => ?_)
  · rw [if_neg c9] at hF
    exact tb226_161 (l0 := l0) (l1 := l1) (l2 := l2) hd  hx3 hx4 hF q
  · rw [if_pos c9] at hF
    refine zx_aload_n rfl rfl rfl ?_
    replace hF := zbnd hF
    obtain ⟨x10, e11, hF⟩ := hF
    refine zy_getR rfl rfl e11 ?_
    refine zx_iload_n rfl rfl rfl ?_
    replace hF := zbnd hF
    obtain ⟨a12, rfl, hF⟩ := hF
    replace hF := zbnd hF
    obtain ⟨x13, e14, hF⟩ := hF
    refine zy_aI rfl rfl e14 ?_
    refine zx_iconst (v := 2) rfl rfl rfl ?_
    refine zx_ic_ne rfl rfl (fun c15 => ?_) (fun c15 => ?_)
    · rw [if_neg c15] at hF
      exact tb226_161 (l0 := l0) (l1 := l1) (l2 := l2) hd  hx3 hx4 hF q
    · rw [if_pos c15] at hF
      refine zx_aload_n rfl rfl rfl ?_
      refine zx_iload_n rfl rfl rfl ?_
      replace hF := zgd_some hF
      obtain ⟨g16, hF⟩ := hF
      replace hF := zbnd hF
      obtain ⟨p18, e17, hF⟩ := hF
      refine zx_callE rfl rfl rfl rfl (zrcv_isO g16) rfl rfl (zc4 (Nat.le_of_ble_eq_true rfl)) (t227 (by omega) e17 (zaV ?_))
      exact tb226_161 (l0 := l0) (l1 := l1) (l2 := l2) hd  hx3 hx4 hF q
def b226_19 (n : Nat)   (l0 : Nat) (h : zH) : Option (Unit × zH) :=
  zgd (isO h l0 11) <|
  (f190 n l0 h).bind fun p3 =>
  (gR p3.2 l0 11 14).bind fun x4 =>
  (gI p3.2 l0 11 4).bind fun x6 =>
  (gR p3.2 l0 11 13).bind fun x8 =>
  (gI p3.2 l0 11 4).bind fun x10 =>
  x8.bind fun a12 =>
  (aI p3.2 a12 x10).bind fun x13 =>
  zgd (isO p3.2 l0 11) <|
  (f202 n l0 x4 (24 * x6) x13 p3.2).bind fun p17 =>
  zgd (isO p17.2 l0 11) <|
  (f208 n l0 58 p17.2).bind fun p20 =>
  (gI p20.2 l0 11 73).bind fun x21 =>
  if x21 = (-1) then
    (gI p20.2 l0 11 4).bind fun x24 =>
    (gR p20.2 l0 11 13).bind fun x26 =>
    (gI p20.2 l0 11 4).bind fun x28 =>
    x26.bind fun a30 =>
    (aI p20.2 a30 x28).bind fun x31 =>
    (gR p20.2 l0 11 14).bind fun x33 =>
    x33.bind fun a35 =>
    (aS zsI p20.2 a35 ((24 * x24) + x31) (.int p17.1)).bind fun h36 =>
    (gR h36 l0 11 15).bind fun x38 =>
    zgd (isO h36 l0 11) <|
    (f199 n l0 (some 67) h36).bind fun p42 =>
    x38.bind fun a43 =>
    (aS zsI p42.2 a43 ((24 * x24) + x31) (.int p42.1)).bind fun h44 =>
    (gR h44 l0 11 16).bind fun x46 =>
    x46.bind fun a48 =>
    (aS zsI h44 a48 ((24 * x24) + x31) (.int 0)).bind fun h49 =>
    (gR h49 l0 11 20).bind fun x51 =>
    x51.bind fun a53 =>
    (aS zsI h49 a53 ((24 * x24) + x31) (.int 0)).bind fun h54 =>
    (gR h54 l0 11 15).bind fun x56 =>
    x56.bind fun a58 =>
    (aI h54 a58 ((24 * x24) + x31)).bind fun x59 =>
    if x59 = (-1) then
      b226_131 n  l0 p17.1 ((24 * x24) + x31) 0 l0 h54
    else
      b226_131 n  l0 p17.1 ((24 * x24) + x31) 1 l0 h54
  else
    some ((), p20.2)
set_option maxRecDepth 20000 in
theorem tb226_19 {d n : Nat} {Q : zRs → zH → Prop}   {l0 : Nat}  {x1 : Option Value} {x2 : Option Value} {x3 : Option Value} {x4 : Option Value} (hd : 11 ≤ d)   {h : zH} {p : (Unit × zH)} (hx1 : zn2 x1 = true) (hx2 : zn2 x2 = true) (hx3 : zn2 x3 = true) (hx4 : zn2 x4 = true) (hF : b226_19 n   l0 h = some p) (q : Q (eV p.1) p.2) : zW d 226 19 [some (.ref l0), x1, x2, x3, x4] [] h Q := by
  unfold b226_19 at hF
  obtain ⟨d, rfl⟩ : ∃ e, d = e + 1 := ⟨d - 1, by omega⟩
  refine zx_aload_n rfl rfl rfl ?_
  replace hF := zgd_some hF
  obtain ⟨g1, hF⟩ := hF
  replace hF := zbnd hF
  obtain ⟨p3, e2, hF⟩ := hF
  refine zx_callE rfl rfl rfl rfl (zrcv_isO g1) rfl rfl (zc4 (Nat.le_of_ble_eq_true rfl)) (t190 (by omega) e2 (zaV ?_))
  refine zx_aload_n rfl rfl rfl ?_
  refine zx_aload_n rfl rfl rfl ?_
  replace hF := zbnd hF
  obtain ⟨x4, e5, hF⟩ := hF
  refine zy_getR rfl rfl e5 ?_
  refine zx_bipush (v := 24) rfl rfl rfl ?_
  refine zx_aload_n rfl rfl rfl ?_
  replace hF := zbnd hF
  obtain ⟨x6, e7, hF⟩ := hF
  refine zy_getI rfl rfl e7 ?_
  refine zx_imul rfl rfl ?_
  refine zx_aload_n rfl rfl rfl ?_
  replace hF := zbnd hF
  obtain ⟨x8, e9, hF⟩ := hF
  refine zy_getR rfl rfl e9 ?_
  refine zx_aload_n rfl rfl rfl ?_
  replace hF := zbnd hF
  obtain ⟨x10, e11, hF⟩ := hF
  refine zy_getI rfl rfl e11 ?_
  replace hF := zbnd hF
  obtain ⟨a12, rfl, hF⟩ := hF
  replace hF := zbnd hF
  obtain ⟨x13, e14, hF⟩ := hF
  refine zy_aI rfl rfl e14 ?_
  replace hF := zgd_some hF
  obtain ⟨g15, hF⟩ := hF
  replace hF := zbnd hF
  obtain ⟨p17, e16, hF⟩ := hF
  refine zx_callE rfl rfl rfl rfl (zrcv_isO g15) (congrArg (List.cons _) ((zsl_rf _ _).trans (congrArg (List.cons _) rfl))) rfl (zc4 (Nat.le_of_ble_eq_true rfl)) (t202 (by omega) e16 (zaI ?_))
  refine zx_istore_n rfl rfl rfl ?_
  refine zx_aload_n rfl rfl rfl ?_
  refine zx_bipush (v := 58) rfl rfl rfl ?_
  replace hF := zgd_some hF
  obtain ⟨g18, hF⟩ := hF
  replace hF := zbnd hF
  obtain ⟨p20, e19, hF⟩ := hF
  refine zx_callE rfl rfl rfl rfl (zrcv_isO g18) rfl rfl (zc4 (Nat.le_of_ble_eq_true rfl)) (t208 (by omega) e19 (zaV ?_))
  refine zx_aload_n rfl rfl rfl ?_
  replace hF := zbnd hF
  obtain ⟨x21, e22, hF⟩ := hF
  refine zy_getI rfl rfl e22 ?_
  refine zx_iconst (v := (-1)) rfl rfl rfl ?_
  refine zx_ic_eq rfl rfl (fun c23 => ?_) (fun c23 => ?_)
  · rw [if_pos c23] at hF
    refine zx_bipush (v := 24) rfl rfl rfl ?_
    refine zx_aload_n rfl rfl rfl ?_
    replace hF := zbnd hF
    obtain ⟨x24, e25, hF⟩ := hF
    refine zy_getI rfl rfl e25 ?_
    refine zx_imul rfl rfl ?_
    refine zx_aload_n rfl rfl rfl ?_
    replace hF := zbnd hF
    obtain ⟨x26, e27, hF⟩ := hF
    refine zy_getR rfl rfl e27 ?_
    refine zx_aload_n rfl rfl rfl ?_
    replace hF := zbnd hF
    obtain ⟨x28, e29, hF⟩ := hF
    refine zy_getI rfl rfl e29 ?_
    replace hF := zbnd hF
    obtain ⟨a30, rfl, hF⟩ := hF
    replace hF := zbnd hF
    obtain ⟨x31, e32, hF⟩ := hF
    refine zy_aI rfl rfl e32 ?_
    refine zx_iadd rfl rfl ?_
    refine zx_istore_n rfl rfl rfl ?_
    refine zx_aload_n rfl rfl rfl ?_
    replace hF := zbnd hF
    obtain ⟨x33, e34, hF⟩ := hF
    refine zy_getR rfl rfl e34 ?_
    refine zx_iload_n rfl rfl rfl ?_
    refine zx_iload_n rfl rfl rfl ?_
    replace hF := zbnd hF
    obtain ⟨a35, rfl, hF⟩ := hF
    replace hF := zbnd hF
    obtain ⟨h36, e37, hF⟩ := hF
    refine zy_sI rfl rfl e37 ?_
    refine zx_aload_n rfl rfl rfl ?_
    replace hF := zbnd hF
    obtain ⟨x38, e39, hF⟩ := hF
    refine zy_getR rfl rfl e39 ?_
    refine zx_iload_n rfl rfl rfl ?_
    refine zx_aload_n rfl rfl rfl ?_
    refine zx_ldcw rfl rfl rfl ?_
    replace hF := zgd_some hF
    obtain ⟨g40, hF⟩ := hF
    replace hF := zbnd hF
    obtain ⟨p42, e41, hF⟩ := hF
    refine zx_callE rfl rfl rfl rfl (zrcv_isO g40) rfl rfl (zc4 (Nat.le_of_ble_eq_true rfl)) (t199 (by omega) e41 (zaI ?_))
    replace hF := zbnd hF
    obtain ⟨a43, rfl, hF⟩ := hF
    replace hF := zbnd hF
    obtain ⟨h44, e45, hF⟩ := hF
    refine zy_sI rfl rfl e45 ?_
    refine zx_aload_n rfl rfl rfl ?_
    replace hF := zbnd hF
    obtain ⟨x46, e47, hF⟩ := hF
    refine zy_getR rfl rfl e47 ?_
    refine zx_iload_n rfl rfl rfl ?_
    refine zx_iconst (v := 0) rfl rfl rfl ?_
    replace hF := zbnd hF
    obtain ⟨a48, rfl, hF⟩ := hF
    replace hF := zbnd hF
    obtain ⟨h49, e50, hF⟩ := hF
    refine zy_sI rfl rfl e50 ?_
    refine zx_aload_n rfl rfl rfl ?_
    replace hF := zbnd hF
    obtain ⟨x51, e52, hF⟩ := hF
    refine zy_getR rfl rfl e52 ?_
    refine zx_iload_n rfl rfl rfl ?_
    refine zx_iconst (v := 0) rfl rfl rfl ?_
    replace hF := zbnd hF
    obtain ⟨a53, rfl, hF⟩ := hF
    replace hF := zbnd hF
    obtain ⟨h54, e55, hF⟩ := hF
    refine zy_sI rfl rfl e55 ?_
    refine zx_aload_n rfl rfl rfl ?_
    refine zx_aload_n rfl rfl rfl ?_
    replace hF := zbnd hF
    obtain ⟨x56, e57, hF⟩ := hF
    refine zy_getR rfl rfl e57 ?_
    refine zx_iload_n rfl rfl rfl ?_
    replace hF := zbnd hF
    obtain ⟨a58, rfl, hF⟩ := hF
    replace hF := zbnd hF
    obtain ⟨x59, e60, hF⟩ := hF
    refine zy_aI rfl rfl e60 ?_
    refine zx_iconst (v := (-1)) rfl rfl rfl ?_
    refine zx_ic_eq rfl rfl (fun c61 => ?_) (fun c61 => ?_)
    · rw [if_pos c61] at hF
      refine zx_iconst (v := 0) rfl rfl rfl ?_
      exact tb226_131 (l0 := l0) (l1 := p17.1) (l2 := ((24 * x24) + x31)) (s0 := 0) (s1 := l0) hd  hx3 hx4 hF q
    · rw [if_neg c61] at hF
      refine zx_iconst (v := 1) rfl rfl rfl ?_
      refine zx_goto rfl rfl ?_
      exact tb226_131 (l0 := l0) (l1 := p17.1) (l2 := ((24 * x24) + x31)) (s0 := 1) (s1 := l0) hd  hx3 hx4 hF q
  · rw [if_neg c23] at hF
    replace hF := Option.some.inj hF
    subst hF
    exact zx_return rfl rfl rfl q
def f226 (n : Nat)  (y0 : Nat) (h : zH) : Option (Unit × zH) :=
  (gR h y0 11 13).bind fun x1 =>
  (gI h y0 11 4).bind fun x3 =>
  x1.bind fun a5 =>
  (aI h a5 x3).bind fun x6 =>
  if x6 = 24 then
    zgd (isO h y0 11) <|
    (f195 n y0 5 h).bind fun p11 =>
    b226_19 n  y0 p11.2
  else
    b226_19 n  y0 h
set_option maxRecDepth 20000 in
theorem t226 {d n : Nat} {Q : zRs → zH → Prop}  {y0 : Nat} (hd : 11 ≤ d)  {h : zH} {p : (Unit × zH)} (hF : f226 n  y0 h = some p) (q : Q (eV p.1) p.2) : zC d 226 [.ref y0] h Q := by
  refine zC_of (L := [some (.ref y0), none, none, none, none]) rfl rfl ?_
  unfold f226 at hF
  obtain ⟨d, rfl⟩ : ∃ e, d = e + 1 := ⟨d - 1, by omega⟩
  refine zx_aload_n rfl rfl rfl ?_
  replace hF := zbnd hF
  obtain ⟨x1, e2, hF⟩ := hF
  refine zy_getR rfl rfl e2 ?_
  refine zx_aload_n rfl rfl rfl ?_
  replace hF := zbnd hF
  obtain ⟨x3, e4, hF⟩ := hF
  refine zy_getI rfl rfl e4 ?_
  replace hF := zbnd hF
  obtain ⟨a5, rfl, hF⟩ := hF
  replace hF := zbnd hF
  obtain ⟨x6, e7, hF⟩ := hF
  refine zy_aI rfl rfl e7 ?_
  refine zx_bipush (v := 24) rfl rfl rfl ?_
  refine zx_ic_ne rfl rfl (fun c8 => ?_) (fun c8 => ?_)
  · rw [if_neg c8] at hF
    exact tb226_19 (l0 := y0) hd  rfl rfl rfl rfl hF q
  · rw [if_pos c8] at hF
    refine zx_aload_n rfl rfl rfl ?_
    refine zx_iconst (v := 5) rfl rfl rfl ?_
    replace hF := zgd_some hF
    obtain ⟨g9, hF⟩ := hF
    replace hF := zbnd hF
    obtain ⟨p11, e10, hF⟩ := hF
    refine zx_callE rfl rfl rfl rfl (zrcv_isO g9) rfl rfl (zc4 (Nat.le_of_ble_eq_true rfl)) (t195 (by omega) e10 (zaV ?_))
    exact tb226_19 (l0 := y0) hd  rfl rfl rfl rfl hF q
end ZDEC

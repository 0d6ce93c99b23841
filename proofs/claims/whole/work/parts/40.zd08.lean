/-! THE PROGRAM AS FUNCTIONS, 8 (written by a program of the verifier's) -/
section ZDEC
def b236_153 (n : Nat)   (l0 : Nat) (l1 : Int32) (l2 : Int32) (l3 : Int32) (l4 : Int32) (h : zH) : Option (Unit × zH) :=
  zgd (isO h l0 11) <|
  (f208 n l0 59 h).bind fun p3 =>
  some ((), p3.2)
set_option maxRecDepth 20000 in
theorem tb236_153 {d n : Nat} {Q : zRs → zH → Prop}   {l0 : Nat} {l1 : Int32} {l2 : Int32} {l3 : Int32} {l4 : Int32}  {x5 : Option Value} (hd : 9 ≤ d)   {h : zH} {p : (Unit × zH)} (hx5 : zn2 x5 = true) (hF : b236_153 n   l0 l1 l2 l3 l4 h = some p) (q : Q (eV p.1) p.2) : zW d 236 153 [some (.ref l0), some (.int l1), some (.int l2), some (.int l3), some (.int l4), x5] [] h Q := by
  unfold b236_153 at hF
  obtain ⟨d, rfl⟩ : ∃ e, d = e + 1 := ⟨d - 1, by omega⟩
  refine zx_aload_n rfl rfl rfl ?_
  refine zx_bipush (v := 59) rfl rfl rfl ?_
  replace hF := zgd_some hF
  obtain ⟨g1, hF⟩ := hF
  replace hF := zbnd hF
  obtain ⟨p3, e2, hF⟩ := hF
  refine zx_callE rfl rfl rfl rfl (zrcv_isO g1) rfl rfl (zc4 (Nat.le_of_ble_eq_true rfl)) (t208 (by omega) e2 (zaV ?_))
  replace hF := Option.some.inj hF
  subst hF
  exact zx_return rfl rfl rfl q
def b236_88 (n : Nat)   (l0 : Nat) (l1 : Int32) (l2 : Int32) (l3 : Int32) (l4 : Int32) (h : zH) : Option (Unit × zH) :=
  (gI h l0 11 73).bind fun x1 =>
  if x1 = (-1) then
    (gI h l0 11 4).bind fun x4 =>
    (gR h l0 11 39).bind fun x6 =>
    (gI h l0 11 4).bind fun x8 =>
    x6.bind fun a10 =>
    (aI h a10 x8).bind fun x11 =>
    (gR h l0 11 40).bind fun x13 =>
    x13.bind fun a15 =>
    (aS zsI h a15 ((40 * x4) + x11) (.int l1)).bind fun h16 =>
    (gR h16 l0 11 41).bind fun x18 =>
    x18.bind fun a20 =>
    (aS zsI h16 a20 ((40 * x4) + x11) (.int l3)).bind fun h21 =>
    (gR h21 l0 11 42).bind fun x23 =>
    x23.bind fun a25 =>
    (aS zsI h21 a25 ((40 * x4) + x11) (.int l4)).bind fun h26 =>
    (gR h26 l0 11 39).bind fun x28 =>
    (gI h26 l0 11 4).bind fun x30 =>
    x28.bind fun a32 =>
    (aI h26 a32 x30).bind fun x33 =>
    (aS zsI h26 a32 x30 (.int (x33 + 1))).bind fun h35 =>
    b236_153 n  l0 l1 l2 l3 l4 h35
  else
    b236_153 n  l0 l1 l2 l3 l4 h
set_option maxRecDepth 20000 in
theorem tb236_88 {d n : Nat} {Q : zRs → zH → Prop}   {l0 : Nat} {l1 : Int32} {l2 : Int32} {l3 : Int32} {l4 : Int32}  {x5 : Option Value} (hd : 9 ≤ d)   {h : zH} {p : (Unit × zH)} (hx5 : zn2 x5 = true) (hF : b236_88 n   l0 l1 l2 l3 l4 h = some p) (q : Q (eV p.1) p.2) : zW d 236 88 [some (.ref l0), some (.int l1), some (.int l2), some (.int l3), some (.int l4), x5] [] h Q := by
  unfold b236_88 at hF
  obtain ⟨d, rfl⟩ : ∃ e, d = e + 1 := ⟨d - 1, by omega⟩
  refine zx_aload_n rfl rfl rfl ?_
  replace hF := zbnd hF
  obtain ⟨x1, e2, hF⟩ := hF
  refine zy_getI rfl rfl e2 ?_
  refine zx_iconst (v := (-1)) rfl rfl rfl ?_
  refine zx_ic_ne rfl rfl (fun c3 => ?_) (fun c3 => ?_)
  · rw [if_neg c3] at hF
    exact tb236_153 (l0 := l0) (l1 := l1) (l2 := l2) (l3 := l3) (l4 := l4) hd  hx5 hF q
  · rw [if_pos c3] at hF
    refine zx_bipush (v := 40) rfl rfl rfl ?_
    refine zx_aload_n rfl rfl rfl ?_
    replace hF := zbnd hF
    obtain ⟨x4, e5, hF⟩ := hF
    refine zy_getI rfl rfl e5 ?_
    refine zx_imul rfl rfl ?_
    refine zx_aload_n rfl rfl rfl ?_
    replace hF := zbnd hF
    obtain ⟨x6, e7, hF⟩ := hF
    refine zy_getR rfl rfl e7 ?_
    refine zx_aload_n rfl rfl rfl ?_
    replace hF := zbnd hF
    obtain ⟨x8, e9, hF⟩ := hF
    refine zy_getI rfl rfl e9 ?_
    replace hF := zbnd hF
    obtain ⟨a10, rfl, hF⟩ := hF
    replace hF := zbnd hF
    obtain ⟨x11, e12, hF⟩ := hF
    refine zy_aI rfl rfl e12 ?_
    refine zx_iadd rfl rfl ?_
    refine zx_istore rfl rfl rfl ?_
    refine zx_aload_n rfl rfl rfl ?_
    replace hF := zbnd hF
    obtain ⟨x13, e14, hF⟩ := hF
    refine zy_getR rfl rfl e14 ?_
    refine zx_iload rfl rfl rfl ?_
    refine zx_iload_n rfl rfl rfl ?_
    replace hF := zbnd hF
    obtain ⟨a15, rfl, hF⟩ := hF
    replace hF := zbnd hF
    obtain ⟨h16, e17, hF⟩ := hF
    refine zy_sI rfl rfl e17 ?_
    refine zx_aload_n rfl rfl rfl ?_
    replace hF := zbnd hF
    obtain ⟨x18, e19, hF⟩ := hF
    refine zy_getR rfl rfl e19 ?_
    refine zx_iload rfl rfl rfl ?_
    refine zx_iload_n rfl rfl rfl ?_
    replace hF := zbnd hF
    obtain ⟨a20, rfl, hF⟩ := hF
    replace hF := zbnd hF
    obtain ⟨h21, e22, hF⟩ := hF
    refine zy_sI rfl rfl e22 ?_
    refine zx_aload_n rfl rfl rfl ?_
    replace hF := zbnd hF
    obtain ⟨x23, e24, hF⟩ := hF
    refine zy_getR rfl rfl e24 ?_
    refine zx_iload rfl rfl rfl ?_
    refine zx_iload rfl rfl rfl ?_
    replace hF := zbnd hF
    obtain ⟨a25, rfl, hF⟩ := hF
    replace hF := zbnd hF
    obtain ⟨h26, e27, hF⟩ := hF
    refine zy_sI rfl rfl e27 ?_
    refine zx_aload_n rfl rfl rfl ?_
    replace hF := zbnd hF
    obtain ⟨x28, e29, hF⟩ := hF
    refine zy_getR rfl rfl e29 ?_
    refine zx_aload_n rfl rfl rfl ?_
    replace hF := zbnd hF
    obtain ⟨x30, e31, hF⟩ := hF
    refine zy_getI rfl rfl e31 ?_
    refine zx_dup2 rfl rfl (by rw [zc1_rf]; rfl) ?_
    replace hF := zbnd hF
    obtain ⟨a32, rfl, hF⟩ := hF
    replace hF := zbnd hF
    obtain ⟨x33, e34, hF⟩ := hF
    refine zy_aI rfl rfl e34 ?_
    refine zx_iconst (v := 1) rfl rfl rfl ?_
    refine zx_iadd rfl rfl ?_
    replace hF := zbnd hF
    obtain ⟨h35, e36, hF⟩ := hF
    refine zy_sI rfl rfl e36 ?_
    exact tb236_153 (l0 := l0) (l1 := l1) (l2 := l2) (l3 := l3) (l4 := l4) hd  rfl hF q
def b236_86 (n : Nat)   (l0 : Nat) (l1 : Int32) (l2 : Int32) (l3 : Int32) (l4 : Int32) (s0 : Int32) (h : zH) : Option (Unit × zH) :=
  b236_88 n  l0 l1 l2 l3 s0 h
set_option maxRecDepth 20000 in
theorem tb236_86 {d n : Nat} {Q : zRs → zH → Prop}   {l0 : Nat} {l1 : Int32} {l2 : Int32} {l3 : Int32} {l4 : Int32} {s0 : Int32} {x5 : Option Value} (hd : 9 ≤ d)   {h : zH} {p : (Unit × zH)} (hx5 : zn2 x5 = true) (hF : b236_86 n   l0 l1 l2 l3 l4 s0 h = some p) (q : Q (eV p.1) p.2) : zW d 236 86 [some (.ref l0), some (.int l1), some (.int l2), some (.int l3), some (.int l4), x5] [.int s0] h Q := by
  unfold b236_86 at hF
  obtain ⟨d, rfl⟩ : ∃ e, d = e + 1 := ⟨d - 1, by omega⟩
  refine zx_istore rfl rfl rfl ?_
  exact tb236_88 (l0 := l0) (l1 := l1) (l2 := l2) (l3 := l3) (l4 := s0) hd  hx5 hF q
def b236_19 (n : Nat)   (l0 : Nat) (l1 : Int32) (l2 : Int32) (h : zH) : Option (Unit × zH) :=
  zgd (isO h l0 11) <|
  (f190 n l0 h).bind fun p3 =>
  (gR p3.2 l0 11 14).bind fun x4 =>
  (gI p3.2 l0 11 4).bind fun x6 =>
  (gR p3.2 l0 11 13).bind fun x8 =>
  (gI p3.2 l0 11 4).bind fun x10 =>
  x8.bind fun a12 =>
  (aI p3.2 a12 x10).bind fun x13 =>
  zgd (isO p3.2 l0 11) <|
  (f216 n l0 x4 (24 * x6) x13 p3.2).bind fun p17 =>
  if l2 = 0 then
    b236_88 n  l0 l1 l2 p17.1 (-1) p17.2
  else
    zgd (isO p17.2 l0 11) <|
    (f208 n l0 61 p17.2).bind fun p21 =>
    (gI p21.2 l0 11 73).bind fun x22 =>
    if x22 = (-1) then
      (gI p21.2 l0 11 4).bind fun x25 =>
      zgd (isO p21.2 l0 11) <|
      (f229 n l0 ((24 * x25) + p17.1) p21.2).bind fun p29 =>
      b236_86 n  l0 l1 l2 p17.1 (-1) p29.1 p29.2
    else
      b236_86 n  l0 l1 l2 p17.1 (-1) (-1) p21.2
set_option maxRecDepth 20000 in
theorem tb236_19 {d n : Nat} {Q : zRs → zH → Prop}   {l0 : Nat} {l1 : Int32} {l2 : Int32}  {x3 : Option Value} {x4 : Option Value} {x5 : Option Value} (hd : 9 ≤ d)   {h : zH} {p : (Unit × zH)} (hx3 : zn2 x3 = true) (hx4 : zn2 x4 = true) (hx5 : zn2 x5 = true) (hF : b236_19 n   l0 l1 l2 h = some p) (q : Q (eV p.1) p.2) : zW d 236 19 [some (.ref l0), some (.int l1), some (.int l2), x3, x4, x5] [] h Q := by
  unfold b236_19 at hF
  obtain ⟨d, rfl⟩ : ∃ e, d = e + 1 := ⟨d - 1, by omega⟩
  refine zx_aload_n rfl rfl rfl ?_
  replace hF := zgd_some hF
  obtain ⟨g1, hF⟩ := hF
  replace hF := zbnd hF
  obtain ⟨p3, e2, hF⟩ := hF
  refine zx_callE rfl rfl rfl rfl (zrcv_isO g1) rfl rfl (zc4 (Nat.le_of_ble_eq_true rfl)) (t190 (by omega) e2 (zaV ?_))
  refine zx_aload_n rfl rfl rfl ?_
  refine zx_aload_n rfl rfl rfl ?_
  replace hF := zbnd hF
  obtain ⟨x4, e5, hF⟩ := hF
  refine zy_getR rfl rfl e5 ?_
  refine zx_bipush (v := 24) rfl rfl rfl ?_
  refine zx_aload_n rfl rfl rfl ?_
  replace hF := zbnd hF
  obtain ⟨x6, e7, hF⟩ := hF
  refine zy_getI rfl rfl e7 ?_
  refine zx_imul rfl rfl ?_
  refine zx_aload_n rfl rfl rfl ?_
  replace hF := zbnd hF
  obtain ⟨x8, e9, hF⟩ := hF
  refine zy_getR rfl rfl e9 ?_
  refine zx_aload_n rfl rfl rfl ?_
  replace hF := zbnd hF
  obtain ⟨x10, e11, hF⟩ := hF
  refine zy_getI rfl rfl e11 ?_
  replace hF := zbnd hF
  obtain ⟨a12, rfl, hF⟩ := hF
  replace hF := zbnd hF
  obtain ⟨x13, e14, hF⟩ := hF
  refine zy_aI rfl rfl e14 ?_
  replace hF := zgd_some hF
  obtain ⟨g15, hF⟩ := hF
  replace hF := zbnd hF
  obtain ⟨p17, e16, hF⟩ := hF
  refine zx_callE rfl rfl rfl rfl (zrcv_isO g15) (congrArg (List.cons _) ((zsl_rf _ _).trans (congrArg (List.cons _) rfl))) rfl (zc4 (Nat.le_of_ble_eq_true rfl)) (t216 (by omega) e16 (zaI ?_))
  refine zx_istore_n rfl rfl rfl ?_
  refine zx_iconst (v := (-1)) rfl rfl rfl ?_
  refine zx_istore rfl rfl rfl ?_
  refine zx_iload_n rfl rfl rfl ?_
  refine zx_if_eq rfl rfl (fun c18 => ?_) (fun c18 => ?_)
  · rw [if_pos c18] at hF
    exact tb236_88 (l0 := l0) (l1 := l1) (l2 := l2) (l3 := p17.1) (l4 := (-1)) hd  hx5 hF q
  · rw [if_neg c18] at hF
    refine zx_aload_n rfl rfl rfl ?_
    refine zx_bipush (v := 61) rfl rfl rfl ?_
    replace hF := zgd_some hF
    obtain ⟨g19, hF⟩ := hF
    replace hF := zbnd hF
    obtain ⟨p21, e20, hF⟩ := hF
    refine zx_callE rfl rfl rfl rfl (zrcv_isO g19) rfl rfl (zc4 (Nat.le_of_ble_eq_true rfl)) (t208 (by omega) e20 (zaV ?_))
    refine zx_aload_n rfl rfl rfl ?_
    replace hF := zbnd hF
    obtain ⟨x22, e23, hF⟩ := hF
    refine zy_getI rfl rfl e23 ?_
    refine zx_iconst (v := (-1)) rfl rfl rfl ?_
    refine zx_ic_ne rfl rfl (fun c24 => ?_) (fun c24 => ?_)
    · rw [if_neg c24] at hF
      refine zx_iconst (v := (-1)) rfl rfl rfl ?_
      exact tb236_86 (l0 := l0) (l1 := l1) (l2 := l2) (l3 := p17.1) (l4 := (-1)) (s0 := (-1)) hd  hx5 hF q
    · rw [if_pos c24] at hF
      refine zx_aload_n rfl rfl rfl ?_
      refine zx_bipush (v := 24) rfl rfl rfl ?_
      refine zx_aload_n rfl rfl rfl ?_
      replace hF := zbnd hF
      obtain ⟨x25, e26, hF⟩ := hF
      refine zy_getI rfl rfl e26 ?_
      refine zx_imul rfl rfl ?_
      refine zx_iload_n rfl rfl rfl ?_
      refine zx_iadd rfl rfl ?_
      replace hF := zgd_some hF
      obtain ⟨g27, hF⟩ := hF
      replace hF := zbnd hF
      obtain ⟨p29, e28, hF⟩ := hF
      refine zx_callE rfl rfl rfl rfl (zrcv_isO g27) rfl rfl (zc4 (Nat.le_of_ble_eq_true rfl)) (t229 (by omega) e28 (zaI ?_))
      refine zx_goto rfl rfl ?_
      exact tb236_86 (l0 := l0) (l1 := l1) (l2 := l2) (l3 := p17.1) (l4 := (-1)) (s0 := p29.1) hd  hx5 hF q
def f236 (n : Nat)  (y0 : Nat) (y1 : Int32) (y2 : Int32) (h : zH) : Option (Unit × zH) :=
  (gR h y0 11 39).bind fun x1 =>
  (gI h y0 11 4).bind fun x3 =>
  x1.bind fun a5 =>
  (aI h a5 x3).bind fun x6 =>
  if x6 = 40 then
    zgd (isO h y0 11) <|
    (f195 n y0 5 h).bind fun p11 =>
    b236_19 n  y0 y1 y2 p11.2
  else
    b236_19 n  y0 y1 y2 h
set_option maxRecDepth 20000 in
theorem t236 {d n : Nat} {Q : zRs → zH → Prop}  {y0 : Nat} {y1 : Int32} {y2 : Int32} (hd : 9 ≤ d)  {h : zH} {p : (Unit × zH)} (hF : f236 n  y0 y1 y2 h = some p) (q : Q (eV p.1) p.2) : zC d 236 [.ref y0, .int y1, .int y2] h Q := by
  refine zC_of (L := [some (.ref y0), some (.int y1), some (.int y2), none, none, none]) rfl rfl ?_
  unfold f236 at hF
  obtain ⟨d, rfl⟩ : ∃ e, d = e + 1 := ⟨d - 1, by omega⟩
  refine zx_aload_n rfl rfl rfl ?_
  replace hF := zbnd hF
  obtain ⟨x1, e2, hF⟩ := hF
  refine zy_getR rfl rfl e2 ?_
  refine zx_aload_n rfl rfl rfl ?_
  replace hF := zbnd hF
  obtain ⟨x3, e4, hF⟩ := hF
  refine zy_getI rfl rfl e4 ?_
  replace hF := zbnd hF
  obtain ⟨a5, rfl, hF⟩ := hF
  replace hF := zbnd hF
  obtain ⟨x6, e7, hF⟩ := hF
  refine zy_aI rfl rfl e7 ?_
  refine zx_bipush (v := 40) rfl rfl rfl ?_
  refine zx_ic_ne rfl rfl (fun c8 => ?_) (fun c8 => ?_)
  · rw [if_neg c8] at hF
    exact tb236_19 (l0 := y0) (l1 := y1) (l2 := y2) hd  rfl rfl rfl hF q
  · rw [if_pos c8] at hF
    refine zx_aload_n rfl rfl rfl ?_
    refine zx_iconst (v := 5) rfl rfl rfl ?_
    replace hF := zgd_some hF
    obtain ⟨g9, hF⟩ := hF
    replace hF := zbnd hF
    obtain ⟨p11, e10, hF⟩ := hF
    refine zx_callE rfl rfl rfl rfl (zrcv_isO g9) rfl rfl (zc4 (Nat.le_of_ble_eq_true rfl)) (t195 (by omega) e10 (zaV ?_))
    exact tb236_19 (l0 := y0) (l1 := y1) (l2 := y2) hd  rfl rfl rfl hF q
def b235_241 (n : Nat)   (l0 : Nat) (l1 : Int32) (l2 : Int32) (l3 : Int32) (l4 : Int32) (h : zH) : Option (Unit × zH) :=
  zgd (isO h l0 11) <|
  (f208 n l0 125 h).bind fun p3 =>
  some ((), p3.2)
set_option maxRecDepth 20000 in
theorem tb235_241 {d n : Nat} {Q : zRs → zH → Prop}   {l0 : Nat} {l1 : Int32} {l2 : Int32} {l3 : Int32} {l4 : Int32}   (hd : 11 ≤ d)   {h : zH} {p : (Unit × zH)}  (hF : b235_241 n   l0 l1 l2 l3 l4 h = some p) (q : Q (eV p.1) p.2) : zW d 235 241 [some (.ref l0), some (.int l1), some (.int l2), some (.int l3), some (.int l4)] [] h Q := by
  unfold b235_241 at hF
  obtain ⟨d, rfl⟩ : ∃ e, d = e + 1 := ⟨d - 1, by omega⟩
  refine zx_aload_n rfl rfl rfl ?_
  refine zx_bipush (v := 125) rfl rfl rfl ?_
  replace hF := zgd_some hF
  obtain ⟨g1, hF⟩ := hF
  replace hF := zbnd hF
  obtain ⟨p3, e2, hF⟩ := hF
  refine zx_callE rfl rfl rfl rfl (zrcv_isO g1) rfl rfl (zc4 (Nat.le_of_ble_eq_true rfl)) (t208 (by omega) e2 (zaV ?_))
  replace hF := Option.some.inj hF
  subst hF
  exact zx_return rfl rfl rfl q
def b235_220 (n : Nat)  (r168 : Nat → Int32 → Int32 → Int32 → Int32 → zH → Option (Unit × zH)) (l0 : Nat) (l1 : Int32) (l2 : Int32) (l3 : Int32) (l4 : Int32) (h : zH) : Option (Unit × zH) :=
  zgd (isO h l0 11) <|
  (f213 n l0 (some 89) h).bind fun p3 =>
  zgd (isO p3.2 l0 11) <|
  (f236 n l0 l3 p3.1 p3.2).bind fun p6 =>
  r168 l0 l1 l2 l3 l4 p6.2
set_option maxRecDepth 20000 in
theorem tb235_220 {d n : Nat} {Q : zRs → zH → Prop}  {r168 : Nat → Int32 → Int32 → Int32 → Int32 → zH → Option (Unit × zH)} {l0 : Nat} {l1 : Int32} {l2 : Int32} {l3 : Int32} {l4 : Int32}   (hd : 11 ≤ d)  (hr168 : ∀ {l0 : Nat} {l1 : Int32} {l2 : Int32} {l3 : Int32} {l4 : Int32}   {h : zH} {p : (Unit × zH)}, r168 l0 l1 l2 l3 l4 h = some p → Q (eV p.1) p.2 → zW d 235 168 [some (.ref l0), some (.int l1), some (.int l2), some (.int l3), some (.int l4)] [] h Q) {h : zH} {p : (Unit × zH)}  (hF : b235_220 n  r168 l0 l1 l2 l3 l4 h = some p) (q : Q (eV p.1) p.2) : zW d 235 220 [some (.ref l0), some (.int l1), some (.int l2), some (.int l3), some (.int l4)] [] h Q := by
  unfold b235_220 at hF
  obtain ⟨d, rfl⟩ : ∃ e, d = e + 1 := ⟨d - 1, by omega⟩
  refine zx_aload_n rfl rfl rfl ?_
  refine zx_iload_n rfl rfl rfl ?_
  refine zx_aload_n rfl rfl rfl ?_
  refine zx_ldcw rfl rfl rfl ?_
  replace hF := zgd_some hF
  obtain ⟨g1, hF⟩ := hF
  replace hF := zbnd hF
  obtain ⟨p3, e2, hF⟩ := hF
  refine zx_callE rfl rfl rfl rfl (zrcv_isO g1) rfl rfl (zc4 (Nat.le_of_ble_eq_true rfl)) (t213 (by omega) e2 (zaI ?_))
  replace hF := zgd_some hF
  obtain ⟨g4, hF⟩ := hF
  replace hF := zbnd hF
  obtain ⟨p6, e5, hF⟩ := hF
  refine zx_callE rfl rfl rfl rfl (zrcv_isO g4) rfl rfl (zc4 (Nat.le_of_ble_eq_true rfl)) (t236 (by omega) e5 (zaV ?_))
  refine zx_goto rfl rfl ?_
  exact hr168  hF q
def b235_168 (n : Nat)  (r168 : Nat → Int32 → Int32 → Int32 → Int32 → zH → Option (Unit × zH)) (l0 : Nat) (l1 : Int32) (l2 : Int32) (l3 : Int32) (l4 : Int32) (h : zH) : Option (Unit × zH) :=
  if l4 = 0 then
    b235_241 n  l0 l1 l2 l3 l4 h
  else
    (gI h l0 11 73).bind fun x2 =>
    if x2 = (-1) then
      zgd (isO h l0 11) <|
      (f213 n l0 (some 75) h).bind fun p7 =>
      if p7.1 = 0 then
        zgd (isO p7.2 l0 11) <|
        (f213 n l0 (some 71) p7.2).bind fun p11 =>
        if p11.1 = 0 then
          zgd (isO p11.2 l0 11) <|
          (f213 n l0 (some 89) p11.2).bind fun p15 =>
          if p15.1 = 0 then
            r168 l0 l1 l2 l3 0 p15.2
          else
            b235_220 n r168 l0 l1 l2 l3 l4 p15.2
        else
          b235_220 n r168 l0 l1 l2 l3 l4 p11.2
      else
        zgd (isO p7.2 l0 11) <|
        (f234 n l0 (-1) l3 p7.2).bind fun p19 =>
        r168 l0 l1 l2 l3 l4 p19.2
    else
      b235_241 n  l0 l1 l2 l3 l4 h
set_option maxRecDepth 20000 in
theorem tb235_168 {d n : Nat} {Q : zRs → zH → Prop}  {r168 : Nat → Int32 → Int32 → Int32 → Int32 → zH → Option (Unit × zH)} {l0 : Nat} {l1 : Int32} {l2 : Int32} {l3 : Int32} {l4 : Int32}   (hd : 11 ≤ d)  (hr168 : ∀ {l0 : Nat} {l1 : Int32} {l2 : Int32} {l3 : Int32} {l4 : Int32}   {h : zH} {p : (Unit × zH)}, r168 l0 l1 l2 l3 l4 h = some p → Q (eV p.1) p.2 → zW d 235 168 [some (.ref l0), some (.int l1), some (.int l2), some (.int l3), some (.int l4)] [] h Q) {h : zH} {p : (Unit × zH)}  (hF : b235_168 n  r168 l0 l1 l2 l3 l4 h = some p) (q : Q (eV p.1) p.2) : zW d 235 168 [some (.ref l0), some (.int l1), some (.int l2), some (.int l3), some (.int l4)] [] h Q := by
  unfold b235_168 at hF
  obtain ⟨d, rfl⟩ : ∃ e, d = e + 1 := ⟨d - 1, by omega⟩
  refine zx_iload rfl rfl rfl ?_
  refine zx_if_eq rfl rfl (fun c1 => ?_) (fun c1 => ?_)
  · rw [if_pos c1] at hF
    exact tb235_241 (l0 := l0) (l1 := l1) (l2 := l2) (l3 := l3) (l4 := l4) hd   hF q
  · rw [if_neg c1] at hF
    refine zx_aload_n rfl rfl rfl ?_
    replace hF := zbnd hF
    obtain ⟨x2, e3, hF⟩ := hF
    refine zy_getI rfl rfl e3 ?_
    refine zx_iconst (v := (-1)) rfl rfl rfl ?_
    refine zx_ic_ne rfl rfl (fun c4 => ?_) (fun c4 => ?_)
    · rw [if_neg c4] at hF
      exact tb235_241 (l0 := l0) (l1 := l1) (l2 := l2) (l3 := l3) (l4 := l4) hd   hF q
    · rw [if_pos c4] at hF
      refine zx_aload_n rfl rfl rfl ?_
      refine zx_ldcw rfl rfl rfl ?_
      replace hF := zgd_some hF
      obtain ⟨g5, hF⟩ := hF
      replace hF := zbnd hF
      obtain ⟨p7, e6, hF⟩ := hF
      refine zx_callE rfl rfl rfl rfl (zrcv_isO g5) rfl rfl (zc4 (Nat.le_of_ble_eq_true rfl)) (t213 (by omega) e6 (zaI ?_))
      refine zx_if_eq rfl rfl (fun c8 => ?_) (fun c8 => ?_)
      · rw [if_pos c8] at hF
        refine zx_aload_n rfl rfl rfl ?_
        refine zx_ldcw rfl rfl rfl ?_
        replace hF := zgd_some hF
        obtain ⟨g9, hF⟩ := hF
        replace hF := zbnd hF
        obtain ⟨p11, e10, hF⟩ := hF
        refine zx_callE rfl rfl rfl rfl (zrcv_isO g9) rfl rfl (zc4 (Nat.le_of_ble_eq_true rfl)) (t213 (by omega) e10 (zaI ?_))
        refine zx_if_ne rfl rfl (fun c12 => ?_) (fun c12 => ?_)
        · rw [if_neg c12] at hF
          exact tb235_220 (l0 := l0) (l1 := l1) (l2 := l2) (l3 := l3) (l4 := l4) hd hr168  hF q
        · rw [if_pos c12] at hF
          refine zx_aload_n rfl rfl rfl ?_
          refine zx_ldcw rfl rfl rfl ?_
          replace hF := zgd_some hF
          obtain ⟨g13, hF⟩ := hF
          replace hF := zbnd hF
          obtain ⟨p15, e14, hF⟩ := hF
          refine zx_callE rfl rfl rfl rfl (zrcv_isO g13) rfl rfl (zc4 (Nat.le_of_ble_eq_true rfl)) (t213 (by omega) e14 (zaI ?_))
          refine zx_if_eq rfl rfl (fun c16 => ?_) (fun c16 => ?_)
          · rw [if_pos c16] at hF
            refine zx_iconst (v := 0) rfl rfl rfl ?_
            refine zx_istore rfl rfl rfl ?_
            refine zx_goto rfl rfl ?_
            exact hr168  hF q
          · rw [if_neg c16] at hF
            exact tb235_220 (l0 := l0) (l1 := l1) (l2 := l2) (l3 := l3) (l4 := l4) hd hr168  hF q
      · rw [if_neg c8] at hF
        refine zx_aload_n rfl rfl rfl ?_
        refine zx_iconst (v := (-1)) rfl rfl rfl ?_
        refine zx_iload_n rfl rfl rfl ?_
        replace hF := zgd_some hF
        obtain ⟨g17, hF⟩ := hF
        replace hF := zbnd hF
        obtain ⟨p19, e18, hF⟩ := hF
        refine zx_callE rfl rfl rfl rfl (zrcv_isO g17) rfl rfl (zc4 (Nat.le_of_ble_eq_true rfl)) (t234 (by omega) e18 (zaV ?_))
        refine zx_goto rfl rfl ?_
        exact hr168  hF q
def f235_168 (n : Nat)   (k : Nat) : Nat → Int32 → Int32 → Int32 → Int32 → zH → Option (Unit × zH) := Nat.rec (fun _ _ _ _ _ _ => none) (fun _ ih => b235_168 n  ih) k
theorem tf235_168 {d n : Nat} {Q : zRs → zH → Prop}   (hd : 11 ≤ d)   (k : Nat) : ∀ {l0 : Nat} {l1 : Int32} {l2 : Int32} {l3 : Int32} {l4 : Int32}   {h : zH} {p : (Unit × zH)}, f235_168 n   k l0 l1 l2 l3 l4 h = some p → Q (eV p.1) p.2 → zW d 235 168 [some (.ref l0), some (.int l1), some (.int l2), some (.int l3), some (.int l4)] [] h Q := by
  induction k with
  | zero => intros; rename_i hF _; cases hF
  | succ k ih => intros; rename_i  hF q; exact tb235_168 (n := n) hd  ih  hF q
def b235_97 (n : Nat)   (l0 : Nat) (l1 : Int32) (l2 : Int32) (h : zH) : Option (Unit × zH) :=
  zgd (isO h l0 11) <|
  (f208 n l0 123 h).bind fun p3 =>
  (gI p3.2 l0 11 73).bind fun x4 =>
  if x4 = (-1) then
    (gR p3.2 l0 11 29).bind fun x7 =>
    (gI p3.2 l0 11 4).bind fun x9 =>
    x7.bind fun a11 =>
    (aI p3.2 a11 x9).bind fun x12 =>
    (gR p3.2 l0 11 30).bind fun x14 =>
    (gI p3.2 l0 11 4).bind fun x16 =>
    x14.bind fun a18 =>
    (aS zsI p3.2 a18 ((8 * x16) + x12) (.int l1)).bind fun h19 =>
    (gR h19 l0 11 31).bind fun x21 =>
    (gI h19 l0 11 4).bind fun x23 =>
    x21.bind fun a25 =>
    (aS zsI h19 a25 ((8 * x23) + x12) (.int l2)).bind fun h26 =>
    (gR h26 l0 11 29).bind fun x28 =>
    (gI h26 l0 11 4).bind fun x30 =>
    x28.bind fun a32 =>
    (aI h26 a32 x30).bind fun x33 =>
    (aS zsI h26 a32 x30 (.int (x33 + 1))).bind fun h35 =>
    f235_168 n  n l0 l1 l2 x12 1 h35
  else
    some ((), p3.2)
set_option maxRecDepth 20000 in
theorem tb235_97 {d n : Nat} {Q : zRs → zH → Prop}   {l0 : Nat} {l1 : Int32} {l2 : Int32}  {x3 : Option Value} {x4 : Option Value} (hd : 11 ≤ d)   {h : zH} {p : (Unit × zH)} (hx3 : zn2 x3 = true) (hx4 : zn2 x4 = true) (hF : b235_97 n   l0 l1 l2 h = some p) (q : Q (eV p.1) p.2) : zW d 235 97 [some (.ref l0), some (.int l1), some (.int l2), x3, x4] [] h Q := by
  unfold b235_97 at hF
  obtain ⟨d, rfl⟩ : ∃ e, d = e + 1 := ⟨d - 1, by omega⟩
  refine zx_aload_n rfl rfl rfl ?_
  refine zx_bipush (v := 123) rfl rfl rfl ?_
  replace hF := zgd_some hF
  obtain ⟨g1, hF⟩ := hF
  replace hF := zbnd hF
  obtain ⟨p3, e2, hF⟩ := hF
  refine zx_callE rfl rfl rfl rfl (zrcv_isO g1) rfl rfl (zc4 (Nat.le_of_ble_eq_true rfl)) (t208 (by omega) e2 (zaV ?_))
  refine zx_aload_n rfl rfl rfl ?_
  replace hF := zbnd hF
  obtain ⟨x4, e5, hF⟩ := hF
  refine zy_getI rfl rfl e5 ?_
  refine zx_iconst (v := (-1)) rfl rfl rfl ?_
  refine zx_ic_eq rfl rfl (fun c6 => ?_) (fun c6 => ?_)
  · rw [if_pos c6] at hF
    refine zx_aload_n rfl rfl rfl ?_
    replace hF := zbnd hF
    obtain ⟨x7, e8, hF⟩ := hF
    refine zy_getR rfl rfl e8 ?_
    refine zx_aload_n rfl rfl rfl ?_
    replace hF := zbnd hF
    obtain ⟨x9, e10, hF⟩ := hF
    refine zy_getI rfl rfl e10 ?_
    replace hF := zbnd hF
    obtain ⟨a11, rfl, hF⟩ := hF
    replace hF := zbnd hF
    obtain ⟨x12, e13, hF⟩ := hF
    refine zy_aI rfl rfl e13 ?_
    refine zx_istore_n rfl rfl rfl ?_
    refine zx_aload_n rfl rfl rfl ?_
    replace hF := zbnd hF
    obtain ⟨x14, e15, hF⟩ := hF
    refine zy_getR rfl rfl e15 ?_
    refine zx_bipush (v := 8) rfl rfl rfl ?_
    refine zx_aload_n rfl rfl rfl ?_
    replace hF := zbnd hF
    obtain ⟨x16, e17, hF⟩ := hF
    refine zy_getI rfl rfl e17 ?_
    refine zx_imul rfl rfl ?_
    refine zx_iload_n rfl rfl rfl ?_
    refine zx_iadd rfl rfl ?_
    refine zx_iload_n rfl rfl rfl ?_
    replace hF := zbnd hF
    obtain ⟨a18, rfl, hF⟩ := hF
    replace hF := zbnd hF
    obtain ⟨h19, e20, hF⟩ := hF
    refine zy_sI rfl rfl e20 ?_
    refine zx_aload_n rfl rfl rfl ?_
    replace hF := zbnd hF
    obtain ⟨x21, e22, hF⟩ := hF
    refine zy_getR rfl rfl e22 ?_
    refine zx_bipush (v := 8) rfl rfl rfl ?_
    refine zx_aload_n rfl rfl rfl ?_
    replace hF := zbnd hF
    obtain ⟨x23, e24, hF⟩ := hF
    refine zy_getI rfl rfl e24 ?_
    refine zx_imul rfl rfl ?_
    refine zx_iload_n rfl rfl rfl ?_
    refine zx_iadd rfl rfl ?_
    refine zx_iload_n rfl rfl rfl ?_
    replace hF := zbnd hF
    obtain ⟨a25, rfl, hF⟩ := hF
    replace hF := zbnd hF
    obtain ⟨h26, e27, hF⟩ := hF
    refine zy_sI rfl rfl e27 ?_
    refine zx_aload_n rfl rfl rfl ?_
    replace hF := zbnd hF
    obtain ⟨x28, e29, hF⟩ := hF
    refine zy_getR rfl rfl e29 ?_
    refine zx_aload_n rfl rfl rfl ?_
    replace hF := zbnd hF
    obtain ⟨x30, e31, hF⟩ := hF
    refine zy_getI rfl rfl e31 ?_
    refine zx_dup2 rfl rfl (by rw [zc1_rf]; rfl) ?_
    replace hF := zbnd hF
    obtain ⟨a32, rfl, hF⟩ := hF
    replace hF := zbnd hF
    obtain ⟨x33, e34, hF⟩ := hF
    refine zy_aI rfl rfl e34 ?_
    refine zx_iconst (v := 1) rfl rfl rfl ?_
    refine zx_iadd rfl rfl ?_
    replace hF := zbnd hF
    obtain ⟨h35, e36, hF⟩ := hF
    refine zy_sI rfl rfl e36 ?_
    refine zx_iconst (v := 1) rfl rfl rfl ?_
    refine zx_istore rfl rfl rfl ?_
    exact tf235_168 hd  n (l0 := l0) (l1 := l1) (l2 := l2) (l3 := x12) (l4 := 1)  hF q
  · rw [if_neg c6] at hF
    replace hF := Option.some.inj hF
    subst hF
    exact zx_return rfl rfl rfl q
def b235_19 (n : Nat)   (l0 : Nat) (h : zH) : Option (Unit × zH) :=
  zgd (isO h l0 11) <|
  (f190 n l0 h).bind fun p3 =>
  (gR p3.2 l0 11 30).bind fun x4 =>
  (gI p3.2 l0 11 4).bind fun x6 =>
  (gR p3.2 l0 11 29).bind fun x8 =>
  (gI p3.2 l0 11 4).bind fun x10 =>
  x8.bind fun a12 =>
  (aI p3.2 a12 x10).bind fun x13 =>
  zgd (isO p3.2 l0 11) <|
  (f202 n l0 x4 (8 * x6) x13 p3.2).bind fun p17 =>
  (gI p17.2 l0 11 73).bind fun x18 =>
  if x18 = (-1) then
    zgd (isO p17.2 l0 11) <|
    (f213 n l0 (some 87) p17.2).bind fun p23 =>
    if p23.1 = 0 then
      b235_97 n  l0 p17.1 (-1) p23.2
    else
      zgd (isO p23.2 l0 11) <|
      (f190 n l0 p23.2).bind fun p27 =>
      (gR p27.2 l0 11 30).bind fun x28 =>
      (gI p27.2 l0 11 4).bind fun x30 =>
      (gR p27.2 l0 11 29).bind fun x32 =>
      (gI p27.2 l0 11 4).bind fun x34 =>
      x32.bind fun a36 =>
      (aI p27.2 a36 x34).bind fun x37 =>
      zgd (isO p27.2 l0 11) <|
      (f216 n l0 x28 (8 * x30) x37 p27.2).bind fun p41 =>
      b235_97 n  l0 p17.1 p41.1 p41.2
  else
    b235_97 n  l0 p17.1 (-1) p17.2
set_option maxRecDepth 20000 in
theorem tb235_19 {d n : Nat} {Q : zRs → zH → Prop}   {l0 : Nat}  {x1 : Option Value} {x2 : Option Value} {x3 : Option Value} {x4 : Option Value} (hd : 11 ≤ d)   {h : zH} {p : (Unit × zH)} (hx1 : zn2 x1 = true) (hx2 : zn2 x2 = true) (hx3 : zn2 x3 = true) (hx4 : zn2 x4 = true) (hF : b235_19 n   l0 h = some p) (q : Q (eV p.1) p.2) : zW d 235 19 [some (.ref l0), x1, x2, x3, x4] [] h Q := by
  unfold b235_19 at hF
  obtain ⟨d, rfl⟩ : ∃ e, d = e + 1 := ⟨d - 1, by omega⟩
  refine zx_aload_n rfl rfl rfl ?_
  replace hF := zgd_some hF
  obtain ⟨g1, hF⟩ := hF
  replace hF := zbnd hF
  obtain ⟨p3, e2, hF⟩ := hF
  refine zx_callE rfl rfl rfl rfl (zrcv_isO g1) rfl rfl (zc4 (Nat.le_of_ble_eq_true rfl)) (t190 (by omega) e2 (zaV ?_))
  refine zx_aload_n rfl rfl rfl ?_
  refine zx_aload_n rfl rfl rfl ?_
  replace hF := zbnd hF
  obtain ⟨x4, e5, hF⟩ := hF
  refine zy_getR rfl rfl e5 ?_
  refine zx_bipush (v := 8) rfl rfl rfl ?_
  refine zx_aload_n rfl rfl rfl ?_
  replace hF := zbnd hF
  obtain ⟨x6, e7, hF⟩ := hF
  refine zy_getI rfl rfl e7 ?_
  refine zx_imul rfl rfl ?_
  refine zx_aload_n rfl rfl rfl ?_
  replace hF := zbnd hF
  obtain ⟨x8, e9, hF⟩ := hF
  refine zy_getR rfl rfl e9 ?_
  refine zx_aload_n rfl rfl rfl ?_
  replace hF := zbnd hF
  obtain ⟨x10, e11, hF⟩ := hF
  refine zy_getI rfl rfl e11 ?_
  replace hF := zbnd hF
  obtain ⟨a12, rfl, hF⟩ := hF
  replace hF := zbnd hF
  obtain ⟨x13, e14, hF⟩ := hF
  refine zy_aI rfl rfl e14 ?_
  replace hF := zgd_some hF
  obtain ⟨g15, hF⟩ := hF
  replace hF := zbnd hF
  obtain ⟨p17, e16, hF⟩ := hF
  refine zx_callE rfl rfl rfl rfl (zrcv_isO g15) (congrArg (List.cons _) ((zsl_rf _ _).trans (congrArg (List.cons _) rfl))) rfl (zc4 (Nat.le_of_ble_eq_true rfl)) (t202 (by omega) e16 (zaI ?_))
  refine zx_istore_n rfl rfl rfl ?_
  refine zx_iconst (v := (-1)) rfl rfl rfl ?_
  refine zx_istore_n rfl rfl rfl ?_
  refine zx_aload_n rfl rfl rfl ?_
  replace hF := zbnd hF
  obtain ⟨x18, e19, hF⟩ := hF
  refine zy_getI rfl rfl e19 ?_
  refine zx_iconst (v := (-1)) rfl rfl rfl ?_
  refine zx_ic_ne rfl rfl (fun c20 => ?_) (fun c20 => ?_)
  · rw [if_neg c20] at hF
    exact tb235_97 (l0 := l0) (l1 := p17.1) (l2 := (-1)) hd  hx3 hx4 hF q
  · rw [if_pos c20] at hF
    refine zx_aload_n rfl rfl rfl ?_
    refine zx_ldcw rfl rfl rfl ?_
    replace hF := zgd_some hF
    obtain ⟨g21, hF⟩ := hF
    replace hF := zbnd hF
    obtain ⟨p23, e22, hF⟩ := hF
    refine zx_callE rfl rfl rfl rfl (zrcv_isO g21) rfl rfl (zc4 (Nat.le_of_ble_eq_true rfl)) (t213 (by omega) e22 (zaI ?_))
    refine zx_if_eq rfl rfl (fun c24 => ?_) (fun c24 => ?_)
    · rw [if_pos c24] at hF
      exact tb235_97 (l0 := l0) (l1 := p17.1) (l2 := (-1)) hd  hx3 hx4 hF q
    · rw [if_neg c24] at hF
      refine zx_aload_n rfl rfl rfl ?_
      replace hF := zgd_some hF
      obtain ⟨g25, hF⟩ := hF
      replace hF := zbnd hF
      obtain ⟨p27, e26, hF⟩ := hF
      refine zx_callE rfl rfl rfl rfl (zrcv_isO g25) rfl rfl (zc4 (Nat.le_of_ble_eq_true rfl)) (t190 (by omega) e26 (zaV ?_))
      refine zx_aload_n rfl rfl rfl ?_
      refine zx_aload_n rfl rfl rfl ?_
      replace hF := zbnd hF
      obtain ⟨x28, e29, hF⟩ := hF
      refine zy_getR rfl rfl e29 ?_
      refine zx_bipush (v := 8) rfl rfl rfl ?_
      refine zx_aload_n rfl rfl rfl ?_
      replace hF := zbnd hF
      obtain ⟨x30, e31, hF⟩ := hF
      refine zy_getI rfl rfl e31 ?_
      refine zx_imul rfl rfl ?_
      refine zx_aload_n rfl rfl rfl ?_
      replace hF := zbnd hF
      obtain ⟨x32, e33, hF⟩ := hF
      refine zy_getR rfl rfl e33 ?_
      refine zx_aload_n rfl rfl rfl ?_
      replace hF := zbnd hF
      obtain ⟨x34, e35, hF⟩ := hF
      refine zy_getI rfl rfl e35 ?_
      replace hF := zbnd hF
      obtain ⟨a36, rfl, hF⟩ := hF
      replace hF := zbnd hF
      obtain ⟨x37, e38, hF⟩ := hF
      refine zy_aI rfl rfl e38 ?_
      replace hF := zgd_some hF
      obtain ⟨g39, hF⟩ := hF
      replace hF := zbnd hF
      obtain ⟨p41, e40, hF⟩ := hF
      refine zx_callE rfl rfl rfl rfl (zrcv_isO g39) (congrArg (List.cons _) ((zsl_rf _ _).trans (congrArg (List.cons _) rfl))) rfl (zc4 (Nat.le_of_ble_eq_true rfl)) (t216 (by omega) e40 (zaI ?_))
      refine zx_istore_n rfl rfl rfl ?_
      exact tb235_97 (l0 := l0) (l1 := p17.1) (l2 := p41.1) hd  hx3 hx4 hF q
def f235 (n : Nat)  (y0 : Nat) (h : zH) : Option (Unit × zH) :=
  (gR h y0 11 29).bind fun x1 =>
  (gI h y0 11 4).bind fun x3 =>
  x1.bind fun a5 =>
  (aI h a5 x3).bind fun x6 =>
  if x6 = 8 then
    zgd (isO h y0 11) <|
    (f195 n y0 5 h).bind fun p11 =>
    b235_19 n  y0 p11.2
  else
    b235_19 n  y0 h
set_option maxRecDepth 20000 in
theorem t235 {d n : Nat} {Q : zRs → zH → Prop}  {y0 : Nat} (hd : 11 ≤ d)  {h : zH} {p : (Unit × zH)} (hF : f235 n  y0 h = some p) (q : Q (eV p.1) p.2) : zC d 235 [.ref y0] h Q := by
  refine zC_of (L := [some (.ref y0), none, none, none, none]) rfl rfl ?_
  unfold f235 at hF
  obtain ⟨d, rfl⟩ : ∃ e, d = e + 1 := ⟨d - 1, by omega⟩
  refine zx_aload_n rfl rfl rfl ?_
  replace hF := zbnd hF
  obtain ⟨x1, e2, hF⟩ := hF
  refine zy_getR rfl rfl e2 ?_
  refine zx_aload_n rfl rfl rfl ?_
  replace hF := zbnd hF
  obtain ⟨x3, e4, hF⟩ := hF
  refine zy_getI rfl rfl e4 ?_
  replace hF := zbnd hF
  obtain ⟨a5, rfl, hF⟩ := hF
  replace hF := zbnd hF
  obtain ⟨x6, e7, hF⟩ := hF
  refine zy_aI rfl rfl e7 ?_
  refine zx_bipush (v := 8) rfl rfl rfl ?_
  refine zx_ic_ne rfl rfl (fun c8 => ?_) (fun c8 => ?_)
  · rw [if_neg c8] at hF
    exact tb235_19 (l0 := y0) hd  rfl rfl rfl rfl hF q
  · rw [if_pos c8] at hF
    refine zx_aload_n rfl rfl rfl ?_
    refine zx_iconst (v := 5) rfl rfl rfl ?_
    replace hF := zgd_some hF
    obtain ⟨g9, hF⟩ := hF
    replace hF := zbnd hF
    obtain ⟨p11, e10, hF⟩ := hF
    refine zx_callE rfl rfl rfl rfl (zrcv_isO g9) rfl rfl (zc4 (Nat.le_of_ble_eq_true rfl)) (t195 (by omega) e10 (zaV ?_))
    exact tb235_19 (l0 := y0) hd  rfl rfl rfl rfl hF q
def b238_71 (n : Nat)  (r24 : Nat → Int32 → Int32 → Int32 → Int32 → zH → Option (Int32 × zH)) (l0 : Nat) (l1 : Int32) (l2 : Int32) (l3 : Int32) (l4 : Int32) (s0 : Int32) (h : zH) : Option (Int32 × zH) :=
  r24 l0 l1 l2 s0 (l4 + 1) h
set_option maxRecDepth 20000 in
theorem tb238_71 {d n : Nat} {Q : zRs → zH → Prop}  {r24 : Nat → Int32 → Int32 → Int32 → Int32 → zH → Option (Int32 × zH)} {l0 : Nat} {l1 : Int32} {l2 : Int32} {l3 : Int32} {l4 : Int32} {s0 : Int32}  (hd : 0 ≤ d)  (hr24 : ∀ {l0 : Nat} {l1 : Int32} {l2 : Int32} {l3 : Int32} {l4 : Int32}   {h : zH} {p : (Int32 × zH)}, r24 l0 l1 l2 l3 l4 h = some p → Q (eI p.1) p.2 → zW d 238 24 [some (.ref l0), some (.int l1), some (.int l2), some (.int l3), some (.int l4)] [] h Q) {h : zH} {p : (Int32 × zH)}  (hF : b238_71 n  r24 l0 l1 l2 l3 l4 s0 h = some p) (q : Q (eI p.1) p.2) : zW d 238 71 [some (.ref l0), some (.int l1), some (.int l2), some (.int l3), some (.int l4)] [.int s0] h Q := by
  unfold b238_71 at hF
  refine zx_istore_n rfl rfl rfl ?_
  refine zx_iinc (w := 1) rfl rfl rfl rfl rfl ?_
  refine zx_goto rfl rfl ?_
  exact hr24  hF q
def b238_24 (n : Nat)  (r24 : Nat → Int32 → Int32 → Int32 → Int32 → zH → Option (Int32 × zH)) (l0 : Nat) (l1 : Int32) (l2 : Int32) (l3 : Int32) (l4 : Int32) (h : zH) : Option (Int32 × zH) :=
  (gR h l0 11 6).bind fun x1 =>
  x1.bind fun a3 =>
  (aI h a3 l1).bind fun x4 =>
  if x4 ≤ l4 then
    zgd (zrtn .boolean l3) <|
    some (l3, h)
  else
    if l3 = 0 then
      zgd (zrtn .boolean l3) <|
      some (l3, h)
    else
      (gR h l0 11 7).bind fun x10 =>
      x10.bind fun a12 =>
      (aB h a12 ((16 * l1) + l4)).bind fun x13 =>
      (gR h l0 11 7).bind fun x15 =>
      x15.bind fun a17 =>
      (aB h a17 ((16 * l2) + l4)).bind fun x18 =>
      if x13 = x18 then
        b238_71 n r24 l0 l1 l2 l3 l4 1 h
      else
        b238_71 n r24 l0 l1 l2 l3 l4 0 h
set_option maxRecDepth 20000 in
theorem tb238_24 {d n : Nat} {Q : zRs → zH → Prop}  {r24 : Nat → Int32 → Int32 → Int32 → Int32 → zH → Option (Int32 × zH)} {l0 : Nat} {l1 : Int32} {l2 : Int32} {l3 : Int32} {l4 : Int32}   (hd : 0 ≤ d)  (hr24 : ∀ {l0 : Nat} {l1 : Int32} {l2 : Int32} {l3 : Int32} {l4 : Int32}   {h : zH} {p : (Int32 × zH)}, r24 l0 l1 l2 l3 l4 h = some p → Q (eI p.1) p.2 → zW d 238 24 [some (.ref l0), some (.int l1), some (.int l2), some (.int l3), some (.int l4)] [] h Q) {h : zH} {p : (Int32 × zH)}  (hF : b238_24 n  r24 l0 l1 l2 l3 l4 h = some p) (q : Q (eI p.1) p.2) : zW d 238 24 [some (.ref l0), some (.int l1), some (.int l2), some (.int l3), some (.int l4)] [] h Q := by
  unfold b238_24 at hF
  refine zx_iload rfl rfl rfl ?_
  refine zx_aload_n rfl rfl rfl ?_
  replace hF := zbnd hF
  obtain ⟨x1, e2, hF⟩ := hF
  refine zy_getR rfl rfl e2 ?_
  refine zx_iload_n rfl rfl rfl ?_
  replace hF := zbnd hF
  obtain ⟨a3, rfl, hF⟩ := hF
  replace hF := zbnd hF
  obtain ⟨x4, e5, hF⟩ := hF
  refine zy_aI rfl rfl e5 ?_
  refine zx_ic_ge rfl rfl (fun c6 => ?_) (fun c6 => ?_)
  · rw [if_pos c6] at hF
    refine zx_iload_n rfl rfl rfl ?_
    replace hF := zgd_some hF
    obtain ⟨g7, hF⟩ := hF
    replace hF := Option.some.inj hF
    subst hF
    exact zx_bret rfl rfl rfl g7 q
  · rw [if_neg c6] at hF
    refine zx_iload_n rfl rfl rfl ?_
    refine zx_if_eq rfl rfl (fun c8 => ?_) (fun c8 => ?_)
    · rw [if_pos c8] at hF
      refine zx_iload_n rfl rfl rfl ?_
      replace hF := zgd_some hF
      obtain ⟨g9, hF⟩ := hF
      replace hF := Option.some.inj hF
      subst hF
      exact zx_bret rfl rfl rfl g9 q
    · rw [if_neg c8] at hF
      refine zx_aload_n rfl rfl rfl ?_
      replace hF := zbnd hF
      obtain ⟨x10, e11, hF⟩ := hF
      refine zy_getR rfl rfl e11 ?_
      refine zx_bipush (v := 16) rfl rfl rfl ?_
      refine zx_iload_n rfl rfl rfl ?_
      refine zx_imul rfl rfl ?_
      refine zx_iload rfl rfl rfl ?_
      refine zx_iadd rfl rfl ?_
      replace hF := zbnd hF
      obtain ⟨a12, rfl, hF⟩ := hF
      replace hF := zbnd hF
      obtain ⟨x13, e14, hF⟩ := hF
      refine zy_aB rfl rfl e14 ?_
      refine zx_aload_n rfl rfl rfl ?_
      replace hF := zbnd hF
      obtain ⟨x15, e16, hF⟩ := hF
      refine zy_getR rfl rfl e16 ?_
      refine zx_bipush (v := 16) rfl rfl rfl ?_
      refine zx_iload_n rfl rfl rfl ?_
      refine zx_imul rfl rfl ?_
      refine zx_iload rfl rfl rfl ?_
      refine zx_iadd rfl rfl ?_
      replace hF := zbnd hF
      obtain ⟨a17, rfl, hF⟩ := hF
      replace hF := zbnd hF
      obtain ⟨x18, e19, hF⟩ := hF
      refine zy_aB rfl rfl e19 ?_
      refine zx_ic_ne rfl rfl (fun c20 => ?_) (fun c20 => ?_)
      · rw [if_neg c20] at hF
        refine zx_iconst (v := 0) rfl rfl rfl ?_
        exact tb238_71 (l0 := l0) (l1 := l1) (l2 := l2) (l3 := l3) (l4 := l4) (s0 := 0) hd hr24  hF q
      · rw [if_pos c20] at hF
        refine zx_iconst (v := 1) rfl rfl rfl ?_
        refine zx_goto rfl rfl ?_
        exact tb238_71 (l0 := l0) (l1 := l1) (l2 := l2) (l3 := l3) (l4 := l4) (s0 := 1) hd hr24  hF q
def f238_24 (n : Nat)   (k : Nat) : Nat → Int32 → Int32 → Int32 → Int32 → zH → Option (Int32 × zH) := Nat.rec (fun _ _ _ _ _ _ => none) (fun _ ih => b238_24 n  ih) k
theorem tf238_24 {d n : Nat} {Q : zRs → zH → Prop}   (hd : 0 ≤ d)   (k : Nat) : ∀ {l0 : Nat} {l1 : Int32} {l2 : Int32} {l3 : Int32} {l4 : Int32}   {h : zH} {p : (Int32 × zH)}, f238_24 n   k l0 l1 l2 l3 l4 h = some p → Q (eI p.1) p.2 → zW d 238 24 [some (.ref l0), some (.int l1), some (.int l2), some (.int l3), some (.int l4)] [] h Q := by
  induction k with
  | zero => intros; rename_i hF _; cases hF
  | succ k ih => intros; rename_i  hF q; exact tb238_24 (n := n) hd  ih  hF q
def b238_20 (n : Nat)   (l0 : Nat) (l1 : Int32) (l2 : Int32) (s0 : Int32) (h : zH) : Option (Int32 × zH) :=
  f238_24 n  n l0 l1 l2 s0 0 h
set_option maxRecDepth 20000 in
theorem tb238_20 {d n : Nat} {Q : zRs → zH → Prop}   {l0 : Nat} {l1 : Int32} {l2 : Int32} {s0 : Int32} {x3 : Option Value} {x4 : Option Value} (hd : 0 ≤ d)   {h : zH} {p : (Int32 × zH)} (hx3 : zn2 x3 = true) (hx4 : zn2 x4 = true) (hF : b238_20 n   l0 l1 l2 s0 h = some p) (q : Q (eI p.1) p.2) : zW d 238 20 [some (.ref l0), some (.int l1), some (.int l2), x3, x4] [.int s0] h Q := by
  unfold b238_20 at hF
  refine zx_istore_n rfl rfl rfl ?_
  refine zx_iconst (v := 0) rfl rfl rfl ?_
  refine zx_istore rfl rfl rfl ?_
  exact tf238_24 hd  n (l0 := l0) (l1 := l1) (l2 := l2) (l3 := s0) (l4 := 0)  hF q
def f238 (n : Nat)  (y0 : Nat) (y1 : Int32) (y2 : Int32) (h : zH) : Option (Int32 × zH) :=
  (gR h y0 11 6).bind fun x1 =>
  x1.bind fun a3 =>
  (aI h a3 y1).bind fun x4 =>
  (gR h y0 11 6).bind fun x6 =>
  x6.bind fun a8 =>
  (aI h a8 y2).bind fun x9 =>
  if x4 = x9 then
    b238_20 n  y0 y1 y2 1 h
  else
    b238_20 n  y0 y1 y2 0 h
set_option maxRecDepth 20000 in
theorem t238 {d n : Nat} {Q : zRs → zH → Prop}  {y0 : Nat} {y1 : Int32} {y2 : Int32} (hd : 0 ≤ d)  {h : zH} {p : (Int32 × zH)} (hF : f238 n  y0 y1 y2 h = some p) (q : Q (eI p.1) p.2) : zC d 238 [.ref y0, .int y1, .int y2] h Q := by
  refine zC_of (L := [some (.ref y0), some (.int y1), some (.int y2), none, none]) rfl rfl ?_
  unfold f238 at hF
  refine zx_aload_n rfl rfl rfl ?_
  replace hF := zbnd hF
  obtain ⟨x1, e2, hF⟩ := hF
  refine zy_getR rfl rfl e2 ?_
  refine zx_iload_n rfl rfl rfl ?_
  replace hF := zbnd hF
  obtain ⟨a3, rfl, hF⟩ := hF
  replace hF := zbnd hF
  obtain ⟨x4, e5, hF⟩ := hF
  refine zy_aI rfl rfl e5 ?_
  refine zx_aload_n rfl rfl rfl ?_
  replace hF := zbnd hF
  obtain ⟨x6, e7, hF⟩ := hF
  refine zy_getR rfl rfl e7 ?_
  refine zx_iload_n rfl rfl rfl ?_
  replace hF := zbnd hF
  obtain ⟨a8, rfl, hF⟩ := hF
  replace hF := zbnd hF
  obtain ⟨x9, e10, hF⟩ := hF
  refine zy_aI rfl rfl e10 ?_
  refine zx_ic_ne rfl rfl (fun c11 => ?_) (fun c11 => ?_)
  · rw [if_neg c11] at hF
    refine zx_iconst (v := 0) rfl rfl rfl ?_
    exact tb238_20 (l0 := y0) (l1 := y1) (l2 := y2) (s0 := 0) hd  rfl rfl hF q
  · rw [if_pos c11] at hF
    refine zx_iconst (v := 1) rfl rfl rfl ?_
    refine zx_goto rfl rfl ?_
    exact tb238_20 (l0 := y0) (l1 := y1) (l2 := y2) (s0 := 1) hd  rfl rfl hF q
def b237_311 (n : Nat)  (r2 : Nat → Int32 → zH → Option (Unit × zH)) (l0 : Nat) (l1 : Int32) (l2 : Int32) (h : zH) : Option (Unit × zH) :=
  r2 l0 (l1 + 1) h
set_option maxRecDepth 20000 in
theorem tb237_311 {d n : Nat} {Q : zRs → zH → Prop}  {r2 : Nat → Int32 → zH → Option (Unit × zH)} {l0 : Nat} {l1 : Int32} {l2 : Int32}  {x3 : Option Value} {x4 : Option Value} {x5 : Option Value} {x6 : Option Value} (hd : 1 ≤ d)  (hr2 : ∀ {l0 : Nat} {l1 : Int32}  {x2 : Option Value} {x3 : Option Value} {x4 : Option Value} {x5 : Option Value} {x6 : Option Value} {h : zH} {p : (Unit × zH)}, zn2 x2 = true → zn2 x3 = true → zn2 x4 = true → zn2 x5 = true → zn2 x6 = true → r2 l0 l1 h = some p → Q (eV p.1) p.2 → zW d 237 2 [some (.ref l0), some (.int l1), x2, x3, x4, x5, x6] [] h Q) {h : zH} {p : (Unit × zH)} (hx3 : zn2 x3 = true) (hx4 : zn2 x4 = true) (hx5 : zn2 x5 = true) (hx6 : zn2 x6 = true) (hF : b237_311 n  r2 l0 l1 l2 h = some p) (q : Q (eV p.1) p.2) : zW d 237 311 [some (.ref l0), some (.int l1), some (.int l2), x3, x4, x5, x6] [] h Q := by
  unfold b237_311 at hF
  obtain ⟨d, rfl⟩ : ∃ e, d = e + 1 := ⟨d - 1, by omega⟩
  refine zx_iinc (w := 1) rfl rfl rfl rfl rfl ?_
  refine zx_goto rfl rfl ?_
  exact hr2 rfl hx3 hx4 hx5 hx6 hF q
def b237_140 (n : Nat)   (l0 : Nat) (l1 : Int32) (l2 : Int32) (l3 : Int32) (l4 : Int32) (l5 : Int32) (h : zH) : Option (Unit × zH) :=
  (gR h l0 11 22).bind fun x1 =>
  x1.bind fun a3 =>
  (aI h a3 l3).bind fun x4 =>
  zgd (isO h l0 11) <|
  (f196 n l0 3 x4 h).bind fun p8 =>
  some ((), p8.2)
set_option maxRecDepth 20000 in
theorem tb237_140 {d n : Nat} {Q : zRs → zH → Prop}   {l0 : Nat} {l1 : Int32} {l2 : Int32} {l3 : Int32} {l4 : Int32} {l5 : Int32}  {x6 : Option Value} (hd : 1 ≤ d)   {h : zH} {p : (Unit × zH)} (hx6 : zn2 x6 = true) (hF : b237_140 n   l0 l1 l2 l3 l4 l5 h = some p) (q : Q (eV p.1) p.2) : zW d 237 140 [some (.ref l0), some (.int l1), some (.int l2), some (.int l3), some (.int l4), some (.int l5), x6] [] h Q := by
  unfold b237_140 at hF
  obtain ⟨d, rfl⟩ : ∃ e, d = e + 1 := ⟨d - 1, by omega⟩
  refine zx_aload_n rfl rfl rfl ?_
  refine zx_iconst (v := 3) rfl rfl rfl ?_
  refine zx_aload_n rfl rfl rfl ?_
  replace hF := zbnd hF
  obtain ⟨x1, e2, hF⟩ := hF
  refine zy_getR rfl rfl e2 ?_
  refine zx_iload_n rfl rfl rfl ?_
  replace hF := zbnd hF
  obtain ⟨a3, rfl, hF⟩ := hF
  replace hF := zbnd hF
  obtain ⟨x4, e5, hF⟩ := hF
  refine zy_aI rfl rfl e5 ?_
  replace hF := zgd_some hF
  obtain ⟨g6, hF⟩ := hF
  replace hF := zbnd hF
  obtain ⟨p8, e7, hF⟩ := hF
  refine zx_callE rfl rfl rfl rfl (zrcv_isO g6) rfl rfl (zc4 (Nat.le_of_ble_eq_true rfl)) (t196 (by omega) e7 (zaV ?_))
  replace hF := Option.some.inj hF
  subst hF
  exact zx_return rfl rfl rfl q
def b237_285 (n : Nat)   (l0 : Nat) (l1 : Int32) (l2 : Int32) (l3 : Int32) (l4 : Int32) (l5 : Int32) (h : zH) : Option (Unit × zH) :=
  (gR h l0 11 27).bind fun x1 =>
  x1.bind fun a3 =>
  (aI h a3 l3).bind fun x4 =>
  zgd (isO h l0 11) <|
  (f196 n l0 2 x4 h).bind fun p8 =>
  some ((), p8.2)
set_option maxRecDepth 20000 in
theorem tb237_285 {d n : Nat} {Q : zRs → zH → Prop}   {l0 : Nat} {l1 : Int32} {l2 : Int32} {l3 : Int32} {l4 : Int32} {l5 : Int32}  {x6 : Option Value} (hd : 1 ≤ d)   {h : zH} {p : (Unit × zH)} (hx6 : zn2 x6 = true) (hF : b237_285 n   l0 l1 l2 l3 l4 l5 h = some p) (q : Q (eV p.1) p.2) : zW d 237 285 [some (.ref l0), some (.int l1), some (.int l2), some (.int l3), some (.int l4), some (.int l5), x6] [] h Q := by
  unfold b237_285 at hF
  obtain ⟨d, rfl⟩ : ∃ e, d = e + 1 := ⟨d - 1, by omega⟩
  refine zx_aload_n rfl rfl rfl ?_
  refine zx_iconst (v := 2) rfl rfl rfl ?_
  refine zx_aload_n rfl rfl rfl ?_
  replace hF := zbnd hF
  obtain ⟨x1, e2, hF⟩ := hF
  refine zy_getR rfl rfl e2 ?_
  refine zx_iload_n rfl rfl rfl ?_
  replace hF := zbnd hF
  obtain ⟨a3, rfl, hF⟩ := hF
  replace hF := zbnd hF
  obtain ⟨x4, e5, hF⟩ := hF
  refine zy_aI rfl rfl e5 ?_
  replace hF := zgd_some hF
  obtain ⟨g6, hF⟩ := hF
  replace hF := zbnd hF
  obtain ⟨p8, e7, hF⟩ := hF
  refine zx_callE rfl rfl rfl rfl (zrcv_isO g6) rfl rfl (zc4 (Nat.le_of_ble_eq_true rfl)) (t196 (by omega) e7 (zaV ?_))
  replace hF := Option.some.inj hF
  subst hF
  exact zx_return rfl rfl rfl q
def b237_297 (n : Nat)  (r2 : Nat → Int32 → zH → Option (Unit × zH)) (r17 : Nat → Int32 → Int32 → zH → Option (Unit × zH)) (l0 : Nat) (l1 : Int32) (l2 : Int32) (l3 : Int32) (l4 : Int32) (l5 : Int32) (h : zH) : Option (Unit × zH) :=
  (gR h l0 11 28).bind fun x1 =>
  x1.bind fun a3 =>
  (aS zsI h a3 l3 (.int l5)).bind fun h4 =>
  r17 l0 l1 (l2 + 1) h4
set_option maxRecDepth 20000 in
theorem tb237_297 {d n : Nat} {Q : zRs → zH → Prop}  {r2 : Nat → Int32 → zH → Option (Unit × zH)} {r17 : Nat → Int32 → Int32 → zH → Option (Unit × zH)} {l0 : Nat} {l1 : Int32} {l2 : Int32} {l3 : Int32} {l4 : Int32} {l5 : Int32}  {x6 : Option Value} (hd : 1 ≤ d)  (hr2 : ∀ {l0 : Nat} {l1 : Int32}  {x2 : Option Value} {x3 : Option Value} {x4 : Option Value} {x5 : Option Value} {x6 : Option Value} {h : zH} {p : (Unit × zH)}, zn2 x2 = true → zn2 x3 = true → zn2 x4 = true → zn2 x5 = true → zn2 x6 = true → r2 l0 l1 h = some p → Q (eV p.1) p.2 → zW d 237 2 [some (.ref l0), some (.int l1), x2, x3, x4, x5, x6] [] h Q) (hr17 : ∀ {l0 : Nat} {l1 : Int32} {l2 : Int32}  {x3 : Option Value} {x4 : Option Value} {x5 : Option Value} {x6 : Option Value} {h : zH} {p : (Unit × zH)}, zn2 x3 = true → zn2 x4 = true → zn2 x5 = true → zn2 x6 = true → r17 l0 l1 l2 h = some p → Q (eV p.1) p.2 → zW d 237 17 [some (.ref l0), some (.int l1), some (.int l2), x3, x4, x5, x6] [] h Q) {h : zH} {p : (Unit × zH)} (hx6 : zn2 x6 = true) (hF : b237_297 n  r2 r17 l0 l1 l2 l3 l4 l5 h = some p) (q : Q (eV p.1) p.2) : zW d 237 297 [some (.ref l0), some (.int l1), some (.int l2), some (.int l3), some (.int l4), some (.int l5), x6] [] h Q := by
  unfold b237_297 at hF
  obtain ⟨d, rfl⟩ : ∃ e, d = e + 1 := ⟨d - 1, by omega⟩
  refine zx_aload_n rfl rfl rfl ?_
  replace hF := zbnd hF
  obtain ⟨x1, e2, hF⟩ := hF
  refine zy_getR rfl rfl e2 ?_
  refine zx_iload_n rfl rfl rfl ?_
  refine zx_iload rfl rfl rfl ?_
  replace hF := zbnd hF
  obtain ⟨a3, rfl, hF⟩ := hF
  replace hF := zbnd hF
  obtain ⟨h4, e5, hF⟩ := hF
  refine zy_sI rfl rfl e5 ?_
  refine zx_iinc (w := 1) rfl rfl rfl rfl rfl ?_
  refine zx_goto rfl rfl ?_
  exact hr17 rfl rfl rfl hx6 hF q
def b237_245 (n : Nat)  (r2 : Nat → Int32 → zH → Option (Unit × zH)) (r17 : Nat → Int32 → Int32 → zH → Option (Unit × zH)) (l0 : Nat) (l1 : Int32) (l2 : Int32) (l3 : Int32) (l4 : Int32) (l5 : Int32) (h : zH) : Option (Unit × zH) :=
  (gR h l0 11 24).bind fun x1 =>
  x1.bind fun a3 =>
  (aI h a3 l3).bind fun x4 =>
  (gR h l0 11 15).bind fun x6 =>
  (gI h l0 11 4).bind fun x8 =>
  x6.bind fun a10 =>
  (aI h a10 ((24 * x8) + l4)).bind fun x11 =>
  if x4 = x11 then
    (gR h l0 11 24).bind fun x14 =>
    x14.bind fun a16 =>
    (aI h a16 l3).bind fun x17 =>
    if x17 = 2 then
      if l5 = (-1) then
        b237_285 n  l0 l1 l2 l3 l4 l5 h
      else
        b237_297 n r2 r17 l0 l1 l2 l3 l4 l5 h
    else
      b237_297 n r2 r17 l0 l1 l2 l3 l4 l5 h
  else
    b237_285 n  l0 l1 l2 l3 l4 l5 h
set_option maxRecDepth 20000 in
theorem tb237_245 {d n : Nat} {Q : zRs → zH → Prop}  {r2 : Nat → Int32 → zH → Option (Unit × zH)} {r17 : Nat → Int32 → Int32 → zH → Option (Unit × zH)} {l0 : Nat} {l1 : Int32} {l2 : Int32} {l3 : Int32} {l4 : Int32} {l5 : Int32}  {x6 : Option Value} (hd : 1 ≤ d)  (hr2 : ∀ {l0 : Nat} {l1 : Int32}  {x2 : Option Value} {x3 : Option Value} {x4 : Option Value} {x5 : Option Value} {x6 : Option Value} {h : zH} {p : (Unit × zH)}, zn2 x2 = true → zn2 x3 = true → zn2 x4 = true → zn2 x5 = true → zn2 x6 = true → r2 l0 l1 h = some p → Q (eV p.1) p.2 → zW d 237 2 [some (.ref l0), some (.int l1), x2, x3, x4, x5, x6] [] h Q) (hr17 : ∀ {l0 : Nat} {l1 : Int32} {l2 : Int32}  {x3 : Option Value} {x4 : Option Value} {x5 : Option Value} {x6 : Option Value} {h : zH} {p : (Unit × zH)}, zn2 x3 = true → zn2 x4 = true → zn2 x5 = true → zn2 x6 = true → r17 l0 l1 l2 h = some p → Q (eV p.1) p.2 → zW d 237 17 [some (.ref l0), some (.int l1), some (.int l2), x3, x4, x5, x6] [] h Q) {h : zH} {p : (Unit × zH)} (hx6 : zn2 x6 = true) (hF : b237_245 n  r2 r17 l0 l1 l2 l3 l4 l5 h = some p) (q : Q (eV p.1) p.2) : zW d 237 245 [some (.ref l0), some (.int l1), some (.int l2), some (.int l3), some (.int l4), some (.int l5), x6] [] h Q := by
  unfold b237_245 at hF
  obtain ⟨d, rfl⟩ : ∃ e, d = e + 1 := ⟨d - 1, by omega⟩
  refine zx_aload_n rfl rfl rfl ?_
  replace hF := zbnd hF
  obtain ⟨x1, e2, hF⟩ := hF
  refine zy_getR rfl rfl e2 ?_
  refine zx_iload_n rfl rfl rfl ?_
  replace hF := zbnd hF
  obtain ⟨a3, rfl, hF⟩ := hF
  replace hF := zbnd hF
  obtain ⟨x4, e5, hF⟩ := hF
  refine zy_aI rfl rfl e5 ?_
  refine zx_aload_n rfl rfl rfl ?_
  replace hF := zbnd hF
  obtain ⟨x6, e7, hF⟩ := hF
  refine zy_getR rfl rfl e7 ?_
  refine zx_bipush (v := 24) rfl rfl rfl ?_
  refine zx_aload_n rfl rfl rfl ?_
  replace hF := zbnd hF
  obtain ⟨x8, e9, hF⟩ := hF
  refine zy_getI rfl rfl e9 ?_
  refine zx_imul rfl rfl ?_
  refine zx_iload rfl rfl rfl ?_
  refine zx_iadd rfl rfl ?_
  replace hF := zbnd hF
  obtain ⟨a10, rfl, hF⟩ := hF
  replace hF := zbnd hF
  obtain ⟨x11, e12, hF⟩ := hF
  refine zy_aI rfl rfl e12 ?_
  refine zx_ic_ne rfl rfl (fun c13 => ?_) (fun c13 => ?_)
  · rw [if_neg c13] at hF
    exact tb237_285 (l0 := l0) (l1 := l1) (l2 := l2) (l3 := l3) (l4 := l4) (l5 := l5) hd  hx6 hF q
  · rw [if_pos c13] at hF
    refine zx_aload_n rfl rfl rfl ?_
    replace hF := zbnd hF
    obtain ⟨x14, e15, hF⟩ := hF
    refine zy_getR rfl rfl e15 ?_
    refine zx_iload_n rfl rfl rfl ?_
    replace hF := zbnd hF
    obtain ⟨a16, rfl, hF⟩ := hF
    replace hF := zbnd hF
    obtain ⟨x17, e18, hF⟩ := hF
    refine zy_aI rfl rfl e18 ?_
    refine zx_iconst (v := 2) rfl rfl rfl ?_
    refine zx_ic_ne rfl rfl (fun c19 => ?_) (fun c19 => ?_)
    · rw [if_neg c19] at hF
      exact tb237_297 (l0 := l0) (l1 := l1) (l2 := l2) (l3 := l3) (l4 := l4) (l5 := l5) hd hr2 hr17 hx6 hF q
    · rw [if_pos c19] at hF
      refine zx_iload rfl rfl rfl ?_
      refine zx_iconst (v := (-1)) rfl rfl rfl ?_
      refine zx_ic_ne rfl rfl (fun c20 => ?_) (fun c20 => ?_)
      · rw [if_neg c20] at hF
        exact tb237_297 (l0 := l0) (l1 := l1) (l2 := l2) (l3 := l3) (l4 := l4) (l5 := l5) hd hr2 hr17 hx6 hF q
      · rw [if_pos c20] at hF
        exact tb237_285 (l0 := l0) (l1 := l1) (l2 := l2) (l3 := l3) (l4 := l4) (l5 := l5) hd  hx6 hF q
def b237_237 (n : Nat)  (r2 : Nat → Int32 → zH → Option (Unit × zH)) (r17 : Nat → Int32 → Int32 → zH → Option (Unit × zH)) (r176 : Nat → Int32 → Int32 → Int32 → Int32 → Int32 → Int32 → zH → Option (Unit × zH)) (l0 : Nat) (l1 : Int32) (l2 : Int32) (l3 : Int32) (l4 : Int32) (l5 : Int32) (l6 : Int32) (s0 : Int32) (h : zH) : Option (Unit × zH) :=
  r176 l0 l1 l2 l3 l4 s0 (l6 + 1) h
set_option maxRecDepth 20000 in
theorem tb237_237 {d n : Nat} {Q : zRs → zH → Prop}  {r2 : Nat → Int32 → zH → Option (Unit × zH)} {r17 : Nat → Int32 → Int32 → zH → Option (Unit × zH)} {r176 : Nat → Int32 → Int32 → Int32 → Int32 → Int32 → Int32 → zH → Option (Unit × zH)} {l0 : Nat} {l1 : Int32} {l2 : Int32} {l3 : Int32} {l4 : Int32} {l5 : Int32} {l6 : Int32} {s0 : Int32}  (hd : 1 ≤ d)  (hr2 : ∀ {l0 : Nat} {l1 : Int32}  {x2 : Option Value} {x3 : Option Value} {x4 : Option Value} {x5 : Option Value} {x6 : Option Value} {h : zH} {p : (Unit × zH)}, zn2 x2 = true → zn2 x3 = true → zn2 x4 = true → zn2 x5 = true → zn2 x6 = true → r2 l0 l1 h = some p → Q (eV p.1) p.2 → zW d 237 2 [some (.ref l0), some (.int l1), x2, x3, x4, x5, x6] [] h Q) (hr17 : ∀ {l0 : Nat} {l1 : Int32} {l2 : Int32}  {x3 : Option Value} {x4 : Option Value} {x5 : Option Value} {x6 : Option Value} {h : zH} {p : (Unit × zH)}, zn2 x3 = true → zn2 x4 = true → zn2 x5 = true → zn2 x6 = true → r17 l0 l1 l2 h = some p → Q (eV p.1) p.2 → zW d 237 17 [some (.ref l0), some (.int l1), some (.int l2), x3, x4, x5, x6] [] h Q) (hr176 : ∀ {l0 : Nat} {l1 : Int32} {l2 : Int32} {l3 : Int32} {l4 : Int32} {l5 : Int32} {l6 : Int32}   {h : zH} {p : (Unit × zH)}, r176 l0 l1 l2 l3 l4 l5 l6 h = some p → Q (eV p.1) p.2 → zW d 237 176 [some (.ref l0), some (.int l1), some (.int l2), some (.int l3), some (.int l4), some (.int l5), some (.int l6)] [] h Q) {h : zH} {p : (Unit × zH)}  (hF : b237_237 n  r2 r17 r176 l0 l1 l2 l3 l4 l5 l6 s0 h = some p) (q : Q (eV p.1) p.2) : zW d 237 237 [some (.ref l0), some (.int l1), some (.int l2), some (.int l3), some (.int l4), some (.int l5), some (.int l6)] [.int s0] h Q := by
  unfold b237_237 at hF
  obtain ⟨d, rfl⟩ : ∃ e, d = e + 1 := ⟨d - 1, by omega⟩
  refine zx_istore rfl rfl rfl ?_
  refine zx_iinc (w := 1) rfl rfl rfl rfl rfl ?_
  refine zx_goto rfl rfl ?_
  exact hr176  hF q
def b237_176 (n : Nat)  (r2 : Nat → Int32 → zH → Option (Unit × zH)) (r17 : Nat → Int32 → Int32 → zH → Option (Unit × zH)) (r176 : Nat → Int32 → Int32 → Int32 → Int32 → Int32 → Int32 → zH → Option (Unit × zH)) (l0 : Nat) (l1 : Int32) (l2 : Int32) (l3 : Int32) (l4 : Int32) (l5 : Int32) (l6 : Int32) (h : zH) : Option (Unit × zH) :=
  (gR h l0 11 16).bind fun x1 =>
  (gI h l0 11 4).bind fun x3 =>
  x1.bind fun a5 =>
  (aI h a5 ((24 * x3) + l4)).bind fun x6 =>
  if x6 ≤ l6 then
    b237_245 n r2 r17 l0 l1 l2 l3 l4 l5 h
  else
    (gR h l0 11 17).bind fun x9 =>
    (gI h l0 11 4).bind fun x11 =>
    x9.bind fun a13 =>
    (aI h a13 ((8 * ((24 * x11) + l4)) + l6)).bind fun x14 =>
    (gR h l0 11 26).bind fun x16 =>
    x16.bind fun a18 =>
    (aI h a18 l3).bind fun x19 =>
    zgd (isO h l0 11) <|
    (f238 n l0 x14 x19 h).bind fun p23 =>
    if p23.1 = 0 then
      b237_237 n r2 r17 r176 l0 l1 l2 l3 l4 l5 l6 l5 p23.2
    else
      b237_237 n r2 r17 r176 l0 l1 l2 l3 l4 l5 l6 l6 p23.2
set_option maxRecDepth 20000 in
theorem tb237_176 {d n : Nat} {Q : zRs → zH → Prop}  {r2 : Nat → Int32 → zH → Option (Unit × zH)} {r17 : Nat → Int32 → Int32 → zH → Option (Unit × zH)} {r176 : Nat → Int32 → Int32 → Int32 → Int32 → Int32 → Int32 → zH → Option (Unit × zH)} {l0 : Nat} {l1 : Int32} {l2 : Int32} {l3 : Int32} {l4 : Int32} {l5 : Int32} {l6 : Int32}   (hd : 1 ≤ d)  (hr2 : ∀ {l0 : Nat} {l1 : Int32}  {x2 : Option Value} {x3 : Option Value} {x4 : Option Value} {x5 : Option Value} {x6 : Option Value} {h : zH} {p : (Unit × zH)}, zn2 x2 = true → zn2 x3 = true → zn2 x4 = true → zn2 x5 = true → zn2 x6 = true → r2 l0 l1 h = some p → Q (eV p.1) p.2 → zW d 237 2 [some (.ref l0), some (.int l1), x2, x3, x4, x5, x6] [] h Q) (hr17 : ∀ {l0 : Nat} {l1 : Int32} {l2 : Int32}  {x3 : Option Value} {x4 : Option Value} {x5 : Option Value} {x6 : Option Value} {h : zH} {p : (Unit × zH)}, zn2 x3 = true → zn2 x4 = true → zn2 x5 = true → zn2 x6 = true → r17 l0 l1 l2 h = some p → Q (eV p.1) p.2 → zW d 237 17 [some (.ref l0), some (.int l1), some (.int l2), x3, x4, x5, x6] [] h Q) (hr176 : ∀ {l0 : Nat} {l1 : Int32} {l2 : Int32} {l3 : Int32} {l4 : Int32} {l5 : Int32} {l6 : Int32}   {h : zH} {p : (Unit × zH)}, r176 l0 l1 l2 l3 l4 l5 l6 h = some p → Q (eV p.1) p.2 → zW d 237 176 [some (.ref l0), some (.int l1), some (.int l2), some (.int l3), some (.int l4), some (.int l5), some (.int l6)] [] h Q) {h : zH} {p : (Unit × zH)}  (hF : b237_176 n  r2 r17 r176 l0 l1 l2 l3 l4 l5 l6 h = some p) (q : Q (eV p.1) p.2) : zW d 237 176 [some (.ref l0), some (.int l1), some (.int l2), some (.int l3), some (.int l4), some (.int l5), some (.int l6)] [] h Q := by
  unfold b237_176 at hF
  obtain ⟨d, rfl⟩ : ∃ e, d = e + 1 := ⟨d - 1, by omega⟩
  refine zx_iload rfl rfl rfl ?_
  refine zx_aload_n rfl rfl rfl ?_
  replace hF := zbnd hF
  obtain ⟨x1, e2, hF⟩ := hF
  refine zy_getR rfl rfl e2 ?_
  refine zx_bipush (v := 24) rfl rfl rfl ?_
  refine zx_aload_n rfl rfl rfl ?_
  replace hF := zbnd hF
  obtain ⟨x3, e4, hF⟩ := hF
  refine zy_getI rfl rfl e4 ?_
  refine zx_imul rfl rfl ?_
  refine zx_iload rfl rfl rfl ?_
  refine zx_iadd rfl rfl ?_
  replace hF := zbnd hF
  obtain ⟨a5, rfl, hF⟩ := hF
  replace hF := zbnd hF
  obtain ⟨x6, e7, hF⟩ := hF
  refine zy_aI rfl rfl e7 ?_
  refine zx_ic_ge rfl rfl (fun c8 => ?_) (fun c8 => ?_)
  · rw [if_pos c8] at hF
    exact tb237_245 (l0 := l0) (l1 := l1) (l2 := l2) (l3 := l3) (l4 := l4) (l5 := l5) hd hr2 hr17 rfl hF q
  · rw [if_neg c8] at hF
    refine zx_aload_n rfl rfl rfl ?_
    refine zx_aload_n rfl rfl rfl ?_
    replace hF := zbnd hF
    obtain ⟨x9, e10, hF⟩ := hF
    refine zy_getR rfl rfl e10 ?_
    refine zx_bipush (v := 8) rfl rfl rfl ?_
    refine zx_bipush (v := 24) rfl rfl rfl ?_
    refine zx_aload_n rfl rfl rfl ?_
    replace hF := zbnd hF
    obtain ⟨x11, e12, hF⟩ := hF
    refine zy_getI rfl rfl e12 ?_
    refine zx_imul rfl rfl ?_
    refine zx_iload rfl rfl rfl ?_
    refine zx_iadd rfl rfl ?_
    refine zx_imul rfl rfl ?_
    refine zx_iload rfl rfl rfl ?_
    refine zx_iadd rfl rfl ?_
    replace hF := zbnd hF
    obtain ⟨a13, rfl, hF⟩ := hF
    replace hF := zbnd hF
    obtain ⟨x14, e15, hF⟩ := hF
    refine zy_aI rfl rfl e15 ?_
    refine zx_aload_n rfl rfl rfl ?_
    replace hF := zbnd hF
    obtain ⟨x16, e17, hF⟩ := hF
    refine zy_getR rfl rfl e17 ?_
    refine zx_iload_n rfl rfl rfl ?_
    replace hF := zbnd hF
    obtain ⟨a18, rfl, hF⟩ := hF
    replace hF := zbnd hF
    obtain ⟨x19, e20, hF⟩ := hF
    refine zy_aI rfl rfl e20 ?_
    replace hF := zgd_some hF
    obtain ⟨g21, hF⟩ := hF
    replace hF := zbnd hF
    obtain ⟨p23, e22, hF⟩ := hF
    refine zx_callE rfl rfl rfl rfl (zrcv_isO g21) rfl rfl (zc4 (Nat.le_of_ble_eq_true rfl)) (t238 (by omega) e22 (zaI ?_))
    refine zx_if_eq rfl rfl (fun c24 => ?_) (fun c24 => ?_)
    · rw [if_pos c24] at hF
      refine zx_iload rfl rfl rfl ?_
      exact tb237_237 (l0 := l0) (l1 := l1) (l2 := l2) (l3 := l3) (l4 := l4) (l5 := l5) (l6 := l6) (s0 := l5) hd hr2 hr17 hr176  hF q
    · rw [if_neg c24] at hF
      refine zx_iload rfl rfl rfl ?_
      refine zx_goto rfl rfl ?_
      exact tb237_237 (l0 := l0) (l1 := l1) (l2 := l2) (l3 := l3) (l4 := l4) (l5 := l5) (l6 := l6) (s0 := l6) hd hr2 hr17 hr176  hF q
def f237_176 (n : Nat)  (r2 : Nat → Int32 → zH → Option (Unit × zH)) (r17 : Nat → Int32 → Int32 → zH → Option (Unit × zH)) (k : Nat) : Nat → Int32 → Int32 → Int32 → Int32 → Int32 → Int32 → zH → Option (Unit × zH) := Nat.rec (fun _ _ _ _ _ _ _ _ => none) (fun _ ih => b237_176 n  r2 r17 ih) k
theorem tf237_176 {d n : Nat} {Q : zRs → zH → Prop}  {r2 : Nat → Int32 → zH → Option (Unit × zH)} {r17 : Nat → Int32 → Int32 → zH → Option (Unit × zH)} (hd : 1 ≤ d)  (hr2 : ∀ {l0 : Nat} {l1 : Int32}  {x2 : Option Value} {x3 : Option Value} {x4 : Option Value} {x5 : Option Value} {x6 : Option Value} {h : zH} {p : (Unit × zH)}, zn2 x2 = true → zn2 x3 = true → zn2 x4 = true → zn2 x5 = true → zn2 x6 = true → r2 l0 l1 h = some p → Q (eV p.1) p.2 → zW d 237 2 [some (.ref l0), some (.int l1), x2, x3, x4, x5, x6] [] h Q) (hr17 : ∀ {l0 : Nat} {l1 : Int32} {l2 : Int32}  {x3 : Option Value} {x4 : Option Value} {x5 : Option Value} {x6 : Option Value} {h : zH} {p : (Unit × zH)}, zn2 x3 = true → zn2 x4 = true → zn2 x5 = true → zn2 x6 = true → r17 l0 l1 l2 h = some p → Q (eV p.1) p.2 → zW d 237 17 [some (.ref l0), some (.int l1), some (.int l2), x3, x4, x5, x6] [] h Q) (k : Nat) : ∀ {l0 : Nat} {l1 : Int32} {l2 : Int32} {l3 : Int32} {l4 : Int32} {l5 : Int32} {l6 : Int32}   {h : zH} {p : (Unit × zH)}, f237_176 n  r2 r17 k l0 l1 l2 l3 l4 l5 l6 h = some p → Q (eV p.1) p.2 → zW d 237 176 [some (.ref l0), some (.int l1), some (.int l2), some (.int l3), some (.int l4), some (.int l5), some (.int l6)] [] h Q := by
  induction k with
  | zero => intros; rename_i hF _; cases hF
  | succ k ih => intros; rename_i  hF q; exact tb237_176 (n := n) hd  hr2 hr17 ih  hF q
def b237_112 (n : Nat)  (r2 : Nat → Int32 → zH → Option (Unit × zH)) (r17 : Nat → Int32 → Int32 → zH → Option (Unit × zH)) (r63 : Nat → Int32 → Int32 → Int32 → Int32 → Int32 → zH → Option (Unit × zH)) (l0 : Nat) (l1 : Int32) (l2 : Int32) (l3 : Int32) (l4 : Int32) (l5 : Int32) (s0 : Int32) (h : zH) : Option (Unit × zH) :=
  r63 l0 l1 l2 l3 s0 (l5 + 1) h
set_option maxRecDepth 20000 in
theorem tb237_112 {d n : Nat} {Q : zRs → zH → Prop}  {r2 : Nat → Int32 → zH → Option (Unit × zH)} {r17 : Nat → Int32 → Int32 → zH → Option (Unit × zH)} {r63 : Nat → Int32 → Int32 → Int32 → Int32 → Int32 → zH → Option (Unit × zH)} {l0 : Nat} {l1 : Int32} {l2 : Int32} {l3 : Int32} {l4 : Int32} {l5 : Int32} {s0 : Int32} {x6 : Option Value} (hd : 1 ≤ d)  (hr2 : ∀ {l0 : Nat} {l1 : Int32}  {x2 : Option Value} {x3 : Option Value} {x4 : Option Value} {x5 : Option Value} {x6 : Option Value} {h : zH} {p : (Unit × zH)}, zn2 x2 = true → zn2 x3 = true → zn2 x4 = true → zn2 x5 = true → zn2 x6 = true → r2 l0 l1 h = some p → Q (eV p.1) p.2 → zW d 237 2 [some (.ref l0), some (.int l1), x2, x3, x4, x5, x6] [] h Q) (hr17 : ∀ {l0 : Nat} {l1 : Int32} {l2 : Int32}  {x3 : Option Value} {x4 : Option Value} {x5 : Option Value} {x6 : Option Value} {h : zH} {p : (Unit × zH)}, zn2 x3 = true → zn2 x4 = true → zn2 x5 = true → zn2 x6 = true → r17 l0 l1 l2 h = some p → Q (eV p.1) p.2 → zW d 237 17 [some (.ref l0), some (.int l1), some (.int l2), x3, x4, x5, x6] [] h Q) (hr63 : ∀ {l0 : Nat} {l1 : Int32} {l2 : Int32} {l3 : Int32} {l4 : Int32} {l5 : Int32}  {x6 : Option Value} {h : zH} {p : (Unit × zH)}, zn2 x6 = true → r63 l0 l1 l2 l3 l4 l5 h = some p → Q (eV p.1) p.2 → zW d 237 63 [some (.ref l0), some (.int l1), some (.int l2), some (.int l3), some (.int l4), some (.int l5), x6] [] h Q) {h : zH} {p : (Unit × zH)} (hx6 : zn2 x6 = true) (hF : b237_112 n  r2 r17 r63 l0 l1 l2 l3 l4 l5 s0 h = some p) (q : Q (eV p.1) p.2) : zW d 237 112 [some (.ref l0), some (.int l1), some (.int l2), some (.int l3), some (.int l4), some (.int l5), x6] [.int s0] h Q := by
  unfold b237_112 at hF
  obtain ⟨d, rfl⟩ : ∃ e, d = e + 1 := ⟨d - 1, by omega⟩
  refine zx_istore rfl rfl rfl ?_
  refine zx_iinc (w := 1) rfl rfl rfl rfl rfl ?_
  refine zx_goto rfl rfl ?_
  exact hr63 hx6 hF q
def b237_63 (n : Nat)  (r2 : Nat → Int32 → zH → Option (Unit × zH)) (r17 : Nat → Int32 → Int32 → zH → Option (Unit × zH)) (r63 : Nat → Int32 → Int32 → Int32 → Int32 → Int32 → zH → Option (Unit × zH)) (l0 : Nat) (l1 : Int32) (l2 : Int32) (l3 : Int32) (l4 : Int32) (l5 : Int32) (h : zH) : Option (Unit × zH) :=
  (gR h l0 11 13).bind fun x1 =>
  (gI h l0 11 4).bind fun x3 =>
  x1.bind fun a5 =>
  (aI h a5 x3).bind fun x6 =>
  if x6 ≤ l5 then
    (gR h l0 11 23).bind fun x9 =>
    x9.bind fun a11 =>
    (aS zsI h a11 l3 (.int l4)).bind fun h12 =>
    if l4 = (-1) then
      b237_140 n  l0 l1 l2 l3 l4 l5 h12
    else
      if l4 = l1 then
        b237_140 n  l0 l1 l2 l3 l4 l5 h12
      else
        (gR h12 l0 11 25).bind fun x16 =>
        x16.bind fun a18 =>
        (aI h12 a18 l3).bind fun x19 =>
        (gR h12 l0 11 24).bind fun x21 =>
        x21.bind fun a23 =>
        (aI h12 a23 l3).bind fun x24 =>
        if x24 = 2 then
          f237_176 n r2 r17 n l0 l1 l2 l3 l4 (-1) 0 h12
        else
          b237_245 n r2 r17 l0 l1 l2 l3 l4 x19 h12
  else
    (gR h l0 11 14).bind fun x27 =>
    (gI h l0 11 4).bind fun x29 =>
    x27.bind fun a31 =>
    (aI h a31 ((24 * x29) + l5)).bind fun x32 =>
    (gR h l0 11 21).bind fun x34 =>
    x34.bind fun a36 =>
    (aI h a36 l3).bind fun x37 =>
    zgd (isO h l0 11) <|
    (f238 n l0 x32 x37 h).bind fun p41 =>
    if p41.1 = 0 then
      b237_112 n r2 r17 r63 l0 l1 l2 l3 l4 l5 l4 p41.2
    else
      b237_112 n r2 r17 r63 l0 l1 l2 l3 l4 l5 l5 p41.2
set_option maxRecDepth 20000 in
theorem tb237_63 {d n : Nat} {Q : zRs → zH → Prop}  {r2 : Nat → Int32 → zH → Option (Unit × zH)} {r17 : Nat → Int32 → Int32 → zH → Option (Unit × zH)} {r63 : Nat → Int32 → Int32 → Int32 → Int32 → Int32 → zH → Option (Unit × zH)} {l0 : Nat} {l1 : Int32} {l2 : Int32} {l3 : Int32} {l4 : Int32} {l5 : Int32}  {x6 : Option Value} (hd : 1 ≤ d)  (hr2 : ∀ {l0 : Nat} {l1 : Int32}  {x2 : Option Value} {x3 : Option Value} {x4 : Option Value} {x5 : Option Value} {x6 : Option Value} {h : zH} {p : (Unit × zH)}, zn2 x2 = true → zn2 x3 = true → zn2 x4 = true → zn2 x5 = true → zn2 x6 = true → r2 l0 l1 h = some p → Q (eV p.1) p.2 → zW d 237 2 [some (.ref l0), some (.int l1), x2, x3, x4, x5, x6] [] h Q) (hr17 : ∀ {l0 : Nat} {l1 : Int32} {l2 : Int32}  {x3 : Option Value} {x4 : Option Value} {x5 : Option Value} {x6 : Option Value} {h : zH} {p : (Unit × zH)}, zn2 x3 = true → zn2 x4 = true → zn2 x5 = true → zn2 x6 = true → r17 l0 l1 l2 h = some p → Q (eV p.1) p.2 → zW d 237 17 [some (.ref l0), some (.int l1), some (.int l2), x3, x4, x5, x6] [] h Q) (hr63 : ∀ {l0 : Nat} {l1 : Int32} {l2 : Int32} {l3 : Int32} {l4 : Int32} {l5 : Int32}  {x6 : Option Value} {h : zH} {p : (Unit × zH)}, zn2 x6 = true → r63 l0 l1 l2 l3 l4 l5 h = some p → Q (eV p.1) p.2 → zW d 237 63 [some (.ref l0), some (.int l1), some (.int l2), some (.int l3), some (.int l4), some (.int l5), x6] [] h Q) {h : zH} {p : (Unit × zH)} (hx6 : zn2 x6 = true) (hF : b237_63 n  r2 r17 r63 l0 l1 l2 l3 l4 l5 h = some p) (q : Q (eV p.1) p.2) : zW d 237 63 [some (.ref l0), some (.int l1), some (.int l2), some (.int l3), some (.int l4), some (.int l5), x6] [] h Q := by
  unfold b237_63 at hF
  obtain ⟨d, rfl⟩ : ∃ e, d = e + 1 := ⟨d - 1, by omega⟩
  refine zx_iload rfl rfl rfl ?_
  refine zx_aload_n rfl rfl rfl ?_
  replace hF := zbnd hF
  obtain ⟨x1, e2, hF⟩ := hF
  refine zy_getR rfl rfl e2 ?_
  refine zx_aload_n rfl rfl rfl ?_
  replace hF := zbnd hF
  obtain ⟨x3, e4, hF⟩ := hF
  refine zy_getI rfl rfl e4 ?_
  replace hF := zbnd hF
  obtain ⟨a5, rfl, hF⟩ := hF
  replace hF := zbnd hF
  obtain ⟨x6, e7, hF⟩ := hF
  refine zy_aI rfl rfl e7 ?_
  refine zx_ic_ge rfl rfl (fun c8 => ?_) (fun c8 => ?_)
  · rw [if_pos c8] at hF
    refine zx_aload_n rfl rfl rfl ?_
    replace hF := zbnd hF
    obtain ⟨x9, e10, hF⟩ := hF
    refine zy_getR rfl rfl e10 ?_
    refine zx_iload_n rfl rfl rfl ?_
    refine zx_iload rfl rfl rfl ?_
    replace hF := zbnd hF
    obtain ⟨a11, rfl, hF⟩ := hF
    replace hF := zbnd hF
    obtain ⟨h12, e13, hF⟩ := hF
    refine zy_sI rfl rfl e13 ?_
    refine zx_iload rfl rfl rfl ?_
    refine zx_iconst (v := (-1)) rfl rfl rfl ?_
    refine zx_ic_eq rfl rfl (fun c14 => ?_) (fun c14 => ?_)
    · rw [if_pos c14] at hF
      exact tb237_140 (l0 := l0) (l1 := l1) (l2 := l2) (l3 := l3) (l4 := l4) (l5 := l5) hd  hx6 hF q
    · rw [if_neg c14] at hF
      refine zx_iload rfl rfl rfl ?_
      refine zx_iload_n rfl rfl rfl ?_
      refine zx_ic_ne rfl rfl (fun c15 => ?_) (fun c15 => ?_)
      · rw [if_neg c15] at hF
        refine zx_aload_n rfl rfl rfl ?_
        replace hF := zbnd hF
        obtain ⟨x16, e17, hF⟩ := hF
        refine zy_getR rfl rfl e17 ?_
        refine zx_iload_n rfl rfl rfl ?_
        replace hF := zbnd hF
        obtain ⟨a18, rfl, hF⟩ := hF
        replace hF := zbnd hF
        obtain ⟨x19, e20, hF⟩ := hF
        refine zy_aI rfl rfl e20 ?_
        refine zx_istore rfl rfl rfl ?_
        refine zx_aload_n rfl rfl rfl ?_
        replace hF := zbnd hF
        obtain ⟨x21, e22, hF⟩ := hF
        refine zy_getR rfl rfl e22 ?_
        refine zx_iload_n rfl rfl rfl ?_
        replace hF := zbnd hF
        obtain ⟨a23, rfl, hF⟩ := hF
        replace hF := zbnd hF
        obtain ⟨x24, e25, hF⟩ := hF
        refine zy_aI rfl rfl e25 ?_
        refine zx_iconst (v := 2) rfl rfl rfl ?_
        refine zx_ic_ne rfl rfl (fun c26 => ?_) (fun c26 => ?_)
        · rw [if_neg c26] at hF
          exact tb237_245 (l0 := l0) (l1 := l1) (l2 := l2) (l3 := l3) (l4 := l4) (l5 := x19) hd hr2 hr17 hx6 hF q
        · rw [if_pos c26] at hF
          refine zx_iconst (v := (-1)) rfl rfl rfl ?_
          refine zx_istore rfl rfl rfl ?_
          refine zx_iconst (v := 0) rfl rfl rfl ?_
          refine zx_istore rfl rfl rfl ?_
          exact tf237_176 hd hr2 hr17 n (l0 := l0) (l1 := l1) (l2 := l2) (l3 := l3) (l4 := l4) (l5 := (-1)) (l6 := 0)  hF q
      · rw [if_pos c15] at hF
        exact tb237_140 (l0 := l0) (l1 := l1) (l2 := l2) (l3 := l3) (l4 := l4) (l5 := l5) hd  hx6 hF q
  · rw [if_neg c8] at hF
    refine zx_aload_n rfl rfl rfl ?_
    refine zx_aload_n rfl rfl rfl ?_
    replace hF := zbnd hF
    obtain ⟨x27, e28, hF⟩ := hF
    refine zy_getR rfl rfl e28 ?_
    refine zx_bipush (v := 24) rfl rfl rfl ?_
    refine zx_aload_n rfl rfl rfl ?_
    replace hF := zbnd hF
    obtain ⟨x29, e30, hF⟩ := hF
    refine zy_getI rfl rfl e30 ?_
    refine zx_imul rfl rfl ?_
    refine zx_iload rfl rfl rfl ?_
    refine zx_iadd rfl rfl ?_
    replace hF := zbnd hF
    obtain ⟨a31, rfl, hF⟩ := hF
    replace hF := zbnd hF
    obtain ⟨x32, e33, hF⟩ := hF
    refine zy_aI rfl rfl e33 ?_
    refine zx_aload_n rfl rfl rfl ?_
    replace hF := zbnd hF
    obtain ⟨x34, e35, hF⟩ := hF
    refine zy_getR rfl rfl e35 ?_
    refine zx_iload_n rfl rfl rfl ?_
    replace hF := zbnd hF
    obtain ⟨a36, rfl, hF⟩ := hF
    replace hF := zbnd hF
    obtain ⟨x37, e38, hF⟩ := hF
    refine zy_aI rfl rfl e38 ?_
    replace hF := zgd_some hF
    obtain ⟨g39, hF⟩ := hF
    replace hF := zbnd hF
    obtain ⟨p41, e40, hF⟩ := hF
    refine zx_callE rfl rfl rfl rfl (zrcv_isO g39) rfl rfl (zc4 (Nat.le_of_ble_eq_true rfl)) (t238 (by omega) e40 (zaI ?_))
    refine zx_if_eq rfl rfl (fun c42 => ?_) (fun c42 => ?_)
    · rw [if_pos c42] at hF
      refine zx_iload rfl rfl rfl ?_
      exact tb237_112 (l0 := l0) (l1 := l1) (l2 := l2) (l3 := l3) (l4 := l4) (l5 := l5) (s0 := l4) hd hr2 hr17 hr63 hx6 hF q
    · rw [if_neg c42] at hF
      refine zx_iload rfl rfl rfl ?_
      refine zx_goto rfl rfl ?_
      exact tb237_112 (l0 := l0) (l1 := l1) (l2 := l2) (l3 := l3) (l4 := l4) (l5 := l5) (s0 := l5) hd hr2 hr17 hr63 hx6 hF q
def f237_63 (n : Nat)  (r2 : Nat → Int32 → zH → Option (Unit × zH)) (r17 : Nat → Int32 → Int32 → zH → Option (Unit × zH)) (k : Nat) : Nat → Int32 → Int32 → Int32 → Int32 → Int32 → zH → Option (Unit × zH) := Nat.rec (fun _ _ _ _ _ _ _ => none) (fun _ ih => b237_63 n  r2 r17 ih) k
theorem tf237_63 {d n : Nat} {Q : zRs → zH → Prop}  {r2 : Nat → Int32 → zH → Option (Unit × zH)} {r17 : Nat → Int32 → Int32 → zH → Option (Unit × zH)} (hd : 1 ≤ d)  (hr2 : ∀ {l0 : Nat} {l1 : Int32}  {x2 : Option Value} {x3 : Option Value} {x4 : Option Value} {x5 : Option Value} {x6 : Option Value} {h : zH} {p : (Unit × zH)}, zn2 x2 = true → zn2 x3 = true → zn2 x4 = true → zn2 x5 = true → zn2 x6 = true → r2 l0 l1 h = some p → Q (eV p.1) p.2 → zW d 237 2 [some (.ref l0), some (.int l1), x2, x3, x4, x5, x6] [] h Q) (hr17 : ∀ {l0 : Nat} {l1 : Int32} {l2 : Int32}  {x3 : Option Value} {x4 : Option Value} {x5 : Option Value} {x6 : Option Value} {h : zH} {p : (Unit × zH)}, zn2 x3 = true → zn2 x4 = true → zn2 x5 = true → zn2 x6 = true → r17 l0 l1 l2 h = some p → Q (eV p.1) p.2 → zW d 237 17 [some (.ref l0), some (.int l1), some (.int l2), x3, x4, x5, x6] [] h Q) (k : Nat) : ∀ {l0 : Nat} {l1 : Int32} {l2 : Int32} {l3 : Int32} {l4 : Int32} {l5 : Int32}  {x6 : Option Value} {h : zH} {p : (Unit × zH)}, zn2 x6 = true → f237_63 n  r2 r17 k l0 l1 l2 l3 l4 l5 h = some p → Q (eV p.1) p.2 → zW d 237 63 [some (.ref l0), some (.int l1), some (.int l2), some (.int l3), some (.int l4), some (.int l5), x6] [] h Q := by
  induction k with
  | zero => intros; rename_i hF _; cases hF
  | succ k ih => intros; rename_i hx6 hF q; exact tb237_63 (n := n) hd  hr2 hr17 ih hx6 hF q
def b237_17 (n : Nat)  (r2 : Nat → Int32 → zH → Option (Unit × zH)) (r17 : Nat → Int32 → Int32 → zH → Option (Unit × zH)) (l0 : Nat) (l1 : Int32) (l2 : Int32) (h : zH) : Option (Unit × zH) :=
  (gR h l0 11 20).bind fun x1 =>
  (gI h l0 11 4).bind fun x3 =>
  x1.bind fun a5 =>
  (aI h a5 ((24 * x3) + l1)).bind fun x6 =>
  if x6 ≤ l2 then
    b237_311 n r2 l0 l1 l2 h
  else
    (gI h l0 11 73).bind fun x9 =>
    if x9 = (-1) then
      (gI h l0 11 4).bind fun x12 =>
      f237_63 n r2 r17 n l0 l1 l2 ((4 * ((24 * x12) + l1)) + l2) (-1) 0 h
    else
      b237_311 n r2 l0 l1 l2 h
set_option maxRecDepth 20000 in
theorem tb237_17 {d n : Nat} {Q : zRs → zH → Prop}  {r2 : Nat → Int32 → zH → Option (Unit × zH)} {r17 : Nat → Int32 → Int32 → zH → Option (Unit × zH)} {l0 : Nat} {l1 : Int32} {l2 : Int32}  {x3 : Option Value} {x4 : Option Value} {x5 : Option Value} {x6 : Option Value} (hd : 1 ≤ d)  (hr2 : ∀ {l0 : Nat} {l1 : Int32}  {x2 : Option Value} {x3 : Option Value} {x4 : Option Value} {x5 : Option Value} {x6 : Option Value} {h : zH} {p : (Unit × zH)}, zn2 x2 = true → zn2 x3 = true → zn2 x4 = true → zn2 x5 = true → zn2 x6 = true → r2 l0 l1 h = some p → Q (eV p.1) p.2 → zW d 237 2 [some (.ref l0), some (.int l1), x2, x3, x4, x5, x6] [] h Q) (hr17 : ∀ {l0 : Nat} {l1 : Int32} {l2 : Int32}  {x3 : Option Value} {x4 : Option Value} {x5 : Option Value} {x6 : Option Value} {h : zH} {p : (Unit × zH)}, zn2 x3 = true → zn2 x4 = true → zn2 x5 = true → zn2 x6 = true → r17 l0 l1 l2 h = some p → Q (eV p.1) p.2 → zW d 237 17 [some (.ref l0), some (.int l1), some (.int l2), x3, x4, x5, x6] [] h Q) {h : zH} {p : (Unit × zH)} (hx3 : zn2 x3 = true) (hx4 : zn2 x4 = true) (hx5 : zn2 x5 = true) (hx6 : zn2 x6 = true) (hF : b237_17 n  r2 r17 l0 l1 l2 h = some p) (q : Q (eV p.1) p.2) : zW d 237 17 [some (.ref l0), some (.int l1), some (.int l2), x3, x4, x5, x6] [] h Q := by
  unfold b237_17 at hF
  obtain ⟨d, rfl⟩ : ∃ e, d = e + 1 := ⟨d - 1, by omega⟩
  refine zx_iload_n rfl rfl rfl ?_
  refine zx_aload_n rfl rfl rfl ?_
  replace hF := zbnd hF
  obtain ⟨x1, e2, hF⟩ := hF
  refine zy_getR rfl rfl e2 ?_
  refine zx_bipush (v := 24) rfl rfl rfl ?_
  refine zx_aload_n rfl rfl rfl ?_
  replace hF := zbnd hF
  obtain ⟨x3, e4, hF⟩ := hF
  refine zy_getI rfl rfl e4 ?_
  refine zx_imul rfl rfl ?_
  refine zx_iload_n rfl rfl rfl ?_
  refine zx_iadd rfl rfl ?_
  replace hF := zbnd hF
  obtain ⟨a5, rfl, hF⟩ := hF
  replace hF := zbnd hF
  obtain ⟨x6, e7, hF⟩ := hF
  refine zy_aI rfl rfl e7 ?_
  refine zx_ic_ge rfl rfl (fun c8 => ?_) (fun c8 => ?_)
  · rw [if_pos c8] at hF
    exact tb237_311 (l0 := l0) (l1 := l1) (l2 := l2) hd hr2 hx3 hx4 hx5 hx6 hF q
  · rw [if_neg c8] at hF
    refine zx_aload_n rfl rfl rfl ?_
    replace hF := zbnd hF
    obtain ⟨x9, e10, hF⟩ := hF
    refine zy_getI rfl rfl e10 ?_
    refine zx_iconst (v := (-1)) rfl rfl rfl ?_
    refine zx_ic_ne rfl rfl (fun c11 => ?_) (fun c11 => ?_)
    · rw [if_neg c11] at hF
      exact tb237_311 (l0 := l0) (l1 := l1) (l2 := l2) hd hr2 hx3 hx4 hx5 hx6 hF q
    · rw [if_pos c11] at hF
      refine zx_iconst (v := 4) rfl rfl rfl ?_
      refine zx_bipush (v := 24) rfl rfl rfl ?_
      refine zx_aload_n rfl rfl rfl ?_
      replace hF := zbnd hF
      obtain ⟨x12, e13, hF⟩ := hF
      refine zy_getI rfl rfl e13 ?_
      refine zx_imul rfl rfl ?_
      refine zx_iload_n rfl rfl rfl ?_
      refine zx_iadd rfl rfl ?_
      refine zx_imul rfl rfl ?_
      refine zx_iload_n rfl rfl rfl ?_
      refine zx_iadd rfl rfl ?_
      refine zx_istore_n rfl rfl rfl ?_
      refine zx_iconst (v := (-1)) rfl rfl rfl ?_
      refine zx_istore rfl rfl rfl ?_
      refine zx_iconst (v := 0) rfl rfl rfl ?_
      refine zx_istore rfl rfl rfl ?_
      exact tf237_63 hd hr2 hr17 n (l0 := l0) (l1 := l1) (l2 := l2) (l3 := ((4 * ((24 * x12) + l1)) + l2)) (l4 := (-1)) (l5 := 0) hx6 hF q
def f237_17 (n : Nat)  (r2 : Nat → Int32 → zH → Option (Unit × zH)) (k : Nat) : Nat → Int32 → Int32 → zH → Option (Unit × zH) := Nat.rec (fun _ _ _ _ => none) (fun _ ih => b237_17 n  r2 ih) k
theorem tf237_17 {d n : Nat} {Q : zRs → zH → Prop}  {r2 : Nat → Int32 → zH → Option (Unit × zH)} (hd : 1 ≤ d)  (hr2 : ∀ {l0 : Nat} {l1 : Int32}  {x2 : Option Value} {x3 : Option Value} {x4 : Option Value} {x5 : Option Value} {x6 : Option Value} {h : zH} {p : (Unit × zH)}, zn2 x2 = true → zn2 x3 = true → zn2 x4 = true → zn2 x5 = true → zn2 x6 = true → r2 l0 l1 h = some p → Q (eV p.1) p.2 → zW d 237 2 [some (.ref l0), some (.int l1), x2, x3, x4, x5, x6] [] h Q) (k : Nat) : ∀ {l0 : Nat} {l1 : Int32} {l2 : Int32}  {x3 : Option Value} {x4 : Option Value} {x5 : Option Value} {x6 : Option Value} {h : zH} {p : (Unit × zH)}, zn2 x3 = true → zn2 x4 = true → zn2 x5 = true → zn2 x6 = true → f237_17 n  r2 k l0 l1 l2 h = some p → Q (eV p.1) p.2 → zW d 237 17 [some (.ref l0), some (.int l1), some (.int l2), x3, x4, x5, x6] [] h Q := by
  induction k with
  | zero => intros; rename_i hF _; cases hF
  | succ k ih => intros; rename_i hx3 hx4 hx5 hx6 hF q; exact tb237_17 (n := n) hd  hr2 ih hx3 hx4 hx5 hx6 hF q
def b237_2 (n : Nat)  (r2 : Nat → Int32 → zH → Option (Unit × zH)) (l0 : Nat) (l1 : Int32) (h : zH) : Option (Unit × zH) :=
  (gR h l0 11 13).bind fun x1 =>
  (gI h l0 11 4).bind fun x3 =>
  x1.bind fun a5 =>
  (aI h a5 x3).bind fun x6 =>
  if x6 ≤ l1 then
    some ((), h)
  else
    f237_17 n r2 n l0 l1 0 h
set_option maxRecDepth 20000 in
theorem tb237_2 {d n : Nat} {Q : zRs → zH → Prop}  {r2 : Nat → Int32 → zH → Option (Unit × zH)} {l0 : Nat} {l1 : Int32}  {x2 : Option Value} {x3 : Option Value} {x4 : Option Value} {x5 : Option Value} {x6 : Option Value} (hd : 1 ≤ d)  (hr2 : ∀ {l0 : Nat} {l1 : Int32}  {x2 : Option Value} {x3 : Option Value} {x4 : Option Value} {x5 : Option Value} {x6 : Option Value} {h : zH} {p : (Unit × zH)}, zn2 x2 = true → zn2 x3 = true → zn2 x4 = true → zn2 x5 = true → zn2 x6 = true → r2 l0 l1 h = some p → Q (eV p.1) p.2 → zW d 237 2 [some (.ref l0), some (.int l1), x2, x3, x4, x5, x6] [] h Q) {h : zH} {p : (Unit × zH)} (hx2 : zn2 x2 = true) (hx3 : zn2 x3 = true) (hx4 : zn2 x4 = true) (hx5 : zn2 x5 = true) (hx6 : zn2 x6 = true) (hF : b237_2 n  r2 l0 l1 h = some p) (q : Q (eV p.1) p.2) : zW d 237 2 [some (.ref l0), some (.int l1), x2, x3, x4, x5, x6] [] h Q := by
  unfold b237_2 at hF
  obtain ⟨d, rfl⟩ : ∃ e, d = e + 1 := ⟨d - 1, by omega⟩
  refine zx_iload_n rfl rfl rfl ?_
  refine zx_aload_n rfl rfl rfl ?_
  replace hF := zbnd hF
  obtain ⟨x1, e2, hF⟩ := hF
  refine zy_getR rfl rfl e2 ?_
  refine zx_aload_n rfl rfl rfl ?_
  replace hF := zbnd hF
  obtain ⟨x3, e4, hF⟩ := hF
  refine zy_getI rfl rfl e4 ?_
  replace hF := zbnd hF
  obtain ⟨a5, rfl, hF⟩ := hF
  replace hF := zbnd hF
  obtain ⟨x6, e7, hF⟩ := hF
  refine zy_aI rfl rfl e7 ?_
  refine zx_ic_ge rfl rfl (fun c8 => ?_) (fun c8 => ?_)
  · rw [if_pos c8] at hF
    replace hF := Option.some.inj hF
    subst hF
    exact zx_return rfl rfl rfl q
  · rw [if_neg c8] at hF
    refine zx_iconst (v := 0) rfl rfl rfl ?_
    refine zx_istore_n rfl rfl rfl ?_
    exact tf237_17 hd hr2 n (l0 := l0) (l1 := l1) (l2 := 0) hx3 hx4 hx5 hx6 hF q
def f237_2 (n : Nat)   (k : Nat) : Nat → Int32 → zH → Option (Unit × zH) := Nat.rec (fun _ _ _ => none) (fun _ ih => b237_2 n  ih) k
theorem tf237_2 {d n : Nat} {Q : zRs → zH → Prop}   (hd : 1 ≤ d)   (k : Nat) : ∀ {l0 : Nat} {l1 : Int32}  {x2 : Option Value} {x3 : Option Value} {x4 : Option Value} {x5 : Option Value} {x6 : Option Value} {h : zH} {p : (Unit × zH)}, zn2 x2 = true → zn2 x3 = true → zn2 x4 = true → zn2 x5 = true → zn2 x6 = true → f237_2 n   k l0 l1 h = some p → Q (eV p.1) p.2 → zW d 237 2 [some (.ref l0), some (.int l1), x2, x3, x4, x5, x6] [] h Q := by
  induction k with
  | zero => intros; rename_i hF _; cases hF
  | succ k ih => intros; rename_i hx2 hx3 hx4 hx5 hx6 hF q; exact tb237_2 (n := n) hd  ih hx2 hx3 hx4 hx5 hx6 hF q
def f237 (n : Nat)  (y0 : Nat) (h : zH) : Option (Unit × zH) :=
  f237_2 n  n y0 0 h
set_option maxRecDepth 20000 in
theorem t237 {d n : Nat} {Q : zRs → zH → Prop}  {y0 : Nat} (hd : 1 ≤ d)  {h : zH} {p : (Unit × zH)} (hF : f237 n  y0 h = some p) (q : Q (eV p.1) p.2) : zC d 237 [.ref y0] h Q := by
  refine zC_of (L := [some (.ref y0), none, none, none, none, none, none]) rfl rfl ?_
  unfold f237 at hF
  obtain ⟨d, rfl⟩ : ∃ e, d = e + 1 := ⟨d - 1, by omega⟩
  refine zx_iconst (v := 0) rfl rfl rfl ?_
  refine zx_istore_n rfl rfl rfl ?_
  exact tf237_2 hd  n (l0 := y0) (l1 := 0) rfl rfl rfl rfl rfl hF q
def b240_155 (n : Nat)  (r80 : Nat → Int32 → Int32 → zH → Option (Unit × zH)) (r88 : Nat → Int32 → Int32 → Int32 → zH → Option (Unit × zH)) (r101 : Nat → Int32 → Int32 → Int32 → Int32 → zH → Option (Unit × zH)) (l0 : Nat) (l1 : Int32) (l2 : Int32) (l3 : Int32) (l4 : Int32) (s0 : Int32) (s1 : Int32) (s2 : Option Nat) (h : zH) : Option (Unit × zH) :=
  s2.bind fun a1 =>
  (aS zsI h a1 s1 (.int s0)).bind fun h2 =>
  r101 l0 l1 l2 l3 (l4 + 1) h2
set_option maxRecDepth 20000 in
theorem tb240_155 {d n : Nat} {Q : zRs → zH → Prop}  {r80 : Nat → Int32 → Int32 → zH → Option (Unit × zH)} {r88 : Nat → Int32 → Int32 → Int32 → zH → Option (Unit × zH)} {r101 : Nat → Int32 → Int32 → Int32 → Int32 → zH → Option (Unit × zH)} {l0 : Nat} {l1 : Int32} {l2 : Int32} {l3 : Int32} {l4 : Int32} {s0 : Int32} {s1 : Int32} {s2 : Option Nat}  (hd : 0 ≤ d)  (hr80 : ∀ {l0 : Nat} {l1 : Int32} {l2 : Int32}  {x3 : Option Value} {x4 : Option Value} {h : zH} {p : (Unit × zH)}, zn2 x3 = true → zn2 x4 = true → r80 l0 l1 l2 h = some p → Q (eV p.1) p.2 → zW d 240 80 [some (.ref l0), some (.int l1), some (.int l2), x3, x4] [] h Q) (hr88 : ∀ {l0 : Nat} {l1 : Int32} {l2 : Int32} {l3 : Int32}  {x4 : Option Value} {h : zH} {p : (Unit × zH)}, zn2 x4 = true → r88 l0 l1 l2 l3 h = some p → Q (eV p.1) p.2 → zW d 240 88 [some (.ref l0), some (.int l1), some (.int l2), some (.int l3), x4] [] h Q) (hr101 : ∀ {l0 : Nat} {l1 : Int32} {l2 : Int32} {l3 : Int32} {l4 : Int32}   {h : zH} {p : (Unit × zH)}, r101 l0 l1 l2 l3 l4 h = some p → Q (eV p.1) p.2 → zW d 240 101 [some (.ref l0), some (.int l1), some (.int l2), some (.int l3), some (.int l4)] [] h Q) {h : zH} {p : (Unit × zH)}  (hF : b240_155 n  r80 r88 r101 l0 l1 l2 l3 l4 s0 s1 s2 h = some p) (q : Q (eV p.1) p.2) : zW d 240 155 [some (.ref l0), some (.int l1), some (.int l2), some (.int l3), some (.int l4)] [.int s0, .int s1, va_rf s2] h Q := by
  unfold b240_155 at hF
  replace hF := zbnd hF
  obtain ⟨a1, rfl, hF⟩ := hF
  replace hF := zbnd hF
  obtain ⟨h2, e3, hF⟩ := hF
  refine zy_sI rfl rfl e3 ?_
  refine zx_iinc (w := 1) rfl rfl rfl rfl rfl ?_
  refine zx_goto rfl rfl ?_
  exact hr101  hF q
def b240_101 (n : Nat)  (r80 : Nat → Int32 → Int32 → zH → Option (Unit × zH)) (r88 : Nat → Int32 → Int32 → Int32 → zH → Option (Unit × zH)) (r101 : Nat → Int32 → Int32 → Int32 → Int32 → zH → Option (Unit × zH)) (l0 : Nat) (l1 : Int32) (l2 : Int32) (l3 : Int32) (l4 : Int32) (h : zH) : Option (Unit × zH) :=
  (gR h l0 11 13).bind fun x1 =>
  x1.bind fun a3 =>
  (aI h a3 l1).bind fun x4 =>
  if x4 ≤ l4 then
    r88 l0 l1 l2 (l3 + 1) h
  else
    (gR h l0 11 74).bind fun x7 =>
    (gR h l0 11 74).bind fun x9 =>
    x9.bind fun a11 =>
    (aI h a11 l3).bind fun x12 =>
    if ((x12 >>> (l4 &&& 31)) &&& 1) = 1 then
      (gR h l0 11 74).bind fun x15 =>
      x15.bind fun a17 =>
      (aI h a17 l3).bind fun x18 =>
      (gR h l0 11 74).bind fun x20 =>
      x20.bind fun a22 =>
      (aI h a22 l4).bind fun x23 =>
      b240_155 n r80 r88 r101 l0 l1 l2 l3 l4 (x18 ||| x23) l3 x7 h
    else
      (gR h l0 11 74).bind fun x25 =>
      x25.bind fun a27 =>
      (aI h a27 l3).bind fun x28 =>
      b240_155 n r80 r88 r101 l0 l1 l2 l3 l4 x28 l3 x7 h
set_option maxRecDepth 20000 in
theorem tb240_101 {d n : Nat} {Q : zRs → zH → Prop}  {r80 : Nat → Int32 → Int32 → zH → Option (Unit × zH)} {r88 : Nat → Int32 → Int32 → Int32 → zH → Option (Unit × zH)} {r101 : Nat → Int32 → Int32 → Int32 → Int32 → zH → Option (Unit × zH)} {l0 : Nat} {l1 : Int32} {l2 : Int32} {l3 : Int32} {l4 : Int32}   (hd : 0 ≤ d)  (hr80 : ∀ {l0 : Nat} {l1 : Int32} {l2 : Int32}  {x3 : Option Value} {x4 : Option Value} {h : zH} {p : (Unit × zH)}, zn2 x3 = true → zn2 x4 = true → r80 l0 l1 l2 h = some p → Q (eV p.1) p.2 → zW d 240 80 [some (.ref l0), some (.int l1), some (.int l2), x3, x4] [] h Q) (hr88 : ∀ {l0 : Nat} {l1 : Int32} {l2 : Int32} {l3 : Int32}  {x4 : Option Value} {h : zH} {p : (Unit × zH)}, zn2 x4 = true → r88 l0 l1 l2 l3 h = some p → Q (eV p.1) p.2 → zW d 240 88 [some (.ref l0), some (.int l1), some (.int l2), some (.int l3), x4] [] h Q) (hr101 : ∀ {l0 : Nat} {l1 : Int32} {l2 : Int32} {l3 : Int32} {l4 : Int32}   {h : zH} {p : (Unit × zH)}, r101 l0 l1 l2 l3 l4 h = some p → Q (eV p.1) p.2 → zW d 240 101 [some (.ref l0), some (.int l1), some (.int l2), some (.int l3), some (.int l4)] [] h Q) {h : zH} {p : (Unit × zH)}  (hF : b240_101 n  r80 r88 r101 l0 l1 l2 l3 l4 h = some p) (q : Q (eV p.1) p.2) : zW d 240 101 [some (.ref l0), some (.int l1), some (.int l2), some (.int l3), some (.int l4)] [] h Q := by
  unfold b240_101 at hF
  refine zx_iload rfl rfl rfl ?_
  refine zx_aload_n rfl rfl rfl ?_
  replace hF := zbnd hF
  obtain ⟨x1, e2, hF⟩ := hF
  refine zy_getR rfl rfl e2 ?_
  refine zx_iload_n rfl rfl rfl ?_
  replace hF := zbnd hF
  obtain ⟨a3, rfl, hF⟩ := hF
  replace hF := zbnd hF
  obtain ⟨x4, e5, hF⟩ := hF
  refine zy_aI rfl rfl e5 ?_
  refine zx_ic_ge rfl rfl (fun c6 => ?_) (fun c6 => ?_)
  · rw [if_pos c6] at hF
    refine zx_iinc (w := 1) rfl rfl rfl rfl rfl ?_
    refine zx_goto rfl rfl ?_
    exact hr88 rfl hF q
  · rw [if_neg c6] at hF
    refine zx_aload_n rfl rfl rfl ?_
    replace hF := zbnd hF
    obtain ⟨x7, e8, hF⟩ := hF
    refine zy_getR rfl rfl e8 ?_
    refine zx_iload_n rfl rfl rfl ?_
    refine zx_aload_n rfl rfl rfl ?_
    replace hF := zbnd hF
    obtain ⟨x9, e10, hF⟩ := hF
    refine zy_getR rfl rfl e10 ?_
    refine zx_iload_n rfl rfl rfl ?_
    replace hF := zbnd hF
    obtain ⟨a11, rfl, hF⟩ := hF
    replace hF := zbnd hF
    obtain ⟨x12, e13, hF⟩ := hF
    refine zy_aI rfl rfl e13 ?_
    refine zx_iload rfl rfl rfl ?_
    refine zx_ishr rfl rfl ?_
    refine zx_iconst (v := 1) rfl rfl rfl ?_
    refine zx_iand rfl rfl ?_
    refine zx_iconst (v := 1) rfl rfl rfl ?_
    refine zx_ic_ne rfl rfl (fun c14 => ?_) (fun c14 => ?_)
    · rw [if_neg c14] at hF
      refine zx_aload_n rfl rfl rfl ?_
      replace hF := zbnd hF
      obtain ⟨x25, e26, hF⟩ := hF
      refine zy_getR rfl rfl e26 ?_
      refine zx_iload_n rfl rfl rfl ?_
      replace hF := zbnd hF
      obtain ⟨a27, rfl, hF⟩ := hF
      replace hF := zbnd hF
      obtain ⟨x28, e29, hF⟩ := hF
      refine zy_aI rfl rfl e29 ?_
      exact tb240_155 (l0 := l0) (l1 := l1) (l2 := l2) (l3 := l3) (l4 := l4) (s0 := x28) (s1 := l3) (s2 := x7) hd hr80 hr88 hr101  hF q
    · rw [if_pos c14] at hF
      refine zx_aload_n rfl rfl rfl ?_
      replace hF := zbnd hF
      obtain ⟨x15, e16, hF⟩ := hF
      refine zy_getR rfl rfl e16 ?_
      refine zx_iload_n rfl rfl rfl ?_
      replace hF := zbnd hF
      obtain ⟨a17, rfl, hF⟩ := hF
      replace hF := zbnd hF
      obtain ⟨x18, e19, hF⟩ := hF
      refine zy_aI rfl rfl e19 ?_
      refine zx_aload_n rfl rfl rfl ?_
      replace hF := zbnd hF
      obtain ⟨x20, e21, hF⟩ := hF
      refine zy_getR rfl rfl e21 ?_
      refine zx_iload rfl rfl rfl ?_
      replace hF := zbnd hF
      obtain ⟨a22, rfl, hF⟩ := hF
      replace hF := zbnd hF
      obtain ⟨x23, e24, hF⟩ := hF
      refine zy_aI rfl rfl e24 ?_
      refine zx_ior rfl rfl ?_
      refine zx_goto rfl rfl ?_
      exact tb240_155 (l0 := l0) (l1 := l1) (l2 := l2) (l3 := l3) (l4 := l4) (s0 := (x18 ||| x23)) (s1 := l3) (s2 := x7) hd hr80 hr88 hr101  hF q
def f240_101 (n : Nat)  (r80 : Nat → Int32 → Int32 → zH → Option (Unit × zH)) (r88 : Nat → Int32 → Int32 → Int32 → zH → Option (Unit × zH)) (k : Nat) : Nat → Int32 → Int32 → Int32 → Int32 → zH → Option (Unit × zH) := Nat.rec (fun _ _ _ _ _ _ => none) (fun _ ih => b240_101 n  r80 r88 ih) k
theorem tf240_101 {d n : Nat} {Q : zRs → zH → Prop}  {r80 : Nat → Int32 → Int32 → zH → Option (Unit × zH)} {r88 : Nat → Int32 → Int32 → Int32 → zH → Option (Unit × zH)} (hd : 0 ≤ d)  (hr80 : ∀ {l0 : Nat} {l1 : Int32} {l2 : Int32}  {x3 : Option Value} {x4 : Option Value} {h : zH} {p : (Unit × zH)}, zn2 x3 = true → zn2 x4 = true → r80 l0 l1 l2 h = some p → Q (eV p.1) p.2 → zW d 240 80 [some (.ref l0), some (.int l1), some (.int l2), x3, x4] [] h Q) (hr88 : ∀ {l0 : Nat} {l1 : Int32} {l2 : Int32} {l3 : Int32}  {x4 : Option Value} {h : zH} {p : (Unit × zH)}, zn2 x4 = true → r88 l0 l1 l2 l3 h = some p → Q (eV p.1) p.2 → zW d 240 88 [some (.ref l0), some (.int l1), some (.int l2), some (.int l3), x4] [] h Q) (k : Nat) : ∀ {l0 : Nat} {l1 : Int32} {l2 : Int32} {l3 : Int32} {l4 : Int32}   {h : zH} {p : (Unit × zH)}, f240_101 n  r80 r88 k l0 l1 l2 l3 l4 h = some p → Q (eV p.1) p.2 → zW d 240 101 [some (.ref l0), some (.int l1), some (.int l2), some (.int l3), some (.int l4)] [] h Q := by
  induction k with
  | zero => intros; rename_i hF _; cases hF
  | succ k ih => intros; rename_i  hF q; exact tb240_101 (n := n) hd  hr80 hr88 ih  hF q
def b240_88 (n : Nat)  (r80 : Nat → Int32 → Int32 → zH → Option (Unit × zH)) (r88 : Nat → Int32 → Int32 → Int32 → zH → Option (Unit × zH)) (l0 : Nat) (l1 : Int32) (l2 : Int32) (l3 : Int32) (h : zH) : Option (Unit × zH) :=
  (gR h l0 11 13).bind fun x1 =>
  x1.bind fun a3 =>
  (aI h a3 l1).bind fun x4 =>
  if x4 ≤ l3 then
    r80 l0 l1 (l2 + 1) h
  else
    f240_101 n r80 r88 n l0 l1 l2 l3 0 h
set_option maxRecDepth 20000 in
theorem tb240_88 {d n : Nat} {Q : zRs → zH → Prop}  {r80 : Nat → Int32 → Int32 → zH → Option (Unit × zH)} {r88 : Nat → Int32 → Int32 → Int32 → zH → Option (Unit × zH)} {l0 : Nat} {l1 : Int32} {l2 : Int32} {l3 : Int32}  {x4 : Option Value} (hd : 0 ≤ d)  (hr80 : ∀ {l0 : Nat} {l1 : Int32} {l2 : Int32}  {x3 : Option Value} {x4 : Option Value} {h : zH} {p : (Unit × zH)}, zn2 x3 = true → zn2 x4 = true → r80 l0 l1 l2 h = some p → Q (eV p.1) p.2 → zW d 240 80 [some (.ref l0), some (.int l1), some (.int l2), x3, x4] [] h Q) (hr88 : ∀ {l0 : Nat} {l1 : Int32} {l2 : Int32} {l3 : Int32}  {x4 : Option Value} {h : zH} {p : (Unit × zH)}, zn2 x4 = true → r88 l0 l1 l2 l3 h = some p → Q (eV p.1) p.2 → zW d 240 88 [some (.ref l0), some (.int l1), some (.int l2), some (.int l3), x4] [] h Q) {h : zH} {p : (Unit × zH)} (hx4 : zn2 x4 = true) (hF : b240_88 n  r80 r88 l0 l1 l2 l3 h = some p) (q : Q (eV p.1) p.2) : zW d 240 88 [some (.ref l0), some (.int l1), some (.int l2), some (.int l3), x4] [] h Q := by
  unfold b240_88 at hF
  refine zx_iload_n rfl rfl rfl ?_
  refine zx_aload_n rfl rfl rfl ?_
  replace hF := zbnd hF
  obtain ⟨x1, e2, hF⟩ := hF
  refine zy_getR rfl rfl e2 ?_
  refine zx_iload_n rfl rfl rfl ?_
  replace hF := zbnd hF
  obtain ⟨a3, rfl, hF⟩ := hF
  replace hF := zbnd hF
  obtain ⟨x4, e5, hF⟩ := hF
  refine zy_aI rfl rfl e5 ?_
  refine zx_ic_ge rfl rfl (fun c6 => ?_) (fun c6 => ?_)
  · rw [if_pos c6] at hF
    refine zx_iinc (w := 1) rfl rfl rfl rfl rfl ?_
    refine zx_goto rfl rfl ?_
    exact hr80 rfl hx4 hF q
  · rw [if_neg c6] at hF
    refine zx_iconst (v := 0) rfl rfl rfl ?_
    refine zx_istore rfl rfl rfl ?_
    exact tf240_101 hd hr80 hr88 n (l0 := l0) (l1 := l1) (l2 := l2) (l3 := l3) (l4 := 0)  hF q
def f240_88 (n : Nat)  (r80 : Nat → Int32 → Int32 → zH → Option (Unit × zH)) (k : Nat) : Nat → Int32 → Int32 → Int32 → zH → Option (Unit × zH) := Nat.rec (fun _ _ _ _ _ => none) (fun _ ih => b240_88 n  r80 ih) k
theorem tf240_88 {d n : Nat} {Q : zRs → zH → Prop}  {r80 : Nat → Int32 → Int32 → zH → Option (Unit × zH)} (hd : 0 ≤ d)  (hr80 : ∀ {l0 : Nat} {l1 : Int32} {l2 : Int32}  {x3 : Option Value} {x4 : Option Value} {h : zH} {p : (Unit × zH)}, zn2 x3 = true → zn2 x4 = true → r80 l0 l1 l2 h = some p → Q (eV p.1) p.2 → zW d 240 80 [some (.ref l0), some (.int l1), some (.int l2), x3, x4] [] h Q) (k : Nat) : ∀ {l0 : Nat} {l1 : Int32} {l2 : Int32} {l3 : Int32}  {x4 : Option Value} {h : zH} {p : (Unit × zH)}, zn2 x4 = true → f240_88 n  r80 k l0 l1 l2 l3 h = some p → Q (eV p.1) p.2 → zW d 240 88 [some (.ref l0), some (.int l1), some (.int l2), some (.int l3), x4] [] h Q := by
  induction k with
  | zero => intros; rename_i hF _; cases hF
  | succ k ih => intros; rename_i hx4 hF q; exact tb240_88 (n := n) hd  hr80 ih hx4 hF q
def b240_80 (n : Nat)  (r80 : Nat → Int32 → Int32 → zH → Option (Unit × zH)) (l0 : Nat) (l1 : Int32) (l2 : Int32) (h : zH) : Option (Unit × zH) :=
  if (24 : Int32) ≤ l2 then
    some ((), h)
  else
    f240_88 n r80 n l0 l1 l2 0 h
set_option maxRecDepth 20000 in
theorem tb240_80 {d n : Nat} {Q : zRs → zH → Prop}  {r80 : Nat → Int32 → Int32 → zH → Option (Unit × zH)} {l0 : Nat} {l1 : Int32} {l2 : Int32}  {x3 : Option Value} {x4 : Option Value} (hd : 0 ≤ d)  (hr80 : ∀ {l0 : Nat} {l1 : Int32} {l2 : Int32}  {x3 : Option Value} {x4 : Option Value} {h : zH} {p : (Unit × zH)}, zn2 x3 = true → zn2 x4 = true → r80 l0 l1 l2 h = some p → Q (eV p.1) p.2 → zW d 240 80 [some (.ref l0), some (.int l1), some (.int l2), x3, x4] [] h Q) {h : zH} {p : (Unit × zH)} (hx3 : zn2 x3 = true) (hx4 : zn2 x4 = true) (hF : b240_80 n  r80 l0 l1 l2 h = some p) (q : Q (eV p.1) p.2) : zW d 240 80 [some (.ref l0), some (.int l1), some (.int l2), x3, x4] [] h Q := by
  unfold b240_80 at hF
  refine zx_iload_n rfl rfl rfl ?_
  refine zx_bipush (v := 24) rfl rfl rfl ?_
  refine zx_ic_ge rfl rfl (fun c1 => ?_) (fun c1 => ?_)
  · rw [if_pos c1] at hF
    replace hF := Option.some.inj hF
    subst hF
    exact zx_return rfl rfl rfl q
  · rw [if_neg c1] at hF
    refine zx_iconst (v := 0) rfl rfl rfl ?_
    refine zx_istore_n rfl rfl rfl ?_
    exact tf240_88 hd hr80 n (l0 := l0) (l1 := l1) (l2 := l2) (l3 := 0) hx4 hF q
def f240_80 (n : Nat)   (k : Nat) : Nat → Int32 → Int32 → zH → Option (Unit × zH) := Nat.rec (fun _ _ _ _ => none) (fun _ ih => b240_80 n  ih) k
theorem tf240_80 {d n : Nat} {Q : zRs → zH → Prop}   (hd : 0 ≤ d)   (k : Nat) : ∀ {l0 : Nat} {l1 : Int32} {l2 : Int32}  {x3 : Option Value} {x4 : Option Value} {h : zH} {p : (Unit × zH)}, zn2 x3 = true → zn2 x4 = true → f240_80 n   k l0 l1 l2 h = some p → Q (eV p.1) p.2 → zW d 240 80 [some (.ref l0), some (.int l1), some (.int l2), x3, x4] [] h Q := by
  induction k with
  | zero => intros; rename_i hF _; cases hF
  | succ k ih => intros; rename_i hx3 hx4 hF q; exact tb240_80 (n := n) hd  ih hx3 hx4 hF q
def b240_21 (n : Nat)  (r2 : Nat → Int32 → Int32 → zH → Option (Unit × zH)) (r21 : Nat → Int32 → Int32 → Int32 → zH → Option (Unit × zH)) (l0 : Nat) (l1 : Int32) (l2 : Int32) (l3 : Int32) (h : zH) : Option (Unit × zH) :=
  (gR h l0 11 20).bind fun x1 =>
  x1.bind fun a3 =>
  (aI h a3 ((24 * l1) + l2)).bind fun x4 =>
  if x4 ≤ l3 then
    r2 l0 l1 (l2 + 1) h
  else
    (gR h l0 11 74).bind fun x7 =>
    (gR h l0 11 74).bind fun x9 =>
    x9.bind fun a11 =>
    (aI h a11 l2).bind fun x12 =>
    (gR h l0 11 23).bind fun x14 =>
    x14.bind fun a16 =>
    (aI h a16 ((4 * ((24 * l1) + l2)) + l3)).bind fun x17 =>
    x7.bind fun a19 =>
    (aS zsI h a19 l2 (.int (x12 ||| (1 <<< (x17 &&& 31))))).bind fun h20 =>
    r21 l0 l1 l2 (l3 + 1) h20
set_option maxRecDepth 20000 in
theorem tb240_21 {d n : Nat} {Q : zRs → zH → Prop}  {r2 : Nat → Int32 → Int32 → zH → Option (Unit × zH)} {r21 : Nat → Int32 → Int32 → Int32 → zH → Option (Unit × zH)} {l0 : Nat} {l1 : Int32} {l2 : Int32} {l3 : Int32}  {x4 : Option Value} (hd : 0 ≤ d)  (hr2 : ∀ {l0 : Nat} {l1 : Int32} {l2 : Int32}  {x3 : Option Value} {x4 : Option Value} {h : zH} {p : (Unit × zH)}, zn2 x3 = true → zn2 x4 = true → r2 l0 l1 l2 h = some p → Q (eV p.1) p.2 → zW d 240 2 [some (.ref l0), some (.int l1), some (.int l2), x3, x4] [] h Q) (hr21 : ∀ {l0 : Nat} {l1 : Int32} {l2 : Int32} {l3 : Int32}  {x4 : Option Value} {h : zH} {p : (Unit × zH)}, zn2 x4 = true → r21 l0 l1 l2 l3 h = some p → Q (eV p.1) p.2 → zW d 240 21 [some (.ref l0), some (.int l1), some (.int l2), some (.int l3), x4] [] h Q) {h : zH} {p : (Unit × zH)} (hx4 : zn2 x4 = true) (hF : b240_21 n  r2 r21 l0 l1 l2 l3 h = some p) (q : Q (eV p.1) p.2) : zW d 240 21 [some (.ref l0), some (.int l1), some (.int l2), some (.int l3), x4] [] h Q := by
  unfold b240_21 at hF
  refine zx_iload_n rfl rfl rfl ?_
  refine zx_aload_n rfl rfl rfl ?_
  replace hF := zbnd hF
  obtain ⟨x1, e2, hF⟩ := hF
  refine zy_getR rfl rfl e2 ?_
  refine zx_bipush (v := 24) rfl rfl rfl ?_
  refine zx_iload_n rfl rfl rfl ?_
  refine zx_imul rfl rfl ?_
  refine zx_iload_n rfl rfl rfl ?_
  refine zx_iadd rfl rfl ?_
  replace hF := zbnd hF
  obtain ⟨a3, rfl, hF⟩ := hF
  replace hF := zbnd hF
  obtain ⟨x4, e5, hF⟩ := hF
  refine zy_aI rfl rfl e5 ?_
  refine zx_ic_ge rfl rfl (fun c6 => ?_) (fun c6 => ?_)
  · rw [if_pos c6] at hF
    refine zx_iinc (w := 1) rfl rfl rfl rfl rfl ?_
    refine zx_goto rfl rfl ?_
    exact hr2 rfl hx4 hF q
  · rw [if_neg c6] at hF
    refine zx_aload_n rfl rfl rfl ?_
    replace hF := zbnd hF
    obtain ⟨x7, e8, hF⟩ := hF
    refine zy_getR rfl rfl e8 ?_
    refine zx_iload_n rfl rfl rfl ?_
    refine zx_aload_n rfl rfl rfl ?_
    replace hF := zbnd hF
    obtain ⟨x9, e10, hF⟩ := hF
    refine zy_getR rfl rfl e10 ?_
    refine zx_iload_n rfl rfl rfl ?_
    replace hF := zbnd hF
    obtain ⟨a11, rfl, hF⟩ := hF
    replace hF := zbnd hF
    obtain ⟨x12, e13, hF⟩ := hF
    refine zy_aI rfl rfl e13 ?_
    refine zx_iconst (v := 1) rfl rfl rfl ?_
    refine zx_aload_n rfl rfl rfl ?_
    replace hF := zbnd hF
    obtain ⟨x14, e15, hF⟩ := hF
    refine zy_getR rfl rfl e15 ?_
    refine zx_iconst (v := 4) rfl rfl rfl ?_
    refine zx_bipush (v := 24) rfl rfl rfl ?_
    refine zx_iload_n rfl rfl rfl ?_
    refine zx_imul rfl rfl ?_
    refine zx_iload_n rfl rfl rfl ?_
    refine zx_iadd rfl rfl ?_
    refine zx_imul rfl rfl ?_
    refine zx_iload_n rfl rfl rfl ?_
    refine zx_iadd rfl rfl ?_
    replace hF := zbnd hF
    obtain ⟨a16, rfl, hF⟩ := hF
    replace hF := zbnd hF
    obtain ⟨x17, e18, hF⟩ := hF
    refine zy_aI rfl rfl e18 ?_
    refine zx_ishl rfl rfl ?_
    refine zx_ior rfl rfl ?_
    replace hF := zbnd hF
    obtain ⟨a19, rfl, hF⟩ := hF
    replace hF := zbnd hF
    obtain ⟨h20, e21, hF⟩ := hF
    refine zy_sI rfl rfl e21 ?_
    refine zx_iinc (w := 1) rfl rfl rfl rfl rfl ?_
    refine zx_goto rfl rfl ?_
    exact hr21 hx4 hF q
def f240_21 (n : Nat)  (r2 : Nat → Int32 → Int32 → zH → Option (Unit × zH)) (k : Nat) : Nat → Int32 → Int32 → Int32 → zH → Option (Unit × zH) := Nat.rec (fun _ _ _ _ _ => none) (fun _ ih => b240_21 n  r2 ih) k
theorem tf240_21 {d n : Nat} {Q : zRs → zH → Prop}  {r2 : Nat → Int32 → Int32 → zH → Option (Unit × zH)} (hd : 0 ≤ d)  (hr2 : ∀ {l0 : Nat} {l1 : Int32} {l2 : Int32}  {x3 : Option Value} {x4 : Option Value} {h : zH} {p : (Unit × zH)}, zn2 x3 = true → zn2 x4 = true → r2 l0 l1 l2 h = some p → Q (eV p.1) p.2 → zW d 240 2 [some (.ref l0), some (.int l1), some (.int l2), x3, x4] [] h Q) (k : Nat) : ∀ {l0 : Nat} {l1 : Int32} {l2 : Int32} {l3 : Int32}  {x4 : Option Value} {h : zH} {p : (Unit × zH)}, zn2 x4 = true → f240_21 n  r2 k l0 l1 l2 l3 h = some p → Q (eV p.1) p.2 → zW d 240 21 [some (.ref l0), some (.int l1), some (.int l2), some (.int l3), x4] [] h Q := by
  induction k with
  | zero => intros; rename_i hF _; cases hF
  | succ k ih => intros; rename_i hx4 hF q; exact tb240_21 (n := n) hd  hr2 ih hx4 hF q
def b240_2 (n : Nat)  (r2 : Nat → Int32 → Int32 → zH → Option (Unit × zH)) (l0 : Nat) (l1 : Int32) (l2 : Int32) (h : zH) : Option (Unit × zH) :=
  (gR h l0 11 13).bind fun x1 =>
  x1.bind fun a3 =>
  (aI h a3 l1).bind fun x4 =>
  if x4 ≤ l2 then
    f240_80 n  n l0 l1 0 h
  else
    (gR h l0 11 74).bind fun x7 =>
    x7.bind fun a9 =>
    (aS zsI h a9 l2 (.int 0)).bind fun h10 =>
    f240_21 n r2 n l0 l1 l2 0 h10
set_option maxRecDepth 20000 in
theorem tb240_2 {d n : Nat} {Q : zRs → zH → Prop}  {r2 : Nat → Int32 → Int32 → zH → Option (Unit × zH)} {l0 : Nat} {l1 : Int32} {l2 : Int32}  {x3 : Option Value} {x4 : Option Value} (hd : 0 ≤ d)  (hr2 : ∀ {l0 : Nat} {l1 : Int32} {l2 : Int32}  {x3 : Option Value} {x4 : Option Value} {h : zH} {p : (Unit × zH)}, zn2 x3 = true → zn2 x4 = true → r2 l0 l1 l2 h = some p → Q (eV p.1) p.2 → zW d 240 2 [some (.ref l0), some (.int l1), some (.int l2), x3, x4] [] h Q) {h : zH} {p : (Unit × zH)} (hx3 : zn2 x3 = true) (hx4 : zn2 x4 = true) (hF : b240_2 n  r2 l0 l1 l2 h = some p) (q : Q (eV p.1) p.2) : zW d 240 2 [some (.ref l0), some (.int l1), some (.int l2), x3, x4] [] h Q := by
  unfold b240_2 at hF
  refine zx_iload_n rfl rfl rfl ?_
  refine zx_aload_n rfl rfl rfl ?_
  replace hF := zbnd hF
  obtain ⟨x1, e2, hF⟩ := hF
  refine zy_getR rfl rfl e2 ?_
  refine zx_iload_n rfl rfl rfl ?_
  replace hF := zbnd hF
  obtain ⟨a3, rfl, hF⟩ := hF
  replace hF := zbnd hF
  obtain ⟨x4, e5, hF⟩ := hF
  refine zy_aI rfl rfl e5 ?_
  refine zx_ic_ge rfl rfl (fun c6 => ?_) (fun c6 => ?_)
  · rw [if_pos c6] at hF
    refine zx_iconst (v := 0) rfl rfl rfl ?_
    refine zx_istore_n rfl rfl rfl ?_
    exact tf240_80 hd  n (l0 := l0) (l1 := l1) (l2 := 0) hx3 hx4 hF q
  · rw [if_neg c6] at hF
    refine zx_aload_n rfl rfl rfl ?_
    replace hF := zbnd hF
    obtain ⟨x7, e8, hF⟩ := hF
    refine zy_getR rfl rfl e8 ?_
    refine zx_iload_n rfl rfl rfl ?_
    refine zx_iconst (v := 0) rfl rfl rfl ?_
    replace hF := zbnd hF
    obtain ⟨a9, rfl, hF⟩ := hF
    replace hF := zbnd hF
    obtain ⟨h10, e11, hF⟩ := hF
    refine zy_sI rfl rfl e11 ?_
    refine zx_iconst (v := 0) rfl rfl rfl ?_
    refine zx_istore_n rfl rfl rfl ?_
    exact tf240_21 hd hr2 n (l0 := l0) (l1 := l1) (l2 := l2) (l3 := 0) hx4 hF q
def f240_2 (n : Nat)   (k : Nat) : Nat → Int32 → Int32 → zH → Option (Unit × zH) := Nat.rec (fun _ _ _ _ => none) (fun _ ih => b240_2 n  ih) k
theorem tf240_2 {d n : Nat} {Q : zRs → zH → Prop}   (hd : 0 ≤ d)   (k : Nat) : ∀ {l0 : Nat} {l1 : Int32} {l2 : Int32}  {x3 : Option Value} {x4 : Option Value} {h : zH} {p : (Unit × zH)}, zn2 x3 = true → zn2 x4 = true → f240_2 n   k l0 l1 l2 h = some p → Q (eV p.1) p.2 → zW d 240 2 [some (.ref l0), some (.int l1), some (.int l2), x3, x4] [] h Q := by
  induction k with
  | zero => intros; rename_i hF _; cases hF
  | succ k ih => intros; rename_i hx3 hx4 hF q; exact tb240_2 (n := n) hd  ih hx3 hx4 hF q
def f240 (n : Nat)  (y0 : Nat) (y1 : Int32) (h : zH) : Option (Unit × zH) :=
  f240_2 n  n y0 y1 0 h
set_option maxRecDepth 20000 in
theorem t240 {d n : Nat} {Q : zRs → zH → Prop}  {y0 : Nat} {y1 : Int32} (hd : 0 ≤ d)  {h : zH} {p : (Unit × zH)} (hF : f240 n  y0 y1 h = some p) (q : Q (eV p.1) p.2) : zC d 240 [.ref y0, .int y1] h Q := by
  refine zC_of (L := [some (.ref y0), some (.int y1), none, none, none]) rfl rfl ?_
  unfold f240 at hF
  refine zx_iconst (v := 0) rfl rfl rfl ?_
  refine zx_istore_n rfl rfl rfl ?_
  exact tf240_2 hd  n (l0 := y0) (l1 := y1) (l2 := 0) rfl rfl hF q
def b239_167 (n : Nat)  (r105 : Nat → Int32 → Int32 → zH → Option (Unit × zH)) (r133 : Nat → Int32 → Int32 → Int32 → Int32 → zH → Option (Unit × zH)) (l0 : Nat) (l1 : Int32) (l2 : Int32) (l3 : Int32) (l4 : Int32) (s0 : Int32) (h : zH) : Option (Unit × zH) :=
  r133 l0 l1 l2 s0 (l4 + (-1)) h
set_option maxRecDepth 20000 in
theorem tb239_167 {d n : Nat} {Q : zRs → zH → Prop}  {r105 : Nat → Int32 → Int32 → zH → Option (Unit × zH)} {r133 : Nat → Int32 → Int32 → Int32 → Int32 → zH → Option (Unit × zH)} {l0 : Nat} {l1 : Int32} {l2 : Int32} {l3 : Int32} {l4 : Int32} {s0 : Int32}  (hd : 1 ≤ d)  (hr105 : ∀ {l0 : Nat} {l1 : Int32} {l2 : Int32}  {x3 : Option Value} {x4 : Option Value} {h : zH} {p : (Unit × zH)}, zn2 x3 = true → zn2 x4 = true → r105 l0 l1 l2 h = some p → Q (eV p.1) p.2 → zW d 239 105 [some (.ref l0), some (.int l1), some (.int l2), x3, x4] [] h Q) (hr133 : ∀ {l0 : Nat} {l1 : Int32} {l2 : Int32} {l3 : Int32} {l4 : Int32}   {h : zH} {p : (Unit × zH)}, r133 l0 l1 l2 l3 l4 h = some p → Q (eV p.1) p.2 → zW d 239 133 [some (.ref l0), some (.int l1), some (.int l2), some (.int l3), some (.int l4)] [] h Q) {h : zH} {p : (Unit × zH)}  (hF : b239_167 n  r105 r133 l0 l1 l2 l3 l4 s0 h = some p) (q : Q (eV p.1) p.2) : zW d 239 167 [some (.ref l0), some (.int l1), some (.int l2), some (.int l3), some (.int l4)] [.int s0] h Q := by
  unfold b239_167 at hF
  obtain ⟨d, rfl⟩ : ∃ e, d = e + 1 := ⟨d - 1, by omega⟩
  refine zx_istore_n rfl rfl rfl ?_
  refine zx_iinc (w := (-1)) rfl rfl rfl rfl rfl ?_
  refine zx_goto rfl rfl ?_
  exact hr133  hF q
def b239_166 (n : Nat)  (r105 : Nat → Int32 → Int32 → zH → Option (Unit × zH)) (r133 : Nat → Int32 → Int32 → Int32 → Int32 → zH → Option (Unit × zH)) (l0 : Nat) (l1 : Int32) (l2 : Int32) (l3 : Int32) (l4 : Int32) (h : zH) : Option (Unit × zH) :=
  b239_167 n r105 r133 l0 l1 l2 l3 l4 l3 h
set_option maxRecDepth 20000 in
theorem tb239_166 {d n : Nat} {Q : zRs → zH → Prop}  {r105 : Nat → Int32 → Int32 → zH → Option (Unit × zH)} {r133 : Nat → Int32 → Int32 → Int32 → Int32 → zH → Option (Unit × zH)} {l0 : Nat} {l1 : Int32} {l2 : Int32} {l3 : Int32} {l4 : Int32}   (hd : 1 ≤ d)  (hr105 : ∀ {l0 : Nat} {l1 : Int32} {l2 : Int32}  {x3 : Option Value} {x4 : Option Value} {h : zH} {p : (Unit × zH)}, zn2 x3 = true → zn2 x4 = true → r105 l0 l1 l2 h = some p → Q (eV p.1) p.2 → zW d 239 105 [some (.ref l0), some (.int l1), some (.int l2), x3, x4] [] h Q) (hr133 : ∀ {l0 : Nat} {l1 : Int32} {l2 : Int32} {l3 : Int32} {l4 : Int32}   {h : zH} {p : (Unit × zH)}, r133 l0 l1 l2 l3 l4 h = some p → Q (eV p.1) p.2 → zW d 239 133 [some (.ref l0), some (.int l1), some (.int l2), some (.int l3), some (.int l4)] [] h Q) {h : zH} {p : (Unit × zH)}  (hF : b239_166 n  r105 r133 l0 l1 l2 l3 l4 h = some p) (q : Q (eV p.1) p.2) : zW d 239 166 [some (.ref l0), some (.int l1), some (.int l2), some (.int l3), some (.int l4)] [] h Q := by
  unfold b239_166 at hF
  obtain ⟨d, rfl⟩ : ∃ e, d = e + 1 := ⟨d - 1, by omega⟩
  refine zx_iload_n rfl rfl rfl ?_
  exact tb239_167 (l0 := l0) (l1 := l1) (l2 := l2) (l3 := l3) (l4 := l4) (s0 := l3) hd hr105 hr133  hF q
def b239_133 (n : Nat)  (r105 : Nat → Int32 → Int32 → zH → Option (Unit × zH)) (r133 : Nat → Int32 → Int32 → Int32 → Int32 → zH → Option (Unit × zH)) (l0 : Nat) (l1 : Int32) (l2 : Int32) (l3 : Int32) (l4 : Int32) (h : zH) : Option (Unit × zH) :=
  if l4 < 0 then
    (gR h l0 11 63).bind fun x2 =>
    (gI h l0 11 4).bind fun x4 =>
    x2.bind fun a6 =>
    (aS zsI h a6 ((24 * x4) + l2) (.int l3)).bind fun h7 =>
    r105 l0 (l1 ||| (1 <<< (l3 &&& 31))) (l2 + 1) h7
  else
    if ((l1 >>> (l4 &&& 31)) &&& 1) = 0 then
      (gR h l0 11 74).bind fun x10 =>
      x10.bind fun a12 =>
      (aI h a12 l4).bind fun x13 =>
      if (x13 &&& (l1 ^^^ (-1))) = 0 then
        b239_167 n r105 r133 l0 l1 l2 l3 l4 l4 h
      else
        b239_166 n r105 r133 l0 l1 l2 l3 l4 h
    else
      b239_166 n r105 r133 l0 l1 l2 l3 l4 h
set_option maxRecDepth 20000 in
theorem tb239_133 {d n : Nat} {Q : zRs → zH → Prop}  {r105 : Nat → Int32 → Int32 → zH → Option (Unit × zH)} {r133 : Nat → Int32 → Int32 → Int32 → Int32 → zH → Option (Unit × zH)} {l0 : Nat} {l1 : Int32} {l2 : Int32} {l3 : Int32} {l4 : Int32}   (hd : 1 ≤ d)  (hr105 : ∀ {l0 : Nat} {l1 : Int32} {l2 : Int32}  {x3 : Option Value} {x4 : Option Value} {h : zH} {p : (Unit × zH)}, zn2 x3 = true → zn2 x4 = true → r105 l0 l1 l2 h = some p → Q (eV p.1) p.2 → zW d 239 105 [some (.ref l0), some (.int l1), some (.int l2), x3, x4] [] h Q) (hr133 : ∀ {l0 : Nat} {l1 : Int32} {l2 : Int32} {l3 : Int32} {l4 : Int32}   {h : zH} {p : (Unit × zH)}, r133 l0 l1 l2 l3 l4 h = some p → Q (eV p.1) p.2 → zW d 239 133 [some (.ref l0), some (.int l1), some (.int l2), some (.int l3), some (.int l4)] [] h Q) {h : zH} {p : (Unit × zH)}  (hF : b239_133 n  r105 r133 l0 l1 l2 l3 l4 h = some p) (q : Q (eV p.1) p.2) : zW d 239 133 [some (.ref l0), some (.int l1), some (.int l2), some (.int l3), some (.int l4)] [] h Q := by
  unfold b239_133 at hF
  obtain ⟨d, rfl⟩ : ∃ e, d = e + 1 := ⟨d - 1, by omega⟩
  refine zx_iload rfl rfl rfl ?_
  refine zx_if_lt rfl rfl (fun c1 => ?_) (fun c1 => ?_)
  · rw [if_pos c1] at hF
    refine zx_aload_n rfl rfl rfl ?_
    replace hF := zbnd hF
    obtain ⟨x2, e3, hF⟩ := hF
    refine zy_getR rfl rfl e3 ?_
    refine zx_bipush (v := 24) rfl rfl rfl ?_
    refine zx_aload_n rfl rfl rfl ?_
    replace hF := zbnd hF
    obtain ⟨x4, e5, hF⟩ := hF
    refine zy_getI rfl rfl e5 ?_
    refine zx_imul rfl rfl ?_
    refine zx_iload_n rfl rfl rfl ?_
    refine zx_iadd rfl rfl ?_
    refine zx_iload_n rfl rfl rfl ?_
    replace hF := zbnd hF
    obtain ⟨a6, rfl, hF⟩ := hF
    replace hF := zbnd hF
    obtain ⟨h7, e8, hF⟩ := hF
    refine zy_sI rfl rfl e8 ?_
    refine zx_iload_n rfl rfl rfl ?_
    refine zx_iconst (v := 1) rfl rfl rfl ?_
    refine zx_iload_n rfl rfl rfl ?_
    refine zx_ishl rfl rfl ?_
    refine zx_ior rfl rfl ?_
    refine zx_istore_n rfl rfl rfl ?_
    refine zx_iinc (w := 1) rfl rfl rfl rfl rfl ?_
    refine zx_goto rfl rfl ?_
    exact hr105 rfl rfl hF q
  · rw [if_neg c1] at hF
    refine zx_iload_n rfl rfl rfl ?_
    refine zx_iload rfl rfl rfl ?_
    refine zx_ishr rfl rfl ?_
    refine zx_iconst (v := 1) rfl rfl rfl ?_
    refine zx_iand rfl rfl ?_
    refine zx_if_ne rfl rfl (fun c9 => ?_) (fun c9 => ?_)
    · rw [if_neg c9] at hF
      exact tb239_166 (l0 := l0) (l1 := l1) (l2 := l2) (l3 := l3) (l4 := l4) hd hr105 hr133  hF q
    · rw [if_pos c9] at hF
      refine zx_aload_n rfl rfl rfl ?_
      replace hF := zbnd hF
      obtain ⟨x10, e11, hF⟩ := hF
      refine zy_getR rfl rfl e11 ?_
      refine zx_iload rfl rfl rfl ?_
      replace hF := zbnd hF
      obtain ⟨a12, rfl, hF⟩ := hF
      replace hF := zbnd hF
      obtain ⟨x13, e14, hF⟩ := hF
      refine zy_aI rfl rfl e14 ?_
      refine zx_iload_n rfl rfl rfl ?_
      refine zx_iconst (v := (-1)) rfl rfl rfl ?_
      refine zx_ixor rfl rfl ?_
      refine zx_iand rfl rfl ?_
      refine zx_if_ne rfl rfl (fun c15 => ?_) (fun c15 => ?_)
      · rw [if_neg c15] at hF
        exact tb239_166 (l0 := l0) (l1 := l1) (l2 := l2) (l3 := l3) (l4 := l4) hd hr105 hr133  hF q
      · rw [if_pos c15] at hF
        refine zx_iload rfl rfl rfl ?_
        refine zx_goto rfl rfl ?_
        exact tb239_167 (l0 := l0) (l1 := l1) (l2 := l2) (l3 := l3) (l4 := l4) (s0 := l4) hd hr105 hr133  hF q
def f239_133 (n : Nat)  (r105 : Nat → Int32 → Int32 → zH → Option (Unit × zH)) (k : Nat) : Nat → Int32 → Int32 → Int32 → Int32 → zH → Option (Unit × zH) := Nat.rec (fun _ _ _ _ _ _ => none) (fun _ ih => b239_133 n  r105 ih) k
theorem tf239_133 {d n : Nat} {Q : zRs → zH → Prop}  {r105 : Nat → Int32 → Int32 → zH → Option (Unit × zH)} (hd : 1 ≤ d)  (hr105 : ∀ {l0 : Nat} {l1 : Int32} {l2 : Int32}  {x3 : Option Value} {x4 : Option Value} {h : zH} {p : (Unit × zH)}, zn2 x3 = true → zn2 x4 = true → r105 l0 l1 l2 h = some p → Q (eV p.1) p.2 → zW d 239 105 [some (.ref l0), some (.int l1), some (.int l2), x3, x4] [] h Q) (k : Nat) : ∀ {l0 : Nat} {l1 : Int32} {l2 : Int32} {l3 : Int32} {l4 : Int32}   {h : zH} {p : (Unit × zH)}, f239_133 n  r105 k l0 l1 l2 l3 l4 h = some p → Q (eV p.1) p.2 → zW d 239 133 [some (.ref l0), some (.int l1), some (.int l2), some (.int l3), some (.int l4)] [] h Q := by
  induction k with
  | zero => intros; rename_i hF _; cases hF
  | succ k ih => intros; rename_i  hF q; exact tb239_133 (n := n) hd  hr105 ih  hF q
def b239_105 (n : Nat)  (r105 : Nat → Int32 → Int32 → zH → Option (Unit × zH)) (l0 : Nat) (l1 : Int32) (l2 : Int32) (h : zH) : Option (Unit × zH) :=
  (gR h l0 11 13).bind fun x1 =>
  (gI h l0 11 4).bind fun x3 =>
  x1.bind fun a5 =>
  (aI h a5 x3).bind fun x6 =>
  if x6 ≤ l2 then
    some ((), h)
  else
    (gR h l0 11 13).bind fun x9 =>
    (gI h l0 11 4).bind fun x11 =>
    x9.bind fun a13 =>
    (aI h a13 x11).bind fun x14 =>
    f239_133 n r105 n l0 l1 l2 (-1) (x14 - 1) h
set_option maxRecDepth 20000 in
theorem tb239_105 {d n : Nat} {Q : zRs → zH → Prop}  {r105 : Nat → Int32 → Int32 → zH → Option (Unit × zH)} {l0 : Nat} {l1 : Int32} {l2 : Int32}  {x3 : Option Value} {x4 : Option Value} (hd : 1 ≤ d)  (hr105 : ∀ {l0 : Nat} {l1 : Int32} {l2 : Int32}  {x3 : Option Value} {x4 : Option Value} {h : zH} {p : (Unit × zH)}, zn2 x3 = true → zn2 x4 = true → r105 l0 l1 l2 h = some p → Q (eV p.1) p.2 → zW d 239 105 [some (.ref l0), some (.int l1), some (.int l2), x3, x4] [] h Q) {h : zH} {p : (Unit × zH)} (hx3 : zn2 x3 = true) (hx4 : zn2 x4 = true) (hF : b239_105 n  r105 l0 l1 l2 h = some p) (q : Q (eV p.1) p.2) : zW d 239 105 [some (.ref l0), some (.int l1), some (.int l2), x3, x4] [] h Q := by
  unfold b239_105 at hF
  obtain ⟨d, rfl⟩ : ∃ e, d = e + 1 := ⟨d - 1, by omega⟩
  refine zx_iload_n rfl rfl rfl ?_
  refine zx_aload_n rfl rfl rfl ?_
  replace hF := zbnd hF
  obtain ⟨x1, e2, hF⟩ := hF
  refine zy_getR rfl rfl e2 ?_
  refine zx_aload_n rfl rfl rfl ?_
  replace hF := zbnd hF
  obtain ⟨x3, e4, hF⟩ := hF
  refine zy_getI rfl rfl e4 ?_
  replace hF := zbnd hF
  obtain ⟨a5, rfl, hF⟩ := hF
  replace hF := zbnd hF
  obtain ⟨x6, e7, hF⟩ := hF
  refine zy_aI rfl rfl e7 ?_
  refine zx_ic_ge rfl rfl (fun c8 => ?_) (fun c8 => ?_)
  · rw [if_pos c8] at hF
    replace hF := Option.some.inj hF
    subst hF
    exact zx_return rfl rfl rfl q
  · rw [if_neg c8] at hF
    refine zx_iconst (v := (-1)) rfl rfl rfl ?_
    refine zx_istore_n rfl rfl rfl ?_
    refine zx_aload_n rfl rfl rfl ?_
    replace hF := zbnd hF
    obtain ⟨x9, e10, hF⟩ := hF
    refine zy_getR rfl rfl e10 ?_
    refine zx_aload_n rfl rfl rfl ?_
    replace hF := zbnd hF
    obtain ⟨x11, e12, hF⟩ := hF
    refine zy_getI rfl rfl e12 ?_
    replace hF := zbnd hF
    obtain ⟨a13, rfl, hF⟩ := hF
    replace hF := zbnd hF
    obtain ⟨x14, e15, hF⟩ := hF
    refine zy_aI rfl rfl e15 ?_
    refine zx_iconst (v := 1) rfl rfl rfl ?_
    refine zx_isub rfl rfl ?_
    refine zx_istore rfl rfl rfl ?_
    exact tf239_133 hd hr105 n (l0 := l0) (l1 := l1) (l2 := l2) (l3 := (-1)) (l4 := (x14 - 1))  hF q
def f239_105 (n : Nat)   (k : Nat) : Nat → Int32 → Int32 → zH → Option (Unit × zH) := Nat.rec (fun _ _ _ _ => none) (fun _ ih => b239_105 n  ih) k
theorem tf239_105 {d n : Nat} {Q : zRs → zH → Prop}   (hd : 1 ≤ d)   (k : Nat) : ∀ {l0 : Nat} {l1 : Int32} {l2 : Int32}  {x3 : Option Value} {x4 : Option Value} {h : zH} {p : (Unit × zH)}, zn2 x3 = true → zn2 x4 = true → f239_105 n   k l0 l1 l2 h = some p → Q (eV p.1) p.2 → zW d 239 105 [some (.ref l0), some (.int l1), some (.int l2), x3, x4] [] h Q := by
  induction k with
  | zero => intros; rename_i hF _; cases hF
  | succ k ih => intros; rename_i hx3 hx4 hF q; exact tb239_105 (n := n) hd  ih hx3 hx4 hF q
def b239_25 (n : Nat)  (r10 : Nat → Int32 → zH → Option (Unit × zH)) (r25 : Nat → Int32 → Int32 → zH → Option (Unit × zH)) (l0 : Nat) (l1 : Int32) (l2 : Int32) (h : zH) : Option (Unit × zH) :=
  (gR h l0 11 20).bind fun x1 =>
  (gI h l0 11 4).bind fun x3 =>
  x1.bind fun a5 =>
  (aI h a5 ((24 * x3) + l1)).bind fun x6 =>
  if x6 ≤ l2 then
    r10 l0 (l1 + 1) h
  else
    (gI h l0 11 4).bind fun x9 =>
    (gR h l0 11 74).bind fun x11 =>
    (gR h l0 11 23).bind fun x13 =>
    x13.bind fun a15 =>
    (aI h a15 ((4 * ((24 * x9) + l1)) + l2)).bind fun x16 =>
    x11.bind fun a18 =>
    (aI h a18 x16).bind fun x19 =>
    if ((x19 >>> (l1 &&& 31)) &&& 1) = 1 then
      (gR h l0 11 22).bind fun x22 =>
      x22.bind fun a24 =>
      (aI h a24 ((4 * ((24 * x9) + l1)) + l2)).bind fun x25 =>
      zgd (isO h l0 11) <|
      (f196 n l0 6 x25 h).bind fun p29 =>
      some ((), p29.2)
    else
      r25 l0 l1 (l2 + 1) h
set_option maxRecDepth 20000 in
theorem tb239_25 {d n : Nat} {Q : zRs → zH → Prop}  {r10 : Nat → Int32 → zH → Option (Unit × zH)} {r25 : Nat → Int32 → Int32 → zH → Option (Unit × zH)} {l0 : Nat} {l1 : Int32} {l2 : Int32}  {x3 : Option Value} {x4 : Option Value} (hd : 1 ≤ d)  (hr10 : ∀ {l0 : Nat} {l1 : Int32}  {x2 : Option Value} {x3 : Option Value} {x4 : Option Value} {h : zH} {p : (Unit × zH)}, zn2 x2 = true → zn2 x3 = true → zn2 x4 = true → r10 l0 l1 h = some p → Q (eV p.1) p.2 → zW d 239 10 [some (.ref l0), some (.int l1), x2, x3, x4] [] h Q) (hr25 : ∀ {l0 : Nat} {l1 : Int32} {l2 : Int32}  {x3 : Option Value} {x4 : Option Value} {h : zH} {p : (Unit × zH)}, zn2 x3 = true → zn2 x4 = true → r25 l0 l1 l2 h = some p → Q (eV p.1) p.2 → zW d 239 25 [some (.ref l0), some (.int l1), some (.int l2), x3, x4] [] h Q) {h : zH} {p : (Unit × zH)} (hx3 : zn2 x3 = true) (hx4 : zn2 x4 = true) (hF : b239_25 n  r10 r25 l0 l1 l2 h = some p) (q : Q (eV p.1) p.2) : zW d 239 25 [some (.ref l0), some (.int l1), some (.int l2), x3, x4] [] h Q := by
  unfold b239_25 at hF
  obtain ⟨d, rfl⟩ : ∃ e, d = e + 1 := ⟨d - 1, by omega⟩
  refine zx_iload_n rfl rfl rfl ?_
  refine zx_aload_n rfl rfl rfl ?_
  replace hF := zbnd hF
  obtain ⟨x1, e2, hF⟩ := hF
  refine zy_getR rfl rfl e2 ?_
  refine zx_bipush (v := 24) rfl rfl rfl ?_
  refine zx_aload_n rfl rfl rfl ?_
  replace hF := zbnd hF
  obtain ⟨x3, e4, hF⟩ := hF
  refine zy_getI rfl rfl e4 ?_
  refine zx_imul rfl rfl ?_
  refine zx_iload_n rfl rfl rfl ?_
  refine zx_iadd rfl rfl ?_
  replace hF := zbnd hF
  obtain ⟨a5, rfl, hF⟩ := hF
  replace hF := zbnd hF
  obtain ⟨x6, e7, hF⟩ := hF
  refine zy_aI rfl rfl e7 ?_
  refine zx_ic_ge rfl rfl (fun c8 => ?_) (fun c8 => ?_)
  · rw [if_pos c8] at hF
    refine zx_iinc (w := 1) rfl rfl rfl rfl rfl ?_
    refine zx_goto rfl rfl ?_
    exact hr10 rfl hx3 hx4 hF q
  · rw [if_neg c8] at hF
    refine zx_iconst (v := 4) rfl rfl rfl ?_
    refine zx_bipush (v := 24) rfl rfl rfl ?_
    refine zx_aload_n rfl rfl rfl ?_
    replace hF := zbnd hF
    obtain ⟨x9, e10, hF⟩ := hF
    refine zy_getI rfl rfl e10 ?_
    refine zx_imul rfl rfl ?_
    refine zx_iload_n rfl rfl rfl ?_
    refine zx_iadd rfl rfl ?_
    refine zx_imul rfl rfl ?_
    refine zx_iload_n rfl rfl rfl ?_
    refine zx_iadd rfl rfl ?_
    refine zx_istore_n rfl rfl rfl ?_
    refine zx_aload_n rfl rfl rfl ?_
    replace hF := zbnd hF
    obtain ⟨x11, e12, hF⟩ := hF
    refine zy_getR rfl rfl e12 ?_
    refine zx_aload_n rfl rfl rfl ?_
    replace hF := zbnd hF
    obtain ⟨x13, e14, hF⟩ := hF
    refine zy_getR rfl rfl e14 ?_
    refine zx_iload_n rfl rfl rfl ?_
    replace hF := zbnd hF
    obtain ⟨a15, rfl, hF⟩ := hF
    replace hF := zbnd hF
    obtain ⟨x16, e17, hF⟩ := hF
    refine zy_aI rfl rfl e17 ?_
    replace hF := zbnd hF
    obtain ⟨a18, rfl, hF⟩ := hF
    replace hF := zbnd hF
    obtain ⟨x19, e20, hF⟩ := hF
    refine zy_aI rfl rfl e20 ?_
    refine zx_iload_n rfl rfl rfl ?_
    refine zx_ishr rfl rfl ?_
    refine zx_iconst (v := 1) rfl rfl rfl ?_
    refine zx_iand rfl rfl ?_
    refine zx_iconst (v := 1) rfl rfl rfl ?_
    refine zx_ic_ne rfl rfl (fun c21 => ?_) (fun c21 => ?_)
    · rw [if_neg c21] at hF
      refine zx_iinc (w := 1) rfl rfl rfl rfl rfl ?_
      refine zx_goto rfl rfl ?_
      exact hr25 rfl hx4 hF q
    · rw [if_pos c21] at hF
      refine zx_aload_n rfl rfl rfl ?_
      refine zx_bipush (v := 6) rfl rfl rfl ?_
      refine zx_aload_n rfl rfl rfl ?_
      replace hF := zbnd hF
      obtain ⟨x22, e23, hF⟩ := hF
      refine zy_getR rfl rfl e23 ?_
      refine zx_iload_n rfl rfl rfl ?_
      replace hF := zbnd hF
      obtain ⟨a24, rfl, hF⟩ := hF
      replace hF := zbnd hF
      obtain ⟨x25, e26, hF⟩ := hF
      refine zy_aI rfl rfl e26 ?_
      replace hF := zgd_some hF
      obtain ⟨g27, hF⟩ := hF
      replace hF := zbnd hF
      obtain ⟨p29, e28, hF⟩ := hF
      refine zx_callE rfl rfl rfl rfl (zrcv_isO g27) rfl rfl (zc4 (Nat.le_of_ble_eq_true rfl)) (t196 (by omega) e28 (zaV ?_))
      replace hF := Option.some.inj hF
      subst hF
      exact zx_return rfl rfl rfl q
def f239_25 (n : Nat)  (r10 : Nat → Int32 → zH → Option (Unit × zH)) (k : Nat) : Nat → Int32 → Int32 → zH → Option (Unit × zH) := Nat.rec (fun _ _ _ _ => none) (fun _ ih => b239_25 n  r10 ih) k
theorem tf239_25 {d n : Nat} {Q : zRs → zH → Prop}  {r10 : Nat → Int32 → zH → Option (Unit × zH)} (hd : 1 ≤ d)  (hr10 : ∀ {l0 : Nat} {l1 : Int32}  {x2 : Option Value} {x3 : Option Value} {x4 : Option Value} {h : zH} {p : (Unit × zH)}, zn2 x2 = true → zn2 x3 = true → zn2 x4 = true → r10 l0 l1 h = some p → Q (eV p.1) p.2 → zW d 239 10 [some (.ref l0), some (.int l1), x2, x3, x4] [] h Q) (k : Nat) : ∀ {l0 : Nat} {l1 : Int32} {l2 : Int32}  {x3 : Option Value} {x4 : Option Value} {h : zH} {p : (Unit × zH)}, zn2 x3 = true → zn2 x4 = true → f239_25 n  r10 k l0 l1 l2 h = some p → Q (eV p.1) p.2 → zW d 239 25 [some (.ref l0), some (.int l1), some (.int l2), x3, x4] [] h Q := by
  induction k with
  | zero => intros; rename_i hF _; cases hF
  | succ k ih => intros; rename_i hx3 hx4 hF q; exact tb239_25 (n := n) hd  hr10 ih hx3 hx4 hF q
def b239_10 (n : Nat)  (r10 : Nat → Int32 → zH → Option (Unit × zH)) (l0 : Nat) (l1 : Int32) (h : zH) : Option (Unit × zH) :=
  (gR h l0 11 13).bind fun x1 =>
  (gI h l0 11 4).bind fun x3 =>
  x1.bind fun a5 =>
  (aI h a5 x3).bind fun x6 =>
  if x6 ≤ l1 then
    f239_105 n  n l0 0 0 h
  else
    f239_25 n r10 n l0 l1 0 h
set_option maxRecDepth 20000 in
theorem tb239_10 {d n : Nat} {Q : zRs → zH → Prop}  {r10 : Nat → Int32 → zH → Option (Unit × zH)} {l0 : Nat} {l1 : Int32}  {x2 : Option Value} {x3 : Option Value} {x4 : Option Value} (hd : 1 ≤ d)  (hr10 : ∀ {l0 : Nat} {l1 : Int32}  {x2 : Option Value} {x3 : Option Value} {x4 : Option Value} {h : zH} {p : (Unit × zH)}, zn2 x2 = true → zn2 x3 = true → zn2 x4 = true → r10 l0 l1 h = some p → Q (eV p.1) p.2 → zW d 239 10 [some (.ref l0), some (.int l1), x2, x3, x4] [] h Q) {h : zH} {p : (Unit × zH)} (hx2 : zn2 x2 = true) (hx3 : zn2 x3 = true) (hx4 : zn2 x4 = true) (hF : b239_10 n  r10 l0 l1 h = some p) (q : Q (eV p.1) p.2) : zW d 239 10 [some (.ref l0), some (.int l1), x2, x3, x4] [] h Q := by
  unfold b239_10 at hF
  obtain ⟨d, rfl⟩ : ∃ e, d = e + 1 := ⟨d - 1, by omega⟩
  refine zx_iload_n rfl rfl rfl ?_
  refine zx_aload_n rfl rfl rfl ?_
  replace hF := zbnd hF
  obtain ⟨x1, e2, hF⟩ := hF
  refine zy_getR rfl rfl e2 ?_
  refine zx_aload_n rfl rfl rfl ?_
  replace hF := zbnd hF
  obtain ⟨x3, e4, hF⟩ := hF
  refine zy_getI rfl rfl e4 ?_
  replace hF := zbnd hF
  obtain ⟨a5, rfl, hF⟩ := hF
  replace hF := zbnd hF
  obtain ⟨x6, e7, hF⟩ := hF
  refine zy_aI rfl rfl e7 ?_
  refine zx_ic_ge rfl rfl (fun c8 => ?_) (fun c8 => ?_)
  · rw [if_pos c8] at hF
    refine zx_iconst (v := 0) rfl rfl rfl ?_
    refine zx_istore_n rfl rfl rfl ?_
    refine zx_iconst (v := 0) rfl rfl rfl ?_
    refine zx_istore_n rfl rfl rfl ?_
    exact tf239_105 hd  n (l0 := l0) (l1 := 0) (l2 := 0) hx3 hx4 hF q
  · rw [if_neg c8] at hF
    refine zx_iconst (v := 0) rfl rfl rfl ?_
    refine zx_istore_n rfl rfl rfl ?_
    exact tf239_25 hd hr10 n (l0 := l0) (l1 := l1) (l2 := 0) hx3 hx4 hF q
def f239_10 (n : Nat)   (k : Nat) : Nat → Int32 → zH → Option (Unit × zH) := Nat.rec (fun _ _ _ => none) (fun _ ih => b239_10 n  ih) k
theorem tf239_10 {d n : Nat} {Q : zRs → zH → Prop}   (hd : 1 ≤ d)   (k : Nat) : ∀ {l0 : Nat} {l1 : Int32}  {x2 : Option Value} {x3 : Option Value} {x4 : Option Value} {h : zH} {p : (Unit × zH)}, zn2 x2 = true → zn2 x3 = true → zn2 x4 = true → f239_10 n   k l0 l1 h = some p → Q (eV p.1) p.2 → zW d 239 10 [some (.ref l0), some (.int l1), x2, x3, x4] [] h Q := by
  induction k with
  | zero => intros; rename_i hF _; cases hF
  | succ k ih => intros; rename_i hx2 hx3 hx4 hF q; exact tb239_10 (n := n) hd  ih hx2 hx3 hx4 hF q
def f239 (n : Nat)  (y0 : Nat) (h : zH) : Option (Unit × zH) :=
  (gI h y0 11 4).bind fun x1 =>
  zgd (isO h y0 11) <|
  (f240 n y0 x1 h).bind fun p5 =>
  f239_10 n  n y0 0 p5.2
set_option maxRecDepth 20000 in
theorem t239 {d n : Nat} {Q : zRs → zH → Prop}  {y0 : Nat} (hd : 1 ≤ d)  {h : zH} {p : (Unit × zH)} (hF : f239 n  y0 h = some p) (q : Q (eV p.1) p.2) : zC d 239 [.ref y0] h Q := by
  refine zC_of (L := [some (.ref y0), none, none, none, none]) rfl rfl ?_
  unfold f239 at hF
  obtain ⟨d, rfl⟩ : ∃ e, d = e + 1 := ⟨d - 1, by omega⟩
  refine zx_aload_n rfl rfl rfl ?_
  refine zx_aload_n rfl rfl rfl ?_
  replace hF := zbnd hF
  obtain ⟨x1, e2, hF⟩ := hF
  refine zy_getI rfl rfl e2 ?_
  replace hF := zgd_some hF
  obtain ⟨g3, hF⟩ := hF
  replace hF := zbnd hF
  obtain ⟨p5, e4, hF⟩ := hF
  refine zx_callE rfl rfl rfl rfl (zrcv_isO g3) rfl rfl (zc4 (Nat.le_of_ble_eq_true rfl)) (t240 (by omega) e4 (zaV ?_))
  refine zx_iconst (v := 0) rfl rfl rfl ?_
  refine zx_istore_n rfl rfl rfl ?_
  exact tf239_10 hd  n (l0 := y0) (l1 := 0) rfl rfl rfl hF q
def b189_207 (n : Nat)   (l0 : Nat) (h : zH) : Option (Unit × zH) :=
  (gI h l0 11 73).bind fun x1 =>
  if x1 = (-1) then
    zgd (isO h l0 11) <|
    (f239 n l0 h).bind fun p6 =>
    some ((), p6.2)
  else
    some ((), h)
set_option maxRecDepth 20000 in
theorem tb189_207 {d n : Nat} {Q : zRs → zH → Prop}   {l0 : Nat}  {x1 : Option Value} (hd : 12 ≤ d)   {h : zH} {p : (Unit × zH)} (hx1 : zn2 x1 = true) (hF : b189_207 n   l0 h = some p) (q : Q (eV p.1) p.2) : zW d 189 207 [some (.ref l0), x1] [] h Q := by
  unfold b189_207 at hF
  obtain ⟨d, rfl⟩ : ∃ e, d = e + 1 := ⟨d - 1, by omega⟩
  refine zx_aload_n rfl rfl rfl ?_
  replace hF := zbnd hF
  obtain ⟨x1, e2, hF⟩ := hF
  refine zy_getI rfl rfl e2 ?_
  refine zx_iconst (v := (-1)) rfl rfl rfl ?_
  refine zx_ic_ne rfl rfl (fun c3 => ?_) (fun c3 => ?_)
  · rw [if_neg c3] at hF
    replace hF := Option.some.inj hF
    subst hF
    exact zx_return rfl rfl rfl q
  · rw [if_pos c3] at hF
    refine zx_aload_n rfl rfl rfl ?_
    replace hF := zgd_some hF
    obtain ⟨g4, hF⟩ := hF
    replace hF := zbnd hF
    obtain ⟨p6, e5, hF⟩ := hF
    refine zx_callE rfl rfl rfl rfl (zrcv_isO g4) rfl rfl (zc4 (Nat.le_of_ble_eq_true rfl)) (t239 (by omega) e5 (zaV ?_))
    replace hF := Option.some.inj hF
    subst hF
    exact zx_return rfl rfl rfl q
def b189_195 (n : Nat)   (l0 : Nat) (h : zH) : Option (Unit × zH) :=
  (gI h l0 11 73).bind fun x1 =>
  if x1 = (-1) then
    zgd (isO h l0 11) <|
    (f237 n l0 h).bind fun p6 =>
    b189_207 n  l0 p6.2
  else
    b189_207 n  l0 h
set_option maxRecDepth 20000 in
theorem tb189_195 {d n : Nat} {Q : zRs → zH → Prop}   {l0 : Nat}  {x1 : Option Value} (hd : 12 ≤ d)   {h : zH} {p : (Unit × zH)} (hx1 : zn2 x1 = true) (hF : b189_195 n   l0 h = some p) (q : Q (eV p.1) p.2) : zW d 189 195 [some (.ref l0), x1] [] h Q := by
  unfold b189_195 at hF
  obtain ⟨d, rfl⟩ : ∃ e, d = e + 1 := ⟨d - 1, by omega⟩
  refine zx_aload_n rfl rfl rfl ?_
  replace hF := zbnd hF
  obtain ⟨x1, e2, hF⟩ := hF
  refine zy_getI rfl rfl e2 ?_
  refine zx_iconst (v := (-1)) rfl rfl rfl ?_
  refine zx_ic_ne rfl rfl (fun c3 => ?_) (fun c3 => ?_)
  · rw [if_neg c3] at hF
    exact tb189_207 (l0 := l0) hd  hx1 hF q
  · rw [if_pos c3] at hF
    refine zx_aload_n rfl rfl rfl ?_
    replace hF := zgd_some hF
    obtain ⟨g4, hF⟩ := hF
    replace hF := zbnd hF
    obtain ⟨p6, e5, hF⟩ := hF
    refine zx_callE rfl rfl rfl rfl (zrcv_isO g4) rfl rfl (zc4 (Nat.le_of_ble_eq_true rfl)) (t237 (by omega) e5 (zaV ?_))
    exact tb189_207 (l0 := l0) hd  hx1 hF q
def b189_192 (n : Nat)  (r119 : Nat → zH → Option (Unit × zH)) (l0 : Nat) (l1 : Int32) (h : zH) : Option (Unit × zH) :=
  r119 l0 h
set_option maxRecDepth 20000 in
theorem tb189_192 {d n : Nat} {Q : zRs → zH → Prop}  {r119 : Nat → zH → Option (Unit × zH)} {l0 : Nat} {l1 : Int32}   (hd : 12 ≤ d)  (hr119 : ∀ {l0 : Nat}  {x1 : Option Value} {h : zH} {p : (Unit × zH)}, zn2 x1 = true → r119 l0 h = some p → Q (eV p.1) p.2 → zW d 189 119 [some (.ref l0), x1] [] h Q) {h : zH} {p : (Unit × zH)}  (hF : b189_192 n  r119 l0 l1 h = some p) (q : Q (eV p.1) p.2) : zW d 189 192 [some (.ref l0), some (.int l1)] [] h Q := by
  unfold b189_192 at hF
  obtain ⟨d, rfl⟩ : ∃ e, d = e + 1 := ⟨d - 1, by omega⟩
  refine zx_goto rfl rfl ?_
  exact hr119 rfl hF q
def b189_154 (n : Nat)  (r119 : Nat → zH → Option (Unit × zH)) (l0 : Nat) (l1 : Int32) (s0 : Int32) (s1 : Nat) (h : zH) : Option (Unit × zH) :=
  zgd (isO h s1 11) <|
  (f200 n s1 s0 h).bind fun p3 =>
  (gI p3.2 l0 11 73).bind fun x4 =>
  if x4 = (-1) then
    if l1 = 0 then
      zgd (isO p3.2 l0 11) <|
      (f201 n l0 p3.2).bind fun p10 =>
      b189_192 n r119 l0 l1 p10.2
    else
      if l1 = 1 then
        zgd (isO p3.2 l0 11) <|
        (f226 n l0 p3.2).bind fun p14 =>
        b189_192 n r119 l0 l1 p14.2
      else
        zgd (isO p3.2 l0 11) <|
        (f235 n l0 p3.2).bind fun p17 =>
        b189_192 n r119 l0 l1 p17.2
  else
    b189_192 n r119 l0 l1 p3.2
set_option maxRecDepth 20000 in
theorem tb189_154 {d n : Nat} {Q : zRs → zH → Prop}  {r119 : Nat → zH → Option (Unit × zH)} {l0 : Nat} {l1 : Int32} {s0 : Int32} {s1 : Nat}  (hd : 12 ≤ d)  (hr119 : ∀ {l0 : Nat}  {x1 : Option Value} {h : zH} {p : (Unit × zH)}, zn2 x1 = true → r119 l0 h = some p → Q (eV p.1) p.2 → zW d 189 119 [some (.ref l0), x1] [] h Q) {h : zH} {p : (Unit × zH)}  (hF : b189_154 n  r119 l0 l1 s0 s1 h = some p) (q : Q (eV p.1) p.2) : zW d 189 154 [some (.ref l0), some (.int l1)] [.int s0, .ref s1] h Q := by
  unfold b189_154 at hF
  obtain ⟨d, rfl⟩ : ∃ e, d = e + 1 := ⟨d - 1, by omega⟩
  replace hF := zgd_some hF
  obtain ⟨g1, hF⟩ := hF
  replace hF := zbnd hF
  obtain ⟨p3, e2, hF⟩ := hF
  refine zx_callE rfl rfl rfl rfl (zrcv_isO g1) rfl rfl (zc4 (Nat.le_of_ble_eq_true rfl)) (t200 (by omega) e2 (zaV ?_))
  refine zx_aload_n rfl rfl rfl ?_
  replace hF := zbnd hF
  obtain ⟨x4, e5, hF⟩ := hF
  refine zy_getI rfl rfl e5 ?_
  refine zx_iconst (v := (-1)) rfl rfl rfl ?_
  refine zx_ic_ne rfl rfl (fun c6 => ?_) (fun c6 => ?_)
  · rw [if_neg c6] at hF
    exact tb189_192 (l0 := l0) (l1 := l1) hd hr119  hF q
  · rw [if_pos c6] at hF
    refine zx_iload_n rfl rfl rfl ?_
    refine zx_if_ne rfl rfl (fun c7 => ?_) (fun c7 => ?_)
    · rw [if_neg c7] at hF
      refine zx_iload_n rfl rfl rfl ?_
      refine zx_iconst (v := 1) rfl rfl rfl ?_
      refine zx_ic_ne rfl rfl (fun c11 => ?_) (fun c11 => ?_)
      · rw [if_neg c11] at hF
        refine zx_aload_n rfl rfl rfl ?_
        replace hF := zgd_some hF
        obtain ⟨g15, hF⟩ := hF
        replace hF := zbnd hF
        obtain ⟨p17, e16, hF⟩ := hF
        refine zx_callE rfl rfl rfl rfl (zrcv_isO g15) rfl rfl (zc4 (Nat.le_of_ble_eq_true rfl)) (t235 (by omega) e16 (zaV ?_))
        exact tb189_192 (l0 := l0) (l1 := l1) hd hr119  hF q
      · rw [if_pos c11] at hF
        refine zx_aload_n rfl rfl rfl ?_
        replace hF := zgd_some hF
        obtain ⟨g12, hF⟩ := hF
        replace hF := zbnd hF
        obtain ⟨p14, e13, hF⟩ := hF
        refine zx_callE rfl rfl rfl rfl (zrcv_isO g12) rfl rfl (zc4 (Nat.le_of_ble_eq_true rfl)) (t226 (by omega) e13 (zaV ?_))
        refine zx_goto rfl rfl ?_
        exact tb189_192 (l0 := l0) (l1 := l1) hd hr119  hF q
    · rw [if_pos c7] at hF
      refine zx_aload_n rfl rfl rfl ?_
      replace hF := zgd_some hF
      obtain ⟨g8, hF⟩ := hF
      replace hF := zbnd hF
      obtain ⟨p10, e9, hF⟩ := hF
      refine zx_callE rfl rfl rfl rfl (zrcv_isO g8) rfl rfl (zc4 (Nat.le_of_ble_eq_true rfl)) (t201 (by omega) e9 (zaV ?_))
      refine zx_goto rfl rfl ?_
      exact tb189_192 (l0 := l0) (l1 := l1) hd hr119  hF q
def b189_119 (n : Nat)  (r119 : Nat → zH → Option (Unit × zH)) (l0 : Nat) (h : zH) : Option (Unit × zH) :=
  (gI h l0 11 73).bind fun x1 =>
  if x1 = (-1) then
    (gI h l0 11 69).bind fun x4 =>
    if x4 = 5 then
      b189_195 n  l0 h
    else
      zgd (isO h l0 11) <|
      (f199 n l0 (some 53) h).bind fun p9 =>
      if p9.1 = (-1) then
        b189_154 n r119 l0 p9.1 0 l0 p9.2
      else
        b189_154 n r119 l0 p9.1 1 l0 p9.2
  else
    b189_195 n  l0 h
set_option maxRecDepth 20000 in
theorem tb189_119 {d n : Nat} {Q : zRs → zH → Prop}  {r119 : Nat → zH → Option (Unit × zH)} {l0 : Nat}  {x1 : Option Value} (hd : 12 ≤ d)  (hr119 : ∀ {l0 : Nat}  {x1 : Option Value} {h : zH} {p : (Unit × zH)}, zn2 x1 = true → r119 l0 h = some p → Q (eV p.1) p.2 → zW d 189 119 [some (.ref l0), x1] [] h Q) {h : zH} {p : (Unit × zH)} (hx1 : zn2 x1 = true) (hF : b189_119 n  r119 l0 h = some p) (q : Q (eV p.1) p.2) : zW d 189 119 [some (.ref l0), x1] [] h Q := by
  unfold b189_119 at hF
  obtain ⟨d, rfl⟩ : ∃ e, d = e + 1 := ⟨d - 1, by omega⟩
  refine zx_aload_n rfl rfl rfl ?_
  replace hF := zbnd hF
  obtain ⟨x1, e2, hF⟩ := hF
  refine zy_getI rfl rfl e2 ?_
  refine zx_iconst (v := (-1)) rfl rfl rfl ?_
  refine zx_ic_ne rfl rfl (fun c3 => ?_) (fun c3 => ?_)
  · rw [if_neg c3] at hF
    exact tb189_195 (l0 := l0) hd  hx1 hF q
  · rw [if_pos c3] at hF
    refine zx_aload_n rfl rfl rfl ?_
    replace hF := zbnd hF
    obtain ⟨x4, e5, hF⟩ := hF
    refine zy_getI rfl rfl e5 ?_
    refine zx_iconst (v := 5) rfl rfl rfl ?_
    refine zx_ic_eq rfl rfl (fun c6 => ?_) (fun c6 => ?_)
    · rw [if_pos c6] at hF
      exact tb189_195 (l0 := l0) hd  hx1 hF q
    · rw [if_neg c6] at hF
      refine zx_aload_n rfl rfl rfl ?_
      refine zx_ldcw rfl rfl rfl ?_
      replace hF := zgd_some hF
      obtain ⟨g7, hF⟩ := hF
      replace hF := zbnd hF
      obtain ⟨p9, e8, hF⟩ := hF
      refine zx_callE rfl rfl rfl rfl (zrcv_isO g7) rfl rfl (zc4 (Nat.le_of_ble_eq_true rfl)) (t199 (by omega) e8 (zaI ?_))
      refine zx_istore_n rfl rfl rfl ?_
      refine zx_aload_n rfl rfl rfl ?_
      refine zx_iload_n rfl rfl rfl ?_
      refine zx_iconst (v := (-1)) rfl rfl rfl ?_
      refine zx_ic_eq rfl rfl (fun c10 => ?_) (fun c10 => ?_)
      · rw [if_pos c10] at hF
        refine zx_iconst (v := 0) rfl rfl rfl ?_
        exact tb189_154 (l0 := l0) (l1 := p9.1) (s0 := 0) (s1 := l0) hd hr119  hF q
      · rw [if_neg c10] at hF
        refine zx_iconst (v := 1) rfl rfl rfl ?_
        refine zx_goto rfl rfl ?_
        exact tb189_154 (l0 := l0) (l1 := p9.1) (s0 := 1) (s1 := l0) hd hr119  hF q
def f189_119 (n : Nat)   (k : Nat) : Nat → zH → Option (Unit × zH) := Nat.rec (fun _ _ => none) (fun _ ih => b189_119 n  ih) k
theorem tf189_119 {d n : Nat} {Q : zRs → zH → Prop}   (hd : 12 ≤ d)   (k : Nat) : ∀ {l0 : Nat}  {x1 : Option Value} {h : zH} {p : (Unit × zH)}, zn2 x1 = true → f189_119 n   k l0 h = some p → Q (eV p.1) p.2 → zW d 189 119 [some (.ref l0), x1] [] h Q := by
  induction k with
  | zero => intros; rename_i hF _; cases hF
  | succ k ih => intros; rename_i hx1 hF q; exact tb189_119 (n := n) hd  ih hx1 hF q
def f189 (n : Nat)  (y0 : Nat) (h : zH) : Option (Unit × zH) :=
  (gR h y0 11 5).bind fun x1 =>
  (gI h y0 11 4).bind fun x3 =>
  x1.bind fun a5 =>
  (aS zsI h a5 x3 (.int 0)).bind fun h6 =>
  (gR h6 y0 11 8).bind fun x8 =>
  (gI h6 y0 11 4).bind fun x10 =>
  x8.bind fun a12 =>
  (aS zsI h6 a12 x10 (.int 0)).bind fun h13 =>
  (gR h13 y0 11 13).bind fun x15 =>
  (gI h13 y0 11 4).bind fun x17 =>
  x15.bind fun a19 =>
  (aS zsI h13 a19 x17 (.int 0)).bind fun h20 =>
  (gR h20 y0 11 29).bind fun x22 =>
  (gI h20 y0 11 4).bind fun x24 =>
  x22.bind fun a26 =>
  (aS zsI h20 a26 x24 (.int 0)).bind fun h27 =>
  (gR h27 y0 11 32).bind fun x29 =>
  (gI h27 y0 11 4).bind fun x31 =>
  x29.bind fun a33 =>
  (aS zsI h27 a33 x31 (.int 0)).bind fun h34 =>
  (gR h34 y0 11 39).bind fun x36 =>
  (gI h34 y0 11 4).bind fun x38 =>
  x36.bind fun a40 =>
  (aS zsI h34 a40 x38 (.int 0)).bind fun h41 =>
  (gR h41 y0 11 43).bind fun x43 =>
  (gI h41 y0 11 4).bind fun x45 =>
  x43.bind fun a47 =>
  (aS zsI h41 a47 x45 (.int 0)).bind fun h48 =>
  (gR h48 y0 11 46).bind fun x50 =>
  (gI h48 y0 11 4).bind fun x52 =>
  x50.bind fun a54 =>
  (aS zsI h48 a54 x52 (.int 0)).bind fun h55 =>
  (gR h55 y0 11 53).bind fun x57 =>
  (gI h55 y0 11 4).bind fun x59 =>
  x57.bind fun a61 =>
  (aS zsI h55 a61 x59 (.int 0)).bind fun h62 =>
  (gR h62 y0 11 62).bind fun x64 =>
  (gI h62 y0 11 4).bind fun x66 =>
  x64.bind fun a68 =>
  (aS zsI h62 a68 x66 (.int 0)).bind fun h69 =>
  (pF h69 y0 11 68 (.int 0)).bind fun h71 =>
  (pF h71 y0 11 73 (.int (-1))).bind fun h73 =>
  (pF h73 y0 11 64 (.int 0)).bind fun h75 =>
  zgd (isO h75 y0 11) <|
  (f190 n y0 h75).bind fun p79 =>
  f189_119 n  n y0 p79.2
set_option maxRecDepth 20000 in
theorem t189 {d n : Nat} {Q : zRs → zH → Prop}  {y0 : Nat} (hd : 12 ≤ d)  {h : zH} {p : (Unit × zH)} (hF : f189 n  y0 h = some p) (q : Q (eV p.1) p.2) : zC d 189 [.ref y0] h Q := by
  refine zC_of (L := [some (.ref y0), none]) rfl rfl ?_
  unfold f189 at hF
  obtain ⟨d, rfl⟩ : ∃ e, d = e + 1 := ⟨d - 1, by omega⟩
  refine zx_aload_n rfl rfl rfl ?_
  replace hF := zbnd hF
  obtain ⟨x1, e2, hF⟩ := hF
  refine zy_getR rfl rfl e2 ?_
  refine zx_aload_n rfl rfl rfl ?_
  replace hF := zbnd hF
  obtain ⟨x3, e4, hF⟩ := hF
  refine zy_getI rfl rfl e4 ?_
  refine zx_iconst (v := 0) rfl rfl rfl ?_
  replace hF := zbnd hF
  obtain ⟨a5, rfl, hF⟩ := hF
  replace hF := zbnd hF
  obtain ⟨h6, e7, hF⟩ := hF
  refine zy_sI rfl rfl e7 ?_
  refine zx_aload_n rfl rfl rfl ?_
  replace hF := zbnd hF
  obtain ⟨x8, e9, hF⟩ := hF
  refine zy_getR rfl rfl e9 ?_
  refine zx_aload_n rfl rfl rfl ?_
  replace hF := zbnd hF
  obtain ⟨x10, e11, hF⟩ := hF
  refine zy_getI rfl rfl e11 ?_
  refine zx_iconst (v := 0) rfl rfl rfl ?_
  replace hF := zbnd hF
  obtain ⟨a12, rfl, hF⟩ := hF
  replace hF := zbnd hF
  obtain ⟨h13, e14, hF⟩ := hF
  refine zy_sI rfl rfl e14 ?_
  refine zx_aload_n rfl rfl rfl ?_
  replace hF := zbnd hF
  obtain ⟨x15, e16, hF⟩ := hF
  refine zy_getR rfl rfl e16 ?_
  refine zx_aload_n rfl rfl rfl ?_
  replace hF := zbnd hF
  obtain ⟨x17, e18, hF⟩ := hF
  refine zy_getI rfl rfl e18 ?_
  refine zx_iconst (v := 0) rfl rfl rfl ?_
  replace hF := zbnd hF
  obtain ⟨a19, rfl, hF⟩ := hF
  replace hF := zbnd hF
  obtain ⟨h20, e21, hF⟩ := hF
  refine zy_sI rfl rfl e21 ?_
  refine zx_aload_n rfl rfl rfl ?_
  replace hF := zbnd hF
  obtain ⟨x22, e23, hF⟩ := hF
  refine zy_getR rfl rfl e23 ?_
  refine zx_aload_n rfl rfl rfl ?_
  replace hF := zbnd hF
  obtain ⟨x24, e25, hF⟩ := hF
  refine zy_getI rfl rfl e25 ?_
  refine zx_iconst (v := 0) rfl rfl rfl ?_
  replace hF := zbnd hF
  obtain ⟨a26, rfl, hF⟩ := hF
  replace hF := zbnd hF
  obtain ⟨h27, e28, hF⟩ := hF
  refine zy_sI rfl rfl e28 ?_
  refine zx_aload_n rfl rfl rfl ?_
  replace hF := zbnd hF
  obtain ⟨x29, e30, hF⟩ := hF
  refine zy_getR rfl rfl e30 ?_
  refine zx_aload_n rfl rfl rfl ?_
  replace hF := zbnd hF
  obtain ⟨x31, e32, hF⟩ := hF
  refine zy_getI rfl rfl e32 ?_
  refine zx_iconst (v := 0) rfl rfl rfl ?_
  replace hF := zbnd hF
  obtain ⟨a33, rfl, hF⟩ := hF
  replace hF := zbnd hF
  obtain ⟨h34, e35, hF⟩ := hF
  refine zy_sI rfl rfl e35 ?_
  refine zx_aload_n rfl rfl rfl ?_
  replace hF := zbnd hF
  obtain ⟨x36, e37, hF⟩ := hF
  refine zy_getR rfl rfl e37 ?_
  refine zx_aload_n rfl rfl rfl ?_
  replace hF := zbnd hF
  obtain ⟨x38, e39, hF⟩ := hF
  refine zy_getI rfl rfl e39 ?_
  refine zx_iconst (v := 0) rfl rfl rfl ?_
  replace hF := zbnd hF
  obtain ⟨a40, rfl, hF⟩ := hF
  replace hF := zbnd hF
  obtain ⟨h41, e42, hF⟩ := hF
  refine zy_sI rfl rfl e42 ?_
  refine zx_aload_n rfl rfl rfl ?_
  replace hF := zbnd hF
  obtain ⟨x43, e44, hF⟩ := hF
  refine zy_getR rfl rfl e44 ?_
  refine zx_aload_n rfl rfl rfl ?_
  replace hF := zbnd hF
  obtain ⟨x45, e46, hF⟩ := hF
  refine zy_getI rfl rfl e46 ?_
  refine zx_iconst (v := 0) rfl rfl rfl ?_
  replace hF := zbnd hF
  obtain ⟨a47, rfl, hF⟩ := hF
  replace hF := zbnd hF
  obtain ⟨h48, e49, hF⟩ := hF
  refine zy_sI rfl rfl e49 ?_
  refine zx_aload_n rfl rfl rfl ?_
  replace hF := zbnd hF
  obtain ⟨x50, e51, hF⟩ := hF
  refine zy_getR rfl rfl e51 ?_
  refine zx_aload_n rfl rfl rfl ?_
  replace hF := zbnd hF
  obtain ⟨x52, e53, hF⟩ := hF
  refine zy_getI rfl rfl e53 ?_
  refine zx_iconst (v := 0) rfl rfl rfl ?_
  replace hF := zbnd hF
  obtain ⟨a54, rfl, hF⟩ := hF
  replace hF := zbnd hF
  obtain ⟨h55, e56, hF⟩ := hF
  refine zy_sI rfl rfl e56 ?_
  refine zx_aload_n rfl rfl rfl ?_
  replace hF := zbnd hF
  obtain ⟨x57, e58, hF⟩ := hF
  refine zy_getR rfl rfl e58 ?_
  refine zx_aload_n rfl rfl rfl ?_
  replace hF := zbnd hF
  obtain ⟨x59, e60, hF⟩ := hF
  refine zy_getI rfl rfl e60 ?_
  refine zx_iconst (v := 0) rfl rfl rfl ?_
  replace hF := zbnd hF
  obtain ⟨a61, rfl, hF⟩ := hF
  replace hF := zbnd hF
  obtain ⟨h62, e63, hF⟩ := hF
  refine zy_sI rfl rfl e63 ?_
  refine zx_aload_n rfl rfl rfl ?_
  replace hF := zbnd hF
  obtain ⟨x64, e65, hF⟩ := hF
  refine zy_getR rfl rfl e65 ?_
  refine zx_aload_n rfl rfl rfl ?_
  replace hF := zbnd hF
  obtain ⟨x66, e67, hF⟩ := hF
  refine zy_getI rfl rfl e67 ?_
  refine zx_iconst (v := 0) rfl rfl rfl ?_
  replace hF := zbnd hF
  obtain ⟨a68, rfl, hF⟩ := hF
  replace hF := zbnd hF
  obtain ⟨h69, e70, hF⟩ := hF
  refine zy_sI rfl rfl e70 ?_
  refine zx_aload_n rfl rfl rfl ?_
  refine zx_iconst (v := 0) rfl rfl rfl ?_
  replace hF := zbnd hF
  obtain ⟨h71, e72, hF⟩ := hF
  refine zy_put rfl rfl e72 ?_
  refine zx_aload_n rfl rfl rfl ?_
  refine zx_iconst (v := (-1)) rfl rfl rfl ?_
  replace hF := zbnd hF
  obtain ⟨h73, e74, hF⟩ := hF
  refine zy_put rfl rfl e74 ?_
  refine zx_aload_n rfl rfl rfl ?_
  refine zx_iconst (v := 0) rfl rfl rfl ?_
  replace hF := zbnd hF
  obtain ⟨h75, e76, hF⟩ := hF
  refine zy_put rfl rfl e76 ?_
  refine zx_aload_n rfl rfl rfl ?_
  replace hF := zgd_some hF
  obtain ⟨g77, hF⟩ := hF
  replace hF := zbnd hF
  obtain ⟨p79, e78, hF⟩ := hF
  refine zx_callE rfl rfl rfl rfl (zrcv_isO g77) rfl rfl (zc4 (Nat.le_of_ble_eq_true rfl)) (t190 (by omega) e78 (zaV ?_))
  exact tf189_119 hd  n (l0 := y0) rfl hF q
def f188 (n : Nat)  (y0 : Nat) (h : zH) : Option (Int32 × zH) :=
  (pF h y0 11 0 (.int 0)).bind fun h1 =>
  zgd (isO h1 y0 11) <|
  (f189 n y0 h1).bind fun p5 =>
  (pF p5.2 y0 11 2 (.int 0)).bind fun h6 =>
  (gI h6 y0 11 73).bind fun x8 =>
  if x8 = (-1) then
    (gI h6 y0 11 4).bind fun x11 =>
    (pF h6 y0 11 3 (.int x11)).bind fun h13 =>
    (gI h13 y0 11 4).bind fun x15 =>
    (pF h13 y0 11 4 (.int (1 - x15))).bind fun h17 =>
    (pF h17 y0 11 85 (.int 0)).bind fun h19 =>
    (gR h19 y0 11 13).bind fun x21 =>
    (gI h19 y0 11 3).bind fun x23 =>
    x21.bind fun a25 =>
    (aI h19 a25 x23).bind fun x26 =>
    some (x26, h19)
  else
    (gI h6 y0 11 73).bind fun x28 =>
    some (((-1) - x28), h6)
set_option maxRecDepth 20000 in
theorem t188 {d n : Nat} {Q : zRs → zH → Prop}  {y0 : Nat} (hd : 13 ≤ d)  {h : zH} {p : (Int32 × zH)} (hF : f188 n  y0 h = some p) (q : Q (eI p.1) p.2) : zC d 188 [.ref y0] h Q := by
  refine zC_of (L := [some (.ref y0)]) rfl rfl ?_
  unfold f188 at hF
  obtain ⟨d, rfl⟩ : ∃ e, d = e + 1 := ⟨d - 1, by omega⟩
  refine zx_aload_n rfl rfl rfl ?_
  refine zx_iconst (v := 0) rfl rfl rfl ?_
  replace hF := zbnd hF
  obtain ⟨h1, e2, hF⟩ := hF
  refine zy_put rfl rfl e2 ?_
  refine zx_aload_n rfl rfl rfl ?_
  replace hF := zgd_some hF
  obtain ⟨g3, hF⟩ := hF
  replace hF := zbnd hF
  obtain ⟨p5, e4, hF⟩ := hF
  refine zx_callE rfl rfl rfl rfl (zrcv_isO g3) rfl rfl (zc4 (Nat.le_of_ble_eq_true rfl)) (t189 (by omega) e4 (zaV ?_))
  refine zx_aload_n rfl rfl rfl ?_
  refine zx_iconst (v := 0) rfl rfl rfl ?_
  replace hF := zbnd hF
  obtain ⟨h6, e7, hF⟩ := hF
  refine zy_put rfl rfl e7 ?_
  refine zx_aload_n rfl rfl rfl ?_
  replace hF := zbnd hF
  obtain ⟨x8, e9, hF⟩ := hF
  refine zy_getI rfl rfl e9 ?_
  refine zx_iconst (v := (-1)) rfl rfl rfl ?_
  refine zx_ic_eq rfl rfl (fun c10 => ?_) (fun c10 => ?_)
  · rw [if_pos c10] at hF
    refine zx_aload_n rfl rfl rfl ?_
    refine zx_aload_n rfl rfl rfl ?_
    replace hF := zbnd hF
    obtain ⟨x11, e12, hF⟩ := hF
    refine zy_getI rfl rfl e12 ?_
    replace hF := zbnd hF
    obtain ⟨h13, e14, hF⟩ := hF
    refine zy_put rfl rfl e14 ?_
    refine zx_aload_n rfl rfl rfl ?_
    refine zx_iconst (v := 1) rfl rfl rfl ?_
    refine zx_aload_n rfl rfl rfl ?_
    replace hF := zbnd hF
    obtain ⟨x15, e16, hF⟩ := hF
    refine zy_getI rfl rfl e16 ?_
    refine zx_isub rfl rfl ?_
    replace hF := zbnd hF
    obtain ⟨h17, e18, hF⟩ := hF
    refine zy_put rfl rfl e18 ?_
    refine zx_aload_n rfl rfl rfl ?_
    refine zx_iconst (v := 0) rfl rfl rfl ?_
    replace hF := zbnd hF
    obtain ⟨h19, e20, hF⟩ := hF
    refine zy_put rfl rfl e20 ?_
    refine zx_aload_n rfl rfl rfl ?_
    replace hF := zbnd hF
    obtain ⟨x21, e22, hF⟩ := hF
    refine zy_getR rfl rfl e22 ?_
    refine zx_aload_n rfl rfl rfl ?_
    replace hF := zbnd hF
    obtain ⟨x23, e24, hF⟩ := hF
    refine zy_getI rfl rfl e24 ?_
    replace hF := zbnd hF
    obtain ⟨a25, rfl, hF⟩ := hF
    replace hF := zbnd hF
    obtain ⟨x26, e27, hF⟩ := hF
    refine zy_aI rfl rfl e27 ?_
    replace hF := Option.some.inj hF
    subst hF
    exact zx_bret rfl rfl rfl rfl q
  · rw [if_neg c10] at hF
    refine zx_iconst (v := (-1)) rfl rfl rfl ?_
    refine zx_aload_n rfl rfl rfl ?_
    replace hF := zbnd hF
    obtain ⟨x28, e29, hF⟩ := hF
    refine zy_getI rfl rfl e29 ?_
    refine zx_isub rfl rfl ?_
    replace hF := Option.some.inj hF
    subst hF
    exact zx_bret rfl rfl rfl rfl q
def f241 (n : Nat)  (y0 : Nat) (h : zH) : Option (Int32 × zH) :=
  (pF h y0 11 0 (.int 0)).bind fun h1 =>
  (gI h1 y0 11 64).bind fun x3 =>
  some (x3, h1)
set_option maxRecDepth 20000 in
theorem t241 {d n : Nat} {Q : zRs → zH → Prop}  {y0 : Nat} (hd : 0 ≤ d)  {h : zH} {p : (Int32 × zH)} (hF : f241 n  y0 h = some p) (q : Q (eI p.1) p.2) : zC d 241 [.ref y0] h Q := by
  refine zC_of (L := [some (.ref y0)]) rfl rfl ?_
  unfold f241 at hF
  refine zx_aload_n rfl rfl rfl ?_
  refine zx_iconst (v := 0) rfl rfl rfl ?_
  replace hF := zbnd hF
  obtain ⟨h1, e2, hF⟩ := hF
  refine zy_put rfl rfl e2 ?_
  refine zx_aload_n rfl rfl rfl ?_
  replace hF := zbnd hF
  obtain ⟨x3, e4, hF⟩ := hF
  refine zy_getI rfl rfl e4 ?_
  replace hF := Option.some.inj hF
  subst hF
  exact zx_bret rfl rfl rfl rfl q
def f242 (n : Nat)  (y0 : Nat) (y1 : Int32) (h : zH) : Option (Int32 × zH) :=
  (f187 n y1 0 7 h).bind fun p2 =>
  zgd (isO p2.2 y0 11) <|
  (f185 n y0 p2.1 p2.2).bind fun p5 =>
  if p5.1 = 0 then
    some (0, p5.2)
  else
    if y1 = 0 then
      (gR p5.2 y0 11 8).bind fun x8 =>
      (gI p5.2 y0 11 3).bind fun x10 =>
      x8.bind fun a12 =>
      (aI p5.2 a12 x10).bind fun x13 =>
      some (x13, p5.2)
    else
    if y1 = 1 then
      (gR p5.2 y0 11 13).bind fun x16 =>
      (gI p5.2 y0 11 3).bind fun x18 =>
      x16.bind fun a20 =>
      (aI p5.2 a20 x18).bind fun x21 =>
      some (x21, p5.2)
    else
    if y1 = 2 then
      (gR p5.2 y0 11 29).bind fun x24 =>
      (gI p5.2 y0 11 3).bind fun x26 =>
      x24.bind fun a28 =>
      (aI p5.2 a28 x26).bind fun x29 =>
      some (x29, p5.2)
    else
    if y1 = 3 then
      (gR p5.2 y0 11 32).bind fun x32 =>
      (gI p5.2 y0 11 3).bind fun x34 =>
      x32.bind fun a36 =>
      (aI p5.2 a36 x34).bind fun x37 =>
      some (x37, p5.2)
    else
    if y1 = 4 then
      (gR p5.2 y0 11 39).bind fun x40 =>
      (gI p5.2 y0 11 3).bind fun x42 =>
      x40.bind fun a44 =>
      (aI p5.2 a44 x42).bind fun x45 =>
      some (x45, p5.2)
    else
    if y1 = 5 then
      (gR p5.2 y0 11 46).bind fun x48 =>
      (gI p5.2 y0 11 3).bind fun x50 =>
      x48.bind fun a52 =>
      (aI p5.2 a52 x50).bind fun x53 =>
      some (x53, p5.2)
    else
    if y1 = 6 then
      (gR p5.2 y0 11 53).bind fun x56 =>
      (gI p5.2 y0 11 3).bind fun x58 =>
      x56.bind fun a60 =>
      (aI p5.2 a60 x58).bind fun x61 =>
      some (x61, p5.2)
    else
    (gI p5.2 y0 11 65).bind fun x63 =>
    some (x63, p5.2)
set_option maxRecDepth 20000 in
theorem t242 {d n : Nat} {Q : zRs → zH → Prop}  {y0 : Nat} {y1 : Int32} (hd : 1 ≤ d)  {h : zH} {p : (Int32 × zH)} (hF : f242 n  y0 y1 h = some p) (q : Q (eI p.1) p.2) : zC d 242 [.ref y0, .int y1] h Q := by
  refine zC_of (L := [some (.ref y0), some (.int y1)]) rfl rfl ?_
  unfold f242 at hF
  obtain ⟨d, rfl⟩ : ∃ e, d = e + 1 := ⟨d - 1, by omega⟩
  refine zx_aload_n rfl rfl rfl ?_
  refine zx_iload_n rfl rfl rfl ?_
  refine zx_iconst (v := 0) rfl rfl rfl ?_
  refine zx_bipush (v := 7) rfl rfl rfl ?_
  replace hF := zbnd hF
  obtain ⟨p2, e1, hF⟩ := hF
  refine zx_callE rfl rfl rfl rfl rfl rfl rfl (zc4 (Nat.le_of_ble_eq_true rfl)) (t187 (by omega) e1 (zaI ?_))
  replace hF := zgd_some hF
  obtain ⟨g3, hF⟩ := hF
  replace hF := zbnd hF
  obtain ⟨p5, e4, hF⟩ := hF
  refine zx_callE rfl rfl rfl rfl (zrcv_isO g3) rfl rfl (zc4 (Nat.le_of_ble_eq_true rfl)) (t185 (by omega) e4 (zaI ?_))
  refine zx_if_ne rfl rfl (fun c6 => ?_) (fun c6 => ?_)
  · rw [if_neg c6] at hF
    refine zx_iload_n rfl rfl rfl ?_
    by_cases c7 : y1 = 0
    · rw [if_pos c7] at hF
      refine zw_switch rfl rfl (t := 60) (by rw [c7]; rfl) ?_
      refine zx_aload_n rfl rfl rfl ?_
      replace hF := zbnd hF
      obtain ⟨x8, e9, hF⟩ := hF
      refine zy_getR rfl rfl e9 ?_
      refine zx_aload_n rfl rfl rfl ?_
      replace hF := zbnd hF
      obtain ⟨x10, e11, hF⟩ := hF
      refine zy_getI rfl rfl e11 ?_
      replace hF := zbnd hF
      obtain ⟨a12, rfl, hF⟩ := hF
      replace hF := zbnd hF
      obtain ⟨x13, e14, hF⟩ := hF
      refine zy_aI rfl rfl e14 ?_
      replace hF := Option.some.inj hF
      subst hF
      exact zx_bret rfl rfl rfl rfl q
    rw [if_neg c7] at hF
    by_cases c15 : y1 = 1
    · rw [if_pos c15] at hF
      refine zw_switch rfl rfl (t := 70) (by rw [c15]; rfl) ?_
      refine zx_aload_n rfl rfl rfl ?_
      replace hF := zbnd hF
      obtain ⟨x16, e17, hF⟩ := hF
      refine zy_getR rfl rfl e17 ?_
      refine zx_aload_n rfl rfl rfl ?_
      replace hF := zbnd hF
      obtain ⟨x18, e19, hF⟩ := hF
      refine zy_getI rfl rfl e19 ?_
      replace hF := zbnd hF
      obtain ⟨a20, rfl, hF⟩ := hF
      replace hF := zbnd hF
      obtain ⟨x21, e22, hF⟩ := hF
      refine zy_aI rfl rfl e22 ?_
      replace hF := Option.some.inj hF
      subst hF
      exact zx_bret rfl rfl rfl rfl q
    rw [if_neg c15] at hF
    by_cases c23 : y1 = 2
    · rw [if_pos c23] at hF
      refine zw_switch rfl rfl (t := 80) (by rw [c23]; rfl) ?_
      refine zx_aload_n rfl rfl rfl ?_
      replace hF := zbnd hF
      obtain ⟨x24, e25, hF⟩ := hF
      refine zy_getR rfl rfl e25 ?_
      refine zx_aload_n rfl rfl rfl ?_
      replace hF := zbnd hF
      obtain ⟨x26, e27, hF⟩ := hF
      refine zy_getI rfl rfl e27 ?_
      replace hF := zbnd hF
      obtain ⟨a28, rfl, hF⟩ := hF
      replace hF := zbnd hF
      obtain ⟨x29, e30, hF⟩ := hF
      refine zy_aI rfl rfl e30 ?_
      replace hF := Option.some.inj hF
      subst hF
      exact zx_bret rfl rfl rfl rfl q
    rw [if_neg c23] at hF
    by_cases c31 : y1 = 3
    · rw [if_pos c31] at hF
      refine zw_switch rfl rfl (t := 90) (by rw [c31]; rfl) ?_
      refine zx_aload_n rfl rfl rfl ?_
      replace hF := zbnd hF
      obtain ⟨x32, e33, hF⟩ := hF
      refine zy_getR rfl rfl e33 ?_
      refine zx_aload_n rfl rfl rfl ?_
      replace hF := zbnd hF
      obtain ⟨x34, e35, hF⟩ := hF
      refine zy_getI rfl rfl e35 ?_
      replace hF := zbnd hF
      obtain ⟨a36, rfl, hF⟩ := hF
      replace hF := zbnd hF
      obtain ⟨x37, e38, hF⟩ := hF
      refine zy_aI rfl rfl e38 ?_
      replace hF := Option.some.inj hF
      subst hF
      exact zx_bret rfl rfl rfl rfl q
    rw [if_neg c31] at hF
    by_cases c39 : y1 = 4
    · rw [if_pos c39] at hF
      refine zw_switch rfl rfl (t := 100) (by rw [c39]; rfl) ?_
      refine zx_aload_n rfl rfl rfl ?_
      replace hF := zbnd hF
      obtain ⟨x40, e41, hF⟩ := hF
      refine zy_getR rfl rfl e41 ?_
      refine zx_aload_n rfl rfl rfl ?_
      replace hF := zbnd hF
      obtain ⟨x42, e43, hF⟩ := hF
      refine zy_getI rfl rfl e43 ?_
      replace hF := zbnd hF
      obtain ⟨a44, rfl, hF⟩ := hF
      replace hF := zbnd hF
      obtain ⟨x45, e46, hF⟩ := hF
      refine zy_aI rfl rfl e46 ?_
      replace hF := Option.some.inj hF
      subst hF
      exact zx_bret rfl rfl rfl rfl q
    rw [if_neg c39] at hF
    by_cases c47 : y1 = 5
    · rw [if_pos c47] at hF
      refine zw_switch rfl rfl (t := 110) (by rw [c47]; rfl) ?_
      refine zx_aload_n rfl rfl rfl ?_
      replace hF := zbnd hF
      obtain ⟨x48, e49, hF⟩ := hF
      refine zy_getR rfl rfl e49 ?_
      refine zx_aload_n rfl rfl rfl ?_
      replace hF := zbnd hF
      obtain ⟨x50, e51, hF⟩ := hF
      refine zy_getI rfl rfl e51 ?_
      replace hF := zbnd hF
      obtain ⟨a52, rfl, hF⟩ := hF
      replace hF := zbnd hF
      obtain ⟨x53, e54, hF⟩ := hF
      refine zy_aI rfl rfl e54 ?_
      replace hF := Option.some.inj hF
      subst hF
      exact zx_bret rfl rfl rfl rfl q
    rw [if_neg c47] at hF
    by_cases c55 : y1 = 6
    · rw [if_pos c55] at hF
      refine zw_switch rfl rfl (t := 120) (by rw [c55]; rfl) ?_
      refine zx_aload_n rfl rfl rfl ?_
      replace hF := zbnd hF
      obtain ⟨x56, e57, hF⟩ := hF
      refine zy_getR rfl rfl e57 ?_
      refine zx_aload_n rfl rfl rfl ?_
      replace hF := zbnd hF
      obtain ⟨x58, e59, hF⟩ := hF
      refine zy_getI rfl rfl e59 ?_
      replace hF := zbnd hF
      obtain ⟨a60, rfl, hF⟩ := hF
      replace hF := zbnd hF
      obtain ⟨x61, e62, hF⟩ := hF
      refine zy_aI rfl rfl e62 ?_
      replace hF := Option.some.inj hF
      subst hF
      exact zx_bret rfl rfl rfl rfl q
    rw [if_neg c55] at hF
    have zc7 := zne c7 (z := 0) (by decide)
    have zc15 := zne c15 (z := 1) (by decide)
    have zc23 := zne c23 (z := 2) (by decide)
    have zc31 := zne c31 (z := 3) (by decide)
    have zc39 := zne c39 (z := 4) (by decide)
    have zc47 := zne c47 (z := 5) (by decide)
    have zc55 := zne c55 (z := 6) (by decide)
    refine zw_switch rfl rfl (t := 130) (zsw_d (by omega) (by decide) (by decide)) ?_
    refine zx_aload_n rfl rfl rfl ?_
    replace hF := zbnd hF
    obtain ⟨x63, e64, hF⟩ := hF
    refine zy_getI rfl rfl e64 ?_
    replace hF := Option.some.inj hF
    subst hF
    exact zx_bret rfl rfl rfl rfl q
  · rw [if_pos c6] at hF
    refine zx_iconst (v := 0) rfl rfl rfl ?_
    replace hF := Option.some.inj hF
    subst hF
    exact zx_bret rfl rfl rfl rfl q
end ZDEC

/-! THE PROGRAM AS FUNCTIONS, 2 (written by a program of the verifier's) -/
section ZDEC
def b94_27 (n : Nat)   (l0 : Nat) (l1 : Option Nat) (l2 : Option Nat) (h : zH) : Option ((Unit ⊕ Nat) × zH) :=
  l1.bind fun a1 =>
  (gR h a1 0 1).bind fun x2 =>
  x2.bind fun a4 =>
  zgd (isO h a4 14) <|
  (f86 n a4 l2 h).bind fun p7 =>
  some (.inl (), p7.2)
set_option maxRecDepth 20000 in
theorem tb94_27 {d n : Nat} {Q : zRs → zH → Prop}   {l0 : Nat} {l1 : Option Nat} {l2 : Option Nat}   (hd : 6 ≤ d)   {h : zH} {p : ((Unit ⊕ Nat) × zH)}  (hF : b94_27 n   l0 l1 l2 h = some p) (q : Q (eVx p.1) p.2) : zW d 94 27 [some (.ref l0), some (va_rf l1), some (va_rf l2)] [] h Q := by
  unfold b94_27 at hF
  obtain ⟨d, rfl⟩ : ∃ e, d = e + 1 := ⟨d - 1, by omega⟩
  refine zy_rload_n rfl rfl rfl ?_
  replace hF := zbnd hF
  obtain ⟨a1, rfl, hF⟩ := hF
  replace hF := zbnd hF
  obtain ⟨x2, e3, hF⟩ := hF
  refine zy_getR rfl rfl e3 ?_
  refine zy_rload_n rfl rfl rfl ?_
  replace hF := zbnd hF
  obtain ⟨a4, rfl, hF⟩ := hF
  replace hF := zgd_some hF
  obtain ⟨g5, hF⟩ := hF
  replace hF := zbnd hF
  obtain ⟨p7, e6, hF⟩ := hF
  refine zx_callE rfl rfl rfl rfl (zrcv_isO g5) (congrArg (List.cons _) ((zsl_rf _ _).trans (congrArg (List.cons _) rfl))) rfl (zc4 (Nat.le_of_ble_eq_true rfl)) (t86 (by omega) e6 (zaI ?_))
  refine zx_pop rfl rfl rfl ?_
  replace hF := Option.some.inj hF
  subst hF
  exact zx_return rfl rfl rfl q
def f94 (n : Nat)  (y0 : Nat) (y1 : Option Nat) (h : zH) : Option ((Unit ⊕ Nat) × zH) :=
  y1.bind fun a1 =>
  (gR h a1 0 1).bind fun x2 =>
  zgd (isO h y0 5) <|
  (f72 n y0 x2 h).bind fun p9 => zth p9 (fun r6 h7 =>
    (gR h7 a1 0 1).bind fun x10 =>
    x10.bind fun a12 =>
    zgd (isO h7 a12 14) <|
    (f68 n a12 h7).bind fun p15 =>
    if p15.1 < 8 then
      b94_27 n  y0 (some a1) r6 p15.2
    else
      zgd (isO p15.2 y0 5) <|
      (f70 n y0 5 r6 p15.2).bind fun p22 => zth p22 (fun r19 h20 =>
        b94_27 n  y0 (some a1) r6 h20)
        (fun x21 h20 =>
        zgd (exOk x21) <| some (.inr x21, h20)))
    (fun x8 h7 =>
    zgd (exOk x8) <| some (.inr x8, h7))
set_option maxRecDepth 20000 in
theorem t94 {d n : Nat} {Q : zRs → zH → Prop}  {y0 : Nat} {y1 : Option Nat} (hd : 6 ≤ d)  {h : zH} {p : ((Unit ⊕ Nat) × zH)} (hF : f94 n  y0 y1 h = some p) (q : Q (eVx p.1) p.2) : zC d 94 [.ref y0, va_rf y1] h Q := by
  refine zC_of (L := [some (.ref y0), some (va_rf y1), none]) (congrArg (List.cons _) ((zsl_rf _ _).trans (congrArg (List.cons _) rfl))) rfl ?_
  unfold f94 at hF
  obtain ⟨d, rfl⟩ : ∃ e, d = e + 1 := ⟨d - 1, by omega⟩
  refine zx_aload_n rfl rfl rfl ?_
  refine zy_rload_n rfl rfl rfl ?_
  replace hF := zbnd hF
  obtain ⟨a1, rfl, hF⟩ := hF
  replace hF := zbnd hF
  obtain ⟨x2, e3, hF⟩ := hF
  refine zy_getR rfl rfl e3 ?_
  replace hF := zgd_some hF
  obtain ⟨g4, hF⟩ := hF
  replace hF := zbnd hF
  obtain ⟨⟨r6, h7⟩, e5, hF⟩ := hF
  refine zx_callE rfl rfl rfl rfl (zrcv_isO g4) (congrArg (List.cons _) ((zsl_rf _ _).trans (congrArg (List.cons _) rfl))) rfl (zc4 (Nat.le_of_ble_eq_true rfl)) (t72 (by omega) e5 ?_)
  rcases r6 with r6 | x8
  rotate_left 1
  · replace hF := zthH hF
    replace hF := zgd_some hF
    obtain ⟨gx, hF⟩ := hF
    replace hF := Option.some.inj hF
    subst hF
    exact zaX rfl gx q
  replace hF := zthG hF
  refine zaA ?_
  refine zy_rstore_n rfl rfl rfl ?_
  refine zx_aload_n rfl rfl rfl ?_
  replace hF := zbnd hF
  obtain ⟨x10, e11, hF⟩ := hF
  refine zy_getR rfl rfl e11 ?_
  replace hF := zbnd hF
  obtain ⟨a12, rfl, hF⟩ := hF
  replace hF := zgd_some hF
  obtain ⟨g13, hF⟩ := hF
  replace hF := zbnd hF
  obtain ⟨p15, e14, hF⟩ := hF
  refine zx_callE rfl rfl rfl rfl (zrcv_isO g13) rfl rfl (zc4 (Nat.le_of_ble_eq_true rfl)) (t68 (by omega) e14 (zaI ?_))
  refine zx_bipush (v := 8) rfl rfl rfl ?_
  refine zx_ic_lt rfl rfl (fun c16 => ?_) (fun c16 => ?_)
  · rw [if_pos c16] at hF
    exact tb94_27 (l0 := y0) (l1 := (some a1)) (l2 := r6) hd   hF q
  · rw [if_neg c16] at hF
    refine zx_aload_n rfl rfl rfl ?_
    refine zx_iconst (v := 5) rfl rfl rfl ?_
    refine zy_rload_n rfl rfl rfl ?_
    replace hF := zgd_some hF
    obtain ⟨g17, hF⟩ := hF
    replace hF := zbnd hF
    obtain ⟨⟨r19, h20⟩, e18, hF⟩ := hF
    refine zx_callE rfl rfl rfl rfl (zrcv_isO g17) (congrArg (List.cons _) (congrArg (List.cons _) ((zsl_rf _ _).trans (congrArg (List.cons _) rfl)))) rfl (zc4 (Nat.le_of_ble_eq_true rfl)) (t70 (by omega) e18 ?_)
    rcases r19 with r19 | x21
    rotate_left 1
    · replace hF := zthH hF
      replace hF := zgd_some hF
      obtain ⟨gx, hF⟩ := hF
      replace hF := Option.some.inj hF
      subst hF
      exact zaX rfl gx q
    replace hF := zthG hF
    refine zaV (x := ()) ?_
    exact tb94_27 (l0 := y0) (l1 := (some a1)) (l2 := r6) hd   hF q
def b93_37 (n : Nat)   (l0 : Nat) (l1 : Option Nat) (h : zH) : Option ((Unit ⊕ Nat) × zH) :=
  (gR h l0 5 3).bind fun x1 =>
  x1.bind fun a3 =>
  (gR h a3 9 0).bind fun x4 =>
  zgd (isO h l0 5) <|
  (f71 n l0 x4 h).bind fun p11 => zth p11 (fun r8 h9 =>
    some (.inl (), h9))
    (fun x10 h9 =>
    zgd (exOk x10) <| some (.inr x10, h9))
set_option maxRecDepth 20000 in
theorem tb93_37 {d n : Nat} {Q : zRs → zH → Prop}   {l0 : Nat} {l1 : Option Nat}  {x2 : Option Value} (hd : 7 ≤ d)   {h : zH} {p : ((Unit ⊕ Nat) × zH)} (hx2 : zn2 x2 = true) (hF : b93_37 n   l0 l1 h = some p) (q : Q (eVx p.1) p.2) : zW d 93 37 [some (.ref l0), some (va_rf l1), x2] [] h Q := by
  unfold b93_37 at hF
  obtain ⟨d, rfl⟩ : ∃ e, d = e + 1 := ⟨d - 1, by omega⟩
  refine zx_aload_n rfl rfl rfl ?_
  refine zx_aload_n rfl rfl rfl ?_
  replace hF := zbnd hF
  obtain ⟨x1, e2, hF⟩ := hF
  refine zy_getR rfl rfl e2 ?_
  replace hF := zbnd hF
  obtain ⟨a3, rfl, hF⟩ := hF
  replace hF := zbnd hF
  obtain ⟨x4, e5, hF⟩ := hF
  refine zy_getR rfl rfl e5 ?_
  replace hF := zgd_some hF
  obtain ⟨g6, hF⟩ := hF
  replace hF := zbnd hF
  obtain ⟨⟨r8, h9⟩, e7, hF⟩ := hF
  refine zx_callE rfl rfl rfl rfl (zrcv_isO g6) (congrArg (List.cons _) ((zsl_rf _ _).trans (congrArg (List.cons _) rfl))) rfl (zc4 (Nat.le_of_ble_eq_true rfl)) (t71 (by omega) e7 ?_)
  rcases r8 with r8 | x10
  rotate_left 1
  · replace hF := zthH hF
    replace hF := zgd_some hF
    obtain ⟨gx, hF⟩ := hF
    replace hF := Option.some.inj hF
    subst hF
    exact zaX rfl gx q
  replace hF := zthG hF
  refine zaA ?_
  refine zx_pop rfl rfl (zc1_rf _) ?_
  replace hF := Option.some.inj hF
  subst hF
  exact zx_return rfl rfl rfl q
def b93_111 (n : Nat)   (l0 : Nat) (l1 : Option Nat) (l2 : Int32) (h : zH) : Option ((Unit ⊕ Nat) × zH) :=
  zgd (isO h l0 5) <|
  (f71 n l0 (some 9) h).bind fun p6 => zth p6 (fun r3 h4 =>
    some (.inl (), h4))
    (fun x5 h4 =>
    zgd (exOk x5) <| some (.inr x5, h4))
set_option maxRecDepth 20000 in
theorem tb93_111 {d n : Nat} {Q : zRs → zH → Prop}   {l0 : Nat} {l1 : Option Nat} {l2 : Int32}   (hd : 7 ≤ d)   {h : zH} {p : ((Unit ⊕ Nat) × zH)}  (hF : b93_111 n   l0 l1 l2 h = some p) (q : Q (eVx p.1) p.2) : zW d 93 111 [some (.ref l0), some (va_rf l1), some (.int l2)] [] h Q := by
  unfold b93_111 at hF
  obtain ⟨d, rfl⟩ : ∃ e, d = e + 1 := ⟨d - 1, by omega⟩
  refine zx_aload_n rfl rfl rfl ?_
  refine zx_gets rfl rfl rfl ?_
  replace hF := zgd_some hF
  obtain ⟨g1, hF⟩ := hF
  replace hF := zbnd hF
  obtain ⟨⟨r3, h4⟩, e2, hF⟩ := hF
  refine zx_callE rfl rfl rfl rfl (zrcv_isO g1) rfl rfl (zc4 (Nat.le_of_ble_eq_true rfl)) (t71 (by omega) e2 ?_)
  rcases r3 with r3 | x5
  rotate_left 1
  · replace hF := zthH hF
    replace hF := zgd_some hF
    obtain ⟨gx, hF⟩ := hF
    replace hF := Option.some.inj hF
    subst hF
    exact zaX rfl gx q
  replace hF := zthG hF
  refine zaA ?_
  refine zx_pop rfl rfl (zc1_rf _) ?_
  replace hF := Option.some.inj hF
  subst hF
  exact zx_return rfl rfl rfl q
def b93_73 (n : Nat)  (r73 : Nat → Option Nat → Int32 → zH → Option ((Unit ⊕ Nat) × zH)) (l0 : Nat) (l1 : Option Nat) (l2 : Int32) (h : zH) : Option ((Unit ⊕ Nat) × zH) :=
  if (8 : Int32) ≤ l2 then
    b93_111 n  l0 l1 l2 h
  else
    (gR h l0 5 3).bind fun x2 =>
    x2.bind fun a4 =>
    (gR h a4 9 0).bind fun x5 =>
    (rEq x5 (some 11)).bind fun b7 =>
    if b7 = true then
      zgd (isO h l0 5) <|
      (f71 n l0 (some 11) h).bind fun p15 => zth p15 (fun r12 h13 =>
        zgd (isO h13 l0 5) <|
        (f94 n l0 l1 h13).bind fun p21 => zth p21 (fun r18 h19 =>
          r73 l0 l1 (l2 + 1) h19)
          (fun x20 h19 =>
          zgd (exOk x20) <| some (.inr x20, h19)))
        (fun x14 h13 =>
        zgd (exOk x14) <| some (.inr x14, h13))
    else
      b93_111 n  l0 l1 l2 h
set_option maxRecDepth 20000 in
theorem tb93_73 {d n : Nat} {Q : zRs → zH → Prop}  {r73 : Nat → Option Nat → Int32 → zH → Option ((Unit ⊕ Nat) × zH)} {l0 : Nat} {l1 : Option Nat} {l2 : Int32}   (hd : 7 ≤ d)  (hr73 : ∀ {l0 : Nat} {l1 : Option Nat} {l2 : Int32}   {h : zH} {p : ((Unit ⊕ Nat) × zH)}, r73 l0 l1 l2 h = some p → Q (eVx p.1) p.2 → zW d 93 73 [some (.ref l0), some (va_rf l1), some (.int l2)] [] h Q) {h : zH} {p : ((Unit ⊕ Nat) × zH)}  (hF : b93_73 n  r73 l0 l1 l2 h = some p) (q : Q (eVx p.1) p.2) : zW d 93 73 [some (.ref l0), some (va_rf l1), some (.int l2)] [] h Q := by
  unfold b93_73 at hF
  obtain ⟨d, rfl⟩ : ∃ e, d = e + 1 := ⟨d - 1, by omega⟩
  refine zx_iload_n rfl rfl rfl ?_
  refine zx_bipush (v := 8) rfl rfl rfl ?_
  refine zx_ic_ge rfl rfl (fun c1 => ?_) (fun c1 => ?_)
  · rw [if_pos c1] at hF
    exact tb93_111 (l0 := l0) (l1 := l1) (l2 := l2) hd   hF q
  · rw [if_neg c1] at hF
    refine zx_aload_n rfl rfl rfl ?_
    replace hF := zbnd hF
    obtain ⟨x2, e3, hF⟩ := hF
    refine zy_getR rfl rfl e3 ?_
    replace hF := zbnd hF
    obtain ⟨a4, rfl, hF⟩ := hF
    replace hF := zbnd hF
    obtain ⟨x5, e6, hF⟩ := hF
    refine zy_getR rfl rfl e6 ?_
    refine zx_gets rfl rfl rfl ?_
    replace hF := zbnd hF
    obtain ⟨b7, e8, hF⟩ := hF
    refine zy_ane rfl rfl e8 (fun c9 => ?_) (fun c9 => ?_)
    · rw [if_neg (by rw [c9]; exact Bool.false_ne_true)] at hF
      exact tb93_111 (l0 := l0) (l1 := l1) (l2 := l2) hd   hF q
    · rw [if_pos c9] at hF
      refine zx_aload_n rfl rfl rfl ?_
      refine zx_gets rfl rfl rfl ?_
      replace hF := zgd_some hF
      obtain ⟨g10, hF⟩ := hF
      replace hF := zbnd hF
      obtain ⟨⟨r12, h13⟩, e11, hF⟩ := hF
      refine zx_callE rfl rfl rfl rfl (zrcv_isO g10) rfl rfl (zc4 (Nat.le_of_ble_eq_true rfl)) (t71 (by omega) e11 ?_)
      rcases r12 with r12 | x14
      rotate_left 1
      · replace hF := zthH hF
        replace hF := zgd_some hF
        obtain ⟨gx, hF⟩ := hF
        replace hF := Option.some.inj hF
        subst hF
        exact zaX rfl gx q
      replace hF := zthG hF
      refine zaA ?_
      refine zx_pop rfl rfl (zc1_rf _) ?_
      refine zx_aload_n rfl rfl rfl ?_
      refine zy_rload_n rfl rfl rfl ?_
      replace hF := zgd_some hF
      obtain ⟨g16, hF⟩ := hF
      replace hF := zbnd hF
      obtain ⟨⟨r18, h19⟩, e17, hF⟩ := hF
      refine zx_callE rfl rfl rfl rfl (zrcv_isO g16) (congrArg (List.cons _) ((zsl_rf _ _).trans (congrArg (List.cons _) rfl))) rfl (zc4 (Nat.le_of_ble_eq_true rfl)) (t94 (by omega) e17 ?_)
      rcases r18 with r18 | x20
      rotate_left 1
      · replace hF := zthH hF
        replace hF := zgd_some hF
        obtain ⟨gx, hF⟩ := hF
        replace hF := Option.some.inj hF
        subst hF
        exact zaX rfl gx q
      replace hF := zthG hF
      refine zaV (x := ()) ?_
      refine zx_iinc (w := 1) rfl rfl rfl rfl (zput_ok (L' := [some (.ref l0), some (va_rf l1), some (.int (l2 + 1))]) rfl (zcl_X (j := 1) rfl (zn2_rf _)) rfl) ?_
      refine zx_goto rfl rfl ?_
      exact hr73  hF q
def f93_73 (n : Nat)   (k : Nat) : Nat → Option Nat → Int32 → zH → Option ((Unit ⊕ Nat) × zH) := Nat.rec (fun _ _ _ _ => none) (fun _ ih => b93_73 n  ih) k
theorem tf93_73 {d n : Nat} {Q : zRs → zH → Prop}   (hd : 7 ≤ d)   (k : Nat) : ∀ {l0 : Nat} {l1 : Option Nat} {l2 : Int32}   {h : zH} {p : ((Unit ⊕ Nat) × zH)}, f93_73 n   k l0 l1 l2 h = some p → Q (eVx p.1) p.2 → zW d 93 73 [some (.ref l0), some (va_rf l1), some (.int l2)] [] h Q := by
  induction k with
  | zero => intros; rename_i hF _; cases hF
  | succ k ih => intros; rename_i  hF q; exact tb93_73 (n := n) hd  ih  hF q
def f93 (n : Nat)  (y0 : Nat) (y1 : Option Nat) (h : zH) : Option ((Unit ⊕ Nat) × zH) :=
  (gR h y0 5 3).bind fun x1 =>
  x1.bind fun a3 =>
  (gR h a3 9 0).bind fun x4 =>
  y1.bind fun a6 =>
  (pF h a6 0 0 (va_rf x4)).bind fun h7 =>
  (gR h7 y0 5 3).bind fun x9 =>
  x9.bind fun a11 =>
  (gR h7 a11 9 0).bind fun x12 =>
  (rEq x12 (some 16)).bind fun b14 =>
  if b14 = true then
    b93_37 n  y0 (some a6) h7
  else
    (gR h7 y0 5 3).bind fun x17 =>
    x17.bind fun a19 =>
    (gR h7 a19 9 0).bind fun x20 =>
    (rEq x20 (some 17)).bind fun b22 =>
    if b22 = true then
      b93_37 n  y0 (some a6) h7
    else
      zgd (isO h7 y0 5) <|
      (f71 n y0 (some 18) h7).bind fun p30 => zth p30 (fun r27 h28 =>
        zgd (isO h28 y0 5) <|
        (f71 n y0 (some 8) h28).bind fun p36 => zth p36 (fun r33 h34 =>
          zgd (isO h34 y0 5) <|
          (f94 n y0 (some a6) h34).bind fun p42 => zth p42 (fun r39 h40 =>
            f93_73 n  n y0 (some a6) 0 h40)
            (fun x41 h40 =>
            zgd (exOk x41) <| some (.inr x41, h40)))
          (fun x35 h34 =>
          zgd (exOk x35) <| some (.inr x35, h34)))
        (fun x29 h28 =>
        zgd (exOk x29) <| some (.inr x29, h28))
set_option maxRecDepth 20000 in
theorem t93 {d n : Nat} {Q : zRs → zH → Prop}  {y0 : Nat} {y1 : Option Nat} (hd : 7 ≤ d)  {h : zH} {p : ((Unit ⊕ Nat) × zH)} (hF : f93 n  y0 y1 h = some p) (q : Q (eVx p.1) p.2) : zC d 93 [.ref y0, va_rf y1] h Q := by
  refine zC_of (L := [some (.ref y0), some (va_rf y1), none]) (congrArg (List.cons _) ((zsl_rf _ _).trans (congrArg (List.cons _) rfl))) rfl ?_
  unfold f93 at hF
  obtain ⟨d, rfl⟩ : ∃ e, d = e + 1 := ⟨d - 1, by omega⟩
  refine zy_rload_n rfl rfl rfl ?_
  refine zx_aload_n rfl rfl rfl ?_
  replace hF := zbnd hF
  obtain ⟨x1, e2, hF⟩ := hF
  refine zy_getR rfl rfl e2 ?_
  replace hF := zbnd hF
  obtain ⟨a3, rfl, hF⟩ := hF
  replace hF := zbnd hF
  obtain ⟨x4, e5, hF⟩ := hF
  refine zy_getR rfl rfl e5 ?_
  replace hF := zbnd hF
  obtain ⟨a6, rfl, hF⟩ := hF
  replace hF := zbnd hF
  obtain ⟨h7, e8, hF⟩ := hF
  refine zy_put rfl rfl e8 ?_
  refine zx_aload_n rfl rfl rfl ?_
  replace hF := zbnd hF
  obtain ⟨x9, e10, hF⟩ := hF
  refine zy_getR rfl rfl e10 ?_
  replace hF := zbnd hF
  obtain ⟨a11, rfl, hF⟩ := hF
  replace hF := zbnd hF
  obtain ⟨x12, e13, hF⟩ := hF
  refine zy_getR rfl rfl e13 ?_
  refine zx_gets rfl rfl rfl ?_
  replace hF := zbnd hF
  obtain ⟨b14, e15, hF⟩ := hF
  refine zy_aeq rfl rfl e15 (fun c16 => ?_) (fun c16 => ?_)
  · rw [if_pos c16] at hF
    exact tb93_37 (l0 := y0) (l1 := (some a6)) hd  rfl hF q
  · rw [if_neg (by rw [c16]; exact Bool.false_ne_true)] at hF
    refine zx_aload_n rfl rfl rfl ?_
    replace hF := zbnd hF
    obtain ⟨x17, e18, hF⟩ := hF
    refine zy_getR rfl rfl e18 ?_
    replace hF := zbnd hF
    obtain ⟨a19, rfl, hF⟩ := hF
    replace hF := zbnd hF
    obtain ⟨x20, e21, hF⟩ := hF
    refine zy_getR rfl rfl e21 ?_
    refine zx_gets rfl rfl rfl ?_
    replace hF := zbnd hF
    obtain ⟨b22, e23, hF⟩ := hF
    refine zy_ane rfl rfl e23 (fun c24 => ?_) (fun c24 => ?_)
    · rw [if_neg (by rw [c24]; exact Bool.false_ne_true)] at hF
      refine zx_aload_n rfl rfl rfl ?_
      refine zx_gets rfl rfl rfl ?_
      replace hF := zgd_some hF
      obtain ⟨g25, hF⟩ := hF
      replace hF := zbnd hF
      obtain ⟨⟨r27, h28⟩, e26, hF⟩ := hF
      refine zx_callE rfl rfl rfl rfl (zrcv_isO g25) rfl rfl (zc4 (Nat.le_of_ble_eq_true rfl)) (t71 (by omega) e26 ?_)
      rcases r27 with r27 | x29
      rotate_left 1
      · replace hF := zthH hF
        replace hF := zgd_some hF
        obtain ⟨gx, hF⟩ := hF
        replace hF := Option.some.inj hF
        subst hF
        exact zaX rfl gx q
      replace hF := zthG hF
      refine zaA ?_
      refine zx_pop rfl rfl (zc1_rf _) ?_
      refine zx_aload_n rfl rfl rfl ?_
      refine zx_gets rfl rfl rfl ?_
      replace hF := zgd_some hF
      obtain ⟨g31, hF⟩ := hF
      replace hF := zbnd hF
      obtain ⟨⟨r33, h34⟩, e32, hF⟩ := hF
      refine zx_callE rfl rfl rfl rfl (zrcv_isO g31) rfl rfl (zc4 (Nat.le_of_ble_eq_true rfl)) (t71 (by omega) e32 ?_)
      rcases r33 with r33 | x35
      rotate_left 1
      · replace hF := zthH hF
        replace hF := zgd_some hF
        obtain ⟨gx, hF⟩ := hF
        replace hF := Option.some.inj hF
        subst hF
        exact zaX rfl gx q
      replace hF := zthG hF
      refine zaA ?_
      refine zx_pop rfl rfl (zc1_rf _) ?_
      refine zx_aload_n rfl rfl rfl ?_
      refine zx_aload_n rfl rfl rfl ?_
      replace hF := zgd_some hF
      obtain ⟨g37, hF⟩ := hF
      replace hF := zbnd hF
      obtain ⟨⟨r39, h40⟩, e38, hF⟩ := hF
      refine zx_callE rfl rfl rfl rfl (zrcv_isO g37) rfl rfl (zc4 (Nat.le_of_ble_eq_true rfl)) (t94 (by omega) e38 ?_)
      rcases r39 with r39 | x41
      rotate_left 1
      · replace hF := zthH hF
        replace hF := zgd_some hF
        obtain ⟨gx, hF⟩ := hF
        replace hF := Option.some.inj hF
        subst hF
        exact zaX rfl gx q
      replace hF := zthG hF
      refine zaV (x := ()) ?_
      refine zx_iconst (v := 0) rfl rfl rfl ?_
      refine zx_istore_n rfl rfl rfl ?_
      exact tf93_73 hd  n (l0 := y0) (l1 := (some a6)) (l2 := 0)  hF q
    · rw [if_pos c24] at hF
      exact tb93_37 (l0 := y0) (l1 := (some a6)) hd  rfl hF q
def f97 (n : Nat)  (y0 : Nat) (h : zH) : Option (Int32 × zH) :=
  (gI h y0 7 4).bind fun x1 =>
  (gR h y0 7 2).bind fun x3 =>
  x3.bind fun a5 =>
  (aN h a5).bind fun x6 =>
  if x1 < x6 then
    some (0, h)
  else
    some (1, h)
set_option maxRecDepth 20000 in
theorem t97 {d n : Nat} {Q : zRs → zH → Prop}  {y0 : Nat} (hd : 0 ≤ d)  {h : zH} {p : (Int32 × zH)} (hF : f97 n  y0 h = some p) (q : Q (eI p.1) p.2) : zC d 97 [.ref y0] h Q := by
  refine zC_of (L := [some (.ref y0)]) rfl rfl ?_
  unfold f97 at hF
  refine zx_aload_n rfl rfl rfl ?_
  replace hF := zbnd hF
  obtain ⟨x1, e2, hF⟩ := hF
  refine zy_getI rfl rfl e2 ?_
  refine zx_aload_n rfl rfl rfl ?_
  replace hF := zbnd hF
  obtain ⟨x3, e4, hF⟩ := hF
  refine zy_getR rfl rfl e4 ?_
  replace hF := zbnd hF
  obtain ⟨a5, rfl, hF⟩ := hF
  replace hF := zbnd hF
  obtain ⟨x6, e7, hF⟩ := hF
  refine zy_alen rfl rfl e7 ?_
  refine zx_ic_lt rfl rfl (fun c8 => ?_) (fun c8 => ?_)
  · rw [if_pos c8] at hF
    refine zx_iconst (v := 0) rfl rfl rfl ?_
    replace hF := Option.some.inj hF
    subst hF
    exact zx_bret rfl rfl rfl rfl q
  · rw [if_neg c8] at hF
    refine zx_iconst (v := 1) rfl rfl rfl ?_
    refine zx_goto rfl rfl ?_
    replace hF := Option.some.inj hF
    subst hF
    exact zx_bret rfl rfl rfl rfl q
def b98_41 (n : Nat)   (l0 : Nat) (l1 : Int32) (l2 : Option Nat) (h : zH) : Option ((Int32 ⊕ Nat) × zH) :=
  l2.bind fun a1 =>
  (gI h a1 9 4).bind fun x2 =>
  some (.inl x2, h)
set_option maxRecDepth 20000 in
theorem tb98_41 {d n : Nat} {Q : zRs → zH → Prop}   {l0 : Nat} {l1 : Int32} {l2 : Option Nat}   (hd : 2 ≤ d)   {h : zH} {p : ((Int32 ⊕ Nat) × zH)}  (hF : b98_41 n   l0 l1 l2 h = some p) (q : Q (eIx p.1) p.2) : zW d 98 41 [some (.ref l0), some (.int l1), some (va_rf l2)] [] h Q := by
  unfold b98_41 at hF
  obtain ⟨d, rfl⟩ : ∃ e, d = e + 1 := ⟨d - 1, by omega⟩
  refine zy_rload_n rfl rfl rfl ?_
  replace hF := zbnd hF
  obtain ⟨a1, rfl, hF⟩ := hF
  replace hF := zbnd hF
  obtain ⟨x2, e3, hF⟩ := hF
  refine zy_getI rfl rfl e3 ?_
  replace hF := Option.some.inj hF
  subst hF
  exact zx_bret rfl rfl rfl rfl q
def b98_31 (n : Nat)   (l0 : Nat) (l1 : Int32) (l2 : Option Nat) (h : zH) : Option ((Int32 ⊕ Nat) × zH) :=
  if l1 = 0 then
    b98_41 n  l0 l1 l2 h
  else
    zgd (isO h l0 5) <|
    (f70 n l0 5 l2 h).bind fun p7 => zth p7 (fun r4 h5 =>
      b98_41 n  l0 l1 l2 h5)
      (fun x6 h5 =>
      zgd (exOk x6) <| some (.inr x6, h5))
set_option maxRecDepth 20000 in
theorem tb98_31 {d n : Nat} {Q : zRs → zH → Prop}   {l0 : Nat} {l1 : Int32} {l2 : Option Nat}   (hd : 2 ≤ d)   {h : zH} {p : ((Int32 ⊕ Nat) × zH)}  (hF : b98_31 n   l0 l1 l2 h = some p) (q : Q (eIx p.1) p.2) : zW d 98 31 [some (.ref l0), some (.int l1), some (va_rf l2)] [] h Q := by
  unfold b98_31 at hF
  obtain ⟨d, rfl⟩ : ∃ e, d = e + 1 := ⟨d - 1, by omega⟩
  refine zx_iload_n rfl rfl rfl ?_
  refine zx_if_eq rfl rfl (fun c1 => ?_) (fun c1 => ?_)
  · rw [if_pos c1] at hF
    exact tb98_41 (l0 := l0) (l1 := l1) (l2 := l2) hd   hF q
  · rw [if_neg c1] at hF
    refine zx_aload_n rfl rfl rfl ?_
    refine zx_iconst (v := 5) rfl rfl rfl ?_
    refine zy_rload_n rfl rfl rfl ?_
    replace hF := zgd_some hF
    obtain ⟨g2, hF⟩ := hF
    replace hF := zbnd hF
    obtain ⟨⟨r4, h5⟩, e3, hF⟩ := hF
    refine zx_callE rfl rfl rfl rfl (zrcv_isO g2) (congrArg (List.cons _) (congrArg (List.cons _) ((zsl_rf _ _).trans (congrArg (List.cons _) rfl)))) rfl (zc4 (Nat.le_of_ble_eq_true rfl)) (t70 (by omega) e3 ?_)
    rcases r4 with r4 | x6
    rotate_left 1
    · replace hF := zthH hF
      replace hF := zgd_some hF
      obtain ⟨gx, hF⟩ := hF
      replace hF := Option.some.inj hF
      subst hF
      exact zaX rfl gx q
    replace hF := zthG hF
    refine zaV (x := ()) ?_
    exact tb98_41 (l0 := l0) (l1 := l1) (l2 := l2) hd   hF q
def b98_25 (n : Nat)   (l0 : Nat) (l1 : Int32) (l2 : Option Nat) (h : zH) : Option ((Int32 ⊕ Nat) × zH) :=
  zgd (isO h l0 5) <|
  (f70 n l0 4 l2 h).bind fun p6 => zth p6 (fun r3 h4 =>
    b98_31 n  l0 l1 l2 h4)
    (fun x5 h4 =>
    zgd (exOk x5) <| some (.inr x5, h4))
set_option maxRecDepth 20000 in
theorem tb98_25 {d n : Nat} {Q : zRs → zH → Prop}   {l0 : Nat} {l1 : Int32} {l2 : Option Nat}   (hd : 2 ≤ d)   {h : zH} {p : ((Int32 ⊕ Nat) × zH)}  (hF : b98_25 n   l0 l1 l2 h = some p) (q : Q (eIx p.1) p.2) : zW d 98 25 [some (.ref l0), some (.int l1), some (va_rf l2)] [] h Q := by
  unfold b98_25 at hF
  obtain ⟨d, rfl⟩ : ∃ e, d = e + 1 := ⟨d - 1, by omega⟩
  refine zx_aload_n rfl rfl rfl ?_
  refine zx_iconst (v := 4) rfl rfl rfl ?_
  refine zy_rload_n rfl rfl rfl ?_
  replace hF := zgd_some hF
  obtain ⟨g1, hF⟩ := hF
  replace hF := zbnd hF
  obtain ⟨⟨r3, h4⟩, e2, hF⟩ := hF
  refine zx_callE rfl rfl rfl rfl (zrcv_isO g1) (congrArg (List.cons _) (congrArg (List.cons _) ((zsl_rf _ _).trans (congrArg (List.cons _) rfl)))) rfl (zc4 (Nat.le_of_ble_eq_true rfl)) (t70 (by omega) e2 ?_)
  rcases r3 with r3 | x5
  rotate_left 1
  · replace hF := zthH hF
    replace hF := zgd_some hF
    obtain ⟨gx, hF⟩ := hF
    replace hF := Option.some.inj hF
    subst hF
    exact zaX rfl gx q
  replace hF := zthG hF
  refine zaV (x := ()) ?_
  exact tb98_31 (l0 := l0) (l1 := l1) (l2 := l2) hd   hF q
def f98 (n : Nat)  (y0 : Nat) (y1 : Int32) (h : zH) : Option ((Int32 ⊕ Nat) × zH) :=
  zgd (isO h y0 5) <|
  (f71 n y0 (some 4) h).bind fun p6 => zth p6 (fun r3 h4 =>
    r3.bind fun a7 =>
    (gI h4 a7 9 4).bind fun x8 =>
    if x8 < 0 then
      b98_25 n  y0 y1 (some a7) h4
    else
      (gI h4 a7 9 4).bind fun x11 =>
      if x11 ≤ 10000 then
        b98_31 n  y0 y1 (some a7) h4
      else
        b98_25 n  y0 y1 (some a7) h4)
    (fun x5 h4 =>
    zgd (exOk x5) <| some (.inr x5, h4))
set_option maxRecDepth 20000 in
theorem t98 {d n : Nat} {Q : zRs → zH → Prop}  {y0 : Nat} {y1 : Int32} (hd : 2 ≤ d)  {h : zH} {p : ((Int32 ⊕ Nat) × zH)} (hF : f98 n  y0 y1 h = some p) (q : Q (eIx p.1) p.2) : zC d 98 [.ref y0, .int y1] h Q := by
  refine zC_of (L := [some (.ref y0), some (.int y1), none]) rfl rfl ?_
  unfold f98 at hF
  obtain ⟨d, rfl⟩ : ∃ e, d = e + 1 := ⟨d - 1, by omega⟩
  refine zx_aload_n rfl rfl rfl ?_
  refine zx_gets rfl rfl rfl ?_
  replace hF := zgd_some hF
  obtain ⟨g1, hF⟩ := hF
  replace hF := zbnd hF
  obtain ⟨⟨r3, h4⟩, e2, hF⟩ := hF
  refine zx_callE rfl rfl rfl rfl (zrcv_isO g1) rfl rfl (zc4 (Nat.le_of_ble_eq_true rfl)) (t71 (by omega) e2 ?_)
  rcases r3 with r3 | x5
  rotate_left 1
  · replace hF := zthH hF
    replace hF := zgd_some hF
    obtain ⟨gx, hF⟩ := hF
    replace hF := Option.some.inj hF
    subst hF
    exact zaX rfl gx q
  replace hF := zthG hF
  refine zaA ?_
  refine zy_rstore_n rfl rfl rfl ?_
  refine zy_rload_n rfl rfl rfl ?_
  replace hF := zbnd hF
  obtain ⟨a7, rfl, hF⟩ := hF
  replace hF := zbnd hF
  obtain ⟨x8, e9, hF⟩ := hF
  refine zy_getI rfl rfl e9 ?_
  refine zx_if_lt rfl rfl (fun c10 => ?_) (fun c10 => ?_)
  · rw [if_pos c10] at hF
    exact tb98_25 (l0 := y0) (l1 := y1) (l2 := (some a7)) hd   hF q
  · rw [if_neg c10] at hF
    refine zx_aload_n rfl rfl rfl ?_
    replace hF := zbnd hF
    obtain ⟨x11, e12, hF⟩ := hF
    refine zy_getI rfl rfl e12 ?_
    refine zx_sipush (v := 10000) rfl rfl rfl ?_
    refine zx_ic_le rfl rfl (fun c13 => ?_) (fun c13 => ?_)
    · rw [if_pos c13] at hF
      exact tb98_31 (l0 := y0) (l1 := y1) (l2 := (some a7)) hd   hF q
    · rw [if_neg c13] at hF
      exact tb98_25 (l0 := y0) (l1 := y1) (l2 := (some a7)) hd   hF q
def f100 (n : Nat)  (y0 : Nat) (y1 : Option Nat) (h : zH) : Option (Int32 × zH) :=
  (gR h y0 0 0).bind fun x1 =>
  (rEq x1 (some 16)).bind fun b3 =>
  if b3 = true then
    y1.bind fun a6 =>
    (gR h a6 9 0).bind fun x7 =>
    (rEq x7 (some 34)).bind fun b9 =>
    if b9 = true then
      some (1, h)
    else
      (gR h a6 9 0).bind fun x12 =>
      (rEq x12 (some 35)).bind fun b14 =>
      if b14 = true then
        some (1, h)
      else
        some (0, h)
  else
    (gR h y0 0 0).bind fun x17 =>
    (rEq x17 (some 17)).bind fun b19 =>
    if b19 = true then
      y1.bind fun a22 =>
      (gR h a22 9 0).bind fun x23 =>
      (rEq x23 (some 4)).bind fun b25 =>
      if b25 = true then
        some (1, h)
      else
        some (0, h)
    else
      y1.bind fun a28 =>
      (gR h a28 9 0).bind fun x29 =>
      (rEq x29 (some 3)).bind fun b31 =>
      if b31 = true then
        (gR h y0 0 1).bind fun x34 =>
        (gR h a28 9 3).bind fun x36 =>
        (f73 n x34 x36 h).bind fun p39 =>
        if p39.1 = (-1) then
          some (0, p39.2)
        else
          some (1, p39.2)
      else
        some (0, h)
set_option maxRecDepth 20000 in
theorem t100 {d n : Nat} {Q : zRs → zH → Prop}  {y0 : Nat} {y1 : Option Nat} (hd : 4 ≤ d)  {h : zH} {p : (Int32 × zH)} (hF : f100 n  y0 y1 h = some p) (q : Q (eI p.1) p.2) : zC d 100 [.ref y0, va_rf y1] h Q := by
  refine zC_of (L := [some (.ref y0), some (va_rf y1)]) (congrArg (List.cons _) ((zsl_rf _ _).trans (congrArg (List.cons _) rfl))) rfl ?_
  unfold f100 at hF
  obtain ⟨d, rfl⟩ : ∃ e, d = e + 1 := ⟨d - 1, by omega⟩
  refine zx_aload_n rfl rfl rfl ?_
  replace hF := zbnd hF
  obtain ⟨x1, e2, hF⟩ := hF
  refine zy_getR rfl rfl e2 ?_
  refine zx_gets rfl rfl rfl ?_
  replace hF := zbnd hF
  obtain ⟨b3, e4, hF⟩ := hF
  refine zy_ane rfl rfl e4 (fun c5 => ?_) (fun c5 => ?_)
  · rw [if_neg (by rw [c5]; exact Bool.false_ne_true)] at hF
    refine zx_aload_n rfl rfl rfl ?_
    replace hF := zbnd hF
    obtain ⟨x17, e18, hF⟩ := hF
    refine zy_getR rfl rfl e18 ?_
    refine zx_gets rfl rfl rfl ?_
    replace hF := zbnd hF
    obtain ⟨b19, e20, hF⟩ := hF
    refine zy_ane rfl rfl e20 (fun c21 => ?_) (fun c21 => ?_)
    · rw [if_neg (by rw [c21]; exact Bool.false_ne_true)] at hF
      refine zy_rload_n rfl rfl rfl ?_
      replace hF := zbnd hF
      obtain ⟨a28, rfl, hF⟩ := hF
      replace hF := zbnd hF
      obtain ⟨x29, e30, hF⟩ := hF
      refine zy_getR rfl rfl e30 ?_
      refine zx_gets rfl rfl rfl ?_
      replace hF := zbnd hF
      obtain ⟨b31, e32, hF⟩ := hF
      refine zy_ane rfl rfl e32 (fun c33 => ?_) (fun c33 => ?_)
      · rw [if_neg (by rw [c33]; exact Bool.false_ne_true)] at hF
        refine zx_iconst (v := 0) rfl rfl rfl ?_
        replace hF := Option.some.inj hF
        subst hF
        exact zx_bret rfl rfl rfl rfl q
      · rw [if_pos c33] at hF
        refine zx_aload_n rfl rfl rfl ?_
        replace hF := zbnd hF
        obtain ⟨x34, e35, hF⟩ := hF
        refine zy_getR rfl rfl e35 ?_
        refine zx_aload_n rfl rfl rfl ?_
        replace hF := zbnd hF
        obtain ⟨x36, e37, hF⟩ := hF
        refine zy_getR rfl rfl e37 ?_
        replace hF := zbnd hF
        obtain ⟨p39, e38, hF⟩ := hF
        refine zx_callF rfl rfl rfl rfl rfl ((zsl_rf _ _).trans (congrArg (List.cons _) ((zsl_rf _ _).trans (congrArg (List.cons _) rfl)))) rfl (zc4 (Nat.le_of_ble_eq_true rfl)) (t73 (by omega) e38 (zaI ?_))
        refine zx_iconst (v := (-1)) rfl rfl rfl ?_
        refine zx_ic_eq rfl rfl (fun c40 => ?_) (fun c40 => ?_)
        · rw [if_pos c40] at hF
          refine zx_iconst (v := 0) rfl rfl rfl ?_
          replace hF := Option.some.inj hF
          subst hF
          exact zx_bret rfl rfl rfl rfl q
        · rw [if_neg c40] at hF
          refine zx_iconst (v := 1) rfl rfl rfl ?_
          refine zx_goto rfl rfl ?_
          replace hF := Option.some.inj hF
          subst hF
          exact zx_bret rfl rfl rfl rfl q
    · rw [if_pos c21] at hF
      refine zy_rload_n rfl rfl rfl ?_
      replace hF := zbnd hF
      obtain ⟨a22, rfl, hF⟩ := hF
      replace hF := zbnd hF
      obtain ⟨x23, e24, hF⟩ := hF
      refine zy_getR rfl rfl e24 ?_
      refine zx_gets rfl rfl rfl ?_
      replace hF := zbnd hF
      obtain ⟨b25, e26, hF⟩ := hF
      refine zy_ane rfl rfl e26 (fun c27 => ?_) (fun c27 => ?_)
      · rw [if_neg (by rw [c27]; exact Bool.false_ne_true)] at hF
        refine zx_iconst (v := 0) rfl rfl rfl ?_
        replace hF := Option.some.inj hF
        subst hF
        exact zx_bret rfl rfl rfl rfl q
      · rw [if_pos c27] at hF
        refine zx_iconst (v := 1) rfl rfl rfl ?_
        refine zx_goto rfl rfl ?_
        replace hF := Option.some.inj hF
        subst hF
        exact zx_bret rfl rfl rfl rfl q
  · rw [if_pos c5] at hF
    refine zy_rload_n rfl rfl rfl ?_
    replace hF := zbnd hF
    obtain ⟨a6, rfl, hF⟩ := hF
    replace hF := zbnd hF
    obtain ⟨x7, e8, hF⟩ := hF
    refine zy_getR rfl rfl e8 ?_
    refine zx_gets rfl rfl rfl ?_
    replace hF := zbnd hF
    obtain ⟨b9, e10, hF⟩ := hF
    refine zy_aeq rfl rfl e10 (fun c11 => ?_) (fun c11 => ?_)
    · rw [if_pos c11] at hF
      refine zx_iconst (v := 1) rfl rfl rfl ?_
      refine zx_goto rfl rfl ?_
      replace hF := Option.some.inj hF
      subst hF
      exact zx_bret rfl rfl rfl rfl q
    · rw [if_neg (by rw [c11]; exact Bool.false_ne_true)] at hF
      refine zx_aload_n rfl rfl rfl ?_
      replace hF := zbnd hF
      obtain ⟨x12, e13, hF⟩ := hF
      refine zy_getR rfl rfl e13 ?_
      refine zx_gets rfl rfl rfl ?_
      replace hF := zbnd hF
      obtain ⟨b14, e15, hF⟩ := hF
      refine zy_ane rfl rfl e15 (fun c16 => ?_) (fun c16 => ?_)
      · rw [if_neg (by rw [c16]; exact Bool.false_ne_true)] at hF
        refine zx_iconst (v := 0) rfl rfl rfl ?_
        replace hF := Option.some.inj hF
        subst hF
        exact zx_bret rfl rfl rfl rfl q
      · rw [if_pos c16] at hF
        refine zx_iconst (v := 1) rfl rfl rfl ?_
        refine zx_goto rfl rfl ?_
        replace hF := Option.some.inj hF
        subst hF
        exact zx_bret rfl rfl rfl rfl q
def f101 (n : Nat)  (y0 : Nat) (y1 : Option Nat) (h : zH) : Option (Int32 × zH) :=
  (gR h y0 0 0).bind fun x1 =>
  (rEq x1 (some 16)).bind fun b3 =>
  if b3 = true then
    y1.bind fun a6 =>
    (gR h a6 9 0).bind fun x7 =>
    (rEq x7 (some 34)).bind fun b9 =>
    if b9 = true then
      some (1, h)
    else
      some (0, h)
  else
    (gR h y0 0 0).bind fun x12 =>
    (rEq x12 (some 17)).bind fun b14 =>
    if b14 = true then
      y1.bind fun a17 =>
      (gI h a17 9 4).bind fun x18 =>
      some (x18, h)
    else
      (gR h y0 0 1).bind fun x20 =>
      y1.bind fun a22 =>
      (gR h a22 9 3).bind fun x23 =>
      (f73 n x20 x23 h).bind fun p26 =>
      some (p26.1, p26.2)
set_option maxRecDepth 20000 in
theorem t101 {d n : Nat} {Q : zRs → zH → Prop}  {y0 : Nat} {y1 : Option Nat} (hd : 4 ≤ d)  {h : zH} {p : (Int32 × zH)} (hF : f101 n  y0 y1 h = some p) (q : Q (eI p.1) p.2) : zC d 101 [.ref y0, va_rf y1] h Q := by
  refine zC_of (L := [some (.ref y0), some (va_rf y1)]) (congrArg (List.cons _) ((zsl_rf _ _).trans (congrArg (List.cons _) rfl))) rfl ?_
  unfold f101 at hF
  obtain ⟨d, rfl⟩ : ∃ e, d = e + 1 := ⟨d - 1, by omega⟩
  refine zx_aload_n rfl rfl rfl ?_
  replace hF := zbnd hF
  obtain ⟨x1, e2, hF⟩ := hF
  refine zy_getR rfl rfl e2 ?_
  refine zx_gets rfl rfl rfl ?_
  replace hF := zbnd hF
  obtain ⟨b3, e4, hF⟩ := hF
  refine zy_ane rfl rfl e4 (fun c5 => ?_) (fun c5 => ?_)
  · rw [if_neg (by rw [c5]; exact Bool.false_ne_true)] at hF
    refine zx_aload_n rfl rfl rfl ?_
    replace hF := zbnd hF
    obtain ⟨x12, e13, hF⟩ := hF
    refine zy_getR rfl rfl e13 ?_
    refine zx_gets rfl rfl rfl ?_
    replace hF := zbnd hF
    obtain ⟨b14, e15, hF⟩ := hF
    refine zy_ane rfl rfl e15 (fun c16 => ?_) (fun c16 => ?_)
    · rw [if_neg (by rw [c16]; exact Bool.false_ne_true)] at hF
      refine zx_aload_n rfl rfl rfl ?_
      replace hF := zbnd hF
      obtain ⟨x20, e21, hF⟩ := hF
      refine zy_getR rfl rfl e21 ?_
      refine zy_rload_n rfl rfl rfl ?_
      replace hF := zbnd hF
      obtain ⟨a22, rfl, hF⟩ := hF
      replace hF := zbnd hF
      obtain ⟨x23, e24, hF⟩ := hF
      refine zy_getR rfl rfl e24 ?_
      replace hF := zbnd hF
      obtain ⟨p26, e25, hF⟩ := hF
      refine zx_callF rfl rfl rfl rfl rfl ((zsl_rf _ _).trans (congrArg (List.cons _) ((zsl_rf _ _).trans (congrArg (List.cons _) rfl)))) rfl (zc4 (Nat.le_of_ble_eq_true rfl)) (t73 (by omega) e25 (zaI ?_))
      replace hF := Option.some.inj hF
      subst hF
      exact zx_bret rfl rfl rfl rfl q
    · rw [if_pos c16] at hF
      refine zy_rload_n rfl rfl rfl ?_
      replace hF := zbnd hF
      obtain ⟨a17, rfl, hF⟩ := hF
      replace hF := zbnd hF
      obtain ⟨x18, e19, hF⟩ := hF
      refine zy_getI rfl rfl e19 ?_
      refine zx_goto rfl rfl ?_
      replace hF := Option.some.inj hF
      subst hF
      exact zx_bret rfl rfl rfl rfl q
  · rw [if_pos c5] at hF
    refine zy_rload_n rfl rfl rfl ?_
    replace hF := zbnd hF
    obtain ⟨a6, rfl, hF⟩ := hF
    replace hF := zbnd hF
    obtain ⟨x7, e8, hF⟩ := hF
    refine zy_getR rfl rfl e8 ?_
    refine zx_gets rfl rfl rfl ?_
    replace hF := zbnd hF
    obtain ⟨b9, e10, hF⟩ := hF
    refine zy_ane rfl rfl e10 (fun c11 => ?_) (fun c11 => ?_)
    · rw [if_neg (by rw [c11]; exact Bool.false_ne_true)] at hF
      refine zx_iconst (v := 0) rfl rfl rfl ?_
      replace hF := Option.some.inj hF
      subst hF
      exact zx_bret rfl rfl rfl rfl q
    · rw [if_pos c11] at hF
      refine zx_iconst (v := 1) rfl rfl rfl ?_
      refine zx_goto rfl rfl ?_
      replace hF := Option.some.inj hF
      subst hF
      exact zx_bret rfl rfl rfl rfl q
def b99_20 (n : Nat)   (l0 : Nat) (l1 : Option Nat) (h : zH) : Option ((Int32 ⊕ Nat) × zH) :=
  (gR h l0 5 3).bind fun x1 =>
  x1.bind fun a3 =>
  (gR h a3 9 0).bind fun x4 =>
  zgd (isO h l0 5) <|
  (f71 n l0 x4 h).bind fun p11 => zth p11 (fun r8 h9 =>
    l1.bind fun a12 =>
    zgd (isO h9 a12 0) <|
    (f101 n a12 r8 h9).bind fun p15 =>
    some (.inl p15.1, p15.2))
    (fun x10 h9 =>
    zgd (exOk x10) <| some (.inr x10, h9))
set_option maxRecDepth 20000 in
theorem tb99_20 {d n : Nat} {Q : zRs → zH → Prop}   {l0 : Nat} {l1 : Option Nat}   (hd : 5 ≤ d)   {h : zH} {p : ((Int32 ⊕ Nat) × zH)}  (hF : b99_20 n   l0 l1 h = some p) (q : Q (eIx p.1) p.2) : zW d 99 20 [some (.ref l0), some (va_rf l1)] [] h Q := by
  unfold b99_20 at hF
  obtain ⟨d, rfl⟩ : ∃ e, d = e + 1 := ⟨d - 1, by omega⟩
  refine zy_rload_n rfl rfl rfl ?_
  refine zx_aload_n rfl rfl rfl ?_
  refine zx_aload_n rfl rfl rfl ?_
  replace hF := zbnd hF
  obtain ⟨x1, e2, hF⟩ := hF
  refine zy_getR rfl rfl e2 ?_
  replace hF := zbnd hF
  obtain ⟨a3, rfl, hF⟩ := hF
  replace hF := zbnd hF
  obtain ⟨x4, e5, hF⟩ := hF
  refine zy_getR rfl rfl e5 ?_
  replace hF := zgd_some hF
  obtain ⟨g6, hF⟩ := hF
  replace hF := zbnd hF
  obtain ⟨⟨r8, h9⟩, e7, hF⟩ := hF
  refine zx_callE rfl rfl rfl rfl (zrcv_isO g6) (congrArg (List.cons _) ((zsl_rf _ _).trans (congrArg (List.cons _) rfl))) rfl (zc4 (Nat.le_of_ble_eq_true rfl)) (t71 (by omega) e7 ?_)
  rcases r8 with r8 | x10
  rotate_left 1
  · replace hF := zthH hF
    replace hF := zgd_some hF
    obtain ⟨gx, hF⟩ := hF
    replace hF := Option.some.inj hF
    subst hF
    exact zaX rfl gx q
  replace hF := zthG hF
  refine zaA ?_
  replace hF := zbnd hF
  obtain ⟨a12, rfl, hF⟩ := hF
  replace hF := zgd_some hF
  obtain ⟨g13, hF⟩ := hF
  replace hF := zbnd hF
  obtain ⟨p15, e14, hF⟩ := hF
  refine zx_callE rfl rfl rfl rfl (zrcv_isO g13) (congrArg (List.cons _) ((zsl_rf _ _).trans (congrArg (List.cons _) rfl))) rfl (zc4 (Nat.le_of_ble_eq_true rfl)) (t101 (by omega) e14 (zaI ?_))
  replace hF := Option.some.inj hF
  subst hF
  exact zx_bret rfl rfl rfl rfl q
def f99 (n : Nat)  (y0 : Nat) (y1 : Option Nat) (h : zH) : Option ((Int32 ⊕ Nat) × zH) :=
  (gR h y0 5 3).bind fun x1 =>
  y1.bind fun a3 =>
  zgd (isO h a3 0) <|
  (f100 n a3 x1 h).bind fun p6 =>
  if p6.1 = 0 then
    (gR p6.2 y0 5 3).bind fun x8 =>
    zgd (isO p6.2 y0 5) <|
    (f70 n y0 2 x8 p6.2).bind fun p15 => zth p15 (fun r12 h13 =>
      b99_20 n  y0 (some a3) h13)
      (fun x14 h13 =>
      zgd (exOk x14) <| some (.inr x14, h13))
  else
    b99_20 n  y0 (some a3) p6.2
set_option maxRecDepth 20000 in
theorem t99 {d n : Nat} {Q : zRs → zH → Prop}  {y0 : Nat} {y1 : Option Nat} (hd : 5 ≤ d)  {h : zH} {p : ((Int32 ⊕ Nat) × zH)} (hF : f99 n  y0 y1 h = some p) (q : Q (eIx p.1) p.2) : zC d 99 [.ref y0, va_rf y1] h Q := by
  refine zC_of (L := [some (.ref y0), some (va_rf y1)]) (congrArg (List.cons _) ((zsl_rf _ _).trans (congrArg (List.cons _) rfl))) rfl ?_
  unfold f99 at hF
  obtain ⟨d, rfl⟩ : ∃ e, d = e + 1 := ⟨d - 1, by omega⟩
  refine zy_rload_n rfl rfl rfl ?_
  refine zx_aload_n rfl rfl rfl ?_
  replace hF := zbnd hF
  obtain ⟨x1, e2, hF⟩ := hF
  refine zy_getR rfl rfl e2 ?_
  replace hF := zbnd hF
  obtain ⟨a3, rfl, hF⟩ := hF
  replace hF := zgd_some hF
  obtain ⟨g4, hF⟩ := hF
  replace hF := zbnd hF
  obtain ⟨p6, e5, hF⟩ := hF
  refine zx_callE rfl rfl rfl rfl (zrcv_isO g4) (congrArg (List.cons _) ((zsl_rf _ _).trans (congrArg (List.cons _) rfl))) rfl (zc4 (Nat.le_of_ble_eq_true rfl)) (t100 (by omega) e5 (zaI ?_))
  refine zx_if_ne rfl rfl (fun c7 => ?_) (fun c7 => ?_)
  · rw [if_neg c7] at hF
    exact tb99_20 (l0 := y0) (l1 := (some a3)) hd   hF q
  · rw [if_pos c7] at hF
    refine zx_aload_n rfl rfl rfl ?_
    refine zx_iconst (v := 2) rfl rfl rfl ?_
    refine zx_aload_n rfl rfl rfl ?_
    replace hF := zbnd hF
    obtain ⟨x8, e9, hF⟩ := hF
    refine zy_getR rfl rfl e9 ?_
    replace hF := zgd_some hF
    obtain ⟨g10, hF⟩ := hF
    replace hF := zbnd hF
    obtain ⟨⟨r12, h13⟩, e11, hF⟩ := hF
    refine zx_callE rfl rfl rfl rfl (zrcv_isO g10) (congrArg (List.cons _) (congrArg (List.cons _) ((zsl_rf _ _).trans (congrArg (List.cons _) rfl)))) rfl (zc4 (Nat.le_of_ble_eq_true rfl)) (t70 (by omega) e11 ?_)
    rcases r12 with r12 | x14
    rotate_left 1
    · replace hF := zthH hF
      replace hF := zgd_some hF
      obtain ⟨gx, hF⟩ := hF
      replace hF := Option.some.inj hF
      subst hF
      exact zaX rfl gx q
    replace hF := zthG hF
    refine zaV (x := ()) ?_
    exact tb99_20 (l0 := y0) (l1 := (some a3)) hd   hF q
def f102 (n : Nat)  (y0 : Nat) (y1 : Int32) (y2 : Int32) (h : zH) : Option (Unit × zH) :=
  (gI h y0 7 4).bind fun x1 =>
  (gR h y0 7 2).bind fun x3 =>
  x3.bind fun a5 =>
  (aN h a5).bind fun x6 =>
  (f13 n x1 x6 h).bind fun p9 =>
  if p9.1 = 0 then
    some ((), p9.2)
  else
    (gI p9.2 y0 7 4).bind fun x11 =>
    (gR p9.2 y0 7 3).bind fun x13 =>
    x13.bind fun a15 =>
    (aN p9.2 a15).bind fun x16 =>
    (f13 n x11 x16 p9.2).bind fun p19 =>
    if p19.1 = 0 then
      some ((), p19.2)
    else
      (gR p19.2 y0 7 2).bind fun x21 =>
      (gI p19.2 y0 7 4).bind fun x23 =>
      x21.bind fun a25 =>
      (aS zsI p19.2 a25 x23 (.int y1)).bind fun h26 =>
      (gR h26 y0 7 3).bind fun x28 =>
      (gI h26 y0 7 4).bind fun x30 =>
      x28.bind fun a32 =>
      (aS zsI h26 a32 x30 (.int y2)).bind fun h33 =>
      (gI h33 y0 7 4).bind fun x35 =>
      (pF h33 y0 7 4 (.int (x35 + 1))).bind fun h37 =>
      some ((), h37)
set_option maxRecDepth 20000 in
theorem t102 {d n : Nat} {Q : zRs → zH → Prop}  {y0 : Nat} {y1 : Int32} {y2 : Int32} (hd : 1 ≤ d)  {h : zH} {p : (Unit × zH)} (hF : f102 n  y0 y1 y2 h = some p) (q : Q (eV p.1) p.2) : zC d 102 [.ref y0, .int y1, .int y2] h Q := by
  refine zC_of (L := [some (.ref y0), some (.int y1), some (.int y2)]) rfl rfl ?_
  unfold f102 at hF
  obtain ⟨d, rfl⟩ : ∃ e, d = e + 1 := ⟨d - 1, by omega⟩
  refine zx_aload_n rfl rfl rfl ?_
  replace hF := zbnd hF
  obtain ⟨x1, e2, hF⟩ := hF
  refine zy_getI rfl rfl e2 ?_
  refine zx_aload_n rfl rfl rfl ?_
  replace hF := zbnd hF
  obtain ⟨x3, e4, hF⟩ := hF
  refine zy_getR rfl rfl e4 ?_
  replace hF := zbnd hF
  obtain ⟨a5, rfl, hF⟩ := hF
  replace hF := zbnd hF
  obtain ⟨x6, e7, hF⟩ := hF
  refine zy_alen rfl rfl e7 ?_
  replace hF := zbnd hF
  obtain ⟨p9, e8, hF⟩ := hF
  refine zx_callF rfl rfl rfl rfl rfl rfl rfl (zc4 (Nat.le_of_ble_eq_true rfl)) (t13 (by omega) e8 (zaI ?_))
  refine zx_if_eq rfl rfl (fun c10 => ?_) (fun c10 => ?_)
  · rw [if_pos c10] at hF
    replace hF := Option.some.inj hF
    subst hF
    exact zx_return rfl rfl rfl q
  · rw [if_neg c10] at hF
    refine zx_aload_n rfl rfl rfl ?_
    replace hF := zbnd hF
    obtain ⟨x11, e12, hF⟩ := hF
    refine zy_getI rfl rfl e12 ?_
    refine zx_aload_n rfl rfl rfl ?_
    replace hF := zbnd hF
    obtain ⟨x13, e14, hF⟩ := hF
    refine zy_getR rfl rfl e14 ?_
    replace hF := zbnd hF
    obtain ⟨a15, rfl, hF⟩ := hF
    replace hF := zbnd hF
    obtain ⟨x16, e17, hF⟩ := hF
    refine zy_alen rfl rfl e17 ?_
    replace hF := zbnd hF
    obtain ⟨p19, e18, hF⟩ := hF
    refine zx_callF rfl rfl rfl rfl rfl rfl rfl (zc4 (Nat.le_of_ble_eq_true rfl)) (t13 (by omega) e18 (zaI ?_))
    refine zx_if_eq rfl rfl (fun c20 => ?_) (fun c20 => ?_)
    · rw [if_pos c20] at hF
      replace hF := Option.some.inj hF
      subst hF
      exact zx_return rfl rfl rfl q
    · rw [if_neg c20] at hF
      refine zx_aload_n rfl rfl rfl ?_
      replace hF := zbnd hF
      obtain ⟨x21, e22, hF⟩ := hF
      refine zy_getR rfl rfl e22 ?_
      refine zx_aload_n rfl rfl rfl ?_
      replace hF := zbnd hF
      obtain ⟨x23, e24, hF⟩ := hF
      refine zy_getI rfl rfl e24 ?_
      refine zx_iload_n rfl rfl rfl ?_
      replace hF := zbnd hF
      obtain ⟨a25, rfl, hF⟩ := hF
      replace hF := zbnd hF
      obtain ⟨h26, e27, hF⟩ := hF
      refine zy_sI rfl rfl e27 ?_
      refine zx_aload_n rfl rfl rfl ?_
      replace hF := zbnd hF
      obtain ⟨x28, e29, hF⟩ := hF
      refine zy_getR rfl rfl e29 ?_
      refine zx_aload_n rfl rfl rfl ?_
      replace hF := zbnd hF
      obtain ⟨x30, e31, hF⟩ := hF
      refine zy_getI rfl rfl e31 ?_
      refine zx_iload_n rfl rfl rfl ?_
      replace hF := zbnd hF
      obtain ⟨a32, rfl, hF⟩ := hF
      replace hF := zbnd hF
      obtain ⟨h33, e34, hF⟩ := hF
      refine zy_sI rfl rfl e34 ?_
      refine zx_aload_n rfl rfl rfl ?_
      refine zx_dup rfl rfl rfl ?_
      replace hF := zbnd hF
      obtain ⟨x35, e36, hF⟩ := hF
      refine zy_getI rfl rfl e36 ?_
      refine zx_iconst (v := 1) rfl rfl rfl ?_
      refine zx_iadd rfl rfl ?_
      replace hF := zbnd hF
      obtain ⟨h37, e38, hF⟩ := hF
      refine zy_put rfl rfl e38 ?_
      replace hF := Option.some.inj hF
      subst hF
      exact zx_return rfl rfl rfl q
def b103_4 (n : Nat)  (r4 : Nat → Int32 → Int32 → zH → Option (Int32 × zH)) (l0 : Nat) (l1 : Int32) (l2 : Int32) (h : zH) : Option (Int32 × zH) :=
  (gI h l0 7 4).bind fun x1 =>
  if x1 ≤ l2 then
    some (l1, h)
  else
    (gR h l0 7 2).bind fun x4 =>
    x4.bind fun a6 =>
    (aN h a6).bind fun x7 =>
    if x7 ≤ l2 then
      some (l1, h)
    else
      (gR h l0 7 2).bind fun x10 =>
      x10.bind fun a12 =>
      (aI h a12 l2).bind fun x13 =>
      r4 l0 (l1 + x13) (l2 + 1) h
set_option maxRecDepth 20000 in
theorem tb103_4 {d n : Nat} {Q : zRs → zH → Prop}  {r4 : Nat → Int32 → Int32 → zH → Option (Int32 × zH)} {l0 : Nat} {l1 : Int32} {l2 : Int32}   (hd : 0 ≤ d)  (hr4 : ∀ {l0 : Nat} {l1 : Int32} {l2 : Int32}   {h : zH} {p : (Int32 × zH)}, r4 l0 l1 l2 h = some p → Q (eI p.1) p.2 → zW d 103 4 [some (.ref l0), some (.int l1), some (.int l2)] [] h Q) {h : zH} {p : (Int32 × zH)}  (hF : b103_4 n  r4 l0 l1 l2 h = some p) (q : Q (eI p.1) p.2) : zW d 103 4 [some (.ref l0), some (.int l1), some (.int l2)] [] h Q := by
  unfold b103_4 at hF
  refine zx_iload_n rfl rfl rfl ?_
  refine zx_aload_n rfl rfl rfl ?_
  replace hF := zbnd hF
  obtain ⟨x1, e2, hF⟩ := hF
  refine zy_getI rfl rfl e2 ?_
  refine zx_ic_ge rfl rfl (fun c3 => ?_) (fun c3 => ?_)
  · rw [if_pos c3] at hF
    refine zx_iload_n rfl rfl rfl ?_
    replace hF := Option.some.inj hF
    subst hF
    exact zx_bret rfl rfl rfl rfl q
  · rw [if_neg c3] at hF
    refine zx_iload_n rfl rfl rfl ?_
    refine zx_aload_n rfl rfl rfl ?_
    replace hF := zbnd hF
    obtain ⟨x4, e5, hF⟩ := hF
    refine zy_getR rfl rfl e5 ?_
    replace hF := zbnd hF
    obtain ⟨a6, rfl, hF⟩ := hF
    replace hF := zbnd hF
    obtain ⟨x7, e8, hF⟩ := hF
    refine zy_alen rfl rfl e8 ?_
    refine zx_ic_ge rfl rfl (fun c9 => ?_) (fun c9 => ?_)
    · rw [if_pos c9] at hF
      refine zx_iload_n rfl rfl rfl ?_
      replace hF := Option.some.inj hF
      subst hF
      exact zx_bret rfl rfl rfl rfl q
    · rw [if_neg c9] at hF
      refine zx_iload_n rfl rfl rfl ?_
      refine zx_aload_n rfl rfl rfl ?_
      replace hF := zbnd hF
      obtain ⟨x10, e11, hF⟩ := hF
      refine zy_getR rfl rfl e11 ?_
      refine zx_iload_n rfl rfl rfl ?_
      replace hF := zbnd hF
      obtain ⟨a12, rfl, hF⟩ := hF
      replace hF := zbnd hF
      obtain ⟨x13, e14, hF⟩ := hF
      refine zy_aI rfl rfl e14 ?_
      refine zx_iadd rfl rfl ?_
      refine zx_istore_n rfl rfl rfl ?_
      refine zx_iinc (w := 1) rfl rfl rfl rfl rfl ?_
      refine zx_goto rfl rfl ?_
      exact hr4  hF q
def f103_4 (n : Nat)   (k : Nat) : Nat → Int32 → Int32 → zH → Option (Int32 × zH) := Nat.rec (fun _ _ _ _ => none) (fun _ ih => b103_4 n  ih) k
theorem tf103_4 {d n : Nat} {Q : zRs → zH → Prop}   (hd : 0 ≤ d)   (k : Nat) : ∀ {l0 : Nat} {l1 : Int32} {l2 : Int32}   {h : zH} {p : (Int32 × zH)}, f103_4 n   k l0 l1 l2 h = some p → Q (eI p.1) p.2 → zW d 103 4 [some (.ref l0), some (.int l1), some (.int l2)] [] h Q := by
  induction k with
  | zero => intros; rename_i hF _; cases hF
  | succ k ih => intros; rename_i  hF q; exact tb103_4 (n := n) hd  ih  hF q
def f103 (n : Nat)  (y0 : Nat) (h : zH) : Option (Int32 × zH) :=
  f103_4 n  n y0 0 0 h
set_option maxRecDepth 20000 in
theorem t103 {d n : Nat} {Q : zRs → zH → Prop}  {y0 : Nat} (hd : 0 ≤ d)  {h : zH} {p : (Int32 × zH)} (hF : f103 n  y0 h = some p) (q : Q (eI p.1) p.2) : zC d 103 [.ref y0] h Q := by
  refine zC_of (L := [some (.ref y0), none, none]) rfl rfl ?_
  unfold f103 at hF
  refine zx_iconst (v := 0) rfl rfl rfl ?_
  refine zx_istore_n rfl rfl rfl ?_
  refine zx_iconst (v := 0) rfl rfl rfl ?_
  refine zx_istore_n rfl rfl rfl ?_
  exact tf103_4 hd  n (l0 := y0) (l1 := 0) (l2 := 0)  hF q
def b96_187 (n : Nat)   (l0 : Nat) (l1 : Option Nat) (l2 : Option Nat) (l3 : Option Nat) (l4 : Nat) (l5 : Int32) (l6 : Int32) (h : zH) : Option ((Option Nat ⊕ Nat) × zH) :=
  zgd (isO h l0 5) <|
  (f71 n l0 (some 9) h).bind fun p6 => zth p6 (fun r3 h4 =>
    some (.inl (some l4), h4))
    (fun x5 h4 =>
    zgd (exOk x5) <| some (.inr x5, h4))
set_option maxRecDepth 20000 in
theorem tb96_187 {d n : Nat} {Q : zRs → zH → Prop}   {l0 : Nat} {l1 : Option Nat} {l2 : Option Nat} {l3 : Option Nat} {l4 : Nat} {l5 : Int32} {l6 : Int32}  {x7 : Option Value} (hd : 6 ≤ d)   {h : zH} {p : ((Option Nat ⊕ Nat) × zH)} (hx7 : zn2 x7 = true) (hF : b96_187 n   l0 l1 l2 l3 l4 l5 l6 h = some p) (q : Q (eAx p.1) p.2) : zW d 96 187 [some (.ref l0), some (va_rf l1), some (va_rf l2), some (va_rf l3), some (.ref l4), some (.int l5), some (.int l6), x7] [] h Q := by
  unfold b96_187 at hF
  obtain ⟨d, rfl⟩ : ∃ e, d = e + 1 := ⟨d - 1, by omega⟩
  refine zx_aload_n rfl rfl rfl ?_
  refine zx_gets rfl rfl rfl ?_
  replace hF := zgd_some hF
  obtain ⟨g1, hF⟩ := hF
  replace hF := zbnd hF
  obtain ⟨⟨r3, h4⟩, e2, hF⟩ := hF
  refine zx_callE rfl rfl rfl rfl (zrcv_isO g1) rfl rfl (zc4 (Nat.le_of_ble_eq_true rfl)) (t71 (by omega) e2 ?_)
  rcases r3 with r3 | x5
  rotate_left 1
  · replace hF := zthH hF
    replace hF := zgd_some hF
    obtain ⟨gx, hF⟩ := hF
    replace hF := Option.some.inj hF
    subst hF
    exact zaX rfl gx q
  replace hF := zthG hF
  refine zaA ?_
  refine zx_pop rfl rfl (zc1_rf _) ?_
  refine zx_aload rfl rfl rfl ?_
  replace hF := Option.some.inj hF
  subst hF
  exact zy_areturn (r := (some l4)) rfl rfl rfl rfl q
def b96_154 (n : Nat)   (l0 : Nat) (l1 : Option Nat) (l2 : Option Nat) (l3 : Option Nat) (l4 : Nat) (l5 : Int32) (l6 : Int32) (h : zH) : Option ((Option Nat ⊕ Nat) × zH) :=
  (gR h l0 5 3).bind fun x1 =>
  x1.bind fun a3 =>
  (gR h a3 9 0).bind fun x4 =>
  (rEq x4 (some 9)).bind fun b6 =>
  if b6 = true then
    zgd (isO h l4 7) <|
    (f103 n l4 h).bind fun p11 =>
    if p11.1 = 10000 then
      b96_187 n  l0 l1 l2 l3 l4 l5 l6 p11.2
    else
      (gR p11.2 l0 5 3).bind fun x13 =>
      zgd (isO p11.2 l0 5) <|
      (f70 n l0 4 x13 p11.2).bind fun p20 => zth p20 (fun r17 h18 =>
        b96_187 n  l0 l1 l2 l3 l4 l5 l6 h18)
        (fun x19 h18 =>
        zgd (exOk x19) <| some (.inr x19, h18))
  else
    b96_187 n  l0 l1 l2 l3 l4 l5 l6 h
set_option maxRecDepth 20000 in
theorem tb96_154 {d n : Nat} {Q : zRs → zH → Prop}   {l0 : Nat} {l1 : Option Nat} {l2 : Option Nat} {l3 : Option Nat} {l4 : Nat} {l5 : Int32} {l6 : Int32}  {x7 : Option Value} (hd : 6 ≤ d)   {h : zH} {p : ((Option Nat ⊕ Nat) × zH)} (hx7 : zn2 x7 = true) (hF : b96_154 n   l0 l1 l2 l3 l4 l5 l6 h = some p) (q : Q (eAx p.1) p.2) : zW d 96 154 [some (.ref l0), some (va_rf l1), some (va_rf l2), some (va_rf l3), some (.ref l4), some (.int l5), some (.int l6), x7] [] h Q := by
  unfold b96_154 at hF
  obtain ⟨d, rfl⟩ : ∃ e, d = e + 1 := ⟨d - 1, by omega⟩
  refine zx_aload_n rfl rfl rfl ?_
  replace hF := zbnd hF
  obtain ⟨x1, e2, hF⟩ := hF
  refine zy_getR rfl rfl e2 ?_
  replace hF := zbnd hF
  obtain ⟨a3, rfl, hF⟩ := hF
  replace hF := zbnd hF
  obtain ⟨x4, e5, hF⟩ := hF
  refine zy_getR rfl rfl e5 ?_
  refine zx_gets rfl rfl rfl ?_
  replace hF := zbnd hF
  obtain ⟨b6, e7, hF⟩ := hF
  refine zy_ane rfl rfl e7 (fun c8 => ?_) (fun c8 => ?_)
  · rw [if_neg (by rw [c8]; exact Bool.false_ne_true)] at hF
    exact tb96_187 (l0 := l0) (l1 := l1) (l2 := l2) (l3 := l3) (l4 := l4) (l5 := l5) (l6 := l6) hd  hx7 hF q
  · rw [if_pos c8] at hF
    refine zx_aload rfl rfl rfl ?_
    replace hF := zgd_some hF
    obtain ⟨g9, hF⟩ := hF
    replace hF := zbnd hF
    obtain ⟨p11, e10, hF⟩ := hF
    refine zx_callE rfl rfl rfl rfl (zrcv_isO g9) rfl rfl (zc4 (Nat.le_of_ble_eq_true rfl)) (t103 (by omega) e10 (zaI ?_))
    refine zx_sipush (v := 10000) rfl rfl rfl ?_
    refine zx_ic_eq rfl rfl (fun c12 => ?_) (fun c12 => ?_)
    · rw [if_pos c12] at hF
      exact tb96_187 (l0 := l0) (l1 := l1) (l2 := l2) (l3 := l3) (l4 := l4) (l5 := l5) (l6 := l6) hd  hx7 hF q
    · rw [if_neg c12] at hF
      refine zx_aload_n rfl rfl rfl ?_
      refine zx_iconst (v := 4) rfl rfl rfl ?_
      refine zx_aload_n rfl rfl rfl ?_
      replace hF := zbnd hF
      obtain ⟨x13, e14, hF⟩ := hF
      refine zy_getR rfl rfl e14 ?_
      replace hF := zgd_some hF
      obtain ⟨g15, hF⟩ := hF
      replace hF := zbnd hF
      obtain ⟨⟨r17, h18⟩, e16, hF⟩ := hF
      refine zx_callE rfl rfl rfl rfl (zrcv_isO g15) (congrArg (List.cons _) (congrArg (List.cons _) ((zsl_rf _ _).trans (congrArg (List.cons _) rfl)))) rfl (zc4 (Nat.le_of_ble_eq_true rfl)) (t70 (by omega) e16 ?_)
      rcases r17 with r17 | x19
      rotate_left 1
      · replace hF := zthH hF
        replace hF := zgd_some hF
        obtain ⟨gx, hF⟩ := hF
        replace hF := Option.some.inj hF
        subst hF
        exact zaX rfl gx q
      replace hF := zthG hF
      refine zaV (x := ()) ?_
      exact tb96_187 (l0 := l0) (l1 := l1) (l2 := l2) (l3 := l3) (l4 := l4) (l5 := l5) (l6 := l6) hd  hx7 hF q
def b96_148 (n : Nat)  (r72 : Nat → Option Nat → Option Nat → Option Nat → Nat → Int32 → Int32 → zH → Option ((Option Nat ⊕ Nat) × zH)) (l0 : Nat) (l1 : Option Nat) (l2 : Option Nat) (l3 : Option Nat) (l4 : Nat) (l5 : Int32) (l6 : Int32) (l7 : Int32) (h : zH) : Option ((Option Nat ⊕ Nat) × zH) :=
  r72 l0 l1 l2 l3 l4 l5 (l6 + 1) h
set_option maxRecDepth 20000 in
theorem tb96_148 {d n : Nat} {Q : zRs → zH → Prop}  {r72 : Nat → Option Nat → Option Nat → Option Nat → Nat → Int32 → Int32 → zH → Option ((Option Nat ⊕ Nat) × zH)} {l0 : Nat} {l1 : Option Nat} {l2 : Option Nat} {l3 : Option Nat} {l4 : Nat} {l5 : Int32} {l6 : Int32} {l7 : Int32}   (hd : 6 ≤ d)  (hr72 : ∀ {l0 : Nat} {l1 : Option Nat} {l2 : Option Nat} {l3 : Option Nat} {l4 : Nat} {l5 : Int32} {l6 : Int32}  {x7 : Option Value} {h : zH} {p : ((Option Nat ⊕ Nat) × zH)}, zn2 x7 = true → r72 l0 l1 l2 l3 l4 l5 l6 h = some p → Q (eAx p.1) p.2 → zW d 96 72 [some (.ref l0), some (va_rf l1), some (va_rf l2), some (va_rf l3), some (.ref l4), some (.int l5), some (.int l6), x7] [] h Q) {h : zH} {p : ((Option Nat ⊕ Nat) × zH)}  (hF : b96_148 n  r72 l0 l1 l2 l3 l4 l5 l6 l7 h = some p) (q : Q (eAx p.1) p.2) : zW d 96 148 [some (.ref l0), some (va_rf l1), some (va_rf l2), some (va_rf l3), some (.ref l4), some (.int l5), some (.int l6), some (.int l7)] [] h Q := by
  unfold b96_148 at hF
  obtain ⟨d, rfl⟩ : ∃ e, d = e + 1 := ⟨d - 1, by omega⟩
  refine zx_iinc (w := 1) rfl rfl rfl rfl rfl ?_
  refine zx_goto rfl rfl ?_
  exact hr72 rfl hF q
def b96_133 (n : Nat)  (r72 : Nat → Option Nat → Option Nat → Option Nat → Nat → Int32 → Int32 → zH → Option ((Option Nat ⊕ Nat) × zH)) (l0 : Nat) (l1 : Option Nat) (l2 : Option Nat) (l3 : Option Nat) (l4 : Nat) (l5 : Int32) (l6 : Int32) (l7 : Int32) (s0 : Int32) (h : zH) : Option ((Option Nat ⊕ Nat) × zH) :=
  if s0 = 0 then
    b96_148 n r72 l0 l1 l2 l3 l4 s0 l6 l7 h
  else
    zgd (isO h l0 5) <|
    (f71 n l0 (some 11) h).bind fun p7 => zth p7 (fun r4 h5 =>
      b96_148 n r72 l0 l1 l2 l3 l4 s0 l6 l7 h5)
      (fun x6 h5 =>
      zgd (exOk x6) <| some (.inr x6, h5))
set_option maxRecDepth 20000 in
theorem tb96_133 {d n : Nat} {Q : zRs → zH → Prop}  {r72 : Nat → Option Nat → Option Nat → Option Nat → Nat → Int32 → Int32 → zH → Option ((Option Nat ⊕ Nat) × zH)} {l0 : Nat} {l1 : Option Nat} {l2 : Option Nat} {l3 : Option Nat} {l4 : Nat} {l5 : Int32} {l6 : Int32} {l7 : Int32} {s0 : Int32}  (hd : 6 ≤ d)  (hr72 : ∀ {l0 : Nat} {l1 : Option Nat} {l2 : Option Nat} {l3 : Option Nat} {l4 : Nat} {l5 : Int32} {l6 : Int32}  {x7 : Option Value} {h : zH} {p : ((Option Nat ⊕ Nat) × zH)}, zn2 x7 = true → r72 l0 l1 l2 l3 l4 l5 l6 h = some p → Q (eAx p.1) p.2 → zW d 96 72 [some (.ref l0), some (va_rf l1), some (va_rf l2), some (va_rf l3), some (.ref l4), some (.int l5), some (.int l6), x7] [] h Q) {h : zH} {p : ((Option Nat ⊕ Nat) × zH)}  (hF : b96_133 n  r72 l0 l1 l2 l3 l4 l5 l6 l7 s0 h = some p) (q : Q (eAx p.1) p.2) : zW d 96 133 [some (.ref l0), some (va_rf l1), some (va_rf l2), some (va_rf l3), some (.ref l4), some (.int l5), some (.int l6), some (.int l7)] [.int s0] h Q := by
  unfold b96_133 at hF
  obtain ⟨d, rfl⟩ : ∃ e, d = e + 1 := ⟨d - 1, by omega⟩
  refine zx_istore rfl rfl rfl ?_
  refine zx_iload rfl rfl rfl ?_
  refine zx_if_eq rfl rfl (fun c1 => ?_) (fun c1 => ?_)
  · rw [if_pos c1] at hF
    exact tb96_148 (l0 := l0) (l1 := l1) (l2 := l2) (l3 := l3) (l4 := l4) (l5 := s0) (l6 := l6) (l7 := l7) hd hr72  hF q
  · rw [if_neg c1] at hF
    refine zx_aload_n rfl rfl rfl ?_
    refine zx_gets rfl rfl rfl ?_
    replace hF := zgd_some hF
    obtain ⟨g2, hF⟩ := hF
    replace hF := zbnd hF
    obtain ⟨⟨r4, h5⟩, e3, hF⟩ := hF
    refine zx_callE rfl rfl rfl rfl (zrcv_isO g2) rfl rfl (zc4 (Nat.le_of_ble_eq_true rfl)) (t71 (by omega) e3 ?_)
    rcases r4 with r4 | x6
    rotate_left 1
    · replace hF := zthH hF
      replace hF := zgd_some hF
      obtain ⟨gx, hF⟩ := hF
      replace hF := Option.some.inj hF
      subst hF
      exact zaX rfl gx q
    replace hF := zthG hF
    refine zaA ?_
    refine zx_pop rfl rfl (zc1_rf _) ?_
    exact tb96_148 (l0 := l0) (l1 := l1) (l2 := l2) (l3 := l3) (l4 := l4) (l5 := s0) (l6 := l6) (l7 := l7) hd hr72  hF q
def b96_72 (n : Nat)  (r72 : Nat → Option Nat → Option Nat → Option Nat → Nat → Int32 → Int32 → zH → Option ((Option Nat ⊕ Nat) × zH)) (l0 : Nat) (l1 : Option Nat) (l2 : Option Nat) (l3 : Option Nat) (l4 : Nat) (l5 : Int32) (l6 : Int32) (h : zH) : Option ((Option Nat ⊕ Nat) × zH) :=
  if (8 : Int32) < l6 then
    b96_154 n  l0 l1 l2 l3 l4 l5 l6 h
  else
    if l5 = 0 then
      b96_154 n  l0 l1 l2 l3 l4 l5 l6 h
    else
      zgd (isO h l4 7) <|
      (f97 n l4 h).bind fun p5 =>
      zgd (isO p5.2 l0 5) <|
      (f98 n l0 p5.1 p5.2).bind fun p11 => zth p11 (fun r8 h9 =>
        zgd (isO h9 l0 5) <|
        (f71 n l0 (some 12) h9).bind fun p17 => zth p17 (fun r14 h15 =>
          zgd (isO h15 l0 5) <|
          (f99 n l0 l1 h15).bind fun p23 => zth p23 (fun r20 h21 =>
            zgd (isO h21 l4 7) <|
            (f102 n l4 r8 r20 h21).bind fun p26 =>
            (gR p26.2 l0 5 3).bind fun x27 =>
            x27.bind fun a29 =>
            (gR p26.2 a29 9 0).bind fun x30 =>
            (rEq x30 (some 11)).bind fun b32 =>
            if b32 = true then
              b96_133 n r72 l0 l1 l2 l3 l4 l5 l6 r8 1 p26.2
            else
              b96_133 n r72 l0 l1 l2 l3 l4 l5 l6 r8 0 p26.2)
            (fun x22 h21 =>
            zgd (exOk x22) <| some (.inr x22, h21)))
          (fun x16 h15 =>
          zgd (exOk x16) <| some (.inr x16, h15)))
        (fun x10 h9 =>
        zgd (exOk x10) <| some (.inr x10, h9))
set_option maxRecDepth 20000 in
theorem tb96_72 {d n : Nat} {Q : zRs → zH → Prop}  {r72 : Nat → Option Nat → Option Nat → Option Nat → Nat → Int32 → Int32 → zH → Option ((Option Nat ⊕ Nat) × zH)} {l0 : Nat} {l1 : Option Nat} {l2 : Option Nat} {l3 : Option Nat} {l4 : Nat} {l5 : Int32} {l6 : Int32}  {x7 : Option Value} (hd : 6 ≤ d)  (hr72 : ∀ {l0 : Nat} {l1 : Option Nat} {l2 : Option Nat} {l3 : Option Nat} {l4 : Nat} {l5 : Int32} {l6 : Int32}  {x7 : Option Value} {h : zH} {p : ((Option Nat ⊕ Nat) × zH)}, zn2 x7 = true → r72 l0 l1 l2 l3 l4 l5 l6 h = some p → Q (eAx p.1) p.2 → zW d 96 72 [some (.ref l0), some (va_rf l1), some (va_rf l2), some (va_rf l3), some (.ref l4), some (.int l5), some (.int l6), x7] [] h Q) {h : zH} {p : ((Option Nat ⊕ Nat) × zH)} (hx7 : zn2 x7 = true) (hF : b96_72 n  r72 l0 l1 l2 l3 l4 l5 l6 h = some p) (q : Q (eAx p.1) p.2) : zW d 96 72 [some (.ref l0), some (va_rf l1), some (va_rf l2), some (va_rf l3), some (.ref l4), some (.int l5), some (.int l6), x7] [] h Q := by
  unfold b96_72 at hF
  obtain ⟨d, rfl⟩ : ∃ e, d = e + 1 := ⟨d - 1, by omega⟩
  refine zx_iload rfl rfl rfl ?_
  refine zx_bipush (v := 8) rfl rfl rfl ?_
  refine zx_ic_gt rfl rfl (fun c1 => ?_) (fun c1 => ?_)
  · rw [if_pos c1] at hF
    exact tb96_154 (l0 := l0) (l1 := l1) (l2 := l2) (l3 := l3) (l4 := l4) (l5 := l5) (l6 := l6) hd  hx7 hF q
  · rw [if_neg c1] at hF
    refine zx_iload rfl rfl rfl ?_
    refine zx_if_eq rfl rfl (fun c2 => ?_) (fun c2 => ?_)
    · rw [if_pos c2] at hF
      exact tb96_154 (l0 := l0) (l1 := l1) (l2 := l2) (l3 := l3) (l4 := l4) (l5 := l5) (l6 := l6) hd  hx7 hF q
    · rw [if_neg c2] at hF
      refine zx_aload_n rfl rfl rfl ?_
      refine zx_aload rfl rfl rfl ?_
      replace hF := zgd_some hF
      obtain ⟨g3, hF⟩ := hF
      replace hF := zbnd hF
      obtain ⟨p5, e4, hF⟩ := hF
      refine zx_callE rfl rfl rfl rfl (zrcv_isO g3) rfl rfl (zc4 (Nat.le_of_ble_eq_true rfl)) (t97 (by omega) e4 (zaI ?_))
      replace hF := zgd_some hF
      obtain ⟨g6, hF⟩ := hF
      replace hF := zbnd hF
      obtain ⟨⟨r8, h9⟩, e7, hF⟩ := hF
      refine zx_callE rfl rfl rfl rfl (zrcv_isO g6) rfl rfl (zc4 (Nat.le_of_ble_eq_true rfl)) (t98 (by omega) e7 ?_)
      rcases r8 with r8 | x10
      rotate_left 1
      · replace hF := zthH hF
        replace hF := zgd_some hF
        obtain ⟨gx, hF⟩ := hF
        replace hF := Option.some.inj hF
        subst hF
        exact zaX rfl gx q
      replace hF := zthG hF
      refine zaI ?_
      refine zx_istore rfl rfl rfl ?_
      refine zx_aload_n rfl rfl rfl ?_
      refine zx_gets rfl rfl rfl ?_
      replace hF := zgd_some hF
      obtain ⟨g12, hF⟩ := hF
      replace hF := zbnd hF
      obtain ⟨⟨r14, h15⟩, e13, hF⟩ := hF
      refine zx_callE rfl rfl rfl rfl (zrcv_isO g12) rfl rfl (zc4 (Nat.le_of_ble_eq_true rfl)) (t71 (by omega) e13 ?_)
      rcases r14 with r14 | x16
      rotate_left 1
      · replace hF := zthH hF
        replace hF := zgd_some hF
        obtain ⟨gx, hF⟩ := hF
        replace hF := Option.some.inj hF
        subst hF
        exact zaX rfl gx q
      replace hF := zthG hF
      refine zaA ?_
      refine zx_pop rfl rfl (zc1_rf _) ?_
      refine zx_aload rfl rfl rfl ?_
      refine zx_iload rfl rfl rfl ?_
      refine zx_aload_n rfl rfl rfl ?_
      refine zy_rload_n rfl rfl rfl ?_
      replace hF := zgd_some hF
      obtain ⟨g18, hF⟩ := hF
      replace hF := zbnd hF
      obtain ⟨⟨r20, h21⟩, e19, hF⟩ := hF
      refine zx_callE rfl rfl rfl rfl (zrcv_isO g18) (congrArg (List.cons _) ((zsl_rf _ _).trans (congrArg (List.cons _) rfl))) rfl (zc4 (Nat.le_of_ble_eq_true rfl)) (t99 (by omega) e19 ?_)
      rcases r20 with r20 | x22
      rotate_left 1
      · replace hF := zthH hF
        replace hF := zgd_some hF
        obtain ⟨gx, hF⟩ := hF
        replace hF := Option.some.inj hF
        subst hF
        exact zaX rfl gx q
      replace hF := zthG hF
      refine zaI ?_
      replace hF := zgd_some hF
      obtain ⟨g24, hF⟩ := hF
      replace hF := zbnd hF
      obtain ⟨p26, e25, hF⟩ := hF
      refine zx_callE rfl rfl rfl rfl (zrcv_isO g24) rfl rfl (zc4 (Nat.le_of_ble_eq_true rfl)) (t102 (by omega) e25 (zaV ?_))
      refine zx_aload_n rfl rfl rfl ?_
      replace hF := zbnd hF
      obtain ⟨x27, e28, hF⟩ := hF
      refine zy_getR rfl rfl e28 ?_
      replace hF := zbnd hF
      obtain ⟨a29, rfl, hF⟩ := hF
      replace hF := zbnd hF
      obtain ⟨x30, e31, hF⟩ := hF
      refine zy_getR rfl rfl e31 ?_
      refine zx_gets rfl rfl rfl ?_
      replace hF := zbnd hF
      obtain ⟨b32, e33, hF⟩ := hF
      refine zy_ane rfl rfl e33 (fun c34 => ?_) (fun c34 => ?_)
      · rw [if_neg (by rw [c34]; exact Bool.false_ne_true)] at hF
        refine zx_iconst (v := 0) rfl rfl rfl ?_
        exact tb96_133 (l0 := l0) (l1 := l1) (l2 := l2) (l3 := l3) (l4 := l4) (l5 := l5) (l6 := l6) (l7 := r8) (s0 := 0) hd hr72  hF q
      · rw [if_pos c34] at hF
        refine zx_iconst (v := 1) rfl rfl rfl ?_
        refine zx_goto rfl rfl ?_
        exact tb96_133 (l0 := l0) (l1 := l1) (l2 := l2) (l3 := l3) (l4 := l4) (l5 := l5) (l6 := l6) (l7 := r8) (s0 := 1) hd hr72  hF q
def f96_72 (n : Nat)   (k : Nat) : Nat → Option Nat → Option Nat → Option Nat → Nat → Int32 → Int32 → zH → Option ((Option Nat ⊕ Nat) × zH) := Nat.rec (fun _ _ _ _ _ _ _ _ => none) (fun _ ih => b96_72 n  ih) k
theorem tf96_72 {d n : Nat} {Q : zRs → zH → Prop}   (hd : 6 ≤ d)   (k : Nat) : ∀ {l0 : Nat} {l1 : Option Nat} {l2 : Option Nat} {l3 : Option Nat} {l4 : Nat} {l5 : Int32} {l6 : Int32}  {x7 : Option Value} {h : zH} {p : ((Option Nat ⊕ Nat) × zH)}, zn2 x7 = true → f96_72 n   k l0 l1 l2 l3 l4 l5 l6 h = some p → Q (eAx p.1) p.2 → zW d 96 72 [some (.ref l0), some (va_rf l1), some (va_rf l2), some (va_rf l3), some (.ref l4), some (.int l5), some (.int l6), x7] [] h Q := by
  induction k with
  | zero => intros; rename_i hF _; cases hF
  | succ k ih => intros; rename_i hx7 hF q; exact tb96_72 (n := n) hd  ih hx7 hF q
def f96 (n : Nat)  (y0 : Nat) (y1 : Option Nat) (h : zH) : Option ((Option Nat ⊕ Nat) × zH) :=
  (gR h y0 5 0).bind fun x1 =>
  x1.bind fun a3 =>
  (gR h a3 4 7).bind fun x4 =>
  x4.bind fun a6 =>
  zgd (isO h a6 14) <|
  (f68 n a6 h).bind fun p9 =>
  zgd (isO p9.2 y0 5) <|
  (f69 n y0 p9.1 100 p9.2).bind fun p15 => zth p15 (fun r12 h13 =>
    zgd (isO h13 y0 5) <|
    (f71 n y0 (some 3) h13).bind fun p21 => zth p21 (fun r18 h19 =>
      zgd (isO h19 y0 5) <|
      (f71 n y0 (some 5) h19).bind fun p27 => zth p27 (fun r24 h25 =>
        (f92 n h25.1.length r18 r24 8 (nO h25 7 5)).bind fun p29 =>
        (gR p29.2 y0 5 0).bind fun x30 =>
        x30.bind fun a32 =>
        (gR p29.2 a32 4 7).bind fun x33 =>
        x33.bind fun a35 =>
        zgd (isO p29.2 a35 14) <|
        (f86 n a35 (some h25.1.length) p29.2).bind fun p38 =>
        zgd (isO p38.2 y0 5) <|
        (f71 n y0 (some 8) p38.2).bind fun p44 => zth p44 (fun r41 h42 =>
          f96_72 n  n y0 y1 r18 r24 h25.1.length 1 0 h42)
          (fun x43 h42 =>
          zgd (exOk x43) <| some (.inr x43, h42)))
        (fun x26 h25 =>
        zgd (exOk x26) <| some (.inr x26, h25)))
      (fun x20 h19 =>
      zgd (exOk x20) <| some (.inr x20, h19)))
    (fun x14 h13 =>
    zgd (exOk x14) <| some (.inr x14, h13))
set_option maxRecDepth 20000 in
theorem t96 {d n : Nat} {Q : zRs → zH → Prop}  {y0 : Nat} {y1 : Option Nat} (hd : 6 ≤ d)  {h : zH} {p : ((Option Nat ⊕ Nat) × zH)} (hF : f96 n  y0 y1 h = some p) (q : Q (eAx p.1) p.2) : zC d 96 [.ref y0, va_rf y1] h Q := by
  refine zC_of (L := [some (.ref y0), some (va_rf y1), none, none, none, none, none, none]) (congrArg (List.cons _) ((zsl_rf _ _).trans (congrArg (List.cons _) rfl))) rfl ?_
  unfold f96 at hF
  obtain ⟨d, rfl⟩ : ∃ e, d = e + 1 := ⟨d - 1, by omega⟩
  refine zx_aload_n rfl rfl rfl ?_
  refine zx_aload_n rfl rfl rfl ?_
  replace hF := zbnd hF
  obtain ⟨x1, e2, hF⟩ := hF
  refine zy_getR rfl rfl e2 ?_
  replace hF := zbnd hF
  obtain ⟨a3, rfl, hF⟩ := hF
  replace hF := zbnd hF
  obtain ⟨x4, e5, hF⟩ := hF
  refine zy_getR rfl rfl e5 ?_
  replace hF := zbnd hF
  obtain ⟨a6, rfl, hF⟩ := hF
  replace hF := zgd_some hF
  obtain ⟨g7, hF⟩ := hF
  replace hF := zbnd hF
  obtain ⟨p9, e8, hF⟩ := hF
  refine zx_callE rfl rfl rfl rfl (zrcv_isO g7) rfl rfl (zc4 (Nat.le_of_ble_eq_true rfl)) (t68 (by omega) e8 (zaI ?_))
  refine zx_bipush (v := 100) rfl rfl rfl ?_
  replace hF := zgd_some hF
  obtain ⟨g10, hF⟩ := hF
  replace hF := zbnd hF
  obtain ⟨⟨r12, h13⟩, e11, hF⟩ := hF
  refine zx_callE rfl rfl rfl rfl (zrcv_isO g10) rfl rfl (zc4 (Nat.le_of_ble_eq_true rfl)) (t69 (by omega) e11 ?_)
  rcases r12 with r12 | x14
  rotate_left 1
  · replace hF := zthH hF
    replace hF := zgd_some hF
    obtain ⟨gx, hF⟩ := hF
    replace hF := Option.some.inj hF
    subst hF
    exact zaX rfl gx q
  replace hF := zthG hF
  refine zaV (x := ()) ?_
  refine zx_aload_n rfl rfl rfl ?_
  refine zx_gets rfl rfl rfl ?_
  replace hF := zgd_some hF
  obtain ⟨g16, hF⟩ := hF
  replace hF := zbnd hF
  obtain ⟨⟨r18, h19⟩, e17, hF⟩ := hF
  refine zx_callE rfl rfl rfl rfl (zrcv_isO g16) rfl rfl (zc4 (Nat.le_of_ble_eq_true rfl)) (t71 (by omega) e17 ?_)
  rcases r18 with r18 | x20
  rotate_left 1
  · replace hF := zthH hF
    replace hF := zgd_some hF
    obtain ⟨gx, hF⟩ := hF
    replace hF := Option.some.inj hF
    subst hF
    exact zaX rfl gx q
  replace hF := zthG hF
  refine zaA ?_
  refine zy_rstore_n rfl rfl (zput_ok (L' := [some (.ref y0), some (va_rf y1), some (va_rf r18), none, none, none, none, none]) rfl (zcl_X (j := 1) rfl (zn2_rf _)) rfl) ?_
  refine zx_aload_n rfl rfl rfl ?_
  refine zx_gets rfl rfl rfl ?_
  replace hF := zgd_some hF
  obtain ⟨g22, hF⟩ := hF
  replace hF := zbnd hF
  obtain ⟨⟨r24, h25⟩, e23, hF⟩ := hF
  refine zx_callE rfl rfl rfl rfl (zrcv_isO g22) rfl rfl (zc4 (Nat.le_of_ble_eq_true rfl)) (t71 (by omega) e23 ?_)
  rcases r24 with r24 | x26
  rotate_left 1
  · replace hF := zthH hF
    replace hF := zgd_some hF
    obtain ⟨gx, hF⟩ := hF
    replace hF := Option.some.inj hF
    subst hF
    exact zaX rfl gx q
  replace hF := zthG hF
  refine zaA ?_
  refine zy_rstore_n rfl rfl (zput_ok (L' := [some (.ref y0), some (va_rf y1), some (va_rf r18), some (va_rf r24), none, none, none, none]) rfl (zcl_X (j := 2) rfl (zn2_rf _)) rfl) ?_
  refine zy_new rfl rfl ?_
  refine zx_dup rfl rfl rfl ?_
  refine zy_rload_n rfl rfl rfl ?_
  refine zy_rload_n rfl rfl rfl ?_
  refine zx_bipush (v := 8) rfl rfl rfl ?_
  replace hF := zbnd hF
  obtain ⟨p29, e28, hF⟩ := hF
  refine zx_callF rfl rfl rfl rfl rfl (congrArg (List.cons _) ((zsl_rf _ _).trans (congrArg (List.cons _) ((zsl_rf _ _).trans (congrArg (List.cons _) rfl))))) rfl (zc4 (Nat.le_of_ble_eq_true rfl)) (t92 (by omega) e28 (zaV ?_))
  refine zx_astore rfl rfl (zput_ok (L' := [some (.ref y0), some (va_rf y1), some (va_rf r18), some (va_rf r24), some (.ref h25.1.length), none, none, none]) rfl (zcl_X (j := 3) rfl (zn2_rf _)) rfl) ?_
  refine zx_aload_n rfl rfl rfl ?_
  replace hF := zbnd hF
  obtain ⟨x30, e31, hF⟩ := hF
  refine zy_getR rfl rfl e31 ?_
  replace hF := zbnd hF
  obtain ⟨a32, rfl, hF⟩ := hF
  replace hF := zbnd hF
  obtain ⟨x33, e34, hF⟩ := hF
  refine zy_getR rfl rfl e34 ?_
  refine zx_aload rfl rfl rfl ?_
  replace hF := zbnd hF
  obtain ⟨a35, rfl, hF⟩ := hF
  replace hF := zgd_some hF
  obtain ⟨g36, hF⟩ := hF
  replace hF := zbnd hF
  obtain ⟨p38, e37, hF⟩ := hF
  refine zx_callE rfl rfl rfl rfl (zrcv_isO g36) rfl rfl (zc4 (Nat.le_of_ble_eq_true rfl)) (t86 (by omega) e37 (zaI ?_))
  refine zx_pop rfl rfl rfl ?_
  refine zx_aload_n rfl rfl rfl ?_
  refine zx_gets rfl rfl rfl ?_
  replace hF := zgd_some hF
  obtain ⟨g39, hF⟩ := hF
  replace hF := zbnd hF
  obtain ⟨⟨r41, h42⟩, e40, hF⟩ := hF
  refine zx_callE rfl rfl rfl rfl (zrcv_isO g39) rfl rfl (zc4 (Nat.le_of_ble_eq_true rfl)) (t71 (by omega) e40 ?_)
  rcases r41 with r41 | x43
  rotate_left 1
  · replace hF := zthH hF
    replace hF := zgd_some hF
    obtain ⟨gx, hF⟩ := hF
    replace hF := Option.some.inj hF
    subst hF
    exact zaX rfl gx q
  replace hF := zthG hF
  refine zaA ?_
  refine zx_pop rfl rfl (zc1_rf _) ?_
  refine zx_iconst (v := 1) rfl rfl rfl ?_
  refine zx_istore rfl rfl rfl ?_
  refine zx_iconst (v := 0) rfl rfl rfl ?_
  refine zx_istore rfl rfl rfl ?_
  exact tf96_72 hd  n (l0 := y0) (l1 := y1) (l2 := r18) (l3 := r24) (l4 := h25.1.length) (l5 := 1) (l6 := 0) rfl hF q
def f104 (n : Nat)  (y0 : Nat) (y1 : Option Nat) (h : zH) : Option ((Option Nat ⊕ Nat) × zH) :=
  (gR h y0 5 0).bind fun x1 =>
  x1.bind fun a3 =>
  (gR h a3 4 7).bind fun x4 =>
  x4.bind fun a6 =>
  zgd (isO h a6 14) <|
  (f68 n a6 h).bind fun p9 =>
  zgd (isO p9.2 y0 5) <|
  (f69 n y0 p9.1 100 p9.2).bind fun p15 => zth p15 (fun r12 h13 =>
    zgd (isO h13 y0 5) <|
    (f98 n y0 0 h13).bind fun p21 => zth p21 (fun r18 h19 =>
      zgd (isO h19 y0 5) <|
      (f71 n y0 (some 3) h19).bind fun p27 => zth p27 (fun r24 h25 =>
        zgd (isO h25 y0 5) <|
        (f71 n y0 (some 5) h25).bind fun p33 => zth p33 (fun r30 h31 =>
          (f92 n h31.1.length r24 r30 2 (nO h31 7 5)).bind fun p35 =>
          (gR p35.2 y0 5 0).bind fun x36 =>
          x36.bind fun a38 =>
          (gR p35.2 a38 4 7).bind fun x39 =>
          x39.bind fun a41 =>
          zgd (isO p35.2 a41 14) <|
          (f86 n a41 (some h31.1.length) p35.2).bind fun p44 =>
          zgd (isO p44.2 y0 5) <|
          (f99 n y0 y1 p44.2).bind fun p50 => zth p50 (fun r47 h48 =>
            zgd (isO h48 h31.1.length 7) <|
            (f102 n h31.1.length r18 r47 h48).bind fun p53 =>
            zgd (isO p53.2 y0 5) <|
            (f71 n y0 (some 29) p53.2).bind fun p59 => zth p59 (fun r56 h57 =>
              zgd (isO h57 y0 5) <|
              (f99 n y0 y1 h57).bind fun p65 => zth p65 (fun r62 h63 =>
                zgd (isO h63 h31.1.length 7) <|
                (f102 n h31.1.length (10000 - r18) r62 h63).bind fun p68 =>
                some (.inl (some h31.1.length), p68.2))
                (fun x64 h63 =>
                zgd (exOk x64) <| some (.inr x64, h63)))
              (fun x58 h57 =>
              zgd (exOk x58) <| some (.inr x58, h57)))
            (fun x49 h48 =>
            zgd (exOk x49) <| some (.inr x49, h48)))
          (fun x32 h31 =>
          zgd (exOk x32) <| some (.inr x32, h31)))
        (fun x26 h25 =>
        zgd (exOk x26) <| some (.inr x26, h25)))
      (fun x20 h19 =>
      zgd (exOk x20) <| some (.inr x20, h19)))
    (fun x14 h13 =>
    zgd (exOk x14) <| some (.inr x14, h13))
set_option maxRecDepth 20000 in
theorem t104 {d n : Nat} {Q : zRs → zH → Prop}  {y0 : Nat} {y1 : Option Nat} (hd : 6 ≤ d)  {h : zH} {p : ((Option Nat ⊕ Nat) × zH)} (hF : f104 n  y0 y1 h = some p) (q : Q (eAx p.1) p.2) : zC d 104 [.ref y0, va_rf y1] h Q := by
  refine zC_of (L := [some (.ref y0), some (va_rf y1), none, none, none, none]) (congrArg (List.cons _) ((zsl_rf _ _).trans (congrArg (List.cons _) rfl))) rfl ?_
  unfold f104 at hF
  obtain ⟨d, rfl⟩ : ∃ e, d = e + 1 := ⟨d - 1, by omega⟩
  refine zx_aload_n rfl rfl rfl ?_
  refine zx_aload_n rfl rfl rfl ?_
  replace hF := zbnd hF
  obtain ⟨x1, e2, hF⟩ := hF
  refine zy_getR rfl rfl e2 ?_
  replace hF := zbnd hF
  obtain ⟨a3, rfl, hF⟩ := hF
  replace hF := zbnd hF
  obtain ⟨x4, e5, hF⟩ := hF
  refine zy_getR rfl rfl e5 ?_
  replace hF := zbnd hF
  obtain ⟨a6, rfl, hF⟩ := hF
  replace hF := zgd_some hF
  obtain ⟨g7, hF⟩ := hF
  replace hF := zbnd hF
  obtain ⟨p9, e8, hF⟩ := hF
  refine zx_callE rfl rfl rfl rfl (zrcv_isO g7) rfl rfl (zc4 (Nat.le_of_ble_eq_true rfl)) (t68 (by omega) e8 (zaI ?_))
  refine zx_bipush (v := 100) rfl rfl rfl ?_
  replace hF := zgd_some hF
  obtain ⟨g10, hF⟩ := hF
  replace hF := zbnd hF
  obtain ⟨⟨r12, h13⟩, e11, hF⟩ := hF
  refine zx_callE rfl rfl rfl rfl (zrcv_isO g10) rfl rfl (zc4 (Nat.le_of_ble_eq_true rfl)) (t69 (by omega) e11 ?_)
  rcases r12 with r12 | x14
  rotate_left 1
  · replace hF := zthH hF
    replace hF := zgd_some hF
    obtain ⟨gx, hF⟩ := hF
    replace hF := Option.some.inj hF
    subst hF
    exact zaX rfl gx q
  replace hF := zthG hF
  refine zaV (x := ()) ?_
  refine zx_aload_n rfl rfl rfl ?_
  refine zx_iconst (v := 0) rfl rfl rfl ?_
  replace hF := zgd_some hF
  obtain ⟨g16, hF⟩ := hF
  replace hF := zbnd hF
  obtain ⟨⟨r18, h19⟩, e17, hF⟩ := hF
  refine zx_callE rfl rfl rfl rfl (zrcv_isO g16) rfl rfl (zc4 (Nat.le_of_ble_eq_true rfl)) (t98 (by omega) e17 ?_)
  rcases r18 with r18 | x20
  rotate_left 1
  · replace hF := zthH hF
    replace hF := zgd_some hF
    obtain ⟨gx, hF⟩ := hF
    replace hF := Option.some.inj hF
    subst hF
    exact zaX rfl gx q
  replace hF := zthG hF
  refine zaI ?_
  refine zx_istore_n rfl rfl (zput_ok (L' := [some (.ref y0), some (va_rf y1), some (.int r18), none, none, none]) rfl (zcl_X (j := 1) rfl (zn2_rf _)) rfl) ?_
  refine zx_aload_n rfl rfl rfl ?_
  refine zx_gets rfl rfl rfl ?_
  replace hF := zgd_some hF
  obtain ⟨g22, hF⟩ := hF
  replace hF := zbnd hF
  obtain ⟨⟨r24, h25⟩, e23, hF⟩ := hF
  refine zx_callE rfl rfl rfl rfl (zrcv_isO g22) rfl rfl (zc4 (Nat.le_of_ble_eq_true rfl)) (t71 (by omega) e23 ?_)
  rcases r24 with r24 | x26
  rotate_left 1
  · replace hF := zthH hF
    replace hF := zgd_some hF
    obtain ⟨gx, hF⟩ := hF
    replace hF := Option.some.inj hF
    subst hF
    exact zaX rfl gx q
  replace hF := zthG hF
  refine zaA ?_
  refine zy_rstore_n rfl rfl rfl ?_
  refine zx_aload_n rfl rfl rfl ?_
  refine zx_gets rfl rfl rfl ?_
  replace hF := zgd_some hF
  obtain ⟨g28, hF⟩ := hF
  replace hF := zbnd hF
  obtain ⟨⟨r30, h31⟩, e29, hF⟩ := hF
  refine zx_callE rfl rfl rfl rfl (zrcv_isO g28) rfl rfl (zc4 (Nat.le_of_ble_eq_true rfl)) (t71 (by omega) e29 ?_)
  rcases r30 with r30 | x32
  rotate_left 1
  · replace hF := zthH hF
    replace hF := zgd_some hF
    obtain ⟨gx, hF⟩ := hF
    replace hF := Option.some.inj hF
    subst hF
    exact zaX rfl gx q
  replace hF := zthG hF
  refine zaA ?_
  refine zy_rstore rfl rfl (zput_ok (L' := [some (.ref y0), some (va_rf y1), some (.int r18), some (va_rf r24), some (va_rf r30), none]) rfl (zcl_X (j := 3) rfl (zn2_rf _)) rfl) ?_
  refine zy_new rfl rfl ?_
  refine zx_dup rfl rfl rfl ?_
  refine zy_rload_n rfl rfl rfl ?_
  refine zy_rload rfl rfl rfl ?_
  refine zx_iconst (v := 2) rfl rfl rfl ?_
  replace hF := zbnd hF
  obtain ⟨p35, e34, hF⟩ := hF
  refine zx_callF rfl rfl rfl rfl rfl (congrArg (List.cons _) ((zsl_rf _ _).trans (congrArg (List.cons _) ((zsl_rf _ _).trans (congrArg (List.cons _) rfl))))) rfl (zc4 (Nat.le_of_ble_eq_true rfl)) (t92 (by omega) e34 (zaV ?_))
  refine zx_astore rfl rfl (zput_ok (L' := [some (.ref y0), some (va_rf y1), some (.int r18), some (va_rf r24), some (va_rf r30), some (.ref h31.1.length)]) rfl (zcl_X (j := 4) rfl (zn2_rf _)) rfl) ?_
  refine zx_aload_n rfl rfl rfl ?_
  replace hF := zbnd hF
  obtain ⟨x36, e37, hF⟩ := hF
  refine zy_getR rfl rfl e37 ?_
  replace hF := zbnd hF
  obtain ⟨a38, rfl, hF⟩ := hF
  replace hF := zbnd hF
  obtain ⟨x39, e40, hF⟩ := hF
  refine zy_getR rfl rfl e40 ?_
  refine zx_aload rfl rfl rfl ?_
  replace hF := zbnd hF
  obtain ⟨a41, rfl, hF⟩ := hF
  replace hF := zgd_some hF
  obtain ⟨g42, hF⟩ := hF
  replace hF := zbnd hF
  obtain ⟨p44, e43, hF⟩ := hF
  refine zx_callE rfl rfl rfl rfl (zrcv_isO g42) rfl rfl (zc4 (Nat.le_of_ble_eq_true rfl)) (t86 (by omega) e43 (zaI ?_))
  refine zx_pop rfl rfl rfl ?_
  refine zx_aload rfl rfl rfl ?_
  refine zx_iload_n rfl rfl rfl ?_
  refine zx_aload_n rfl rfl rfl ?_
  refine zy_rload_n rfl rfl rfl ?_
  replace hF := zgd_some hF
  obtain ⟨g45, hF⟩ := hF
  replace hF := zbnd hF
  obtain ⟨⟨r47, h48⟩, e46, hF⟩ := hF
  refine zx_callE rfl rfl rfl rfl (zrcv_isO g45) (congrArg (List.cons _) ((zsl_rf _ _).trans (congrArg (List.cons _) rfl))) rfl (zc4 (Nat.le_of_ble_eq_true rfl)) (t99 (by omega) e46 ?_)
  rcases r47 with r47 | x49
  rotate_left 1
  · replace hF := zthH hF
    replace hF := zgd_some hF
    obtain ⟨gx, hF⟩ := hF
    replace hF := Option.some.inj hF
    subst hF
    exact zaX rfl gx q
  replace hF := zthG hF
  refine zaI ?_
  replace hF := zgd_some hF
  obtain ⟨g51, hF⟩ := hF
  replace hF := zbnd hF
  obtain ⟨p53, e52, hF⟩ := hF
  refine zx_callE rfl rfl rfl rfl (zrcv_isO g51) rfl rfl (zc4 (Nat.le_of_ble_eq_true rfl)) (t102 (by omega) e52 (zaV ?_))
  refine zx_aload_n rfl rfl rfl ?_
  refine zx_gets rfl rfl rfl ?_
  replace hF := zgd_some hF
  obtain ⟨g54, hF⟩ := hF
  replace hF := zbnd hF
  obtain ⟨⟨r56, h57⟩, e55, hF⟩ := hF
  refine zx_callE rfl rfl rfl rfl (zrcv_isO g54) rfl rfl (zc4 (Nat.le_of_ble_eq_true rfl)) (t71 (by omega) e55 ?_)
  rcases r56 with r56 | x58
  rotate_left 1
  · replace hF := zthH hF
    replace hF := zgd_some hF
    obtain ⟨gx, hF⟩ := hF
    replace hF := Option.some.inj hF
    subst hF
    exact zaX rfl gx q
  replace hF := zthG hF
  refine zaA ?_
  refine zx_pop rfl rfl (zc1_rf _) ?_
  refine zx_aload rfl rfl rfl ?_
  refine zx_sipush (v := 10000) rfl rfl rfl ?_
  refine zx_iload_n rfl rfl rfl ?_
  refine zx_isub rfl rfl ?_
  refine zx_aload_n rfl rfl rfl ?_
  refine zy_rload_n rfl rfl rfl ?_
  replace hF := zgd_some hF
  obtain ⟨g60, hF⟩ := hF
  replace hF := zbnd hF
  obtain ⟨⟨r62, h63⟩, e61, hF⟩ := hF
  refine zx_callE rfl rfl rfl rfl (zrcv_isO g60) (congrArg (List.cons _) ((zsl_rf _ _).trans (congrArg (List.cons _) rfl))) rfl (zc4 (Nat.le_of_ble_eq_true rfl)) (t99 (by omega) e61 ?_)
  rcases r62 with r62 | x64
  rotate_left 1
  · replace hF := zthH hF
    replace hF := zgd_some hF
    obtain ⟨gx, hF⟩ := hF
    replace hF := Option.some.inj hF
    subst hF
    exact zaX rfl gx q
  replace hF := zthG hF
  refine zaI ?_
  replace hF := zgd_some hF
  obtain ⟨g66, hF⟩ := hF
  replace hF := zbnd hF
  obtain ⟨p68, e67, hF⟩ := hF
  refine zx_callE rfl rfl rfl rfl (zrcv_isO g66) rfl rfl (zc4 (Nat.le_of_ble_eq_true rfl)) (t102 (by omega) e67 (zaV ?_))
  refine zx_aload rfl rfl rfl ?_
  replace hF := Option.some.inj hF
  subst hF
  exact zy_areturn (r := (some h31.1.length)) rfl rfl rfl rfl q
def b95_67 (n : Nat)   (l0 : Nat) (l1 : Option Nat) (l2 : Option Nat) (h : zH) : Option ((Option Nat ⊕ Nat) × zH) :=
  zgd (isO h l0 5) <|
  (f71 n l0 (some 10) h).bind fun p6 => zth p6 (fun r3 h4 =>
    some (.inl l2, h4))
    (fun x5 h4 =>
    zgd (exOk x5) <| some (.inr x5, h4))
set_option maxRecDepth 20000 in
theorem tb95_67 {d n : Nat} {Q : zRs → zH → Prop}   {l0 : Nat} {l1 : Option Nat} {l2 : Option Nat}   (hd : 7 ≤ d)   {h : zH} {p : ((Option Nat ⊕ Nat) × zH)}  (hF : b95_67 n   l0 l1 l2 h = some p) (q : Q (eAx p.1) p.2) : zW d 95 67 [some (.ref l0), some (va_rf l1), some (va_rf l2)] [] h Q := by
  unfold b95_67 at hF
  obtain ⟨d, rfl⟩ : ∃ e, d = e + 1 := ⟨d - 1, by omega⟩
  refine zx_aload_n rfl rfl rfl ?_
  refine zx_gets rfl rfl rfl ?_
  replace hF := zgd_some hF
  obtain ⟨g1, hF⟩ := hF
  replace hF := zbnd hF
  obtain ⟨⟨r3, h4⟩, e2, hF⟩ := hF
  refine zx_callE rfl rfl rfl rfl (zrcv_isO g1) rfl rfl (zc4 (Nat.le_of_ble_eq_true rfl)) (t71 (by omega) e2 ?_)
  rcases r3 with r3 | x5
  rotate_left 1
  · replace hF := zthH hF
    replace hF := zgd_some hF
    obtain ⟨gx, hF⟩ := hF
    replace hF := Option.some.inj hF
    subst hF
    exact zaX rfl gx q
  replace hF := zthG hF
  refine zaA ?_
  refine zx_pop rfl rfl (zc1_rf _) ?_
  refine zy_rload_n rfl rfl rfl ?_
  replace hF := Option.some.inj hF
  subst hF
  exact zy_areturn (r := l2) rfl rfl rfl rfl q
def f95 (n : Nat)  (y0 : Nat) (y1 : Option Nat) (h : zH) : Option ((Option Nat ⊕ Nat) × zH) :=
  (gR h y0 5 3).bind fun x1 =>
  x1.bind fun a3 =>
  (gR h a3 9 0).bind fun x4 =>
  (rEq x4 (some 27)).bind fun b6 =>
  if b6 = true then
    zgd (isO h y0 5) <|
    (f96 n y0 y1 h).bind fun p14 => zth p14 (fun r11 h12 =>
      b95_67 n  y0 y1 r11 h12)
      (fun x13 h12 =>
      zgd (exOk x13) <| some (.inr x13, h12))
  else
    (gR h y0 5 3).bind fun x15 =>
    x15.bind fun a17 =>
    (gR h a17 9 0).bind fun x18 =>
    (rEq x18 (some 28)).bind fun b20 =>
    if b20 = true then
      zgd (isO h y0 5) <|
      (f104 n y0 y1 h).bind fun p28 => zth p28 (fun r25 h26 =>
        b95_67 n  y0 y1 r25 h26)
        (fun x27 h26 =>
        zgd (exOk x27) <| some (.inr x27, h26))
    else
      (f92 n h.1.length none none 1 (nO h 7 5)).bind fun p30 =>
      zgd (isO p30.2 y0 5) <|
      (f99 n y0 y1 p30.2).bind fun p36 => zth p36 (fun r33 h34 =>
        zgd (isO h34 h.1.length 7) <|
        (f102 n h.1.length 10000 r33 h34).bind fun p39 =>
        b95_67 n  y0 y1 (some h.1.length) p39.2)
        (fun x35 h34 =>
        zgd (exOk x35) <| some (.inr x35, h34))
set_option maxRecDepth 20000 in
theorem t95 {d n : Nat} {Q : zRs → zH → Prop}  {y0 : Nat} {y1 : Option Nat} (hd : 7 ≤ d)  {h : zH} {p : ((Option Nat ⊕ Nat) × zH)} (hF : f95 n  y0 y1 h = some p) (q : Q (eAx p.1) p.2) : zC d 95 [.ref y0, va_rf y1] h Q := by
  refine zC_of (L := [some (.ref y0), some (va_rf y1), none]) (congrArg (List.cons _) ((zsl_rf _ _).trans (congrArg (List.cons _) rfl))) rfl ?_
  unfold f95 at hF
  obtain ⟨d, rfl⟩ : ∃ e, d = e + 1 := ⟨d - 1, by omega⟩
  refine zx_aload_n rfl rfl rfl ?_
  replace hF := zbnd hF
  obtain ⟨x1, e2, hF⟩ := hF
  refine zy_getR rfl rfl e2 ?_
  replace hF := zbnd hF
  obtain ⟨a3, rfl, hF⟩ := hF
  replace hF := zbnd hF
  obtain ⟨x4, e5, hF⟩ := hF
  refine zy_getR rfl rfl e5 ?_
  refine zx_gets rfl rfl rfl ?_
  replace hF := zbnd hF
  obtain ⟨b6, e7, hF⟩ := hF
  refine zy_ane rfl rfl e7 (fun c8 => ?_) (fun c8 => ?_)
  · rw [if_neg (by rw [c8]; exact Bool.false_ne_true)] at hF
    refine zx_aload_n rfl rfl rfl ?_
    replace hF := zbnd hF
    obtain ⟨x15, e16, hF⟩ := hF
    refine zy_getR rfl rfl e16 ?_
    replace hF := zbnd hF
    obtain ⟨a17, rfl, hF⟩ := hF
    replace hF := zbnd hF
    obtain ⟨x18, e19, hF⟩ := hF
    refine zy_getR rfl rfl e19 ?_
    refine zx_gets rfl rfl rfl ?_
    replace hF := zbnd hF
    obtain ⟨b20, e21, hF⟩ := hF
    refine zy_ane rfl rfl e21 (fun c22 => ?_) (fun c22 => ?_)
    · rw [if_neg (by rw [c22]; exact Bool.false_ne_true)] at hF
      refine zy_new rfl rfl ?_
      refine zx_dup rfl rfl rfl ?_
      refine zx_null rfl rfl ?_
      refine zx_null rfl rfl ?_
      refine zx_iconst (v := 1) rfl rfl rfl ?_
      replace hF := zbnd hF
      obtain ⟨p30, e29, hF⟩ := hF
      refine zx_callF rfl rfl rfl rfl rfl rfl rfl (zc4 (Nat.le_of_ble_eq_true rfl)) (t92 (by omega) e29 (zaV ?_))
      refine zx_astore_n rfl rfl (zput_ok (L' := [some (.ref y0), some (va_rf y1), some (.ref h.1.length)]) rfl (zcl_X (j := 1) rfl (zn2_rf _)) rfl) ?_
      refine zx_aload_n rfl rfl rfl ?_
      refine zx_sipush (v := 10000) rfl rfl rfl ?_
      refine zx_aload_n rfl rfl rfl ?_
      refine zy_rload_n rfl rfl rfl ?_
      replace hF := zgd_some hF
      obtain ⟨g31, hF⟩ := hF
      replace hF := zbnd hF
      obtain ⟨⟨r33, h34⟩, e32, hF⟩ := hF
      refine zx_callE rfl rfl rfl rfl (zrcv_isO g31) (congrArg (List.cons _) ((zsl_rf _ _).trans (congrArg (List.cons _) rfl))) rfl (zc4 (Nat.le_of_ble_eq_true rfl)) (t99 (by omega) e32 ?_)
      rcases r33 with r33 | x35
      rotate_left 1
      · replace hF := zthH hF
        replace hF := zgd_some hF
        obtain ⟨gx, hF⟩ := hF
        replace hF := Option.some.inj hF
        subst hF
        exact zaX rfl gx q
      replace hF := zthG hF
      refine zaI ?_
      replace hF := zgd_some hF
      obtain ⟨g37, hF⟩ := hF
      replace hF := zbnd hF
      obtain ⟨p39, e38, hF⟩ := hF
      refine zx_callE rfl rfl rfl rfl (zrcv_isO g37) rfl rfl (zc4 (Nat.le_of_ble_eq_true rfl)) (t102 (by omega) e38 (zaV ?_))
      exact tb95_67 (l0 := y0) (l1 := y1) (l2 := (some h.1.length)) hd   hF q
    · rw [if_pos c22] at hF
      refine zx_aload_n rfl rfl rfl ?_
      refine zy_rload_n rfl rfl rfl ?_
      replace hF := zgd_some hF
      obtain ⟨g23, hF⟩ := hF
      replace hF := zbnd hF
      obtain ⟨⟨r25, h26⟩, e24, hF⟩ := hF
      refine zx_callE rfl rfl rfl rfl (zrcv_isO g23) (congrArg (List.cons _) ((zsl_rf _ _).trans (congrArg (List.cons _) rfl))) rfl (zc4 (Nat.le_of_ble_eq_true rfl)) (t104 (by omega) e24 ?_)
      rcases r25 with r25 | x27
      rotate_left 1
      · replace hF := zthH hF
        replace hF := zgd_some hF
        obtain ⟨gx, hF⟩ := hF
        replace hF := Option.some.inj hF
        subst hF
        exact zaX rfl gx q
      replace hF := zthG hF
      refine zaA ?_
      refine zy_rstore_n rfl rfl (zput_ok (L' := [some (.ref y0), some (va_rf y1), some (va_rf r25)]) rfl (zcl_X (j := 1) rfl (zn2_rf _)) rfl) ?_
      refine zx_goto rfl rfl ?_
      exact tb95_67 (l0 := y0) (l1 := y1) (l2 := r25) hd   hF q
  · rw [if_pos c8] at hF
    refine zx_aload_n rfl rfl rfl ?_
    refine zy_rload_n rfl rfl rfl ?_
    replace hF := zgd_some hF
    obtain ⟨g9, hF⟩ := hF
    replace hF := zbnd hF
    obtain ⟨⟨r11, h12⟩, e10, hF⟩ := hF
    refine zx_callE rfl rfl rfl rfl (zrcv_isO g9) (congrArg (List.cons _) ((zsl_rf _ _).trans (congrArg (List.cons _) rfl))) rfl (zc4 (Nat.le_of_ble_eq_true rfl)) (t96 (by omega) e10 ?_)
    rcases r11 with r11 | x13
    rotate_left 1
    · replace hF := zthH hF
      replace hF := zgd_some hF
      obtain ⟨gx, hF⟩ := hF
      replace hF := Option.some.inj hF
      subst hF
      exact zaX rfl gx q
    replace hF := zthG hF
    refine zaA ?_
    refine zy_rstore_n rfl rfl (zput_ok (L' := [some (.ref y0), some (va_rf y1), some (va_rf r11)]) rfl (zcl_X (j := 1) rfl (zn2_rf _)) rfl) ?_
    refine zx_goto rfl rfl ?_
    exact tb95_67 (l0 := y0) (l1 := y1) (l2 := r11) hd   hF q
def b105_106 (n : Nat)   (l0 : Nat) (l1 : Option Nat) (l2 : Int32) (h : zH) : Option ((Unit ⊕ Nat) × zH) :=
  l1.bind fun a1 =>
  (gR h a1 0 3).bind fun x2 =>
  (gR h l0 5 3).bind fun x4 =>
  x4.bind fun a6 =>
  (gR h a6 9 0).bind fun x7 =>
  zgd (isO h l0 5) <|
  (f71 n l0 x7 h).bind fun p14 => zth p14 (fun r11 h12 =>
    x2.bind fun a15 =>
    zgd (isO h12 a15 14) <|
    (f86 n a15 r11 h12).bind fun p18 =>
    zgd (isO p18.2 l0 5) <|
    (f71 n l0 (some 10) p18.2).bind fun p24 => zth p24 (fun r21 h22 =>
      some (.inl (), h22))
      (fun x23 h22 =>
      zgd (exOk x23) <| some (.inr x23, h22)))
    (fun x13 h12 =>
    zgd (exOk x13) <| some (.inr x13, h12))
set_option maxRecDepth 20000 in
theorem tb105_106 {d n : Nat} {Q : zRs → zH → Prop}   {l0 : Nat} {l1 : Option Nat} {l2 : Int32}   (hd : 6 ≤ d)   {h : zH} {p : ((Unit ⊕ Nat) × zH)}  (hF : b105_106 n   l0 l1 l2 h = some p) (q : Q (eVx p.1) p.2) : zW d 105 106 [some (.ref l0), some (va_rf l1), some (.int l2)] [] h Q := by
  unfold b105_106 at hF
  obtain ⟨d, rfl⟩ : ∃ e, d = e + 1 := ⟨d - 1, by omega⟩
  refine zy_rload_n rfl rfl rfl ?_
  replace hF := zbnd hF
  obtain ⟨a1, rfl, hF⟩ := hF
  replace hF := zbnd hF
  obtain ⟨x2, e3, hF⟩ := hF
  refine zy_getR rfl rfl e3 ?_
  refine zx_aload_n rfl rfl rfl ?_
  refine zx_aload_n rfl rfl rfl ?_
  replace hF := zbnd hF
  obtain ⟨x4, e5, hF⟩ := hF
  refine zy_getR rfl rfl e5 ?_
  replace hF := zbnd hF
  obtain ⟨a6, rfl, hF⟩ := hF
  replace hF := zbnd hF
  obtain ⟨x7, e8, hF⟩ := hF
  refine zy_getR rfl rfl e8 ?_
  replace hF := zgd_some hF
  obtain ⟨g9, hF⟩ := hF
  replace hF := zbnd hF
  obtain ⟨⟨r11, h12⟩, e10, hF⟩ := hF
  refine zx_callE rfl rfl rfl rfl (zrcv_isO g9) (congrArg (List.cons _) ((zsl_rf _ _).trans (congrArg (List.cons _) rfl))) rfl (zc4 (Nat.le_of_ble_eq_true rfl)) (t71 (by omega) e10 ?_)
  rcases r11 with r11 | x13
  rotate_left 1
  · replace hF := zthH hF
    replace hF := zgd_some hF
    obtain ⟨gx, hF⟩ := hF
    replace hF := Option.some.inj hF
    subst hF
    exact zaX rfl gx q
  replace hF := zthG hF
  refine zaA ?_
  replace hF := zbnd hF
  obtain ⟨a15, rfl, hF⟩ := hF
  replace hF := zgd_some hF
  obtain ⟨g16, hF⟩ := hF
  replace hF := zbnd hF
  obtain ⟨p18, e17, hF⟩ := hF
  refine zx_callE rfl rfl rfl rfl (zrcv_isO g16) (congrArg (List.cons _) ((zsl_rf _ _).trans (congrArg (List.cons _) rfl))) rfl (zc4 (Nat.le_of_ble_eq_true rfl)) (t86 (by omega) e17 (zaI ?_))
  refine zx_pop rfl rfl rfl ?_
  refine zx_aload_n rfl rfl rfl ?_
  refine zx_gets rfl rfl rfl ?_
  replace hF := zgd_some hF
  obtain ⟨g19, hF⟩ := hF
  replace hF := zbnd hF
  obtain ⟨⟨r21, h22⟩, e20, hF⟩ := hF
  refine zx_callE rfl rfl rfl rfl (zrcv_isO g19) rfl rfl (zc4 (Nat.le_of_ble_eq_true rfl)) (t71 (by omega) e20 ?_)
  rcases r21 with r21 | x23
  rotate_left 1
  · replace hF := zthH hF
    replace hF := zgd_some hF
    obtain ⟨gx, hF⟩ := hF
    replace hF := Option.some.inj hF
    subst hF
    exact zaX rfl gx q
  replace hF := zthG hF
  refine zaA ?_
  refine zx_pop rfl rfl (zc1_rf _) ?_
  replace hF := Option.some.inj hF
  subst hF
  exact zx_return rfl rfl rfl q
def b105_92 (n : Nat)   (l0 : Nat) (l1 : Option Nat) (s0 : Int32) (h : zH) : Option ((Unit ⊕ Nat) × zH) :=
  if s0 = 0 then
    (gR h l0 5 3).bind fun x2 =>
    zgd (isO h l0 5) <|
    (f70 n l0 2 x2 h).bind fun p9 => zth p9 (fun r6 h7 =>
      b105_106 n  l0 l1 s0 h7)
      (fun x8 h7 =>
      zgd (exOk x8) <| some (.inr x8, h7))
  else
    b105_106 n  l0 l1 s0 h
set_option maxRecDepth 20000 in
theorem tb105_92 {d n : Nat} {Q : zRs → zH → Prop}   {l0 : Nat} {l1 : Option Nat} {s0 : Int32} {x2 : Option Value} (hd : 6 ≤ d)   {h : zH} {p : ((Unit ⊕ Nat) × zH)} (hx2 : zn2 x2 = true) (hF : b105_92 n   l0 l1 s0 h = some p) (q : Q (eVx p.1) p.2) : zW d 105 92 [some (.ref l0), some (va_rf l1), x2] [.int s0] h Q := by
  unfold b105_92 at hF
  obtain ⟨d, rfl⟩ : ∃ e, d = e + 1 := ⟨d - 1, by omega⟩
  refine zx_istore_n rfl rfl (zput_ok (L' := [some (.ref l0), some (va_rf l1), some (.int s0)]) rfl (zcl_X (j := 1) rfl (zn2_rf _)) rfl) ?_
  refine zx_iload_n rfl rfl rfl ?_
  refine zx_if_ne rfl rfl (fun c1 => ?_) (fun c1 => ?_)
  · rw [if_neg c1] at hF
    exact tb105_106 (l0 := l0) (l1 := l1) (l2 := s0) hd   hF q
  · rw [if_pos c1] at hF
    refine zx_aload_n rfl rfl rfl ?_
    refine zx_iconst (v := 2) rfl rfl rfl ?_
    refine zx_aload_n rfl rfl rfl ?_
    replace hF := zbnd hF
    obtain ⟨x2, e3, hF⟩ := hF
    refine zy_getR rfl rfl e3 ?_
    replace hF := zgd_some hF
    obtain ⟨g4, hF⟩ := hF
    replace hF := zbnd hF
    obtain ⟨⟨r6, h7⟩, e5, hF⟩ := hF
    refine zx_callE rfl rfl rfl rfl (zrcv_isO g4) (congrArg (List.cons _) (congrArg (List.cons _) ((zsl_rf _ _).trans (congrArg (List.cons _) rfl)))) rfl (zc4 (Nat.le_of_ble_eq_true rfl)) (t70 (by omega) e5 ?_)
    rcases r6 with r6 | x8
    rotate_left 1
    · replace hF := zthH hF
      replace hF := zgd_some hF
      obtain ⟨gx, hF⟩ := hF
      replace hF := Option.some.inj hF
      subst hF
      exact zaX rfl gx q
    replace hF := zthG hF
    refine zaV (x := ()) ?_
    exact tb105_106 (l0 := l0) (l1 := l1) (l2 := s0) hd   hF q
def b105_87 (n : Nat)   (l0 : Nat) (l1 : Option Nat) (h : zH) : Option ((Unit ⊕ Nat) × zH) :=
  b105_92 n  l0 l1 1 h
set_option maxRecDepth 20000 in
theorem tb105_87 {d n : Nat} {Q : zRs → zH → Prop}   {l0 : Nat} {l1 : Option Nat}  {x2 : Option Value} (hd : 6 ≤ d)   {h : zH} {p : ((Unit ⊕ Nat) × zH)} (hx2 : zn2 x2 = true) (hF : b105_87 n   l0 l1 h = some p) (q : Q (eVx p.1) p.2) : zW d 105 87 [some (.ref l0), some (va_rf l1), x2] [] h Q := by
  unfold b105_87 at hF
  obtain ⟨d, rfl⟩ : ∃ e, d = e + 1 := ⟨d - 1, by omega⟩
  refine zx_iconst (v := 1) rfl rfl rfl ?_
  refine zx_goto rfl rfl ?_
  exact tb105_92 (l0 := l0) (l1 := l1) (s0 := 1) hd  hx2 hF q
def f105 (n : Nat)  (y0 : Nat) (y1 : Option Nat) (h : zH) : Option ((Unit ⊕ Nat) × zH) :=
  y1.bind fun a1 =>
  (gR h a1 0 2).bind fun x2 =>
  x2.bind fun a4 =>
  zgd (isO h a4 14) <|
  (f68 n a4 h).bind fun p7 =>
  zgd (isO p7.2 y0 5) <|
  (f69 n y0 p7.1 4 p7.2).bind fun p13 => zth p13 (fun r10 h11 =>
    (gR h11 a1 0 2).bind fun x14 =>
    zgd (isO h11 y0 5) <|
    (f71 n y0 (some 3) h11).bind fun p21 => zth p21 (fun r18 h19 =>
      x14.bind fun a22 =>
      zgd (isO h19 a22 14) <|
      (f86 n a22 r18 h19).bind fun p25 =>
      zgd (isO p25.2 y0 5) <|
      (f71 n y0 (some 13) p25.2).bind fun p31 => zth p31 (fun r28 h29 =>
        (gR h29 y0 5 3).bind fun x32 =>
        x32.bind fun a34 =>
        (gR h29 a34 9 0).bind fun x35 =>
        (rEq x35 (some 34)).bind fun b37 =>
        if b37 = true then
          b105_87 n  y0 (some a1) h29
        else
          (gR h29 y0 5 3).bind fun x40 =>
          x40.bind fun a42 =>
          (gR h29 a42 9 0).bind fun x43 =>
          (rEq x43 (some 35)).bind fun b45 =>
          if b45 = true then
            b105_87 n  y0 (some a1) h29
          else
            (gR h29 y0 5 3).bind fun x48 =>
            x48.bind fun a50 =>
            (gR h29 a50 9 0).bind fun x51 =>
            (rEq x51 (some 3)).bind fun b53 =>
            if b53 = true then
              b105_87 n  y0 (some a1) h29
            else
              (gR h29 y0 5 3).bind fun x56 =>
              x56.bind fun a58 =>
              (gR h29 a58 9 0).bind fun x59 =>
              (rEq x59 (some 4)).bind fun b61 =>
              if b61 = true then
                b105_87 n  y0 (some a1) h29
              else
                b105_92 n  y0 (some a1) 0 h29)
        (fun x30 h29 =>
        zgd (exOk x30) <| some (.inr x30, h29)))
      (fun x20 h19 =>
      zgd (exOk x20) <| some (.inr x20, h19)))
    (fun x12 h11 =>
    zgd (exOk x12) <| some (.inr x12, h11))
set_option maxRecDepth 20000 in
theorem t105 {d n : Nat} {Q : zRs → zH → Prop}  {y0 : Nat} {y1 : Option Nat} (hd : 6 ≤ d)  {h : zH} {p : ((Unit ⊕ Nat) × zH)} (hF : f105 n  y0 y1 h = some p) (q : Q (eVx p.1) p.2) : zC d 105 [.ref y0, va_rf y1] h Q := by
  refine zC_of (L := [some (.ref y0), some (va_rf y1), none]) (congrArg (List.cons _) ((zsl_rf _ _).trans (congrArg (List.cons _) rfl))) rfl ?_
  unfold f105 at hF
  obtain ⟨d, rfl⟩ : ∃ e, d = e + 1 := ⟨d - 1, by omega⟩
  refine zx_aload_n rfl rfl rfl ?_
  refine zy_rload_n rfl rfl rfl ?_
  replace hF := zbnd hF
  obtain ⟨a1, rfl, hF⟩ := hF
  replace hF := zbnd hF
  obtain ⟨x2, e3, hF⟩ := hF
  refine zy_getR rfl rfl e3 ?_
  replace hF := zbnd hF
  obtain ⟨a4, rfl, hF⟩ := hF
  replace hF := zgd_some hF
  obtain ⟨g5, hF⟩ := hF
  replace hF := zbnd hF
  obtain ⟨p7, e6, hF⟩ := hF
  refine zx_callE rfl rfl rfl rfl (zrcv_isO g5) rfl rfl (zc4 (Nat.le_of_ble_eq_true rfl)) (t68 (by omega) e6 (zaI ?_))
  refine zx_iconst (v := 4) rfl rfl rfl ?_
  replace hF := zgd_some hF
  obtain ⟨g8, hF⟩ := hF
  replace hF := zbnd hF
  obtain ⟨⟨r10, h11⟩, e9, hF⟩ := hF
  refine zx_callE rfl rfl rfl rfl (zrcv_isO g8) rfl rfl (zc4 (Nat.le_of_ble_eq_true rfl)) (t69 (by omega) e9 ?_)
  rcases r10 with r10 | x12
  rotate_left 1
  · replace hF := zthH hF
    replace hF := zgd_some hF
    obtain ⟨gx, hF⟩ := hF
    replace hF := Option.some.inj hF
    subst hF
    exact zaX rfl gx q
  replace hF := zthG hF
  refine zaV (x := ()) ?_
  refine zx_aload_n rfl rfl rfl ?_
  replace hF := zbnd hF
  obtain ⟨x14, e15, hF⟩ := hF
  refine zy_getR rfl rfl e15 ?_
  refine zx_aload_n rfl rfl rfl ?_
  refine zx_gets rfl rfl rfl ?_
  replace hF := zgd_some hF
  obtain ⟨g16, hF⟩ := hF
  replace hF := zbnd hF
  obtain ⟨⟨r18, h19⟩, e17, hF⟩ := hF
  refine zx_callE rfl rfl rfl rfl (zrcv_isO g16) rfl rfl (zc4 (Nat.le_of_ble_eq_true rfl)) (t71 (by omega) e17 ?_)
  rcases r18 with r18 | x20
  rotate_left 1
  · replace hF := zthH hF
    replace hF := zgd_some hF
    obtain ⟨gx, hF⟩ := hF
    replace hF := Option.some.inj hF
    subst hF
    exact zaX rfl gx q
  replace hF := zthG hF
  refine zaA ?_
  replace hF := zbnd hF
  obtain ⟨a22, rfl, hF⟩ := hF
  replace hF := zgd_some hF
  obtain ⟨g23, hF⟩ := hF
  replace hF := zbnd hF
  obtain ⟨p25, e24, hF⟩ := hF
  refine zx_callE rfl rfl rfl rfl (zrcv_isO g23) (congrArg (List.cons _) ((zsl_rf _ _).trans (congrArg (List.cons _) rfl))) rfl (zc4 (Nat.le_of_ble_eq_true rfl)) (t86 (by omega) e24 (zaI ?_))
  refine zx_pop rfl rfl rfl ?_
  refine zx_aload_n rfl rfl rfl ?_
  refine zx_gets rfl rfl rfl ?_
  replace hF := zgd_some hF
  obtain ⟨g26, hF⟩ := hF
  replace hF := zbnd hF
  obtain ⟨⟨r28, h29⟩, e27, hF⟩ := hF
  refine zx_callE rfl rfl rfl rfl (zrcv_isO g26) rfl rfl (zc4 (Nat.le_of_ble_eq_true rfl)) (t71 (by omega) e27 ?_)
  rcases r28 with r28 | x30
  rotate_left 1
  · replace hF := zthH hF
    replace hF := zgd_some hF
    obtain ⟨gx, hF⟩ := hF
    replace hF := Option.some.inj hF
    subst hF
    exact zaX rfl gx q
  replace hF := zthG hF
  refine zaA ?_
  refine zx_pop rfl rfl (zc1_rf _) ?_
  refine zx_aload_n rfl rfl rfl ?_
  replace hF := zbnd hF
  obtain ⟨x32, e33, hF⟩ := hF
  refine zy_getR rfl rfl e33 ?_
  replace hF := zbnd hF
  obtain ⟨a34, rfl, hF⟩ := hF
  replace hF := zbnd hF
  obtain ⟨x35, e36, hF⟩ := hF
  refine zy_getR rfl rfl e36 ?_
  refine zx_gets rfl rfl rfl ?_
  replace hF := zbnd hF
  obtain ⟨b37, e38, hF⟩ := hF
  refine zy_aeq rfl rfl e38 (fun c39 => ?_) (fun c39 => ?_)
  · rw [if_pos c39] at hF
    exact tb105_87 (l0 := y0) (l1 := (some a1)) hd  rfl hF q
  · rw [if_neg (by rw [c39]; exact Bool.false_ne_true)] at hF
    refine zx_aload_n rfl rfl rfl ?_
    replace hF := zbnd hF
    obtain ⟨x40, e41, hF⟩ := hF
    refine zy_getR rfl rfl e41 ?_
    replace hF := zbnd hF
    obtain ⟨a42, rfl, hF⟩ := hF
    replace hF := zbnd hF
    obtain ⟨x43, e44, hF⟩ := hF
    refine zy_getR rfl rfl e44 ?_
    refine zx_gets rfl rfl rfl ?_
    replace hF := zbnd hF
    obtain ⟨b45, e46, hF⟩ := hF
    refine zy_aeq rfl rfl e46 (fun c47 => ?_) (fun c47 => ?_)
    · rw [if_pos c47] at hF
      exact tb105_87 (l0 := y0) (l1 := (some a1)) hd  rfl hF q
    · rw [if_neg (by rw [c47]; exact Bool.false_ne_true)] at hF
      refine zx_aload_n rfl rfl rfl ?_
      replace hF := zbnd hF
      obtain ⟨x48, e49, hF⟩ := hF
      refine zy_getR rfl rfl e49 ?_
      replace hF := zbnd hF
      obtain ⟨a50, rfl, hF⟩ := hF
      replace hF := zbnd hF
      obtain ⟨x51, e52, hF⟩ := hF
      refine zy_getR rfl rfl e52 ?_
      refine zx_gets rfl rfl rfl ?_
      replace hF := zbnd hF
      obtain ⟨b53, e54, hF⟩ := hF
      refine zy_aeq rfl rfl e54 (fun c55 => ?_) (fun c55 => ?_)
      · rw [if_pos c55] at hF
        exact tb105_87 (l0 := y0) (l1 := (some a1)) hd  rfl hF q
      · rw [if_neg (by rw [c55]; exact Bool.false_ne_true)] at hF
        refine zx_aload_n rfl rfl rfl ?_
        replace hF := zbnd hF
        obtain ⟨x56, e57, hF⟩ := hF
        refine zy_getR rfl rfl e57 ?_
        replace hF := zbnd hF
        obtain ⟨a58, rfl, hF⟩ := hF
        replace hF := zbnd hF
        obtain ⟨x59, e60, hF⟩ := hF
        refine zy_getR rfl rfl e60 ?_
        refine zx_gets rfl rfl rfl ?_
        replace hF := zbnd hF
        obtain ⟨b61, e62, hF⟩ := hF
        refine zy_ane rfl rfl e62 (fun c63 => ?_) (fun c63 => ?_)
        · rw [if_neg (by rw [c63]; exact Bool.false_ne_true)] at hF
          refine zx_iconst (v := 0) rfl rfl rfl ?_
          exact tb105_92 (l0 := y0) (l1 := (some a1)) (s0 := 0) hd  rfl hF q
        · rw [if_pos c63] at hF
          exact tb105_87 (l0 := y0) (l1 := (some a1)) hd  rfl hF q
def f106 (n : Nat)  (y0 : Nat) (y1 : Int32) (y2 : Option Nat) (y3 : Option Nat) (h : zH) : Option (Unit × zH) :=
  (pF h y0 6 0 (.int y1)).bind fun h1 =>
  (pF h1 y0 6 1 (va_rf y2)).bind fun h3 =>
  (pF h3 y0 6 2 (va_rf y3)).bind fun h5 =>
  some ((), h5)
set_option maxRecDepth 20000 in
theorem t106 {d n : Nat} {Q : zRs → zH → Prop}  {y0 : Nat} {y1 : Int32} {y2 : Option Nat} {y3 : Option Nat} (hd : 0 ≤ d)  {h : zH} {p : (Unit × zH)} (hF : f106 n  y0 y1 y2 y3 h = some p) (q : Q (eV p.1) p.2) : zC d 106 [.ref y0, .int y1, va_rf y2, va_rf y3] h Q := by
  refine zC_of (L := [some (.ref y0), some (.int y1), some (va_rf y2), some (va_rf y3)]) (congrArg (List.cons _) (congrArg (List.cons _) ((zsl_rf _ _).trans (congrArg (List.cons _) ((zsl_rf _ _).trans (congrArg (List.cons _) rfl)))))) rfl ?_
  unfold f106 at hF
  refine zx_aload_n rfl rfl rfl ?_
  refine zw_obj rfl rfl rfl (Nat.ble_eq_true_of_le (Nat.le_trans (zcat_le _) (Nat.le_of_ble_eq_true rfl))) ?_
  refine zx_aload_n rfl rfl rfl ?_
  refine zx_iload_n rfl rfl rfl ?_
  replace hF := zbnd hF
  obtain ⟨h1, e2, hF⟩ := hF
  refine zy_put rfl rfl e2 ?_
  refine zx_aload_n rfl rfl rfl ?_
  refine zy_rload_n rfl rfl rfl ?_
  replace hF := zbnd hF
  obtain ⟨h3, e4, hF⟩ := hF
  refine zy_put rfl rfl e4 ?_
  refine zx_aload_n rfl rfl rfl ?_
  refine zy_rload_n rfl rfl rfl ?_
  replace hF := zbnd hF
  obtain ⟨h5, e6, hF⟩ := hF
  refine zy_put rfl rfl e6 ?_
  replace hF := Option.some.inj hF
  subst hF
  exact zx_return rfl rfl rfl q
def b90_260 (n : Nat)   (l0 : Nat) (l1 : Int32) (l2 : Nat) (l3 : Int32) (h : zH) : Option ((Unit ⊕ Nat) × zH) :=
  (gR h l0 5 0).bind fun x1 =>
  x1.bind fun a3 =>
  (gR h a3 4 6).bind fun x4 =>
  x4.bind fun a6 =>
  zgd (isO h a6 14) <|
  (f68 n a6 h).bind fun p9 =>
  (pF p9.2 l2 0 9 (.int p9.1)).bind fun h10 =>
  zgd (isO h10 l0 5) <|
  (f71 n l0 (some 7) h10).bind fun p17 => zth p17 (fun r14 h15 =>
    some (.inl (), h15))
    (fun x16 h15 =>
    zgd (exOk x16) <| some (.inr x16, h15))
set_option maxRecDepth 20000 in
theorem tb90_260 {d n : Nat} {Q : zRs → zH → Prop}   {l0 : Nat} {l1 : Int32} {l2 : Nat} {l3 : Int32}  {x4 : Option Value} (hd : 70 ≤ d)   {h : zH} {p : ((Unit ⊕ Nat) × zH)} (hx4 : zn2 x4 = true) (hF : b90_260 n   l0 l1 l2 l3 h = some p) (q : Q (eVx p.1) p.2) : zW d 90 260 [some (.ref l0), some (.int l1), some (.ref l2), some (.int l3), x4] [] h Q := by
  unfold b90_260 at hF
  obtain ⟨d, rfl⟩ : ∃ e, d = e + 1 := ⟨d - 1, by omega⟩
  refine zx_aload_n rfl rfl rfl ?_
  refine zx_aload_n rfl rfl rfl ?_
  replace hF := zbnd hF
  obtain ⟨x1, e2, hF⟩ := hF
  refine zy_getR rfl rfl e2 ?_
  replace hF := zbnd hF
  obtain ⟨a3, rfl, hF⟩ := hF
  replace hF := zbnd hF
  obtain ⟨x4, e5, hF⟩ := hF
  refine zy_getR rfl rfl e5 ?_
  replace hF := zbnd hF
  obtain ⟨a6, rfl, hF⟩ := hF
  replace hF := zgd_some hF
  obtain ⟨g7, hF⟩ := hF
  replace hF := zbnd hF
  obtain ⟨p9, e8, hF⟩ := hF
  refine zx_callE rfl rfl rfl rfl (zrcv_isO g7) rfl rfl (zc4 (Nat.le_of_ble_eq_true rfl)) (t68 (by omega) e8 (zaI ?_))
  replace hF := zbnd hF
  obtain ⟨h10, e11, hF⟩ := hF
  refine zy_put rfl rfl e11 ?_
  refine zx_aload_n rfl rfl rfl ?_
  refine zx_gets rfl rfl rfl ?_
  replace hF := zgd_some hF
  obtain ⟨g12, hF⟩ := hF
  replace hF := zbnd hF
  obtain ⟨⟨r14, h15⟩, e13, hF⟩ := hF
  refine zx_callE rfl rfl rfl rfl (zrcv_isO g12) rfl rfl (zc4 (Nat.le_of_ble_eq_true rfl)) (t71 (by omega) e13 ?_)
  rcases r14 with r14 | x16
  rotate_left 1
  · replace hF := zthH hF
    replace hF := zgd_some hF
    obtain ⟨gx, hF⟩ := hF
    replace hF := Option.some.inj hF
    subst hF
    exact zaX rfl gx q
  replace hF := zthG hF
  refine zaA ?_
  refine zx_pop rfl rfl (zc1_rf _) ?_
  replace hF := Option.some.inj hF
  subst hF
  exact zx_return rfl rfl rfl q
def b90_175 (n : Nat)  (r175 : Nat → Int32 → Nat → Int32 → zH → Option ((Unit ⊕ Nat) × zH)) (l0 : Nat) (l1 : Int32) (l2 : Nat) (l3 : Int32) (h : zH) : Option ((Unit ⊕ Nat) × zH) :=
  if (100 : Int32) < l3 then
    b90_260 n  l0 l1 l2 l3 h
  else
    (gR h l0 5 3).bind fun x2 =>
    x2.bind fun a4 =>
    (gR h a4 9 0).bind fun x5 =>
    (rEq x5 (some 22)).bind fun b7 =>
    if b7 = true then
      (gR h l0 5 0).bind fun x10 =>
      x10.bind fun a12 =>
      (gR h a12 4 6).bind fun x13 =>
      x13.bind fun a15 =>
      zgd (isO h a15 14) <|
      (f68 n a15 h).bind fun p18 =>
      zgd (isO p18.2 l0 5) <|
      (f69 n l0 p18.1 100 p18.2).bind fun p24 => zth p24 (fun r21 h22 =>
        zgd (isO h22 l0 5) <|
        (f77 n 64 l0 (some 32) 0 h22).bind fun p30 => zth p30 (fun r27 h28 =>
          zgd (isO h28 l0 5) <|
          (f71 n l0 (some 14) h28).bind fun p36 => zth p36 (fun r33 h34 =>
            (gR h34 l0 5 0).bind fun x37 =>
            x37.bind fun a39 =>
            (gR h34 a39 4 6).bind fun x40 =>
            zgd (isO (nO h34 6 3) l0 5) <|
            (f95 n l0 (some l2) (nO h34 6 3)).bind fun p47 => zth p47 (fun r44 h45 =>
              (f106 n h34.1.length l1 r27 r44 h45).bind fun p49 =>
              x40.bind fun a50 =>
              zgd (isO p49.2 a50 14) <|
              (f86 n a50 (some h34.1.length) p49.2).bind fun p53 =>
              r175 l0 l1 l2 (l3 + 1) p53.2)
              (fun x46 h45 =>
              zgd (exOk x46) <| some (.inr x46, h45)))
            (fun x35 h34 =>
            zgd (exOk x35) <| some (.inr x35, h34)))
          (fun x29 h28 =>
          zgd (exOk x29) <| some (.inr x29, h28)))
        (fun x23 h22 =>
        zgd (exOk x23) <| some (.inr x23, h22))
    else
      b90_260 n  l0 l1 l2 l3 h
set_option maxRecDepth 20000 in
theorem tb90_175 {d n : Nat} {Q : zRs → zH → Prop}  {r175 : Nat → Int32 → Nat → Int32 → zH → Option ((Unit ⊕ Nat) × zH)} {l0 : Nat} {l1 : Int32} {l2 : Nat} {l3 : Int32}  {x4 : Option Value} (hd : 70 ≤ d)  (hr175 : ∀ {l0 : Nat} {l1 : Int32} {l2 : Nat} {l3 : Int32}  {x4 : Option Value} {h : zH} {p : ((Unit ⊕ Nat) × zH)}, zn2 x4 = true → r175 l0 l1 l2 l3 h = some p → Q (eVx p.1) p.2 → zW d 90 175 [some (.ref l0), some (.int l1), some (.ref l2), some (.int l3), x4] [] h Q) {h : zH} {p : ((Unit ⊕ Nat) × zH)} (hx4 : zn2 x4 = true) (hF : b90_175 n  r175 l0 l1 l2 l3 h = some p) (q : Q (eVx p.1) p.2) : zW d 90 175 [some (.ref l0), some (.int l1), some (.ref l2), some (.int l3), x4] [] h Q := by
  unfold b90_175 at hF
  obtain ⟨d, rfl⟩ : ∃ e, d = e + 1 := ⟨d - 1, by omega⟩
  refine zx_iload_n rfl rfl rfl ?_
  refine zx_bipush (v := 100) rfl rfl rfl ?_
  refine zx_ic_gt rfl rfl (fun c1 => ?_) (fun c1 => ?_)
  · rw [if_pos c1] at hF
    exact tb90_260 (l0 := l0) (l1 := l1) (l2 := l2) (l3 := l3) hd  hx4 hF q
  · rw [if_neg c1] at hF
    refine zx_aload_n rfl rfl rfl ?_
    replace hF := zbnd hF
    obtain ⟨x2, e3, hF⟩ := hF
    refine zy_getR rfl rfl e3 ?_
    replace hF := zbnd hF
    obtain ⟨a4, rfl, hF⟩ := hF
    replace hF := zbnd hF
    obtain ⟨x5, e6, hF⟩ := hF
    refine zy_getR rfl rfl e6 ?_
    refine zx_gets rfl rfl rfl ?_
    replace hF := zbnd hF
    obtain ⟨b7, e8, hF⟩ := hF
    refine zy_ane rfl rfl e8 (fun c9 => ?_) (fun c9 => ?_)
    · rw [if_neg (by rw [c9]; exact Bool.false_ne_true)] at hF
      exact tb90_260 (l0 := l0) (l1 := l1) (l2 := l2) (l3 := l3) hd  hx4 hF q
    · rw [if_pos c9] at hF
      refine zx_aload_n rfl rfl rfl ?_
      refine zx_aload_n rfl rfl rfl ?_
      replace hF := zbnd hF
      obtain ⟨x10, e11, hF⟩ := hF
      refine zy_getR rfl rfl e11 ?_
      replace hF := zbnd hF
      obtain ⟨a12, rfl, hF⟩ := hF
      replace hF := zbnd hF
      obtain ⟨x13, e14, hF⟩ := hF
      refine zy_getR rfl rfl e14 ?_
      replace hF := zbnd hF
      obtain ⟨a15, rfl, hF⟩ := hF
      replace hF := zgd_some hF
      obtain ⟨g16, hF⟩ := hF
      replace hF := zbnd hF
      obtain ⟨p18, e17, hF⟩ := hF
      refine zx_callE rfl rfl rfl rfl (zrcv_isO g16) rfl rfl (zc4 (Nat.le_of_ble_eq_true rfl)) (t68 (by omega) e17 (zaI ?_))
      refine zx_bipush (v := 100) rfl rfl rfl ?_
      replace hF := zgd_some hF
      obtain ⟨g19, hF⟩ := hF
      replace hF := zbnd hF
      obtain ⟨⟨r21, h22⟩, e20, hF⟩ := hF
      refine zx_callE rfl rfl rfl rfl (zrcv_isO g19) rfl rfl (zc4 (Nat.le_of_ble_eq_true rfl)) (t69 (by omega) e20 ?_)
      rcases r21 with r21 | x23
      rotate_left 1
      · replace hF := zthH hF
        replace hF := zgd_some hF
        obtain ⟨gx, hF⟩ := hF
        replace hF := Option.some.inj hF
        subst hF
        exact zaX rfl gx q
      replace hF := zthG hF
      refine zaV (x := ()) ?_
      refine zx_aload_n rfl rfl rfl ?_
      refine zx_gets rfl rfl rfl ?_
      refine zx_iconst (v := 0) rfl rfl rfl ?_
      replace hF := zgd_some hF
      obtain ⟨g25, hF⟩ := hF
      replace hF := zbnd hF
      obtain ⟨⟨r27, h28⟩, e26, hF⟩ := hF
      refine zx_callE rfl rfl rfl rfl (zrcv_isO g25) rfl rfl (zc4 (Nat.le_of_ble_eq_true rfl)) (t77 64 (by omega) e26 ?_)
      rcases r27 with r27 | x29
      rotate_left 1
      · replace hF := zthH hF
        replace hF := zgd_some hF
        obtain ⟨gx, hF⟩ := hF
        replace hF := Option.some.inj hF
        subst hF
        exact zaX rfl gx q
      replace hF := zthG hF
      refine zaA ?_
      refine zy_rstore rfl rfl rfl ?_
      refine zx_aload_n rfl rfl rfl ?_
      refine zx_gets rfl rfl rfl ?_
      replace hF := zgd_some hF
      obtain ⟨g31, hF⟩ := hF
      replace hF := zbnd hF
      obtain ⟨⟨r33, h34⟩, e32, hF⟩ := hF
      refine zx_callE rfl rfl rfl rfl (zrcv_isO g31) rfl rfl (zc4 (Nat.le_of_ble_eq_true rfl)) (t71 (by omega) e32 ?_)
      rcases r33 with r33 | x35
      rotate_left 1
      · replace hF := zthH hF
        replace hF := zgd_some hF
        obtain ⟨gx, hF⟩ := hF
        replace hF := Option.some.inj hF
        subst hF
        exact zaX rfl gx q
      replace hF := zthG hF
      refine zaA ?_
      refine zx_pop rfl rfl (zc1_rf _) ?_
      refine zx_aload_n rfl rfl rfl ?_
      replace hF := zbnd hF
      obtain ⟨x37, e38, hF⟩ := hF
      refine zy_getR rfl rfl e38 ?_
      replace hF := zbnd hF
      obtain ⟨a39, rfl, hF⟩ := hF
      replace hF := zbnd hF
      obtain ⟨x40, e41, hF⟩ := hF
      refine zy_getR rfl rfl e41 ?_
      refine zy_new rfl rfl ?_
      refine zx_dup rfl rfl rfl ?_
      refine zx_iload_n rfl rfl rfl ?_
      refine zy_rload rfl rfl rfl ?_
      refine zx_aload_n rfl rfl rfl ?_
      refine zx_aload_n rfl rfl rfl ?_
      replace hF := zgd_some hF
      obtain ⟨g42, hF⟩ := hF
      replace hF := zbnd hF
      obtain ⟨⟨r44, h45⟩, e43, hF⟩ := hF
      refine zx_callE rfl rfl rfl rfl (zrcv_isO g42) rfl rfl (zc8 (zct_a (zct_i (zct_r (zct_r (zct_a zct_n))))) (Nat.le_of_ble_eq_true rfl)) (t95 (by omega) e43 ?_)
      rcases r44 with r44 | x46
      rotate_left 1
      · replace hF := zthH hF
        replace hF := zgd_some hF
        obtain ⟨gx, hF⟩ := hF
        replace hF := Option.some.inj hF
        subst hF
        exact zaX rfl gx q
      replace hF := zthG hF
      refine zaA ?_
      replace hF := zbnd hF
      obtain ⟨p49, e48, hF⟩ := hF
      refine zx_callF rfl rfl rfl rfl rfl (congrArg (List.cons _) (congrArg (List.cons _) ((zsl_rf _ _).trans (congrArg (List.cons _) ((zsl_rf _ _).trans (congrArg (List.cons _) rfl)))))) rfl (zc4 (Nat.le_of_ble_eq_true rfl)) (t106 (by omega) e48 (zaV ?_))
      replace hF := zbnd hF
      obtain ⟨a50, rfl, hF⟩ := hF
      replace hF := zgd_some hF
      obtain ⟨g51, hF⟩ := hF
      replace hF := zbnd hF
      obtain ⟨p53, e52, hF⟩ := hF
      refine zx_callE rfl rfl rfl rfl (zrcv_isO g51) rfl rfl (zc4 (Nat.le_of_ble_eq_true rfl)) (t86 (by omega) e52 (zaI ?_))
      refine zx_pop rfl rfl rfl ?_
      refine zx_iinc (w := 1) rfl rfl rfl rfl rfl ?_
      refine zx_goto rfl rfl ?_
      exact hr175 (zn2_rf _) hF q
def f90_175 (n : Nat)   (k : Nat) : Nat → Int32 → Nat → Int32 → zH → Option ((Unit ⊕ Nat) × zH) := Nat.rec (fun _ _ _ _ _ => none) (fun _ ih => b90_175 n  ih) k
theorem tf90_175 {d n : Nat} {Q : zRs → zH → Prop}   (hd : 70 ≤ d)   (k : Nat) : ∀ {l0 : Nat} {l1 : Int32} {l2 : Nat} {l3 : Int32}  {x4 : Option Value} {h : zH} {p : ((Unit ⊕ Nat) × zH)}, zn2 x4 = true → f90_175 n   k l0 l1 l2 l3 h = some p → Q (eVx p.1) p.2 → zW d 90 175 [some (.ref l0), some (.int l1), some (.ref l2), some (.int l3), x4] [] h Q := by
  induction k with
  | zero => intros; rename_i hF _; cases hF
  | succ k ih => intros; rename_i hx4 hF q; exact tb90_175 (n := n) hd  ih hx4 hF q
def b90_173 (n : Nat)   (l0 : Nat) (l1 : Int32) (l2 : Nat) (l3 : Int32) (h : zH) : Option ((Unit ⊕ Nat) × zH) :=
  f90_175 n  n l0 l1 l2 0 h
set_option maxRecDepth 20000 in
theorem tb90_173 {d n : Nat} {Q : zRs → zH → Prop}   {l0 : Nat} {l1 : Int32} {l2 : Nat} {l3 : Int32}  {x4 : Option Value} (hd : 70 ≤ d)   {h : zH} {p : ((Unit ⊕ Nat) × zH)} (hx4 : zn2 x4 = true) (hF : b90_173 n   l0 l1 l2 l3 h = some p) (q : Q (eVx p.1) p.2) : zW d 90 173 [some (.ref l0), some (.int l1), some (.ref l2), some (.int l3), x4] [] h Q := by
  unfold b90_173 at hF
  obtain ⟨d, rfl⟩ : ∃ e, d = e + 1 := ⟨d - 1, by omega⟩
  refine zx_iconst (v := 0) rfl rfl rfl ?_
  refine zx_istore_n rfl rfl rfl ?_
  exact tf90_175 hd  n (l0 := l0) (l1 := l1) (l2 := l2) (l3 := 0) hx4 hF q
def b90_144 (n : Nat)  (r144 : Nat → Int32 → Nat → Int32 → zH → Option ((Unit ⊕ Nat) × zH)) (l0 : Nat) (l1 : Int32) (l2 : Nat) (l3 : Int32) (h : zH) : Option ((Unit ⊕ Nat) × zH) :=
  if (4 : Int32) < l3 then
    b90_173 n  l0 l1 l2 l3 h
  else
    (gR h l0 5 3).bind fun x2 =>
    x2.bind fun a4 =>
    (gR h a4 9 0).bind fun x5 =>
    (rEq x5 (some 21)).bind fun b7 =>
    if b7 = true then
      zgd (isO h l0 5) <|
      (f105 n l0 (some l2) h).bind fun p15 => zth p15 (fun r12 h13 =>
        r144 l0 l1 l2 (l3 + 1) h13)
        (fun x14 h13 =>
        zgd (exOk x14) <| some (.inr x14, h13))
    else
      b90_173 n  l0 l1 l2 l3 h
set_option maxRecDepth 20000 in
theorem tb90_144 {d n : Nat} {Q : zRs → zH → Prop}  {r144 : Nat → Int32 → Nat → Int32 → zH → Option ((Unit ⊕ Nat) × zH)} {l0 : Nat} {l1 : Int32} {l2 : Nat} {l3 : Int32}  {x4 : Option Value} (hd : 70 ≤ d)  (hr144 : ∀ {l0 : Nat} {l1 : Int32} {l2 : Nat} {l3 : Int32}  {x4 : Option Value} {h : zH} {p : ((Unit ⊕ Nat) × zH)}, zn2 x4 = true → r144 l0 l1 l2 l3 h = some p → Q (eVx p.1) p.2 → zW d 90 144 [some (.ref l0), some (.int l1), some (.ref l2), some (.int l3), x4] [] h Q) {h : zH} {p : ((Unit ⊕ Nat) × zH)} (hx4 : zn2 x4 = true) (hF : b90_144 n  r144 l0 l1 l2 l3 h = some p) (q : Q (eVx p.1) p.2) : zW d 90 144 [some (.ref l0), some (.int l1), some (.ref l2), some (.int l3), x4] [] h Q := by
  unfold b90_144 at hF
  obtain ⟨d, rfl⟩ : ∃ e, d = e + 1 := ⟨d - 1, by omega⟩
  refine zx_iload_n rfl rfl rfl ?_
  refine zx_iconst (v := 4) rfl rfl rfl ?_
  refine zx_ic_gt rfl rfl (fun c1 => ?_) (fun c1 => ?_)
  · rw [if_pos c1] at hF
    exact tb90_173 (l0 := l0) (l1 := l1) (l2 := l2) (l3 := l3) hd  hx4 hF q
  · rw [if_neg c1] at hF
    refine zx_aload_n rfl rfl rfl ?_
    replace hF := zbnd hF
    obtain ⟨x2, e3, hF⟩ := hF
    refine zy_getR rfl rfl e3 ?_
    replace hF := zbnd hF
    obtain ⟨a4, rfl, hF⟩ := hF
    replace hF := zbnd hF
    obtain ⟨x5, e6, hF⟩ := hF
    refine zy_getR rfl rfl e6 ?_
    refine zx_gets rfl rfl rfl ?_
    replace hF := zbnd hF
    obtain ⟨b7, e8, hF⟩ := hF
    refine zy_ane rfl rfl e8 (fun c9 => ?_) (fun c9 => ?_)
    · rw [if_neg (by rw [c9]; exact Bool.false_ne_true)] at hF
      exact tb90_173 (l0 := l0) (l1 := l1) (l2 := l2) (l3 := l3) hd  hx4 hF q
    · rw [if_pos c9] at hF
      refine zx_aload_n rfl rfl rfl ?_
      refine zx_aload_n rfl rfl rfl ?_
      replace hF := zgd_some hF
      obtain ⟨g10, hF⟩ := hF
      replace hF := zbnd hF
      obtain ⟨⟨r12, h13⟩, e11, hF⟩ := hF
      refine zx_callE rfl rfl rfl rfl (zrcv_isO g10) rfl rfl (zc4 (Nat.le_of_ble_eq_true rfl)) (t105 (by omega) e11 ?_)
      rcases r12 with r12 | x14
      rotate_left 1
      · replace hF := zthH hF
        replace hF := zgd_some hF
        obtain ⟨gx, hF⟩ := hF
        replace hF := Option.some.inj hF
        subst hF
        exact zaX rfl gx q
      replace hF := zthG hF
      refine zaV (x := ()) ?_
      refine zx_iinc (w := 1) rfl rfl rfl rfl rfl ?_
      refine zx_goto rfl rfl ?_
      exact hr144 hx4 hF q
def f90_144 (n : Nat)   (k : Nat) : Nat → Int32 → Nat → Int32 → zH → Option ((Unit ⊕ Nat) × zH) := Nat.rec (fun _ _ _ _ _ => none) (fun _ ih => b90_144 n  ih) k
theorem tf90_144 {d n : Nat} {Q : zRs → zH → Prop}   (hd : 70 ≤ d)   (k : Nat) : ∀ {l0 : Nat} {l1 : Int32} {l2 : Nat} {l3 : Int32}  {x4 : Option Value} {h : zH} {p : ((Unit ⊕ Nat) × zH)}, zn2 x4 = true → f90_144 n   k l0 l1 l2 l3 h = some p → Q (eVx p.1) p.2 → zW d 90 144 [some (.ref l0), some (.int l1), some (.ref l2), some (.int l3), x4] [] h Q := by
  induction k with
  | zero => intros; rename_i hF _; cases hF
  | succ k ih => intros; rename_i hx4 hF q; exact tb90_144 (n := n) hd  ih hx4 hF q
def f90 (n : Nat)  (y0 : Nat) (h : zH) : Option ((Unit ⊕ Nat) × zH) :=
  (gR h y0 5 0).bind fun x1 =>
  x1.bind fun a3 =>
  (gR h a3 4 4).bind fun x4 =>
  x4.bind fun a6 =>
  zgd (isO h a6 14) <|
  (f68 n a6 h).bind fun p9 =>
  zgd (isO p9.2 y0 5) <|
  (f69 n y0 p9.1 24 p9.2).bind fun p15 => zth p15 (fun r12 h13 =>
    (gR h13 y0 5 0).bind fun x16 =>
    x16.bind fun a18 =>
    (gR h13 a18 4 4).bind fun x19 =>
    x19.bind fun a21 =>
    zgd (isO h13 a21 14) <|
    (f68 n a21 h13).bind fun p24 =>
    (gR (nO p24.2 0 10) y0 5 0).bind fun x25 =>
    x25.bind fun a27 =>
    (gR (nO p24.2 0 10) a27 4 6).bind fun x28 =>
    x28.bind fun a30 =>
    zgd (isO (nO p24.2 0 10) a30 14) <|
    (f68 n a30 (nO p24.2 0 10)).bind fun p33 =>
    (f91 n p24.2.1.length p33.1 p33.2).bind fun p35 =>
    (gR p35.2 y0 5 0).bind fun x36 =>
    x36.bind fun a38 =>
    (gR p35.2 a38 4 1).bind fun x39 =>
    (gR p35.2 y0 5 0).bind fun x41 =>
    x41.bind fun a43 =>
    (gR p35.2 a43 4 1).bind fun x44 =>
    zgd (isO p35.2 y0 5) <|
    (f72 n y0 x44 p35.2).bind fun p51 => zth p51 (fun r48 h49 =>
      x39.bind fun a52 =>
      zgd (isO h49 a52 14) <|
      (f86 n a52 r48 h49).bind fun p55 =>
      (gR p55.2 y0 5 0).bind fun x56 =>
      x56.bind fun a58 =>
      (gR p55.2 a58 4 4).bind fun x59 =>
      x59.bind fun a61 =>
      zgd (isO p55.2 a61 14) <|
      (f86 n a61 (some p24.2.1.length) p55.2).bind fun p64 =>
      zgd (isO p64.2 y0 5) <|
      (f71 n y0 (some 12) p64.2).bind fun p70 => zth p70 (fun r67 h68 =>
        zgd (isO h68 y0 5) <|
        (f93 n y0 (some p24.2.1.length) h68).bind fun p76 => zth p76 (fun r73 h74 =>
          zgd (isO h74 y0 5) <|
          (f71 n y0 (some 6) h74).bind fun p82 => zth p82 (fun r79 h80 =>
            zgd (isO h80 y0 5) <|
            (f71 n y0 (some 19) h80).bind fun p88 => zth p88 (fun r85 h86 =>
              zgd (isO h86 y0 5) <|
              (f95 n y0 (some p24.2.1.length) h86).bind fun p94 => zth p94 (fun r91 h92 =>
                (pF h92 p24.2.1.length 0 6 (va_rf r91)).bind fun h95 =>
                zgd (isO h95 y0 5) <|
                (f71 n y0 (some 20) h95).bind fun p102 => zth p102 (fun r99 h100 =>
                  zgd (isO h100 y0 5) <|
                  (f99 n y0 (some p24.2.1.length) h100).bind fun p108 => zth p108 (fun r105 h106 =>
                    (pF h106 p24.2.1.length 0 7 (.int r105)).bind fun h109 =>
                    zgd (isO h109 y0 5) <|
                    (f71 n y0 (some 10) h109).bind fun p116 => zth p116 (fun r113 h114 =>
                      f90_144 n  n y0 p24.1 p24.2.1.length 0 h114)
                      (fun x115 h114 =>
                      zgd (exOk x115) <| some (.inr x115, h114)))
                    (fun x107 h106 =>
                    zgd (exOk x107) <| some (.inr x107, h106)))
                  (fun x101 h100 =>
                  zgd (exOk x101) <| some (.inr x101, h100)))
                (fun x93 h92 =>
                zgd (exOk x93) <| some (.inr x93, h92)))
              (fun x87 h86 =>
              zgd (exOk x87) <| some (.inr x87, h86)))
            (fun x81 h80 =>
            zgd (exOk x81) <| some (.inr x81, h80)))
          (fun x75 h74 =>
          zgd (exOk x75) <| some (.inr x75, h74)))
        (fun x69 h68 =>
        zgd (exOk x69) <| some (.inr x69, h68)))
      (fun x50 h49 =>
      zgd (exOk x50) <| some (.inr x50, h49)))
    (fun x14 h13 =>
    zgd (exOk x14) <| some (.inr x14, h13))
set_option maxRecDepth 20000 in
theorem t90 {d n : Nat} {Q : zRs → zH → Prop}  {y0 : Nat} (hd : 70 ≤ d)  {h : zH} {p : ((Unit ⊕ Nat) × zH)} (hF : f90 n  y0 h = some p) (q : Q (eVx p.1) p.2) : zC d 90 [.ref y0] h Q := by
  refine zC_of (L := [some (.ref y0), none, none, none, none]) rfl rfl ?_
  unfold f90 at hF
  obtain ⟨d, rfl⟩ : ∃ e, d = e + 1 := ⟨d - 1, by omega⟩
  refine zx_aload_n rfl rfl rfl ?_
  refine zx_aload_n rfl rfl rfl ?_
  replace hF := zbnd hF
  obtain ⟨x1, e2, hF⟩ := hF
  refine zy_getR rfl rfl e2 ?_
  replace hF := zbnd hF
  obtain ⟨a3, rfl, hF⟩ := hF
  replace hF := zbnd hF
  obtain ⟨x4, e5, hF⟩ := hF
  refine zy_getR rfl rfl e5 ?_
  replace hF := zbnd hF
  obtain ⟨a6, rfl, hF⟩ := hF
  replace hF := zgd_some hF
  obtain ⟨g7, hF⟩ := hF
  replace hF := zbnd hF
  obtain ⟨p9, e8, hF⟩ := hF
  refine zx_callE rfl rfl rfl rfl (zrcv_isO g7) rfl rfl (zc4 (Nat.le_of_ble_eq_true rfl)) (t68 (by omega) e8 (zaI ?_))
  refine zx_bipush (v := 24) rfl rfl rfl ?_
  replace hF := zgd_some hF
  obtain ⟨g10, hF⟩ := hF
  replace hF := zbnd hF
  obtain ⟨⟨r12, h13⟩, e11, hF⟩ := hF
  refine zx_callE rfl rfl rfl rfl (zrcv_isO g10) rfl rfl (zc4 (Nat.le_of_ble_eq_true rfl)) (t69 (by omega) e11 ?_)
  rcases r12 with r12 | x14
  rotate_left 1
  · replace hF := zthH hF
    replace hF := zgd_some hF
    obtain ⟨gx, hF⟩ := hF
    replace hF := Option.some.inj hF
    subst hF
    exact zaX rfl gx q
  replace hF := zthG hF
  refine zaV (x := ()) ?_
  refine zx_aload_n rfl rfl rfl ?_
  replace hF := zbnd hF
  obtain ⟨x16, e17, hF⟩ := hF
  refine zy_getR rfl rfl e17 ?_
  replace hF := zbnd hF
  obtain ⟨a18, rfl, hF⟩ := hF
  replace hF := zbnd hF
  obtain ⟨x19, e20, hF⟩ := hF
  refine zy_getR rfl rfl e20 ?_
  replace hF := zbnd hF
  obtain ⟨a21, rfl, hF⟩ := hF
  replace hF := zgd_some hF
  obtain ⟨g22, hF⟩ := hF
  replace hF := zbnd hF
  obtain ⟨p24, e23, hF⟩ := hF
  refine zx_callE rfl rfl rfl rfl (zrcv_isO g22) rfl rfl (zc4 (Nat.le_of_ble_eq_true rfl)) (t68 (by omega) e23 (zaI ?_))
  refine zx_istore_n rfl rfl rfl ?_
  refine zy_new rfl rfl ?_
  refine zx_dup rfl rfl rfl ?_
  refine zx_aload_n rfl rfl rfl ?_
  replace hF := zbnd hF
  obtain ⟨x25, e26, hF⟩ := hF
  refine zy_getR rfl rfl e26 ?_
  replace hF := zbnd hF
  obtain ⟨a27, rfl, hF⟩ := hF
  replace hF := zbnd hF
  obtain ⟨x28, e29, hF⟩ := hF
  refine zy_getR rfl rfl e29 ?_
  replace hF := zbnd hF
  obtain ⟨a30, rfl, hF⟩ := hF
  replace hF := zgd_some hF
  obtain ⟨g31, hF⟩ := hF
  replace hF := zbnd hF
  obtain ⟨p33, e32, hF⟩ := hF
  refine zx_callE rfl rfl rfl rfl (zrcv_isO g31) rfl rfl (zc4 (Nat.le_of_ble_eq_true rfl)) (t68 (by omega) e32 (zaI ?_))
  replace hF := zbnd hF
  obtain ⟨p35, e34, hF⟩ := hF
  refine zx_callF rfl rfl rfl rfl rfl rfl rfl (zc4 (Nat.le_of_ble_eq_true rfl)) (t91 (by omega) e34 (zaV ?_))
  refine zx_astore_n rfl rfl rfl ?_
  refine zx_aload_n rfl rfl rfl ?_
  replace hF := zbnd hF
  obtain ⟨x36, e37, hF⟩ := hF
  refine zy_getR rfl rfl e37 ?_
  replace hF := zbnd hF
  obtain ⟨a38, rfl, hF⟩ := hF
  replace hF := zbnd hF
  obtain ⟨x39, e40, hF⟩ := hF
  refine zy_getR rfl rfl e40 ?_
  refine zx_aload_n rfl rfl rfl ?_
  refine zx_aload_n rfl rfl rfl ?_
  replace hF := zbnd hF
  obtain ⟨x41, e42, hF⟩ := hF
  refine zy_getR rfl rfl e42 ?_
  replace hF := zbnd hF
  obtain ⟨a43, rfl, hF⟩ := hF
  replace hF := zbnd hF
  obtain ⟨x44, e45, hF⟩ := hF
  refine zy_getR rfl rfl e45 ?_
  replace hF := zgd_some hF
  obtain ⟨g46, hF⟩ := hF
  replace hF := zbnd hF
  obtain ⟨⟨r48, h49⟩, e47, hF⟩ := hF
  refine zx_callE rfl rfl rfl rfl (zrcv_isO g46) (congrArg (List.cons _) ((zsl_rf _ _).trans (congrArg (List.cons _) rfl))) rfl (zc4 (Nat.le_of_ble_eq_true rfl)) (t72 (by omega) e47 ?_)
  rcases r48 with r48 | x50
  rotate_left 1
  · replace hF := zthH hF
    replace hF := zgd_some hF
    obtain ⟨gx, hF⟩ := hF
    replace hF := Option.some.inj hF
    subst hF
    exact zaX rfl gx q
  replace hF := zthG hF
  refine zaA ?_
  replace hF := zbnd hF
  obtain ⟨a52, rfl, hF⟩ := hF
  replace hF := zgd_some hF
  obtain ⟨g53, hF⟩ := hF
  replace hF := zbnd hF
  obtain ⟨p55, e54, hF⟩ := hF
  refine zx_callE rfl rfl rfl rfl (zrcv_isO g53) (congrArg (List.cons _) ((zsl_rf _ _).trans (congrArg (List.cons _) rfl))) rfl (zc4 (Nat.le_of_ble_eq_true rfl)) (t86 (by omega) e54 (zaI ?_))
  refine zx_pop rfl rfl rfl ?_
  refine zx_aload_n rfl rfl rfl ?_
  replace hF := zbnd hF
  obtain ⟨x56, e57, hF⟩ := hF
  refine zy_getR rfl rfl e57 ?_
  replace hF := zbnd hF
  obtain ⟨a58, rfl, hF⟩ := hF
  replace hF := zbnd hF
  obtain ⟨x59, e60, hF⟩ := hF
  refine zy_getR rfl rfl e60 ?_
  refine zx_aload_n rfl rfl rfl ?_
  replace hF := zbnd hF
  obtain ⟨a61, rfl, hF⟩ := hF
  replace hF := zgd_some hF
  obtain ⟨g62, hF⟩ := hF
  replace hF := zbnd hF
  obtain ⟨p64, e63, hF⟩ := hF
  refine zx_callE rfl rfl rfl rfl (zrcv_isO g62) rfl rfl (zc4 (Nat.le_of_ble_eq_true rfl)) (t86 (by omega) e63 (zaI ?_))
  refine zx_pop rfl rfl rfl ?_
  refine zx_aload_n rfl rfl rfl ?_
  refine zx_gets rfl rfl rfl ?_
  replace hF := zgd_some hF
  obtain ⟨g65, hF⟩ := hF
  replace hF := zbnd hF
  obtain ⟨⟨r67, h68⟩, e66, hF⟩ := hF
  refine zx_callE rfl rfl rfl rfl (zrcv_isO g65) rfl rfl (zc4 (Nat.le_of_ble_eq_true rfl)) (t71 (by omega) e66 ?_)
  rcases r67 with r67 | x69
  rotate_left 1
  · replace hF := zthH hF
    replace hF := zgd_some hF
    obtain ⟨gx, hF⟩ := hF
    replace hF := Option.some.inj hF
    subst hF
    exact zaX rfl gx q
  replace hF := zthG hF
  refine zaA ?_
  refine zx_pop rfl rfl (zc1_rf _) ?_
  refine zx_aload_n rfl rfl rfl ?_
  refine zx_aload_n rfl rfl rfl ?_
  replace hF := zgd_some hF
  obtain ⟨g71, hF⟩ := hF
  replace hF := zbnd hF
  obtain ⟨⟨r73, h74⟩, e72, hF⟩ := hF
  refine zx_callE rfl rfl rfl rfl (zrcv_isO g71) rfl rfl (zc4 (Nat.le_of_ble_eq_true rfl)) (t93 (by omega) e72 ?_)
  rcases r73 with r73 | x75
  rotate_left 1
  · replace hF := zthH hF
    replace hF := zgd_some hF
    obtain ⟨gx, hF⟩ := hF
    replace hF := Option.some.inj hF
    subst hF
    exact zaX rfl gx q
  replace hF := zthG hF
  refine zaV (x := ()) ?_
  refine zx_aload_n rfl rfl rfl ?_
  refine zx_gets rfl rfl rfl ?_
  replace hF := zgd_some hF
  obtain ⟨g77, hF⟩ := hF
  replace hF := zbnd hF
  obtain ⟨⟨r79, h80⟩, e78, hF⟩ := hF
  refine zx_callE rfl rfl rfl rfl (zrcv_isO g77) rfl rfl (zc4 (Nat.le_of_ble_eq_true rfl)) (t71 (by omega) e78 ?_)
  rcases r79 with r79 | x81
  rotate_left 1
  · replace hF := zthH hF
    replace hF := zgd_some hF
    obtain ⟨gx, hF⟩ := hF
    replace hF := Option.some.inj hF
    subst hF
    exact zaX rfl gx q
  replace hF := zthG hF
  refine zaA ?_
  refine zx_pop rfl rfl (zc1_rf _) ?_
  refine zx_aload_n rfl rfl rfl ?_
  refine zx_gets rfl rfl rfl ?_
  replace hF := zgd_some hF
  obtain ⟨g83, hF⟩ := hF
  replace hF := zbnd hF
  obtain ⟨⟨r85, h86⟩, e84, hF⟩ := hF
  refine zx_callE rfl rfl rfl rfl (zrcv_isO g83) rfl rfl (zc4 (Nat.le_of_ble_eq_true rfl)) (t71 (by omega) e84 ?_)
  rcases r85 with r85 | x87
  rotate_left 1
  · replace hF := zthH hF
    replace hF := zgd_some hF
    obtain ⟨gx, hF⟩ := hF
    replace hF := Option.some.inj hF
    subst hF
    exact zaX rfl gx q
  replace hF := zthG hF
  refine zaA ?_
  refine zx_pop rfl rfl (zc1_rf _) ?_
  refine zx_aload_n rfl rfl rfl ?_
  refine zx_aload_n rfl rfl rfl ?_
  refine zx_aload_n rfl rfl rfl ?_
  replace hF := zgd_some hF
  obtain ⟨g89, hF⟩ := hF
  replace hF := zbnd hF
  obtain ⟨⟨r91, h92⟩, e90, hF⟩ := hF
  refine zx_callE rfl rfl rfl rfl (zrcv_isO g89) rfl rfl (zc4 (Nat.le_of_ble_eq_true rfl)) (t95 (by omega) e90 ?_)
  rcases r91 with r91 | x93
  rotate_left 1
  · replace hF := zthH hF
    replace hF := zgd_some hF
    obtain ⟨gx, hF⟩ := hF
    replace hF := Option.some.inj hF
    subst hF
    exact zaX rfl gx q
  replace hF := zthG hF
  refine zaA ?_
  replace hF := zbnd hF
  obtain ⟨h95, e96, hF⟩ := hF
  refine zy_put rfl rfl e96 ?_
  refine zx_aload_n rfl rfl rfl ?_
  refine zx_gets rfl rfl rfl ?_
  replace hF := zgd_some hF
  obtain ⟨g97, hF⟩ := hF
  replace hF := zbnd hF
  obtain ⟨⟨r99, h100⟩, e98, hF⟩ := hF
  refine zx_callE rfl rfl rfl rfl (zrcv_isO g97) rfl rfl (zc4 (Nat.le_of_ble_eq_true rfl)) (t71 (by omega) e98 ?_)
  rcases r99 with r99 | x101
  rotate_left 1
  · replace hF := zthH hF
    replace hF := zgd_some hF
    obtain ⟨gx, hF⟩ := hF
    replace hF := Option.some.inj hF
    subst hF
    exact zaX rfl gx q
  replace hF := zthG hF
  refine zaA ?_
  refine zx_pop rfl rfl (zc1_rf _) ?_
  refine zx_aload_n rfl rfl rfl ?_
  refine zx_aload_n rfl rfl rfl ?_
  refine zx_aload_n rfl rfl rfl ?_
  replace hF := zgd_some hF
  obtain ⟨g103, hF⟩ := hF
  replace hF := zbnd hF
  obtain ⟨⟨r105, h106⟩, e104, hF⟩ := hF
  refine zx_callE rfl rfl rfl rfl (zrcv_isO g103) rfl rfl (zc4 (Nat.le_of_ble_eq_true rfl)) (t99 (by omega) e104 ?_)
  rcases r105 with r105 | x107
  rotate_left 1
  · replace hF := zthH hF
    replace hF := zgd_some hF
    obtain ⟨gx, hF⟩ := hF
    replace hF := Option.some.inj hF
    subst hF
    exact zaX rfl gx q
  replace hF := zthG hF
  refine zaI ?_
  replace hF := zbnd hF
  obtain ⟨h109, e110, hF⟩ := hF
  refine zy_put rfl rfl e110 ?_
  refine zx_aload_n rfl rfl rfl ?_
  refine zx_gets rfl rfl rfl ?_
  replace hF := zgd_some hF
  obtain ⟨g111, hF⟩ := hF
  replace hF := zbnd hF
  obtain ⟨⟨r113, h114⟩, e112, hF⟩ := hF
  refine zx_callE rfl rfl rfl rfl (zrcv_isO g111) rfl rfl (zc4 (Nat.le_of_ble_eq_true rfl)) (t71 (by omega) e112 ?_)
  rcases r113 with r113 | x115
  rotate_left 1
  · replace hF := zthH hF
    replace hF := zgd_some hF
    obtain ⟨gx, hF⟩ := hF
    replace hF := Option.some.inj hF
    subst hF
    exact zaX rfl gx q
  replace hF := zthG hF
  refine zaA ?_
  refine zx_pop rfl rfl (zc1_rf _) ?_
  refine zx_iconst (v := 0) rfl rfl rfl ?_
  refine zx_istore_n rfl rfl rfl ?_
  exact tf90_144 hd  n (l0 := y0) (l1 := p24.1) (l2 := p24.2.1.length) (l3 := 0) rfl hF q
def f108 (n : Nat)  (y0 : Nat) (y1 : Int32) (y2 : Int32) (h : zH) : Option (Unit × zH) :=
  (pF h y0 2 3 (.int 0)).bind fun h1 =>
  (nV h1 7 24).bind fun h3 =>
  (pF h3 y0 2 4 (.ref h1.1.length)).bind fun h5 =>
  (pF h5 y0 2 0 (.int y1)).bind fun h7 =>
  (pF h7 y0 2 1 (.int y2)).bind fun h9 =>
  (pF h9 y0 2 2 (.int y2)).bind fun h11 =>
  some ((), h11)
set_option maxRecDepth 20000 in
theorem t108 {d n : Nat} {Q : zRs → zH → Prop}  {y0 : Nat} {y1 : Int32} {y2 : Int32} (hd : 0 ≤ d)  {h : zH} {p : (Unit × zH)} (hF : f108 n  y0 y1 y2 h = some p) (q : Q (eV p.1) p.2) : zC d 108 [.ref y0, .int y1, .int y2] h Q := by
  refine zC_of (L := [some (.ref y0), some (.int y1), some (.int y2)]) rfl rfl ?_
  unfold f108 at hF
  refine zx_aload_n rfl rfl rfl ?_
  refine zw_obj rfl rfl rfl (Nat.ble_eq_true_of_le (Nat.le_trans (zcat_le _) (Nat.le_of_ble_eq_true rfl))) ?_
  refine zx_aload_n rfl rfl rfl ?_
  refine zx_iconst (v := 0) rfl rfl rfl ?_
  replace hF := zbnd hF
  obtain ⟨h1, e2, hF⟩ := hF
  refine zy_put rfl rfl e2 ?_
  refine zx_aload_n rfl rfl rfl ?_
  refine zx_bipush (v := 24) rfl rfl rfl ?_
  replace hF := zbnd hF
  obtain ⟨h3, e4, hF⟩ := hF
  refine zy_anewarr rfl rfl e4 ?_
  replace hF := zbnd hF
  obtain ⟨h5, e6, hF⟩ := hF
  refine zy_put rfl rfl e6 ?_
  refine zx_aload_n rfl rfl rfl ?_
  refine zx_iload_n rfl rfl rfl ?_
  replace hF := zbnd hF
  obtain ⟨h7, e8, hF⟩ := hF
  refine zy_put rfl rfl e8 ?_
  refine zx_aload_n rfl rfl rfl ?_
  refine zx_iload_n rfl rfl rfl ?_
  replace hF := zbnd hF
  obtain ⟨h9, e10, hF⟩ := hF
  refine zy_put rfl rfl e10 ?_
  refine zx_aload_n rfl rfl rfl ?_
  refine zx_iload_n rfl rfl rfl ?_
  replace hF := zbnd hF
  obtain ⟨h11, e12, hF⟩ := hF
  refine zy_put rfl rfl e12 ?_
  replace hF := Option.some.inj hF
  subst hF
  exact zx_return rfl rfl rfl q
def b109_48 (n : Nat)   (l0 : Nat) (l1 : Option Nat) (h : zH) : Option ((Option Nat ⊕ Nat) × zH) :=
  (gR h l0 5 0).bind fun x1 =>
  x1.bind fun a3 =>
  (gI h a3 4 8).bind fun x4 =>
  zgd (isO h l0 5) <|
  (f69 n l0 x4 40 h).bind fun p11 => zth p11 (fun r8 h9 =>
    (gR h9 l0 5 0).bind fun x12 =>
    x12.bind fun a14 =>
    (gI h9 a14 4 8).bind fun x15 =>
    (pF h9 a14 4 8 (.int (x15 + 1))).bind fun h17 =>
    some (.inl l1, h17))
    (fun x10 h9 =>
    zgd (exOk x10) <| some (.inr x10, h9))
set_option maxRecDepth 20000 in
theorem tb109_48 {d n : Nat} {Q : zRs → zH → Prop}   {l0 : Nat} {l1 : Option Nat}   (hd : 3 ≤ d)   {h : zH} {p : ((Option Nat ⊕ Nat) × zH)}  (hF : b109_48 n   l0 l1 h = some p) (q : Q (eAx p.1) p.2) : zW d 109 48 [some (.ref l0), some (va_rf l1)] [] h Q := by
  unfold b109_48 at hF
  obtain ⟨d, rfl⟩ : ∃ e, d = e + 1 := ⟨d - 1, by omega⟩
  refine zx_aload_n rfl rfl rfl ?_
  refine zx_aload_n rfl rfl rfl ?_
  replace hF := zbnd hF
  obtain ⟨x1, e2, hF⟩ := hF
  refine zy_getR rfl rfl e2 ?_
  replace hF := zbnd hF
  obtain ⟨a3, rfl, hF⟩ := hF
  replace hF := zbnd hF
  obtain ⟨x4, e5, hF⟩ := hF
  refine zy_getI rfl rfl e5 ?_
  refine zx_bipush (v := 40) rfl rfl rfl ?_
  replace hF := zgd_some hF
  obtain ⟨g6, hF⟩ := hF
  replace hF := zbnd hF
  obtain ⟨⟨r8, h9⟩, e7, hF⟩ := hF
  refine zx_callE rfl rfl rfl rfl (zrcv_isO g6) rfl rfl (zc4 (Nat.le_of_ble_eq_true rfl)) (t69 (by omega) e7 ?_)
  rcases r8 with r8 | x10
  rotate_left 1
  · replace hF := zthH hF
    replace hF := zgd_some hF
    obtain ⟨gx, hF⟩ := hF
    replace hF := Option.some.inj hF
    subst hF
    exact zaX rfl gx q
  replace hF := zthG hF
  refine zaV (x := ()) ?_
  refine zx_aload_n rfl rfl rfl ?_
  replace hF := zbnd hF
  obtain ⟨x12, e13, hF⟩ := hF
  refine zy_getR rfl rfl e13 ?_
  refine zx_dup rfl rfl (zc1_rf _) ?_
  replace hF := zbnd hF
  obtain ⟨a14, rfl, hF⟩ := hF
  replace hF := zbnd hF
  obtain ⟨x15, e16, hF⟩ := hF
  refine zy_getI rfl rfl e16 ?_
  refine zx_iconst (v := 1) rfl rfl rfl ?_
  refine zx_iadd rfl rfl ?_
  replace hF := zbnd hF
  obtain ⟨h17, e18, hF⟩ := hF
  refine zy_put rfl rfl e18 ?_
  refine zx_goto rfl rfl ?_
  refine zy_rload_n rfl rfl rfl ?_
  replace hF := Option.some.inj hF
  subst hF
  exact zy_areturn (r := l1) rfl rfl rfl rfl q
def f109 (n : Nat)  (y0 : Nat) (h : zH) : Option ((Option Nat ⊕ Nat) × zH) :=
  (gR h y0 5 3).bind fun x1 =>
  x1.bind fun a3 =>
  (gR h a3 9 0).bind fun x4 =>
  (rEq x4 (some 22)).bind fun b6 =>
  if b6 = true then
    (gR h y0 5 0).bind fun x9 =>
    x9.bind fun a11 =>
    (gR h a11 4 6).bind fun x12 =>
    x12.bind fun a14 =>
    zgd (isO h a14 14) <|
    (f68 n a14 h).bind fun p17 =>
    zgd (isO p17.2 y0 5) <|
    (f69 n y0 p17.1 100 p17.2).bind fun p23 => zth p23 (fun r20 h21 =>
      some (.inl x4, h21))
      (fun x22 h21 =>
      zgd (exOk x22) <| some (.inr x22, h21))
  else
    (rEq x4 (some 20)).bind fun b24 =>
    if b24 = true then
      b109_48 n  y0 x4 h
    else
      (rEq x4 (some 25)).bind fun b27 =>
      if b27 = true then
        b109_48 n  y0 x4 h
      else
        (gR h y0 5 3).bind fun x30 =>
        zgd (isO h y0 5) <|
        (f70 n y0 2 x30 h).bind fun p37 => zth p37 (fun r34 h35 =>
          some (.inl x4, h35))
          (fun x36 h35 =>
          zgd (exOk x36) <| some (.inr x36, h35))
set_option maxRecDepth 20000 in
theorem t109 {d n : Nat} {Q : zRs → zH → Prop}  {y0 : Nat} (hd : 3 ≤ d)  {h : zH} {p : ((Option Nat ⊕ Nat) × zH)} (hF : f109 n  y0 h = some p) (q : Q (eAx p.1) p.2) : zC d 109 [.ref y0] h Q := by
  refine zC_of (L := [some (.ref y0), none]) rfl rfl ?_
  unfold f109 at hF
  obtain ⟨d, rfl⟩ : ∃ e, d = e + 1 := ⟨d - 1, by omega⟩
  refine zx_aload_n rfl rfl rfl ?_
  replace hF := zbnd hF
  obtain ⟨x1, e2, hF⟩ := hF
  refine zy_getR rfl rfl e2 ?_
  replace hF := zbnd hF
  obtain ⟨a3, rfl, hF⟩ := hF
  replace hF := zbnd hF
  obtain ⟨x4, e5, hF⟩ := hF
  refine zy_getR rfl rfl e5 ?_
  refine zy_rstore_n rfl rfl rfl ?_
  refine zy_rload_n rfl rfl rfl ?_
  refine zx_gets rfl rfl rfl ?_
  replace hF := zbnd hF
  obtain ⟨b6, e7, hF⟩ := hF
  refine zy_ane rfl rfl e7 (fun c8 => ?_) (fun c8 => ?_)
  · rw [if_neg (by rw [c8]; exact Bool.false_ne_true)] at hF
    refine zy_rload_n rfl rfl rfl ?_
    refine zx_gets rfl rfl rfl ?_
    replace hF := zbnd hF
    obtain ⟨b24, e25, hF⟩ := hF
    refine zy_aeq rfl rfl e25 (fun c26 => ?_) (fun c26 => ?_)
    · rw [if_pos c26] at hF
      exact tb109_48 (l0 := y0) (l1 := x4) hd   hF q
    · rw [if_neg (by rw [c26]; exact Bool.false_ne_true)] at hF
      refine zy_rload_n rfl rfl rfl ?_
      refine zx_gets rfl rfl rfl ?_
      replace hF := zbnd hF
      obtain ⟨b27, e28, hF⟩ := hF
      refine zy_ane rfl rfl e28 (fun c29 => ?_) (fun c29 => ?_)
      · rw [if_neg (by rw [c29]; exact Bool.false_ne_true)] at hF
        refine zx_aload_n rfl rfl rfl ?_
        refine zx_iconst (v := 2) rfl rfl rfl ?_
        refine zx_aload_n rfl rfl rfl ?_
        replace hF := zbnd hF
        obtain ⟨x30, e31, hF⟩ := hF
        refine zy_getR rfl rfl e31 ?_
        replace hF := zgd_some hF
        obtain ⟨g32, hF⟩ := hF
        replace hF := zbnd hF
        obtain ⟨⟨r34, h35⟩, e33, hF⟩ := hF
        refine zx_callE rfl rfl rfl rfl (zrcv_isO g32) (congrArg (List.cons _) (congrArg (List.cons _) ((zsl_rf _ _).trans (congrArg (List.cons _) rfl)))) rfl (zc4 (Nat.le_of_ble_eq_true rfl)) (t70 (by omega) e33 ?_)
        rcases r34 with r34 | x36
        rotate_left 1
        · replace hF := zthH hF
          replace hF := zgd_some hF
          obtain ⟨gx, hF⟩ := hF
          replace hF := Option.some.inj hF
          subst hF
          exact zaX rfl gx q
        replace hF := zthG hF
        refine zaV (x := ()) ?_
        refine zy_rload_n rfl rfl rfl ?_
        replace hF := Option.some.inj hF
        subst hF
        exact zy_areturn (r := x4) rfl rfl rfl rfl q
      · rw [if_pos c29] at hF
        exact tb109_48 (l0 := y0) (l1 := x4) hd   hF q
  · rw [if_pos c8] at hF
    refine zx_aload_n rfl rfl rfl ?_
    refine zx_aload_n rfl rfl rfl ?_
    replace hF := zbnd hF
    obtain ⟨x9, e10, hF⟩ := hF
    refine zy_getR rfl rfl e10 ?_
    replace hF := zbnd hF
    obtain ⟨a11, rfl, hF⟩ := hF
    replace hF := zbnd hF
    obtain ⟨x12, e13, hF⟩ := hF
    refine zy_getR rfl rfl e13 ?_
    replace hF := zbnd hF
    obtain ⟨a14, rfl, hF⟩ := hF
    replace hF := zgd_some hF
    obtain ⟨g15, hF⟩ := hF
    replace hF := zbnd hF
    obtain ⟨p17, e16, hF⟩ := hF
    refine zx_callE rfl rfl rfl rfl (zrcv_isO g15) rfl rfl (zc4 (Nat.le_of_ble_eq_true rfl)) (t68 (by omega) e16 (zaI ?_))
    refine zx_bipush (v := 100) rfl rfl rfl ?_
    replace hF := zgd_some hF
    obtain ⟨g18, hF⟩ := hF
    replace hF := zbnd hF
    obtain ⟨⟨r20, h21⟩, e19, hF⟩ := hF
    refine zx_callE rfl rfl rfl rfl (zrcv_isO g18) rfl rfl (zc4 (Nat.le_of_ble_eq_true rfl)) (t69 (by omega) e19 ?_)
    rcases r20 with r20 | x22
    rotate_left 1
    · replace hF := zthH hF
      replace hF := zgd_some hF
      obtain ⟨gx, hF⟩ := hF
      replace hF := Option.some.inj hF
      subst hF
      exact zaX rfl gx q
    replace hF := zthG hF
    refine zaV (x := ()) ?_
    refine zx_goto rfl rfl ?_
    refine zy_rload_n rfl rfl rfl ?_
    replace hF := Option.some.inj hF
    subst hF
    exact zy_areturn (r := x4) rfl rfl rfl rfl q
def f110 (n : Nat)  (y0 : Nat) (y1 : Int32) (y2 : Option Nat) (h : zH) : Option (Unit × zH) :=
  (gR h y0 2 4).bind fun x1 =>
  x1.bind fun a3 =>
  (aN h a3).bind fun x4 =>
  (f13 n y1 x4 h).bind fun p7 =>
  if p7.1 = 0 then
    some ((), p7.2)
  else
    (gR p7.2 y0 2 4).bind fun x9 =>
    x9.bind fun a11 =>
    (aR p7.2 a11 y1).bind fun x12 =>
    match x12 with
    | none =>
      (gR p7.2 y0 2 4).bind fun x15 =>
      x15.bind fun a17 =>
      (aS (zsA zasg p7.2.1) p7.2 a17 y1 (va_rf y2)).bind fun h18 =>
      some ((), h18)
    | some a14 =>
      some ((), p7.2)
set_option maxRecDepth 20000 in
theorem t110 {d n : Nat} {Q : zRs → zH → Prop}  {y0 : Nat} {y1 : Int32} {y2 : Option Nat} (hd : 1 ≤ d)  {h : zH} {p : (Unit × zH)} (hF : f110 n  y0 y1 y2 h = some p) (q : Q (eV p.1) p.2) : zC d 110 [.ref y0, .int y1, va_rf y2] h Q := by
  refine zC_of (L := [some (.ref y0), some (.int y1), some (va_rf y2)]) (congrArg (List.cons _) (congrArg (List.cons _) ((zsl_rf _ _).trans (congrArg (List.cons _) rfl)))) rfl ?_
  unfold f110 at hF
  obtain ⟨d, rfl⟩ : ∃ e, d = e + 1 := ⟨d - 1, by omega⟩
  refine zx_iload_n rfl rfl rfl ?_
  refine zx_aload_n rfl rfl rfl ?_
  replace hF := zbnd hF
  obtain ⟨x1, e2, hF⟩ := hF
  refine zy_getR rfl rfl e2 ?_
  replace hF := zbnd hF
  obtain ⟨a3, rfl, hF⟩ := hF
  replace hF := zbnd hF
  obtain ⟨x4, e5, hF⟩ := hF
  refine zy_alen rfl rfl e5 ?_
  replace hF := zbnd hF
  obtain ⟨p7, e6, hF⟩ := hF
  refine zx_callF rfl rfl rfl rfl rfl rfl rfl (zc4 (Nat.le_of_ble_eq_true rfl)) (t13 (by omega) e6 (zaI ?_))
  refine zx_if_eq rfl rfl (fun c8 => ?_) (fun c8 => ?_)
  · rw [if_pos c8] at hF
    replace hF := Option.some.inj hF
    subst hF
    exact zx_return rfl rfl rfl q
  · rw [if_neg c8] at hF
    refine zx_aload_n rfl rfl rfl ?_
    replace hF := zbnd hF
    obtain ⟨x9, e10, hF⟩ := hF
    refine zy_getR rfl rfl e10 ?_
    refine zx_iload_n rfl rfl rfl ?_
    replace hF := zbnd hF
    obtain ⟨a11, rfl, hF⟩ := hF
    replace hF := zbnd hF
    obtain ⟨x12, e13, hF⟩ := hF
    refine zy_aR rfl rfl e13 ?_
    cases x12 with
    | none =>
      dsimp only at hF
      refine zx_ifnnN rfl rfl ?_
      refine zx_aload_n rfl rfl rfl ?_
      replace hF := zbnd hF
      obtain ⟨x15, e16, hF⟩ := hF
      refine zy_getR rfl rfl e16 ?_
      refine zx_iload_n rfl rfl rfl ?_
      refine zy_rload_n rfl rfl rfl ?_
      replace hF := zbnd hF
      obtain ⟨a17, rfl, hF⟩ := hF
      replace hF := zbnd hF
      obtain ⟨h18, e19, hF⟩ := hF
      refine zy_sR rfl rfl e19 ?_
      replace hF := Option.some.inj hF
      subst hF
      exact zx_return rfl rfl rfl q
    | some a14 =>
      dsimp only at hF
      refine zx_ifnn rfl rfl ?_
      replace hF := Option.some.inj hF
      subst hF
      exact zx_return rfl rfl rfl q
def b107_289 (n : Nat)   (l0 : Nat) (l1 : Option Nat) (l2 : Int32) (l3 : Nat) (l4 : Int32) (h : zH) : Option ((Unit ⊕ Nat) × zH) :=
  (gR h l0 5 0).bind fun x1 =>
  x1.bind fun a3 =>
  (gR h a3 4 6).bind fun x4 =>
  x4.bind fun a6 =>
  zgd (isO h a6 14) <|
  (f68 n a6 h).bind fun p9 =>
  (pF p9.2 l3 2 2 (.int p9.1)).bind fun h10 =>
  zgd (isO h10 l0 5) <|
  (f71 n l0 (some 7) h10).bind fun p17 => zth p17 (fun r14 h15 =>
    some (.inl (), h15))
    (fun x16 h15 =>
    zgd (exOk x16) <| some (.inr x16, h15))
set_option maxRecDepth 20000 in
theorem tb107_289 {d n : Nat} {Q : zRs → zH → Prop}   {l0 : Nat} {l1 : Option Nat} {l2 : Int32} {l3 : Nat} {l4 : Int32}  {x5 : Option Value} {x6 : Option Value} {x7 : Option Value} {x8 : Option Value} (hd : 70 ≤ d)   {h : zH} {p : ((Unit ⊕ Nat) × zH)} (hx5 : zn2 x5 = true) (hx6 : zn2 x6 = true) (hx7 : zn2 x7 = true) (hx8 : zn2 x8 = true) (hF : b107_289 n   l0 l1 l2 l3 l4 h = some p) (q : Q (eVx p.1) p.2) : zW d 107 289 [some (.ref l0), some (va_rf l1), some (.int l2), some (.ref l3), some (.int l4), x5, x6, x7, x8] [] h Q := by
  unfold b107_289 at hF
  obtain ⟨d, rfl⟩ : ∃ e, d = e + 1 := ⟨d - 1, by omega⟩
  refine zx_aload_n rfl rfl rfl ?_
  refine zx_aload_n rfl rfl rfl ?_
  replace hF := zbnd hF
  obtain ⟨x1, e2, hF⟩ := hF
  refine zy_getR rfl rfl e2 ?_
  replace hF := zbnd hF
  obtain ⟨a3, rfl, hF⟩ := hF
  replace hF := zbnd hF
  obtain ⟨x4, e5, hF⟩ := hF
  refine zy_getR rfl rfl e5 ?_
  replace hF := zbnd hF
  obtain ⟨a6, rfl, hF⟩ := hF
  replace hF := zgd_some hF
  obtain ⟨g7, hF⟩ := hF
  replace hF := zbnd hF
  obtain ⟨p9, e8, hF⟩ := hF
  refine zx_callE rfl rfl rfl rfl (zrcv_isO g7) rfl rfl (zc4 (Nat.le_of_ble_eq_true rfl)) (t68 (by omega) e8 (zaI ?_))
  replace hF := zbnd hF
  obtain ⟨h10, e11, hF⟩ := hF
  refine zy_put rfl rfl e11 ?_
  refine zx_aload_n rfl rfl rfl ?_
  refine zx_gets rfl rfl rfl ?_
  replace hF := zgd_some hF
  obtain ⟨g12, hF⟩ := hF
  replace hF := zbnd hF
  obtain ⟨⟨r14, h15⟩, e13, hF⟩ := hF
  refine zx_callE rfl rfl rfl rfl (zrcv_isO g12) rfl rfl (zc4 (Nat.le_of_ble_eq_true rfl)) (t71 (by omega) e13 ?_)
  rcases r14 with r14 | x16
  rotate_left 1
  · replace hF := zthH hF
    replace hF := zgd_some hF
    obtain ⟨gx, hF⟩ := hF
    replace hF := Option.some.inj hF
    subst hF
    exact zaX rfl gx q
  replace hF := zthG hF
  refine zaA ?_
  refine zx_pop rfl rfl (zc1_rf _) ?_
  replace hF := Option.some.inj hF
  subst hF
  exact zx_return rfl rfl rfl q
def b107_283 (n : Nat)  (r117 : Nat → Option Nat → Int32 → Nat → Int32 → zH → Option ((Unit ⊕ Nat) × zH)) (l0 : Nat) (l1 : Option Nat) (l2 : Int32) (l3 : Nat) (l4 : Int32) (l5 : Option Nat) (l6 : Int32) (l7 : Option Nat) (h : zH) : Option ((Unit ⊕ Nat) × zH) :=
  r117 l0 l1 l2 l3 (l4 + 1) h
set_option maxRecDepth 20000 in
theorem tb107_283 {d n : Nat} {Q : zRs → zH → Prop}  {r117 : Nat → Option Nat → Int32 → Nat → Int32 → zH → Option ((Unit ⊕ Nat) × zH)} {l0 : Nat} {l1 : Option Nat} {l2 : Int32} {l3 : Nat} {l4 : Int32} {l5 : Option Nat} {l6 : Int32} {l7 : Option Nat}  {x8 : Option Value} (hd : 70 ≤ d)  (hr117 : ∀ {l0 : Nat} {l1 : Option Nat} {l2 : Int32} {l3 : Nat} {l4 : Int32}  {x5 : Option Value} {x6 : Option Value} {x7 : Option Value} {x8 : Option Value} {h : zH} {p : ((Unit ⊕ Nat) × zH)}, zn2 x5 = true → zn2 x6 = true → zn2 x7 = true → zn2 x8 = true → r117 l0 l1 l2 l3 l4 h = some p → Q (eVx p.1) p.2 → zW d 107 117 [some (.ref l0), some (va_rf l1), some (.int l2), some (.ref l3), some (.int l4), x5, x6, x7, x8] [] h Q) {h : zH} {p : ((Unit ⊕ Nat) × zH)} (hx8 : zn2 x8 = true) (hF : b107_283 n  r117 l0 l1 l2 l3 l4 l5 l6 l7 h = some p) (q : Q (eVx p.1) p.2) : zW d 107 283 [some (.ref l0), some (va_rf l1), some (.int l2), some (.ref l3), some (.int l4), some (va_rf l5), some (.int l6), some (va_rf l7), x8] [] h Q := by
  unfold b107_283 at hF
  obtain ⟨d, rfl⟩ : ∃ e, d = e + 1 := ⟨d - 1, by omega⟩
  refine zx_iinc (w := 1) rfl rfl rfl rfl rfl ?_
  refine zx_goto rfl rfl ?_
  exact hr117 (zn2_rf _) rfl (zn2_rf _) hx8 hF q
def b107_117 (n : Nat)  (r117 : Nat → Option Nat → Int32 → Nat → Int32 → zH → Option ((Unit ⊕ Nat) × zH)) (l0 : Nat) (l1 : Option Nat) (l2 : Int32) (l3 : Nat) (l4 : Int32) (h : zH) : Option ((Unit ⊕ Nat) × zH) :=
  if (6000 : Int32) ≤ l4 then
    b107_289 n  l0 l1 l2 l3 l4 h
  else
    (gR h l0 5 3).bind fun x2 =>
    x2.bind fun a4 =>
    (gR h a4 9 0).bind fun x5 =>
    (rEq x5 (some 7)).bind fun b7 =>
    if b7 = true then
      b107_289 n  l0 l1 l2 l3 l4 h
    else
      zgd (isO h l0 5) <|
      (f109 n l0 h).bind fun p15 => zth p15 (fun r12 h13 =>
        (gR h13 l0 5 0).bind fun x16 =>
        x16.bind fun a18 =>
        (gR h13 a18 4 1).bind fun x19 =>
        zgd (isO h13 l0 5) <|
        (f81 n l0 x19 h13).bind fun p26 => zth p26 (fun r23 h24 =>
          (gR h24 l0 5 0).bind fun x27 =>
          x27.bind fun a29 =>
          (gR h24 a29 4 4).bind fun x30 =>
          x30.bind fun a32 =>
          zgd (isO h24 a32 14) <|
          (f74 n a32 r23 h24).bind fun p35 =>
          zgd (kC p35.2 p35.1 0 0) <|
          (rEq r12 (some 20)).bind fun b37 =>
          if b37 = true then
            (gI p35.2 l3 2 3).bind fun x40 =>
            (pF p35.2 l3 2 3 (.int (x40 ||| (1 <<< (r23 &&& 31))))).bind fun h42 =>
            zgd (isO h42 l0 5) <|
            (f71 n l0 (some 10) h42).bind fun p49 => zth p49 (fun r46 h47 =>
              b107_283 n r117 l0 l1 l2 l3 l4 r12 r23 p35.1 h47)
              (fun x48 h47 =>
              zgd (exOk x48) <| some (.inr x48, h47))
          else
            (rEq r12 (some 25)).bind fun b50 =>
            if b50 = true then
              zgd (isO p35.2 l0 5) <|
              (f71 n l0 (some 13) p35.2).bind fun p58 => zth p58 (fun r55 h56 =>
                zgd (isO h56 l0 5) <|
                (f95 n l0 p35.1 h56).bind fun p64 => zth p64 (fun r61 h62 =>
                  zgd (isO h62 l3 2) <|
                  (f110 n l3 r23 r61 h62).bind fun p67 =>
                  b107_283 n r117 l0 l1 l2 l3 l4 r12 r23 p35.1 p67.2)
                  (fun x63 h62 =>
                  zgd (exOk x63) <| some (.inr x63, h62)))
                (fun x57 h56 =>
                zgd (exOk x57) <| some (.inr x57, h56))
            else
              zgd (isO p35.2 l0 5) <|
              (f77 n 64 l0 (some 32) 0 p35.2).bind fun p73 => zth p73 (fun r70 h71 =>
                zgd (isO h71 l0 5) <|
                (f71 n l0 (some 14) h71).bind fun p79 => zth p79 (fun r76 h77 =>
                  (gR h77 l0 5 0).bind fun x80 =>
                  x80.bind fun a82 =>
                  (gR h77 a82 4 6).bind fun x83 =>
                  zgd (isO (nO h77 6 3) l0 5) <|
                  (f95 n l0 p35.1 (nO h77 6 3)).bind fun p90 => zth p90 (fun r87 h88 =>
                    (f106 n h77.1.length r23 r70 r87 h88).bind fun p92 =>
                    x83.bind fun a93 =>
                    zgd (isO p92.2 a93 14) <|
                    (f86 n a93 (some h77.1.length) p92.2).bind fun p96 =>
                    b107_283 n r117 l0 l1 l2 l3 l4 r12 r23 p35.1 p96.2)
                    (fun x89 h88 =>
                    zgd (exOk x89) <| some (.inr x89, h88)))
                  (fun x78 h77 =>
                  zgd (exOk x78) <| some (.inr x78, h77)))
                (fun x72 h71 =>
                zgd (exOk x72) <| some (.inr x72, h71)))
          (fun x25 h24 =>
          zgd (exOk x25) <| some (.inr x25, h24)))
        (fun x14 h13 =>
        zgd (exOk x14) <| some (.inr x14, h13))
set_option maxRecDepth 20000 in
theorem tb107_117 {d n : Nat} {Q : zRs → zH → Prop}  {r117 : Nat → Option Nat → Int32 → Nat → Int32 → zH → Option ((Unit ⊕ Nat) × zH)} {l0 : Nat} {l1 : Option Nat} {l2 : Int32} {l3 : Nat} {l4 : Int32}  {x5 : Option Value} {x6 : Option Value} {x7 : Option Value} {x8 : Option Value} (hd : 70 ≤ d)  (hr117 : ∀ {l0 : Nat} {l1 : Option Nat} {l2 : Int32} {l3 : Nat} {l4 : Int32}  {x5 : Option Value} {x6 : Option Value} {x7 : Option Value} {x8 : Option Value} {h : zH} {p : ((Unit ⊕ Nat) × zH)}, zn2 x5 = true → zn2 x6 = true → zn2 x7 = true → zn2 x8 = true → r117 l0 l1 l2 l3 l4 h = some p → Q (eVx p.1) p.2 → zW d 107 117 [some (.ref l0), some (va_rf l1), some (.int l2), some (.ref l3), some (.int l4), x5, x6, x7, x8] [] h Q) {h : zH} {p : ((Unit ⊕ Nat) × zH)} (hx5 : zn2 x5 = true) (hx6 : zn2 x6 = true) (hx7 : zn2 x7 = true) (hx8 : zn2 x8 = true) (hF : b107_117 n  r117 l0 l1 l2 l3 l4 h = some p) (q : Q (eVx p.1) p.2) : zW d 107 117 [some (.ref l0), some (va_rf l1), some (.int l2), some (.ref l3), some (.int l4), x5, x6, x7, x8] [] h Q := by
  unfold b107_117 at hF
  obtain ⟨d, rfl⟩ : ∃ e, d = e + 1 := ⟨d - 1, by omega⟩
  refine zx_iload rfl rfl rfl ?_
  refine zx_sipush (v := 6000) rfl rfl rfl ?_
  refine zx_ic_ge rfl rfl (fun c1 => ?_) (fun c1 => ?_)
  · rw [if_pos c1] at hF
    exact tb107_289 (l0 := l0) (l1 := l1) (l2 := l2) (l3 := l3) (l4 := l4) hd  hx5 hx6 hx7 hx8 hF q
  · rw [if_neg c1] at hF
    refine zx_aload_n rfl rfl rfl ?_
    replace hF := zbnd hF
    obtain ⟨x2, e3, hF⟩ := hF
    refine zy_getR rfl rfl e3 ?_
    replace hF := zbnd hF
    obtain ⟨a4, rfl, hF⟩ := hF
    replace hF := zbnd hF
    obtain ⟨x5, e6, hF⟩ := hF
    refine zy_getR rfl rfl e6 ?_
    refine zx_gets rfl rfl rfl ?_
    replace hF := zbnd hF
    obtain ⟨b7, e8, hF⟩ := hF
    refine zy_aeq rfl rfl e8 (fun c9 => ?_) (fun c9 => ?_)
    · rw [if_pos c9] at hF
      exact tb107_289 (l0 := l0) (l1 := l1) (l2 := l2) (l3 := l3) (l4 := l4) hd  hx5 hx6 hx7 hx8 hF q
    · rw [if_neg (by rw [c9]; exact Bool.false_ne_true)] at hF
      refine zx_aload_n rfl rfl rfl ?_
      replace hF := zgd_some hF
      obtain ⟨g10, hF⟩ := hF
      replace hF := zbnd hF
      obtain ⟨⟨r12, h13⟩, e11, hF⟩ := hF
      refine zx_callE rfl rfl rfl rfl (zrcv_isO g10) rfl rfl (zc4 (Nat.le_of_ble_eq_true rfl)) (t109 (by omega) e11 ?_)
      rcases r12 with r12 | x14
      rotate_left 1
      · replace hF := zthH hF
        replace hF := zgd_some hF
        obtain ⟨gx, hF⟩ := hF
        replace hF := Option.some.inj hF
        subst hF
        exact zaX rfl gx q
      replace hF := zthG hF
      refine zaA ?_
      refine zy_rstore rfl rfl rfl ?_
      refine zx_aload_n rfl rfl rfl ?_
      refine zx_aload_n rfl rfl rfl ?_
      replace hF := zbnd hF
      obtain ⟨x16, e17, hF⟩ := hF
      refine zy_getR rfl rfl e17 ?_
      replace hF := zbnd hF
      obtain ⟨a18, rfl, hF⟩ := hF
      replace hF := zbnd hF
      obtain ⟨x19, e20, hF⟩ := hF
      refine zy_getR rfl rfl e20 ?_
      replace hF := zgd_some hF
      obtain ⟨g21, hF⟩ := hF
      replace hF := zbnd hF
      obtain ⟨⟨r23, h24⟩, e22, hF⟩ := hF
      refine zx_callE rfl rfl rfl rfl (zrcv_isO g21) (congrArg (List.cons _) ((zsl_rf _ _).trans (congrArg (List.cons _) rfl))) rfl (zc4 (Nat.le_of_ble_eq_true rfl)) (t81 (by omega) e22 ?_)
      rcases r23 with r23 | x25
      rotate_left 1
      · replace hF := zthH hF
        replace hF := zgd_some hF
        obtain ⟨gx, hF⟩ := hF
        replace hF := Option.some.inj hF
        subst hF
        exact zaX rfl gx q
      replace hF := zthG hF
      refine zaI ?_
      refine zx_istore rfl rfl (zput_ok (L' := [some (.ref l0), some (va_rf l1), some (.int l2), some (.ref l3), some (.int l4), some (va_rf r12), some (.int r23), x7, x8]) rfl (zcl_X (j := 5) rfl (zn2_rf _)) rfl) ?_
      refine zx_aload_n rfl rfl rfl ?_
      replace hF := zbnd hF
      obtain ⟨x27, e28, hF⟩ := hF
      refine zy_getR rfl rfl e28 ?_
      replace hF := zbnd hF
      obtain ⟨a29, rfl, hF⟩ := hF
      replace hF := zbnd hF
      obtain ⟨x30, e31, hF⟩ := hF
      refine zy_getR rfl rfl e31 ?_
      refine zx_iload rfl rfl rfl ?_
      replace hF := zbnd hF
      obtain ⟨a32, rfl, hF⟩ := hF
      replace hF := zgd_some hF
      obtain ⟨g33, hF⟩ := hF
      replace hF := zbnd hF
      obtain ⟨p35, e34, hF⟩ := hF
      refine zx_callE rfl rfl rfl rfl (zrcv_isO g33) rfl rfl (zc4 (Nat.le_of_ble_eq_true rfl)) (t74 (by omega) e34 (zaA ?_))
      replace hF := zgd_some hF
      obtain ⟨g36, hF⟩ := hF
      refine zy_cast (r := p35.1) rfl rfl g36 ?_
      refine zy_rstore rfl rfl rfl ?_
      refine zy_rload rfl rfl rfl ?_
      refine zx_gets rfl rfl rfl ?_
      replace hF := zbnd hF
      obtain ⟨b37, e38, hF⟩ := hF
      refine zy_ane rfl rfl e38 (fun c39 => ?_) (fun c39 => ?_)
      · rw [if_neg (by rw [c39]; exact Bool.false_ne_true)] at hF
        refine zy_rload rfl rfl rfl ?_
        refine zx_gets rfl rfl rfl ?_
        replace hF := zbnd hF
        obtain ⟨b50, e51, hF⟩ := hF
        refine zy_ane rfl rfl e51 (fun c52 => ?_) (fun c52 => ?_)
        · rw [if_neg (by rw [c52]; exact Bool.false_ne_true)] at hF
          refine zx_aload_n rfl rfl rfl ?_
          refine zx_gets rfl rfl rfl ?_
          refine zx_iconst (v := 0) rfl rfl rfl ?_
          replace hF := zgd_some hF
          obtain ⟨g68, hF⟩ := hF
          replace hF := zbnd hF
          obtain ⟨⟨r70, h71⟩, e69, hF⟩ := hF
          refine zx_callE rfl rfl rfl rfl (zrcv_isO g68) rfl rfl (zc4 (Nat.le_of_ble_eq_true rfl)) (t77 64 (by omega) e69 ?_)
          rcases r70 with r70 | x72
          rotate_left 1
          · replace hF := zthH hF
            replace hF := zgd_some hF
            obtain ⟨gx, hF⟩ := hF
            replace hF := Option.some.inj hF
            subst hF
            exact zaX rfl gx q
          replace hF := zthG hF
          refine zaA ?_
          refine zy_rstore rfl rfl (zput_ok (L' := [some (.ref l0), some (va_rf l1), some (.int l2), some (.ref l3), some (.int l4), some (va_rf r12), some (.int r23), some (va_rf p35.1), some (va_rf r70)]) rfl (zcl_X (j := 7) rfl (zn2_rf _)) rfl) ?_
          refine zx_aload_n rfl rfl rfl ?_
          refine zx_gets rfl rfl rfl ?_
          replace hF := zgd_some hF
          obtain ⟨g74, hF⟩ := hF
          replace hF := zbnd hF
          obtain ⟨⟨r76, h77⟩, e75, hF⟩ := hF
          refine zx_callE rfl rfl rfl rfl (zrcv_isO g74) rfl rfl (zc4 (Nat.le_of_ble_eq_true rfl)) (t71 (by omega) e75 ?_)
          rcases r76 with r76 | x78
          rotate_left 1
          · replace hF := zthH hF
            replace hF := zgd_some hF
            obtain ⟨gx, hF⟩ := hF
            replace hF := Option.some.inj hF
            subst hF
            exact zaX rfl gx q
          replace hF := zthG hF
          refine zaA ?_
          refine zx_pop rfl rfl (zc1_rf _) ?_
          refine zx_aload_n rfl rfl rfl ?_
          replace hF := zbnd hF
          obtain ⟨x80, e81, hF⟩ := hF
          refine zy_getR rfl rfl e81 ?_
          replace hF := zbnd hF
          obtain ⟨a82, rfl, hF⟩ := hF
          replace hF := zbnd hF
          obtain ⟨x83, e84, hF⟩ := hF
          refine zy_getR rfl rfl e84 ?_
          refine zy_new rfl rfl ?_
          refine zx_dup rfl rfl rfl ?_
          refine zx_iload rfl rfl rfl ?_
          refine zy_rload rfl rfl rfl ?_
          refine zx_aload_n rfl rfl rfl ?_
          refine zy_rload rfl rfl rfl ?_
          replace hF := zgd_some hF
          obtain ⟨g85, hF⟩ := hF
          replace hF := zbnd hF
          obtain ⟨⟨r87, h88⟩, e86, hF⟩ := hF
          refine zx_callE rfl rfl rfl rfl (zrcv_isO g85) (congrArg (List.cons _) ((zsl_rf _ _).trans (congrArg (List.cons _) rfl))) rfl (zc8 (zct_a (zct_i (zct_r (zct_r (zct_a zct_n))))) (Nat.le_of_ble_eq_true rfl)) (t95 (by omega) e86 ?_)
          rcases r87 with r87 | x89
          rotate_left 1
          · replace hF := zthH hF
            replace hF := zgd_some hF
            obtain ⟨gx, hF⟩ := hF
            replace hF := Option.some.inj hF
            subst hF
            exact zaX rfl gx q
          replace hF := zthG hF
          refine zaA ?_
          replace hF := zbnd hF
          obtain ⟨p92, e91, hF⟩ := hF
          refine zx_callF rfl rfl rfl rfl rfl (congrArg (List.cons _) (congrArg (List.cons _) ((zsl_rf _ _).trans (congrArg (List.cons _) ((zsl_rf _ _).trans (congrArg (List.cons _) rfl)))))) rfl (zc4 (Nat.le_of_ble_eq_true rfl)) (t106 (by omega) e91 (zaV ?_))
          replace hF := zbnd hF
          obtain ⟨a93, rfl, hF⟩ := hF
          replace hF := zgd_some hF
          obtain ⟨g94, hF⟩ := hF
          replace hF := zbnd hF
          obtain ⟨p96, e95, hF⟩ := hF
          refine zx_callE rfl rfl rfl rfl (zrcv_isO g94) rfl rfl (zc4 (Nat.le_of_ble_eq_true rfl)) (t86 (by omega) e95 (zaI ?_))
          refine zx_pop rfl rfl rfl ?_
          exact tb107_283 (l0 := l0) (l1 := l1) (l2 := l2) (l3 := l3) (l4 := l4) (l5 := r12) (l6 := r23) (l7 := p35.1) hd hr117 (zn2_rf _) hF q
        · rw [if_pos c52] at hF
          refine zx_aload_n rfl rfl rfl ?_
          refine zx_gets rfl rfl rfl ?_
          replace hF := zgd_some hF
          obtain ⟨g53, hF⟩ := hF
          replace hF := zbnd hF
          obtain ⟨⟨r55, h56⟩, e54, hF⟩ := hF
          refine zx_callE rfl rfl rfl rfl (zrcv_isO g53) rfl rfl (zc4 (Nat.le_of_ble_eq_true rfl)) (t71 (by omega) e54 ?_)
          rcases r55 with r55 | x57
          rotate_left 1
          · replace hF := zthH hF
            replace hF := zgd_some hF
            obtain ⟨gx, hF⟩ := hF
            replace hF := Option.some.inj hF
            subst hF
            exact zaX rfl gx q
          replace hF := zthG hF
          refine zaA ?_
          refine zx_pop rfl rfl (zc1_rf _) ?_
          refine zx_aload_n rfl rfl rfl ?_
          refine zx_iload rfl rfl rfl ?_
          refine zx_aload_n rfl rfl rfl ?_
          refine zy_rload rfl rfl rfl ?_
          replace hF := zgd_some hF
          obtain ⟨g59, hF⟩ := hF
          replace hF := zbnd hF
          obtain ⟨⟨r61, h62⟩, e60, hF⟩ := hF
          refine zx_callE rfl rfl rfl rfl (zrcv_isO g59) (congrArg (List.cons _) ((zsl_rf _ _).trans (congrArg (List.cons _) rfl))) rfl (zc4 (Nat.le_of_ble_eq_true rfl)) (t95 (by omega) e60 ?_)
          rcases r61 with r61 | x63
          rotate_left 1
          · replace hF := zthH hF
            replace hF := zgd_some hF
            obtain ⟨gx, hF⟩ := hF
            replace hF := Option.some.inj hF
            subst hF
            exact zaX rfl gx q
          replace hF := zthG hF
          refine zaA ?_
          replace hF := zgd_some hF
          obtain ⟨g65, hF⟩ := hF
          replace hF := zbnd hF
          obtain ⟨p67, e66, hF⟩ := hF
          refine zx_callE rfl rfl rfl rfl (zrcv_isO g65) (congrArg (List.cons _) (congrArg (List.cons _) ((zsl_rf _ _).trans (congrArg (List.cons _) rfl)))) rfl (zc4 (Nat.le_of_ble_eq_true rfl)) (t110 (by omega) e66 (zaV ?_))
          refine zx_goto rfl rfl ?_
          exact tb107_283 (l0 := l0) (l1 := l1) (l2 := l2) (l3 := l3) (l4 := l4) (l5 := r12) (l6 := r23) (l7 := p35.1) hd hr117 hx8 hF q
      · rw [if_pos c39] at hF
        refine zx_aload_n rfl rfl rfl ?_
        refine zx_dup rfl rfl rfl ?_
        replace hF := zbnd hF
        obtain ⟨x40, e41, hF⟩ := hF
        refine zy_getI rfl rfl e41 ?_
        refine zx_iconst (v := 1) rfl rfl rfl ?_
        refine zx_iload rfl rfl rfl ?_
        refine zx_ishl rfl rfl ?_
        refine zx_ior rfl rfl ?_
        replace hF := zbnd hF
        obtain ⟨h42, e43, hF⟩ := hF
        refine zy_put rfl rfl e43 ?_
        refine zx_aload_n rfl rfl rfl ?_
        refine zx_gets rfl rfl rfl ?_
        replace hF := zgd_some hF
        obtain ⟨g44, hF⟩ := hF
        replace hF := zbnd hF
        obtain ⟨⟨r46, h47⟩, e45, hF⟩ := hF
        refine zx_callE rfl rfl rfl rfl (zrcv_isO g44) rfl rfl (zc4 (Nat.le_of_ble_eq_true rfl)) (t71 (by omega) e45 ?_)
        rcases r46 with r46 | x48
        rotate_left 1
        · replace hF := zthH hF
          replace hF := zgd_some hF
          obtain ⟨gx, hF⟩ := hF
          replace hF := Option.some.inj hF
          subst hF
          exact zaX rfl gx q
        replace hF := zthG hF
        refine zaA ?_
        refine zx_pop rfl rfl (zc1_rf _) ?_
        refine zx_goto rfl rfl ?_
        exact tb107_283 (l0 := l0) (l1 := l1) (l2 := l2) (l3 := l3) (l4 := l4) (l5 := r12) (l6 := r23) (l7 := p35.1) hd hr117 hx8 hF q
def f107_117 (n : Nat)   (k : Nat) : Nat → Option Nat → Int32 → Nat → Int32 → zH → Option ((Unit ⊕ Nat) × zH) := Nat.rec (fun _ _ _ _ _ _ => none) (fun _ ih => b107_117 n  ih) k
theorem tf107_117 {d n : Nat} {Q : zRs → zH → Prop}   (hd : 70 ≤ d)   (k : Nat) : ∀ {l0 : Nat} {l1 : Option Nat} {l2 : Int32} {l3 : Nat} {l4 : Int32}  {x5 : Option Value} {x6 : Option Value} {x7 : Option Value} {x8 : Option Value} {h : zH} {p : ((Unit ⊕ Nat) × zH)}, zn2 x5 = true → zn2 x6 = true → zn2 x7 = true → zn2 x8 = true → f107_117 n   k l0 l1 l2 l3 l4 h = some p → Q (eVx p.1) p.2 → zW d 107 117 [some (.ref l0), some (va_rf l1), some (.int l2), some (.ref l3), some (.int l4), x5, x6, x7, x8] [] h Q := by
  induction k with
  | zero => intros; rename_i hF _; cases hF
  | succ k ih => intros; rename_i hx5 hx6 hx7 hx8 hF q; exact tb107_117 (n := n) hd  ih hx5 hx6 hx7 hx8 hF q
def b107_63 (n : Nat)   (l0 : Nat) (l1 : Option Nat) (l2 : Int32) (h : zH) : Option ((Unit ⊕ Nat) × zH) :=
  zgd (isO h l0 5) <|
  (f71 n l0 (some 6) h).bind fun p6 => zth p6 (fun r3 h4 =>
    (gR (nO h4 2 5) l0 5 0).bind fun x7 =>
    x7.bind fun a9 =>
    (gR (nO h4 2 5) a9 4 6).bind fun x10 =>
    x10.bind fun a12 =>
    zgd (isO (nO h4 2 5) a12 14) <|
    (f68 n a12 (nO h4 2 5)).bind fun p15 =>
    (f108 n h4.1.length l2 p15.1 p15.2).bind fun p17 =>
    (gR p17.2 l0 5 0).bind fun x18 =>
    x18.bind fun a20 =>
    (gR p17.2 a20 4 2).bind fun x21 =>
    x21.bind fun a23 =>
    zgd (isO p17.2 a23 14) <|
    (f86 n a23 l1 p17.2).bind fun p26 =>
    (gR p26.2 l0 5 0).bind fun x27 =>
    x27.bind fun a29 =>
    (gR p26.2 a29 4 5).bind fun x30 =>
    x30.bind fun a32 =>
    zgd (isO p26.2 a32 14) <|
    (f86 n a32 (some h4.1.length) p26.2).bind fun p35 =>
    f107_117 n  n l0 l1 l2 h4.1.length 0 p35.2)
    (fun x5 h4 =>
    zgd (exOk x5) <| some (.inr x5, h4))
set_option maxRecDepth 20000 in
theorem tb107_63 {d n : Nat} {Q : zRs → zH → Prop}   {l0 : Nat} {l1 : Option Nat} {l2 : Int32}  {x3 : Option Value} {x4 : Option Value} {x5 : Option Value} {x6 : Option Value} {x7 : Option Value} {x8 : Option Value} (hd : 70 ≤ d)   {h : zH} {p : ((Unit ⊕ Nat) × zH)} (hx3 : zn2 x3 = true) (hx4 : zn2 x4 = true) (hx5 : zn2 x5 = true) (hx6 : zn2 x6 = true) (hx7 : zn2 x7 = true) (hx8 : zn2 x8 = true) (hF : b107_63 n   l0 l1 l2 h = some p) (q : Q (eVx p.1) p.2) : zW d 107 63 [some (.ref l0), some (va_rf l1), some (.int l2), x3, x4, x5, x6, x7, x8] [] h Q := by
  unfold b107_63 at hF
  obtain ⟨d, rfl⟩ : ∃ e, d = e + 1 := ⟨d - 1, by omega⟩
  refine zx_aload_n rfl rfl rfl ?_
  refine zx_gets rfl rfl rfl ?_
  replace hF := zgd_some hF
  obtain ⟨g1, hF⟩ := hF
  replace hF := zbnd hF
  obtain ⟨⟨r3, h4⟩, e2, hF⟩ := hF
  refine zx_callE rfl rfl rfl rfl (zrcv_isO g1) rfl rfl (zc4 (Nat.le_of_ble_eq_true rfl)) (t71 (by omega) e2 ?_)
  rcases r3 with r3 | x5
  rotate_left 1
  · replace hF := zthH hF
    replace hF := zgd_some hF
    obtain ⟨gx, hF⟩ := hF
    replace hF := Option.some.inj hF
    subst hF
    exact zaX rfl gx q
  replace hF := zthG hF
  refine zaA ?_
  refine zx_pop rfl rfl (zc1_rf _) ?_
  refine zy_new rfl rfl ?_
  refine zx_dup rfl rfl rfl ?_
  refine zx_iload_n rfl rfl rfl ?_
  refine zx_aload_n rfl rfl rfl ?_
  replace hF := zbnd hF
  obtain ⟨x7, e8, hF⟩ := hF
  refine zy_getR rfl rfl e8 ?_
  replace hF := zbnd hF
  obtain ⟨a9, rfl, hF⟩ := hF
  replace hF := zbnd hF
  obtain ⟨x10, e11, hF⟩ := hF
  refine zy_getR rfl rfl e11 ?_
  replace hF := zbnd hF
  obtain ⟨a12, rfl, hF⟩ := hF
  replace hF := zgd_some hF
  obtain ⟨g13, hF⟩ := hF
  replace hF := zbnd hF
  obtain ⟨p15, e14, hF⟩ := hF
  refine zx_callE rfl rfl rfl rfl (zrcv_isO g13) rfl rfl (zc4 (Nat.le_of_ble_eq_true rfl)) (t68 (by omega) e14 (zaI ?_))
  replace hF := zbnd hF
  obtain ⟨p17, e16, hF⟩ := hF
  refine zx_callF rfl rfl rfl rfl rfl rfl rfl (zc4 (Nat.le_of_ble_eq_true rfl)) (t108 (by omega) e16 (zaV ?_))
  refine zx_astore_n rfl rfl rfl ?_
  refine zx_aload_n rfl rfl rfl ?_
  replace hF := zbnd hF
  obtain ⟨x18, e19, hF⟩ := hF
  refine zy_getR rfl rfl e19 ?_
  replace hF := zbnd hF
  obtain ⟨a20, rfl, hF⟩ := hF
  replace hF := zbnd hF
  obtain ⟨x21, e22, hF⟩ := hF
  refine zy_getR rfl rfl e22 ?_
  refine zy_rload_n rfl rfl rfl ?_
  replace hF := zbnd hF
  obtain ⟨a23, rfl, hF⟩ := hF
  replace hF := zgd_some hF
  obtain ⟨g24, hF⟩ := hF
  replace hF := zbnd hF
  obtain ⟨p26, e25, hF⟩ := hF
  refine zx_callE rfl rfl rfl rfl (zrcv_isO g24) (congrArg (List.cons _) ((zsl_rf _ _).trans (congrArg (List.cons _) rfl))) rfl (zc4 (Nat.le_of_ble_eq_true rfl)) (t86 (by omega) e25 (zaI ?_))
  refine zx_pop rfl rfl rfl ?_
  refine zx_aload_n rfl rfl rfl ?_
  replace hF := zbnd hF
  obtain ⟨x27, e28, hF⟩ := hF
  refine zy_getR rfl rfl e28 ?_
  replace hF := zbnd hF
  obtain ⟨a29, rfl, hF⟩ := hF
  replace hF := zbnd hF
  obtain ⟨x30, e31, hF⟩ := hF
  refine zy_getR rfl rfl e31 ?_
  refine zx_aload_n rfl rfl rfl ?_
  replace hF := zbnd hF
  obtain ⟨a32, rfl, hF⟩ := hF
  replace hF := zgd_some hF
  obtain ⟨g33, hF⟩ := hF
  replace hF := zbnd hF
  obtain ⟨p35, e34, hF⟩ := hF
  refine zx_callE rfl rfl rfl rfl (zrcv_isO g33) rfl rfl (zc4 (Nat.le_of_ble_eq_true rfl)) (t86 (by omega) e34 (zaI ?_))
  refine zx_pop rfl rfl rfl ?_
  refine zx_iconst (v := 0) rfl rfl rfl ?_
  refine zx_istore rfl rfl rfl ?_
  exact tf107_117 hd  n (l0 := l0) (l1 := l1) (l2 := l2) (l3 := h4.1.length) (l4 := 0) hx5 hx6 hx7 hx8 hF q
def f107 (n : Nat)  (y0 : Nat) (h : zH) : Option ((Unit ⊕ Nat) × zH) :=
  (gR h y0 5 0).bind fun x1 =>
  x1.bind fun a3 =>
  (gR h a3 4 5).bind fun x4 =>
  x4.bind fun a6 =>
  zgd (isO h a6 14) <|
  (f68 n a6 h).bind fun p9 =>
  zgd (isO p9.2 y0 5) <|
  (f69 n y0 p9.1 8 p9.2).bind fun p15 => zth p15 (fun r12 h13 =>
    (gR h13 y0 5 0).bind fun x16 =>
    x16.bind fun a18 =>
    (gR h13 a18 4 2).bind fun x19 =>
    zgd (isO h13 y0 5) <|
    (f72 n y0 x19 h13).bind fun p26 => zth p26 (fun r23 h24 =>
      (gR h24 y0 5 3).bind fun x27 =>
      x27.bind fun a29 =>
      (gR h24 a29 9 0).bind fun x30 =>
      (rEq x30 (some 24)).bind fun b32 =>
      if b32 = true then
        zgd (isO h24 y0 5) <|
        (f71 n y0 (some 24) h24).bind fun p40 => zth p40 (fun r37 h38 =>
          (gR h38 y0 5 0).bind fun x41 =>
          x41.bind fun a43 =>
          (gR h38 a43 4 2).bind fun x44 =>
          zgd (isO h38 y0 5) <|
          (f81 n y0 x44 h38).bind fun p51 => zth p51 (fun r48 h49 =>
            b107_63 n  y0 r23 r48 h49)
            (fun x50 h49 =>
            zgd (exOk x50) <| some (.inr x50, h49)))
          (fun x39 h38 =>
          zgd (exOk x39) <| some (.inr x39, h38))
      else
        b107_63 n  y0 r23 (-1) h24)
      (fun x25 h24 =>
      zgd (exOk x25) <| some (.inr x25, h24)))
    (fun x14 h13 =>
    zgd (exOk x14) <| some (.inr x14, h13))
set_option maxRecDepth 20000 in
theorem t107 {d n : Nat} {Q : zRs → zH → Prop}  {y0 : Nat} (hd : 70 ≤ d)  {h : zH} {p : ((Unit ⊕ Nat) × zH)} (hF : f107 n  y0 h = some p) (q : Q (eVx p.1) p.2) : zC d 107 [.ref y0] h Q := by
  refine zC_of (L := [some (.ref y0), none, none, none, none, none, none, none, none]) rfl rfl ?_
  unfold f107 at hF
  obtain ⟨d, rfl⟩ : ∃ e, d = e + 1 := ⟨d - 1, by omega⟩
  refine zx_aload_n rfl rfl rfl ?_
  refine zx_aload_n rfl rfl rfl ?_
  replace hF := zbnd hF
  obtain ⟨x1, e2, hF⟩ := hF
  refine zy_getR rfl rfl e2 ?_
  replace hF := zbnd hF
  obtain ⟨a3, rfl, hF⟩ := hF
  replace hF := zbnd hF
  obtain ⟨x4, e5, hF⟩ := hF
  refine zy_getR rfl rfl e5 ?_
  replace hF := zbnd hF
  obtain ⟨a6, rfl, hF⟩ := hF
  replace hF := zgd_some hF
  obtain ⟨g7, hF⟩ := hF
  replace hF := zbnd hF
  obtain ⟨p9, e8, hF⟩ := hF
  refine zx_callE rfl rfl rfl rfl (zrcv_isO g7) rfl rfl (zc4 (Nat.le_of_ble_eq_true rfl)) (t68 (by omega) e8 (zaI ?_))
  refine zx_bipush (v := 8) rfl rfl rfl ?_
  replace hF := zgd_some hF
  obtain ⟨g10, hF⟩ := hF
  replace hF := zbnd hF
  obtain ⟨⟨r12, h13⟩, e11, hF⟩ := hF
  refine zx_callE rfl rfl rfl rfl (zrcv_isO g10) rfl rfl (zc4 (Nat.le_of_ble_eq_true rfl)) (t69 (by omega) e11 ?_)
  rcases r12 with r12 | x14
  rotate_left 1
  · replace hF := zthH hF
    replace hF := zgd_some hF
    obtain ⟨gx, hF⟩ := hF
    replace hF := Option.some.inj hF
    subst hF
    exact zaX rfl gx q
  replace hF := zthG hF
  refine zaV (x := ()) ?_
  refine zx_aload_n rfl rfl rfl ?_
  refine zx_aload_n rfl rfl rfl ?_
  replace hF := zbnd hF
  obtain ⟨x16, e17, hF⟩ := hF
  refine zy_getR rfl rfl e17 ?_
  replace hF := zbnd hF
  obtain ⟨a18, rfl, hF⟩ := hF
  replace hF := zbnd hF
  obtain ⟨x19, e20, hF⟩ := hF
  refine zy_getR rfl rfl e20 ?_
  replace hF := zgd_some hF
  obtain ⟨g21, hF⟩ := hF
  replace hF := zbnd hF
  obtain ⟨⟨r23, h24⟩, e22, hF⟩ := hF
  refine zx_callE rfl rfl rfl rfl (zrcv_isO g21) (congrArg (List.cons _) ((zsl_rf _ _).trans (congrArg (List.cons _) rfl))) rfl (zc4 (Nat.le_of_ble_eq_true rfl)) (t72 (by omega) e22 ?_)
  rcases r23 with r23 | x25
  rotate_left 1
  · replace hF := zthH hF
    replace hF := zgd_some hF
    obtain ⟨gx, hF⟩ := hF
    replace hF := Option.some.inj hF
    subst hF
    exact zaX rfl gx q
  replace hF := zthG hF
  refine zaA ?_
  refine zy_rstore_n rfl rfl rfl ?_
  refine zx_iconst (v := (-1)) rfl rfl rfl ?_
  refine zx_istore_n rfl rfl (zput_ok (L' := [some (.ref y0), some (va_rf r23), some (.int (-1)), none, none, none, none, none, none]) rfl (zcl_X (j := 1) rfl (zn2_rf _)) rfl) ?_
  refine zx_aload_n rfl rfl rfl ?_
  replace hF := zbnd hF
  obtain ⟨x27, e28, hF⟩ := hF
  refine zy_getR rfl rfl e28 ?_
  replace hF := zbnd hF
  obtain ⟨a29, rfl, hF⟩ := hF
  replace hF := zbnd hF
  obtain ⟨x30, e31, hF⟩ := hF
  refine zy_getR rfl rfl e31 ?_
  refine zx_gets rfl rfl rfl ?_
  replace hF := zbnd hF
  obtain ⟨b32, e33, hF⟩ := hF
  refine zy_ane rfl rfl e33 (fun c34 => ?_) (fun c34 => ?_)
  · rw [if_neg (by rw [c34]; exact Bool.false_ne_true)] at hF
    exact tb107_63 (l0 := y0) (l1 := r23) (l2 := (-1)) hd  rfl rfl rfl rfl rfl rfl hF q
  · rw [if_pos c34] at hF
    refine zx_aload_n rfl rfl rfl ?_
    refine zx_gets rfl rfl rfl ?_
    replace hF := zgd_some hF
    obtain ⟨g35, hF⟩ := hF
    replace hF := zbnd hF
    obtain ⟨⟨r37, h38⟩, e36, hF⟩ := hF
    refine zx_callE rfl rfl rfl rfl (zrcv_isO g35) rfl rfl (zc4 (Nat.le_of_ble_eq_true rfl)) (t71 (by omega) e36 ?_)
    rcases r37 with r37 | x39
    rotate_left 1
    · replace hF := zthH hF
      replace hF := zgd_some hF
      obtain ⟨gx, hF⟩ := hF
      replace hF := Option.some.inj hF
      subst hF
      exact zaX rfl gx q
    replace hF := zthG hF
    refine zaA ?_
    refine zx_pop rfl rfl (zc1_rf _) ?_
    refine zx_aload_n rfl rfl rfl ?_
    refine zx_aload_n rfl rfl rfl ?_
    replace hF := zbnd hF
    obtain ⟨x41, e42, hF⟩ := hF
    refine zy_getR rfl rfl e42 ?_
    replace hF := zbnd hF
    obtain ⟨a43, rfl, hF⟩ := hF
    replace hF := zbnd hF
    obtain ⟨x44, e45, hF⟩ := hF
    refine zy_getR rfl rfl e45 ?_
    replace hF := zgd_some hF
    obtain ⟨g46, hF⟩ := hF
    replace hF := zbnd hF
    obtain ⟨⟨r48, h49⟩, e47, hF⟩ := hF
    refine zx_callE rfl rfl rfl rfl (zrcv_isO g46) (congrArg (List.cons _) ((zsl_rf _ _).trans (congrArg (List.cons _) rfl))) rfl (zc4 (Nat.le_of_ble_eq_true rfl)) (t81 (by omega) e47 ?_)
    rcases r48 with r48 | x50
    rotate_left 1
    · replace hF := zthH hF
      replace hF := zgd_some hF
      obtain ⟨gx, hF⟩ := hF
      replace hF := Option.some.inj hF
      subst hF
      exact zaX rfl gx q
    replace hF := zthG hF
    refine zaI ?_
    refine zx_istore_n rfl rfl (zput_ok (L' := [some (.ref y0), some (va_rf r23), some (.int r48), none, none, none, none, none, none]) rfl (zcl_X (j := 1) rfl (zn2_rf _)) rfl) ?_
    exact tb107_63 (l0 := y0) (l1 := r23) (l2 := r48) hd  rfl rfl rfl rfl rfl rfl hF q
def f112 (n : Nat)  (y0 : Nat) (h : zH) : Option (Int32 × zH) :=
  (gR h y0 0 2).bind fun x1 =>
  x1.bind fun a3 =>
  zgd (isO h a3 14) <|
  (f68 n a3 h).bind fun p6 =>
  (f43 n p6.1 4 p6.2).bind fun p8 =>
  some (p8.1, p8.2)
set_option maxRecDepth 20000 in
theorem t112 {d n : Nat} {Q : zRs → zH → Prop}  {y0 : Nat} (hd : 1 ≤ d)  {h : zH} {p : (Int32 × zH)} (hF : f112 n  y0 h = some p) (q : Q (eI p.1) p.2) : zC d 112 [.ref y0] h Q := by
  refine zC_of (L := [some (.ref y0)]) rfl rfl ?_
  unfold f112 at hF
  obtain ⟨d, rfl⟩ : ∃ e, d = e + 1 := ⟨d - 1, by omega⟩
  refine zx_aload_n rfl rfl rfl ?_
  replace hF := zbnd hF
  obtain ⟨x1, e2, hF⟩ := hF
  refine zy_getR rfl rfl e2 ?_
  replace hF := zbnd hF
  obtain ⟨a3, rfl, hF⟩ := hF
  replace hF := zgd_some hF
  obtain ⟨g4, hF⟩ := hF
  replace hF := zbnd hF
  obtain ⟨p6, e5, hF⟩ := hF
  refine zx_callE rfl rfl rfl rfl (zrcv_isO g4) rfl rfl (zc4 (Nat.le_of_ble_eq_true rfl)) (t68 (by omega) e5 (zaI ?_))
  refine zx_iconst (v := 4) rfl rfl rfl ?_
  replace hF := zbnd hF
  obtain ⟨p8, e7, hF⟩ := hF
  refine zx_callE rfl rfl rfl rfl rfl rfl rfl (zc4 (Nat.le_of_ble_eq_true rfl)) (t43 (by omega) e7 (zaI ?_))
  replace hF := Option.some.inj hF
  subst hF
  exact zx_bret rfl rfl rfl rfl q
def b113_92 (n : Nat)   (l0 : Nat) (l1 : Int32) (l2 : Option Nat) (l3 : Int32) (l4 : Option Nat) (l5 : Option Nat) (l6 : Int32) (h : zH) : Option ((Unit ⊕ Nat) × zH) :=
  l2.bind fun a1 =>
  (gR h a1 0 4).bind fun x2 =>
  x2.bind fun a4 =>
  (aS zsI h a4 l3 (.int l6)).bind fun h5 =>
  (gR h5 a1 0 5).bind fun x7 =>
  (gR h5 l0 5 0).bind fun x9 =>
  x9.bind fun a11 =>
  (gR h5 a11 4 4).bind fun x12 =>
  x12.bind fun a14 =>
  zgd (isO h5 a14 14) <|
  (f74 n a14 l6 h5).bind fun p17 =>
  zgd (kC p17.2 p17.1 0 0) <|
  p17.1.bind fun a19 =>
  zgd (isO p17.2 a19 0) <|
  (f101 n a19 l5 p17.2).bind fun p23 =>
  x7.bind fun a24 =>
  (aS zsI p23.2 a24 l3 (.int p23.1)).bind fun h25 =>
  some (.inl (), h25)
set_option maxRecDepth 20000 in
theorem tb113_92 {d n : Nat} {Q : zRs → zH → Prop}   {l0 : Nat} {l1 : Int32} {l2 : Option Nat} {l3 : Int32} {l4 : Option Nat} {l5 : Option Nat} {l6 : Int32}   (hd : 5 ≤ d)   {h : zH} {p : ((Unit ⊕ Nat) × zH)}  (hF : b113_92 n   l0 l1 l2 l3 l4 l5 l6 h = some p) (q : Q (eVx p.1) p.2) : zW d 113 92 [some (.ref l0), some (.int l1), some (va_rf l2), some (.int l3), some (va_rf l4), some (va_rf l5), some (.int l6)] [] h Q := by
  unfold b113_92 at hF
  obtain ⟨d, rfl⟩ : ∃ e, d = e + 1 := ⟨d - 1, by omega⟩
  refine zy_rload_n rfl rfl rfl ?_
  replace hF := zbnd hF
  obtain ⟨a1, rfl, hF⟩ := hF
  replace hF := zbnd hF
  obtain ⟨x2, e3, hF⟩ := hF
  refine zy_getR rfl rfl e3 ?_
  refine zx_iload_n rfl rfl rfl ?_
  refine zx_iload rfl rfl rfl ?_
  replace hF := zbnd hF
  obtain ⟨a4, rfl, hF⟩ := hF
  replace hF := zbnd hF
  obtain ⟨h5, e6, hF⟩ := hF
  refine zy_sI rfl rfl e6 ?_
  refine zx_aload_n rfl rfl rfl ?_
  replace hF := zbnd hF
  obtain ⟨x7, e8, hF⟩ := hF
  refine zy_getR rfl rfl e8 ?_
  refine zx_iload_n rfl rfl rfl ?_
  refine zx_aload_n rfl rfl rfl ?_
  replace hF := zbnd hF
  obtain ⟨x9, e10, hF⟩ := hF
  refine zy_getR rfl rfl e10 ?_
  replace hF := zbnd hF
  obtain ⟨a11, rfl, hF⟩ := hF
  replace hF := zbnd hF
  obtain ⟨x12, e13, hF⟩ := hF
  refine zy_getR rfl rfl e13 ?_
  refine zx_iload rfl rfl rfl ?_
  replace hF := zbnd hF
  obtain ⟨a14, rfl, hF⟩ := hF
  replace hF := zgd_some hF
  obtain ⟨g15, hF⟩ := hF
  replace hF := zbnd hF
  obtain ⟨p17, e16, hF⟩ := hF
  refine zx_callE rfl rfl rfl rfl (zrcv_isO g15) rfl rfl (zc4 (Nat.le_of_ble_eq_true rfl)) (t74 (by omega) e16 (zaA ?_))
  replace hF := zgd_some hF
  obtain ⟨g18, hF⟩ := hF
  refine zy_cast (r := p17.1) rfl rfl g18 ?_
  refine zy_rload rfl rfl rfl ?_
  replace hF := zbnd hF
  obtain ⟨a19, e20, hF⟩ := hF
  rw [e20]
  replace hF := zgd_some hF
  obtain ⟨g21, hF⟩ := hF
  replace hF := zbnd hF
  obtain ⟨p23, e22, hF⟩ := hF
  refine zx_callE rfl rfl rfl rfl (zrcv_isO g21) (congrArg (List.cons _) ((zsl_rf _ _).trans (congrArg (List.cons _) rfl))) rfl (zc4 (Nat.le_of_ble_eq_true rfl)) (t101 (by omega) e22 (zaI ?_))
  replace hF := zbnd hF
  obtain ⟨a24, rfl, hF⟩ := hF
  replace hF := zbnd hF
  obtain ⟨h25, e26, hF⟩ := hF
  refine zy_sI rfl rfl e26 ?_
  replace hF := Option.some.inj hF
  subst hF
  exact zx_return rfl rfl rfl q
def b113_62 (n : Nat)   (l0 : Nat) (l1 : Int32) (l2 : Option Nat) (l3 : Int32) (l4 : Option Nat) (l5 : Option Nat) (l6 : Int32) (h : zH) : Option ((Unit ⊕ Nat) × zH) :=
  (gR h l0 5 0).bind fun x1 =>
  x1.bind fun a3 =>
  (gR h a3 4 4).bind fun x4 =>
  x4.bind fun a6 =>
  zgd (isO h a6 14) <|
  (f74 n a6 l6 h).bind fun p9 =>
  zgd (kC p9.2 p9.1 0 0) <|
  p9.1.bind fun a11 =>
  zgd (isO p9.2 a11 0) <|
  (f100 n a11 l5 p9.2).bind fun p15 =>
  if p15.1 = 0 then
    zgd (isO p15.2 l0 5) <|
    (f70 n l0 2 l5 p15.2).bind fun p22 => zth p22 (fun r19 h20 =>
      b113_92 n  l0 l1 l2 l3 l4 l5 l6 h20)
      (fun x21 h20 =>
      zgd (exOk x21) <| some (.inr x21, h20))
  else
    b113_92 n  l0 l1 l2 l3 l4 l5 l6 p15.2
set_option maxRecDepth 20000 in
theorem tb113_62 {d n : Nat} {Q : zRs → zH → Prop}   {l0 : Nat} {l1 : Int32} {l2 : Option Nat} {l3 : Int32} {l4 : Option Nat} {l5 : Option Nat} {l6 : Int32}   (hd : 5 ≤ d)   {h : zH} {p : ((Unit ⊕ Nat) × zH)}  (hF : b113_62 n   l0 l1 l2 l3 l4 l5 l6 h = some p) (q : Q (eVx p.1) p.2) : zW d 113 62 [some (.ref l0), some (.int l1), some (va_rf l2), some (.int l3), some (va_rf l4), some (va_rf l5), some (.int l6)] [] h Q := by
  unfold b113_62 at hF
  obtain ⟨d, rfl⟩ : ∃ e, d = e + 1 := ⟨d - 1, by omega⟩
  refine zx_aload_n rfl rfl rfl ?_
  replace hF := zbnd hF
  obtain ⟨x1, e2, hF⟩ := hF
  refine zy_getR rfl rfl e2 ?_
  replace hF := zbnd hF
  obtain ⟨a3, rfl, hF⟩ := hF
  replace hF := zbnd hF
  obtain ⟨x4, e5, hF⟩ := hF
  refine zy_getR rfl rfl e5 ?_
  refine zx_iload rfl rfl rfl ?_
  replace hF := zbnd hF
  obtain ⟨a6, rfl, hF⟩ := hF
  replace hF := zgd_some hF
  obtain ⟨g7, hF⟩ := hF
  replace hF := zbnd hF
  obtain ⟨p9, e8, hF⟩ := hF
  refine zx_callE rfl rfl rfl rfl (zrcv_isO g7) rfl rfl (zc4 (Nat.le_of_ble_eq_true rfl)) (t74 (by omega) e8 (zaA ?_))
  replace hF := zgd_some hF
  obtain ⟨g10, hF⟩ := hF
  refine zy_cast (r := p9.1) rfl rfl g10 ?_
  refine zy_rload rfl rfl rfl ?_
  replace hF := zbnd hF
  obtain ⟨a11, e12, hF⟩ := hF
  rw [e12]
  replace hF := zgd_some hF
  obtain ⟨g13, hF⟩ := hF
  replace hF := zbnd hF
  obtain ⟨p15, e14, hF⟩ := hF
  refine zx_callE rfl rfl rfl rfl (zrcv_isO g13) (congrArg (List.cons _) ((zsl_rf _ _).trans (congrArg (List.cons _) rfl))) rfl (zc4 (Nat.le_of_ble_eq_true rfl)) (t100 (by omega) e14 (zaI ?_))
  refine zx_if_ne rfl rfl (fun c16 => ?_) (fun c16 => ?_)
  · rw [if_neg c16] at hF
    exact tb113_92 (l0 := l0) (l1 := l1) (l2 := l2) (l3 := l3) (l4 := l4) (l5 := l5) (l6 := l6) hd   hF q
  · rw [if_pos c16] at hF
    refine zx_aload_n rfl rfl rfl ?_
    refine zx_iconst (v := 2) rfl rfl rfl ?_
    refine zy_rload rfl rfl rfl ?_
    replace hF := zgd_some hF
    obtain ⟨g17, hF⟩ := hF
    replace hF := zbnd hF
    obtain ⟨⟨r19, h20⟩, e18, hF⟩ := hF
    refine zx_callE rfl rfl rfl rfl (zrcv_isO g17) (congrArg (List.cons _) (congrArg (List.cons _) ((zsl_rf _ _).trans (congrArg (List.cons _) rfl)))) rfl (zc4 (Nat.le_of_ble_eq_true rfl)) (t70 (by omega) e18 ?_)
    rcases r19 with r19 | x21
    rotate_left 1
    · replace hF := zthH hF
      replace hF := zgd_some hF
      obtain ⟨gx, hF⟩ := hF
      replace hF := Option.some.inj hF
      subst hF
      exact zaX rfl gx q
    replace hF := zthG hF
    refine zaV (x := ()) ?_
    exact tb113_92 (l0 := l0) (l1 := l1) (l2 := l2) (l3 := l3) (l4 := l4) (l5 := l5) (l6 := l6) hd   hF q
def b113_55 (n : Nat)   (l0 : Nat) (l1 : Int32) (l2 : Option Nat) (l3 : Int32) (l4 : Option Nat) (l5 : Option Nat) (l6 : Int32) (h : zH) : Option ((Unit ⊕ Nat) × zH) :=
  zgd (isO h l0 5) <|
  (f70 n l0 3 l4 h).bind fun p6 => zth p6 (fun r3 h4 =>
    b113_62 n  l0 l1 l2 l3 l4 l5 l6 h4)
    (fun x5 h4 =>
    zgd (exOk x5) <| some (.inr x5, h4))
set_option maxRecDepth 20000 in
theorem tb113_55 {d n : Nat} {Q : zRs → zH → Prop}   {l0 : Nat} {l1 : Int32} {l2 : Option Nat} {l3 : Int32} {l4 : Option Nat} {l5 : Option Nat} {l6 : Int32}   (hd : 5 ≤ d)   {h : zH} {p : ((Unit ⊕ Nat) × zH)}  (hF : b113_55 n   l0 l1 l2 l3 l4 l5 l6 h = some p) (q : Q (eVx p.1) p.2) : zW d 113 55 [some (.ref l0), some (.int l1), some (va_rf l2), some (.int l3), some (va_rf l4), some (va_rf l5), some (.int l6)] [] h Q := by
  unfold b113_55 at hF
  obtain ⟨d, rfl⟩ : ∃ e, d = e + 1 := ⟨d - 1, by omega⟩
  refine zx_aload_n rfl rfl rfl ?_
  refine zx_iconst (v := 3) rfl rfl rfl ?_
  refine zy_rload rfl rfl rfl ?_
  replace hF := zgd_some hF
  obtain ⟨g1, hF⟩ := hF
  replace hF := zbnd hF
  obtain ⟨⟨r3, h4⟩, e2, hF⟩ := hF
  refine zx_callE rfl rfl rfl rfl (zrcv_isO g1) (congrArg (List.cons _) (congrArg (List.cons _) ((zsl_rf _ _).trans (congrArg (List.cons _) rfl)))) rfl (zc4 (Nat.le_of_ble_eq_true rfl)) (t70 (by omega) e2 ?_)
  rcases r3 with r3 | x5
  rotate_left 1
  · replace hF := zthH hF
    replace hF := zgd_some hF
    obtain ⟨gx, hF⟩ := hF
    replace hF := Option.some.inj hF
    subst hF
    exact zaX rfl gx q
  replace hF := zthG hF
  refine zaV (x := ()) ?_
  exact tb113_62 (l0 := l0) (l1 := l1) (l2 := l2) (l3 := l3) (l4 := l4) (l5 := l5) (l6 := l6) hd   hF q
def f113 (n : Nat)  (y0 : Nat) (y1 : Int32) (y2 : Option Nat) (y3 : Int32) (h : zH) : Option ((Unit ⊕ Nat) × zH) :=
  y2.bind fun a1 =>
  (gR h a1 0 2).bind fun x2 =>
  x2.bind fun a4 =>
  zgd (isO h a4 14) <|
  (f74 n a4 y3 h).bind fun p7 =>
  zgd (kC p7.2 p7.1 9 0) <|
  (gR p7.2 a1 0 3).bind fun x9 =>
  x9.bind fun a11 =>
  zgd (isO p7.2 a11 14) <|
  (f74 n a11 y3 p7.2).bind fun p14 =>
  zgd (kC p14.2 p14.1 9 0) <|
  (gR p14.2 y0 5 0).bind fun x16 =>
  x16.bind fun a18 =>
  (gR p14.2 a18 4 1).bind fun x19 =>
  p7.1.bind fun a21 =>
  (gR p14.2 a21 9 3).bind fun x23 =>
  (f73 n x19 x23 p14.2).bind fun p26 =>
  if p26.1 = (-1) then
    b113_55 n  y0 y1 (some a1) y3 (some a21) p14.1 p26.1 p26.2
  else
    if p26.1 = y1 then
      b113_55 n  y0 y1 (some a1) y3 (some a21) p14.1 p26.1 p26.2
    else
      b113_62 n  y0 y1 (some a1) y3 (some a21) p14.1 p26.1 p26.2
set_option maxRecDepth 20000 in
theorem t113 {d n : Nat} {Q : zRs → zH → Prop}  {y0 : Nat} {y1 : Int32} {y2 : Option Nat} {y3 : Int32} (hd : 5 ≤ d)  {h : zH} {p : ((Unit ⊕ Nat) × zH)} (hF : f113 n  y0 y1 y2 y3 h = some p) (q : Q (eVx p.1) p.2) : zC d 113 [.ref y0, .int y1, va_rf y2, .int y3] h Q := by
  refine zC_of (L := [some (.ref y0), some (.int y1), some (va_rf y2), some (.int y3), none, none, none]) (congrArg (List.cons _) (congrArg (List.cons _) ((zsl_rf _ _).trans (congrArg (List.cons _) rfl)))) rfl ?_
  unfold f113 at hF
  obtain ⟨d, rfl⟩ : ∃ e, d = e + 1 := ⟨d - 1, by omega⟩
  refine zy_rload_n rfl rfl rfl ?_
  replace hF := zbnd hF
  obtain ⟨a1, rfl, hF⟩ := hF
  replace hF := zbnd hF
  obtain ⟨x2, e3, hF⟩ := hF
  refine zy_getR rfl rfl e3 ?_
  refine zx_iload_n rfl rfl rfl ?_
  replace hF := zbnd hF
  obtain ⟨a4, rfl, hF⟩ := hF
  replace hF := zgd_some hF
  obtain ⟨g5, hF⟩ := hF
  replace hF := zbnd hF
  obtain ⟨p7, e6, hF⟩ := hF
  refine zx_callE rfl rfl rfl rfl (zrcv_isO g5) rfl rfl (zc4 (Nat.le_of_ble_eq_true rfl)) (t74 (by omega) e6 (zaA ?_))
  replace hF := zgd_some hF
  obtain ⟨g8, hF⟩ := hF
  refine zy_cast (r := p7.1) rfl rfl g8 ?_
  refine zy_rstore rfl rfl rfl ?_
  refine zx_aload_n rfl rfl rfl ?_
  replace hF := zbnd hF
  obtain ⟨x9, e10, hF⟩ := hF
  refine zy_getR rfl rfl e10 ?_
  refine zx_iload_n rfl rfl rfl ?_
  replace hF := zbnd hF
  obtain ⟨a11, rfl, hF⟩ := hF
  replace hF := zgd_some hF
  obtain ⟨g12, hF⟩ := hF
  replace hF := zbnd hF
  obtain ⟨p14, e13, hF⟩ := hF
  refine zx_callE rfl rfl rfl rfl (zrcv_isO g12) rfl rfl (zc4 (Nat.le_of_ble_eq_true rfl)) (t74 (by omega) e13 (zaA ?_))
  replace hF := zgd_some hF
  obtain ⟨g15, hF⟩ := hF
  refine zy_cast (r := p14.1) rfl rfl g15 ?_
  refine zy_rstore rfl rfl (zput_ok (L' := [some (.ref y0), some (.int y1), some (.ref a1), some (.int y3), some (va_rf p7.1), some (va_rf p14.1), none]) rfl (zcl_X (j := 4) rfl (zn2_rf _)) rfl) ?_
  refine zx_aload_n rfl rfl rfl ?_
  replace hF := zbnd hF
  obtain ⟨x16, e17, hF⟩ := hF
  refine zy_getR rfl rfl e17 ?_
  replace hF := zbnd hF
  obtain ⟨a18, rfl, hF⟩ := hF
  replace hF := zbnd hF
  obtain ⟨x19, e20, hF⟩ := hF
  refine zy_getR rfl rfl e20 ?_
  refine zy_rload rfl rfl rfl ?_
  replace hF := zbnd hF
  obtain ⟨a21, e22, hF⟩ := hF
  rw [e22]
  replace hF := zbnd hF
  obtain ⟨x23, e24, hF⟩ := hF
  refine zy_getR rfl rfl e24 ?_
  replace hF := zbnd hF
  obtain ⟨p26, e25, hF⟩ := hF
  refine zx_callF rfl rfl rfl rfl rfl ((zsl_rf _ _).trans (congrArg (List.cons _) ((zsl_rf _ _).trans (congrArg (List.cons _) rfl)))) rfl (zc4 (Nat.le_of_ble_eq_true rfl)) (t73 (by omega) e25 (zaI ?_))
  refine zx_istore rfl rfl (zput_ok (L' := [some (.ref y0), some (.int y1), some (.ref a1), some (.int y3), some (.ref a21), some (va_rf p14.1), some (.int p26.1)]) rfl (zcl_X (j := 5) rfl (zn2_rf _)) rfl) ?_
  refine zx_iload rfl rfl rfl ?_
  refine zx_iconst (v := (-1)) rfl rfl rfl ?_
  refine zx_ic_eq rfl rfl (fun c27 => ?_) (fun c27 => ?_)
  · rw [if_pos c27] at hF
    exact tb113_55 (l0 := y0) (l1 := y1) (l2 := (some a1)) (l3 := y3) (l4 := (some a21)) (l5 := p14.1) (l6 := p26.1) hd   hF q
  · rw [if_neg c27] at hF
    refine zx_iload rfl rfl rfl ?_
    refine zx_iload_n rfl rfl rfl ?_
    refine zx_ic_ne rfl rfl (fun c28 => ?_) (fun c28 => ?_)
    · rw [if_neg c28] at hF
      exact tb113_62 (l0 := y0) (l1 := y1) (l2 := (some a1)) (l3 := y3) (l4 := (some a21)) (l5 := p14.1) (l6 := p26.1) hd   hF q
    · rw [if_pos c28] at hF
      exact tb113_55 (l0 := y0) (l1 := y1) (l2 := (some a1)) (l3 := y3) (l4 := (some a21)) (l5 := p14.1) (l6 := p26.1) hd   hF q
end ZDEC

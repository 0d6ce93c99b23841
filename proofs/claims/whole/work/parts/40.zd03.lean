/-! THE PROGRAM AS FUNCTIONS, 3 (written by a program of the verifier's) -/
section ZDEC
def b111_33 (n : Nat)  (r2 : Nat → Int32 → zH → Option ((Unit ⊕ Nat) × zH)) (r33 : Nat → Int32 → Option Nat → Int32 → zH → Option ((Unit ⊕ Nat) × zH)) (l0 : Nat) (l1 : Int32) (l2 : Option Nat) (l3 : Int32) (h : zH) : Option ((Unit ⊕ Nat) × zH) :=
  l2.bind fun a1 =>
  zgd (isO h a1 0) <|
  (f112 n a1 h).bind fun p4 =>
  if p4.1 ≤ l3 then
    r2 l0 (l1 + 1) p4.2
  else
    zgd (isO p4.2 l0 5) <|
    (f113 n l0 l1 (some a1) l3 p4.2).bind fun p11 => zth p11 (fun r8 h9 =>
      r33 l0 l1 (some a1) (l3 + 1) h9)
      (fun x10 h9 =>
      zgd (exOk x10) <| some (.inr x10, h9))
set_option maxRecDepth 20000 in
theorem tb111_33 {d n : Nat} {Q : zRs → zH → Prop}  {r2 : Nat → Int32 → zH → Option ((Unit ⊕ Nat) × zH)} {r33 : Nat → Int32 → Option Nat → Int32 → zH → Option ((Unit ⊕ Nat) × zH)} {l0 : Nat} {l1 : Int32} {l2 : Option Nat} {l3 : Int32}   (hd : 6 ≤ d)  (hr2 : ∀ {l0 : Nat} {l1 : Int32}  {x2 : Option Value} {x3 : Option Value} {h : zH} {p : ((Unit ⊕ Nat) × zH)}, zn2 x2 = true → zn2 x3 = true → r2 l0 l1 h = some p → Q (eVx p.1) p.2 → zW d 111 2 [some (.ref l0), some (.int l1), x2, x3] [] h Q) (hr33 : ∀ {l0 : Nat} {l1 : Int32} {l2 : Option Nat} {l3 : Int32}   {h : zH} {p : ((Unit ⊕ Nat) × zH)}, r33 l0 l1 l2 l3 h = some p → Q (eVx p.1) p.2 → zW d 111 33 [some (.ref l0), some (.int l1), some (va_rf l2), some (.int l3)] [] h Q) {h : zH} {p : ((Unit ⊕ Nat) × zH)}  (hF : b111_33 n  r2 r33 l0 l1 l2 l3 h = some p) (q : Q (eVx p.1) p.2) : zW d 111 33 [some (.ref l0), some (.int l1), some (va_rf l2), some (.int l3)] [] h Q := by
  unfold b111_33 at hF
  obtain ⟨d, rfl⟩ : ∃ e, d = e + 1 := ⟨d - 1, by omega⟩
  refine zx_iload_n rfl rfl rfl ?_
  refine zy_rload_n rfl rfl rfl ?_
  replace hF := zbnd hF
  obtain ⟨a1, rfl, hF⟩ := hF
  replace hF := zgd_some hF
  obtain ⟨g2, hF⟩ := hF
  replace hF := zbnd hF
  obtain ⟨p4, e3, hF⟩ := hF
  refine zx_callE rfl rfl rfl rfl (zrcv_isO g2) rfl rfl (zc4 (Nat.le_of_ble_eq_true rfl)) (t112 (by omega) e3 (zaI ?_))
  refine zx_ic_ge rfl rfl (fun c5 => ?_) (fun c5 => ?_)
  · rw [if_pos c5] at hF
    refine zx_iinc (w := 1) rfl rfl rfl rfl rfl ?_
    refine zx_goto rfl rfl ?_
    exact hr2 rfl rfl hF q
  · rw [if_neg c5] at hF
    refine zx_aload_n rfl rfl rfl ?_
    refine zx_iload_n rfl rfl rfl ?_
    refine zx_aload_n rfl rfl rfl ?_
    refine zx_iload_n rfl rfl rfl ?_
    replace hF := zgd_some hF
    obtain ⟨g6, hF⟩ := hF
    replace hF := zbnd hF
    obtain ⟨⟨r8, h9⟩, e7, hF⟩ := hF
    refine zx_callE rfl rfl rfl rfl (zrcv_isO g6) rfl rfl (zc4 (Nat.le_of_ble_eq_true rfl)) (t113 (by omega) e7 ?_)
    rcases r8 with r8 | x10
    rotate_left 1
    · replace hF := zthH hF
      replace hF := zgd_some hF
      obtain ⟨gx, hF⟩ := hF
      replace hF := Option.some.inj hF
      subst hF
      exact zaX rfl gx q
    replace hF := zthG hF
    refine zaV (x := ()) ?_
    refine zx_iinc (w := 1) rfl rfl rfl rfl rfl ?_
    refine zx_goto rfl rfl ?_
    exact hr33  hF q
def f111_33 (n : Nat)  (r2 : Nat → Int32 → zH → Option ((Unit ⊕ Nat) × zH)) (k : Nat) : Nat → Int32 → Option Nat → Int32 → zH → Option ((Unit ⊕ Nat) × zH) := Nat.rec (fun _ _ _ _ _ => none) (fun _ ih => b111_33 n  r2 ih) k
theorem tf111_33 {d n : Nat} {Q : zRs → zH → Prop}  {r2 : Nat → Int32 → zH → Option ((Unit ⊕ Nat) × zH)} (hd : 6 ≤ d)  (hr2 : ∀ {l0 : Nat} {l1 : Int32}  {x2 : Option Value} {x3 : Option Value} {h : zH} {p : ((Unit ⊕ Nat) × zH)}, zn2 x2 = true → zn2 x3 = true → r2 l0 l1 h = some p → Q (eVx p.1) p.2 → zW d 111 2 [some (.ref l0), some (.int l1), x2, x3] [] h Q) (k : Nat) : ∀ {l0 : Nat} {l1 : Int32} {l2 : Option Nat} {l3 : Int32}   {h : zH} {p : ((Unit ⊕ Nat) × zH)}, f111_33 n  r2 k l0 l1 l2 l3 h = some p → Q (eVx p.1) p.2 → zW d 111 33 [some (.ref l0), some (.int l1), some (va_rf l2), some (.int l3)] [] h Q := by
  induction k with
  | zero => intros; rename_i hF _; cases hF
  | succ k ih => intros; rename_i  hF q; exact tb111_33 (n := n) hd  hr2 ih  hF q
def b111_2 (n : Nat)  (r2 : Nat → Int32 → zH → Option ((Unit ⊕ Nat) × zH)) (l0 : Nat) (l1 : Int32) (h : zH) : Option ((Unit ⊕ Nat) × zH) :=
  (gR h l0 5 0).bind fun x1 =>
  x1.bind fun a3 =>
  (gR h a3 4 4).bind fun x4 =>
  x4.bind fun a6 =>
  zgd (isO h a6 14) <|
  (f68 n a6 h).bind fun p9 =>
  if p9.1 ≤ l1 then
    some (.inl (), p9.2)
  else
    (gR p9.2 l0 5 0).bind fun x11 =>
    x11.bind fun a13 =>
    (gR p9.2 a13 4 4).bind fun x14 =>
    x14.bind fun a16 =>
    zgd (isO p9.2 a16 14) <|
    (f74 n a16 l1 p9.2).bind fun p19 =>
    zgd (kC p19.2 p19.1 0 0) <|
    f111_33 n r2 n l0 l1 p19.1 0 p19.2
set_option maxRecDepth 20000 in
theorem tb111_2 {d n : Nat} {Q : zRs → zH → Prop}  {r2 : Nat → Int32 → zH → Option ((Unit ⊕ Nat) × zH)} {l0 : Nat} {l1 : Int32}  {x2 : Option Value} {x3 : Option Value} (hd : 6 ≤ d)  (hr2 : ∀ {l0 : Nat} {l1 : Int32}  {x2 : Option Value} {x3 : Option Value} {h : zH} {p : ((Unit ⊕ Nat) × zH)}, zn2 x2 = true → zn2 x3 = true → r2 l0 l1 h = some p → Q (eVx p.1) p.2 → zW d 111 2 [some (.ref l0), some (.int l1), x2, x3] [] h Q) {h : zH} {p : ((Unit ⊕ Nat) × zH)} (hx2 : zn2 x2 = true) (hx3 : zn2 x3 = true) (hF : b111_2 n  r2 l0 l1 h = some p) (q : Q (eVx p.1) p.2) : zW d 111 2 [some (.ref l0), some (.int l1), x2, x3] [] h Q := by
  unfold b111_2 at hF
  obtain ⟨d, rfl⟩ : ∃ e, d = e + 1 := ⟨d - 1, by omega⟩
  refine zx_iload_n rfl rfl rfl ?_
  refine zx_aload_n rfl rfl rfl ?_
  replace hF := zbnd hF
  obtain ⟨x1, e2, hF⟩ := hF
  refine zy_getR rfl rfl e2 ?_
  replace hF := zbnd hF
  obtain ⟨a3, rfl, hF⟩ := hF
  replace hF := zbnd hF
  obtain ⟨x4, e5, hF⟩ := hF
  refine zy_getR rfl rfl e5 ?_
  replace hF := zbnd hF
  obtain ⟨a6, rfl, hF⟩ := hF
  replace hF := zgd_some hF
  obtain ⟨g7, hF⟩ := hF
  replace hF := zbnd hF
  obtain ⟨p9, e8, hF⟩ := hF
  refine zx_callE rfl rfl rfl rfl (zrcv_isO g7) rfl rfl (zc4 (Nat.le_of_ble_eq_true rfl)) (t68 (by omega) e8 (zaI ?_))
  refine zx_ic_ge rfl rfl (fun c10 => ?_) (fun c10 => ?_)
  · rw [if_pos c10] at hF
    replace hF := Option.some.inj hF
    subst hF
    exact zx_return rfl rfl rfl q
  · rw [if_neg c10] at hF
    refine zx_aload_n rfl rfl rfl ?_
    replace hF := zbnd hF
    obtain ⟨x11, e12, hF⟩ := hF
    refine zy_getR rfl rfl e12 ?_
    replace hF := zbnd hF
    obtain ⟨a13, rfl, hF⟩ := hF
    replace hF := zbnd hF
    obtain ⟨x14, e15, hF⟩ := hF
    refine zy_getR rfl rfl e15 ?_
    refine zx_iload_n rfl rfl rfl ?_
    replace hF := zbnd hF
    obtain ⟨a16, rfl, hF⟩ := hF
    replace hF := zgd_some hF
    obtain ⟨g17, hF⟩ := hF
    replace hF := zbnd hF
    obtain ⟨p19, e18, hF⟩ := hF
    refine zx_callE rfl rfl rfl rfl (zrcv_isO g17) rfl rfl (zc4 (Nat.le_of_ble_eq_true rfl)) (t74 (by omega) e18 (zaA ?_))
    replace hF := zgd_some hF
    obtain ⟨g20, hF⟩ := hF
    refine zy_cast (r := p19.1) rfl rfl g20 ?_
    refine zy_rstore_n rfl rfl rfl ?_
    refine zx_iconst (v := 0) rfl rfl rfl ?_
    refine zx_istore_n rfl rfl (zput_ok (L' := [some (.ref l0), some (.int l1), some (va_rf p19.1), some (.int 0)]) rfl (zcl_X (j := 2) rfl (zn2_rf _)) rfl) ?_
    exact tf111_33 hd hr2 n (l0 := l0) (l1 := l1) (l2 := p19.1) (l3 := 0)  hF q
def f111_2 (n : Nat)   (k : Nat) : Nat → Int32 → zH → Option ((Unit ⊕ Nat) × zH) := Nat.rec (fun _ _ _ => none) (fun _ ih => b111_2 n  ih) k
theorem tf111_2 {d n : Nat} {Q : zRs → zH → Prop}   (hd : 6 ≤ d)   (k : Nat) : ∀ {l0 : Nat} {l1 : Int32}  {x2 : Option Value} {x3 : Option Value} {h : zH} {p : ((Unit ⊕ Nat) × zH)}, zn2 x2 = true → zn2 x3 = true → f111_2 n   k l0 l1 h = some p → Q (eVx p.1) p.2 → zW d 111 2 [some (.ref l0), some (.int l1), x2, x3] [] h Q := by
  induction k with
  | zero => intros; rename_i hF _; cases hF
  | succ k ih => intros; rename_i hx2 hx3 hF q; exact tb111_2 (n := n) hd  ih hx2 hx3 hF q
def f111 (n : Nat)  (y0 : Nat) (h : zH) : Option ((Unit ⊕ Nat) × zH) :=
  f111_2 n  n y0 0 h
set_option maxRecDepth 20000 in
theorem t111 {d n : Nat} {Q : zRs → zH → Prop}  {y0 : Nat} (hd : 6 ≤ d)  {h : zH} {p : ((Unit ⊕ Nat) × zH)} (hF : f111 n  y0 h = some p) (q : Q (eVx p.1) p.2) : zC d 111 [.ref y0] h Q := by
  refine zC_of (L := [some (.ref y0), none, none, none]) rfl rfl ?_
  unfold f111 at hF
  obtain ⟨d, rfl⟩ : ∃ e, d = e + 1 := ⟨d - 1, by omega⟩
  refine zx_iconst (v := 0) rfl rfl rfl ?_
  refine zx_istore_n rfl rfl rfl ?_
  exact tf111_2 hd  n (l0 := y0) (l1 := 0) rfl rfl hF q
def f115 (n : Nat)  (y0 : Nat) (h : zH) : Option (Int32 × zH) :=
  (gR h y0 4 4).bind fun x1 =>
  x1.bind fun a3 =>
  zgd (isO h a3 14) <|
  (f68 n a3 h).bind fun p6 =>
  (f43 n p6.1 24 p6.2).bind fun p8 =>
  some (p8.1, p8.2)
set_option maxRecDepth 20000 in
theorem t115 {d n : Nat} {Q : zRs → zH → Prop}  {y0 : Nat} (hd : 1 ≤ d)  {h : zH} {p : (Int32 × zH)} (hF : f115 n  y0 h = some p) (q : Q (eI p.1) p.2) : zC d 115 [.ref y0] h Q := by
  refine zC_of (L := [some (.ref y0)]) rfl rfl ?_
  unfold f115 at hF
  obtain ⟨d, rfl⟩ : ∃ e, d = e + 1 := ⟨d - 1, by omega⟩
  refine zx_aload_n rfl rfl rfl ?_
  replace hF := zbnd hF
  obtain ⟨x1, e2, hF⟩ := hF
  refine zy_getR rfl rfl e2 ?_
  replace hF := zbnd hF
  obtain ⟨a3, rfl, hF⟩ := hF
  replace hF := zgd_some hF
  obtain ⟨g4, hF⟩ := hF
  replace hF := zbnd hF
  obtain ⟨p6, e5, hF⟩ := hF
  refine zx_callE rfl rfl rfl rfl (zrcv_isO g4) rfl rfl (zc4 (Nat.le_of_ble_eq_true rfl)) (t68 (by omega) e5 (zaI ?_))
  refine zx_bipush (v := 24) rfl rfl rfl ?_
  replace hF := zbnd hF
  obtain ⟨p8, e7, hF⟩ := hF
  refine zx_callE rfl rfl rfl rfl rfl rfl rfl (zc4 (Nat.le_of_ble_eq_true rfl)) (t43 (by omega) e7 (zaI ?_))
  replace hF := Option.some.inj hF
  subst hF
  exact zx_bret rfl rfl rfl rfl q
def b116_4 (n : Nat)  (r4 : Nat → Int32 → Int32 → zH → Option (Int32 × zH)) (l0 : Nat) (l1 : Int32) (l2 : Int32) (h : zH) : Option (Int32 × zH) :=
  zgd (isO h l0 0) <|
  (f112 n l0 h).bind fun p3 =>
  if p3.1 ≤ l2 then
    some (l1, p3.2)
  else
    (gR p3.2 l0 0 4).bind fun x5 =>
    x5.bind fun a7 =>
    (aI p3.2 a7 l2).bind fun x8 =>
    r4 l0 (l1 ||| (1 <<< (x8 &&& 31))) (l2 + 1) p3.2
set_option maxRecDepth 20000 in
theorem tb116_4 {d n : Nat} {Q : zRs → zH → Prop}  {r4 : Nat → Int32 → Int32 → zH → Option (Int32 × zH)} {l0 : Nat} {l1 : Int32} {l2 : Int32}   (hd : 2 ≤ d)  (hr4 : ∀ {l0 : Nat} {l1 : Int32} {l2 : Int32}   {h : zH} {p : (Int32 × zH)}, r4 l0 l1 l2 h = some p → Q (eI p.1) p.2 → zW d 116 4 [some (.ref l0), some (.int l1), some (.int l2)] [] h Q) {h : zH} {p : (Int32 × zH)}  (hF : b116_4 n  r4 l0 l1 l2 h = some p) (q : Q (eI p.1) p.2) : zW d 116 4 [some (.ref l0), some (.int l1), some (.int l2)] [] h Q := by
  unfold b116_4 at hF
  obtain ⟨d, rfl⟩ : ∃ e, d = e + 1 := ⟨d - 1, by omega⟩
  refine zx_iload_n rfl rfl rfl ?_
  refine zx_aload_n rfl rfl rfl ?_
  replace hF := zgd_some hF
  obtain ⟨g1, hF⟩ := hF
  replace hF := zbnd hF
  obtain ⟨p3, e2, hF⟩ := hF
  refine zx_callE rfl rfl rfl rfl (zrcv_isO g1) rfl rfl (zc4 (Nat.le_of_ble_eq_true rfl)) (t112 (by omega) e2 (zaI ?_))
  refine zx_ic_ge rfl rfl (fun c4 => ?_) (fun c4 => ?_)
  · rw [if_pos c4] at hF
    refine zx_iload_n rfl rfl rfl ?_
    replace hF := Option.some.inj hF
    subst hF
    exact zx_bret rfl rfl rfl rfl q
  · rw [if_neg c4] at hF
    refine zx_iload_n rfl rfl rfl ?_
    refine zx_iconst (v := 1) rfl rfl rfl ?_
    refine zx_aload_n rfl rfl rfl ?_
    replace hF := zbnd hF
    obtain ⟨x5, e6, hF⟩ := hF
    refine zy_getR rfl rfl e6 ?_
    refine zx_iload_n rfl rfl rfl ?_
    replace hF := zbnd hF
    obtain ⟨a7, rfl, hF⟩ := hF
    replace hF := zbnd hF
    obtain ⟨x8, e9, hF⟩ := hF
    refine zy_aI rfl rfl e9 ?_
    refine zx_ishl rfl rfl ?_
    refine zx_ior rfl rfl ?_
    refine zx_istore_n rfl rfl rfl ?_
    refine zx_iinc (w := 1) rfl rfl rfl rfl rfl ?_
    refine zx_goto rfl rfl ?_
    exact hr4  hF q
def f116_4 (n : Nat)   (k : Nat) : Nat → Int32 → Int32 → zH → Option (Int32 × zH) := Nat.rec (fun _ _ _ _ => none) (fun _ ih => b116_4 n  ih) k
theorem tf116_4 {d n : Nat} {Q : zRs → zH → Prop}   (hd : 2 ≤ d)   (k : Nat) : ∀ {l0 : Nat} {l1 : Int32} {l2 : Int32}   {h : zH} {p : (Int32 × zH)}, f116_4 n   k l0 l1 l2 h = some p → Q (eI p.1) p.2 → zW d 116 4 [some (.ref l0), some (.int l1), some (.int l2)] [] h Q := by
  induction k with
  | zero => intros; rename_i hF _; cases hF
  | succ k ih => intros; rename_i  hF q; exact tb116_4 (n := n) hd  ih  hF q
def f116 (n : Nat)  (y0 : Nat) (h : zH) : Option (Int32 × zH) :=
  f116_4 n  n y0 0 0 h
set_option maxRecDepth 20000 in
theorem t116 {d n : Nat} {Q : zRs → zH → Prop}  {y0 : Nat} (hd : 2 ≤ d)  {h : zH} {p : (Int32 × zH)} (hF : f116 n  y0 h = some p) (q : Q (eI p.1) p.2) : zC d 116 [.ref y0] h Q := by
  refine zC_of (L := [some (.ref y0), none, none]) rfl rfl ?_
  unfold f116 at hF
  obtain ⟨d, rfl⟩ : ∃ e, d = e + 1 := ⟨d - 1, by omega⟩
  refine zx_iconst (v := 0) rfl rfl rfl ?_
  refine zx_istore_n rfl rfl rfl ?_
  refine zx_iconst (v := 0) rfl rfl rfl ?_
  refine zx_istore_n rfl rfl rfl ?_
  exact tf116_4 hd  n (l0 := y0) (l1 := 0) (l2 := 0)  hF q
def b114_80 (n : Nat)  (r40 : Nat → Int32 → Int32 → zH → Option (Unit × zH)) (r47 : Nat → Int32 → Int32 → Int32 → zH → Option (Unit × zH)) (l0 : Nat) (l1 : Int32) (l2 : Int32) (l3 : Int32) (h : zH) : Option (Unit × zH) :=
  r47 l0 l1 l2 (l3 + 1) h
set_option maxRecDepth 20000 in
theorem tb114_80 {d n : Nat} {Q : zRs → zH → Prop}  {r40 : Nat → Int32 → Int32 → zH → Option (Unit × zH)} {r47 : Nat → Int32 → Int32 → Int32 → zH → Option (Unit × zH)} {l0 : Nat} {l1 : Int32} {l2 : Int32} {l3 : Int32}   (hd : 3 ≤ d)  (hr40 : ∀ {l0 : Nat} {l1 : Int32} {l2 : Int32}  {x3 : Option Value} {h : zH} {p : (Unit × zH)}, zn2 x3 = true → r40 l0 l1 l2 h = some p → Q (eV p.1) p.2 → zW d 114 40 [some (.ref l0), some (.int l1), some (.int l2), x3] [] h Q) (hr47 : ∀ {l0 : Nat} {l1 : Int32} {l2 : Int32} {l3 : Int32}   {h : zH} {p : (Unit × zH)}, r47 l0 l1 l2 l3 h = some p → Q (eV p.1) p.2 → zW d 114 47 [some (.ref l0), some (.int l1), some (.int l2), some (.int l3)] [] h Q) {h : zH} {p : (Unit × zH)}  (hF : b114_80 n  r40 r47 l0 l1 l2 l3 h = some p) (q : Q (eV p.1) p.2) : zW d 114 80 [some (.ref l0), some (.int l1), some (.int l2), some (.int l3)] [] h Q := by
  unfold b114_80 at hF
  obtain ⟨d, rfl⟩ : ∃ e, d = e + 1 := ⟨d - 1, by omega⟩
  refine zx_iinc (w := 1) rfl rfl rfl rfl rfl ?_
  refine zx_goto rfl rfl ?_
  exact hr47  hF q
def b114_47 (n : Nat)  (r40 : Nat → Int32 → Int32 → zH → Option (Unit × zH)) (r47 : Nat → Int32 → Int32 → Int32 → zH → Option (Unit × zH)) (l0 : Nat) (l1 : Int32) (l2 : Int32) (l3 : Int32) (h : zH) : Option (Unit × zH) :=
  if l1 ≤ l3 then
    r40 l0 l1 (l2 + 1) h
  else
    (gR h l0 4 10).bind fun x2 =>
    x2.bind fun a4 =>
    (aI h a4 l3).bind fun x5 =>
    if ((x5 >>> (l2 &&& 31)) &&& 1) = 0 then
      b114_80 n r40 r47 l0 l1 l2 l3 h
    else
      (gR h l0 4 10).bind fun x8 =>
      x8.bind fun a10 =>
      (aI h a10 l3).bind fun x11 =>
      (gR h l0 4 10).bind fun x13 =>
      x13.bind fun a15 =>
      (aI h a15 l2).bind fun x16 =>
      (aS zsI h a10 l3 (.int (x11 ||| x16))).bind fun h18 =>
      b114_80 n r40 r47 l0 l1 l2 l3 h18
set_option maxRecDepth 20000 in
theorem tb114_47 {d n : Nat} {Q : zRs → zH → Prop}  {r40 : Nat → Int32 → Int32 → zH → Option (Unit × zH)} {r47 : Nat → Int32 → Int32 → Int32 → zH → Option (Unit × zH)} {l0 : Nat} {l1 : Int32} {l2 : Int32} {l3 : Int32}   (hd : 3 ≤ d)  (hr40 : ∀ {l0 : Nat} {l1 : Int32} {l2 : Int32}  {x3 : Option Value} {h : zH} {p : (Unit × zH)}, zn2 x3 = true → r40 l0 l1 l2 h = some p → Q (eV p.1) p.2 → zW d 114 40 [some (.ref l0), some (.int l1), some (.int l2), x3] [] h Q) (hr47 : ∀ {l0 : Nat} {l1 : Int32} {l2 : Int32} {l3 : Int32}   {h : zH} {p : (Unit × zH)}, r47 l0 l1 l2 l3 h = some p → Q (eV p.1) p.2 → zW d 114 47 [some (.ref l0), some (.int l1), some (.int l2), some (.int l3)] [] h Q) {h : zH} {p : (Unit × zH)}  (hF : b114_47 n  r40 r47 l0 l1 l2 l3 h = some p) (q : Q (eV p.1) p.2) : zW d 114 47 [some (.ref l0), some (.int l1), some (.int l2), some (.int l3)] [] h Q := by
  unfold b114_47 at hF
  obtain ⟨d, rfl⟩ : ∃ e, d = e + 1 := ⟨d - 1, by omega⟩
  refine zx_iload_n rfl rfl rfl ?_
  refine zx_iload_n rfl rfl rfl ?_
  refine zx_ic_ge rfl rfl (fun c1 => ?_) (fun c1 => ?_)
  · rw [if_pos c1] at hF
    refine zx_iinc (w := 1) rfl rfl rfl rfl rfl ?_
    refine zx_goto rfl rfl ?_
    exact hr40 rfl hF q
  · rw [if_neg c1] at hF
    refine zx_aload_n rfl rfl rfl ?_
    replace hF := zbnd hF
    obtain ⟨x2, e3, hF⟩ := hF
    refine zy_getR rfl rfl e3 ?_
    refine zx_iload_n rfl rfl rfl ?_
    replace hF := zbnd hF
    obtain ⟨a4, rfl, hF⟩ := hF
    replace hF := zbnd hF
    obtain ⟨x5, e6, hF⟩ := hF
    refine zy_aI rfl rfl e6 ?_
    refine zx_iload_n rfl rfl rfl ?_
    refine zx_ishr rfl rfl ?_
    refine zx_iconst (v := 1) rfl rfl rfl ?_
    refine zx_iand rfl rfl ?_
    refine zx_if_eq rfl rfl (fun c7 => ?_) (fun c7 => ?_)
    · rw [if_pos c7] at hF
      exact tb114_80 (l0 := l0) (l1 := l1) (l2 := l2) (l3 := l3) hd hr40 hr47  hF q
    · rw [if_neg c7] at hF
      refine zx_aload_n rfl rfl rfl ?_
      replace hF := zbnd hF
      obtain ⟨x8, e9, hF⟩ := hF
      refine zy_getR rfl rfl e9 ?_
      refine zx_iload_n rfl rfl rfl ?_
      refine zx_dup2 rfl rfl (by rw [zc1_rf]; rfl) ?_
      replace hF := zbnd hF
      obtain ⟨a10, rfl, hF⟩ := hF
      replace hF := zbnd hF
      obtain ⟨x11, e12, hF⟩ := hF
      refine zy_aI rfl rfl e12 ?_
      refine zx_aload_n rfl rfl rfl ?_
      replace hF := zbnd hF
      obtain ⟨x13, e14, hF⟩ := hF
      refine zy_getR rfl rfl e14 ?_
      refine zx_iload_n rfl rfl rfl ?_
      replace hF := zbnd hF
      obtain ⟨a15, rfl, hF⟩ := hF
      replace hF := zbnd hF
      obtain ⟨x16, e17, hF⟩ := hF
      refine zy_aI rfl rfl e17 ?_
      refine zx_ior rfl rfl ?_
      replace hF := zbnd hF
      obtain ⟨h18, e19, hF⟩ := hF
      refine zy_sI rfl rfl e19 ?_
      exact tb114_80 (l0 := l0) (l1 := l1) (l2 := l2) (l3 := l3) hd hr40 hr47  hF q
def f114_47 (n : Nat)  (r40 : Nat → Int32 → Int32 → zH → Option (Unit × zH)) (k : Nat) : Nat → Int32 → Int32 → Int32 → zH → Option (Unit × zH) := Nat.rec (fun _ _ _ _ _ => none) (fun _ ih => b114_47 n  r40 ih) k
theorem tf114_47 {d n : Nat} {Q : zRs → zH → Prop}  {r40 : Nat → Int32 → Int32 → zH → Option (Unit × zH)} (hd : 3 ≤ d)  (hr40 : ∀ {l0 : Nat} {l1 : Int32} {l2 : Int32}  {x3 : Option Value} {h : zH} {p : (Unit × zH)}, zn2 x3 = true → r40 l0 l1 l2 h = some p → Q (eV p.1) p.2 → zW d 114 40 [some (.ref l0), some (.int l1), some (.int l2), x3] [] h Q) (k : Nat) : ∀ {l0 : Nat} {l1 : Int32} {l2 : Int32} {l3 : Int32}   {h : zH} {p : (Unit × zH)}, f114_47 n  r40 k l0 l1 l2 l3 h = some p → Q (eV p.1) p.2 → zW d 114 47 [some (.ref l0), some (.int l1), some (.int l2), some (.int l3)] [] h Q := by
  induction k with
  | zero => intros; rename_i hF _; cases hF
  | succ k ih => intros; rename_i  hF q; exact tb114_47 (n := n) hd  hr40 ih  hF q
def b114_40 (n : Nat)  (r40 : Nat → Int32 → Int32 → zH → Option (Unit × zH)) (l0 : Nat) (l1 : Int32) (l2 : Int32) (h : zH) : Option (Unit × zH) :=
  if l1 ≤ l2 then
    some ((), h)
  else
    f114_47 n r40 n l0 l1 l2 0 h
set_option maxRecDepth 20000 in
theorem tb114_40 {d n : Nat} {Q : zRs → zH → Prop}  {r40 : Nat → Int32 → Int32 → zH → Option (Unit × zH)} {l0 : Nat} {l1 : Int32} {l2 : Int32}  {x3 : Option Value} (hd : 3 ≤ d)  (hr40 : ∀ {l0 : Nat} {l1 : Int32} {l2 : Int32}  {x3 : Option Value} {h : zH} {p : (Unit × zH)}, zn2 x3 = true → r40 l0 l1 l2 h = some p → Q (eV p.1) p.2 → zW d 114 40 [some (.ref l0), some (.int l1), some (.int l2), x3] [] h Q) {h : zH} {p : (Unit × zH)} (hx3 : zn2 x3 = true) (hF : b114_40 n  r40 l0 l1 l2 h = some p) (q : Q (eV p.1) p.2) : zW d 114 40 [some (.ref l0), some (.int l1), some (.int l2), x3] [] h Q := by
  unfold b114_40 at hF
  obtain ⟨d, rfl⟩ : ∃ e, d = e + 1 := ⟨d - 1, by omega⟩
  refine zx_iload_n rfl rfl rfl ?_
  refine zx_iload_n rfl rfl rfl ?_
  refine zx_ic_ge rfl rfl (fun c1 => ?_) (fun c1 => ?_)
  · rw [if_pos c1] at hF
    replace hF := Option.some.inj hF
    subst hF
    exact zx_return rfl rfl rfl q
  · rw [if_neg c1] at hF
    refine zx_iconst (v := 0) rfl rfl rfl ?_
    refine zx_istore_n rfl rfl rfl ?_
    exact tf114_47 hd hr40 n (l0 := l0) (l1 := l1) (l2 := l2) (l3 := 0)  hF q
def f114_40 (n : Nat)   (k : Nat) : Nat → Int32 → Int32 → zH → Option (Unit × zH) := Nat.rec (fun _ _ _ _ => none) (fun _ ih => b114_40 n  ih) k
theorem tf114_40 {d n : Nat} {Q : zRs → zH → Prop}   (hd : 3 ≤ d)   (k : Nat) : ∀ {l0 : Nat} {l1 : Int32} {l2 : Int32}  {x3 : Option Value} {h : zH} {p : (Unit × zH)}, zn2 x3 = true → f114_40 n   k l0 l1 l2 h = some p → Q (eV p.1) p.2 → zW d 114 40 [some (.ref l0), some (.int l1), some (.int l2), x3] [] h Q := by
  induction k with
  | zero => intros; rename_i hF _; cases hF
  | succ k ih => intros; rename_i hx3 hF q; exact tb114_40 (n := n) hd  ih hx3 hF q
def b114_7 (n : Nat)  (r7 : Nat → Int32 → Int32 → zH → Option (Unit × zH)) (l0 : Nat) (l1 : Int32) (l2 : Int32) (h : zH) : Option (Unit × zH) :=
  if l1 ≤ l2 then
    f114_40 n  n l0 l1 0 h
  else
    (gR h l0 4 10).bind fun x2 =>
    (gR h l0 4 4).bind fun x4 =>
    x4.bind fun a6 =>
    zgd (isO h a6 14) <|
    (f74 n a6 l2 h).bind fun p9 =>
    zgd (kC p9.2 p9.1 0 0) <|
    p9.1.bind fun a11 =>
    zgd (isO p9.2 a11 0) <|
    (f116 n a11 p9.2).bind fun p15 =>
    x2.bind fun a16 =>
    (aS zsI p15.2 a16 l2 (.int p15.1)).bind fun h17 =>
    r7 l0 l1 (l2 + 1) h17
set_option maxRecDepth 20000 in
theorem tb114_7 {d n : Nat} {Q : zRs → zH → Prop}  {r7 : Nat → Int32 → Int32 → zH → Option (Unit × zH)} {l0 : Nat} {l1 : Int32} {l2 : Int32}  {x3 : Option Value} (hd : 3 ≤ d)  (hr7 : ∀ {l0 : Nat} {l1 : Int32} {l2 : Int32}  {x3 : Option Value} {h : zH} {p : (Unit × zH)}, zn2 x3 = true → r7 l0 l1 l2 h = some p → Q (eV p.1) p.2 → zW d 114 7 [some (.ref l0), some (.int l1), some (.int l2), x3] [] h Q) {h : zH} {p : (Unit × zH)} (hx3 : zn2 x3 = true) (hF : b114_7 n  r7 l0 l1 l2 h = some p) (q : Q (eV p.1) p.2) : zW d 114 7 [some (.ref l0), some (.int l1), some (.int l2), x3] [] h Q := by
  unfold b114_7 at hF
  obtain ⟨d, rfl⟩ : ∃ e, d = e + 1 := ⟨d - 1, by omega⟩
  refine zx_iload_n rfl rfl rfl ?_
  refine zx_iload_n rfl rfl rfl ?_
  refine zx_ic_ge rfl rfl (fun c1 => ?_) (fun c1 => ?_)
  · rw [if_pos c1] at hF
    refine zx_iconst (v := 0) rfl rfl rfl ?_
    refine zx_istore_n rfl rfl rfl ?_
    exact tf114_40 hd  n (l0 := l0) (l1 := l1) (l2 := 0) hx3 hF q
  · rw [if_neg c1] at hF
    refine zx_aload_n rfl rfl rfl ?_
    replace hF := zbnd hF
    obtain ⟨x2, e3, hF⟩ := hF
    refine zy_getR rfl rfl e3 ?_
    refine zx_iload_n rfl rfl rfl ?_
    refine zx_aload_n rfl rfl rfl ?_
    replace hF := zbnd hF
    obtain ⟨x4, e5, hF⟩ := hF
    refine zy_getR rfl rfl e5 ?_
    refine zx_iload_n rfl rfl rfl ?_
    replace hF := zbnd hF
    obtain ⟨a6, rfl, hF⟩ := hF
    replace hF := zgd_some hF
    obtain ⟨g7, hF⟩ := hF
    replace hF := zbnd hF
    obtain ⟨p9, e8, hF⟩ := hF
    refine zx_callE rfl rfl rfl rfl (zrcv_isO g7) rfl rfl (zc4 (Nat.le_of_ble_eq_true rfl)) (t74 (by omega) e8 (zaA ?_))
    replace hF := zgd_some hF
    obtain ⟨g10, hF⟩ := hF
    refine zy_cast (r := p9.1) rfl rfl g10 ?_
    replace hF := zbnd hF
    obtain ⟨a11, e12, hF⟩ := hF
    rw [e12]
    replace hF := zgd_some hF
    obtain ⟨g13, hF⟩ := hF
    replace hF := zbnd hF
    obtain ⟨p15, e14, hF⟩ := hF
    refine zx_callE rfl rfl rfl rfl (zrcv_isO g13) rfl rfl (zc4 (Nat.le_of_ble_eq_true rfl)) (t116 (by omega) e14 (zaI ?_))
    replace hF := zbnd hF
    obtain ⟨a16, rfl, hF⟩ := hF
    replace hF := zbnd hF
    obtain ⟨h17, e18, hF⟩ := hF
    refine zy_sI rfl rfl e18 ?_
    refine zx_iinc (w := 1) rfl rfl rfl rfl rfl ?_
    refine zx_goto rfl rfl ?_
    exact hr7 hx3 hF q
def f114_7 (n : Nat)   (k : Nat) : Nat → Int32 → Int32 → zH → Option (Unit × zH) := Nat.rec (fun _ _ _ _ => none) (fun _ ih => b114_7 n  ih) k
theorem tf114_7 {d n : Nat} {Q : zRs → zH → Prop}   (hd : 3 ≤ d)   (k : Nat) : ∀ {l0 : Nat} {l1 : Int32} {l2 : Int32}  {x3 : Option Value} {h : zH} {p : (Unit × zH)}, zn2 x3 = true → f114_7 n   k l0 l1 l2 h = some p → Q (eV p.1) p.2 → zW d 114 7 [some (.ref l0), some (.int l1), some (.int l2), x3] [] h Q := by
  induction k with
  | zero => intros; rename_i hF _; cases hF
  | succ k ih => intros; rename_i hx3 hF q; exact tb114_7 (n := n) hd  ih hx3 hF q
def f114 (n : Nat)  (y0 : Nat) (h : zH) : Option (Unit × zH) :=
  zgd (isO h y0 4) <|
  (f115 n y0 h).bind fun p3 =>
  f114_7 n  n y0 p3.1 0 p3.2
set_option maxRecDepth 20000 in
theorem t114 {d n : Nat} {Q : zRs → zH → Prop}  {y0 : Nat} (hd : 3 ≤ d)  {h : zH} {p : (Unit × zH)} (hF : f114 n  y0 h = some p) (q : Q (eV p.1) p.2) : zC d 114 [.ref y0] h Q := by
  refine zC_of (L := [some (.ref y0), none, none, none]) rfl rfl ?_
  unfold f114 at hF
  obtain ⟨d, rfl⟩ : ∃ e, d = e + 1 := ⟨d - 1, by omega⟩
  refine zx_aload_n rfl rfl rfl ?_
  replace hF := zgd_some hF
  obtain ⟨g1, hF⟩ := hF
  replace hF := zbnd hF
  obtain ⟨p3, e2, hF⟩ := hF
  refine zx_callE rfl rfl rfl rfl (zrcv_isO g1) rfl rfl (zc4 (Nat.le_of_ble_eq_true rfl)) (t115 (by omega) e2 (zaI ?_))
  refine zx_istore_n rfl rfl rfl ?_
  refine zx_iconst (v := 0) rfl rfl rfl ?_
  refine zx_istore_n rfl rfl rfl ?_
  exact tf114_7 hd  n (l0 := y0) (l1 := p3.1) (l2 := 0) rfl hF q
def b117_76 (n : Nat)  (r2 : Nat → Int32 → zH → Option ((Unit ⊕ Nat) × zH)) (r30 : Nat → Int32 → Option Nat → Int32 → zH → Option ((Unit ⊕ Nat) × zH)) (l0 : Nat) (l1 : Int32) (l2 : Option Nat) (l3 : Int32) (h : zH) : Option ((Unit ⊕ Nat) × zH) :=
  r30 l0 l1 l2 (l3 + 1) h
set_option maxRecDepth 20000 in
theorem tb117_76 {d n : Nat} {Q : zRs → zH → Prop}  {r2 : Nat → Int32 → zH → Option ((Unit ⊕ Nat) × zH)} {r30 : Nat → Int32 → Option Nat → Int32 → zH → Option ((Unit ⊕ Nat) × zH)} {l0 : Nat} {l1 : Int32} {l2 : Option Nat} {l3 : Int32}   (hd : 3 ≤ d)  (hr2 : ∀ {l0 : Nat} {l1 : Int32}  {x2 : Option Value} {x3 : Option Value} {h : zH} {p : ((Unit ⊕ Nat) × zH)}, zn2 x2 = true → zn2 x3 = true → r2 l0 l1 h = some p → Q (eVx p.1) p.2 → zW d 117 2 [some (.ref l0), some (.int l1), x2, x3] [] h Q) (hr30 : ∀ {l0 : Nat} {l1 : Int32} {l2 : Option Nat} {l3 : Int32}   {h : zH} {p : ((Unit ⊕ Nat) × zH)}, r30 l0 l1 l2 l3 h = some p → Q (eVx p.1) p.2 → zW d 117 30 [some (.ref l0), some (.int l1), some (va_rf l2), some (.int l3)] [] h Q) {h : zH} {p : ((Unit ⊕ Nat) × zH)}  (hF : b117_76 n  r2 r30 l0 l1 l2 l3 h = some p) (q : Q (eVx p.1) p.2) : zW d 117 76 [some (.ref l0), some (.int l1), some (va_rf l2), some (.int l3)] [] h Q := by
  unfold b117_76 at hF
  obtain ⟨d, rfl⟩ : ∃ e, d = e + 1 := ⟨d - 1, by omega⟩
  refine zx_iinc (w := 1) rfl rfl rfl rfl (zput_ok (L' := [some (.ref l0), some (.int l1), some (va_rf l2), some (.int (l3 + 1))]) rfl (zcl_X (j := 2) rfl (zn2_rf _)) rfl) ?_
  refine zx_goto rfl rfl ?_
  exact hr30  hF q
def b117_30 (n : Nat)  (r2 : Nat → Int32 → zH → Option ((Unit ⊕ Nat) × zH)) (r30 : Nat → Int32 → Option Nat → Int32 → zH → Option ((Unit ⊕ Nat) × zH)) (l0 : Nat) (l1 : Int32) (l2 : Option Nat) (l3 : Int32) (h : zH) : Option ((Unit ⊕ Nat) × zH) :=
  l2.bind fun a1 =>
  zgd (isO h a1 0) <|
  (f112 n a1 h).bind fun p4 =>
  if p4.1 ≤ l3 then
    r2 l0 (l1 + 1) p4.2
  else
    (gR p4.2 l0 5 0).bind fun x6 =>
    x6.bind fun a8 =>
    (gR p4.2 a8 4 10).bind fun x9 =>
    (gR p4.2 a1 0 4).bind fun x11 =>
    x11.bind fun a13 =>
    (aI p4.2 a13 l3).bind fun x14 =>
    x9.bind fun a16 =>
    (aI p4.2 a16 x14).bind fun x17 =>
    if ((x17 >>> (l1 &&& 31)) &&& 1) = 0 then
      b117_76 n r2 r30 l0 l1 (some a1) l3 p4.2
    else
      (gR p4.2 a1 0 2).bind fun x20 =>
      x20.bind fun a22 =>
      zgd (isO p4.2 a22 14) <|
      (f74 n a22 l3 p4.2).bind fun p25 =>
      zgd (kC p25.2 p25.1 9 0) <|
      zgd (isO p25.2 l0 5) <|
      (f70 n l0 6 p25.1 p25.2).bind fun p32 => zth p32 (fun r29 h30 =>
        b117_76 n r2 r30 l0 l1 (some a1) l3 h30)
        (fun x31 h30 =>
        zgd (exOk x31) <| some (.inr x31, h30))
set_option maxRecDepth 20000 in
theorem tb117_30 {d n : Nat} {Q : zRs → zH → Prop}  {r2 : Nat → Int32 → zH → Option ((Unit ⊕ Nat) × zH)} {r30 : Nat → Int32 → Option Nat → Int32 → zH → Option ((Unit ⊕ Nat) × zH)} {l0 : Nat} {l1 : Int32} {l2 : Option Nat} {l3 : Int32}   (hd : 3 ≤ d)  (hr2 : ∀ {l0 : Nat} {l1 : Int32}  {x2 : Option Value} {x3 : Option Value} {h : zH} {p : ((Unit ⊕ Nat) × zH)}, zn2 x2 = true → zn2 x3 = true → r2 l0 l1 h = some p → Q (eVx p.1) p.2 → zW d 117 2 [some (.ref l0), some (.int l1), x2, x3] [] h Q) (hr30 : ∀ {l0 : Nat} {l1 : Int32} {l2 : Option Nat} {l3 : Int32}   {h : zH} {p : ((Unit ⊕ Nat) × zH)}, r30 l0 l1 l2 l3 h = some p → Q (eVx p.1) p.2 → zW d 117 30 [some (.ref l0), some (.int l1), some (va_rf l2), some (.int l3)] [] h Q) {h : zH} {p : ((Unit ⊕ Nat) × zH)}  (hF : b117_30 n  r2 r30 l0 l1 l2 l3 h = some p) (q : Q (eVx p.1) p.2) : zW d 117 30 [some (.ref l0), some (.int l1), some (va_rf l2), some (.int l3)] [] h Q := by
  unfold b117_30 at hF
  obtain ⟨d, rfl⟩ : ∃ e, d = e + 1 := ⟨d - 1, by omega⟩
  refine zx_iload_n rfl rfl rfl ?_
  refine zy_rload_n rfl rfl rfl ?_
  replace hF := zbnd hF
  obtain ⟨a1, rfl, hF⟩ := hF
  replace hF := zgd_some hF
  obtain ⟨g2, hF⟩ := hF
  replace hF := zbnd hF
  obtain ⟨p4, e3, hF⟩ := hF
  refine zx_callE rfl rfl rfl rfl (zrcv_isO g2) rfl rfl (zc4 (Nat.le_of_ble_eq_true rfl)) (t112 (by omega) e3 (zaI ?_))
  refine zx_ic_ge rfl rfl (fun c5 => ?_) (fun c5 => ?_)
  · rw [if_pos c5] at hF
    refine zx_iinc (w := 1) rfl rfl rfl rfl rfl ?_
    refine zx_goto rfl rfl ?_
    exact hr2 rfl rfl hF q
  · rw [if_neg c5] at hF
    refine zx_aload_n rfl rfl rfl ?_
    replace hF := zbnd hF
    obtain ⟨x6, e7, hF⟩ := hF
    refine zy_getR rfl rfl e7 ?_
    replace hF := zbnd hF
    obtain ⟨a8, rfl, hF⟩ := hF
    replace hF := zbnd hF
    obtain ⟨x9, e10, hF⟩ := hF
    refine zy_getR rfl rfl e10 ?_
    refine zx_aload_n rfl rfl rfl ?_
    replace hF := zbnd hF
    obtain ⟨x11, e12, hF⟩ := hF
    refine zy_getR rfl rfl e12 ?_
    refine zx_iload_n rfl rfl rfl ?_
    replace hF := zbnd hF
    obtain ⟨a13, rfl, hF⟩ := hF
    replace hF := zbnd hF
    obtain ⟨x14, e15, hF⟩ := hF
    refine zy_aI rfl rfl e15 ?_
    replace hF := zbnd hF
    obtain ⟨a16, rfl, hF⟩ := hF
    replace hF := zbnd hF
    obtain ⟨x17, e18, hF⟩ := hF
    refine zy_aI rfl rfl e18 ?_
    refine zx_iload_n rfl rfl rfl ?_
    refine zx_ishr rfl rfl ?_
    refine zx_iconst (v := 1) rfl rfl rfl ?_
    refine zx_iand rfl rfl ?_
    refine zx_if_eq rfl rfl (fun c19 => ?_) (fun c19 => ?_)
    · rw [if_pos c19] at hF
      exact tb117_76 (l0 := l0) (l1 := l1) (l2 := (some a1)) (l3 := l3) hd hr2 hr30  hF q
    · rw [if_neg c19] at hF
      refine zx_aload_n rfl rfl rfl ?_
      refine zx_bipush (v := 6) rfl rfl rfl ?_
      refine zx_aload_n rfl rfl rfl ?_
      replace hF := zbnd hF
      obtain ⟨x20, e21, hF⟩ := hF
      refine zy_getR rfl rfl e21 ?_
      refine zx_iload_n rfl rfl rfl ?_
      replace hF := zbnd hF
      obtain ⟨a22, rfl, hF⟩ := hF
      replace hF := zgd_some hF
      obtain ⟨g23, hF⟩ := hF
      replace hF := zbnd hF
      obtain ⟨p25, e24, hF⟩ := hF
      refine zx_callE rfl rfl rfl rfl (zrcv_isO g23) rfl rfl (zc4 (Nat.le_of_ble_eq_true rfl)) (t74 (by omega) e24 (zaA ?_))
      replace hF := zgd_some hF
      obtain ⟨g26, hF⟩ := hF
      refine zy_cast (r := p25.1) rfl rfl g26 ?_
      replace hF := zgd_some hF
      obtain ⟨g27, hF⟩ := hF
      replace hF := zbnd hF
      obtain ⟨⟨r29, h30⟩, e28, hF⟩ := hF
      refine zx_callE rfl rfl rfl rfl (zrcv_isO g27) (congrArg (List.cons _) (congrArg (List.cons _) ((zsl_rf _ _).trans (congrArg (List.cons _) rfl)))) rfl (zc4 (Nat.le_of_ble_eq_true rfl)) (t70 (by omega) e28 ?_)
      rcases r29 with r29 | x31
      rotate_left 1
      · replace hF := zthH hF
        replace hF := zgd_some hF
        obtain ⟨gx, hF⟩ := hF
        replace hF := Option.some.inj hF
        subst hF
        exact zaX rfl gx q
      replace hF := zthG hF
      refine zaV (x := ()) ?_
      exact tb117_76 (l0 := l0) (l1 := l1) (l2 := (some a1)) (l3 := l3) hd hr2 hr30  hF q
def f117_30 (n : Nat)  (r2 : Nat → Int32 → zH → Option ((Unit ⊕ Nat) × zH)) (k : Nat) : Nat → Int32 → Option Nat → Int32 → zH → Option ((Unit ⊕ Nat) × zH) := Nat.rec (fun _ _ _ _ _ => none) (fun _ ih => b117_30 n  r2 ih) k
theorem tf117_30 {d n : Nat} {Q : zRs → zH → Prop}  {r2 : Nat → Int32 → zH → Option ((Unit ⊕ Nat) × zH)} (hd : 3 ≤ d)  (hr2 : ∀ {l0 : Nat} {l1 : Int32}  {x2 : Option Value} {x3 : Option Value} {h : zH} {p : ((Unit ⊕ Nat) × zH)}, zn2 x2 = true → zn2 x3 = true → r2 l0 l1 h = some p → Q (eVx p.1) p.2 → zW d 117 2 [some (.ref l0), some (.int l1), x2, x3] [] h Q) (k : Nat) : ∀ {l0 : Nat} {l1 : Int32} {l2 : Option Nat} {l3 : Int32}   {h : zH} {p : ((Unit ⊕ Nat) × zH)}, f117_30 n  r2 k l0 l1 l2 l3 h = some p → Q (eVx p.1) p.2 → zW d 117 30 [some (.ref l0), some (.int l1), some (va_rf l2), some (.int l3)] [] h Q := by
  induction k with
  | zero => intros; rename_i hF _; cases hF
  | succ k ih => intros; rename_i  hF q; exact tb117_30 (n := n) hd  hr2 ih  hF q
def b117_2 (n : Nat)  (r2 : Nat → Int32 → zH → Option ((Unit ⊕ Nat) × zH)) (l0 : Nat) (l1 : Int32) (h : zH) : Option ((Unit ⊕ Nat) × zH) :=
  (gR h l0 5 0).bind fun x1 =>
  x1.bind fun a3 =>
  zgd (isO h a3 4) <|
  (f115 n a3 h).bind fun p6 =>
  if p6.1 ≤ l1 then
    some (.inl (), p6.2)
  else
    (gR p6.2 l0 5 0).bind fun x8 =>
    x8.bind fun a10 =>
    (gR p6.2 a10 4 4).bind fun x11 =>
    x11.bind fun a13 =>
    zgd (isO p6.2 a13 14) <|
    (f74 n a13 l1 p6.2).bind fun p16 =>
    zgd (kC p16.2 p16.1 0 0) <|
    f117_30 n r2 n l0 l1 p16.1 0 p16.2
set_option maxRecDepth 20000 in
theorem tb117_2 {d n : Nat} {Q : zRs → zH → Prop}  {r2 : Nat → Int32 → zH → Option ((Unit ⊕ Nat) × zH)} {l0 : Nat} {l1 : Int32}  {x2 : Option Value} {x3 : Option Value} (hd : 3 ≤ d)  (hr2 : ∀ {l0 : Nat} {l1 : Int32}  {x2 : Option Value} {x3 : Option Value} {h : zH} {p : ((Unit ⊕ Nat) × zH)}, zn2 x2 = true → zn2 x3 = true → r2 l0 l1 h = some p → Q (eVx p.1) p.2 → zW d 117 2 [some (.ref l0), some (.int l1), x2, x3] [] h Q) {h : zH} {p : ((Unit ⊕ Nat) × zH)} (hx2 : zn2 x2 = true) (hx3 : zn2 x3 = true) (hF : b117_2 n  r2 l0 l1 h = some p) (q : Q (eVx p.1) p.2) : zW d 117 2 [some (.ref l0), some (.int l1), x2, x3] [] h Q := by
  unfold b117_2 at hF
  obtain ⟨d, rfl⟩ : ∃ e, d = e + 1 := ⟨d - 1, by omega⟩
  refine zx_iload_n rfl rfl rfl ?_
  refine zx_aload_n rfl rfl rfl ?_
  replace hF := zbnd hF
  obtain ⟨x1, e2, hF⟩ := hF
  refine zy_getR rfl rfl e2 ?_
  replace hF := zbnd hF
  obtain ⟨a3, rfl, hF⟩ := hF
  replace hF := zgd_some hF
  obtain ⟨g4, hF⟩ := hF
  replace hF := zbnd hF
  obtain ⟨p6, e5, hF⟩ := hF
  refine zx_callE rfl rfl rfl rfl (zrcv_isO g4) rfl rfl (zc4 (Nat.le_of_ble_eq_true rfl)) (t115 (by omega) e5 (zaI ?_))
  refine zx_ic_ge rfl rfl (fun c7 => ?_) (fun c7 => ?_)
  · rw [if_pos c7] at hF
    replace hF := Option.some.inj hF
    subst hF
    exact zx_return rfl rfl rfl q
  · rw [if_neg c7] at hF
    refine zx_aload_n rfl rfl rfl ?_
    replace hF := zbnd hF
    obtain ⟨x8, e9, hF⟩ := hF
    refine zy_getR rfl rfl e9 ?_
    replace hF := zbnd hF
    obtain ⟨a10, rfl, hF⟩ := hF
    replace hF := zbnd hF
    obtain ⟨x11, e12, hF⟩ := hF
    refine zy_getR rfl rfl e12 ?_
    refine zx_iload_n rfl rfl rfl ?_
    replace hF := zbnd hF
    obtain ⟨a13, rfl, hF⟩ := hF
    replace hF := zgd_some hF
    obtain ⟨g14, hF⟩ := hF
    replace hF := zbnd hF
    obtain ⟨p16, e15, hF⟩ := hF
    refine zx_callE rfl rfl rfl rfl (zrcv_isO g14) rfl rfl (zc4 (Nat.le_of_ble_eq_true rfl)) (t74 (by omega) e15 (zaA ?_))
    replace hF := zgd_some hF
    obtain ⟨g17, hF⟩ := hF
    refine zy_cast (r := p16.1) rfl rfl g17 ?_
    refine zy_rstore_n rfl rfl rfl ?_
    refine zx_iconst (v := 0) rfl rfl rfl ?_
    refine zx_istore_n rfl rfl (zput_ok (L' := [some (.ref l0), some (.int l1), some (va_rf p16.1), some (.int 0)]) rfl (zcl_X (j := 2) rfl (zn2_rf _)) rfl) ?_
    exact tf117_30 hd hr2 n (l0 := l0) (l1 := l1) (l2 := p16.1) (l3 := 0)  hF q
def f117_2 (n : Nat)   (k : Nat) : Nat → Int32 → zH → Option ((Unit ⊕ Nat) × zH) := Nat.rec (fun _ _ _ => none) (fun _ ih => b117_2 n  ih) k
theorem tf117_2 {d n : Nat} {Q : zRs → zH → Prop}   (hd : 3 ≤ d)   (k : Nat) : ∀ {l0 : Nat} {l1 : Int32}  {x2 : Option Value} {x3 : Option Value} {h : zH} {p : ((Unit ⊕ Nat) × zH)}, zn2 x2 = true → zn2 x3 = true → f117_2 n   k l0 l1 h = some p → Q (eVx p.1) p.2 → zW d 117 2 [some (.ref l0), some (.int l1), x2, x3] [] h Q := by
  induction k with
  | zero => intros; rename_i hF _; cases hF
  | succ k ih => intros; rename_i hx2 hx3 hF q; exact tb117_2 (n := n) hd  ih hx2 hx3 hF q
def f117 (n : Nat)  (y0 : Nat) (h : zH) : Option ((Unit ⊕ Nat) × zH) :=
  f117_2 n  n y0 0 h
set_option maxRecDepth 20000 in
theorem t117 {d n : Nat} {Q : zRs → zH → Prop}  {y0 : Nat} (hd : 3 ≤ d)  {h : zH} {p : ((Unit ⊕ Nat) × zH)} (hF : f117 n  y0 h = some p) (q : Q (eVx p.1) p.2) : zC d 117 [.ref y0] h Q := by
  refine zC_of (L := [some (.ref y0), none, none, none]) rfl rfl ?_
  unfold f117 at hF
  obtain ⟨d, rfl⟩ : ∃ e, d = e + 1 := ⟨d - 1, by omega⟩
  refine zx_iconst (v := 0) rfl rfl rfl ?_
  refine zx_istore_n rfl rfl rfl ?_
  exact tf117_2 hd  n (l0 := y0) (l1 := 0) rfl rfl hF q
def b119_30 (n : Nat)  (r2 : Nat → Int32 → Int32 → Int32 → zH → Option (Int32 × zH)) (l0 : Nat) (l1 : Int32) (l2 : Int32) (l3 : Int32) (h : zH) : Option (Int32 × zH) :=
  r2 l0 l1 l2 (l3 + 1) h
set_option maxRecDepth 20000 in
theorem tb119_30 {d n : Nat} {Q : zRs → zH → Prop}  {r2 : Nat → Int32 → Int32 → Int32 → zH → Option (Int32 × zH)} {l0 : Nat} {l1 : Int32} {l2 : Int32} {l3 : Int32}   (hd : 0 ≤ d)  (hr2 : ∀ {l0 : Nat} {l1 : Int32} {l2 : Int32} {l3 : Int32}   {h : zH} {p : (Int32 × zH)}, r2 l0 l1 l2 l3 h = some p → Q (eI p.1) p.2 → zW d 119 2 [some (.ref l0), some (.int l1), some (.int l2), some (.int l3)] [] h Q) {h : zH} {p : (Int32 × zH)}  (hF : b119_30 n  r2 l0 l1 l2 l3 h = some p) (q : Q (eI p.1) p.2) : zW d 119 30 [some (.ref l0), some (.int l1), some (.int l2), some (.int l3)] [] h Q := by
  unfold b119_30 at hF
  refine zx_iinc (w := 1) rfl rfl rfl rfl rfl ?_
  refine zx_goto rfl rfl ?_
  exact hr2  hF q
def b119_2 (n : Nat)  (r2 : Nat → Int32 → Int32 → Int32 → zH → Option (Int32 × zH)) (l0 : Nat) (l1 : Int32) (l2 : Int32) (l3 : Int32) (h : zH) : Option (Int32 × zH) :=
  if l2 ≤ l3 then
    some (0, h)
  else
    if ((l1 >>> (l3 &&& 31)) &&& 1) = 0 then
      (gR h l0 4 10).bind fun x3 =>
      x3.bind fun a5 =>
      (aI h a5 l3).bind fun x6 =>
      if (x6 &&& (l1 ^^^ (-1))) = 0 then
        some (l3, h)
      else
        b119_30 n r2 l0 l1 l2 l3 h
    else
      b119_30 n r2 l0 l1 l2 l3 h
set_option maxRecDepth 20000 in
theorem tb119_2 {d n : Nat} {Q : zRs → zH → Prop}  {r2 : Nat → Int32 → Int32 → Int32 → zH → Option (Int32 × zH)} {l0 : Nat} {l1 : Int32} {l2 : Int32} {l3 : Int32}   (hd : 0 ≤ d)  (hr2 : ∀ {l0 : Nat} {l1 : Int32} {l2 : Int32} {l3 : Int32}   {h : zH} {p : (Int32 × zH)}, r2 l0 l1 l2 l3 h = some p → Q (eI p.1) p.2 → zW d 119 2 [some (.ref l0), some (.int l1), some (.int l2), some (.int l3)] [] h Q) {h : zH} {p : (Int32 × zH)}  (hF : b119_2 n  r2 l0 l1 l2 l3 h = some p) (q : Q (eI p.1) p.2) : zW d 119 2 [some (.ref l0), some (.int l1), some (.int l2), some (.int l3)] [] h Q := by
  unfold b119_2 at hF
  refine zx_iload_n rfl rfl rfl ?_
  refine zx_iload_n rfl rfl rfl ?_
  refine zx_ic_ge rfl rfl (fun c1 => ?_) (fun c1 => ?_)
  · rw [if_pos c1] at hF
    refine zx_iconst (v := 0) rfl rfl rfl ?_
    replace hF := Option.some.inj hF
    subst hF
    exact zx_bret rfl rfl rfl rfl q
  · rw [if_neg c1] at hF
    refine zx_iload_n rfl rfl rfl ?_
    refine zx_iload_n rfl rfl rfl ?_
    refine zx_ishr rfl rfl ?_
    refine zx_iconst (v := 1) rfl rfl rfl ?_
    refine zx_iand rfl rfl ?_
    refine zx_if_ne rfl rfl (fun c2 => ?_) (fun c2 => ?_)
    · rw [if_neg c2] at hF
      exact tb119_30 (l0 := l0) (l1 := l1) (l2 := l2) (l3 := l3) hd hr2  hF q
    · rw [if_pos c2] at hF
      refine zx_aload_n rfl rfl rfl ?_
      replace hF := zbnd hF
      obtain ⟨x3, e4, hF⟩ := hF
      refine zy_getR rfl rfl e4 ?_
      refine zx_iload_n rfl rfl rfl ?_
      replace hF := zbnd hF
      obtain ⟨a5, rfl, hF⟩ := hF
      replace hF := zbnd hF
      obtain ⟨x6, e7, hF⟩ := hF
      refine zy_aI rfl rfl e7 ?_
      refine zx_iload_n rfl rfl rfl ?_
      refine zx_iconst (v := (-1)) rfl rfl rfl ?_
      refine zx_ixor rfl rfl ?_
      refine zx_iand rfl rfl ?_
      refine zx_if_ne rfl rfl (fun c8 => ?_) (fun c8 => ?_)
      · rw [if_neg c8] at hF
        exact tb119_30 (l0 := l0) (l1 := l1) (l2 := l2) (l3 := l3) hd hr2  hF q
      · rw [if_pos c8] at hF
        refine zx_iload_n rfl rfl rfl ?_
        replace hF := Option.some.inj hF
        subst hF
        exact zx_bret rfl rfl rfl rfl q
def f119_2 (n : Nat)   (k : Nat) : Nat → Int32 → Int32 → Int32 → zH → Option (Int32 × zH) := Nat.rec (fun _ _ _ _ _ => none) (fun _ ih => b119_2 n  ih) k
theorem tf119_2 {d n : Nat} {Q : zRs → zH → Prop}   (hd : 0 ≤ d)   (k : Nat) : ∀ {l0 : Nat} {l1 : Int32} {l2 : Int32} {l3 : Int32}   {h : zH} {p : (Int32 × zH)}, f119_2 n   k l0 l1 l2 l3 h = some p → Q (eI p.1) p.2 → zW d 119 2 [some (.ref l0), some (.int l1), some (.int l2), some (.int l3)] [] h Q := by
  induction k with
  | zero => intros; rename_i hF _; cases hF
  | succ k ih => intros; rename_i  hF q; exact tb119_2 (n := n) hd  ih  hF q
def f119 (n : Nat)  (y0 : Nat) (y1 : Int32) (y2 : Int32) (h : zH) : Option (Int32 × zH) :=
  f119_2 n  n y0 y1 y2 0 h
set_option maxRecDepth 20000 in
theorem t119 {d n : Nat} {Q : zRs → zH → Prop}  {y0 : Nat} {y1 : Int32} {y2 : Int32} (hd : 0 ≤ d)  {h : zH} {p : (Int32 × zH)} (hF : f119 n  y0 y1 y2 h = some p) (q : Q (eI p.1) p.2) : zC d 119 [.ref y0, .int y1, .int y2] h Q := by
  refine zC_of (L := [some (.ref y0), some (.int y1), some (.int y2), none]) rfl rfl ?_
  unfold f119 at hF
  refine zx_iconst (v := 0) rfl rfl rfl ?_
  refine zx_istore_n rfl rfl rfl ?_
  exact tf119_2 hd  n (l0 := y0) (l1 := y1) (l2 := y2) (l3 := 0)  hF q
def b118_9 (n : Nat)  (r9 : Nat → Int32 → Int32 → Int32 → zH → Option (Unit × zH)) (l0 : Nat) (l1 : Int32) (l2 : Int32) (l3 : Int32) (h : zH) : Option (Unit × zH) :=
  if l1 ≤ l3 then
    some ((), h)
  else
    zgd (isO h l0 4) <|
    (f119 n l0 l2 l1 h).bind fun p4 =>
    (gR p4.2 l0 4 11).bind fun x5 =>
    x5.bind fun a7 =>
    (aS zsI p4.2 a7 l3 (.int p4.1)).bind fun h8 =>
    r9 l0 l1 (l2 ||| (1 <<< (p4.1 &&& 31))) (l3 + 1) h8
set_option maxRecDepth 20000 in
theorem tb118_9 {d n : Nat} {Q : zRs → zH → Prop}  {r9 : Nat → Int32 → Int32 → Int32 → zH → Option (Unit × zH)} {l0 : Nat} {l1 : Int32} {l2 : Int32} {l3 : Int32}  {x4 : Option Value} (hd : 2 ≤ d)  (hr9 : ∀ {l0 : Nat} {l1 : Int32} {l2 : Int32} {l3 : Int32}  {x4 : Option Value} {h : zH} {p : (Unit × zH)}, zn2 x4 = true → r9 l0 l1 l2 l3 h = some p → Q (eV p.1) p.2 → zW d 118 9 [some (.ref l0), some (.int l1), some (.int l2), some (.int l3), x4] [] h Q) {h : zH} {p : (Unit × zH)} (hx4 : zn2 x4 = true) (hF : b118_9 n  r9 l0 l1 l2 l3 h = some p) (q : Q (eV p.1) p.2) : zW d 118 9 [some (.ref l0), some (.int l1), some (.int l2), some (.int l3), x4] [] h Q := by
  unfold b118_9 at hF
  obtain ⟨d, rfl⟩ : ∃ e, d = e + 1 := ⟨d - 1, by omega⟩
  refine zx_iload_n rfl rfl rfl ?_
  refine zx_iload_n rfl rfl rfl ?_
  refine zx_ic_ge rfl rfl (fun c1 => ?_) (fun c1 => ?_)
  · rw [if_pos c1] at hF
    replace hF := Option.some.inj hF
    subst hF
    exact zx_return rfl rfl rfl q
  · rw [if_neg c1] at hF
    refine zx_aload_n rfl rfl rfl ?_
    refine zx_iload_n rfl rfl rfl ?_
    refine zx_iload_n rfl rfl rfl ?_
    replace hF := zgd_some hF
    obtain ⟨g2, hF⟩ := hF
    replace hF := zbnd hF
    obtain ⟨p4, e3, hF⟩ := hF
    refine zx_callE rfl rfl rfl rfl (zrcv_isO g2) rfl rfl (zc4 (Nat.le_of_ble_eq_true rfl)) (t119 (by omega) e3 (zaI ?_))
    refine zx_istore rfl rfl rfl ?_
    refine zx_aload_n rfl rfl rfl ?_
    replace hF := zbnd hF
    obtain ⟨x5, e6, hF⟩ := hF
    refine zy_getR rfl rfl e6 ?_
    refine zx_iload_n rfl rfl rfl ?_
    refine zx_iload rfl rfl rfl ?_
    replace hF := zbnd hF
    obtain ⟨a7, rfl, hF⟩ := hF
    replace hF := zbnd hF
    obtain ⟨h8, e9, hF⟩ := hF
    refine zy_sI rfl rfl e9 ?_
    refine zx_iload_n rfl rfl rfl ?_
    refine zx_iconst (v := 1) rfl rfl rfl ?_
    refine zx_iload rfl rfl rfl ?_
    refine zx_ishl rfl rfl ?_
    refine zx_ior rfl rfl ?_
    refine zx_istore_n rfl rfl rfl ?_
    refine zx_iinc (w := 1) rfl rfl rfl rfl rfl ?_
    refine zx_goto rfl rfl ?_
    exact hr9 rfl hF q
def f118_9 (n : Nat)   (k : Nat) : Nat → Int32 → Int32 → Int32 → zH → Option (Unit × zH) := Nat.rec (fun _ _ _ _ _ => none) (fun _ ih => b118_9 n  ih) k
theorem tf118_9 {d n : Nat} {Q : zRs → zH → Prop}   (hd : 2 ≤ d)   (k : Nat) : ∀ {l0 : Nat} {l1 : Int32} {l2 : Int32} {l3 : Int32}  {x4 : Option Value} {h : zH} {p : (Unit × zH)}, zn2 x4 = true → f118_9 n   k l0 l1 l2 l3 h = some p → Q (eV p.1) p.2 → zW d 118 9 [some (.ref l0), some (.int l1), some (.int l2), some (.int l3), x4] [] h Q := by
  induction k with
  | zero => intros; rename_i hF _; cases hF
  | succ k ih => intros; rename_i hx4 hF q; exact tb118_9 (n := n) hd  ih hx4 hF q
def f118 (n : Nat)  (y0 : Nat) (h : zH) : Option (Unit × zH) :=
  zgd (isO h y0 4) <|
  (f115 n y0 h).bind fun p3 =>
  f118_9 n  n y0 p3.1 0 0 p3.2
set_option maxRecDepth 20000 in
theorem t118 {d n : Nat} {Q : zRs → zH → Prop}  {y0 : Nat} (hd : 2 ≤ d)  {h : zH} {p : (Unit × zH)} (hF : f118 n  y0 h = some p) (q : Q (eV p.1) p.2) : zC d 118 [.ref y0] h Q := by
  refine zC_of (L := [some (.ref y0), none, none, none, none]) rfl rfl ?_
  unfold f118 at hF
  obtain ⟨d, rfl⟩ : ∃ e, d = e + 1 := ⟨d - 1, by omega⟩
  refine zx_aload_n rfl rfl rfl ?_
  replace hF := zgd_some hF
  obtain ⟨g1, hF⟩ := hF
  replace hF := zbnd hF
  obtain ⟨p3, e2, hF⟩ := hF
  refine zx_callE rfl rfl rfl rfl (zrcv_isO g1) rfl rfl (zc4 (Nat.le_of_ble_eq_true rfl)) (t115 (by omega) e2 (zaI ?_))
  refine zx_istore_n rfl rfl rfl ?_
  refine zx_iconst (v := 0) rfl rfl rfl ?_
  refine zx_istore_n rfl rfl rfl ?_
  refine zx_iconst (v := 0) rfl rfl rfl ?_
  refine zx_istore_n rfl rfl rfl ?_
  exact tf118_9 hd  n (l0 := y0) (l1 := p3.1) (l2 := 0) (l3 := 0) rfl hF q
def b65_100 (n : Nat)   (l0 : Nat) (l1 : Int32) (h : zH) : Option ((Unit ⊕ Nat) × zH) :=
  zgd (isO h l0 5) <|
  (f111 n l0 h).bind fun p6 => zth p6 (fun r3 h4 =>
    (gR h4 l0 5 0).bind fun x7 =>
    x7.bind fun a9 =>
    zgd (isO h4 a9 4) <|
    (f114 n a9 h4).bind fun p12 =>
    zgd (isO p12.2 l0 5) <|
    (f117 n l0 p12.2).bind fun p18 => zth p18 (fun r15 h16 =>
      (gR h16 l0 5 0).bind fun x19 =>
      x19.bind fun a21 =>
      zgd (isO h16 a21 4) <|
      (f118 n a21 h16).bind fun p24 =>
      some (.inl (), p24.2))
      (fun x17 h16 =>
      zgd (exOk x17) <| some (.inr x17, h16)))
    (fun x5 h4 =>
    zgd (exOk x5) <| some (.inr x5, h4))
set_option maxRecDepth 20000 in
theorem tb65_100 {d n : Nat} {Q : zRs → zH → Prop}   {l0 : Nat} {l1 : Int32}   (hd : 71 ≤ d)   {h : zH} {p : ((Unit ⊕ Nat) × zH)}  (hF : b65_100 n   l0 l1 h = some p) (q : Q (eVx p.1) p.2) : zW d 65 100 [some (.ref l0), some (.int l1)] [] h Q := by
  unfold b65_100 at hF
  obtain ⟨d, rfl⟩ : ∃ e, d = e + 1 := ⟨d - 1, by omega⟩
  refine zx_aload_n rfl rfl rfl ?_
  replace hF := zgd_some hF
  obtain ⟨g1, hF⟩ := hF
  replace hF := zbnd hF
  obtain ⟨⟨r3, h4⟩, e2, hF⟩ := hF
  refine zx_callE rfl rfl rfl rfl (zrcv_isO g1) rfl rfl (zc4 (Nat.le_of_ble_eq_true rfl)) (t111 (by omega) e2 ?_)
  rcases r3 with r3 | x5
  rotate_left 1
  · replace hF := zthH hF
    replace hF := zgd_some hF
    obtain ⟨gx, hF⟩ := hF
    replace hF := Option.some.inj hF
    subst hF
    exact zaX rfl gx q
  replace hF := zthG hF
  refine zaV (x := ()) ?_
  refine zx_aload_n rfl rfl rfl ?_
  replace hF := zbnd hF
  obtain ⟨x7, e8, hF⟩ := hF
  refine zy_getR rfl rfl e8 ?_
  replace hF := zbnd hF
  obtain ⟨a9, rfl, hF⟩ := hF
  replace hF := zgd_some hF
  obtain ⟨g10, hF⟩ := hF
  replace hF := zbnd hF
  obtain ⟨p12, e11, hF⟩ := hF
  refine zx_callE rfl rfl rfl rfl (zrcv_isO g10) rfl rfl (zc4 (Nat.le_of_ble_eq_true rfl)) (t114 (by omega) e11 (zaV ?_))
  refine zx_aload_n rfl rfl rfl ?_
  replace hF := zgd_some hF
  obtain ⟨g13, hF⟩ := hF
  replace hF := zbnd hF
  obtain ⟨⟨r15, h16⟩, e14, hF⟩ := hF
  refine zx_callE rfl rfl rfl rfl (zrcv_isO g13) rfl rfl (zc4 (Nat.le_of_ble_eq_true rfl)) (t117 (by omega) e14 ?_)
  rcases r15 with r15 | x17
  rotate_left 1
  · replace hF := zthH hF
    replace hF := zgd_some hF
    obtain ⟨gx, hF⟩ := hF
    replace hF := Option.some.inj hF
    subst hF
    exact zaX rfl gx q
  replace hF := zthG hF
  refine zaV (x := ()) ?_
  refine zx_aload_n rfl rfl rfl ?_
  replace hF := zbnd hF
  obtain ⟨x19, e20, hF⟩ := hF
  refine zy_getR rfl rfl e20 ?_
  replace hF := zbnd hF
  obtain ⟨a21, rfl, hF⟩ := hF
  replace hF := zgd_some hF
  obtain ⟨g22, hF⟩ := hF
  replace hF := zbnd hF
  obtain ⟨p24, e23, hF⟩ := hF
  refine zx_callE rfl rfl rfl rfl (zrcv_isO g22) rfl rfl (zc4 (Nat.le_of_ble_eq_true rfl)) (t118 (by omega) e23 (zaV ?_))
  replace hF := Option.some.inj hF
  subst hF
  exact zx_return rfl rfl rfl q
def b65_94 (n : Nat)  (r2 : Nat → Int32 → zH → Option ((Unit ⊕ Nat) × zH)) (l0 : Nat) (l1 : Int32) (h : zH) : Option ((Unit ⊕ Nat) × zH) :=
  r2 l0 (l1 + 1) h
set_option maxRecDepth 20000 in
theorem tb65_94 {d n : Nat} {Q : zRs → zH → Prop}  {r2 : Nat → Int32 → zH → Option ((Unit ⊕ Nat) × zH)} {l0 : Nat} {l1 : Int32}   (hd : 71 ≤ d)  (hr2 : ∀ {l0 : Nat} {l1 : Int32}   {h : zH} {p : ((Unit ⊕ Nat) × zH)}, r2 l0 l1 h = some p → Q (eVx p.1) p.2 → zW d 65 2 [some (.ref l0), some (.int l1)] [] h Q) {h : zH} {p : ((Unit ⊕ Nat) × zH)}  (hF : b65_94 n  r2 l0 l1 h = some p) (q : Q (eVx p.1) p.2) : zW d 65 94 [some (.ref l0), some (.int l1)] [] h Q := by
  unfold b65_94 at hF
  obtain ⟨d, rfl⟩ : ∃ e, d = e + 1 := ⟨d - 1, by omega⟩
  refine zx_iinc (w := 1) rfl rfl rfl rfl rfl ?_
  refine zx_goto rfl rfl ?_
  exact hr2  hF q
def b65_2 (n : Nat)  (r2 : Nat → Int32 → zH → Option ((Unit ⊕ Nat) × zH)) (l0 : Nat) (l1 : Int32) (h : zH) : Option ((Unit ⊕ Nat) × zH) :=
  if (6000 : Int32) ≤ l1 then
    b65_100 n  l0 l1 h
  else
    (gR h l0 5 3).bind fun x2 =>
    x2.bind fun a4 =>
    (gR h a4 9 0).bind fun x5 =>
    (rEq x5 (some 1)).bind fun b7 =>
    if b7 = true then
      b65_100 n  l0 l1 h
    else
      (gR h l0 5 3).bind fun x10 =>
      x10.bind fun a12 =>
      (gR h a12 9 0).bind fun x13 =>
      x13.bind fun a15 =>
      zgd (isO h a15 15) <|
      (f66 n a15 h).bind fun p18 =>
      (aI p18.2 45 p18.1).bind fun x19 =>
      if x19 = 1 then
        zgd (isO p18.2 l0 5) <|
        (f67 n l0 p18.2).bind fun p27 => zth p27 (fun r24 h25 =>
          b65_94 n r2 l0 l1 h25)
          (fun x26 h25 =>
          zgd (exOk x26) <| some (.inr x26, h25))
      else
      if x19 = 2 then
        zgd (isO p18.2 l0 5) <|
        (f90 n l0 p18.2).bind fun p34 => zth p34 (fun r31 h32 =>
          b65_94 n r2 l0 l1 h32)
          (fun x33 h32 =>
          zgd (exOk x33) <| some (.inr x33, h32))
      else
      if x19 = 3 then
        zgd (isO p18.2 l0 5) <|
        (f107 n l0 p18.2).bind fun p41 => zth p41 (fun r38 h39 =>
          b65_94 n r2 l0 l1 h39)
          (fun x40 h39 =>
          zgd (exOk x40) <| some (.inr x40, h39))
      else
      (gR p18.2 l0 5 3).bind fun x42 =>
      zgd (isO p18.2 l0 5) <|
      (f70 n l0 2 x42 p18.2).bind fun p49 => zth p49 (fun r46 h47 =>
        b65_94 n r2 l0 l1 h47)
        (fun x48 h47 =>
        zgd (exOk x48) <| some (.inr x48, h47))
set_option maxRecDepth 20000 in
theorem tb65_2 {d n : Nat} {Q : zRs → zH → Prop}  {r2 : Nat → Int32 → zH → Option ((Unit ⊕ Nat) × zH)} {l0 : Nat} {l1 : Int32}   (hd : 71 ≤ d)  (hr2 : ∀ {l0 : Nat} {l1 : Int32}   {h : zH} {p : ((Unit ⊕ Nat) × zH)}, r2 l0 l1 h = some p → Q (eVx p.1) p.2 → zW d 65 2 [some (.ref l0), some (.int l1)] [] h Q) {h : zH} {p : ((Unit ⊕ Nat) × zH)}  (hF : b65_2 n  r2 l0 l1 h = some p) (q : Q (eVx p.1) p.2) : zW d 65 2 [some (.ref l0), some (.int l1)] [] h Q := by
  unfold b65_2 at hF
  obtain ⟨d, rfl⟩ : ∃ e, d = e + 1 := ⟨d - 1, by omega⟩
  refine zx_iload_n rfl rfl rfl ?_
  refine zx_sipush (v := 6000) rfl rfl rfl ?_
  refine zx_ic_ge rfl rfl (fun c1 => ?_) (fun c1 => ?_)
  · rw [if_pos c1] at hF
    exact tb65_100 (l0 := l0) (l1 := l1) hd   hF q
  · rw [if_neg c1] at hF
    refine zx_aload_n rfl rfl rfl ?_
    replace hF := zbnd hF
    obtain ⟨x2, e3, hF⟩ := hF
    refine zy_getR rfl rfl e3 ?_
    replace hF := zbnd hF
    obtain ⟨a4, rfl, hF⟩ := hF
    replace hF := zbnd hF
    obtain ⟨x5, e6, hF⟩ := hF
    refine zy_getR rfl rfl e6 ?_
    refine zx_gets rfl rfl rfl ?_
    replace hF := zbnd hF
    obtain ⟨b7, e8, hF⟩ := hF
    refine zy_aeq rfl rfl e8 (fun c9 => ?_) (fun c9 => ?_)
    · rw [if_pos c9] at hF
      exact tb65_100 (l0 := l0) (l1 := l1) hd   hF q
    · rw [if_neg (by rw [c9]; exact Bool.false_ne_true)] at hF
      refine zx_gets rfl rfl rfl ?_
      refine zx_aload_n rfl rfl rfl ?_
      replace hF := zbnd hF
      obtain ⟨x10, e11, hF⟩ := hF
      refine zy_getR rfl rfl e11 ?_
      replace hF := zbnd hF
      obtain ⟨a12, rfl, hF⟩ := hF
      replace hF := zbnd hF
      obtain ⟨x13, e14, hF⟩ := hF
      refine zy_getR rfl rfl e14 ?_
      replace hF := zbnd hF
      obtain ⟨a15, rfl, hF⟩ := hF
      replace hF := zgd_some hF
      obtain ⟨g16, hF⟩ := hF
      replace hF := zbnd hF
      obtain ⟨p18, e17, hF⟩ := hF
      refine zx_callF rfl rfl rfl rfl (zrcv_isO g16) rfl rfl (zc4 (Nat.le_of_ble_eq_true rfl)) (t66 (by omega) e17 (zaI ?_))
      replace hF := zbnd hF
      obtain ⟨x19, e20, hF⟩ := hF
      refine zy_aI rfl rfl e20 ?_
      by_cases c21 : x19 = 1
      · rw [if_pos c21] at hF
        refine zw_switch rfl rfl (t := 64) (by rw [c21]; rfl) ?_
        refine zx_aload_n rfl rfl rfl ?_
        replace hF := zgd_some hF
        obtain ⟨g22, hF⟩ := hF
        replace hF := zbnd hF
        obtain ⟨⟨r24, h25⟩, e23, hF⟩ := hF
        refine zx_callE rfl rfl rfl rfl (zrcv_isO g22) rfl rfl (zc4 (Nat.le_of_ble_eq_true rfl)) (t67 (by omega) e23 ?_)
        rcases r24 with r24 | x26
        rotate_left 1
        · replace hF := zthH hF
          replace hF := zgd_some hF
          obtain ⟨gx, hF⟩ := hF
          replace hF := Option.some.inj hF
          subst hF
          exact zaX rfl gx q
        replace hF := zthG hF
        refine zaV (x := ()) ?_
        refine zx_goto rfl rfl ?_
        exact tb65_94 (l0 := l0) (l1 := l1) hd hr2  hF q
      rw [if_neg c21] at hF
      by_cases c28 : x19 = 2
      · rw [if_pos c28] at hF
        refine zw_switch rfl rfl (t := 71) (by rw [c28]; rfl) ?_
        refine zx_aload_n rfl rfl rfl ?_
        replace hF := zgd_some hF
        obtain ⟨g29, hF⟩ := hF
        replace hF := zbnd hF
        obtain ⟨⟨r31, h32⟩, e30, hF⟩ := hF
        refine zx_callE rfl rfl rfl rfl (zrcv_isO g29) rfl rfl (zc4 (Nat.le_of_ble_eq_true rfl)) (t90 (by omega) e30 ?_)
        rcases r31 with r31 | x33
        rotate_left 1
        · replace hF := zthH hF
          replace hF := zgd_some hF
          obtain ⟨gx, hF⟩ := hF
          replace hF := Option.some.inj hF
          subst hF
          exact zaX rfl gx q
        replace hF := zthG hF
        refine zaV (x := ()) ?_
        refine zx_goto rfl rfl ?_
        exact tb65_94 (l0 := l0) (l1 := l1) hd hr2  hF q
      rw [if_neg c28] at hF
      by_cases c35 : x19 = 3
      · rw [if_pos c35] at hF
        refine zw_switch rfl rfl (t := 78) (by rw [c35]; rfl) ?_
        refine zx_aload_n rfl rfl rfl ?_
        replace hF := zgd_some hF
        obtain ⟨g36, hF⟩ := hF
        replace hF := zbnd hF
        obtain ⟨⟨r38, h39⟩, e37, hF⟩ := hF
        refine zx_callE rfl rfl rfl rfl (zrcv_isO g36) rfl rfl (zc4 (Nat.le_of_ble_eq_true rfl)) (t107 (by omega) e37 ?_)
        rcases r38 with r38 | x40
        rotate_left 1
        · replace hF := zthH hF
          replace hF := zgd_some hF
          obtain ⟨gx, hF⟩ := hF
          replace hF := Option.some.inj hF
          subst hF
          exact zaX rfl gx q
        replace hF := zthG hF
        refine zaV (x := ()) ?_
        refine zx_goto rfl rfl ?_
        exact tb65_94 (l0 := l0) (l1 := l1) hd hr2  hF q
      rw [if_neg c35] at hF
      have zc21 := zne c21 (z := 1) (by decide)
      have zc28 := zne c28 (z := 2) (by decide)
      have zc35 := zne c35 (z := 3) (by decide)
      refine zw_switch rfl rfl (t := 85) (zsw_d (by omega) (by decide) (by decide)) ?_
      refine zx_aload_n rfl rfl rfl ?_
      refine zx_iconst (v := 2) rfl rfl rfl ?_
      refine zx_aload_n rfl rfl rfl ?_
      replace hF := zbnd hF
      obtain ⟨x42, e43, hF⟩ := hF
      refine zy_getR rfl rfl e43 ?_
      replace hF := zgd_some hF
      obtain ⟨g44, hF⟩ := hF
      replace hF := zbnd hF
      obtain ⟨⟨r46, h47⟩, e45, hF⟩ := hF
      refine zx_callE rfl rfl rfl rfl (zrcv_isO g44) (congrArg (List.cons _) (congrArg (List.cons _) ((zsl_rf _ _).trans (congrArg (List.cons _) rfl)))) rfl (zc4 (Nat.le_of_ble_eq_true rfl)) (t70 (by omega) e45 ?_)
      rcases r46 with r46 | x48
      rotate_left 1
      · replace hF := zthH hF
        replace hF := zgd_some hF
        obtain ⟨gx, hF⟩ := hF
        replace hF := Option.some.inj hF
        subst hF
        exact zaX rfl gx q
      replace hF := zthG hF
      refine zaV (x := ()) ?_
      exact tb65_94 (l0 := l0) (l1 := l1) hd hr2  hF q
def f65_2 (n : Nat)   (k : Nat) : Nat → Int32 → zH → Option ((Unit ⊕ Nat) × zH) := Nat.rec (fun _ _ _ => none) (fun _ ih => b65_2 n  ih) k
theorem tf65_2 {d n : Nat} {Q : zRs → zH → Prop}   (hd : 71 ≤ d)   (k : Nat) : ∀ {l0 : Nat} {l1 : Int32}   {h : zH} {p : ((Unit ⊕ Nat) × zH)}, f65_2 n   k l0 l1 h = some p → Q (eVx p.1) p.2 → zW d 65 2 [some (.ref l0), some (.int l1)] [] h Q := by
  induction k with
  | zero => intros; rename_i hF _; cases hF
  | succ k ih => intros; rename_i  hF q; exact tb65_2 (n := n) hd  ih  hF q
def f65 (n : Nat)  (y0 : Nat) (h : zH) : Option ((Unit ⊕ Nat) × zH) :=
  f65_2 n  n y0 0 h
set_option maxRecDepth 20000 in
theorem t65 {d n : Nat} {Q : zRs → zH → Prop}  {y0 : Nat} (hd : 71 ≤ d)  {h : zH} {p : ((Unit ⊕ Nat) × zH)} (hF : f65 n  y0 h = some p) (q : Q (eVx p.1) p.2) : zC d 65 [.ref y0] h Q := by
  refine zC_of (L := [some (.ref y0), none]) rfl rfl ?_
  unfold f65 at hF
  obtain ⟨d, rfl⟩ : ∃ e, d = e + 1 := ⟨d - 1, by omega⟩
  refine zx_iconst (v := 0) rfl rfl rfl ?_
  refine zx_istore_n rfl rfl rfl ?_
  exact tf65_2 hd  n (l0 := y0) (l1 := 0)  hF q
def f120 (n : Nat)  (y0 : Nat) (h : zH) : Option (Unit × zH) :=
  (gR h y0 1 5).bind fun x1 =>
  (f4 n x1 (-1) h).bind fun p4 =>
  some ((), p4.2)
set_option maxRecDepth 20000 in
theorem t120 {d n : Nat} {Q : zRs → zH → Prop}  {y0 : Nat} (hd : 1 ≤ d)  {h : zH} {p : (Unit × zH)} (hF : f120 n  y0 h = some p) (q : Q (eV p.1) p.2) : zC d 120 [.ref y0] h Q := by
  refine zC_of (L := [some (.ref y0)]) rfl rfl ?_
  unfold f120 at hF
  obtain ⟨d, rfl⟩ : ∃ e, d = e + 1 := ⟨d - 1, by omega⟩
  refine zx_aload_n rfl rfl rfl ?_
  replace hF := zbnd hF
  obtain ⟨x1, e2, hF⟩ := hF
  refine zy_getR rfl rfl e2 ?_
  refine zx_iconst (v := (-1)) rfl rfl rfl ?_
  replace hF := zbnd hF
  obtain ⟨p4, e3, hF⟩ := hF
  refine zx_callE rfl rfl rfl rfl rfl ((zsl_rf _ _).trans (congrArg (List.cons _) rfl)) rfl (zc4 (Nat.le_of_ble_eq_true rfl)) (t4 (by omega) e3 (zaV ?_))
  replace hF := Option.some.inj hF
  subst hF
  exact zx_return rfl rfl rfl q
def f9 (n : Nat)  (y0 : Nat) (h : zH) : Option (Int32 × zH) :=
  (gR (nO h 5 4) y0 10 0).bind fun x1 =>
  x1.bind fun a3 =>
  zgd (isO (nO h 5 4) a3 8) <|
  (f10 n a3 (nO h 5 4)).bind fun p6 =>
  (f64 n h.1.length p6.1 p6.2).bind fun p8 =>
  zgd (isO p8.2 h.1.length 5) <|
  (f65 n h.1.length p8.2).bind fun p14 => zth p14 (fun r11 h12 =>
    (pF h12 y0 10 3 (.int 0)).bind fun h22 =>
    (gR h22 h.1.length 5 0).bind fun x24 =>
    (pF h22 y0 10 2 (va_rf x24)).bind fun h26 =>
    (gR h26 y0 10 1).bind fun x28 =>
    x28.bind fun a30 =>
    zgd (isO h26 a30 1) <|
    (f120 n a30 h26).bind fun p33 =>
    (gR p33.2 y0 10 2).bind fun x34 =>
    x34.bind fun a36 =>
    (gR p33.2 a36 4 4).bind fun x37 =>
    x37.bind fun a39 =>
    zgd (isO p33.2 a39 14) <|
    (f68 n a39 p33.2).bind fun p42 =>
    some (p42.1, p42.2))
    (fun x13 h12 =>
    if x13 = 18 then
      (gI h12 h.1.length 5 1).bind fun x16 =>
      (pF h12 y0 10 3 (.int x16)).bind fun h18 =>
      (gI h18 h.1.length 5 2).bind fun x20 =>
      some (((-1) - x20), h18)
    else
    none)
set_option maxRecDepth 20000 in
theorem t9 {d n : Nat} {Q : zRs → zH → Prop}  {y0 : Nat} (hd : 72 ≤ d)  {h : zH} {p : (Int32 × zH)} (hF : f9 n  y0 h = some p) (q : Q (eI p.1) p.2) : zC d 9 [.ref y0] h Q := by
  refine zC_of (L := [some (.ref y0), none, none]) rfl rfl ?_
  unfold f9 at hF
  obtain ⟨d, rfl⟩ : ∃ e, d = e + 1 := ⟨d - 1, by omega⟩
  refine zy_new rfl rfl ?_
  refine zx_dup rfl rfl rfl ?_
  refine zx_aload_n rfl rfl rfl ?_
  replace hF := zbnd hF
  obtain ⟨x1, e2, hF⟩ := hF
  refine zy_getR rfl rfl e2 ?_
  replace hF := zbnd hF
  obtain ⟨a3, rfl, hF⟩ := hF
  replace hF := zgd_some hF
  obtain ⟨g4, hF⟩ := hF
  replace hF := zbnd hF
  obtain ⟨p6, e5, hF⟩ := hF
  refine zx_callE rfl rfl rfl rfl (zrcv_isO g4) rfl rfl (zc4 (Nat.le_of_ble_eq_true rfl)) (t10 (by omega) e5 (zaA ?_))
  replace hF := zbnd hF
  obtain ⟨p8, e7, hF⟩ := hF
  refine zx_callF rfl rfl rfl rfl rfl (congrArg (List.cons _) ((zsl_rf _ _).trans (congrArg (List.cons _) rfl))) rfl (zc4 (Nat.le_of_ble_eq_true rfl)) (t64 (by omega) e7 (zaV ?_))
  refine zx_astore_n rfl rfl rfl ?_
  refine zx_aload_n rfl rfl rfl ?_
  replace hF := zgd_some hF
  obtain ⟨g9, hF⟩ := hF
  replace hF := zbnd hF
  obtain ⟨⟨r11, h12⟩, e10, hF⟩ := hF
  refine zx_callE rfl rfl rfl rfl (zrcv_isO g9) rfl rfl (zc4 (Nat.le_of_ble_eq_true rfl)) (t65 (by omega) e10 ?_)
  rcases r11 with r11 | x13
  rotate_left 1
  · replace hF := zthH hF
    by_cases c15 : x13 = 18
    · subst c15
      refine zaH (hp := 22) rfl ?_
      refine zx_ustore_n rfl rfl rfl ?_
      refine zx_aload_n rfl rfl rfl ?_
      refine zx_aload_n rfl rfl rfl ?_
      replace hF := zbnd hF
      obtain ⟨x16, e17, hF⟩ := hF
      refine zy_getI rfl rfl e17 ?_
      replace hF := zbnd hF
      obtain ⟨h18, e19, hF⟩ := hF
      refine zy_put rfl rfl e19 ?_
      refine zx_iconst (v := (-1)) rfl rfl rfl ?_
      refine zx_aload_n rfl rfl rfl ?_
      replace hF := zbnd hF
      obtain ⟨x20, e21, hF⟩ := hF
      refine zy_getI rfl rfl e21 ?_
      refine zx_isub rfl rfl ?_
      replace hF := Option.some.inj hF
      subst hF
      exact zx_bret rfl rfl rfl rfl q
    have hF : (if x13 = 18 then _ else _) = _ := hF
    rw [if_neg c15] at hF
    cases hF
  replace hF := zthG hF
  refine zaV (x := ()) ?_
  refine zx_goto rfl rfl ?_
  refine zx_aload_n rfl rfl rfl ?_
  refine zx_iconst (v := 0) rfl rfl rfl ?_
  replace hF := zbnd hF
  obtain ⟨h22, e23, hF⟩ := hF
  refine zy_put rfl rfl e23 ?_
  refine zx_aload_n rfl rfl rfl ?_
  refine zx_aload_n rfl rfl rfl ?_
  replace hF := zbnd hF
  obtain ⟨x24, e25, hF⟩ := hF
  refine zy_getR rfl rfl e25 ?_
  replace hF := zbnd hF
  obtain ⟨h26, e27, hF⟩ := hF
  refine zy_put rfl rfl e27 ?_
  refine zx_aload_n rfl rfl rfl ?_
  replace hF := zbnd hF
  obtain ⟨x28, e29, hF⟩ := hF
  refine zy_getR rfl rfl e29 ?_
  replace hF := zbnd hF
  obtain ⟨a30, rfl, hF⟩ := hF
  replace hF := zgd_some hF
  obtain ⟨g31, hF⟩ := hF
  replace hF := zbnd hF
  obtain ⟨p33, e32, hF⟩ := hF
  refine zx_callE rfl rfl rfl rfl (zrcv_isO g31) rfl rfl (zc4 (Nat.le_of_ble_eq_true rfl)) (t120 (by omega) e32 (zaV ?_))
  refine zx_aload_n rfl rfl rfl ?_
  replace hF := zbnd hF
  obtain ⟨x34, e35, hF⟩ := hF
  refine zy_getR rfl rfl e35 ?_
  replace hF := zbnd hF
  obtain ⟨a36, rfl, hF⟩ := hF
  replace hF := zbnd hF
  obtain ⟨x37, e38, hF⟩ := hF
  refine zy_getR rfl rfl e38 ?_
  replace hF := zbnd hF
  obtain ⟨a39, rfl, hF⟩ := hF
  replace hF := zgd_some hF
  obtain ⟨g40, hF⟩ := hF
  replace hF := zbnd hF
  obtain ⟨p42, e41, hF⟩ := hF
  refine zx_callE rfl rfl rfl rfl (zrcv_isO g40) rfl rfl (zc4 (Nat.le_of_ble_eq_true rfl)) (t68 (by omega) e41 (zaI ?_))
  replace hF := Option.some.inj hF
  subst hF
  exact zx_bret rfl rfl rfl rfl q
def f121 (n : Nat)  (y0 : Nat) (h : zH) : Option (Int32 × zH) :=
  (gI h y0 10 3).bind fun x1 =>
  some (x1, h)
set_option maxRecDepth 20000 in
theorem t121 {d n : Nat} {Q : zRs → zH → Prop}  {y0 : Nat} (hd : 0 ≤ d)  {h : zH} {p : (Int32 × zH)} (hF : f121 n  y0 h = some p) (q : Q (eI p.1) p.2) : zC d 121 [.ref y0] h Q := by
  refine zC_of (L := [some (.ref y0)]) rfl rfl ?_
  unfold f121 at hF
  refine zx_aload_n rfl rfl rfl ?_
  replace hF := zbnd hF
  obtain ⟨x1, e2, hF⟩ := hF
  refine zy_getI rfl rfl e2 ?_
  replace hF := Option.some.inj hF
  subst hF
  exact zx_bret rfl rfl rfl rfl q
def f123 (n : Nat)  (y0 : Nat) (h : zH) : Option (Int32 × zH) :=
  (gI h y0 1 2).bind fun x1 =>
  (pF h y0 1 2 (.int 0)).bind fun h3 =>
  some (x1, h3)
set_option maxRecDepth 20000 in
theorem t123 {d n : Nat} {Q : zRs → zH → Prop}  {y0 : Nat} (hd : 0 ≤ d)  {h : zH} {p : (Int32 × zH)} (hF : f123 n  y0 h = some p) (q : Q (eI p.1) p.2) : zC d 123 [.ref y0] h Q := by
  refine zC_of (L := [some (.ref y0), none]) rfl rfl ?_
  unfold f123 at hF
  refine zx_aload_n rfl rfl rfl ?_
  replace hF := zbnd hF
  obtain ⟨x1, e2, hF⟩ := hF
  refine zy_getI rfl rfl e2 ?_
  refine zx_istore_n rfl rfl rfl ?_
  refine zx_aload_n rfl rfl rfl ?_
  refine zx_iconst (v := 0) rfl rfl rfl ?_
  replace hF := zbnd hF
  obtain ⟨h3, e4, hF⟩ := hF
  refine zy_put rfl rfl e4 ?_
  refine zx_iload_n rfl rfl rfl ?_
  replace hF := Option.some.inj hF
  subst hF
  exact zx_bret rfl rfl rfl rfl q
def f122 (n : Nat)  (y0 : Nat) (h : zH) : Option (Int32 × zH) :=
  (gR h y0 10 1).bind fun x1 =>
  x1.bind fun a3 =>
  zgd (isO h a3 1) <|
  (f123 n a3 h).bind fun p6 =>
  some (p6.1, p6.2)
set_option maxRecDepth 20000 in
theorem t122 {d n : Nat} {Q : zRs → zH → Prop}  {y0 : Nat} (hd : 1 ≤ d)  {h : zH} {p : (Int32 × zH)} (hF : f122 n  y0 h = some p) (q : Q (eI p.1) p.2) : zC d 122 [.ref y0] h Q := by
  refine zC_of (L := [some (.ref y0)]) rfl rfl ?_
  unfold f122 at hF
  obtain ⟨d, rfl⟩ : ∃ e, d = e + 1 := ⟨d - 1, by omega⟩
  refine zx_aload_n rfl rfl rfl ?_
  replace hF := zbnd hF
  obtain ⟨x1, e2, hF⟩ := hF
  refine zy_getR rfl rfl e2 ?_
  replace hF := zbnd hF
  obtain ⟨a3, rfl, hF⟩ := hF
  replace hF := zgd_some hF
  obtain ⟨g4, hF⟩ := hF
  replace hF := zbnd hF
  obtain ⟨p6, e5, hF⟩ := hF
  refine zx_callE rfl rfl rfl rfl (zrcv_isO g4) rfl rfl (zc4 (Nat.le_of_ble_eq_true rfl)) (t123 (by omega) e5 (zaI ?_))
  replace hF := Option.some.inj hF
  subst hF
  exact zx_bret rfl rfl rfl rfl q
def b126_42 (n : Nat)  (r3 : Nat → Int32 → Int32 → zH → Option (Unit × zH)) (l0 : Nat) (l1 : Int32) (l2 : Int32) (h : zH) : Option (Unit × zH) :=
  r3 l0 l1 (l2 + (-8)) h
set_option maxRecDepth 20000 in
theorem tb126_42 {d n : Nat} {Q : zRs → zH → Prop}  {r3 : Nat → Int32 → Int32 → zH → Option (Unit × zH)} {l0 : Nat} {l1 : Int32} {l2 : Int32}   (hd : 0 ≤ d)  (hr3 : ∀ {l0 : Nat} {l1 : Int32} {l2 : Int32}   {h : zH} {p : (Unit × zH)}, r3 l0 l1 l2 h = some p → Q (eV p.1) p.2 → zW d 126 3 [some (.ref l0), some (.int l1), some (.int l2)] [] h Q) {h : zH} {p : (Unit × zH)}  (hF : b126_42 n  r3 l0 l1 l2 h = some p) (q : Q (eV p.1) p.2) : zW d 126 42 [some (.ref l0), some (.int l1), some (.int l2)] [] h Q := by
  unfold b126_42 at hF
  refine zx_iinc (w := (-8)) rfl rfl rfl rfl rfl ?_
  refine zx_goto rfl rfl ?_
  exact hr3  hF q
def b126_3 (n : Nat)  (r3 : Nat → Int32 → Int32 → zH → Option (Unit × zH)) (l0 : Nat) (l1 : Int32) (l2 : Int32) (h : zH) : Option (Unit × zH) :=
  if l2 < 0 then
    some ((), h)
  else
    (gI h l0 8 1).bind fun x2 =>
    (gR h l0 8 0).bind fun x4 =>
    x4.bind fun a6 =>
    (aN h a6).bind fun x7 =>
    if x7 ≤ x2 then
      b126_42 n r3 l0 l1 l2 h
    else
      (gR h l0 8 0).bind fun x10 =>
      (gI h l0 8 1).bind fun x12 =>
      x10.bind fun a14 =>
      (aS zsB h a14 x12 (.int ((l1 >>> (l2 &&& 31)).toInt8.toInt32))).bind fun h15 =>
      (gI h15 l0 8 1).bind fun x17 =>
      (pF h15 l0 8 1 (.int (x17 + 1))).bind fun h19 =>
      b126_42 n r3 l0 l1 l2 h19
set_option maxRecDepth 20000 in
theorem tb126_3 {d n : Nat} {Q : zRs → zH → Prop}  {r3 : Nat → Int32 → Int32 → zH → Option (Unit × zH)} {l0 : Nat} {l1 : Int32} {l2 : Int32}   (hd : 0 ≤ d)  (hr3 : ∀ {l0 : Nat} {l1 : Int32} {l2 : Int32}   {h : zH} {p : (Unit × zH)}, r3 l0 l1 l2 h = some p → Q (eV p.1) p.2 → zW d 126 3 [some (.ref l0), some (.int l1), some (.int l2)] [] h Q) {h : zH} {p : (Unit × zH)}  (hF : b126_3 n  r3 l0 l1 l2 h = some p) (q : Q (eV p.1) p.2) : zW d 126 3 [some (.ref l0), some (.int l1), some (.int l2)] [] h Q := by
  unfold b126_3 at hF
  refine zx_iload_n rfl rfl rfl ?_
  refine zx_if_lt rfl rfl (fun c1 => ?_) (fun c1 => ?_)
  · rw [if_pos c1] at hF
    replace hF := Option.some.inj hF
    subst hF
    exact zx_return rfl rfl rfl q
  · rw [if_neg c1] at hF
    refine zx_aload_n rfl rfl rfl ?_
    replace hF := zbnd hF
    obtain ⟨x2, e3, hF⟩ := hF
    refine zy_getI rfl rfl e3 ?_
    refine zx_aload_n rfl rfl rfl ?_
    replace hF := zbnd hF
    obtain ⟨x4, e5, hF⟩ := hF
    refine zy_getR rfl rfl e5 ?_
    replace hF := zbnd hF
    obtain ⟨a6, rfl, hF⟩ := hF
    replace hF := zbnd hF
    obtain ⟨x7, e8, hF⟩ := hF
    refine zy_alen rfl rfl e8 ?_
    refine zx_ic_ge rfl rfl (fun c9 => ?_) (fun c9 => ?_)
    · rw [if_pos c9] at hF
      exact tb126_42 (l0 := l0) (l1 := l1) (l2 := l2) hd hr3  hF q
    · rw [if_neg c9] at hF
      refine zx_aload_n rfl rfl rfl ?_
      replace hF := zbnd hF
      obtain ⟨x10, e11, hF⟩ := hF
      refine zy_getR rfl rfl e11 ?_
      refine zx_aload_n rfl rfl rfl ?_
      replace hF := zbnd hF
      obtain ⟨x12, e13, hF⟩ := hF
      refine zy_getI rfl rfl e13 ?_
      refine zx_iload_n rfl rfl rfl ?_
      refine zx_iload_n rfl rfl rfl ?_
      refine zx_ishr rfl rfl ?_
      refine zx_i2b rfl rfl ?_
      replace hF := zbnd hF
      obtain ⟨a14, rfl, hF⟩ := hF
      replace hF := zbnd hF
      obtain ⟨h15, e16, hF⟩ := hF
      refine zy_sB rfl rfl e16 ?_
      refine zx_aload_n rfl rfl rfl ?_
      refine zx_dup rfl rfl rfl ?_
      replace hF := zbnd hF
      obtain ⟨x17, e18, hF⟩ := hF
      refine zy_getI rfl rfl e18 ?_
      refine zx_iconst (v := 1) rfl rfl rfl ?_
      refine zx_iadd rfl rfl ?_
      replace hF := zbnd hF
      obtain ⟨h19, e20, hF⟩ := hF
      refine zy_put rfl rfl e20 ?_
      exact tb126_42 (l0 := l0) (l1 := l1) (l2 := l2) hd hr3  hF q
def f126_3 (n : Nat)   (k : Nat) : Nat → Int32 → Int32 → zH → Option (Unit × zH) := Nat.rec (fun _ _ _ _ => none) (fun _ ih => b126_3 n  ih) k
theorem tf126_3 {d n : Nat} {Q : zRs → zH → Prop}   (hd : 0 ≤ d)   (k : Nat) : ∀ {l0 : Nat} {l1 : Int32} {l2 : Int32}   {h : zH} {p : (Unit × zH)}, f126_3 n   k l0 l1 l2 h = some p → Q (eV p.1) p.2 → zW d 126 3 [some (.ref l0), some (.int l1), some (.int l2)] [] h Q := by
  induction k with
  | zero => intros; rename_i hF _; cases hF
  | succ k ih => intros; rename_i  hF q; exact tb126_3 (n := n) hd  ih  hF q
def f126 (n : Nat)  (y0 : Nat) (y1 : Int32) (h : zH) : Option (Unit × zH) :=
  f126_3 n  n y0 y1 24 h
set_option maxRecDepth 20000 in
theorem t126 {d n : Nat} {Q : zRs → zH → Prop}  {y0 : Nat} {y1 : Int32} (hd : 0 ≤ d)  {h : zH} {p : (Unit × zH)} (hF : f126 n  y0 y1 h = some p) (q : Q (eV p.1) p.2) : zC d 126 [.ref y0, .int y1] h Q := by
  refine zC_of (L := [some (.ref y0), some (.int y1), none]) rfl rfl ?_
  unfold f126 at hF
  refine zx_bipush (v := 24) rfl rfl rfl ?_
  refine zx_istore_n rfl rfl rfl ?_
  exact tf126_3 hd  n (l0 := y0) (l1 := y1) (l2 := 24)  hF q
def f125 (n : Nat)  (y0 : Nat) (y1 : Int32) (y2 : Int32) (y3 : Int32) (y4 : Int32) (y5 : Int32) (h : zH) : Option ((Int32 ⊕ Nat) × zH) :=
  (gR h y0 10 0).bind fun x1 =>
  x1.bind fun a3 =>
  (gI h a3 8 1).bind fun x4 =>
  if x4 ≤ 5980 then
    (gR h y0 10 0).bind fun x7 =>
    x7.bind fun a9 =>
    zgd (isO h a9 8) <|
    (f126 n a9 y1 h).bind fun p12 =>
    (gR p12.2 y0 10 0).bind fun x13 =>
    x13.bind fun a15 =>
    zgd (isO p12.2 a15 8) <|
    (f126 n a15 y2 p12.2).bind fun p18 =>
    (gR p18.2 y0 10 0).bind fun x19 =>
    x19.bind fun a21 =>
    zgd (isO p18.2 a21 8) <|
    (f126 n a21 y3 p18.2).bind fun p24 =>
    (gR p24.2 y0 10 0).bind fun x25 =>
    x25.bind fun a27 =>
    zgd (isO p24.2 a27 8) <|
    (f126 n a27 y4 p24.2).bind fun p30 =>
    (gR p30.2 y0 10 0).bind fun x31 =>
    x31.bind fun a33 =>
    zgd (isO p30.2 a33 8) <|
    (f126 n a33 y5 p30.2).bind fun p36 =>
    (gR p36.2 y0 10 0).bind fun x37 =>
    x37.bind fun a39 =>
    (gI p36.2 a39 8 1).bind fun x40 =>
    some (.inl x40, p36.2)
  else
    some (.inr 19, thH h)
set_option maxRecDepth 20000 in
theorem t125 {d n : Nat} {Q : zRs → zH → Prop}  {y0 : Nat} {y1 : Int32} {y2 : Int32} {y3 : Int32} {y4 : Int32} {y5 : Int32} (hd : 1 ≤ d)  {h : zH} {p : ((Int32 ⊕ Nat) × zH)} (hF : f125 n  y0 y1 y2 y3 y4 y5 h = some p) (q : Q (eIx p.1) p.2) : zC d 125 [.ref y0, .int y1, .int y2, .int y3, .int y4, .int y5] h Q := by
  refine zC_of (L := [some (.ref y0), some (.int y1), some (.int y2), some (.int y3), some (.int y4), some (.int y5)]) rfl rfl ?_
  unfold f125 at hF
  obtain ⟨d, rfl⟩ : ∃ e, d = e + 1 := ⟨d - 1, by omega⟩
  refine zx_aload_n rfl rfl rfl ?_
  replace hF := zbnd hF
  obtain ⟨x1, e2, hF⟩ := hF
  refine zy_getR rfl rfl e2 ?_
  replace hF := zbnd hF
  obtain ⟨a3, rfl, hF⟩ := hF
  replace hF := zbnd hF
  obtain ⟨x4, e5, hF⟩ := hF
  refine zy_getI rfl rfl e5 ?_
  refine zx_sipush (v := 5980) rfl rfl rfl ?_
  refine zx_ic_le rfl rfl (fun c6 => ?_) (fun c6 => ?_)
  · rw [if_pos c6] at hF
    refine zx_aload_n rfl rfl rfl ?_
    replace hF := zbnd hF
    obtain ⟨x7, e8, hF⟩ := hF
    refine zy_getR rfl rfl e8 ?_
    refine zx_iload_n rfl rfl rfl ?_
    replace hF := zbnd hF
    obtain ⟨a9, rfl, hF⟩ := hF
    replace hF := zgd_some hF
    obtain ⟨g10, hF⟩ := hF
    replace hF := zbnd hF
    obtain ⟨p12, e11, hF⟩ := hF
    refine zx_callE rfl rfl rfl rfl (zrcv_isO g10) rfl rfl (zc4 (Nat.le_of_ble_eq_true rfl)) (t126 (by omega) e11 (zaV ?_))
    refine zx_aload_n rfl rfl rfl ?_
    replace hF := zbnd hF
    obtain ⟨x13, e14, hF⟩ := hF
    refine zy_getR rfl rfl e14 ?_
    refine zx_iload_n rfl rfl rfl ?_
    replace hF := zbnd hF
    obtain ⟨a15, rfl, hF⟩ := hF
    replace hF := zgd_some hF
    obtain ⟨g16, hF⟩ := hF
    replace hF := zbnd hF
    obtain ⟨p18, e17, hF⟩ := hF
    refine zx_callE rfl rfl rfl rfl (zrcv_isO g16) rfl rfl (zc4 (Nat.le_of_ble_eq_true rfl)) (t126 (by omega) e17 (zaV ?_))
    refine zx_aload_n rfl rfl rfl ?_
    replace hF := zbnd hF
    obtain ⟨x19, e20, hF⟩ := hF
    refine zy_getR rfl rfl e20 ?_
    refine zx_iload_n rfl rfl rfl ?_
    replace hF := zbnd hF
    obtain ⟨a21, rfl, hF⟩ := hF
    replace hF := zgd_some hF
    obtain ⟨g22, hF⟩ := hF
    replace hF := zbnd hF
    obtain ⟨p24, e23, hF⟩ := hF
    refine zx_callE rfl rfl rfl rfl (zrcv_isO g22) rfl rfl (zc4 (Nat.le_of_ble_eq_true rfl)) (t126 (by omega) e23 (zaV ?_))
    refine zx_aload_n rfl rfl rfl ?_
    replace hF := zbnd hF
    obtain ⟨x25, e26, hF⟩ := hF
    refine zy_getR rfl rfl e26 ?_
    refine zx_iload rfl rfl rfl ?_
    replace hF := zbnd hF
    obtain ⟨a27, rfl, hF⟩ := hF
    replace hF := zgd_some hF
    obtain ⟨g28, hF⟩ := hF
    replace hF := zbnd hF
    obtain ⟨p30, e29, hF⟩ := hF
    refine zx_callE rfl rfl rfl rfl (zrcv_isO g28) rfl rfl (zc4 (Nat.le_of_ble_eq_true rfl)) (t126 (by omega) e29 (zaV ?_))
    refine zx_aload_n rfl rfl rfl ?_
    replace hF := zbnd hF
    obtain ⟨x31, e32, hF⟩ := hF
    refine zy_getR rfl rfl e32 ?_
    refine zx_iload rfl rfl rfl ?_
    replace hF := zbnd hF
    obtain ⟨a33, rfl, hF⟩ := hF
    replace hF := zgd_some hF
    obtain ⟨g34, hF⟩ := hF
    replace hF := zbnd hF
    obtain ⟨p36, e35, hF⟩ := hF
    refine zx_callE rfl rfl rfl rfl (zrcv_isO g34) rfl rfl (zc4 (Nat.le_of_ble_eq_true rfl)) (t126 (by omega) e35 (zaV ?_))
    refine zx_aload_n rfl rfl rfl ?_
    replace hF := zbnd hF
    obtain ⟨x37, e38, hF⟩ := hF
    refine zy_getR rfl rfl e38 ?_
    replace hF := zbnd hF
    obtain ⟨a39, rfl, hF⟩ := hF
    replace hF := zbnd hF
    obtain ⟨x40, e41, hF⟩ := hF
    refine zy_getI rfl rfl e41 ?_
    replace hF := Option.some.inj hF
    subst hF
    exact zx_bret rfl rfl rfl rfl q
  · rw [if_neg c6] at hF
    replace hF := Option.some.inj hF
    subst hF
    exact zw_throw rfl q
def f124 (n : Nat)  (y0 : Option Nat) (y1 : Int32) (y2 : Int32) (y3 : Int32) (y4 : Int32) (y5 : Int32) (y6 : Option Nat) (h : zH) : Option (Int32 × zH) :=
  y0.bind fun a1 =>
  zgd (isO h a1 10) <|
  (f125 n a1 y1 y2 y3 y4 y5 h).bind fun p7 => zth p7 (fun r4 h5 =>
    y6.bind fun a9 =>
    (aS zsL h5 a9 0 (.long r4.toInt64)).bind fun h10 =>
    some (0, h10))
    (fun x6 h5 =>
    if x6 = 19 then
      some (1, h5)
    else
    none)
set_option maxRecDepth 20000 in
theorem t124 {d n : Nat} {Q : zRs → zH → Prop}  {y0 : Option Nat} {y1 : Int32} {y2 : Int32} {y3 : Int32} {y4 : Int32} {y5 : Int32} {y6 : Option Nat} (hd : 2 ≤ d)  {h : zH} {p : (Int32 × zH)} (hF : f124 n  y0 y1 y2 y3 y4 y5 y6 h = some p) (q : Q (eI p.1) p.2) : zC d 124 [va_rf y0, .int y1, .int y2, .int y3, .int y4, .int y5, va_rf y6] h Q := by
  refine zC_of (L := [some (va_rf y0), some (.int y1), some (.int y2), some (.int y3), some (.int y4), some (.int y5), some (va_rf y6), none]) ((zsl_rf _ _).trans (congrArg (List.cons _) (congrArg (List.cons _) (congrArg (List.cons _) (congrArg (List.cons _) (congrArg (List.cons _) (congrArg (List.cons _) ((zsl_rf _ _).trans (congrArg (List.cons _) rfl))))))))) rfl ?_
  unfold f124 at hF
  obtain ⟨d, rfl⟩ : ∃ e, d = e + 1 := ⟨d - 1, by omega⟩
  refine zy_rload rfl rfl rfl ?_
  refine zx_iconst (v := 0) rfl rfl rfl ?_
  refine zy_rload_n rfl rfl rfl ?_
  refine zx_iload_n rfl rfl rfl ?_
  refine zx_iload_n rfl rfl rfl ?_
  refine zx_iload_n rfl rfl rfl ?_
  refine zx_iload rfl rfl rfl ?_
  refine zx_iload rfl rfl rfl ?_
  replace hF := zbnd hF
  obtain ⟨a1, rfl, hF⟩ := hF
  replace hF := zgd_some hF
  obtain ⟨g2, hF⟩ := hF
  replace hF := zbnd hF
  obtain ⟨⟨r4, h5⟩, e3, hF⟩ := hF
  refine zx_callE rfl rfl rfl rfl (zrcv_isO g2) rfl rfl (zc4 (Nat.le_of_ble_eq_true rfl)) (t125 (by omega) e3 ?_)
  rcases r4 with r4 | x6
  rotate_left 1
  · replace hF := zthH hF
    by_cases c8 : x6 = 19
    · subst c8
      refine zaH (hp := 19) rfl ?_
      refine zx_ustore rfl rfl (zput_ok (L' := [some (.ref a1), some (.int y1), some (.int y2), some (.int y3), some (.int y4), some (.int y5), some (va_rf y6), some (.retAddr 0)]) rfl (zcl_X (j := 6) rfl (zn2_rf _)) rfl) ?_
      refine zx_iconst (v := 1) rfl rfl rfl ?_
      replace hF := Option.some.inj hF
      subst hF
      exact zx_bret rfl rfl rfl rfl q
    have hF : (if x6 = 19 then _ else _) = _ := hF
    rw [if_neg c8] at hF
    cases hF
  replace hF := zthG hF
  refine zaI ?_
  refine zx_i2l rfl rfl ?_
  replace hF := zbnd hF
  obtain ⟨a9, rfl, hF⟩ := hF
  replace hF := zbnd hF
  obtain ⟨h10, e11, hF⟩ := hF
  refine zy_sJ rfl rfl e11 ?_
  refine zx_goto rfl rfl ?_
  refine zx_iconst (v := 0) rfl rfl rfl ?_
  replace hF := Option.some.inj hF
  subst hF
  exact zx_bret rfl rfl rfl rfl q
def b128_15 (n : Nat)   (l0 : Nat) (l1 : Int32) (h : zH) : Option ((Unit ⊕ Nat) × zH) :=
  some (.inr 18, thH h)
set_option maxRecDepth 20000 in
theorem tb128_15 {d n : Nat} {Q : zRs → zH → Prop}   {l0 : Nat} {l1 : Int32}   (hd : 0 ≤ d)   {h : zH} {p : ((Unit ⊕ Nat) × zH)}  (hF : b128_15 n   l0 l1 h = some p) (q : Q (eVx p.1) p.2) : zW d 128 15 [some (.ref l0), some (.int l1)] [] h Q := by
  unfold b128_15 at hF
  replace hF := Option.some.inj hF
  subst hF
  exact zw_throw rfl q
def f128 (n : Nat)  (y0 : Nat) (y1 : Int32) (h : zH) : Option ((Unit ⊕ Nat) × zH) :=
  if y1 < 0 then
    b128_15 n  y0 y1 h
  else
    (gR h y0 10 0).bind fun x2 =>
    x2.bind fun a4 =>
    (gI h a4 8 1).bind fun x5 =>
    if y1 ≤ x5 then
      (gR h y0 10 0).bind fun x8 =>
      x8.bind fun a10 =>
      (pF h a10 8 1 (.int y1)).bind fun h11 =>
      some (.inl (), h11)
    else
      b128_15 n  y0 y1 h
set_option maxRecDepth 20000 in
theorem t128 {d n : Nat} {Q : zRs → zH → Prop}  {y0 : Nat} {y1 : Int32} (hd : 0 ≤ d)  {h : zH} {p : ((Unit ⊕ Nat) × zH)} (hF : f128 n  y0 y1 h = some p) (q : Q (eVx p.1) p.2) : zC d 128 [.ref y0, .int y1] h Q := by
  refine zC_of (L := [some (.ref y0), some (.int y1)]) rfl rfl ?_
  unfold f128 at hF
  refine zx_iload_n rfl rfl rfl ?_
  refine zx_if_lt rfl rfl (fun c1 => ?_) (fun c1 => ?_)
  · rw [if_pos c1] at hF
    exact tb128_15 (l0 := y0) (l1 := y1) hd   hF q
  · rw [if_neg c1] at hF
    refine zx_iload_n rfl rfl rfl ?_
    refine zx_aload_n rfl rfl rfl ?_
    replace hF := zbnd hF
    obtain ⟨x2, e3, hF⟩ := hF
    refine zy_getR rfl rfl e3 ?_
    replace hF := zbnd hF
    obtain ⟨a4, rfl, hF⟩ := hF
    replace hF := zbnd hF
    obtain ⟨x5, e6, hF⟩ := hF
    refine zy_getI rfl rfl e6 ?_
    refine zx_ic_le rfl rfl (fun c7 => ?_) (fun c7 => ?_)
    · rw [if_pos c7] at hF
      refine zx_aload_n rfl rfl rfl ?_
      replace hF := zbnd hF
      obtain ⟨x8, e9, hF⟩ := hF
      refine zy_getR rfl rfl e9 ?_
      refine zx_iload_n rfl rfl rfl ?_
      replace hF := zbnd hF
      obtain ⟨a10, rfl, hF⟩ := hF
      replace hF := zbnd hF
      obtain ⟨h11, e12, hF⟩ := hF
      refine zy_put rfl rfl e12 ?_
      replace hF := Option.some.inj hF
      subst hF
      exact zx_return rfl rfl rfl q
    · rw [if_neg c7] at hF
      exact tb128_15 (l0 := y0) (l1 := y1) hd   hF q
def f127 (n : Nat)  (y0 : Option Nat) (y1 : Int32) (h : zH) : Option (Int32 × zH) :=
  y0.bind fun a1 =>
  zgd (isO h a1 10) <|
  (f128 n a1 y1 h).bind fun p7 => zth p7 (fun r4 h5 =>
    some (0, h5))
    (fun x6 h5 =>
    if x6 = 18 then
      some (1, h5)
    else
    none)
set_option maxRecDepth 20000 in
theorem t127 {d n : Nat} {Q : zRs → zH → Prop}  {y0 : Option Nat} {y1 : Int32} (hd : 1 ≤ d)  {h : zH} {p : (Int32 × zH)} (hF : f127 n  y0 y1 h = some p) (q : Q (eI p.1) p.2) : zC d 127 [va_rf y0, .int y1] h Q := by
  refine zC_of (L := [some (va_rf y0), some (.int y1), none]) ((zsl_rf _ _).trans (congrArg (List.cons _) rfl)) rfl ?_
  unfold f127 at hF
  obtain ⟨d, rfl⟩ : ∃ e, d = e + 1 := ⟨d - 1, by omega⟩
  refine zy_rload_n rfl rfl rfl ?_
  refine zx_iload_n rfl rfl rfl ?_
  replace hF := zbnd hF
  obtain ⟨a1, rfl, hF⟩ := hF
  replace hF := zgd_some hF
  obtain ⟨g2, hF⟩ := hF
  replace hF := zbnd hF
  obtain ⟨⟨r4, h5⟩, e3, hF⟩ := hF
  refine zx_callE rfl rfl rfl rfl (zrcv_isO g2) rfl rfl (zc4 (Nat.le_of_ble_eq_true rfl)) (t128 (by omega) e3 ?_)
  rcases r4 with r4 | x6
  rotate_left 1
  · replace hF := zthH hF
    by_cases c8 : x6 = 18
    · subst c8
      refine zaH (hp := 8) rfl ?_
      refine zx_ustore_n rfl rfl rfl ?_
      refine zx_iconst (v := 1) rfl rfl rfl ?_
      replace hF := Option.some.inj hF
      subst hF
      exact zx_bret rfl rfl rfl rfl q
    have hF : (if x6 = 18 then _ else _) = _ := hF
    rw [if_neg c8] at hF
    cases hF
  replace hF := zthG hF
  refine zaV (x := ()) ?_
  refine zx_goto rfl rfl ?_
  refine zx_iconst (v := 0) rfl rfl rfl ?_
  replace hF := Option.some.inj hF
  subst hF
  exact zx_bret rfl rfl rfl rfl q
def f130 (n : Nat)  (y0 : Nat) (y1 : Int32) (h : zH) : Option ((Int32 ⊕ Nat) × zH) :=
  if y1 = 0 then
    (gR h y0 10 2).bind fun x2 =>
    x2.bind fun a4 =>
    (gR h a4 4 3).bind fun x5 =>
    x5.bind fun a7 =>
    zgd (isO h a7 14) <|
    (f68 n a7 h).bind fun p10 =>
    some (.inl p10.1, p10.2)
  else
  if y1 = 1 then
    (gR h y0 10 2).bind fun x12 =>
    x12.bind fun a14 =>
    (gR h a14 4 4).bind fun x15 =>
    x15.bind fun a17 =>
    zgd (isO h a17 14) <|
    (f68 n a17 h).bind fun p20 =>
    some (.inl p20.1, p20.2)
  else
  if y1 = 2 then
    (gR h y0 10 2).bind fun x22 =>
    x22.bind fun a24 =>
    (gR h a24 4 5).bind fun x25 =>
    x25.bind fun a27 =>
    zgd (isO h a27 14) <|
    (f68 n a27 h).bind fun p30 =>
    some (.inl p30.1, p30.2)
  else
  if y1 = 3 then
    (gR h y0 10 2).bind fun x32 =>
    x32.bind fun a34 =>
    (gR h a34 4 6).bind fun x35 =>
    x35.bind fun a37 =>
    zgd (isO h a37 14) <|
    (f68 n a37 h).bind fun p40 =>
    some (.inl p40.1, p40.2)
  else
  if y1 = 4 then
    (gR h y0 10 2).bind fun x42 =>
    x42.bind fun a44 =>
    (gI h a44 4 8).bind fun x45 =>
    some (.inl x45, h)
  else
  if y1 = 5 then
    (gR h y0 10 2).bind fun x48 =>
    x48.bind fun a50 =>
    (gR h a50 4 7).bind fun x51 =>
    x51.bind fun a53 =>
    zgd (isO h a53 14) <|
    (f68 n a53 h).bind fun p56 =>
    some (.inl p56.1, p56.2)
  else
  if y1 = 6 then
    (gR h y0 10 2).bind fun x58 =>
    x58.bind fun a60 =>
    (gI h a60 4 9).bind fun x61 =>
    some (.inl x61, h)
  else
  if y1 = 7 then
    (gR h y0 10 1).bind fun x64 =>
    x64.bind fun a66 =>
    (gI h a66 1 2).bind fun x67 =>
    some (.inl x67, h)
  else
  some (.inr 20, thH h)
set_option maxRecDepth 20000 in
theorem t130 {d n : Nat} {Q : zRs → zH → Prop}  {y0 : Nat} {y1 : Int32} (hd : 1 ≤ d)  {h : zH} {p : ((Int32 ⊕ Nat) × zH)} (hF : f130 n  y0 y1 h = some p) (q : Q (eIx p.1) p.2) : zC d 130 [.ref y0, .int y1] h Q := by
  refine zC_of (L := [some (.ref y0), some (.int y1)]) rfl rfl ?_
  unfold f130 at hF
  obtain ⟨d, rfl⟩ : ∃ e, d = e + 1 := ⟨d - 1, by omega⟩
  refine zx_iload_n rfl rfl rfl ?_
  by_cases c1 : y1 = 0
  · rw [if_pos c1] at hF
    refine zw_switch rfl rfl (t := 48) (by rw [c1]; rfl) ?_
    refine zx_aload_n rfl rfl rfl ?_
    replace hF := zbnd hF
    obtain ⟨x2, e3, hF⟩ := hF
    refine zy_getR rfl rfl e3 ?_
    replace hF := zbnd hF
    obtain ⟨a4, rfl, hF⟩ := hF
    replace hF := zbnd hF
    obtain ⟨x5, e6, hF⟩ := hF
    refine zy_getR rfl rfl e6 ?_
    replace hF := zbnd hF
    obtain ⟨a7, rfl, hF⟩ := hF
    replace hF := zgd_some hF
    obtain ⟨g8, hF⟩ := hF
    replace hF := zbnd hF
    obtain ⟨p10, e9, hF⟩ := hF
    refine zx_callE rfl rfl rfl rfl (zrcv_isO g8) rfl rfl (zc4 (Nat.le_of_ble_eq_true rfl)) (t68 (by omega) e9 (zaI ?_))
    replace hF := Option.some.inj hF
    subst hF
    exact zx_bret rfl rfl rfl rfl q
  rw [if_neg c1] at hF
  by_cases c11 : y1 = 1
  · rw [if_pos c11] at hF
    refine zw_switch rfl rfl (t := 59) (by rw [c11]; rfl) ?_
    refine zx_aload_n rfl rfl rfl ?_
    replace hF := zbnd hF
    obtain ⟨x12, e13, hF⟩ := hF
    refine zy_getR rfl rfl e13 ?_
    replace hF := zbnd hF
    obtain ⟨a14, rfl, hF⟩ := hF
    replace hF := zbnd hF
    obtain ⟨x15, e16, hF⟩ := hF
    refine zy_getR rfl rfl e16 ?_
    replace hF := zbnd hF
    obtain ⟨a17, rfl, hF⟩ := hF
    replace hF := zgd_some hF
    obtain ⟨g18, hF⟩ := hF
    replace hF := zbnd hF
    obtain ⟨p20, e19, hF⟩ := hF
    refine zx_callE rfl rfl rfl rfl (zrcv_isO g18) rfl rfl (zc4 (Nat.le_of_ble_eq_true rfl)) (t68 (by omega) e19 (zaI ?_))
    replace hF := Option.some.inj hF
    subst hF
    exact zx_bret rfl rfl rfl rfl q
  rw [if_neg c11] at hF
  by_cases c21 : y1 = 2
  · rw [if_pos c21] at hF
    refine zw_switch rfl rfl (t := 70) (by rw [c21]; rfl) ?_
    refine zx_aload_n rfl rfl rfl ?_
    replace hF := zbnd hF
    obtain ⟨x22, e23, hF⟩ := hF
    refine zy_getR rfl rfl e23 ?_
    replace hF := zbnd hF
    obtain ⟨a24, rfl, hF⟩ := hF
    replace hF := zbnd hF
    obtain ⟨x25, e26, hF⟩ := hF
    refine zy_getR rfl rfl e26 ?_
    replace hF := zbnd hF
    obtain ⟨a27, rfl, hF⟩ := hF
    replace hF := zgd_some hF
    obtain ⟨g28, hF⟩ := hF
    replace hF := zbnd hF
    obtain ⟨p30, e29, hF⟩ := hF
    refine zx_callE rfl rfl rfl rfl (zrcv_isO g28) rfl rfl (zc4 (Nat.le_of_ble_eq_true rfl)) (t68 (by omega) e29 (zaI ?_))
    replace hF := Option.some.inj hF
    subst hF
    exact zx_bret rfl rfl rfl rfl q
  rw [if_neg c21] at hF
  by_cases c31 : y1 = 3
  · rw [if_pos c31] at hF
    refine zw_switch rfl rfl (t := 81) (by rw [c31]; rfl) ?_
    refine zx_aload_n rfl rfl rfl ?_
    replace hF := zbnd hF
    obtain ⟨x32, e33, hF⟩ := hF
    refine zy_getR rfl rfl e33 ?_
    replace hF := zbnd hF
    obtain ⟨a34, rfl, hF⟩ := hF
    replace hF := zbnd hF
    obtain ⟨x35, e36, hF⟩ := hF
    refine zy_getR rfl rfl e36 ?_
    replace hF := zbnd hF
    obtain ⟨a37, rfl, hF⟩ := hF
    replace hF := zgd_some hF
    obtain ⟨g38, hF⟩ := hF
    replace hF := zbnd hF
    obtain ⟨p40, e39, hF⟩ := hF
    refine zx_callE rfl rfl rfl rfl (zrcv_isO g38) rfl rfl (zc4 (Nat.le_of_ble_eq_true rfl)) (t68 (by omega) e39 (zaI ?_))
    replace hF := Option.some.inj hF
    subst hF
    exact zx_bret rfl rfl rfl rfl q
  rw [if_neg c31] at hF
  by_cases c41 : y1 = 4
  · rw [if_pos c41] at hF
    refine zw_switch rfl rfl (t := 92) (by rw [c41]; rfl) ?_
    refine zx_aload_n rfl rfl rfl ?_
    replace hF := zbnd hF
    obtain ⟨x42, e43, hF⟩ := hF
    refine zy_getR rfl rfl e43 ?_
    replace hF := zbnd hF
    obtain ⟨a44, rfl, hF⟩ := hF
    replace hF := zbnd hF
    obtain ⟨x45, e46, hF⟩ := hF
    refine zy_getI rfl rfl e46 ?_
    replace hF := Option.some.inj hF
    subst hF
    exact zx_bret rfl rfl rfl rfl q
  rw [if_neg c41] at hF
  by_cases c47 : y1 = 5
  · rw [if_pos c47] at hF
    refine zw_switch rfl rfl (t := 100) (by rw [c47]; rfl) ?_
    refine zx_aload_n rfl rfl rfl ?_
    replace hF := zbnd hF
    obtain ⟨x48, e49, hF⟩ := hF
    refine zy_getR rfl rfl e49 ?_
    replace hF := zbnd hF
    obtain ⟨a50, rfl, hF⟩ := hF
    replace hF := zbnd hF
    obtain ⟨x51, e52, hF⟩ := hF
    refine zy_getR rfl rfl e52 ?_
    replace hF := zbnd hF
    obtain ⟨a53, rfl, hF⟩ := hF
    replace hF := zgd_some hF
    obtain ⟨g54, hF⟩ := hF
    replace hF := zbnd hF
    obtain ⟨p56, e55, hF⟩ := hF
    refine zx_callE rfl rfl rfl rfl (zrcv_isO g54) rfl rfl (zc4 (Nat.le_of_ble_eq_true rfl)) (t68 (by omega) e55 (zaI ?_))
    replace hF := Option.some.inj hF
    subst hF
    exact zx_bret rfl rfl rfl rfl q
  rw [if_neg c47] at hF
  by_cases c57 : y1 = 6
  · rw [if_pos c57] at hF
    refine zw_switch rfl rfl (t := 111) (by rw [c57]; rfl) ?_
    refine zx_aload_n rfl rfl rfl ?_
    replace hF := zbnd hF
    obtain ⟨x58, e59, hF⟩ := hF
    refine zy_getR rfl rfl e59 ?_
    replace hF := zbnd hF
    obtain ⟨a60, rfl, hF⟩ := hF
    replace hF := zbnd hF
    obtain ⟨x61, e62, hF⟩ := hF
    refine zy_getI rfl rfl e62 ?_
    replace hF := Option.some.inj hF
    subst hF
    exact zx_bret rfl rfl rfl rfl q
  rw [if_neg c57] at hF
  by_cases c63 : y1 = 7
  · rw [if_pos c63] at hF
    refine zw_switch rfl rfl (t := 119) (by rw [c63]; rfl) ?_
    refine zx_aload_n rfl rfl rfl ?_
    replace hF := zbnd hF
    obtain ⟨x64, e65, hF⟩ := hF
    refine zy_getR rfl rfl e65 ?_
    replace hF := zbnd hF
    obtain ⟨a66, rfl, hF⟩ := hF
    replace hF := zbnd hF
    obtain ⟨x67, e68, hF⟩ := hF
    refine zy_getI rfl rfl e68 ?_
    replace hF := Option.some.inj hF
    subst hF
    exact zx_bret rfl rfl rfl rfl q
  rw [if_neg c63] at hF
  have zc1 := zne c1 (z := 0) (by decide)
  have zc11 := zne c11 (z := 1) (by decide)
  have zc21 := zne c21 (z := 2) (by decide)
  have zc31 := zne c31 (z := 3) (by decide)
  have zc41 := zne c41 (z := 4) (by decide)
  have zc47 := zne c47 (z := 5) (by decide)
  have zc57 := zne c57 (z := 6) (by decide)
  have zc63 := zne c63 (z := 7) (by decide)
  refine zw_switch rfl rfl (t := 127) (zsw_d (by omega) (by decide) (by decide)) ?_
  replace hF := Option.some.inj hF
  subst hF
  exact zw_throw rfl q
def f129 (n : Nat)  (y0 : Option Nat) (y1 : Int32) (y2 : Option Nat) (h : zH) : Option (Int32 × zH) :=
  y0.bind fun a1 =>
  zgd (isO h a1 10) <|
  (f130 n a1 y1 h).bind fun p7 => zth p7 (fun r4 h5 =>
    y2.bind fun a9 =>
    (aS zsL h5 a9 0 (.long r4.toInt64)).bind fun h10 =>
    some (0, h10))
    (fun x6 h5 =>
    if x6 = 20 then
      some (1, h5)
    else
    none)
set_option maxRecDepth 20000 in
theorem t129 {d n : Nat} {Q : zRs → zH → Prop}  {y0 : Option Nat} {y1 : Int32} {y2 : Option Nat} (hd : 2 ≤ d)  {h : zH} {p : (Int32 × zH)} (hF : f129 n  y0 y1 y2 h = some p) (q : Q (eI p.1) p.2) : zC d 129 [va_rf y0, .int y1, va_rf y2] h Q := by
  refine zC_of (L := [some (va_rf y0), some (.int y1), some (va_rf y2), none]) ((zsl_rf _ _).trans (congrArg (List.cons _) (congrArg (List.cons _) ((zsl_rf _ _).trans (congrArg (List.cons _) rfl))))) rfl ?_
  unfold f129 at hF
  obtain ⟨d, rfl⟩ : ∃ e, d = e + 1 := ⟨d - 1, by omega⟩
  refine zy_rload_n rfl rfl rfl ?_
  refine zx_iconst (v := 0) rfl rfl rfl ?_
  refine zy_rload_n rfl rfl rfl ?_
  refine zx_iload_n rfl rfl rfl ?_
  replace hF := zbnd hF
  obtain ⟨a1, rfl, hF⟩ := hF
  replace hF := zgd_some hF
  obtain ⟨g2, hF⟩ := hF
  replace hF := zbnd hF
  obtain ⟨⟨r4, h5⟩, e3, hF⟩ := hF
  refine zx_callE rfl rfl rfl rfl (zrcv_isO g2) rfl rfl (zc4 (Nat.le_of_ble_eq_true rfl)) (t130 (by omega) e3 ?_)
  rcases r4 with r4 | x6
  rotate_left 1
  · replace hF := zthH hF
    by_cases c8 : x6 = 20
    · subst c8
      refine zaH (hp := 12) rfl ?_
      refine zx_ustore_n rfl rfl (zput_ok (L' := [some (.ref a1), some (.int y1), some (va_rf y2), some (.retAddr 0)]) rfl (zcl_X (j := 2) rfl (zn2_rf _)) rfl) ?_
      refine zx_iconst (v := 1) rfl rfl rfl ?_
      replace hF := Option.some.inj hF
      subst hF
      exact zx_bret rfl rfl rfl rfl q
    have hF : (if x6 = 20 then _ else _) = _ := hF
    rw [if_neg c8] at hF
    cases hF
  replace hF := zthG hF
  refine zaI ?_
  refine zx_i2l rfl rfl ?_
  replace hF := zbnd hF
  obtain ⟨a9, rfl, hF⟩ := hF
  replace hF := zbnd hF
  obtain ⟨h10, e11, hF⟩ := hF
  refine zy_sJ rfl rfl e11 ?_
  refine zx_goto rfl rfl ?_
  refine zx_iconst (v := 0) rfl rfl rfl ?_
  replace hF := Option.some.inj hF
  subst hF
  exact zx_bret rfl rfl rfl rfl q
def b134_46 (n : Nat)  (r2 : Nat → Option Nat → Int32 → zH → Option (Int32 × zH)) (l0 : Nat) (l1 : Option Nat) (l2 : Int32) (h : zH) : Option (Int32 × zH) :=
  r2 l0 l1 (l2 + 1) h
set_option maxRecDepth 20000 in
theorem tb134_46 {d n : Nat} {Q : zRs → zH → Prop}  {r2 : Nat → Option Nat → Int32 → zH → Option (Int32 × zH)} {l0 : Nat} {l1 : Option Nat} {l2 : Int32}   (hd : 2 ≤ d)  (hr2 : ∀ {l0 : Nat} {l1 : Option Nat} {l2 : Int32}   {h : zH} {p : (Int32 × zH)}, r2 l0 l1 l2 h = some p → Q (eI p.1) p.2 → zW d 134 2 [some (.ref l0), some (va_rf l1), some (.int l2)] [] h Q) {h : zH} {p : (Int32 × zH)}  (hF : b134_46 n  r2 l0 l1 l2 h = some p) (q : Q (eI p.1) p.2) : zW d 134 46 [some (.ref l0), some (va_rf l1), some (.int l2)] [] h Q := by
  unfold b134_46 at hF
  obtain ⟨d, rfl⟩ : ∃ e, d = e + 1 := ⟨d - 1, by omega⟩
  refine zx_iinc (w := 1) rfl rfl rfl rfl (zput_ok (L' := [some (.ref l0), some (va_rf l1), some (.int (l2 + 1))]) rfl (zcl_X (j := 1) rfl (zn2_rf _)) rfl) ?_
  refine zx_goto rfl rfl ?_
  exact hr2  hF q
def b134_2 (n : Nat)  (r2 : Nat → Option Nat → Int32 → zH → Option (Int32 × zH)) (l0 : Nat) (l1 : Option Nat) (l2 : Int32) (h : zH) : Option (Int32 × zH) :=
  (gI h l0 1 2).bind fun x1 =>
  if x1 ≤ l2 then
    some ((-1), h)
  else
    (gR h l0 1 0).bind fun x4 =>
    x4.bind fun a6 =>
    (aN h a6).bind fun x7 =>
    if x7 ≤ l2 then
      some ((-1), h)
    else
      (gR h l0 1 0).bind fun x10 =>
      x10.bind fun a12 =>
      (aR h a12 l2).bind fun x13 =>
      match x13 with
      | none =>
        b134_46 n r2 l0 l1 l2 h
      | some a15 =>
        (gR h l0 1 0).bind fun x16 =>
        x16.bind fun a18 =>
        (aR h a18 l2).bind fun x19 =>
        x19.bind fun a21 =>
        (gR h a21 9 3).bind fun x22 =>
        x22.bind fun a24 =>
        zgd (isO h a24 12) <|
        (f29 n a24 l1 h).bind fun p27 =>
        if p27.1 = 0 then
          b134_46 n r2 l0 l1 l2 p27.2
        else
          some (l2, p27.2)
set_option maxRecDepth 20000 in
theorem tb134_2 {d n : Nat} {Q : zRs → zH → Prop}  {r2 : Nat → Option Nat → Int32 → zH → Option (Int32 × zH)} {l0 : Nat} {l1 : Option Nat} {l2 : Int32}   (hd : 2 ≤ d)  (hr2 : ∀ {l0 : Nat} {l1 : Option Nat} {l2 : Int32}   {h : zH} {p : (Int32 × zH)}, r2 l0 l1 l2 h = some p → Q (eI p.1) p.2 → zW d 134 2 [some (.ref l0), some (va_rf l1), some (.int l2)] [] h Q) {h : zH} {p : (Int32 × zH)}  (hF : b134_2 n  r2 l0 l1 l2 h = some p) (q : Q (eI p.1) p.2) : zW d 134 2 [some (.ref l0), some (va_rf l1), some (.int l2)] [] h Q := by
  unfold b134_2 at hF
  obtain ⟨d, rfl⟩ : ∃ e, d = e + 1 := ⟨d - 1, by omega⟩
  refine zx_iload_n rfl rfl rfl ?_
  refine zx_aload_n rfl rfl rfl ?_
  replace hF := zbnd hF
  obtain ⟨x1, e2, hF⟩ := hF
  refine zy_getI rfl rfl e2 ?_
  refine zx_ic_ge rfl rfl (fun c3 => ?_) (fun c3 => ?_)
  · rw [if_pos c3] at hF
    refine zx_iconst (v := (-1)) rfl rfl rfl ?_
    replace hF := Option.some.inj hF
    subst hF
    exact zx_bret rfl rfl rfl rfl q
  · rw [if_neg c3] at hF
    refine zx_iload_n rfl rfl rfl ?_
    refine zx_aload_n rfl rfl rfl ?_
    replace hF := zbnd hF
    obtain ⟨x4, e5, hF⟩ := hF
    refine zy_getR rfl rfl e5 ?_
    replace hF := zbnd hF
    obtain ⟨a6, rfl, hF⟩ := hF
    replace hF := zbnd hF
    obtain ⟨x7, e8, hF⟩ := hF
    refine zy_alen rfl rfl e8 ?_
    refine zx_ic_ge rfl rfl (fun c9 => ?_) (fun c9 => ?_)
    · rw [if_pos c9] at hF
      refine zx_iconst (v := (-1)) rfl rfl rfl ?_
      replace hF := Option.some.inj hF
      subst hF
      exact zx_bret rfl rfl rfl rfl q
    · rw [if_neg c9] at hF
      refine zx_aload_n rfl rfl rfl ?_
      replace hF := zbnd hF
      obtain ⟨x10, e11, hF⟩ := hF
      refine zy_getR rfl rfl e11 ?_
      refine zx_iload_n rfl rfl rfl ?_
      replace hF := zbnd hF
      obtain ⟨a12, rfl, hF⟩ := hF
      replace hF := zbnd hF
      obtain ⟨x13, e14, hF⟩ := hF
      refine zy_aR rfl rfl e14 ?_
      cases x13 with
      | none =>
        dsimp only at hF
        refine zx_ifnullN rfl rfl ?_
        exact tb134_46 (l0 := l0) (l1 := l1) (l2 := l2) hd hr2  hF q
      | some a15 =>
        dsimp only at hF
        refine zx_ifnull rfl rfl ?_
        refine zx_aload_n rfl rfl rfl ?_
        replace hF := zbnd hF
        obtain ⟨x16, e17, hF⟩ := hF
        refine zy_getR rfl rfl e17 ?_
        refine zx_iload_n rfl rfl rfl ?_
        replace hF := zbnd hF
        obtain ⟨a18, rfl, hF⟩ := hF
        replace hF := zbnd hF
        obtain ⟨x19, e20, hF⟩ := hF
        refine zy_aR rfl rfl e20 ?_
        replace hF := zbnd hF
        obtain ⟨a21, rfl, hF⟩ := hF
        replace hF := zbnd hF
        obtain ⟨x22, e23, hF⟩ := hF
        refine zy_getR rfl rfl e23 ?_
        refine zy_rload_n rfl rfl rfl ?_
        replace hF := zbnd hF
        obtain ⟨a24, rfl, hF⟩ := hF
        replace hF := zgd_some hF
        obtain ⟨g25, hF⟩ := hF
        replace hF := zbnd hF
        obtain ⟨p27, e26, hF⟩ := hF
        refine zx_callE rfl rfl rfl rfl (zrcv_isO g25) (congrArg (List.cons _) ((zsl_rf _ _).trans (congrArg (List.cons _) rfl))) rfl (zc4 (Nat.le_of_ble_eq_true rfl)) (t29 (by omega) e26 (zaI ?_))
        refine zx_if_eq rfl rfl (fun c28 => ?_) (fun c28 => ?_)
        · rw [if_pos c28] at hF
          exact tb134_46 (l0 := l0) (l1 := l1) (l2 := l2) hd hr2  hF q
        · rw [if_neg c28] at hF
          refine zx_iload_n rfl rfl rfl ?_
          replace hF := Option.some.inj hF
          subst hF
          exact zx_bret rfl rfl rfl rfl q
def f134_2 (n : Nat)   (k : Nat) : Nat → Option Nat → Int32 → zH → Option (Int32 × zH) := Nat.rec (fun _ _ _ _ => none) (fun _ ih => b134_2 n  ih) k
theorem tf134_2 {d n : Nat} {Q : zRs → zH → Prop}   (hd : 2 ≤ d)   (k : Nat) : ∀ {l0 : Nat} {l1 : Option Nat} {l2 : Int32}   {h : zH} {p : (Int32 × zH)}, f134_2 n   k l0 l1 l2 h = some p → Q (eI p.1) p.2 → zW d 134 2 [some (.ref l0), some (va_rf l1), some (.int l2)] [] h Q := by
  induction k with
  | zero => intros; rename_i hF _; cases hF
  | succ k ih => intros; rename_i  hF q; exact tb134_2 (n := n) hd  ih  hF q
def f134 (n : Nat)  (y0 : Nat) (y1 : Option Nat) (h : zH) : Option (Int32 × zH) :=
  f134_2 n  n y0 y1 0 h
set_option maxRecDepth 20000 in
theorem t134 {d n : Nat} {Q : zRs → zH → Prop}  {y0 : Nat} {y1 : Option Nat} (hd : 2 ≤ d)  {h : zH} {p : (Int32 × zH)} (hF : f134 n  y0 y1 h = some p) (q : Q (eI p.1) p.2) : zC d 134 [.ref y0, va_rf y1] h Q := by
  refine zC_of (L := [some (.ref y0), some (va_rf y1), none]) (congrArg (List.cons _) ((zsl_rf _ _).trans (congrArg (List.cons _) rfl))) rfl ?_
  unfold f134 at hF
  obtain ⟨d, rfl⟩ : ∃ e, d = e + 1 := ⟨d - 1, by omega⟩
  refine zx_iconst (v := 0) rfl rfl rfl ?_
  refine zx_istore_n rfl rfl (zput_ok (L' := [some (.ref y0), some (va_rf y1), some (.int 0)]) rfl (zcl_X (j := 1) rfl (zn2_rf _)) rfl) ?_
  exact tf134_2 hd  n (l0 := y0) (l1 := y1) (l2 := 0)  hF q
def f133 (n : Nat)  (y0 : Nat) (y1 : Option Nat) (h : zH) : Option (Int32 × zH) :=
  (gI h y0 1 2).bind fun x1 =>
  if x1 < 8 then
    some (1, h)
  else
    zgd (isO h y0 1) <|
    (f134 n y0 y1 h).bind fun p6 =>
    if p6.1 = (-1) then
      some (0, p6.2)
    else
      some (1, p6.2)
set_option maxRecDepth 20000 in
theorem t133 {d n : Nat} {Q : zRs → zH → Prop}  {y0 : Nat} {y1 : Option Nat} (hd : 3 ≤ d)  {h : zH} {p : (Int32 × zH)} (hF : f133 n  y0 y1 h = some p) (q : Q (eI p.1) p.2) : zC d 133 [.ref y0, va_rf y1] h Q := by
  refine zC_of (L := [some (.ref y0), some (va_rf y1)]) (congrArg (List.cons _) ((zsl_rf _ _).trans (congrArg (List.cons _) rfl))) rfl ?_
  unfold f133 at hF
  obtain ⟨d, rfl⟩ : ∃ e, d = e + 1 := ⟨d - 1, by omega⟩
  refine zx_aload_n rfl rfl rfl ?_
  replace hF := zbnd hF
  obtain ⟨x1, e2, hF⟩ := hF
  refine zy_getI rfl rfl e2 ?_
  refine zx_bipush (v := 8) rfl rfl rfl ?_
  refine zx_ic_lt rfl rfl (fun c3 => ?_) (fun c3 => ?_)
  · rw [if_pos c3] at hF
    refine zx_iconst (v := 1) rfl rfl rfl ?_
    refine zx_goto rfl rfl ?_
    replace hF := Option.some.inj hF
    subst hF
    exact zx_bret rfl rfl rfl rfl q
  · rw [if_neg c3] at hF
    refine zx_aload_n rfl rfl rfl ?_
    refine zy_rload_n rfl rfl rfl ?_
    replace hF := zgd_some hF
    obtain ⟨g4, hF⟩ := hF
    replace hF := zbnd hF
    obtain ⟨p6, e5, hF⟩ := hF
    refine zx_callE rfl rfl rfl rfl (zrcv_isO g4) (congrArg (List.cons _) ((zsl_rf _ _).trans (congrArg (List.cons _) rfl))) rfl (zc4 (Nat.le_of_ble_eq_true rfl)) (t134 (by omega) e5 (zaI ?_))
    refine zx_iconst (v := (-1)) rfl rfl rfl ?_
    refine zx_ic_eq rfl rfl (fun c7 => ?_) (fun c7 => ?_)
    · rw [if_pos c7] at hF
      refine zx_iconst (v := 0) rfl rfl rfl ?_
      replace hF := Option.some.inj hF
      subst hF
      exact zx_bret rfl rfl rfl rfl q
    · rw [if_neg c7] at hF
      refine zx_iconst (v := 1) rfl rfl rfl ?_
      refine zx_goto rfl rfl ?_
      replace hF := Option.some.inj hF
      subst hF
      exact zx_bret rfl rfl rfl rfl q
def b135_29 (n : Nat)   (l0 : Nat) (l1 : Option Nat) (l2 : Option Nat) (l3 : Int32) (h : zH) : Option (Unit × zH) :=
  (gR h l0 1 0).bind fun x1 =>
  x1.bind fun a3 =>
  (aN h a3).bind fun x4 =>
  (f13 n l3 x4 h).bind fun p7 =>
  if p7.1 = 0 then
    some ((), p7.2)
  else
    (gR p7.2 l0 1 1).bind fun x9 =>
    x9.bind fun a11 =>
    (aN p7.2 a11).bind fun x12 =>
    (f13 n l3 x12 p7.2).bind fun p15 =>
    if p15.1 = 0 then
      some ((), p15.2)
    else
      (gR p15.2 l0 1 0).bind fun x17 =>
      x17.bind fun a19 =>
      (aS (zsA zasg p15.2.1) p15.2 a19 l3 (va_rf l1)).bind fun h20 =>
      (gR h20 l0 1 1).bind fun x22 =>
      x22.bind fun a24 =>
      (aS (zsA zasg h20.1) h20 a24 l3 (va_rf l2)).bind fun h25 =>
      some ((), h25)
set_option maxRecDepth 20000 in
theorem tb135_29 {d n : Nat} {Q : zRs → zH → Prop}   {l0 : Nat} {l1 : Option Nat} {l2 : Option Nat} {l3 : Int32}   (hd : 3 ≤ d)   {h : zH} {p : (Unit × zH)}  (hF : b135_29 n   l0 l1 l2 l3 h = some p) (q : Q (eV p.1) p.2) : zW d 135 29 [some (.ref l0), some (va_rf l1), some (va_rf l2), some (.int l3)] [] h Q := by
  unfold b135_29 at hF
  obtain ⟨d, rfl⟩ : ∃ e, d = e + 1 := ⟨d - 1, by omega⟩
  refine zx_iload_n rfl rfl rfl ?_
  refine zx_aload_n rfl rfl rfl ?_
  replace hF := zbnd hF
  obtain ⟨x1, e2, hF⟩ := hF
  refine zy_getR rfl rfl e2 ?_
  replace hF := zbnd hF
  obtain ⟨a3, rfl, hF⟩ := hF
  replace hF := zbnd hF
  obtain ⟨x4, e5, hF⟩ := hF
  refine zy_alen rfl rfl e5 ?_
  replace hF := zbnd hF
  obtain ⟨p7, e6, hF⟩ := hF
  refine zx_callF rfl rfl rfl rfl rfl rfl rfl (zc4 (Nat.le_of_ble_eq_true rfl)) (t13 (by omega) e6 (zaI ?_))
  refine zx_if_eq rfl rfl (fun c8 => ?_) (fun c8 => ?_)
  · rw [if_pos c8] at hF
    replace hF := Option.some.inj hF
    subst hF
    exact zx_return rfl rfl rfl q
  · rw [if_neg c8] at hF
    refine zx_iload_n rfl rfl rfl ?_
    refine zx_aload_n rfl rfl rfl ?_
    replace hF := zbnd hF
    obtain ⟨x9, e10, hF⟩ := hF
    refine zy_getR rfl rfl e10 ?_
    replace hF := zbnd hF
    obtain ⟨a11, rfl, hF⟩ := hF
    replace hF := zbnd hF
    obtain ⟨x12, e13, hF⟩ := hF
    refine zy_alen rfl rfl e13 ?_
    replace hF := zbnd hF
    obtain ⟨p15, e14, hF⟩ := hF
    refine zx_callF rfl rfl rfl rfl rfl rfl rfl (zc4 (Nat.le_of_ble_eq_true rfl)) (t13 (by omega) e14 (zaI ?_))
    refine zx_if_eq rfl rfl (fun c16 => ?_) (fun c16 => ?_)
    · rw [if_pos c16] at hF
      replace hF := Option.some.inj hF
      subst hF
      exact zx_return rfl rfl rfl q
    · rw [if_neg c16] at hF
      refine zx_aload_n rfl rfl rfl ?_
      replace hF := zbnd hF
      obtain ⟨x17, e18, hF⟩ := hF
      refine zy_getR rfl rfl e18 ?_
      refine zx_iload_n rfl rfl rfl ?_
      refine zy_rload_n rfl rfl rfl ?_
      replace hF := zbnd hF
      obtain ⟨a19, rfl, hF⟩ := hF
      replace hF := zbnd hF
      obtain ⟨h20, e21, hF⟩ := hF
      refine zy_sR rfl rfl e21 ?_
      refine zx_aload_n rfl rfl rfl ?_
      replace hF := zbnd hF
      obtain ⟨x22, e23, hF⟩ := hF
      refine zy_getR rfl rfl e23 ?_
      refine zx_iload_n rfl rfl rfl ?_
      refine zy_rload_n rfl rfl rfl ?_
      replace hF := zbnd hF
      obtain ⟨a24, rfl, hF⟩ := hF
      replace hF := zbnd hF
      obtain ⟨h25, e26, hF⟩ := hF
      refine zy_sR rfl rfl e26 ?_
      replace hF := Option.some.inj hF
      subst hF
      exact zx_return rfl rfl rfl q
def f135 (n : Nat)  (y0 : Nat) (y1 : Option Nat) (y2 : Option Nat) (h : zH) : Option (Unit × zH) :=
  y1.bind fun a1 =>
  (gR h a1 9 3).bind fun x2 =>
  zgd (isO h y0 1) <|
  (f134 n y0 x2 h).bind fun p6 =>
  if p6.1 = (-1) then
    (gI p6.2 y0 1 2).bind fun x8 =>
    (gI p6.2 y0 1 2).bind fun x10 =>
    (pF p6.2 y0 1 2 (.int (x10 + 1))).bind fun h12 =>
    b135_29 n  y0 (some a1) y2 x8 h12
  else
    b135_29 n  y0 (some a1) y2 p6.1 p6.2
set_option maxRecDepth 20000 in
theorem t135 {d n : Nat} {Q : zRs → zH → Prop}  {y0 : Nat} {y1 : Option Nat} {y2 : Option Nat} (hd : 3 ≤ d)  {h : zH} {p : (Unit × zH)} (hF : f135 n  y0 y1 y2 h = some p) (q : Q (eV p.1) p.2) : zC d 135 [.ref y0, va_rf y1, va_rf y2] h Q := by
  refine zC_of (L := [some (.ref y0), some (va_rf y1), some (va_rf y2), none]) (congrArg (List.cons _) ((zsl_rf _ _).trans (congrArg (List.cons _) ((zsl_rf _ _).trans (congrArg (List.cons _) rfl))))) rfl ?_
  unfold f135 at hF
  obtain ⟨d, rfl⟩ : ∃ e, d = e + 1 := ⟨d - 1, by omega⟩
  refine zx_aload_n rfl rfl rfl ?_
  refine zy_rload_n rfl rfl rfl ?_
  replace hF := zbnd hF
  obtain ⟨a1, rfl, hF⟩ := hF
  replace hF := zbnd hF
  obtain ⟨x2, e3, hF⟩ := hF
  refine zy_getR rfl rfl e3 ?_
  replace hF := zgd_some hF
  obtain ⟨g4, hF⟩ := hF
  replace hF := zbnd hF
  obtain ⟨p6, e5, hF⟩ := hF
  refine zx_callE rfl rfl rfl rfl (zrcv_isO g4) (congrArg (List.cons _) ((zsl_rf _ _).trans (congrArg (List.cons _) rfl))) rfl (zc4 (Nat.le_of_ble_eq_true rfl)) (t134 (by omega) e5 (zaI ?_))
  refine zx_istore_n rfl rfl (zput_ok (L' := [some (.ref y0), some (.ref a1), some (va_rf y2), some (.int p6.1)]) rfl (zcl_X (j := 2) rfl (zn2_rf _)) rfl) ?_
  refine zx_iload_n rfl rfl rfl ?_
  refine zx_iconst (v := (-1)) rfl rfl rfl ?_
  refine zx_ic_ne rfl rfl (fun c7 => ?_) (fun c7 => ?_)
  · rw [if_neg c7] at hF
    exact tb135_29 (l0 := y0) (l1 := (some a1)) (l2 := y2) (l3 := p6.1) hd   hF q
  · rw [if_pos c7] at hF
    refine zx_aload_n rfl rfl rfl ?_
    replace hF := zbnd hF
    obtain ⟨x8, e9, hF⟩ := hF
    refine zy_getI rfl rfl e9 ?_
    refine zx_istore_n rfl rfl (zput_ok (L' := [some (.ref y0), some (.ref a1), some (va_rf y2), some (.int x8)]) rfl (zcl_X (j := 2) rfl (zn2_rf _)) rfl) ?_
    refine zx_aload_n rfl rfl rfl ?_
    refine zx_dup rfl rfl rfl ?_
    replace hF := zbnd hF
    obtain ⟨x10, e11, hF⟩ := hF
    refine zy_getI rfl rfl e11 ?_
    refine zx_iconst (v := 1) rfl rfl rfl ?_
    refine zx_iadd rfl rfl ?_
    replace hF := zbnd hF
    obtain ⟨h12, e13, hF⟩ := hF
    refine zy_put rfl rfl e13 ?_
    exact tb135_29 (l0 := y0) (l1 := (some a1)) (l2 := y2) (l3 := x8) hd   hF q
def f132 (n : Nat)  (y0 : Nat) (h : zH) : Option ((Int32 ⊕ Nat) × zH) :=
  (gR (nO h 5 4) y0 10 0).bind fun x1 =>
  x1.bind fun a3 =>
  zgd (isO (nO h 5 4) a3 8) <|
  (f10 n a3 (nO h 5 4)).bind fun p6 =>
  (f64 n h.1.length p6.1 p6.2).bind fun p8 =>
  zgd (isO p8.2 h.1.length 5) <|
  (f71 n h.1.length (some 3) p8.2).bind fun p14 => zth p14 (fun r11 h12 =>
    zgd (isO h12 h.1.length 5) <|
    (f71 n h.1.length (some 13) h12).bind fun p20 => zth p20 (fun r17 h18 =>
      zgd (isO h18 h.1.length 5) <|
      (f84 n h.1.length h18).bind fun p23 =>
      zgd (isO p23.2 h.1.length 5) <|
      (f71 n h.1.length p23.1 p23.2).bind fun p29 => zth p29 (fun r26 h27 =>
        zgd (isO h27 h.1.length 5) <|
        (f71 n h.1.length (some 1) h27).bind fun p35 => zth p35 (fun r32 h33 =>
          (gR h33 y0 10 1).bind fun x36 =>
          r11.bind fun a38 =>
          (gR h33 a38 9 3).bind fun x39 =>
          x36.bind fun a41 =>
          zgd (isO h33 a41 1) <|
          (f133 n a41 x39 h33).bind fun p44 =>
          if p44.1 = 0 then
            some (.inr 19, thH p44.2)
          else
            (gR p44.2 y0 10 1).bind fun x46 =>
            x46.bind fun a48 =>
            zgd (isO p44.2 a48 1) <|
            (f135 n a48 (some a38) r26 p44.2).bind fun p51 =>
            some (.inl 1, p51.2))
          (fun x34 h33 =>
          zgd (exOk x34) <| some (.inr x34, h33)))
        (fun x28 h27 =>
        zgd (exOk x28) <| some (.inr x28, h27)))
      (fun x19 h18 =>
      zgd (exOk x19) <| some (.inr x19, h18)))
    (fun x13 h12 =>
    zgd (exOk x13) <| some (.inr x13, h12))
set_option maxRecDepth 20000 in
theorem t132 {d n : Nat} {Q : zRs → zH → Prop}  {y0 : Nat} (hd : 9 ≤ d)  {h : zH} {p : ((Int32 ⊕ Nat) × zH)} (hF : f132 n  y0 h = some p) (q : Q (eIx p.1) p.2) : zC d 132 [.ref y0] h Q := by
  refine zC_of (L := [some (.ref y0), none, none, none]) rfl rfl ?_
  unfold f132 at hF
  obtain ⟨d, rfl⟩ : ∃ e, d = e + 1 := ⟨d - 1, by omega⟩
  refine zy_new rfl rfl ?_
  refine zx_dup rfl rfl rfl ?_
  refine zx_aload_n rfl rfl rfl ?_
  replace hF := zbnd hF
  obtain ⟨x1, e2, hF⟩ := hF
  refine zy_getR rfl rfl e2 ?_
  replace hF := zbnd hF
  obtain ⟨a3, rfl, hF⟩ := hF
  replace hF := zgd_some hF
  obtain ⟨g4, hF⟩ := hF
  replace hF := zbnd hF
  obtain ⟨p6, e5, hF⟩ := hF
  refine zx_callE rfl rfl rfl rfl (zrcv_isO g4) rfl rfl (zc4 (Nat.le_of_ble_eq_true rfl)) (t10 (by omega) e5 (zaA ?_))
  replace hF := zbnd hF
  obtain ⟨p8, e7, hF⟩ := hF
  refine zx_callF rfl rfl rfl rfl rfl (congrArg (List.cons _) ((zsl_rf _ _).trans (congrArg (List.cons _) rfl))) rfl (zc4 (Nat.le_of_ble_eq_true rfl)) (t64 (by omega) e7 (zaV ?_))
  refine zx_astore_n rfl rfl rfl ?_
  refine zx_aload_n rfl rfl rfl ?_
  refine zx_gets rfl rfl rfl ?_
  replace hF := zgd_some hF
  obtain ⟨g9, hF⟩ := hF
  replace hF := zbnd hF
  obtain ⟨⟨r11, h12⟩, e10, hF⟩ := hF
  refine zx_callE rfl rfl rfl rfl (zrcv_isO g9) rfl rfl (zc4 (Nat.le_of_ble_eq_true rfl)) (t71 (by omega) e10 ?_)
  rcases r11 with r11 | x13
  rotate_left 1
  · replace hF := zthH hF
    replace hF := zgd_some hF
    obtain ⟨gx, hF⟩ := hF
    replace hF := Option.some.inj hF
    subst hF
    exact zaX rfl gx q
  replace hF := zthG hF
  refine zaA ?_
  refine zy_rstore_n rfl rfl rfl ?_
  refine zx_aload_n rfl rfl rfl ?_
  refine zx_gets rfl rfl rfl ?_
  replace hF := zgd_some hF
  obtain ⟨g15, hF⟩ := hF
  replace hF := zbnd hF
  obtain ⟨⟨r17, h18⟩, e16, hF⟩ := hF
  refine zx_callE rfl rfl rfl rfl (zrcv_isO g15) rfl rfl (zc4 (Nat.le_of_ble_eq_true rfl)) (t71 (by omega) e16 ?_)
  rcases r17 with r17 | x19
  rotate_left 1
  · replace hF := zthH hF
    replace hF := zgd_some hF
    obtain ⟨gx, hF⟩ := hF
    replace hF := Option.some.inj hF
    subst hF
    exact zaX rfl gx q
  replace hF := zthG hF
  refine zaA ?_
  refine zx_pop rfl rfl (zc1_rf _) ?_
  refine zx_aload_n rfl rfl rfl ?_
  refine zx_aload_n rfl rfl rfl ?_
  replace hF := zgd_some hF
  obtain ⟨g21, hF⟩ := hF
  replace hF := zbnd hF
  obtain ⟨p23, e22, hF⟩ := hF
  refine zx_callE rfl rfl rfl rfl (zrcv_isO g21) rfl rfl (zc4 (Nat.le_of_ble_eq_true rfl)) (t84 (by omega) e22 (zaA ?_))
  replace hF := zgd_some hF
  obtain ⟨g24, hF⟩ := hF
  replace hF := zbnd hF
  obtain ⟨⟨r26, h27⟩, e25, hF⟩ := hF
  refine zx_callE rfl rfl rfl rfl (zrcv_isO g24) (congrArg (List.cons _) ((zsl_rf _ _).trans (congrArg (List.cons _) rfl))) rfl (zc4 (Nat.le_of_ble_eq_true rfl)) (t71 (by omega) e25 ?_)
  rcases r26 with r26 | x28
  rotate_left 1
  · replace hF := zthH hF
    replace hF := zgd_some hF
    obtain ⟨gx, hF⟩ := hF
    replace hF := Option.some.inj hF
    subst hF
    exact zaX rfl gx q
  replace hF := zthG hF
  refine zaA ?_
  refine zy_rstore_n rfl rfl (zput_ok (L' := [some (.ref y0), some (.ref h.1.length), some (va_rf r11), some (va_rf r26)]) rfl (zcl_X (j := 2) rfl (zn2_rf _)) rfl) ?_
  refine zx_aload_n rfl rfl rfl ?_
  refine zx_gets rfl rfl rfl ?_
  replace hF := zgd_some hF
  obtain ⟨g30, hF⟩ := hF
  replace hF := zbnd hF
  obtain ⟨⟨r32, h33⟩, e31, hF⟩ := hF
  refine zx_callE rfl rfl rfl rfl (zrcv_isO g30) rfl rfl (zc4 (Nat.le_of_ble_eq_true rfl)) (t71 (by omega) e31 ?_)
  rcases r32 with r32 | x34
  rotate_left 1
  · replace hF := zthH hF
    replace hF := zgd_some hF
    obtain ⟨gx, hF⟩ := hF
    replace hF := Option.some.inj hF
    subst hF
    exact zaX rfl gx q
  replace hF := zthG hF
  refine zaA ?_
  refine zx_pop rfl rfl (zc1_rf _) ?_
  refine zx_aload_n rfl rfl rfl ?_
  replace hF := zbnd hF
  obtain ⟨x36, e37, hF⟩ := hF
  refine zy_getR rfl rfl e37 ?_
  refine zy_rload_n rfl rfl rfl ?_
  replace hF := zbnd hF
  obtain ⟨a38, rfl, hF⟩ := hF
  replace hF := zbnd hF
  obtain ⟨x39, e40, hF⟩ := hF
  refine zy_getR rfl rfl e40 ?_
  replace hF := zbnd hF
  obtain ⟨a41, rfl, hF⟩ := hF
  replace hF := zgd_some hF
  obtain ⟨g42, hF⟩ := hF
  replace hF := zbnd hF
  obtain ⟨p44, e43, hF⟩ := hF
  refine zx_callE rfl rfl rfl rfl (zrcv_isO g42) (congrArg (List.cons _) ((zsl_rf _ _).trans (congrArg (List.cons _) rfl))) rfl (zc4 (Nat.le_of_ble_eq_true rfl)) (t133 (by omega) e43 (zaI ?_))
  refine zx_if_ne rfl rfl (fun c45 => ?_) (fun c45 => ?_)
  · rw [if_neg c45] at hF
    refine zx_aload_n rfl rfl rfl ?_
    replace hF := zbnd hF
    obtain ⟨x46, e47, hF⟩ := hF
    refine zy_getR rfl rfl e47 ?_
    refine zx_aload_n rfl rfl rfl ?_
    refine zy_rload_n rfl rfl rfl ?_
    replace hF := zbnd hF
    obtain ⟨a48, rfl, hF⟩ := hF
    replace hF := zgd_some hF
    obtain ⟨g49, hF⟩ := hF
    replace hF := zbnd hF
    obtain ⟨p51, e50, hF⟩ := hF
    refine zx_callE rfl rfl rfl rfl (zrcv_isO g49) (congrArg (List.cons _) (congrArg (List.cons _) ((zsl_rf _ _).trans (congrArg (List.cons _) rfl)))) rfl (zc4 (Nat.le_of_ble_eq_true rfl)) (t135 (by omega) e50 (zaV ?_))
    refine zx_iconst (v := 1) rfl rfl rfl ?_
    replace hF := Option.some.inj hF
    subst hF
    exact zx_bret rfl rfl rfl rfl q
  · rw [if_pos c45] at hF
    replace hF := Option.some.inj hF
    subst hF
    exact zw_throw rfl q
def f131 (n : Nat)  (y0 : Option Nat) (y1 : Option Nat) (h : zH) : Option (Int32 × zH) :=
  y0.bind fun a1 =>
  zgd (isO h a1 10) <|
  (f132 n a1 h).bind fun p7 => zth p7 (fun r4 h5 =>
    y1.bind fun a10 =>
    (aS zsL h5 a10 0 (.long r4.toInt64)).bind fun h11 =>
    some (0, h11))
    (fun x6 h5 =>
    if x6 = 18 then
      some (1, h5)
    else
    if x6 = 19 then
      some (2, h5)
    else
    none)
set_option maxRecDepth 20000 in
theorem t131 {d n : Nat} {Q : zRs → zH → Prop}  {y0 : Option Nat} {y1 : Option Nat} (hd : 10 ≤ d)  {h : zH} {p : (Int32 × zH)} (hF : f131 n  y0 y1 h = some p) (q : Q (eI p.1) p.2) : zC d 131 [va_rf y0, va_rf y1] h Q := by
  refine zC_of (L := [some (va_rf y0), some (va_rf y1), none]) ((zsl_rf _ _).trans (congrArg (List.cons _) ((zsl_rf _ _).trans (congrArg (List.cons _) rfl)))) rfl ?_
  unfold f131 at hF
  obtain ⟨d, rfl⟩ : ∃ e, d = e + 1 := ⟨d - 1, by omega⟩
  refine zy_rload_n rfl rfl rfl ?_
  refine zx_iconst (v := 0) rfl rfl rfl ?_
  refine zy_rload_n rfl rfl rfl ?_
  replace hF := zbnd hF
  obtain ⟨a1, rfl, hF⟩ := hF
  replace hF := zgd_some hF
  obtain ⟨g2, hF⟩ := hF
  replace hF := zbnd hF
  obtain ⟨⟨r4, h5⟩, e3, hF⟩ := hF
  refine zx_callE rfl rfl rfl rfl (zrcv_isO g2) rfl rfl (zc4 (Nat.le_of_ble_eq_true rfl)) (t132 (by omega) e3 ?_)
  rcases r4 with r4 | x6
  rotate_left 1
  · replace hF := zthH hF
    by_cases c8 : x6 = 18
    · subst c8
      refine zaH (hp := 11) rfl ?_
      refine zx_ustore_n rfl rfl (zput_ok (L' := [some (.ref a1), some (va_rf y1), some (.retAddr 0)]) rfl (zcl_X (j := 1) rfl (zn2_rf _)) rfl) ?_
      refine zx_iconst (v := 1) rfl rfl rfl ?_
      replace hF := Option.some.inj hF
      subst hF
      exact zx_bret rfl rfl rfl rfl q
    have hF : (if x6 = 18 then _ else _) = _ := hF
    rw [if_neg c8] at hF
    by_cases c9 : x6 = 19
    · subst c9
      refine zaH (hp := 14) rfl ?_
      refine zx_ustore_n rfl rfl (zput_ok (L' := [some (.ref a1), some (va_rf y1), some (.retAddr 0)]) rfl (zcl_X (j := 1) rfl (zn2_rf _)) rfl) ?_
      refine zx_iconst (v := 2) rfl rfl rfl ?_
      replace hF := Option.some.inj hF
      subst hF
      exact zx_bret rfl rfl rfl rfl q
    have hF : (if x6 = 19 then _ else _) = _ := hF
    rw [if_neg c9] at hF
    cases hF
  replace hF := zthG hF
  refine zaI ?_
  refine zx_i2l rfl rfl ?_
  replace hF := zbnd hF
  obtain ⟨a10, rfl, hF⟩ := hF
  replace hF := zbnd hF
  obtain ⟨h11, e12, hF⟩ := hF
  refine zy_sJ rfl rfl e12 ?_
  refine zx_goto rfl rfl ?_
  refine zx_iconst (v := 0) rfl rfl rfl ?_
  replace hF := Option.some.inj hF
  subst hF
  exact zx_bret rfl rfl rfl rfl q
def f138 (n : Nat)  (y0 : Int32) (h : zH) : Option (Int32 × zH) :=
  if y0 < 0 then
    some (0, h)
  else
    if (2 : Int32) < y0 then
      some (0, h)
    else
      some (1, h)
set_option maxRecDepth 20000 in
theorem t138 {d n : Nat} {Q : zRs → zH → Prop}  {y0 : Int32} (hd : 0 ≤ d)  {h : zH} {p : (Int32 × zH)} (hF : f138 n  y0 h = some p) (q : Q (eI p.1) p.2) : zC d 138 [.int y0] h Q := by
  refine zC_of (L := [some (.int y0)]) rfl rfl ?_
  unfold f138 at hF
  refine zx_iload_n rfl rfl rfl ?_
  refine zx_if_lt rfl rfl (fun c1 => ?_) (fun c1 => ?_)
  · rw [if_pos c1] at hF
    refine zx_iconst (v := 0) rfl rfl rfl ?_
    replace hF := Option.some.inj hF
    subst hF
    exact zx_bret rfl rfl rfl rfl q
  · rw [if_neg c1] at hF
    refine zx_iload_n rfl rfl rfl ?_
    refine zx_iconst (v := 2) rfl rfl rfl ?_
    refine zx_ic_gt rfl rfl (fun c2 => ?_) (fun c2 => ?_)
    · rw [if_pos c2] at hF
      refine zx_iconst (v := 0) rfl rfl rfl ?_
      replace hF := Option.some.inj hF
      subst hF
      exact zx_bret rfl rfl rfl rfl q
    · rw [if_neg c2] at hF
      refine zx_iconst (v := 1) rfl rfl rfl ?_
      refine zx_goto rfl rfl ?_
      replace hF := Option.some.inj hF
      subst hF
      exact zx_bret rfl rfl rfl rfl q
def f139 (n : Nat)  (y0 : Nat) (y1 : Int32) (h : zH) : Option (Option Nat × zH) :=
  if y1 = 0 then
    (gR h y0 4 0).bind fun x2 =>
    some (x2, h)
  else
    if y1 = 1 then
      (gR h y0 4 1).bind fun x5 =>
      some (x5, h)
    else
      (gR h y0 4 2).bind fun x7 =>
      some (x7, h)
set_option maxRecDepth 20000 in
theorem t139 {d n : Nat} {Q : zRs → zH → Prop}  {y0 : Nat} {y1 : Int32} (hd : 0 ≤ d)  {h : zH} {p : (Option Nat × zH)} (hF : f139 n  y0 y1 h = some p) (q : Q (eA p.1) p.2) : zC d 139 [.ref y0, .int y1] h Q := by
  refine zC_of (L := [some (.ref y0), some (.int y1)]) rfl rfl ?_
  unfold f139 at hF
  refine zx_iload_n rfl rfl rfl ?_
  refine zx_if_ne rfl rfl (fun c1 => ?_) (fun c1 => ?_)
  · rw [if_neg c1] at hF
    refine zx_iload_n rfl rfl rfl ?_
    refine zx_iconst (v := 1) rfl rfl rfl ?_
    refine zx_ic_ne rfl rfl (fun c4 => ?_) (fun c4 => ?_)
    · rw [if_neg c4] at hF
      refine zx_aload_n rfl rfl rfl ?_
      replace hF := zbnd hF
      obtain ⟨x7, e8, hF⟩ := hF
      refine zy_getR rfl rfl e8 ?_
      replace hF := Option.some.inj hF
      subst hF
      exact zy_areturn (r := x7) rfl rfl rfl rfl q
    · rw [if_pos c4] at hF
      refine zx_aload_n rfl rfl rfl ?_
      replace hF := zbnd hF
      obtain ⟨x5, e6, hF⟩ := hF
      refine zy_getR rfl rfl e6 ?_
      refine zx_goto rfl rfl ?_
      replace hF := Option.some.inj hF
      subst hF
      exact zy_areturn (r := x5) rfl rfl rfl rfl q
  · rw [if_pos c1] at hF
    refine zx_aload_n rfl rfl rfl ?_
    replace hF := zbnd hF
    obtain ⟨x2, e3, hF⟩ := hF
    refine zy_getR rfl rfl e3 ?_
    replace hF := Option.some.inj hF
    subst hF
    exact zy_areturn (r := x2) rfl rfl rfl rfl q
def f140 (n : Nat)  (y0 : Nat) (h : zH) : Option (Option Nat × zH) :=
  (gI h y0 8 1).bind fun x1 =>
  zgd (isO h y0 8) <|
  (f21 n y0 0 x1 h).bind fun p5 =>
  (pF p5.2 y0 8 1 (.int 0)).bind fun h6 =>
  some (p5.1, h6)
set_option maxRecDepth 20000 in
theorem t140 {d n : Nat} {Q : zRs → zH → Prop}  {y0 : Nat} (hd : 5 ≤ d)  {h : zH} {p : (Option Nat × zH)} (hF : f140 n  y0 h = some p) (q : Q (eA p.1) p.2) : zC d 140 [.ref y0] h Q := by
  refine zC_of (L := [some (.ref y0), none]) rfl rfl ?_
  unfold f140 at hF
  obtain ⟨d, rfl⟩ : ∃ e, d = e + 1 := ⟨d - 1, by omega⟩
  refine zx_aload_n rfl rfl rfl ?_
  refine zx_iconst (v := 0) rfl rfl rfl ?_
  refine zx_aload_n rfl rfl rfl ?_
  replace hF := zbnd hF
  obtain ⟨x1, e2, hF⟩ := hF
  refine zy_getI rfl rfl e2 ?_
  replace hF := zgd_some hF
  obtain ⟨g3, hF⟩ := hF
  replace hF := zbnd hF
  obtain ⟨p5, e4, hF⟩ := hF
  refine zx_callE rfl rfl rfl rfl (zrcv_isO g3) rfl rfl (zc4 (Nat.le_of_ble_eq_true rfl)) (t21 (by omega) e4 (zaA ?_))
  refine zy_rstore_n rfl rfl rfl ?_
  refine zx_aload_n rfl rfl rfl ?_
  refine zx_iconst (v := 0) rfl rfl rfl ?_
  replace hF := zbnd hF
  obtain ⟨h6, e7, hF⟩ := hF
  refine zy_put rfl rfl e7 ?_
  refine zy_rload_n rfl rfl rfl ?_
  replace hF := Option.some.inj hF
  subst hF
  exact zy_areturn (r := p5.1) rfl rfl rfl rfl q
def f137 (n : Nat)  (y0 : Nat) (y1 : Int32) (h : zH) : Option ((Int32 ⊕ Nat) × zH) :=
  (f138 n y1 h).bind fun p2 =>
  if p2.1 = 0 then
    some (.inr 20, thH p2.2)
  else
    (gR p2.2 y0 10 2).bind fun x4 =>
    x4.bind fun a6 =>
    zgd (isO p2.2 a6 4) <|
    (f139 n a6 y1 p2.2).bind fun p9 =>
    (gR p9.2 y0 10 0).bind fun x10 =>
    x10.bind fun a12 =>
    zgd (isO p9.2 a12 8) <|
    (f140 n a12 p9.2).bind fun p15 =>
    (f73 n p9.1 p15.1 p15.2).bind fun p17 =>
    some (.inl p17.1, p17.2)
set_option maxRecDepth 20000 in
theorem t137 {d n : Nat} {Q : zRs → zH → Prop}  {y0 : Nat} {y1 : Int32} (hd : 6 ≤ d)  {h : zH} {p : ((Int32 ⊕ Nat) × zH)} (hF : f137 n  y0 y1 h = some p) (q : Q (eIx p.1) p.2) : zC d 137 [.ref y0, .int y1] h Q := by
  refine zC_of (L := [some (.ref y0), some (.int y1)]) rfl rfl ?_
  unfold f137 at hF
  obtain ⟨d, rfl⟩ : ∃ e, d = e + 1 := ⟨d - 1, by omega⟩
  refine zx_iload_n rfl rfl rfl ?_
  replace hF := zbnd hF
  obtain ⟨p2, e1, hF⟩ := hF
  refine zx_callE rfl rfl rfl rfl rfl rfl rfl (zc4 (Nat.le_of_ble_eq_true rfl)) (t138 (by omega) e1 (zaI ?_))
  refine zx_if_ne rfl rfl (fun c3 => ?_) (fun c3 => ?_)
  · rw [if_neg c3] at hF
    refine zx_aload_n rfl rfl rfl ?_
    replace hF := zbnd hF
    obtain ⟨x4, e5, hF⟩ := hF
    refine zy_getR rfl rfl e5 ?_
    refine zx_iload_n rfl rfl rfl ?_
    replace hF := zbnd hF
    obtain ⟨a6, rfl, hF⟩ := hF
    replace hF := zgd_some hF
    obtain ⟨g7, hF⟩ := hF
    replace hF := zbnd hF
    obtain ⟨p9, e8, hF⟩ := hF
    refine zx_callE rfl rfl rfl rfl (zrcv_isO g7) rfl rfl (zc4 (Nat.le_of_ble_eq_true rfl)) (t139 (by omega) e8 (zaA ?_))
    refine zx_aload_n rfl rfl rfl ?_
    replace hF := zbnd hF
    obtain ⟨x10, e11, hF⟩ := hF
    refine zy_getR rfl rfl e11 ?_
    replace hF := zbnd hF
    obtain ⟨a12, rfl, hF⟩ := hF
    replace hF := zgd_some hF
    obtain ⟨g13, hF⟩ := hF
    replace hF := zbnd hF
    obtain ⟨p15, e14, hF⟩ := hF
    refine zx_callE rfl rfl rfl rfl (zrcv_isO g13) rfl rfl (zc4 (Nat.le_of_ble_eq_true rfl)) (t140 (by omega) e14 (zaA ?_))
    replace hF := zbnd hF
    obtain ⟨p17, e16, hF⟩ := hF
    refine zx_callE rfl rfl rfl rfl rfl ((zsl_rf _ _).trans (congrArg (List.cons _) ((zsl_rf _ _).trans (congrArg (List.cons _) rfl)))) rfl (zc4 (Nat.le_of_ble_eq_true rfl)) (t73 (by omega) e16 (zaI ?_))
    replace hF := Option.some.inj hF
    subst hF
    exact zx_bret rfl rfl rfl rfl q
  · rw [if_pos c3] at hF
    replace hF := Option.some.inj hF
    subst hF
    exact zw_throw rfl q
def f136 (n : Nat)  (y0 : Option Nat) (y1 : Int32) (y2 : Option Nat) (h : zH) : Option (Int32 × zH) :=
  y0.bind fun a1 =>
  zgd (isO h a1 10) <|
  (f137 n a1 y1 h).bind fun p7 => zth p7 (fun r4 h5 =>
    y2.bind fun a9 =>
    (aS zsL h5 a9 0 (.long r4.toInt64)).bind fun h10 =>
    some (0, h10))
    (fun x6 h5 =>
    if x6 = 20 then
      some (1, h5)
    else
    none)
set_option maxRecDepth 20000 in
theorem t136 {d n : Nat} {Q : zRs → zH → Prop}  {y0 : Option Nat} {y1 : Int32} {y2 : Option Nat} (hd : 7 ≤ d)  {h : zH} {p : (Int32 × zH)} (hF : f136 n  y0 y1 y2 h = some p) (q : Q (eI p.1) p.2) : zC d 136 [va_rf y0, .int y1, va_rf y2] h Q := by
  refine zC_of (L := [some (va_rf y0), some (.int y1), some (va_rf y2), none]) ((zsl_rf _ _).trans (congrArg (List.cons _) (congrArg (List.cons _) ((zsl_rf _ _).trans (congrArg (List.cons _) rfl))))) rfl ?_
  unfold f136 at hF
  obtain ⟨d, rfl⟩ : ∃ e, d = e + 1 := ⟨d - 1, by omega⟩
  refine zy_rload_n rfl rfl rfl ?_
  refine zx_iconst (v := 0) rfl rfl rfl ?_
  refine zy_rload_n rfl rfl rfl ?_
  refine zx_iload_n rfl rfl rfl ?_
  replace hF := zbnd hF
  obtain ⟨a1, rfl, hF⟩ := hF
  replace hF := zgd_some hF
  obtain ⟨g2, hF⟩ := hF
  replace hF := zbnd hF
  obtain ⟨⟨r4, h5⟩, e3, hF⟩ := hF
  refine zx_callE rfl rfl rfl rfl (zrcv_isO g2) rfl rfl (zc4 (Nat.le_of_ble_eq_true rfl)) (t137 (by omega) e3 ?_)
  rcases r4 with r4 | x6
  rotate_left 1
  · replace hF := zthH hF
    by_cases c8 : x6 = 20
    · subst c8
      refine zaH (hp := 12) rfl ?_
      refine zx_ustore_n rfl rfl (zput_ok (L' := [some (.ref a1), some (.int y1), some (va_rf y2), some (.retAddr 0)]) rfl (zcl_X (j := 2) rfl (zn2_rf _)) rfl) ?_
      refine zx_iconst (v := 1) rfl rfl rfl ?_
      replace hF := Option.some.inj hF
      subst hF
      exact zx_bret rfl rfl rfl rfl q
    have hF : (if x6 = 20 then _ else _) = _ := hF
    rw [if_neg c8] at hF
    cases hF
  replace hF := zthG hF
  refine zaI ?_
  refine zx_i2l rfl rfl ?_
  replace hF := zbnd hF
  obtain ⟨a9, rfl, hF⟩ := hF
  replace hF := zbnd hF
  obtain ⟨h10, e11, hF⟩ := hF
  refine zy_sJ rfl rfl e11 ?_
  refine zx_goto rfl rfl ?_
  refine zx_iconst (v := 0) rfl rfl rfl ?_
  replace hF := Option.some.inj hF
  subst hF
  exact zx_bret rfl rfl rfl rfl q
def b142_25 (n : Nat)   (l0 : Nat) (l1 : Int32) (l2 : Int32) (l3 : Int32) (h : zH) : Option ((Int32 ⊕ Nat) × zH) :=
  some (.inr 20, thH h)
set_option maxRecDepth 20000 in
theorem tb142_25 {d n : Nat} {Q : zRs → zH → Prop}   {l0 : Nat} {l1 : Int32} {l2 : Int32} {l3 : Int32}  {x4 : Option Value} (hd : 4 ≤ d)   {h : zH} {p : ((Int32 ⊕ Nat) × zH)} (hx4 : zn2 x4 = true) (hF : b142_25 n   l0 l1 l2 l3 h = some p) (q : Q (eIx p.1) p.2) : zW d 142 25 [some (.ref l0), some (.int l1), some (.int l2), some (.int l3), x4] [] h Q := by
  unfold b142_25 at hF
  obtain ⟨d, rfl⟩ : ∃ e, d = e + 1 := ⟨d - 1, by omega⟩
  replace hF := Option.some.inj hF
  subst hF
  exact zw_throw rfl q
def f142 (n : Nat)  (y0 : Nat) (y1 : Int32) (y2 : Int32) (y3 : Int32) (h : zH) : Option ((Int32 ⊕ Nat) × zH) :=
  (f138 n y1 h).bind fun p2 =>
  if p2.1 = 0 then
    b142_25 n  y0 y1 y2 y3 p2.2
  else
    (gR p2.2 y0 10 2).bind fun x4 =>
    x4.bind fun a6 =>
    zgd (isO p2.2 a6 4) <|
    (f139 n a6 y1 p2.2).bind fun p9 =>
    p9.1.bind fun a10 =>
    zgd (isO p9.2 a10 14) <|
    (f68 n a10 p9.2).bind fun p14 =>
    (f13 n y2 p14.1 p14.2).bind fun p16 =>
    if p16.1 = 0 then
      b142_25 n  y0 y1 y2 y3 p16.2
    else
      (gR p16.2 y0 10 2).bind fun x18 =>
      x18.bind fun a20 =>
      zgd (isO p16.2 a20 4) <|
      (f139 n a20 y1 p16.2).bind fun p23 =>
      p23.1.bind fun a24 =>
      zgd (isO p23.2 a24 14) <|
      (f74 n a24 y2 p23.2).bind fun p28 =>
      zgd (kC p28.2 p28.1 9 0) <|
      p28.1.bind fun a30 =>
      (gR p28.2 a30 9 3).bind fun x32 =>
      if y3 = (-1) then
        x32.bind fun a35 =>
        zgd (isO p28.2 a35 12) <|
        (f55 n a35 p28.2).bind fun p38 =>
        some (.inl p38.1, p38.2)
      else
        x32.bind fun a39 =>
        zgd (isO p28.2 a39 12) <|
        (f55 n a39 p28.2).bind fun p42 =>
        (f13 n y3 p42.1 p42.2).bind fun p44 =>
        if p44.1 = 0 then
          some (.inr 20, thH p44.2)
        else
          zgd (isO p44.2 a39 12) <|
          (f59 n a39 y3 p44.2).bind fun p48 =>
          some (.inl p48.1, p48.2)
set_option maxRecDepth 20000 in
theorem t142 {d n : Nat} {Q : zRs → zH → Prop}  {y0 : Nat} {y1 : Int32} {y2 : Int32} {y3 : Int32} (hd : 4 ≤ d)  {h : zH} {p : ((Int32 ⊕ Nat) × zH)} (hF : f142 n  y0 y1 y2 y3 h = some p) (q : Q (eIx p.1) p.2) : zC d 142 [.ref y0, .int y1, .int y2, .int y3] h Q := by
  refine zC_of (L := [some (.ref y0), some (.int y1), some (.int y2), some (.int y3), none]) rfl rfl ?_
  unfold f142 at hF
  obtain ⟨d, rfl⟩ : ∃ e, d = e + 1 := ⟨d - 1, by omega⟩
  refine zx_iload_n rfl rfl rfl ?_
  replace hF := zbnd hF
  obtain ⟨p2, e1, hF⟩ := hF
  refine zx_callE rfl rfl rfl rfl rfl rfl rfl (zc4 (Nat.le_of_ble_eq_true rfl)) (t138 (by omega) e1 (zaI ?_))
  refine zx_if_eq rfl rfl (fun c3 => ?_) (fun c3 => ?_)
  · rw [if_pos c3] at hF
    exact tb142_25 (l0 := y0) (l1 := y1) (l2 := y2) (l3 := y3) hd  rfl hF q
  · rw [if_neg c3] at hF
    refine zx_iload_n rfl rfl rfl ?_
    refine zx_aload_n rfl rfl rfl ?_
    replace hF := zbnd hF
    obtain ⟨x4, e5, hF⟩ := hF
    refine zy_getR rfl rfl e5 ?_
    refine zx_iload_n rfl rfl rfl ?_
    replace hF := zbnd hF
    obtain ⟨a6, rfl, hF⟩ := hF
    replace hF := zgd_some hF
    obtain ⟨g7, hF⟩ := hF
    replace hF := zbnd hF
    obtain ⟨p9, e8, hF⟩ := hF
    refine zx_callE rfl rfl rfl rfl (zrcv_isO g7) rfl rfl (zc4 (Nat.le_of_ble_eq_true rfl)) (t139 (by omega) e8 (zaA ?_))
    replace hF := zbnd hF
    obtain ⟨a10, e11, hF⟩ := hF
    rw [e11]
    replace hF := zgd_some hF
    obtain ⟨g12, hF⟩ := hF
    replace hF := zbnd hF
    obtain ⟨p14, e13, hF⟩ := hF
    refine zx_callE rfl rfl rfl rfl (zrcv_isO g12) rfl rfl (zc4 (Nat.le_of_ble_eq_true rfl)) (t68 (by omega) e13 (zaI ?_))
    replace hF := zbnd hF
    obtain ⟨p16, e15, hF⟩ := hF
    refine zx_callE rfl rfl rfl rfl rfl rfl rfl (zc4 (Nat.le_of_ble_eq_true rfl)) (t13 (by omega) e15 (zaI ?_))
    refine zx_if_ne rfl rfl (fun c17 => ?_) (fun c17 => ?_)
    · rw [if_neg c17] at hF
      refine zx_aload_n rfl rfl rfl ?_
      replace hF := zbnd hF
      obtain ⟨x18, e19, hF⟩ := hF
      refine zy_getR rfl rfl e19 ?_
      refine zx_iload_n rfl rfl rfl ?_
      replace hF := zbnd hF
      obtain ⟨a20, rfl, hF⟩ := hF
      replace hF := zgd_some hF
      obtain ⟨g21, hF⟩ := hF
      replace hF := zbnd hF
      obtain ⟨p23, e22, hF⟩ := hF
      refine zx_callE rfl rfl rfl rfl (zrcv_isO g21) rfl rfl (zc4 (Nat.le_of_ble_eq_true rfl)) (t139 (by omega) e22 (zaA ?_))
      refine zx_iload_n rfl rfl rfl ?_
      replace hF := zbnd hF
      obtain ⟨a24, e25, hF⟩ := hF
      rw [e25]
      replace hF := zgd_some hF
      obtain ⟨g26, hF⟩ := hF
      replace hF := zbnd hF
      obtain ⟨p28, e27, hF⟩ := hF
      refine zx_callE rfl rfl rfl rfl (zrcv_isO g26) rfl rfl (zc4 (Nat.le_of_ble_eq_true rfl)) (t74 (by omega) e27 (zaA ?_))
      replace hF := zgd_some hF
      obtain ⟨g29, hF⟩ := hF
      refine zy_cast (r := p28.1) rfl rfl g29 ?_
      replace hF := zbnd hF
      obtain ⟨a30, e31, hF⟩ := hF
      rw [e31]
      replace hF := zbnd hF
      obtain ⟨x32, e33, hF⟩ := hF
      refine zy_getR rfl rfl e33 ?_
      refine zy_rstore rfl rfl rfl ?_
      refine zx_iload_n rfl rfl rfl ?_
      refine zx_iconst (v := (-1)) rfl rfl rfl ?_
      refine zx_ic_ne rfl rfl (fun c34 => ?_) (fun c34 => ?_)
      · rw [if_neg c34] at hF
        refine zx_iload_n rfl rfl rfl ?_
        refine zy_rload rfl rfl rfl ?_
        replace hF := zbnd hF
        obtain ⟨a39, rfl, hF⟩ := hF
        replace hF := zgd_some hF
        obtain ⟨g40, hF⟩ := hF
        replace hF := zbnd hF
        obtain ⟨p42, e41, hF⟩ := hF
        refine zx_callE rfl rfl rfl rfl (zrcv_isO g40) rfl rfl (zc4 (Nat.le_of_ble_eq_true rfl)) (t55 (by omega) e41 (zaI ?_))
        replace hF := zbnd hF
        obtain ⟨p44, e43, hF⟩ := hF
        refine zx_callE rfl rfl rfl rfl rfl rfl rfl (zc4 (Nat.le_of_ble_eq_true rfl)) (t13 (by omega) e43 (zaI ?_))
        refine zx_if_ne rfl rfl (fun c45 => ?_) (fun c45 => ?_)
        · rw [if_neg c45] at hF
          refine zx_aload rfl rfl rfl ?_
          refine zx_iload_n rfl rfl rfl ?_
          replace hF := zgd_some hF
          obtain ⟨g46, hF⟩ := hF
          replace hF := zbnd hF
          obtain ⟨p48, e47, hF⟩ := hF
          refine zx_callE rfl rfl rfl rfl (zrcv_isO g46) rfl rfl (zc4 (Nat.le_of_ble_eq_true rfl)) (t59 (by omega) e47 (zaI ?_))
          replace hF := Option.some.inj hF
          subst hF
          exact zx_bret rfl rfl rfl rfl q
        · rw [if_pos c45] at hF
          replace hF := Option.some.inj hF
          subst hF
          exact zw_throw rfl q
      · rw [if_pos c34] at hF
        refine zy_rload rfl rfl rfl ?_
        replace hF := zbnd hF
        obtain ⟨a35, rfl, hF⟩ := hF
        replace hF := zgd_some hF
        obtain ⟨g36, hF⟩ := hF
        replace hF := zbnd hF
        obtain ⟨p38, e37, hF⟩ := hF
        refine zx_callE rfl rfl rfl rfl (zrcv_isO g36) rfl rfl (zc4 (Nat.le_of_ble_eq_true rfl)) (t55 (by omega) e37 (zaI ?_))
        replace hF := Option.some.inj hF
        subst hF
        exact zx_bret rfl rfl rfl rfl q
    · rw [if_pos c17] at hF
      exact tb142_25 (l0 := y0) (l1 := y1) (l2 := y2) (l3 := y3) hd  rfl hF q
def f141 (n : Nat)  (y0 : Option Nat) (y1 : Int32) (y2 : Int32) (y3 : Int32) (y4 : Option Nat) (h : zH) : Option (Int32 × zH) :=
  y0.bind fun a1 =>
  zgd (isO h a1 10) <|
  (f142 n a1 y1 y2 y3 h).bind fun p7 => zth p7 (fun r4 h5 =>
    y4.bind fun a9 =>
    (aS zsL h5 a9 0 (.long r4.toInt64)).bind fun h10 =>
    some (0, h10))
    (fun x6 h5 =>
    if x6 = 20 then
      some (1, h5)
    else
    none)
set_option maxRecDepth 20000 in
theorem t141 {d n : Nat} {Q : zRs → zH → Prop}  {y0 : Option Nat} {y1 : Int32} {y2 : Int32} {y3 : Int32} {y4 : Option Nat} (hd : 5 ≤ d)  {h : zH} {p : (Int32 × zH)} (hF : f141 n  y0 y1 y2 y3 y4 h = some p) (q : Q (eI p.1) p.2) : zC d 141 [va_rf y0, .int y1, .int y2, .int y3, va_rf y4] h Q := by
  refine zC_of (L := [some (va_rf y0), some (.int y1), some (.int y2), some (.int y3), some (va_rf y4), none]) ((zsl_rf _ _).trans (congrArg (List.cons _) (congrArg (List.cons _) (congrArg (List.cons _) (congrArg (List.cons _) ((zsl_rf _ _).trans (congrArg (List.cons _) rfl))))))) rfl ?_
  unfold f141 at hF
  obtain ⟨d, rfl⟩ : ∃ e, d = e + 1 := ⟨d - 1, by omega⟩
  refine zy_rload rfl rfl rfl ?_
  refine zx_iconst (v := 0) rfl rfl rfl ?_
  refine zy_rload_n rfl rfl rfl ?_
  refine zx_iload_n rfl rfl rfl ?_
  refine zx_iload_n rfl rfl rfl ?_
  refine zx_iload_n rfl rfl rfl ?_
  replace hF := zbnd hF
  obtain ⟨a1, rfl, hF⟩ := hF
  replace hF := zgd_some hF
  obtain ⟨g2, hF⟩ := hF
  replace hF := zbnd hF
  obtain ⟨⟨r4, h5⟩, e3, hF⟩ := hF
  refine zx_callE rfl rfl rfl rfl (zrcv_isO g2) rfl rfl (zc4 (Nat.le_of_ble_eq_true rfl)) (t142 (by omega) e3 ?_)
  rcases r4 with r4 | x6
  rotate_left 1
  · replace hF := zthH hF
    by_cases c8 : x6 = 20
    · subst c8
      refine zaH (hp := 15) rfl ?_
      refine zx_ustore rfl rfl (zput_ok (L' := [some (.ref a1), some (.int y1), some (.int y2), some (.int y3), some (va_rf y4), some (.retAddr 0)]) rfl (zcl_X (j := 4) rfl (zn2_rf _)) rfl) ?_
      refine zx_iconst (v := 1) rfl rfl rfl ?_
      replace hF := Option.some.inj hF
      subst hF
      exact zx_bret rfl rfl rfl rfl q
    have hF : (if x6 = 20 then _ else _) = _ := hF
    rw [if_neg c8] at hF
    cases hF
  replace hF := zthG hF
  refine zaI ?_
  refine zx_i2l rfl rfl ?_
  replace hF := zbnd hF
  obtain ⟨a9, rfl, hF⟩ := hF
  replace hF := zbnd hF
  obtain ⟨h10, e11, hF⟩ := hF
  refine zy_sJ rfl rfl e11 ?_
  refine zx_goto rfl rfl ?_
  refine zx_iconst (v := 0) rfl rfl rfl ?_
  replace hF := Option.some.inj hF
  subst hF
  exact zx_bret rfl rfl rfl rfl q
def f145 (n : Nat)  (y0 : Nat) (h : zH) : Option (Int32 × zH) :=
  (gR h y0 0 0).bind fun x1 =>
  (rEq x1 (some 16)).bind fun b3 =>
  if b3 = true then
    some (0, h)
  else
    (gR h y0 0 0).bind fun x6 =>
    (rEq x6 (some 17)).bind fun b8 =>
    if b8 = true then
      some (1, h)
    else
      some (2, h)
set_option maxRecDepth 20000 in
theorem t145 {d n : Nat} {Q : zRs → zH → Prop}  {y0 : Nat} (hd : 0 ≤ d)  {h : zH} {p : (Int32 × zH)} (hF : f145 n  y0 h = some p) (q : Q (eI p.1) p.2) : zC d 145 [.ref y0] h Q := by
  refine zC_of (L := [some (.ref y0)]) rfl rfl ?_
  unfold f145 at hF
  refine zx_aload_n rfl rfl rfl ?_
  replace hF := zbnd hF
  obtain ⟨x1, e2, hF⟩ := hF
  refine zy_getR rfl rfl e2 ?_
  refine zx_gets rfl rfl rfl ?_
  replace hF := zbnd hF
  obtain ⟨b3, e4, hF⟩ := hF
  refine zy_ane rfl rfl e4 (fun c5 => ?_) (fun c5 => ?_)
  · rw [if_neg (by rw [c5]; exact Bool.false_ne_true)] at hF
    refine zx_aload_n rfl rfl rfl ?_
    replace hF := zbnd hF
    obtain ⟨x6, e7, hF⟩ := hF
    refine zy_getR rfl rfl e7 ?_
    refine zx_gets rfl rfl rfl ?_
    replace hF := zbnd hF
    obtain ⟨b8, e9, hF⟩ := hF
    refine zy_ane rfl rfl e9 (fun c10 => ?_) (fun c10 => ?_)
    · rw [if_neg (by rw [c10]; exact Bool.false_ne_true)] at hF
      refine zx_iconst (v := 2) rfl rfl rfl ?_
      replace hF := Option.some.inj hF
      subst hF
      exact zx_bret rfl rfl rfl rfl q
    · rw [if_pos c10] at hF
      refine zx_iconst (v := 1) rfl rfl rfl ?_
      refine zx_goto rfl rfl ?_
      replace hF := Option.some.inj hF
      subst hF
      exact zx_bret rfl rfl rfl rfl q
  · rw [if_pos c5] at hF
    refine zx_iconst (v := 0) rfl rfl rfl ?_
    replace hF := Option.some.inj hF
    subst hF
    exact zx_bret rfl rfl rfl rfl q
def f144 (n : Nat)  (y0 : Nat) (y1 : Int32) (y2 : Int32) (h : zH) : Option ((Int32 ⊕ Nat) × zH) :=
  (gR h y0 10 2).bind fun x1 =>
  x1.bind fun a3 =>
  (gR h a3 4 4).bind fun x4 =>
  x4.bind fun a6 =>
  zgd (isO h a6 14) <|
  (f68 n a6 h).bind fun p9 =>
  (f13 n y1 p9.1 p9.2).bind fun p11 =>
  if p11.1 = 0 then
    some (.inr 20, thH p11.2)
  else
    (gR p11.2 y0 10 2).bind fun x13 =>
    x13.bind fun a15 =>
    (gR p11.2 a15 4 4).bind fun x16 =>
    x16.bind fun a18 =>
    zgd (isO p11.2 a18 14) <|
    (f74 n a18 y1 p11.2).bind fun p21 =>
    zgd (kC p21.2 p21.1 0 0) <|
    if y2 = 0 then
      p21.1.bind fun a24 =>
      zgd (isO p21.2 a24 0) <|
      (f145 n a24 p21.2).bind fun p28 =>
      some (.inl p28.1, p28.2)
    else
    if y2 = 1 then
      p21.1.bind fun a30 =>
      (gR p21.2 a30 0 1).bind fun x32 =>
      x32.bind fun a34 =>
      zgd (isO p21.2 a34 14) <|
      (f68 n a34 p21.2).bind fun p37 =>
      some (.inl p37.1, p37.2)
    else
    if y2 = 2 then
      p21.1.bind fun a39 =>
      (gR p21.2 a39 0 2).bind fun x41 =>
      x41.bind fun a43 =>
      zgd (isO p21.2 a43 14) <|
      (f68 n a43 p21.2).bind fun p46 =>
      some (.inl p46.1, p46.2)
    else
    if y2 = 3 then
      p21.1.bind fun a48 =>
      (gI p21.2 a48 0 9).bind fun x50 =>
      (gI p21.2 a48 0 8).bind fun x52 =>
      some (.inl (x50 - x52), p21.2)
    else
    if y2 = 4 then
      p21.1.bind fun a55 =>
      (gI p21.2 a55 0 7).bind fun x57 =>
      some (.inl x57, p21.2)
    else
    some (.inr 20, thH p21.2)
set_option maxRecDepth 20000 in
theorem t144 {d n : Nat} {Q : zRs → zH → Prop}  {y0 : Nat} {y1 : Int32} {y2 : Int32} (hd : 3 ≤ d)  {h : zH} {p : ((Int32 ⊕ Nat) × zH)} (hF : f144 n  y0 y1 y2 h = some p) (q : Q (eIx p.1) p.2) : zC d 144 [.ref y0, .int y1, .int y2] h Q := by
  refine zC_of (L := [some (.ref y0), some (.int y1), some (.int y2), none]) rfl rfl ?_
  unfold f144 at hF
  obtain ⟨d, rfl⟩ : ∃ e, d = e + 1 := ⟨d - 1, by omega⟩
  refine zx_iload_n rfl rfl rfl ?_
  refine zx_aload_n rfl rfl rfl ?_
  replace hF := zbnd hF
  obtain ⟨x1, e2, hF⟩ := hF
  refine zy_getR rfl rfl e2 ?_
  replace hF := zbnd hF
  obtain ⟨a3, rfl, hF⟩ := hF
  replace hF := zbnd hF
  obtain ⟨x4, e5, hF⟩ := hF
  refine zy_getR rfl rfl e5 ?_
  replace hF := zbnd hF
  obtain ⟨a6, rfl, hF⟩ := hF
  replace hF := zgd_some hF
  obtain ⟨g7, hF⟩ := hF
  replace hF := zbnd hF
  obtain ⟨p9, e8, hF⟩ := hF
  refine zx_callE rfl rfl rfl rfl (zrcv_isO g7) rfl rfl (zc4 (Nat.le_of_ble_eq_true rfl)) (t68 (by omega) e8 (zaI ?_))
  replace hF := zbnd hF
  obtain ⟨p11, e10, hF⟩ := hF
  refine zx_callE rfl rfl rfl rfl rfl rfl rfl (zc4 (Nat.le_of_ble_eq_true rfl)) (t13 (by omega) e10 (zaI ?_))
  refine zx_if_ne rfl rfl (fun c12 => ?_) (fun c12 => ?_)
  · rw [if_neg c12] at hF
    refine zx_aload_n rfl rfl rfl ?_
    replace hF := zbnd hF
    obtain ⟨x13, e14, hF⟩ := hF
    refine zy_getR rfl rfl e14 ?_
    replace hF := zbnd hF
    obtain ⟨a15, rfl, hF⟩ := hF
    replace hF := zbnd hF
    obtain ⟨x16, e17, hF⟩ := hF
    refine zy_getR rfl rfl e17 ?_
    refine zx_iload_n rfl rfl rfl ?_
    replace hF := zbnd hF
    obtain ⟨a18, rfl, hF⟩ := hF
    replace hF := zgd_some hF
    obtain ⟨g19, hF⟩ := hF
    replace hF := zbnd hF
    obtain ⟨p21, e20, hF⟩ := hF
    refine zx_callE rfl rfl rfl rfl (zrcv_isO g19) rfl rfl (zc4 (Nat.le_of_ble_eq_true rfl)) (t74 (by omega) e20 (zaA ?_))
    replace hF := zgd_some hF
    obtain ⟨g22, hF⟩ := hF
    refine zy_cast (r := p21.1) rfl rfl g22 ?_
    refine zy_rstore_n rfl rfl rfl ?_
    refine zx_iload_n rfl rfl rfl ?_
    by_cases c23 : y2 = 0
    · rw [if_pos c23] at hF
      refine zw_switch rfl rfl (t := 76) (by rw [c23]; rfl) ?_
      refine zy_rload_n rfl rfl rfl ?_
      replace hF := zbnd hF
      obtain ⟨a24, e25, hF⟩ := hF
      rw [e25]
      replace hF := zgd_some hF
      obtain ⟨g26, hF⟩ := hF
      replace hF := zbnd hF
      obtain ⟨p28, e27, hF⟩ := hF
      refine zx_callE rfl rfl rfl rfl (zrcv_isO g26) rfl rfl (zc4 (Nat.le_of_ble_eq_true rfl)) (t145 (by omega) e27 (zaI ?_))
      replace hF := Option.some.inj hF
      subst hF
      exact zx_bret rfl rfl rfl rfl q
    rw [if_neg c23] at hF
    by_cases c29 : y2 = 1
    · rw [if_pos c29] at hF
      refine zw_switch rfl rfl (t := 81) (by rw [c29]; rfl) ?_
      refine zy_rload_n rfl rfl rfl ?_
      replace hF := zbnd hF
      obtain ⟨a30, e31, hF⟩ := hF
      rw [e31]
      replace hF := zbnd hF
      obtain ⟨x32, e33, hF⟩ := hF
      refine zy_getR rfl rfl e33 ?_
      replace hF := zbnd hF
      obtain ⟨a34, rfl, hF⟩ := hF
      replace hF := zgd_some hF
      obtain ⟨g35, hF⟩ := hF
      replace hF := zbnd hF
      obtain ⟨p37, e36, hF⟩ := hF
      refine zx_callE rfl rfl rfl rfl (zrcv_isO g35) rfl rfl (zc4 (Nat.le_of_ble_eq_true rfl)) (t68 (by omega) e36 (zaI ?_))
      replace hF := Option.some.inj hF
      subst hF
      exact zx_bret rfl rfl rfl rfl q
    rw [if_neg c29] at hF
    by_cases c38 : y2 = 2
    · rw [if_pos c38] at hF
      refine zw_switch rfl rfl (t := 89) (by rw [c38]; rfl) ?_
      refine zy_rload_n rfl rfl rfl ?_
      replace hF := zbnd hF
      obtain ⟨a39, e40, hF⟩ := hF
      rw [e40]
      replace hF := zbnd hF
      obtain ⟨x41, e42, hF⟩ := hF
      refine zy_getR rfl rfl e42 ?_
      replace hF := zbnd hF
      obtain ⟨a43, rfl, hF⟩ := hF
      replace hF := zgd_some hF
      obtain ⟨g44, hF⟩ := hF
      replace hF := zbnd hF
      obtain ⟨p46, e45, hF⟩ := hF
      refine zx_callE rfl rfl rfl rfl (zrcv_isO g44) rfl rfl (zc4 (Nat.le_of_ble_eq_true rfl)) (t68 (by omega) e45 (zaI ?_))
      replace hF := Option.some.inj hF
      subst hF
      exact zx_bret rfl rfl rfl rfl q
    rw [if_neg c38] at hF
    by_cases c47 : y2 = 3
    · rw [if_pos c47] at hF
      refine zw_switch rfl rfl (t := 97) (by rw [c47]; rfl) ?_
      refine zy_rload_n rfl rfl rfl ?_
      replace hF := zbnd hF
      obtain ⟨a48, e49, hF⟩ := hF
      rw [e49]
      replace hF := zbnd hF
      obtain ⟨x50, e51, hF⟩ := hF
      refine zy_getI rfl rfl e51 ?_
      refine zx_aload_n rfl rfl rfl ?_
      replace hF := zbnd hF
      obtain ⟨x52, e53, hF⟩ := hF
      refine zy_getI rfl rfl e53 ?_
      refine zx_isub rfl rfl ?_
      replace hF := Option.some.inj hF
      subst hF
      exact zx_bret rfl rfl rfl rfl q
    rw [if_neg c47] at hF
    by_cases c54 : y2 = 4
    · rw [if_pos c54] at hF
      refine zw_switch rfl rfl (t := 107) (by rw [c54]; rfl) ?_
      refine zy_rload_n rfl rfl rfl ?_
      replace hF := zbnd hF
      obtain ⟨a55, e56, hF⟩ := hF
      rw [e56]
      replace hF := zbnd hF
      obtain ⟨x57, e58, hF⟩ := hF
      refine zy_getI rfl rfl e58 ?_
      replace hF := Option.some.inj hF
      subst hF
      exact zx_bret rfl rfl rfl rfl q
    rw [if_neg c54] at hF
    have zc23 := zne c23 (z := 0) (by decide)
    have zc29 := zne c29 (z := 1) (by decide)
    have zc38 := zne c38 (z := 2) (by decide)
    have zc47 := zne c47 (z := 3) (by decide)
    have zc54 := zne c54 (z := 4) (by decide)
    refine zw_switch rfl rfl (t := 112) (zsw_d (by omega) (by decide) (by decide)) ?_
    replace hF := Option.some.inj hF
    subst hF
    exact zw_throw rfl q
  · rw [if_pos c12] at hF
    replace hF := Option.some.inj hF
    subst hF
    exact zw_throw rfl q
def f143 (n : Nat)  (y0 : Option Nat) (y1 : Int32) (y2 : Int32) (y3 : Option Nat) (h : zH) : Option (Int32 × zH) :=
  y0.bind fun a1 =>
  zgd (isO h a1 10) <|
  (f144 n a1 y1 y2 h).bind fun p7 => zth p7 (fun r4 h5 =>
    y3.bind fun a9 =>
    (aS zsL h5 a9 0 (.long r4.toInt64)).bind fun h10 =>
    some (0, h10))
    (fun x6 h5 =>
    if x6 = 20 then
      some (1, h5)
    else
    none)
set_option maxRecDepth 20000 in
theorem t143 {d n : Nat} {Q : zRs → zH → Prop}  {y0 : Option Nat} {y1 : Int32} {y2 : Int32} {y3 : Option Nat} (hd : 4 ≤ d)  {h : zH} {p : (Int32 × zH)} (hF : f143 n  y0 y1 y2 y3 h = some p) (q : Q (eI p.1) p.2) : zC d 143 [va_rf y0, .int y1, .int y2, va_rf y3] h Q := by
  refine zC_of (L := [some (va_rf y0), some (.int y1), some (.int y2), some (va_rf y3), none]) ((zsl_rf _ _).trans (congrArg (List.cons _) (congrArg (List.cons _) (congrArg (List.cons _) ((zsl_rf _ _).trans (congrArg (List.cons _) rfl)))))) rfl ?_
  unfold f143 at hF
  obtain ⟨d, rfl⟩ : ∃ e, d = e + 1 := ⟨d - 1, by omega⟩
  refine zy_rload_n rfl rfl rfl ?_
  refine zx_iconst (v := 0) rfl rfl rfl ?_
  refine zy_rload_n rfl rfl rfl ?_
  refine zx_iload_n rfl rfl rfl ?_
  refine zx_iload_n rfl rfl rfl ?_
  replace hF := zbnd hF
  obtain ⟨a1, rfl, hF⟩ := hF
  replace hF := zgd_some hF
  obtain ⟨g2, hF⟩ := hF
  replace hF := zbnd hF
  obtain ⟨⟨r4, h5⟩, e3, hF⟩ := hF
  refine zx_callE rfl rfl rfl rfl (zrcv_isO g2) rfl rfl (zc4 (Nat.le_of_ble_eq_true rfl)) (t144 (by omega) e3 ?_)
  rcases r4 with r4 | x6
  rotate_left 1
  · replace hF := zthH hF
    by_cases c8 : x6 = 20
    · subst c8
      refine zaH (hp := 13) rfl ?_
      refine zx_ustore rfl rfl (zput_ok (L' := [some (.ref a1), some (.int y1), some (.int y2), some (va_rf y3), some (.retAddr 0)]) rfl (zcl_X (j := 3) rfl (zn2_rf _)) rfl) ?_
      refine zx_iconst (v := 1) rfl rfl rfl ?_
      replace hF := Option.some.inj hF
      subst hF
      exact zx_bret rfl rfl rfl rfl q
    have hF : (if x6 = 20 then _ else _) = _ := hF
    rw [if_neg c8] at hF
    cases hF
  replace hF := zthG hF
  refine zaI ?_
  refine zx_i2l rfl rfl ?_
  replace hF := zbnd hF
  obtain ⟨a9, rfl, hF⟩ := hF
  replace hF := zbnd hF
  obtain ⟨h10, e11, hF⟩ := hF
  refine zy_sJ rfl rfl e11 ?_
  refine zx_goto rfl rfl ?_
  refine zx_iconst (v := 0) rfl rfl rfl ?_
  replace hF := Option.some.inj hF
  subst hF
  exact zx_bret rfl rfl rfl rfl q
def f151 (n : Nat)  (y0 : Nat) (y1 : Int32) (h : zH) : Option (Int32 × zH) :=
  (gR h y0 1 3).bind fun x1 =>
  x1.bind fun a3 =>
  (aN h a3).bind fun x4 =>
  (f13 n y1 x4 h).bind fun p7 =>
  if p7.1 = 0 then
    some (0, p7.2)
  else
    (gR p7.2 y0 1 3).bind fun x9 =>
    x9.bind fun a11 =>
    (aB p7.2 a11 y1).bind fun x12 =>
    if x12 = 0 then
      some (0, p7.2)
    else
      some (1, p7.2)
set_option maxRecDepth 20000 in
theorem t151 {d n : Nat} {Q : zRs → zH → Prop}  {y0 : Nat} {y1 : Int32} (hd : 1 ≤ d)  {h : zH} {p : (Int32 × zH)} (hF : f151 n  y0 y1 h = some p) (q : Q (eI p.1) p.2) : zC d 151 [.ref y0, .int y1] h Q := by
  refine zC_of (L := [some (.ref y0), some (.int y1)]) rfl rfl ?_
  unfold f151 at hF
  obtain ⟨d, rfl⟩ : ∃ e, d = e + 1 := ⟨d - 1, by omega⟩
  refine zx_iload_n rfl rfl rfl ?_
  refine zx_aload_n rfl rfl rfl ?_
  replace hF := zbnd hF
  obtain ⟨x1, e2, hF⟩ := hF
  refine zy_getR rfl rfl e2 ?_
  replace hF := zbnd hF
  obtain ⟨a3, rfl, hF⟩ := hF
  replace hF := zbnd hF
  obtain ⟨x4, e5, hF⟩ := hF
  refine zy_alen rfl rfl e5 ?_
  replace hF := zbnd hF
  obtain ⟨p7, e6, hF⟩ := hF
  refine zx_callF rfl rfl rfl rfl rfl rfl rfl (zc4 (Nat.le_of_ble_eq_true rfl)) (t13 (by omega) e6 (zaI ?_))
  refine zx_if_eq rfl rfl (fun c8 => ?_) (fun c8 => ?_)
  · rw [if_pos c8] at hF
    refine zx_iconst (v := 0) rfl rfl rfl ?_
    replace hF := Option.some.inj hF
    subst hF
    exact zx_bret rfl rfl rfl rfl q
  · rw [if_neg c8] at hF
    refine zx_aload_n rfl rfl rfl ?_
    replace hF := zbnd hF
    obtain ⟨x9, e10, hF⟩ := hF
    refine zy_getR rfl rfl e10 ?_
    refine zx_iload_n rfl rfl rfl ?_
    replace hF := zbnd hF
    obtain ⟨a11, rfl, hF⟩ := hF
    replace hF := zbnd hF
    obtain ⟨x12, e13, hF⟩ := hF
    refine zy_aB rfl rfl e13 ?_
    refine zx_if_eq rfl rfl (fun c14 => ?_) (fun c14 => ?_)
    · rw [if_pos c14] at hF
      refine zx_iconst (v := 0) rfl rfl rfl ?_
      replace hF := Option.some.inj hF
      subst hF
      exact zx_bret rfl rfl rfl rfl q
    · rw [if_neg c14] at hF
      refine zx_iconst (v := 1) rfl rfl rfl ?_
      refine zx_goto rfl rfl ?_
      replace hF := Option.some.inj hF
      subst hF
      exact zx_bret rfl rfl rfl rfl q
def f153 (n : Nat)  (y0 : Nat) (y1 : Option Nat) (h : zH) : Option (Option Nat × zH) :=
  zgd (isO h y0 1) <|
  (f134 n y0 y1 h).bind fun p3 =>
  (gR p3.2 y0 1 1).bind fun x4 =>
  x4.bind fun a6 =>
  (aN p3.2 a6).bind fun x7 =>
  (f13 n p3.1 x7 p3.2).bind fun p10 =>
  if p10.1 = 0 then
    some (none, p10.2)
  else
    (gR p10.2 y0 1 1).bind fun x12 =>
    x12.bind fun a14 =>
    (aR p10.2 a14 p3.1).bind fun x15 =>
    some (x15, p10.2)
set_option maxRecDepth 20000 in
theorem t153 {d n : Nat} {Q : zRs → zH → Prop}  {y0 : Nat} {y1 : Option Nat} (hd : 3 ≤ d)  {h : zH} {p : (Option Nat × zH)} (hF : f153 n  y0 y1 h = some p) (q : Q (eA p.1) p.2) : zC d 153 [.ref y0, va_rf y1] h Q := by
  refine zC_of (L := [some (.ref y0), some (va_rf y1), none]) (congrArg (List.cons _) ((zsl_rf _ _).trans (congrArg (List.cons _) rfl))) rfl ?_
  unfold f153 at hF
  obtain ⟨d, rfl⟩ : ∃ e, d = e + 1 := ⟨d - 1, by omega⟩
  refine zx_aload_n rfl rfl rfl ?_
  refine zy_rload_n rfl rfl rfl ?_
  replace hF := zgd_some hF
  obtain ⟨g1, hF⟩ := hF
  replace hF := zbnd hF
  obtain ⟨p3, e2, hF⟩ := hF
  refine zx_callE rfl rfl rfl rfl (zrcv_isO g1) (congrArg (List.cons _) ((zsl_rf _ _).trans (congrArg (List.cons _) rfl))) rfl (zc4 (Nat.le_of_ble_eq_true rfl)) (t134 (by omega) e2 (zaI ?_))
  refine zx_istore_n rfl rfl (zput_ok (L' := [some (.ref y0), some (va_rf y1), some (.int p3.1)]) rfl (zcl_X (j := 1) rfl (zn2_rf _)) rfl) ?_
  refine zx_iload_n rfl rfl rfl ?_
  refine zx_aload_n rfl rfl rfl ?_
  replace hF := zbnd hF
  obtain ⟨x4, e5, hF⟩ := hF
  refine zy_getR rfl rfl e5 ?_
  replace hF := zbnd hF
  obtain ⟨a6, rfl, hF⟩ := hF
  replace hF := zbnd hF
  obtain ⟨x7, e8, hF⟩ := hF
  refine zy_alen rfl rfl e8 ?_
  replace hF := zbnd hF
  obtain ⟨p10, e9, hF⟩ := hF
  refine zx_callF rfl rfl rfl rfl rfl rfl rfl (zc4 (Nat.le_of_ble_eq_true rfl)) (t13 (by omega) e9 (zaI ?_))
  refine zx_if_eq rfl rfl (fun c11 => ?_) (fun c11 => ?_)
  · rw [if_pos c11] at hF
    refine zx_null rfl rfl ?_
    replace hF := Option.some.inj hF
    subst hF
    exact zy_areturn (r := none) rfl rfl rfl rfl q
  · rw [if_neg c11] at hF
    refine zx_aload_n rfl rfl rfl ?_
    replace hF := zbnd hF
    obtain ⟨x12, e13, hF⟩ := hF
    refine zy_getR rfl rfl e13 ?_
    refine zx_iload_n rfl rfl rfl ?_
    replace hF := zbnd hF
    obtain ⟨a14, rfl, hF⟩ := hF
    replace hF := zbnd hF
    obtain ⟨x15, e16, hF⟩ := hF
    refine zy_aR rfl rfl e16 ?_
    refine zx_goto rfl rfl ?_
    replace hF := Option.some.inj hF
    subst hF
    exact zy_areturn (r := x15) rfl rfl rfl rfl q
def f154 (n : Nat)  (y0 : Nat) (y1 : Option Nat) (h : zH) : Option (Int32 × zH) :=
  (gR h y0 9 0).bind fun x1 =>
  y1.bind fun a3 =>
  (gR h a3 9 0).bind fun x4 =>
  (rEq x1 x4).bind fun b6 =>
  if b6 = true then
    (gR h y0 9 3).bind fun x9 =>
    (gR h a3 9 3).bind fun x11 =>
    x9.bind fun a13 =>
    zgd (isO h a13 12) <|
    (f29 n a13 x11 h).bind fun p16 =>
    if p16.1 = 0 then
      some (0, p16.2)
    else
      some (1, p16.2)
  else
    some (0, h)
set_option maxRecDepth 20000 in
theorem t154 {d n : Nat} {Q : zRs → zH → Prop}  {y0 : Nat} {y1 : Option Nat} (hd : 2 ≤ d)  {h : zH} {p : (Int32 × zH)} (hF : f154 n  y0 y1 h = some p) (q : Q (eI p.1) p.2) : zC d 154 [.ref y0, va_rf y1] h Q := by
  refine zC_of (L := [some (.ref y0), some (va_rf y1)]) (congrArg (List.cons _) ((zsl_rf _ _).trans (congrArg (List.cons _) rfl))) rfl ?_
  unfold f154 at hF
  obtain ⟨d, rfl⟩ : ∃ e, d = e + 1 := ⟨d - 1, by omega⟩
  refine zx_aload_n rfl rfl rfl ?_
  replace hF := zbnd hF
  obtain ⟨x1, e2, hF⟩ := hF
  refine zy_getR rfl rfl e2 ?_
  refine zy_rload_n rfl rfl rfl ?_
  replace hF := zbnd hF
  obtain ⟨a3, rfl, hF⟩ := hF
  replace hF := zbnd hF
  obtain ⟨x4, e5, hF⟩ := hF
  refine zy_getR rfl rfl e5 ?_
  replace hF := zbnd hF
  obtain ⟨b6, e7, hF⟩ := hF
  refine zy_ane rfl rfl e7 (fun c8 => ?_) (fun c8 => ?_)
  · rw [if_neg (by rw [c8]; exact Bool.false_ne_true)] at hF
    refine zx_iconst (v := 0) rfl rfl rfl ?_
    replace hF := Option.some.inj hF
    subst hF
    exact zx_bret rfl rfl rfl rfl q
  · rw [if_pos c8] at hF
    refine zx_aload_n rfl rfl rfl ?_
    replace hF := zbnd hF
    obtain ⟨x9, e10, hF⟩ := hF
    refine zy_getR rfl rfl e10 ?_
    refine zx_aload_n rfl rfl rfl ?_
    replace hF := zbnd hF
    obtain ⟨x11, e12, hF⟩ := hF
    refine zy_getR rfl rfl e12 ?_
    replace hF := zbnd hF
    obtain ⟨a13, rfl, hF⟩ := hF
    replace hF := zgd_some hF
    obtain ⟨g14, hF⟩ := hF
    replace hF := zbnd hF
    obtain ⟨p16, e15, hF⟩ := hF
    refine zx_callE rfl rfl rfl rfl (zrcv_isO g14) (congrArg (List.cons _) ((zsl_rf _ _).trans (congrArg (List.cons _) rfl))) rfl (zc4 (Nat.le_of_ble_eq_true rfl)) (t29 (by omega) e15 (zaI ?_))
    refine zx_if_eq rfl rfl (fun c17 => ?_) (fun c17 => ?_)
    · rw [if_pos c17] at hF
      refine zx_iconst (v := 0) rfl rfl rfl ?_
      replace hF := Option.some.inj hF
      subst hF
      exact zx_bret rfl rfl rfl rfl q
    · rw [if_neg c17] at hF
      refine zx_iconst (v := 1) rfl rfl rfl ?_
      refine zx_goto rfl rfl ?_
      replace hF := Option.some.inj hF
      subst hF
      exact zx_bret rfl rfl rfl rfl q
def b155_49 (n : Nat)  (r25 : Option Nat → Option Nat → Option Nat → zH → Option (Int32 × zH)) (l0 : Option Nat) (l1 : Option Nat) (l2 : Option Nat) (h : zH) : Option (Int32 × zH) :=
  l2.bind fun a1 =>
  (gR h a1 3 5).bind fun x2 =>
  r25 l0 l1 x2 h
set_option maxRecDepth 20000 in
theorem tb155_49 {d n : Nat} {Q : zRs → zH → Prop}  {r25 : Option Nat → Option Nat → Option Nat → zH → Option (Int32 × zH)} {l0 : Option Nat} {l1 : Option Nat} {l2 : Option Nat}   (hd : 3 ≤ d)  (hr25 : ∀ {l0 : Option Nat} {l1 : Option Nat} {l2 : Option Nat}   {h : zH} {p : (Int32 × zH)}, r25 l0 l1 l2 h = some p → Q (eI p.1) p.2 → zW d 155 25 [some (va_rf l0), some (va_rf l1), some (va_rf l2)] [] h Q) {h : zH} {p : (Int32 × zH)}  (hF : b155_49 n  r25 l0 l1 l2 h = some p) (q : Q (eI p.1) p.2) : zW d 155 49 [some (va_rf l0), some (va_rf l1), some (va_rf l2)] [] h Q := by
  unfold b155_49 at hF
  obtain ⟨d, rfl⟩ : ∃ e, d = e + 1 := ⟨d - 1, by omega⟩
  refine zy_rload_n rfl rfl rfl ?_
  replace hF := zbnd hF
  obtain ⟨a1, rfl, hF⟩ := hF
  replace hF := zbnd hF
  obtain ⟨x2, e3, hF⟩ := hF
  refine zy_getR rfl rfl e3 ?_
  refine zy_rstore_n rfl rfl (zput_ok (L' := [some (va_rf l0), some (va_rf l1), some (va_rf x2)]) rfl (zcl_X (j := 1) rfl (zn2_rf _)) rfl) ?_
  refine zx_goto rfl rfl ?_
  exact hr25  hF q
def b155_25 (n : Nat)  (r25 : Option Nat → Option Nat → Option Nat → zH → Option (Int32 × zH)) (l0 : Option Nat) (l1 : Option Nat) (l2 : Option Nat) (h : zH) : Option (Int32 × zH) :=
  match l2 with
  | none =>
    some (0, h)
  | some a1 =>
    (gR h a1 3 2).bind fun x2 =>
    match x2 with
    | none =>
      b155_49 n r25 l0 l1 (some a1) h
    | some a4 =>
      (gR h a1 3 2).bind fun x5 =>
      l0.bind fun a7 =>
      zgd (isO h a7 9) <|
      (f154 n a7 x5 h).bind fun p10 =>
      if p10.1 = 0 then
        b155_49 n r25 (some a7) l1 (some a1) p10.2
      else
        some (1, p10.2)
set_option maxRecDepth 20000 in
theorem tb155_25 {d n : Nat} {Q : zRs → zH → Prop}  {r25 : Option Nat → Option Nat → Option Nat → zH → Option (Int32 × zH)} {l0 : Option Nat} {l1 : Option Nat} {l2 : Option Nat}   (hd : 3 ≤ d)  (hr25 : ∀ {l0 : Option Nat} {l1 : Option Nat} {l2 : Option Nat}   {h : zH} {p : (Int32 × zH)}, r25 l0 l1 l2 h = some p → Q (eI p.1) p.2 → zW d 155 25 [some (va_rf l0), some (va_rf l1), some (va_rf l2)] [] h Q) {h : zH} {p : (Int32 × zH)}  (hF : b155_25 n  r25 l0 l1 l2 h = some p) (q : Q (eI p.1) p.2) : zW d 155 25 [some (va_rf l0), some (va_rf l1), some (va_rf l2)] [] h Q := by
  unfold b155_25 at hF
  obtain ⟨d, rfl⟩ : ∃ e, d = e + 1 := ⟨d - 1, by omega⟩
  refine zy_rload_n rfl rfl rfl ?_
  cases l2 with
  | none =>
    dsimp only at hF
    refine zx_ifnullN rfl rfl ?_
    refine zx_iconst (v := 0) rfl rfl rfl ?_
    replace hF := Option.some.inj hF
    subst hF
    exact zx_bret rfl rfl rfl rfl q
  | some a1 =>
    dsimp only at hF
    refine zx_ifnull rfl rfl ?_
    refine zx_aload_n rfl rfl rfl ?_
    replace hF := zbnd hF
    obtain ⟨x2, e3, hF⟩ := hF
    refine zy_getR rfl rfl e3 ?_
    cases x2 with
    | none =>
      dsimp only at hF
      refine zx_ifnullN rfl rfl ?_
      exact tb155_49 (l0 := l0) (l1 := l1) (l2 := (some a1)) hd hr25  hF q
    | some a4 =>
      dsimp only at hF
      refine zx_ifnull rfl rfl ?_
      refine zy_rload_n rfl rfl rfl ?_
      refine zx_aload_n rfl rfl rfl ?_
      replace hF := zbnd hF
      obtain ⟨x5, e6, hF⟩ := hF
      refine zy_getR rfl rfl e6 ?_
      replace hF := zbnd hF
      obtain ⟨a7, rfl, hF⟩ := hF
      replace hF := zgd_some hF
      obtain ⟨g8, hF⟩ := hF
      replace hF := zbnd hF
      obtain ⟨p10, e9, hF⟩ := hF
      refine zx_callE rfl rfl rfl rfl (zrcv_isO g8) (congrArg (List.cons _) ((zsl_rf _ _).trans (congrArg (List.cons _) rfl))) rfl (zc4 (Nat.le_of_ble_eq_true rfl)) (t154 (by omega) e9 (zaI ?_))
      refine zx_if_eq rfl rfl (fun c11 => ?_) (fun c11 => ?_)
      · rw [if_pos c11] at hF
        exact tb155_49 (l0 := (some a7)) (l1 := l1) (l2 := (some a1)) hd hr25  hF q
      · rw [if_neg c11] at hF
        refine zx_iconst (v := 1) rfl rfl rfl ?_
        replace hF := Option.some.inj hF
        subst hF
        exact zx_bret rfl rfl rfl rfl q
def f155_25 (n : Nat)   (k : Nat) : Option Nat → Option Nat → Option Nat → zH → Option (Int32 × zH) := Nat.rec (fun _ _ _ _ => none) (fun _ ih => b155_25 n  ih) k
theorem tf155_25 {d n : Nat} {Q : zRs → zH → Prop}   (hd : 3 ≤ d)   (k : Nat) : ∀ {l0 : Option Nat} {l1 : Option Nat} {l2 : Option Nat}   {h : zH} {p : (Int32 × zH)}, f155_25 n   k l0 l1 l2 h = some p → Q (eI p.1) p.2 → zW d 155 25 [some (va_rf l0), some (va_rf l1), some (va_rf l2)] [] h Q := by
  induction k with
  | zero => intros; rename_i hF _; cases hF
  | succ k ih => intros; rename_i  hF q; exact tb155_25 (n := n) hd  ih  hF q
def b155_20 (n : Nat)   (l0 : Option Nat) (l1 : Option Nat) (h : zH) : Option (Int32 × zH) :=
  l1.bind fun a1 =>
  (gR h a1 3 4).bind fun x2 =>
  f155_25 n  n l0 (some a1) x2 h
set_option maxRecDepth 20000 in
theorem tb155_20 {d n : Nat} {Q : zRs → zH → Prop}   {l0 : Option Nat} {l1 : Option Nat}  {x2 : Option Value} (hd : 3 ≤ d)   {h : zH} {p : (Int32 × zH)} (hx2 : zn2 x2 = true) (hF : b155_20 n   l0 l1 h = some p) (q : Q (eI p.1) p.2) : zW d 155 20 [some (va_rf l0), some (va_rf l1), x2] [] h Q := by
  unfold b155_20 at hF
  obtain ⟨d, rfl⟩ : ∃ e, d = e + 1 := ⟨d - 1, by omega⟩
  refine zy_rload_n rfl rfl rfl ?_
  replace hF := zbnd hF
  obtain ⟨a1, rfl, hF⟩ := hF
  replace hF := zbnd hF
  obtain ⟨x2, e3, hF⟩ := hF
  refine zy_getR rfl rfl e3 ?_
  refine zy_rstore_n rfl rfl rfl ?_
  exact tf155_25 hd  n (l0 := l0) (l1 := (some a1)) (l2 := x2)  hF q
def f155 (n : Nat)  (y0 : Option Nat) (y1 : Option Nat) (h : zH) : Option (Int32 × zH) :=
  y1.bind fun a1 =>
  (gR h a1 3 2).bind fun x2 =>
  match x2 with
  | none =>
    b155_20 n  y0 (some a1) h
  | some a4 =>
    (gR h a1 3 2).bind fun x5 =>
    y0.bind fun a7 =>
    zgd (isO h a7 9) <|
    (f154 n a7 x5 h).bind fun p10 =>
    if p10.1 = 0 then
      b155_20 n  (some a7) (some a1) p10.2
    else
      some (1, p10.2)
set_option maxRecDepth 20000 in
theorem t155 {d n : Nat} {Q : zRs → zH → Prop}  {y0 : Option Nat} {y1 : Option Nat} (hd : 3 ≤ d)  {h : zH} {p : (Int32 × zH)} (hF : f155 n  y0 y1 h = some p) (q : Q (eI p.1) p.2) : zC d 155 [va_rf y0, va_rf y1] h Q := by
  refine zC_of (L := [some (va_rf y0), some (va_rf y1), none]) ((zsl_rf _ _).trans (congrArg (List.cons _) ((zsl_rf _ _).trans (congrArg (List.cons _) rfl)))) rfl ?_
  unfold f155 at hF
  obtain ⟨d, rfl⟩ : ∃ e, d = e + 1 := ⟨d - 1, by omega⟩
  refine zy_rload_n rfl rfl rfl ?_
  replace hF := zbnd hF
  obtain ⟨a1, rfl, hF⟩ := hF
  replace hF := zbnd hF
  obtain ⟨x2, e3, hF⟩ := hF
  refine zy_getR rfl rfl e3 ?_
  cases x2 with
  | none =>
    dsimp only at hF
    refine zx_ifnullN rfl rfl ?_
    exact tb155_20 (l0 := y0) (l1 := (some a1)) hd  rfl hF q
  | some a4 =>
    dsimp only at hF
    refine zx_ifnull rfl rfl ?_
    refine zy_rload_n rfl rfl rfl ?_
    refine zx_aload_n rfl rfl rfl ?_
    replace hF := zbnd hF
    obtain ⟨x5, e6, hF⟩ := hF
    refine zy_getR rfl rfl e6 ?_
    replace hF := zbnd hF
    obtain ⟨a7, rfl, hF⟩ := hF
    replace hF := zgd_some hF
    obtain ⟨g8, hF⟩ := hF
    replace hF := zbnd hF
    obtain ⟨p10, e9, hF⟩ := hF
    refine zx_callE rfl rfl rfl rfl (zrcv_isO g8) (congrArg (List.cons _) ((zsl_rf _ _).trans (congrArg (List.cons _) rfl))) rfl (zc4 (Nat.le_of_ble_eq_true rfl)) (t154 (by omega) e9 (zaI ?_))
    refine zx_if_eq rfl rfl (fun c11 => ?_) (fun c11 => ?_)
    · rw [if_pos c11] at hF
      exact tb155_20 (l0 := (some a7)) (l1 := (some a1)) hd  rfl hF q
    · rw [if_neg c11] at hF
      refine zx_iconst (v := 1) rfl rfl rfl ?_
      replace hF := Option.some.inj hF
      subst hF
      exact zx_bret rfl rfl rfl rfl q
def b156_21 (n : Nat)  (r21 : Option Nat → Option Nat → Int32 → Int32 → zH → Option (Int32 × zH)) (l0 : Option Nat) (l1 : Option Nat) (l2 : Int32) (l3 : Int32) (h : zH) : Option (Int32 × zH) :=
  l1.bind fun a1 =>
  zgd (isO h a1 12) <|
  (f55 n a1 h).bind fun p4 =>
  if p4.1 ≤ l3 then
    some (1, p4.2)
  else
    l0.bind fun a6 =>
    zgd (isO p4.2 a6 12) <|
    (f59 n a6 (l2 + l3) p4.2).bind fun p9 =>
    zgd (isO p9.2 a1 12) <|
    (f59 n a1 l3 p9.2).bind fun p12 =>
    if p9.1 = p12.1 then
      r21 (some a6) (some a1) l2 (l3 + 1) p12.2
    else
      some (0, p12.2)
set_option maxRecDepth 20000 in
theorem tb156_21 {d n : Nat} {Q : zRs → zH → Prop}  {r21 : Option Nat → Option Nat → Int32 → Int32 → zH → Option (Int32 × zH)} {l0 : Option Nat} {l1 : Option Nat} {l2 : Int32} {l3 : Int32}   (hd : 4 ≤ d)  (hr21 : ∀ {l0 : Option Nat} {l1 : Option Nat} {l2 : Int32} {l3 : Int32}   {h : zH} {p : (Int32 × zH)}, r21 l0 l1 l2 l3 h = some p → Q (eI p.1) p.2 → zW d 156 21 [some (va_rf l0), some (va_rf l1), some (.int l2), some (.int l3)] [] h Q) {h : zH} {p : (Int32 × zH)}  (hF : b156_21 n  r21 l0 l1 l2 l3 h = some p) (q : Q (eI p.1) p.2) : zW d 156 21 [some (va_rf l0), some (va_rf l1), some (.int l2), some (.int l3)] [] h Q := by
  unfold b156_21 at hF
  obtain ⟨d, rfl⟩ : ∃ e, d = e + 1 := ⟨d - 1, by omega⟩
  refine zx_iload_n rfl rfl rfl ?_
  refine zy_rload_n rfl rfl rfl ?_
  replace hF := zbnd hF
  obtain ⟨a1, rfl, hF⟩ := hF
  replace hF := zgd_some hF
  obtain ⟨g2, hF⟩ := hF
  replace hF := zbnd hF
  obtain ⟨p4, e3, hF⟩ := hF
  refine zx_callE rfl rfl rfl rfl (zrcv_isO g2) rfl rfl (zc4 (Nat.le_of_ble_eq_true rfl)) (t55 (by omega) e3 (zaI ?_))
  refine zx_ic_ge rfl rfl (fun c5 => ?_) (fun c5 => ?_)
  · rw [if_pos c5] at hF
    refine zx_iconst (v := 1) rfl rfl rfl ?_
    replace hF := Option.some.inj hF
    subst hF
    exact zx_bret rfl rfl rfl rfl q
  · rw [if_neg c5] at hF
    refine zy_rload_n rfl rfl rfl ?_
    refine zx_iload_n rfl rfl rfl ?_
    refine zx_iload_n rfl rfl rfl ?_
    refine zx_iadd rfl rfl ?_
    replace hF := zbnd hF
    obtain ⟨a6, rfl, hF⟩ := hF
    replace hF := zgd_some hF
    obtain ⟨g7, hF⟩ := hF
    replace hF := zbnd hF
    obtain ⟨p9, e8, hF⟩ := hF
    refine zx_callE rfl rfl rfl rfl (zrcv_isO g7) rfl rfl (zc4 (Nat.le_of_ble_eq_true rfl)) (t59 (by omega) e8 (zaI ?_))
    refine zx_aload_n rfl rfl rfl ?_
    refine zx_iload_n rfl rfl rfl ?_
    replace hF := zgd_some hF
    obtain ⟨g10, hF⟩ := hF
    replace hF := zbnd hF
    obtain ⟨p12, e11, hF⟩ := hF
    refine zx_callE rfl rfl rfl rfl (zrcv_isO g10) rfl rfl (zc4 (Nat.le_of_ble_eq_true rfl)) (t59 (by omega) e11 (zaI ?_))
    refine zx_ic_eq rfl rfl (fun c13 => ?_) (fun c13 => ?_)
    · rw [if_pos c13] at hF
      refine zx_iinc (w := 1) rfl rfl rfl rfl rfl ?_
      refine zx_goto rfl rfl ?_
      exact hr21  hF q
    · rw [if_neg c13] at hF
      refine zx_iconst (v := 0) rfl rfl rfl ?_
      replace hF := Option.some.inj hF
      subst hF
      exact zx_bret rfl rfl rfl rfl q
def f156_21 (n : Nat)   (k : Nat) : Option Nat → Option Nat → Int32 → Int32 → zH → Option (Int32 × zH) := Nat.rec (fun _ _ _ _ _ => none) (fun _ ih => b156_21 n  ih) k
theorem tf156_21 {d n : Nat} {Q : zRs → zH → Prop}   (hd : 4 ≤ d)   (k : Nat) : ∀ {l0 : Option Nat} {l1 : Option Nat} {l2 : Int32} {l3 : Int32}   {h : zH} {p : (Int32 × zH)}, f156_21 n   k l0 l1 l2 l3 h = some p → Q (eI p.1) p.2 → zW d 156 21 [some (va_rf l0), some (va_rf l1), some (.int l2), some (.int l3)] [] h Q := by
  induction k with
  | zero => intros; rename_i hF _; cases hF
  | succ k ih => intros; rename_i  hF q; exact tb156_21 (n := n) hd  ih  hF q
def f156 (n : Nat)  (y0 : Option Nat) (y1 : Option Nat) (y2 : Int32) (h : zH) : Option (Int32 × zH) :=
  if y2 < 0 then
    some (0, h)
  else
    y0.bind fun a2 =>
    zgd (isO h a2 12) <|
    (f55 n a2 h).bind fun p5 =>
    y1.bind fun a6 =>
    zgd (isO p5.2 a6 12) <|
    (f55 n a6 p5.2).bind fun p9 =>
    if y2 ≤ (p5.1 - p9.1) then
      f156_21 n  n (some a2) (some a6) y2 0 p9.2
    else
      some (0, p9.2)
set_option maxRecDepth 20000 in
theorem t156 {d n : Nat} {Q : zRs → zH → Prop}  {y0 : Option Nat} {y1 : Option Nat} {y2 : Int32} (hd : 4 ≤ d)  {h : zH} {p : (Int32 × zH)} (hF : f156 n  y0 y1 y2 h = some p) (q : Q (eI p.1) p.2) : zC d 156 [va_rf y0, va_rf y1, .int y2] h Q := by
  refine zC_of (L := [some (va_rf y0), some (va_rf y1), some (.int y2), none]) ((zsl_rf _ _).trans (congrArg (List.cons _) ((zsl_rf _ _).trans (congrArg (List.cons _) rfl)))) rfl ?_
  unfold f156 at hF
  obtain ⟨d, rfl⟩ : ∃ e, d = e + 1 := ⟨d - 1, by omega⟩
  refine zx_iload_n rfl rfl rfl ?_
  refine zx_if_lt rfl rfl (fun c1 => ?_) (fun c1 => ?_)
  · rw [if_pos c1] at hF
    refine zx_iconst (v := 0) rfl rfl rfl ?_
    replace hF := Option.some.inj hF
    subst hF
    exact zx_bret rfl rfl rfl rfl q
  · rw [if_neg c1] at hF
    refine zx_iload_n rfl rfl rfl ?_
    refine zy_rload_n rfl rfl rfl ?_
    replace hF := zbnd hF
    obtain ⟨a2, rfl, hF⟩ := hF
    replace hF := zgd_some hF
    obtain ⟨g3, hF⟩ := hF
    replace hF := zbnd hF
    obtain ⟨p5, e4, hF⟩ := hF
    refine zx_callE rfl rfl rfl rfl (zrcv_isO g3) rfl rfl (zc4 (Nat.le_of_ble_eq_true rfl)) (t55 (by omega) e4 (zaI ?_))
    refine zy_rload_n rfl rfl rfl ?_
    replace hF := zbnd hF
    obtain ⟨a6, rfl, hF⟩ := hF
    replace hF := zgd_some hF
    obtain ⟨g7, hF⟩ := hF
    replace hF := zbnd hF
    obtain ⟨p9, e8, hF⟩ := hF
    refine zx_callE rfl rfl rfl rfl (zrcv_isO g7) rfl rfl (zc4 (Nat.le_of_ble_eq_true rfl)) (t55 (by omega) e8 (zaI ?_))
    refine zx_isub rfl rfl ?_
    refine zx_ic_le rfl rfl (fun c10 => ?_) (fun c10 => ?_)
    · rw [if_pos c10] at hF
      refine zx_iconst (v := 0) rfl rfl rfl ?_
      refine zx_istore_n rfl rfl rfl ?_
      exact tf156_21 hd  n (l0 := (some a2)) (l1 := (some a6)) (l2 := y2) (l3 := 0)  hF q
    · rw [if_neg c10] at hF
      refine zx_iconst (v := 0) rfl rfl rfl ?_
      replace hF := Option.some.inj hF
      subst hF
      exact zx_bret rfl rfl rfl rfl q
def b157_2 (n : Nat)  (r2 : Option Nat → Option Nat → Int32 → zH → Option (Int32 × zH)) (l0 : Option Nat) (l1 : Option Nat) (l2 : Int32) (h : zH) : Option (Int32 × zH) :=
  l0.bind fun a1 =>
  zgd (isO h a1 12) <|
  (f55 n a1 h).bind fun p4 =>
  l1.bind fun a5 =>
  zgd (isO p4.2 a5 12) <|
  (f55 n a5 p4.2).bind fun p8 =>
  if (p4.1 - p8.1) < l2 then
    some (0, p8.2)
  else
    (f156 n (some a1) (some a5) l2 p8.2).bind fun p11 =>
    if p11.1 = 0 then
      r2 (some a1) (some a5) (l2 + 1) p11.2
    else
      some (1, p11.2)
set_option maxRecDepth 20000 in
theorem tb157_2 {d n : Nat} {Q : zRs → zH → Prop}  {r2 : Option Nat → Option Nat → Int32 → zH → Option (Int32 × zH)} {l0 : Option Nat} {l1 : Option Nat} {l2 : Int32}   (hd : 5 ≤ d)  (hr2 : ∀ {l0 : Option Nat} {l1 : Option Nat} {l2 : Int32}   {h : zH} {p : (Int32 × zH)}, r2 l0 l1 l2 h = some p → Q (eI p.1) p.2 → zW d 157 2 [some (va_rf l0), some (va_rf l1), some (.int l2)] [] h Q) {h : zH} {p : (Int32 × zH)}  (hF : b157_2 n  r2 l0 l1 l2 h = some p) (q : Q (eI p.1) p.2) : zW d 157 2 [some (va_rf l0), some (va_rf l1), some (.int l2)] [] h Q := by
  unfold b157_2 at hF
  obtain ⟨d, rfl⟩ : ∃ e, d = e + 1 := ⟨d - 1, by omega⟩
  refine zx_iload_n rfl rfl rfl ?_
  refine zy_rload_n rfl rfl rfl ?_
  replace hF := zbnd hF
  obtain ⟨a1, rfl, hF⟩ := hF
  replace hF := zgd_some hF
  obtain ⟨g2, hF⟩ := hF
  replace hF := zbnd hF
  obtain ⟨p4, e3, hF⟩ := hF
  refine zx_callE rfl rfl rfl rfl (zrcv_isO g2) rfl rfl (zc4 (Nat.le_of_ble_eq_true rfl)) (t55 (by omega) e3 (zaI ?_))
  refine zy_rload_n rfl rfl rfl ?_
  replace hF := zbnd hF
  obtain ⟨a5, rfl, hF⟩ := hF
  replace hF := zgd_some hF
  obtain ⟨g6, hF⟩ := hF
  replace hF := zbnd hF
  obtain ⟨p8, e7, hF⟩ := hF
  refine zx_callE rfl rfl rfl rfl (zrcv_isO g6) rfl rfl (zc4 (Nat.le_of_ble_eq_true rfl)) (t55 (by omega) e7 (zaI ?_))
  refine zx_isub rfl rfl ?_
  refine zx_ic_gt rfl rfl (fun c9 => ?_) (fun c9 => ?_)
  · rw [if_pos c9] at hF
    refine zx_iconst (v := 0) rfl rfl rfl ?_
    replace hF := Option.some.inj hF
    subst hF
    exact zx_bret rfl rfl rfl rfl q
  · rw [if_neg c9] at hF
    refine zx_aload_n rfl rfl rfl ?_
    refine zx_aload_n rfl rfl rfl ?_
    refine zx_iload_n rfl rfl rfl ?_
    replace hF := zbnd hF
    obtain ⟨p11, e10, hF⟩ := hF
    refine zx_callE rfl rfl rfl rfl rfl rfl rfl (zc4 (Nat.le_of_ble_eq_true rfl)) (t156 (by omega) e10 (zaI ?_))
    refine zx_if_eq rfl rfl (fun c12 => ?_) (fun c12 => ?_)
    · rw [if_pos c12] at hF
      refine zx_iinc (w := 1) rfl rfl rfl rfl rfl ?_
      refine zx_goto rfl rfl ?_
      exact hr2  hF q
    · rw [if_neg c12] at hF
      refine zx_iconst (v := 1) rfl rfl rfl ?_
      replace hF := Option.some.inj hF
      subst hF
      exact zx_bret rfl rfl rfl rfl q
def f157_2 (n : Nat)   (k : Nat) : Option Nat → Option Nat → Int32 → zH → Option (Int32 × zH) := Nat.rec (fun _ _ _ _ => none) (fun _ ih => b157_2 n  ih) k
theorem tf157_2 {d n : Nat} {Q : zRs → zH → Prop}   (hd : 5 ≤ d)   (k : Nat) : ∀ {l0 : Option Nat} {l1 : Option Nat} {l2 : Int32}   {h : zH} {p : (Int32 × zH)}, f157_2 n   k l0 l1 l2 h = some p → Q (eI p.1) p.2 → zW d 157 2 [some (va_rf l0), some (va_rf l1), some (.int l2)] [] h Q := by
  induction k with
  | zero => intros; rename_i hF _; cases hF
  | succ k ih => intros; rename_i  hF q; exact tb157_2 (n := n) hd  ih  hF q
def f157 (n : Nat)  (y0 : Option Nat) (y1 : Option Nat) (h : zH) : Option (Int32 × zH) :=
  f157_2 n  n y0 y1 0 h
set_option maxRecDepth 20000 in
theorem t157 {d n : Nat} {Q : zRs → zH → Prop}  {y0 : Option Nat} {y1 : Option Nat} (hd : 5 ≤ d)  {h : zH} {p : (Int32 × zH)} (hF : f157 n  y0 y1 h = some p) (q : Q (eI p.1) p.2) : zC d 157 [va_rf y0, va_rf y1] h Q := by
  refine zC_of (L := [some (va_rf y0), some (va_rf y1), none]) ((zsl_rf _ _).trans (congrArg (List.cons _) ((zsl_rf _ _).trans (congrArg (List.cons _) rfl)))) rfl ?_
  unfold f157 at hF
  obtain ⟨d, rfl⟩ : ∃ e, d = e + 1 := ⟨d - 1, by omega⟩
  refine zx_iconst (v := 0) rfl rfl rfl ?_
  refine zx_istore_n rfl rfl (zput_ok (L' := [some (va_rf y0), some (va_rf y1), some (.int 0)]) rfl (zcl_X (j := 1) rfl (zn2_rf _)) rfl) ?_
  exact tf157_2 hd  n (l0 := y0) (l1 := y1) (l2 := 0)  hF q
end ZDEC

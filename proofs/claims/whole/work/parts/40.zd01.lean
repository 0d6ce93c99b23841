/-! THE PROGRAM AS FUNCTIONS, 1 (written by a program of the verifier's) -/
section ZDEC
def f46 (n : Nat)  (y0 : Nat) (h : zH) : Option (Option Nat × zH) :=
  (f47 n h.1.length (some y0) (nO h 12 4)).bind fun p2 =>
  some ((some h.1.length), p2.2)
set_option maxRecDepth 20000 in
theorem t46 {d n : Nat} {Q : zRs → zH → Prop}  {y0 : Nat} (hd : 5 ≤ d)  {h : zH} {p : (Option Nat × zH)} (hF : f46 n  y0 h = some p) (q : Q (eA p.1) p.2) : zC d 46 [.ref y0] h Q := by
  refine zC_of (L := [some (.ref y0)]) rfl rfl ?_
  unfold f46 at hF
  obtain ⟨d, rfl⟩ : ∃ e, d = e + 1 := ⟨d - 1, by omega⟩
  refine zy_new rfl rfl ?_
  refine zx_dup rfl rfl rfl ?_
  refine zx_aload_n rfl rfl rfl ?_
  replace hF := zbnd hF
  obtain ⟨p2, e1, hF⟩ := hF
  refine zx_callF rfl rfl rfl rfl rfl rfl rfl (zc4 (Nat.le_of_ble_eq_true rfl)) (t47 (by omega) e1 (zaV ?_))
  replace hF := Option.some.inj hF
  subst hF
  exact zy_areturn (r := (some h.1.length)) rfl rfl rfl rfl q
def b33_105 (n : Nat)   (l0 : Nat) (l1 : Int32) (l2 : Int32) (l3 : Int32) (l4 : Int32) (l5 : Int32) (h : zH) : Option (Option Nat × zH) :=
  zgd (isO h l0 8) <|
  (f20 n l0 l1 h).bind fun p3 =>
  some (p3.1, p3.2)
set_option maxRecDepth 20000 in
theorem tb33_105 {d n : Nat} {Q : zRs → zH → Prop}   {l0 : Nat} {l1 : Int32} {l2 : Int32} {l3 : Int32} {l4 : Int32} {l5 : Int32}  {x6 : Option Value} {x7 : Option Value} (hd : 6 ≤ d)   {h : zH} {p : (Option Nat × zH)} (hx6 : zn2 x6 = true) (hx7 : zn2 x7 = true) (hF : b33_105 n   l0 l1 l2 l3 l4 l5 h = some p) (q : Q (eA p.1) p.2) : zW d 33 105 [some (.ref l0), some (.int l1), some (.int l2), some (.int l3), some (.int l4), some (.int l5), x6, x7] [] h Q := by
  unfold b33_105 at hF
  obtain ⟨d, rfl⟩ : ∃ e, d = e + 1 := ⟨d - 1, by omega⟩
  refine zx_aload_n rfl rfl rfl ?_
  refine zx_iload_n rfl rfl rfl ?_
  replace hF := zgd_some hF
  obtain ⟨g1, hF⟩ := hF
  replace hF := zbnd hF
  obtain ⟨p3, e2, hF⟩ := hF
  refine zx_callE rfl rfl rfl rfl (zrcv_isO g1) rfl rfl (zc4 (Nat.le_of_ble_eq_true rfl)) (t20 (by omega) e2 (zaA ?_))
  replace hF := Option.some.inj hF
  subst hF
  exact zy_areturn (r := p3.1) rfl rfl rfl rfl q
def b33_123 (n : Nat)   (l0 : Nat) (l1 : Int32) (l2 : Int32) (l3 : Int32) (l4 : Int32) (l5 : Int32) (s0 : Int32) (h : zH) : Option (Option Nat × zH) :=
  (f34 n h.1.length (nO h 13 4)).bind fun p2 =>
  zgd (isO p2.2 h.1.length 13) <|
  (f36 n h.1.length s0 p2.2).bind fun p5 =>
  p5.1.bind fun a6 =>
  zgd (isO p5.2 a6 13) <|
  (f46 n a6 p5.2).bind fun p10 =>
  (f15 n p10.2.1.length (some 4) l1 l4 p10.1 s0 (nO p10.2 9 6)).bind fun p12 =>
  some ((some p10.2.1.length), p12.2)
set_option maxRecDepth 20000 in
theorem tb33_123 {d n : Nat} {Q : zRs → zH → Prop}   {l0 : Nat} {l1 : Int32} {l2 : Int32} {l3 : Int32} {l4 : Int32} {l5 : Int32} {s0 : Int32} {x6 : Option Value} {x7 : Option Value} (hd : 6 ≤ d)   {h : zH} {p : (Option Nat × zH)} (hx6 : zn2 x6 = true) (hx7 : zn2 x7 = true) (hF : b33_123 n   l0 l1 l2 l3 l4 l5 s0 h = some p) (q : Q (eA p.1) p.2) : zW d 33 123 [some (.ref l0), some (.int l1), some (.int l2), some (.int l3), some (.int l4), some (.int l5), x6, x7] [.int s0] h Q := by
  unfold b33_123 at hF
  obtain ⟨d, rfl⟩ : ∃ e, d = e + 1 := ⟨d - 1, by omega⟩
  refine zx_istore rfl rfl rfl ?_
  refine zy_new rfl rfl ?_
  refine zx_dup rfl rfl rfl ?_
  replace hF := zbnd hF
  obtain ⟨p2, e1, hF⟩ := hF
  refine zx_callF rfl rfl rfl rfl rfl rfl rfl (zc4 (Nat.le_of_ble_eq_true rfl)) (t34 (by omega) e1 (zaV ?_))
  refine zx_iload rfl rfl rfl ?_
  replace hF := zgd_some hF
  obtain ⟨g3, hF⟩ := hF
  replace hF := zbnd hF
  obtain ⟨p5, e4, hF⟩ := hF
  refine zx_callE rfl rfl rfl rfl (zrcv_isO g3) rfl rfl (zc4 (Nat.le_of_ble_eq_true rfl)) (t36 (by omega) e4 (zaA ?_))
  replace hF := zbnd hF
  obtain ⟨a6, e7, hF⟩ := hF
  rw [e7]
  replace hF := zgd_some hF
  obtain ⟨g8, hF⟩ := hF
  replace hF := zbnd hF
  obtain ⟨p10, e9, hF⟩ := hF
  refine zx_callE rfl rfl rfl rfl (zrcv_isO g8) rfl rfl (zc4 (Nat.le_of_ble_eq_true rfl)) (t46 (by omega) e9 (zaA ?_))
  refine zy_rstore rfl rfl rfl ?_
  refine zy_new rfl rfl ?_
  refine zx_dup rfl rfl rfl ?_
  refine zx_gets rfl rfl rfl ?_
  refine zx_iload_n rfl rfl rfl ?_
  refine zx_iload rfl rfl rfl ?_
  refine zy_rload rfl rfl rfl ?_
  refine zx_iload rfl rfl rfl ?_
  replace hF := zbnd hF
  obtain ⟨p12, e11, hF⟩ := hF
  refine zx_callF rfl rfl rfl rfl rfl (congrArg (List.cons _) (congrArg (List.cons _) (congrArg (List.cons _) (congrArg (List.cons _) ((zsl_rf _ _).trans (congrArg (List.cons _) rfl)))))) rfl (zc4 (Nat.le_of_ble_eq_true rfl)) (t15 (by omega) e11 (zaV ?_))
  replace hF := Option.some.inj hF
  subst hF
  exact zy_areturn (r := (some p10.2.1.length)) rfl rfl rfl rfl q
def b33_87 (n : Nat)   (l0 : Nat) (l1 : Int32) (l2 : Int32) (l3 : Int32) (l4 : Int32) (l5 : Int32) (h : zH) : Option (Option Nat × zH) :=
  if l4 = l3 then
    b33_105 n  l0 l1 l2 l3 l4 l5 h
  else
    zgd (isO h l0 8) <|
    (f12 n l0 l4 h).bind fun p4 =>
    (f18 n p4.1 p4.2).bind fun p6 =>
    if p6.1 = 0 then
      if l2 = 0 then
        b33_123 n  l0 l1 l2 l3 l4 l5 l5 p6.2
      else
        b33_123 n  l0 l1 l2 l3 l4 l5 (-l5) p6.2
    else
      b33_105 n  l0 l1 l2 l3 l4 l5 p6.2
set_option maxRecDepth 20000 in
theorem tb33_87 {d n : Nat} {Q : zRs → zH → Prop}   {l0 : Nat} {l1 : Int32} {l2 : Int32} {l3 : Int32} {l4 : Int32} {l5 : Int32}  {x6 : Option Value} {x7 : Option Value} (hd : 6 ≤ d)   {h : zH} {p : (Option Nat × zH)} (hx6 : zn2 x6 = true) (hx7 : zn2 x7 = true) (hF : b33_87 n   l0 l1 l2 l3 l4 l5 h = some p) (q : Q (eA p.1) p.2) : zW d 33 87 [some (.ref l0), some (.int l1), some (.int l2), some (.int l3), some (.int l4), some (.int l5), x6, x7] [] h Q := by
  unfold b33_87 at hF
  obtain ⟨d, rfl⟩ : ∃ e, d = e + 1 := ⟨d - 1, by omega⟩
  refine zx_iload rfl rfl rfl ?_
  refine zx_iload_n rfl rfl rfl ?_
  refine zx_ic_eq rfl rfl (fun c1 => ?_) (fun c1 => ?_)
  · rw [if_pos c1] at hF
    exact tb33_105 (l0 := l0) (l1 := l1) (l2 := l2) (l3 := l3) (l4 := l4) (l5 := l5) hd  hx6 hx7 hF q
  · rw [if_neg c1] at hF
    refine zx_aload_n rfl rfl rfl ?_
    refine zx_iload rfl rfl rfl ?_
    replace hF := zgd_some hF
    obtain ⟨g2, hF⟩ := hF
    replace hF := zbnd hF
    obtain ⟨p4, e3, hF⟩ := hF
    refine zx_callE rfl rfl rfl rfl (zrcv_isO g2) rfl rfl (zc4 (Nat.le_of_ble_eq_true rfl)) (t12 (by omega) e3 (zaI ?_))
    replace hF := zbnd hF
    obtain ⟨p6, e5, hF⟩ := hF
    refine zx_callE rfl rfl rfl rfl rfl rfl rfl (zc4 (Nat.le_of_ble_eq_true rfl)) (t18 (by omega) e5 (zaI ?_))
    refine zx_if_eq rfl rfl (fun c7 => ?_) (fun c7 => ?_)
    · rw [if_pos c7] at hF
      refine zx_iload_n rfl rfl rfl ?_
      refine zx_if_eq rfl rfl (fun c8 => ?_) (fun c8 => ?_)
      · rw [if_pos c8] at hF
        refine zx_iload rfl rfl rfl ?_
        exact tb33_123 (l0 := l0) (l1 := l1) (l2 := l2) (l3 := l3) (l4 := l4) (l5 := l5) (s0 := l5) hd  hx6 hx7 hF q
      · rw [if_neg c8] at hF
        refine zx_iload rfl rfl rfl ?_
        refine zx_ineg rfl rfl ?_
        refine zx_goto rfl rfl ?_
        exact tb33_123 (l0 := l0) (l1 := l1) (l2 := l2) (l3 := l3) (l4 := l4) (l5 := l5) (s0 := (-l5)) hd  hx6 hx7 hF q
    · rw [if_neg c7] at hF
      exact tb33_105 (l0 := l0) (l1 := l1) (l2 := l2) (l3 := l3) (l4 := l4) (l5 := l5) hd  hx6 hx7 hF q
def b33_34 (n : Nat)  (r34 : Nat → Int32 → Int32 → Int32 → Int32 → Int32 → zH → Option (Option Nat × zH)) (l0 : Nat) (l1 : Int32) (l2 : Int32) (l3 : Int32) (l4 : Int32) (l5 : Int32) (h : zH) : Option (Option Nat × zH) :=
  (gI h l0 8 1).bind fun x1 =>
  if x1 ≤ l4 then
    b33_87 n  l0 l1 l2 l3 l4 l5 h
  else
    if (9 : Int32) ≤ (l4 - l3) then
      b33_87 n  l0 l1 l2 l3 l4 l5 h
    else
      zgd (isO h l0 8) <|
      (f12 n l0 l4 h).bind fun p7 =>
      (f19 n p7.1 p7.2).bind fun p9 =>
      if p9.1 = 0 then
        b33_87 n  l0 l1 l2 l3 l4 l5 p9.2
      else
        zgd (isO p9.2 l0 8) <|
        (f12 n l0 l4 p9.2).bind fun p13 =>
        r34 l0 l1 l2 l3 (l4 + 1) (((l5 * 10) + p13.1) - 48) p13.2
set_option maxRecDepth 20000 in
theorem tb33_34 {d n : Nat} {Q : zRs → zH → Prop}  {r34 : Nat → Int32 → Int32 → Int32 → Int32 → Int32 → zH → Option (Option Nat × zH)} {l0 : Nat} {l1 : Int32} {l2 : Int32} {l3 : Int32} {l4 : Int32} {l5 : Int32}  {x6 : Option Value} {x7 : Option Value} (hd : 6 ≤ d)  (hr34 : ∀ {l0 : Nat} {l1 : Int32} {l2 : Int32} {l3 : Int32} {l4 : Int32} {l5 : Int32}  {x6 : Option Value} {x7 : Option Value} {h : zH} {p : (Option Nat × zH)}, zn2 x6 = true → zn2 x7 = true → r34 l0 l1 l2 l3 l4 l5 h = some p → Q (eA p.1) p.2 → zW d 33 34 [some (.ref l0), some (.int l1), some (.int l2), some (.int l3), some (.int l4), some (.int l5), x6, x7] [] h Q) {h : zH} {p : (Option Nat × zH)} (hx6 : zn2 x6 = true) (hx7 : zn2 x7 = true) (hF : b33_34 n  r34 l0 l1 l2 l3 l4 l5 h = some p) (q : Q (eA p.1) p.2) : zW d 33 34 [some (.ref l0), some (.int l1), some (.int l2), some (.int l3), some (.int l4), some (.int l5), x6, x7] [] h Q := by
  unfold b33_34 at hF
  obtain ⟨d, rfl⟩ : ∃ e, d = e + 1 := ⟨d - 1, by omega⟩
  refine zx_iload rfl rfl rfl ?_
  refine zx_aload_n rfl rfl rfl ?_
  replace hF := zbnd hF
  obtain ⟨x1, e2, hF⟩ := hF
  refine zy_getI rfl rfl e2 ?_
  refine zx_ic_ge rfl rfl (fun c3 => ?_) (fun c3 => ?_)
  · rw [if_pos c3] at hF
    exact tb33_87 (l0 := l0) (l1 := l1) (l2 := l2) (l3 := l3) (l4 := l4) (l5 := l5) hd  hx6 hx7 hF q
  · rw [if_neg c3] at hF
    refine zx_iload rfl rfl rfl ?_
    refine zx_iload_n rfl rfl rfl ?_
    refine zx_isub rfl rfl ?_
    refine zx_bipush (v := 9) rfl rfl rfl ?_
    refine zx_ic_ge rfl rfl (fun c4 => ?_) (fun c4 => ?_)
    · rw [if_pos c4] at hF
      exact tb33_87 (l0 := l0) (l1 := l1) (l2 := l2) (l3 := l3) (l4 := l4) (l5 := l5) hd  hx6 hx7 hF q
    · rw [if_neg c4] at hF
      refine zx_aload_n rfl rfl rfl ?_
      refine zx_iload rfl rfl rfl ?_
      replace hF := zgd_some hF
      obtain ⟨g5, hF⟩ := hF
      replace hF := zbnd hF
      obtain ⟨p7, e6, hF⟩ := hF
      refine zx_callE rfl rfl rfl rfl (zrcv_isO g5) rfl rfl (zc4 (Nat.le_of_ble_eq_true rfl)) (t12 (by omega) e6 (zaI ?_))
      replace hF := zbnd hF
      obtain ⟨p9, e8, hF⟩ := hF
      refine zx_callE rfl rfl rfl rfl rfl rfl rfl (zc4 (Nat.le_of_ble_eq_true rfl)) (t19 (by omega) e8 (zaI ?_))
      refine zx_if_eq rfl rfl (fun c10 => ?_) (fun c10 => ?_)
      · rw [if_pos c10] at hF
        exact tb33_87 (l0 := l0) (l1 := l1) (l2 := l2) (l3 := l3) (l4 := l4) (l5 := l5) hd  hx6 hx7 hF q
      · rw [if_neg c10] at hF
        refine zx_iload rfl rfl rfl ?_
        refine zx_bipush (v := 10) rfl rfl rfl ?_
        refine zx_imul rfl rfl ?_
        refine zx_aload_n rfl rfl rfl ?_
        refine zx_iload rfl rfl rfl ?_
        replace hF := zgd_some hF
        obtain ⟨g11, hF⟩ := hF
        replace hF := zbnd hF
        obtain ⟨p13, e12, hF⟩ := hF
        refine zx_callE rfl rfl rfl rfl (zrcv_isO g11) rfl rfl (zc4 (Nat.le_of_ble_eq_true rfl)) (t12 (by omega) e12 (zaI ?_))
        refine zx_iadd rfl rfl ?_
        refine zx_bipush (v := 48) rfl rfl rfl ?_
        refine zx_isub rfl rfl ?_
        refine zx_istore rfl rfl rfl ?_
        refine zx_iinc (w := 1) rfl rfl rfl rfl rfl ?_
        refine zx_goto rfl rfl ?_
        exact hr34 hx6 hx7 hF q
def f33_34 (n : Nat)   (k : Nat) : Nat → Int32 → Int32 → Int32 → Int32 → Int32 → zH → Option (Option Nat × zH) := Nat.rec (fun _ _ _ _ _ _ _ => none) (fun _ ih => b33_34 n  ih) k
theorem tf33_34 {d n : Nat} {Q : zRs → zH → Prop}   (hd : 6 ≤ d)   (k : Nat) : ∀ {l0 : Nat} {l1 : Int32} {l2 : Int32} {l3 : Int32} {l4 : Int32} {l5 : Int32}  {x6 : Option Value} {x7 : Option Value} {h : zH} {p : (Option Nat × zH)}, zn2 x6 = true → zn2 x7 = true → f33_34 n   k l0 l1 l2 l3 l4 l5 h = some p → Q (eA p.1) p.2 → zW d 33 34 [some (.ref l0), some (.int l1), some (.int l2), some (.int l3), some (.int l4), some (.int l5), x6, x7] [] h Q := by
  induction k with
  | zero => intros; rename_i hF _; cases hF
  | succ k ih => intros; rename_i hx6 hx7 hF q; exact tb33_34 (n := n) hd  ih hx6 hx7 hF q
def b33_27 (n : Nat)   (l0 : Nat) (l1 : Int32) (l2 : Int32) (s0 : Int32) (h : zH) : Option (Option Nat × zH) :=
  f33_34 n  n l0 l1 l2 s0 s0 0 h
set_option maxRecDepth 20000 in
theorem tb33_27 {d n : Nat} {Q : zRs → zH → Prop}   {l0 : Nat} {l1 : Int32} {l2 : Int32} {s0 : Int32} {x3 : Option Value} {x4 : Option Value} {x5 : Option Value} {x6 : Option Value} {x7 : Option Value} (hd : 6 ≤ d)   {h : zH} {p : (Option Nat × zH)} (hx3 : zn2 x3 = true) (hx4 : zn2 x4 = true) (hx5 : zn2 x5 = true) (hx6 : zn2 x6 = true) (hx7 : zn2 x7 = true) (hF : b33_27 n   l0 l1 l2 s0 h = some p) (q : Q (eA p.1) p.2) : zW d 33 27 [some (.ref l0), some (.int l1), some (.int l2), x3, x4, x5, x6, x7] [.int s0] h Q := by
  unfold b33_27 at hF
  obtain ⟨d, rfl⟩ : ∃ e, d = e + 1 := ⟨d - 1, by omega⟩
  refine zx_istore_n rfl rfl rfl ?_
  refine zx_iload_n rfl rfl rfl ?_
  refine zx_istore rfl rfl rfl ?_
  refine zx_iconst (v := 0) rfl rfl rfl ?_
  refine zx_istore rfl rfl rfl ?_
  exact tf33_34 hd  n (l0 := l0) (l1 := l1) (l2 := l2) (l3 := s0) (l4 := s0) (l5 := 0) hx6 hx7 hF q
def b33_15 (n : Nat)   (l0 : Nat) (l1 : Int32) (s0 : Int32) (h : zH) : Option (Option Nat × zH) :=
  if s0 = 0 then
    b33_27 n  l0 l1 s0 l1 h
  else
    b33_27 n  l0 l1 s0 (l1 + 1) h
set_option maxRecDepth 20000 in
theorem tb33_15 {d n : Nat} {Q : zRs → zH → Prop}   {l0 : Nat} {l1 : Int32} {s0 : Int32} {x2 : Option Value} {x3 : Option Value} {x4 : Option Value} {x5 : Option Value} {x6 : Option Value} {x7 : Option Value} (hd : 6 ≤ d)   {h : zH} {p : (Option Nat × zH)} (hx2 : zn2 x2 = true) (hx3 : zn2 x3 = true) (hx4 : zn2 x4 = true) (hx5 : zn2 x5 = true) (hx6 : zn2 x6 = true) (hx7 : zn2 x7 = true) (hF : b33_15 n   l0 l1 s0 h = some p) (q : Q (eA p.1) p.2) : zW d 33 15 [some (.ref l0), some (.int l1), x2, x3, x4, x5, x6, x7] [.int s0] h Q := by
  unfold b33_15 at hF
  obtain ⟨d, rfl⟩ : ∃ e, d = e + 1 := ⟨d - 1, by omega⟩
  refine zx_istore_n rfl rfl rfl ?_
  refine zx_iload_n rfl rfl rfl ?_
  refine zx_if_eq rfl rfl (fun c1 => ?_) (fun c1 => ?_)
  · rw [if_pos c1] at hF
    refine zx_iload_n rfl rfl rfl ?_
    exact tb33_27 (l0 := l0) (l1 := l1) (l2 := s0) (s0 := l1) hd  hx3 hx4 hx5 hx6 hx7 hF q
  · rw [if_neg c1] at hF
    refine zx_iload_n rfl rfl rfl ?_
    refine zx_iconst (v := 1) rfl rfl rfl ?_
    refine zx_iadd rfl rfl ?_
    refine zx_goto rfl rfl ?_
    exact tb33_27 (l0 := l0) (l1 := l1) (l2 := s0) (s0 := (l1 + 1)) hd  hx3 hx4 hx5 hx6 hx7 hF q
def f33 (n : Nat)  (y0 : Nat) (y1 : Int32) (h : zH) : Option (Option Nat × zH) :=
  zgd (isO h y0 8) <|
  (f12 n y0 y1 h).bind fun p3 =>
  if p3.1 = 45 then
    b33_15 n  y0 y1 1 p3.2
  else
    b33_15 n  y0 y1 0 p3.2
set_option maxRecDepth 20000 in
theorem t33 {d n : Nat} {Q : zRs → zH → Prop}  {y0 : Nat} {y1 : Int32} (hd : 6 ≤ d)  {h : zH} {p : (Option Nat × zH)} (hF : f33 n  y0 y1 h = some p) (q : Q (eA p.1) p.2) : zC d 33 [.ref y0, .int y1] h Q := by
  refine zC_of (L := [some (.ref y0), some (.int y1), none, none, none, none, none, none]) rfl rfl ?_
  unfold f33 at hF
  obtain ⟨d, rfl⟩ : ∃ e, d = e + 1 := ⟨d - 1, by omega⟩
  refine zx_aload_n rfl rfl rfl ?_
  refine zx_iload_n rfl rfl rfl ?_
  replace hF := zgd_some hF
  obtain ⟨g1, hF⟩ := hF
  replace hF := zbnd hF
  obtain ⟨p3, e2, hF⟩ := hF
  refine zx_callE rfl rfl rfl rfl (zrcv_isO g1) rfl rfl (zc4 (Nat.le_of_ble_eq_true rfl)) (t12 (by omega) e2 (zaI ?_))
  refine zx_bipush (v := 45) rfl rfl rfl ?_
  refine zx_ic_ne rfl rfl (fun c4 => ?_) (fun c4 => ?_)
  · rw [if_neg c4] at hF
    refine zx_iconst (v := 0) rfl rfl rfl ?_
    exact tb33_15 (l0 := y0) (l1 := y1) (s0 := 0) hd  rfl rfl rfl rfl rfl rfl hF q
  · rw [if_pos c4] at hF
    refine zx_iconst (v := 1) rfl rfl rfl ?_
    refine zx_goto rfl rfl ?_
    exact tb33_15 (l0 := y0) (l1 := y1) (s0 := 1) hd  rfl rfl rfl rfl rfl rfl hF q
def f56 (n : Nat)  (y0 : Nat) (h : zH) : Option (Int32 × zH) :=
  if (1 : Int32) = 0 then
    some (1, h)
  else
    (gI h y0 12 1).bind fun x2 =>
    zgd (zrtn .byte x2) <|
    some (x2, h)
set_option maxRecDepth 20000 in
theorem t56 {d n : Nat} {Q : zRs → zH → Prop}  {y0 : Nat} (hd : 0 ≤ d)  {h : zH} {p : (Int32 × zH)} (hF : f56 n  y0 h = some p) (q : Q (eI p.1) p.2) : zC d 56 [.ref y0] h Q := by
  refine zC_of (L := [some (.ref y0)]) rfl rfl ?_
  unfold f56 at hF
  refine zx_gets rfl rfl rfl ?_
  refine zx_if_eq rfl rfl (fun c1 => ?_) (fun c1 => ?_)
  · rw [if_pos c1] at hF
    refine zx_iconst (v := 1) rfl rfl rfl ?_
    replace hF := Option.some.inj hF
    subst hF
    exact zx_bret rfl rfl rfl rfl q
  · rw [if_neg c1] at hF
    refine zx_aload_n rfl rfl rfl ?_
    replace hF := zbnd hF
    obtain ⟨x2, e3, hF⟩ := hF
    refine zy_getI rfl rfl e3 ?_
    refine zx_goto rfl rfl ?_
    replace hF := zgd_some hF
    obtain ⟨g4, hF⟩ := hF
    replace hF := Option.some.inj hF
    subst hF
    exact zx_bret rfl rfl rfl g4 q
def f55 (n : Nat)  (y0 : Nat) (h : zH) : Option (Int32 × zH) :=
  (gR h y0 12 0).bind fun x1 =>
  x1.bind fun a3 =>
  (aN h a3).bind fun x4 =>
  zgd (isO h y0 12) <|
  (f56 n y0 h).bind fun p8 =>
  some ((x4 >>> (p8.1 &&& 31)), p8.2)
set_option maxRecDepth 20000 in
theorem t55 {d n : Nat} {Q : zRs → zH → Prop}  {y0 : Nat} (hd : 1 ≤ d)  {h : zH} {p : (Int32 × zH)} (hF : f55 n  y0 h = some p) (q : Q (eI p.1) p.2) : zC d 55 [.ref y0] h Q := by
  refine zC_of (L := [some (.ref y0)]) rfl rfl ?_
  unfold f55 at hF
  obtain ⟨d, rfl⟩ : ∃ e, d = e + 1 := ⟨d - 1, by omega⟩
  refine zx_aload_n rfl rfl rfl ?_
  replace hF := zbnd hF
  obtain ⟨x1, e2, hF⟩ := hF
  refine zy_getR rfl rfl e2 ?_
  replace hF := zbnd hF
  obtain ⟨a3, rfl, hF⟩ := hF
  replace hF := zbnd hF
  obtain ⟨x4, e5, hF⟩ := hF
  refine zy_alen rfl rfl e5 ?_
  refine zx_aload_n rfl rfl rfl ?_
  replace hF := zgd_some hF
  obtain ⟨g6, hF⟩ := hF
  replace hF := zbnd hF
  obtain ⟨p8, e7, hF⟩ := hF
  refine zx_callE rfl rfl rfl rfl (zrcv_isO g6) rfl rfl (zc4 (Nat.le_of_ble_eq_true rfl)) (t56 (by omega) e7 (zaI ?_))
  refine zx_ishr rfl rfl ?_
  replace hF := Option.some.inj hF
  subst hF
  exact zx_bret rfl rfl rfl rfl q
def f60 (n : Nat)  (y0 : Nat) (h : zH) : Option (Int32 × zH) :=
  if (1 : Int32) = 0 then
    some (0, h)
  else
    (gI h y0 12 1).bind fun x2 =>
    if x2 = 0 then
      some (1, h)
    else
      some (0, h)
set_option maxRecDepth 20000 in
theorem t60 {d n : Nat} {Q : zRs → zH → Prop}  {y0 : Nat} (hd : 0 ≤ d)  {h : zH} {p : (Int32 × zH)} (hF : f60 n  y0 h = some p) (q : Q (eI p.1) p.2) : zC d 60 [.ref y0] h Q := by
  refine zC_of (L := [some (.ref y0)]) rfl rfl ?_
  unfold f60 at hF
  refine zx_gets rfl rfl rfl ?_
  refine zx_if_eq rfl rfl (fun c1 => ?_) (fun c1 => ?_)
  · rw [if_pos c1] at hF
    refine zx_iconst (v := 0) rfl rfl rfl ?_
    replace hF := Option.some.inj hF
    subst hF
    exact zx_bret rfl rfl rfl rfl q
  · rw [if_neg c1] at hF
    refine zx_aload_n rfl rfl rfl ?_
    replace hF := zbnd hF
    obtain ⟨x2, e3, hF⟩ := hF
    refine zy_getI rfl rfl e3 ?_
    refine zx_if_ne rfl rfl (fun c4 => ?_) (fun c4 => ?_)
    · rw [if_neg c4] at hF
      refine zx_iconst (v := 0) rfl rfl rfl ?_
      replace hF := Option.some.inj hF
      subst hF
      exact zx_bret rfl rfl rfl rfl q
    · rw [if_pos c4] at hF
      refine zx_iconst (v := 1) rfl rfl rfl ?_
      refine zx_goto rfl rfl ?_
      replace hF := Option.some.inj hF
      subst hF
      exact zx_bret rfl rfl rfl rfl q
def f63 (n : Nat)  (y0 : Int32) (y1 : Int32) (h : zH) : Option (Int32 × zH) :=
  if y0 < 0 then
    none
  else
    if y0 < y1 then
      some (y0, h)
    else
      none
set_option maxRecDepth 20000 in
theorem t63 {d n : Nat} {Q : zRs → zH → Prop}  {y0 : Int32} {y1 : Int32} (hd : 0 ≤ d)  {h : zH} {p : (Int32 × zH)} (hF : f63 n  y0 y1 h = some p) (q : Q (eI p.1) p.2) : zC d 63 [.int y0, .int y1, .retAddr 0] h Q := by
  refine zC_of (L := [some (.int y0), some (.int y1), some (.retAddr 0)]) rfl rfl ?_
  unfold f63 at hF
  refine zx_iload_n rfl rfl rfl ?_
  refine zx_if_lt rfl rfl (fun c1 => ?_) (fun c1 => ?_)
  · rw [if_pos c1] at hF
    cases hF
  · rw [if_neg c1] at hF
    refine zx_iload_n rfl rfl rfl ?_
    refine zx_iload_n rfl rfl rfl ?_
    refine zx_ic_lt rfl rfl (fun c2 => ?_) (fun c2 => ?_)
    · rw [if_pos c2] at hF
      refine zx_iload_n rfl rfl rfl ?_
      replace hF := Option.some.inj hF
      subst hF
      exact zx_bret rfl rfl rfl rfl q
    · rw [if_neg c2] at hF
      cases hF
set_option maxRecDepth 20000 in
theorem t63n {d n : Nat} {Q : zRs → zH → Prop}  {y0 : Int32} {y1 : Int32} (hd : 0 ≤ d)  {h : zH} {p : (Int32 × zH)} (hF : f63 n  y0 y1 h = some p) (q : Q (eI p.1) p.2) : zC d 63 [.int y0, .int y1, .null] h Q := by
  refine zC_of (L := [some (.int y0), some (.int y1), some (.null)]) rfl rfl ?_
  unfold f63 at hF
  refine zx_iload_n rfl rfl rfl ?_
  refine zx_if_lt rfl rfl (fun c1 => ?_) (fun c1 => ?_)
  · rw [if_pos c1] at hF
    cases hF
  · rw [if_neg c1] at hF
    refine zx_iload_n rfl rfl rfl ?_
    refine zx_iload_n rfl rfl rfl ?_
    refine zx_ic_lt rfl rfl (fun c2 => ?_) (fun c2 => ?_)
    · rw [if_pos c2] at hF
      refine zx_iload_n rfl rfl rfl ?_
      replace hF := Option.some.inj hF
      subst hF
      exact zx_bret rfl rfl rfl rfl q
    · rw [if_neg c2] at hF
      cases hF
def f62 (n : Nat)  (y0 : Int32) (y1 : Int32) (h : zH) : Option (Unit × zH) :=
  (f63 n y0 y1 h).bind fun p2 =>
  some ((), p2.2)
set_option maxRecDepth 20000 in
theorem t62 {d n : Nat} {Q : zRs → zH → Prop}  {y0 : Int32} {y1 : Int32} (hd : 1 ≤ d)  {h : zH} {p : (Unit × zH)} (hF : f62 n  y0 y1 h = some p) (q : Q (eV p.1) p.2) : zC d 62 [.int y0, .int y1] h Q := by
  refine zC_of (L := [some (.int y0), some (.int y1)]) rfl rfl ?_
  unfold f62 at hF
  obtain ⟨d, rfl⟩ : ∃ e, d = e + 1 := ⟨d - 1, by omega⟩
  refine zx_iload_n rfl rfl rfl ?_
  refine zx_iload_n rfl rfl rfl ?_
  refine zx_gets rfl rfl rfl ?_
  replace hF := zbnd hF
  obtain ⟨p2, e1, hF⟩ := hF
  refine zx_callE rfl rfl rfl rfl rfl rfl rfl (zc4 (Nat.le_of_ble_eq_true rfl)) (t63 (by omega) e1 (zaI ?_))
  refine zx_pop rfl rfl rfl ?_
  replace hF := Option.some.inj hF
  subst hF
  exact zx_return rfl rfl rfl q
def f61 (n : Nat)  (y0 : Option Nat) (y1 : Int32) (h : zH) : Option (Int32 × zH) :=
  y0.bind fun a1 =>
  (aN h a1).bind fun x2 =>
  (f62 n y1 x2 h).bind fun p5 =>
  (aB p5.2 a1 y1).bind fun x6 =>
  zgd (zrtn .char (((x6 &&& 255).toUInt32 % 65536).toInt32)) <|
  some (((x6 &&& 255).toUInt32 % 65536).toInt32, p5.2)
set_option maxRecDepth 20000 in
theorem t61 {d n : Nat} {Q : zRs → zH → Prop}  {y0 : Option Nat} {y1 : Int32} (hd : 2 ≤ d)  {h : zH} {p : (Int32 × zH)} (hF : f61 n  y0 y1 h = some p) (q : Q (eI p.1) p.2) : zC d 61 [va_rf y0, .int y1] h Q := by
  refine zC_of (L := [some (va_rf y0), some (.int y1)]) ((zsl_rf _ _).trans (congrArg (List.cons _) rfl)) rfl ?_
  unfold f61 at hF
  obtain ⟨d, rfl⟩ : ∃ e, d = e + 1 := ⟨d - 1, by omega⟩
  refine zx_iload_n rfl rfl rfl ?_
  refine zy_rload_n rfl rfl rfl ?_
  replace hF := zbnd hF
  obtain ⟨a1, rfl, hF⟩ := hF
  replace hF := zbnd hF
  obtain ⟨x2, e3, hF⟩ := hF
  refine zy_alen rfl rfl e3 ?_
  replace hF := zbnd hF
  obtain ⟨p5, e4, hF⟩ := hF
  refine zx_callE rfl rfl rfl rfl rfl rfl rfl (zc4 (Nat.le_of_ble_eq_true rfl)) (t62 (by omega) e4 (zaV ?_))
  refine zx_aload_n rfl rfl rfl ?_
  refine zx_iload_n rfl rfl rfl ?_
  replace hF := zbnd hF
  obtain ⟨x6, e7, hF⟩ := hF
  refine zy_aB rfl rfl e7 ?_
  refine zx_sipush (v := 255) rfl rfl rfl ?_
  refine zx_iand rfl rfl ?_
  refine zx_i2c rfl rfl ?_
  replace hF := zgd_some hF
  obtain ⟨g8, hF⟩ := hF
  replace hF := Option.some.inj hF
  subst hF
  exact zx_bret rfl rfl rfl g8 q
def f59 (n : Nat)  (y0 : Nat) (y1 : Int32) (h : zH) : Option (Int32 × zH) :=
  zgd (isO h y0 12) <|
  (f60 n y0 h).bind fun p3 =>
  if p3.1 = 0 then
    none
  else
    (gR p3.2 y0 12 0).bind fun x5 =>
    (f61 n x5 y1 p3.2).bind fun p8 =>
    zgd (zrtn .char p8.1) <|
    some (p8.1, p8.2)
set_option maxRecDepth 20000 in
theorem t59 {d n : Nat} {Q : zRs → zH → Prop}  {y0 : Nat} {y1 : Int32} (hd : 3 ≤ d)  {h : zH} {p : (Int32 × zH)} (hF : f59 n  y0 y1 h = some p) (q : Q (eI p.1) p.2) : zC d 59 [.ref y0, .int y1] h Q := by
  refine zC_of (L := [some (.ref y0), some (.int y1)]) rfl rfl ?_
  unfold f59 at hF
  obtain ⟨d, rfl⟩ : ∃ e, d = e + 1 := ⟨d - 1, by omega⟩
  refine zx_aload_n rfl rfl rfl ?_
  replace hF := zgd_some hF
  obtain ⟨g1, hF⟩ := hF
  replace hF := zbnd hF
  obtain ⟨p3, e2, hF⟩ := hF
  refine zx_callE rfl rfl rfl rfl (zrcv_isO g1) rfl rfl (zc4 (Nat.le_of_ble_eq_true rfl)) (t60 (by omega) e2 (zaI ?_))
  refine zx_if_eq rfl rfl (fun c4 => ?_) (fun c4 => ?_)
  · rw [if_pos c4] at hF
    cases hF
  · rw [if_neg c4] at hF
    refine zx_aload_n rfl rfl rfl ?_
    replace hF := zbnd hF
    obtain ⟨x5, e6, hF⟩ := hF
    refine zy_getR rfl rfl e6 ?_
    refine zx_iload_n rfl rfl rfl ?_
    replace hF := zbnd hF
    obtain ⟨p8, e7, hF⟩ := hF
    refine zx_callE rfl rfl rfl rfl rfl ((zsl_rf _ _).trans (congrArg (List.cons _) rfl)) rfl (zc4 (Nat.le_of_ble_eq_true rfl)) (t61 (by omega) e7 (zaI ?_))
    replace hF := zgd_some hF
    obtain ⟨g9, hF⟩ := hF
    replace hF := Option.some.inj hF
    subst hF
    exact zx_bret rfl rfl rfl g9 q
def b58_42 (n : Nat)  (r2 : Int32 → Int32 → zH → Option (Option Nat × zH)) (l0 : Int32) (l1 : Int32) (l2 : Option Nat) (h : zH) : Option (Option Nat × zH) :=
  r2 l0 (l1 + 1) h
set_option maxRecDepth 20000 in
theorem tb58_42 {d n : Nat} {Q : zRs → zH → Prop}  {r2 : Int32 → Int32 → zH → Option (Option Nat × zH)} {l0 : Int32} {l1 : Int32} {l2 : Option Nat}   (hd : 4 ≤ d)  (hr2 : ∀ {l0 : Int32} {l1 : Int32}  {x2 : Option Value} {h : zH} {p : (Option Nat × zH)}, zn2 x2 = true → r2 l0 l1 h = some p → Q (eA p.1) p.2 → zW d 58 2 [some (.int l0), some (.int l1), x2] [] h Q) {h : zH} {p : (Option Nat × zH)}  (hF : b58_42 n  r2 l0 l1 l2 h = some p) (q : Q (eA p.1) p.2) : zW d 58 42 [some (.int l0), some (.int l1), some (va_rf l2)] [] h Q := by
  unfold b58_42 at hF
  obtain ⟨d, rfl⟩ : ∃ e, d = e + 1 := ⟨d - 1, by omega⟩
  refine zx_iinc (w := 1) rfl rfl rfl rfl rfl ?_
  refine zx_goto rfl rfl ?_
  exact hr2 (zn2_rf _) hF q
def b58_2 (n : Nat)  (r2 : Int32 → Int32 → zH → Option (Option Nat × zH)) (l0 : Int32) (l1 : Int32) (h : zH) : Option (Option Nat × zH) :=
  (aN h 44).bind fun x1 =>
  if x1 ≤ l1 then
    some ((some 2), h)
  else
    (aR h 44 l1).bind fun x4 =>
    x4.bind fun a6 =>
    (gR h a6 15 1).bind fun x7 =>
    x7.bind fun a9 =>
    zgd (isO h a9 12) <|
    (f55 n a9 h).bind fun p12 =>
    if p12.1 = 1 then
      zgd (isO p12.2 a9 12) <|
      (f59 n a9 0 p12.2).bind fun p16 =>
      if p16.1 = l0 then
        (aR p16.2 44 l1).bind fun x18 =>
        some (x18, p16.2)
      else
        b58_42 n r2 l0 l1 (some a9) p16.2
    else
      b58_42 n r2 l0 l1 (some a9) p12.2
set_option maxRecDepth 20000 in
theorem tb58_2 {d n : Nat} {Q : zRs → zH → Prop}  {r2 : Int32 → Int32 → zH → Option (Option Nat × zH)} {l0 : Int32} {l1 : Int32}  {x2 : Option Value} (hd : 4 ≤ d)  (hr2 : ∀ {l0 : Int32} {l1 : Int32}  {x2 : Option Value} {h : zH} {p : (Option Nat × zH)}, zn2 x2 = true → r2 l0 l1 h = some p → Q (eA p.1) p.2 → zW d 58 2 [some (.int l0), some (.int l1), x2] [] h Q) {h : zH} {p : (Option Nat × zH)} (hx2 : zn2 x2 = true) (hF : b58_2 n  r2 l0 l1 h = some p) (q : Q (eA p.1) p.2) : zW d 58 2 [some (.int l0), some (.int l1), x2] [] h Q := by
  unfold b58_2 at hF
  obtain ⟨d, rfl⟩ : ∃ e, d = e + 1 := ⟨d - 1, by omega⟩
  refine zx_iload_n rfl rfl rfl ?_
  refine zx_gets rfl rfl rfl ?_
  replace hF := zbnd hF
  obtain ⟨x1, e2, hF⟩ := hF
  refine zy_alen rfl rfl e2 ?_
  refine zx_ic_ge rfl rfl (fun c3 => ?_) (fun c3 => ?_)
  · rw [if_pos c3] at hF
    refine zx_gets rfl rfl rfl ?_
    replace hF := Option.some.inj hF
    subst hF
    exact zy_areturn (r := (some 2)) rfl rfl rfl rfl q
  · rw [if_neg c3] at hF
    refine zx_gets rfl rfl rfl ?_
    refine zx_iload_n rfl rfl rfl ?_
    replace hF := zbnd hF
    obtain ⟨x4, e5, hF⟩ := hF
    refine zy_aR rfl rfl e5 ?_
    replace hF := zbnd hF
    obtain ⟨a6, rfl, hF⟩ := hF
    replace hF := zbnd hF
    obtain ⟨x7, e8, hF⟩ := hF
    refine zy_getR rfl rfl e8 ?_
    refine zy_rstore_n rfl rfl rfl ?_
    refine zy_rload_n rfl rfl rfl ?_
    replace hF := zbnd hF
    obtain ⟨a9, rfl, hF⟩ := hF
    replace hF := zgd_some hF
    obtain ⟨g10, hF⟩ := hF
    replace hF := zbnd hF
    obtain ⟨p12, e11, hF⟩ := hF
    refine zx_callE rfl rfl rfl rfl (zrcv_isO g10) rfl rfl (zc4 (Nat.le_of_ble_eq_true rfl)) (t55 (by omega) e11 (zaI ?_))
    refine zx_iconst (v := 1) rfl rfl rfl ?_
    refine zx_ic_ne rfl rfl (fun c13 => ?_) (fun c13 => ?_)
    · rw [if_neg c13] at hF
      exact tb58_42 (l0 := l0) (l1 := l1) (l2 := (some a9)) hd hr2  hF q
    · rw [if_pos c13] at hF
      refine zx_aload_n rfl rfl rfl ?_
      refine zx_iconst (v := 0) rfl rfl rfl ?_
      replace hF := zgd_some hF
      obtain ⟨g14, hF⟩ := hF
      replace hF := zbnd hF
      obtain ⟨p16, e15, hF⟩ := hF
      refine zx_callE rfl rfl rfl rfl (zrcv_isO g14) rfl rfl (zc4 (Nat.le_of_ble_eq_true rfl)) (t59 (by omega) e15 (zaI ?_))
      refine zx_iload_n rfl rfl rfl ?_
      refine zx_ic_ne rfl rfl (fun c17 => ?_) (fun c17 => ?_)
      · rw [if_neg c17] at hF
        exact tb58_42 (l0 := l0) (l1 := l1) (l2 := (some a9)) hd hr2  hF q
      · rw [if_pos c17] at hF
        refine zx_gets rfl rfl rfl ?_
        refine zx_iload_n rfl rfl rfl ?_
        replace hF := zbnd hF
        obtain ⟨x18, e19, hF⟩ := hF
        refine zy_aR rfl rfl e19 ?_
        replace hF := Option.some.inj hF
        subst hF
        exact zy_areturn (r := x18) rfl rfl rfl rfl q
def f58_2 (n : Nat)   (k : Nat) : Int32 → Int32 → zH → Option (Option Nat × zH) := Nat.rec (fun _ _ _ => none) (fun _ ih => b58_2 n  ih) k
theorem tf58_2 {d n : Nat} {Q : zRs → zH → Prop}   (hd : 4 ≤ d)   (k : Nat) : ∀ {l0 : Int32} {l1 : Int32}  {x2 : Option Value} {h : zH} {p : (Option Nat × zH)}, zn2 x2 = true → f58_2 n   k l0 l1 h = some p → Q (eA p.1) p.2 → zW d 58 2 [some (.int l0), some (.int l1), x2] [] h Q := by
  induction k with
  | zero => intros; rename_i hF _; cases hF
  | succ k ih => intros; rename_i hx2 hF q; exact tb58_2 (n := n) hd  ih hx2 hF q
def f58 (n : Nat)  (y0 : Int32) (h : zH) : Option (Option Nat × zH) :=
  f58_2 n  n y0 0 h
set_option maxRecDepth 20000 in
theorem t58 {d n : Nat} {Q : zRs → zH → Prop}  {y0 : Int32} (hd : 4 ≤ d)  {h : zH} {p : (Option Nat × zH)} (hF : f58 n  y0 h = some p) (q : Q (eA p.1) p.2) : zC d 58 [.int y0] h Q := by
  refine zC_of (L := [some (.int y0), none, none]) rfl rfl ?_
  unfold f58 at hF
  obtain ⟨d, rfl⟩ : ∃ e, d = e + 1 := ⟨d - 1, by omega⟩
  refine zx_iconst (v := 0) rfl rfl rfl ?_
  refine zx_istore_n rfl rfl rfl ?_
  exact tf58_2 hd  n (l0 := y0) (l1 := 0) rfl hF q
def b57_40 (n : Nat)   (l0 : Nat) (l1 : Int32) (h : zH) : Option (Option Nat × zH) :=
  zgd (isO (nO h 9 6) l0 8) <|
  (f12 n l0 l1 (nO h 9 6)).bind fun p3 =>
  (f58 n p3.1 p3.2).bind fun p5 =>
  (f15 n h.1.length p5.1 l1 (l1 + 1) (some 49) 0 p5.2).bind fun p7 =>
  some ((some h.1.length), p7.2)
set_option maxRecDepth 20000 in
theorem tb57_40 {d n : Nat} {Q : zRs → zH → Prop}   {l0 : Nat} {l1 : Int32}   (hd : 5 ≤ d)   {h : zH} {p : (Option Nat × zH)}  (hF : b57_40 n   l0 l1 h = some p) (q : Q (eA p.1) p.2) : zW d 57 40 [some (.ref l0), some (.int l1)] [] h Q := by
  unfold b57_40 at hF
  obtain ⟨d, rfl⟩ : ∃ e, d = e + 1 := ⟨d - 1, by omega⟩
  refine zy_new rfl rfl ?_
  refine zx_dup rfl rfl rfl ?_
  refine zx_aload_n rfl rfl rfl ?_
  refine zx_iload_n rfl rfl rfl ?_
  replace hF := zgd_some hF
  obtain ⟨g1, hF⟩ := hF
  replace hF := zbnd hF
  obtain ⟨p3, e2, hF⟩ := hF
  refine zx_callE rfl rfl rfl rfl (zrcv_isO g1) rfl rfl (zc4 (Nat.le_of_ble_eq_true rfl)) (t12 (by omega) e2 (zaI ?_))
  replace hF := zbnd hF
  obtain ⟨p5, e4, hF⟩ := hF
  refine zx_callE rfl rfl rfl rfl rfl rfl rfl (zc4 (Nat.le_of_ble_eq_true rfl)) (t58 (by omega) e4 (zaA ?_))
  refine zx_iload_n rfl rfl rfl ?_
  refine zx_iload_n rfl rfl rfl ?_
  refine zx_iconst (v := 1) rfl rfl rfl ?_
  refine zx_iadd rfl rfl ?_
  refine zx_ldc rfl rfl rfl ?_
  refine zx_iconst (v := 0) rfl rfl rfl ?_
  replace hF := zbnd hF
  obtain ⟨p7, e6, hF⟩ := hF
  refine zx_callF rfl rfl rfl rfl rfl (congrArg (List.cons _) ((zsl_rf _ _).trans (congrArg (List.cons _) rfl))) rfl (zc4 (Nat.le_of_ble_eq_true rfl)) (t15 (by omega) e6 (zaV ?_))
  replace hF := Option.some.inj hF
  subst hF
  exact zy_areturn (r := (some h.1.length)) rfl rfl rfl rfl q
def f57 (n : Nat)  (y0 : Nat) (y1 : Int32) (h : zH) : Option (Option Nat × zH) :=
  zgd (isO h y0 8) <|
  (f12 n y0 y1 h).bind fun p3 =>
  if p3.1 = 45 then
    zgd (isO p3.2 y0 8) <|
    (f12 n y0 (y1 + 1) p3.2).bind fun p7 =>
    if p7.1 = 62 then
      (f15 n p7.2.1.length (some 14) y1 (y1 + 2) (some 49) 0 (nO p7.2 9 6)).bind fun p10 =>
      some ((some p7.2.1.length), p10.2)
    else
      b57_40 n  y0 y1 p7.2
  else
    b57_40 n  y0 y1 p3.2
set_option maxRecDepth 20000 in
theorem t57 {d n : Nat} {Q : zRs → zH → Prop}  {y0 : Nat} {y1 : Int32} (hd : 5 ≤ d)  {h : zH} {p : (Option Nat × zH)} (hF : f57 n  y0 y1 h = some p) (q : Q (eA p.1) p.2) : zC d 57 [.ref y0, .int y1] h Q := by
  refine zC_of (L := [some (.ref y0), some (.int y1)]) rfl rfl ?_
  unfold f57 at hF
  obtain ⟨d, rfl⟩ : ∃ e, d = e + 1 := ⟨d - 1, by omega⟩
  refine zx_aload_n rfl rfl rfl ?_
  refine zx_iload_n rfl rfl rfl ?_
  replace hF := zgd_some hF
  obtain ⟨g1, hF⟩ := hF
  replace hF := zbnd hF
  obtain ⟨p3, e2, hF⟩ := hF
  refine zx_callE rfl rfl rfl rfl (zrcv_isO g1) rfl rfl (zc4 (Nat.le_of_ble_eq_true rfl)) (t12 (by omega) e2 (zaI ?_))
  refine zx_bipush (v := 45) rfl rfl rfl ?_
  refine zx_ic_ne rfl rfl (fun c4 => ?_) (fun c4 => ?_)
  · rw [if_neg c4] at hF
    exact tb57_40 (l0 := y0) (l1 := y1) hd   hF q
  · rw [if_pos c4] at hF
    refine zx_aload_n rfl rfl rfl ?_
    refine zx_iload_n rfl rfl rfl ?_
    refine zx_iconst (v := 1) rfl rfl rfl ?_
    refine zx_iadd rfl rfl ?_
    replace hF := zgd_some hF
    obtain ⟨g5, hF⟩ := hF
    replace hF := zbnd hF
    obtain ⟨p7, e6, hF⟩ := hF
    refine zx_callE rfl rfl rfl rfl (zrcv_isO g5) rfl rfl (zc4 (Nat.le_of_ble_eq_true rfl)) (t12 (by omega) e6 (zaI ?_))
    refine zx_bipush (v := 62) rfl rfl rfl ?_
    refine zx_ic_ne rfl rfl (fun c8 => ?_) (fun c8 => ?_)
    · rw [if_neg c8] at hF
      exact tb57_40 (l0 := y0) (l1 := y1) hd   hF q
    · rw [if_pos c8] at hF
      refine zy_new rfl rfl ?_
      refine zx_dup rfl rfl rfl ?_
      refine zx_gets rfl rfl rfl ?_
      refine zx_iload_n rfl rfl rfl ?_
      refine zx_iload_n rfl rfl rfl ?_
      refine zx_iconst (v := 2) rfl rfl rfl ?_
      refine zx_iadd rfl rfl ?_
      refine zx_ldc rfl rfl rfl ?_
      refine zx_iconst (v := 0) rfl rfl rfl ?_
      replace hF := zbnd hF
      obtain ⟨p10, e9, hF⟩ := hF
      refine zx_callF rfl rfl rfl rfl rfl rfl rfl (zc4 (Nat.le_of_ble_eq_true rfl)) (t15 (by omega) e9 (zaV ?_))
      replace hF := Option.some.inj hF
      subst hF
      exact zy_areturn (r := (some p7.2.1.length)) rfl rfl rfl rfl q
def b11_107 (n : Nat)   (l0 : Nat) (l1 : Int32) (l2 : Int32) (l3 : Int32) (h : zH) : Option (Option Nat × zH) :=
  zgd (isO h l0 8) <|
  (f33 n l0 l2 h).bind fun p3 =>
  some (p3.1, p3.2)
set_option maxRecDepth 20000 in
theorem tb11_107 {d n : Nat} {Q : zRs → zH → Prop}   {l0 : Nat} {l1 : Int32} {l2 : Int32} {l3 : Int32}   (hd : 7 ≤ d)   {h : zH} {p : (Option Nat × zH)}  (hF : b11_107 n   l0 l1 l2 l3 h = some p) (q : Q (eA p.1) p.2) : zW d 11 107 [some (.ref l0), some (.int l1), some (.int l2), some (.int l3)] [] h Q := by
  unfold b11_107 at hF
  obtain ⟨d, rfl⟩ : ∃ e, d = e + 1 := ⟨d - 1, by omega⟩
  refine zx_aload_n rfl rfl rfl ?_
  refine zx_iload_n rfl rfl rfl ?_
  replace hF := zgd_some hF
  obtain ⟨g1, hF⟩ := hF
  replace hF := zbnd hF
  obtain ⟨p3, e2, hF⟩ := hF
  refine zx_callE rfl rfl rfl rfl (zrcv_isO g1) rfl rfl (zc4 (Nat.le_of_ble_eq_true rfl)) (t33 (by omega) e2 (zaA ?_))
  replace hF := Option.some.inj hF
  subst hF
  exact zy_areturn (r := p3.1) rfl rfl rfl rfl q
def b11_113 (n : Nat)   (l0 : Nat) (l1 : Int32) (l2 : Int32) (l3 : Int32) (h : zH) : Option (Option Nat × zH) :=
  zgd (isO h l0 8) <|
  (f57 n l0 l2 h).bind fun p3 =>
  some (p3.1, p3.2)
set_option maxRecDepth 20000 in
theorem tb11_113 {d n : Nat} {Q : zRs → zH → Prop}   {l0 : Nat} {l1 : Int32} {l2 : Int32} {l3 : Int32}   (hd : 7 ≤ d)   {h : zH} {p : (Option Nat × zH)}  (hF : b11_113 n   l0 l1 l2 l3 h = some p) (q : Q (eA p.1) p.2) : zW d 11 113 [some (.ref l0), some (.int l1), some (.int l2), some (.int l3)] [] h Q := by
  unfold b11_113 at hF
  obtain ⟨d, rfl⟩ : ∃ e, d = e + 1 := ⟨d - 1, by omega⟩
  refine zx_aload_n rfl rfl rfl ?_
  refine zx_iload_n rfl rfl rfl ?_
  replace hF := zgd_some hF
  obtain ⟨g1, hF⟩ := hF
  replace hF := zbnd hF
  obtain ⟨p3, e2, hF⟩ := hF
  refine zx_callE rfl rfl rfl rfl (zrcv_isO g1) rfl rfl (zc4 (Nat.le_of_ble_eq_true rfl)) (t57 (by omega) e2 (zaA ?_))
  replace hF := Option.some.inj hF
  subst hF
  exact zy_areturn (r := p3.1) rfl rfl rfl rfl q
def b11_27 (n : Nat)   (l0 : Nat) (l1 : Int32) (l2 : Int32) (h : zH) : Option (Option Nat × zH) :=
  (gI h l0 8 1).bind fun x1 =>
  if l2 < x1 then
    zgd (isO h l0 8) <|
    (f12 n l0 l2 h).bind fun p6 =>
    (f16 n p6.1 p6.2).bind fun p8 =>
    if p8.1 = 0 then
      if p6.1 = 39 then
        zgd (isO p8.2 l0 8) <|
        (f31 n l0 l2 p8.2).bind fun p13 =>
        some (p13.1, p13.2)
      else
        (f19 n p6.1 p8.2).bind fun p15 =>
        if p15.1 = 0 then
          if p6.1 = 45 then
            zgd (isO p15.2 l0 8) <|
            (f12 n l0 (l2 + 1) p15.2).bind fun p20 =>
            if p20.1 = 62 then
              b11_113 n  l0 l1 l2 p6.1 p20.2
            else
              b11_107 n  l0 l1 l2 p6.1 p20.2
          else
            b11_113 n  l0 l1 l2 p6.1 p15.2
        else
          b11_107 n  l0 l1 l2 p6.1 p15.2
    else
      zgd (isO p8.2 l0 8) <|
      (f17 n l0 l2 p8.2).bind fun p24 =>
      some (p24.1, p24.2)
  else
    (f15 n h.1.length (some 1) l2 l2 (some 49) 0 (nO h 9 6)).bind fun p26 =>
    some ((some h.1.length), p26.2)
set_option maxRecDepth 20000 in
theorem tb11_27 {d n : Nat} {Q : zRs → zH → Prop}   {l0 : Nat} {l1 : Int32} {l2 : Int32}  {x3 : Option Value} (hd : 7 ≤ d)   {h : zH} {p : (Option Nat × zH)} (hx3 : zn2 x3 = true) (hF : b11_27 n   l0 l1 l2 h = some p) (q : Q (eA p.1) p.2) : zW d 11 27 [some (.ref l0), some (.int l1), some (.int l2), x3] [] h Q := by
  unfold b11_27 at hF
  obtain ⟨d, rfl⟩ : ∃ e, d = e + 1 := ⟨d - 1, by omega⟩
  refine zx_iload_n rfl rfl rfl ?_
  refine zx_aload_n rfl rfl rfl ?_
  replace hF := zbnd hF
  obtain ⟨x1, e2, hF⟩ := hF
  refine zy_getI rfl rfl e2 ?_
  refine zx_ic_lt rfl rfl (fun c3 => ?_) (fun c3 => ?_)
  · rw [if_pos c3] at hF
    refine zx_aload_n rfl rfl rfl ?_
    refine zx_iload_n rfl rfl rfl ?_
    replace hF := zgd_some hF
    obtain ⟨g4, hF⟩ := hF
    replace hF := zbnd hF
    obtain ⟨p6, e5, hF⟩ := hF
    refine zx_callE rfl rfl rfl rfl (zrcv_isO g4) rfl rfl (zc4 (Nat.le_of_ble_eq_true rfl)) (t12 (by omega) e5 (zaI ?_))
    refine zx_istore_n rfl rfl rfl ?_
    refine zx_iload_n rfl rfl rfl ?_
    replace hF := zbnd hF
    obtain ⟨p8, e7, hF⟩ := hF
    refine zx_callE rfl rfl rfl rfl rfl rfl rfl (zc4 (Nat.le_of_ble_eq_true rfl)) (t16 (by omega) e7 (zaI ?_))
    refine zx_if_eq rfl rfl (fun c9 => ?_) (fun c9 => ?_)
    · rw [if_pos c9] at hF
      refine zx_iload_n rfl rfl rfl ?_
      refine zx_bipush (v := 39) rfl rfl rfl ?_
      refine zx_ic_ne rfl rfl (fun c10 => ?_) (fun c10 => ?_)
      · rw [if_neg c10] at hF
        refine zx_iload_n rfl rfl rfl ?_
        replace hF := zbnd hF
        obtain ⟨p15, e14, hF⟩ := hF
        refine zx_callE rfl rfl rfl rfl rfl rfl rfl (zc4 (Nat.le_of_ble_eq_true rfl)) (t19 (by omega) e14 (zaI ?_))
        refine zx_if_ne rfl rfl (fun c16 => ?_) (fun c16 => ?_)
        · rw [if_neg c16] at hF
          exact tb11_107 (l0 := l0) (l1 := l1) (l2 := l2) (l3 := p6.1) hd   hF q
        · rw [if_pos c16] at hF
          refine zx_iload_n rfl rfl rfl ?_
          refine zx_bipush (v := 45) rfl rfl rfl ?_
          refine zx_ic_ne rfl rfl (fun c17 => ?_) (fun c17 => ?_)
          · rw [if_neg c17] at hF
            exact tb11_113 (l0 := l0) (l1 := l1) (l2 := l2) (l3 := p6.1) hd   hF q
          · rw [if_pos c17] at hF
            refine zx_aload_n rfl rfl rfl ?_
            refine zx_iload_n rfl rfl rfl ?_
            refine zx_iconst (v := 1) rfl rfl rfl ?_
            refine zx_iadd rfl rfl ?_
            replace hF := zgd_some hF
            obtain ⟨g18, hF⟩ := hF
            replace hF := zbnd hF
            obtain ⟨p20, e19, hF⟩ := hF
            refine zx_callE rfl rfl rfl rfl (zrcv_isO g18) rfl rfl (zc4 (Nat.le_of_ble_eq_true rfl)) (t12 (by omega) e19 (zaI ?_))
            refine zx_bipush (v := 62) rfl rfl rfl ?_
            refine zx_ic_eq rfl rfl (fun c21 => ?_) (fun c21 => ?_)
            · rw [if_pos c21] at hF
              exact tb11_113 (l0 := l0) (l1 := l1) (l2 := l2) (l3 := p6.1) hd   hF q
            · rw [if_neg c21] at hF
              exact tb11_107 (l0 := l0) (l1 := l1) (l2 := l2) (l3 := p6.1) hd   hF q
      · rw [if_pos c10] at hF
        refine zx_aload_n rfl rfl rfl ?_
        refine zx_iload_n rfl rfl rfl ?_
        replace hF := zgd_some hF
        obtain ⟨g11, hF⟩ := hF
        replace hF := zbnd hF
        obtain ⟨p13, e12, hF⟩ := hF
        refine zx_callE rfl rfl rfl rfl (zrcv_isO g11) rfl rfl (zc4 (Nat.le_of_ble_eq_true rfl)) (t31 (by omega) e12 (zaA ?_))
        replace hF := Option.some.inj hF
        subst hF
        exact zy_areturn (r := p13.1) rfl rfl rfl rfl q
    · rw [if_neg c9] at hF
      refine zx_aload_n rfl rfl rfl ?_
      refine zx_iload_n rfl rfl rfl ?_
      replace hF := zgd_some hF
      obtain ⟨g22, hF⟩ := hF
      replace hF := zbnd hF
      obtain ⟨p24, e23, hF⟩ := hF
      refine zx_callE rfl rfl rfl rfl (zrcv_isO g22) rfl rfl (zc4 (Nat.le_of_ble_eq_true rfl)) (t17 (by omega) e23 (zaA ?_))
      replace hF := Option.some.inj hF
      subst hF
      exact zy_areturn (r := p24.1) rfl rfl rfl rfl q
  · rw [if_neg c3] at hF
    refine zy_new rfl rfl ?_
    refine zx_dup rfl rfl rfl ?_
    refine zx_gets rfl rfl rfl ?_
    refine zx_iload_n rfl rfl rfl ?_
    refine zx_iload_n rfl rfl rfl ?_
    refine zx_ldc rfl rfl rfl ?_
    refine zx_iconst (v := 0) rfl rfl rfl ?_
    replace hF := zbnd hF
    obtain ⟨p26, e25, hF⟩ := hF
    refine zx_callF rfl rfl rfl rfl rfl rfl rfl (zc4 (Nat.le_of_ble_eq_true rfl)) (t15 (by omega) e25 (zaV ?_))
    replace hF := Option.some.inj hF
    subst hF
    exact zy_areturn (r := (some h.1.length)) rfl rfl rfl rfl q
def b11_2 (n : Nat)  (r2 : Nat → Int32 → Int32 → zH → Option (Option Nat × zH)) (l0 : Nat) (l1 : Int32) (l2 : Int32) (h : zH) : Option (Option Nat × zH) :=
  (gI h l0 8 1).bind fun x1 =>
  if x1 ≤ l2 then
    b11_27 n  l0 l1 l2 h
  else
    zgd (isO h l0 8) <|
    (f12 n l0 l2 h).bind fun p6 =>
    (f14 n p6.1 p6.2).bind fun p8 =>
    if p8.1 = 0 then
      b11_27 n  l0 l1 l2 p8.2
    else
      r2 l0 l1 (l2 + 1) p8.2
set_option maxRecDepth 20000 in
theorem tb11_2 {d n : Nat} {Q : zRs → zH → Prop}  {r2 : Nat → Int32 → Int32 → zH → Option (Option Nat × zH)} {l0 : Nat} {l1 : Int32} {l2 : Int32}  {x3 : Option Value} (hd : 7 ≤ d)  (hr2 : ∀ {l0 : Nat} {l1 : Int32} {l2 : Int32}  {x3 : Option Value} {h : zH} {p : (Option Nat × zH)}, zn2 x3 = true → r2 l0 l1 l2 h = some p → Q (eA p.1) p.2 → zW d 11 2 [some (.ref l0), some (.int l1), some (.int l2), x3] [] h Q) {h : zH} {p : (Option Nat × zH)} (hx3 : zn2 x3 = true) (hF : b11_2 n  r2 l0 l1 l2 h = some p) (q : Q (eA p.1) p.2) : zW d 11 2 [some (.ref l0), some (.int l1), some (.int l2), x3] [] h Q := by
  unfold b11_2 at hF
  obtain ⟨d, rfl⟩ : ∃ e, d = e + 1 := ⟨d - 1, by omega⟩
  refine zx_iload_n rfl rfl rfl ?_
  refine zx_aload_n rfl rfl rfl ?_
  replace hF := zbnd hF
  obtain ⟨x1, e2, hF⟩ := hF
  refine zy_getI rfl rfl e2 ?_
  refine zx_ic_ge rfl rfl (fun c3 => ?_) (fun c3 => ?_)
  · rw [if_pos c3] at hF
    exact tb11_27 (l0 := l0) (l1 := l1) (l2 := l2) hd  hx3 hF q
  · rw [if_neg c3] at hF
    refine zx_aload_n rfl rfl rfl ?_
    refine zx_iload_n rfl rfl rfl ?_
    replace hF := zgd_some hF
    obtain ⟨g4, hF⟩ := hF
    replace hF := zbnd hF
    obtain ⟨p6, e5, hF⟩ := hF
    refine zx_callE rfl rfl rfl rfl (zrcv_isO g4) rfl rfl (zc4 (Nat.le_of_ble_eq_true rfl)) (t12 (by omega) e5 (zaI ?_))
    replace hF := zbnd hF
    obtain ⟨p8, e7, hF⟩ := hF
    refine zx_callE rfl rfl rfl rfl rfl rfl rfl (zc4 (Nat.le_of_ble_eq_true rfl)) (t14 (by omega) e7 (zaI ?_))
    refine zx_if_eq rfl rfl (fun c9 => ?_) (fun c9 => ?_)
    · rw [if_pos c9] at hF
      exact tb11_27 (l0 := l0) (l1 := l1) (l2 := l2) hd  hx3 hF q
    · rw [if_neg c9] at hF
      refine zx_iinc (w := 1) rfl rfl rfl rfl rfl ?_
      refine zx_goto rfl rfl ?_
      exact hr2 hx3 hF q
def f11_2 (n : Nat)   (k : Nat) : Nat → Int32 → Int32 → zH → Option (Option Nat × zH) := Nat.rec (fun _ _ _ _ => none) (fun _ ih => b11_2 n  ih) k
theorem tf11_2 {d n : Nat} {Q : zRs → zH → Prop}   (hd : 7 ≤ d)   (k : Nat) : ∀ {l0 : Nat} {l1 : Int32} {l2 : Int32}  {x3 : Option Value} {h : zH} {p : (Option Nat × zH)}, zn2 x3 = true → f11_2 n   k l0 l1 l2 h = some p → Q (eA p.1) p.2 → zW d 11 2 [some (.ref l0), some (.int l1), some (.int l2), x3] [] h Q := by
  induction k with
  | zero => intros; rename_i hF _; cases hF
  | succ k ih => intros; rename_i hx3 hF q; exact tb11_2 (n := n) hd  ih hx3 hF q
def f11 (n : Nat)  (y0 : Nat) (y1 : Int32) (h : zH) : Option (Option Nat × zH) :=
  f11_2 n  n y0 y1 y1 h
set_option maxRecDepth 20000 in
theorem t11 {d n : Nat} {Q : zRs → zH → Prop}  {y0 : Nat} {y1 : Int32} (hd : 7 ≤ d)  {h : zH} {p : (Option Nat × zH)} (hF : f11 n  y0 y1 h = some p) (q : Q (eA p.1) p.2) : zC d 11 [.ref y0, .int y1] h Q := by
  refine zC_of (L := [some (.ref y0), some (.int y1), none, none]) rfl rfl ?_
  unfold f11 at hF
  obtain ⟨d, rfl⟩ : ∃ e, d = e + 1 := ⟨d - 1, by omega⟩
  refine zx_iload_n rfl rfl rfl ?_
  refine zx_istore_n rfl rfl rfl ?_
  exact tf11_2 hd  n (l0 := y0) (l1 := y1) (l2 := y1) rfl hF q
def b10_62 (n : Nat)   (l0 : Nat) (l1 : Option Nat) (l2 : Option Nat) (l3 : Int32) (h : zH) : Option (Option Nat × zH) :=
  (pF h l0 8 1 (.int 0)).bind fun h1 =>
  some (l1, h1)
set_option maxRecDepth 20000 in
theorem tb10_62 {d n : Nat} {Q : zRs → zH → Prop}   {l0 : Nat} {l1 : Option Nat} {l2 : Option Nat} {l3 : Int32}  {x4 : Option Value} (hd : 8 ≤ d)   {h : zH} {p : (Option Nat × zH)} (hx4 : zn2 x4 = true) (hF : b10_62 n   l0 l1 l2 l3 h = some p) (q : Q (eA p.1) p.2) : zW d 10 62 [some (.ref l0), some (va_rf l1), some (va_rf l2), some (.int l3), x4] [] h Q := by
  unfold b10_62 at hF
  obtain ⟨d, rfl⟩ : ∃ e, d = e + 1 := ⟨d - 1, by omega⟩
  refine zx_aload_n rfl rfl rfl ?_
  refine zx_iconst (v := 0) rfl rfl rfl ?_
  replace hF := zbnd hF
  obtain ⟨h1, e2, hF⟩ := hF
  refine zy_put rfl rfl e2 ?_
  refine zy_rload_n rfl rfl rfl ?_
  replace hF := Option.some.inj hF
  subst hF
  exact zy_areturn (r := l1) rfl rfl rfl rfl q
def b10_10 (n : Nat)  (r10 : Nat → Option Nat → Option Nat → Int32 → zH → Option (Option Nat × zH)) (l0 : Nat) (l1 : Option Nat) (l2 : Option Nat) (l3 : Int32) (h : zH) : Option (Option Nat × zH) :=
  if (6000 : Int32) ≤ l3 then
    b10_62 n  l0 l1 l2 l3 h
  else
    l2.bind fun a2 =>
    (gR h a2 9 0).bind fun x3 =>
    (rEq x3 (some 1)).bind fun b5 =>
    if b5 = true then
      b10_62 n  l0 l1 (some a2) l3 h
    else
      (gR h a2 9 0).bind fun x8 =>
      (rEq x8 (some 2)).bind fun b10 =>
      if b10 = true then
        b10_62 n  l0 l1 (some a2) l3 h
      else
        (gI h a2 9 2).bind fun x13 =>
        zgd (isO h l0 8) <|
        (f11 n l0 x13 h).bind fun p17 =>
        (pF p17.2 a2 9 5 (va_rf p17.1)).bind fun h18 =>
        r10 l0 l1 p17.1 (l3 + 1) h18
set_option maxRecDepth 20000 in
theorem tb10_10 {d n : Nat} {Q : zRs → zH → Prop}  {r10 : Nat → Option Nat → Option Nat → Int32 → zH → Option (Option Nat × zH)} {l0 : Nat} {l1 : Option Nat} {l2 : Option Nat} {l3 : Int32}  {x4 : Option Value} (hd : 8 ≤ d)  (hr10 : ∀ {l0 : Nat} {l1 : Option Nat} {l2 : Option Nat} {l3 : Int32}  {x4 : Option Value} {h : zH} {p : (Option Nat × zH)}, zn2 x4 = true → r10 l0 l1 l2 l3 h = some p → Q (eA p.1) p.2 → zW d 10 10 [some (.ref l0), some (va_rf l1), some (va_rf l2), some (.int l3), x4] [] h Q) {h : zH} {p : (Option Nat × zH)} (hx4 : zn2 x4 = true) (hF : b10_10 n  r10 l0 l1 l2 l3 h = some p) (q : Q (eA p.1) p.2) : zW d 10 10 [some (.ref l0), some (va_rf l1), some (va_rf l2), some (.int l3), x4] [] h Q := by
  unfold b10_10 at hF
  obtain ⟨d, rfl⟩ : ∃ e, d = e + 1 := ⟨d - 1, by omega⟩
  refine zx_iload_n rfl rfl rfl ?_
  refine zx_sipush (v := 6000) rfl rfl rfl ?_
  refine zx_ic_ge rfl rfl (fun c1 => ?_) (fun c1 => ?_)
  · rw [if_pos c1] at hF
    exact tb10_62 (l0 := l0) (l1 := l1) (l2 := l2) (l3 := l3) hd  hx4 hF q
  · rw [if_neg c1] at hF
    refine zy_rload_n rfl rfl rfl ?_
    replace hF := zbnd hF
    obtain ⟨a2, rfl, hF⟩ := hF
    replace hF := zbnd hF
    obtain ⟨x3, e4, hF⟩ := hF
    refine zy_getR rfl rfl e4 ?_
    refine zx_gets rfl rfl rfl ?_
    replace hF := zbnd hF
    obtain ⟨b5, e6, hF⟩ := hF
    refine zy_aeq rfl rfl e6 (fun c7 => ?_) (fun c7 => ?_)
    · rw [if_pos c7] at hF
      exact tb10_62 (l0 := l0) (l1 := l1) (l2 := (some a2)) (l3 := l3) hd  hx4 hF q
    · rw [if_neg (by rw [c7]; exact Bool.false_ne_true)] at hF
      refine zx_aload_n rfl rfl rfl ?_
      replace hF := zbnd hF
      obtain ⟨x8, e9, hF⟩ := hF
      refine zy_getR rfl rfl e9 ?_
      refine zx_gets rfl rfl rfl ?_
      replace hF := zbnd hF
      obtain ⟨b10, e11, hF⟩ := hF
      refine zy_aeq rfl rfl e11 (fun c12 => ?_) (fun c12 => ?_)
      · rw [if_pos c12] at hF
        exact tb10_62 (l0 := l0) (l1 := l1) (l2 := (some a2)) (l3 := l3) hd  hx4 hF q
      · rw [if_neg (by rw [c12]; exact Bool.false_ne_true)] at hF
        refine zx_aload_n rfl rfl rfl ?_
        refine zx_aload_n rfl rfl rfl ?_
        replace hF := zbnd hF
        obtain ⟨x13, e14, hF⟩ := hF
        refine zy_getI rfl rfl e14 ?_
        replace hF := zgd_some hF
        obtain ⟨g15, hF⟩ := hF
        replace hF := zbnd hF
        obtain ⟨p17, e16, hF⟩ := hF
        refine zx_callE rfl rfl rfl rfl (zrcv_isO g15) rfl rfl (zc4 (Nat.le_of_ble_eq_true rfl)) (t11 (by omega) e16 (zaA ?_))
        refine zy_rstore rfl rfl rfl ?_
        refine zx_aload_n rfl rfl rfl ?_
        refine zy_rload rfl rfl rfl ?_
        replace hF := zbnd hF
        obtain ⟨h18, e19, hF⟩ := hF
        refine zy_put rfl rfl e19 ?_
        refine zy_rload rfl rfl rfl ?_
        refine zy_rstore_n rfl rfl (zput_ok (L' := [some (.ref l0), some (va_rf l1), some (va_rf p17.1), some (.int l3), some (va_rf p17.1)]) rfl (zcl_X (j := 1) rfl (zn2_rf _)) rfl) ?_
        refine zx_iinc (w := 1) rfl rfl rfl rfl (zput_ok (L' := [some (.ref l0), some (va_rf l1), some (va_rf p17.1), some (.int (l3 + 1)), some (va_rf p17.1)]) rfl (zcl_X (j := 2) rfl (zn2_rf _)) rfl) ?_
        refine zx_goto rfl rfl ?_
        exact hr10 (zn2_rf _) hF q
def f10_10 (n : Nat)   (k : Nat) : Nat → Option Nat → Option Nat → Int32 → zH → Option (Option Nat × zH) := Nat.rec (fun _ _ _ _ _ => none) (fun _ ih => b10_10 n  ih) k
theorem tf10_10 {d n : Nat} {Q : zRs → zH → Prop}   (hd : 8 ≤ d)   (k : Nat) : ∀ {l0 : Nat} {l1 : Option Nat} {l2 : Option Nat} {l3 : Int32}  {x4 : Option Value} {h : zH} {p : (Option Nat × zH)}, zn2 x4 = true → f10_10 n   k l0 l1 l2 l3 h = some p → Q (eA p.1) p.2 → zW d 10 10 [some (.ref l0), some (va_rf l1), some (va_rf l2), some (.int l3), x4] [] h Q := by
  induction k with
  | zero => intros; rename_i hF _; cases hF
  | succ k ih => intros; rename_i hx4 hF q; exact tb10_10 (n := n) hd  ih hx4 hF q
def f10 (n : Nat)  (y0 : Nat) (h : zH) : Option (Option Nat × zH) :=
  zgd (isO h y0 8) <|
  (f11 n y0 0 h).bind fun p3 =>
  f10_10 n  n y0 p3.1 p3.1 0 p3.2
set_option maxRecDepth 20000 in
theorem t10 {d n : Nat} {Q : zRs → zH → Prop}  {y0 : Nat} (hd : 8 ≤ d)  {h : zH} {p : (Option Nat × zH)} (hF : f10 n  y0 h = some p) (q : Q (eA p.1) p.2) : zC d 10 [.ref y0] h Q := by
  refine zC_of (L := [some (.ref y0), none, none, none, none]) rfl rfl ?_
  unfold f10 at hF
  obtain ⟨d, rfl⟩ : ∃ e, d = e + 1 := ⟨d - 1, by omega⟩
  refine zx_aload_n rfl rfl rfl ?_
  refine zx_iconst (v := 0) rfl rfl rfl ?_
  replace hF := zgd_some hF
  obtain ⟨g1, hF⟩ := hF
  replace hF := zbnd hF
  obtain ⟨p3, e2, hF⟩ := hF
  refine zx_callE rfl rfl rfl rfl (zrcv_isO g1) rfl rfl (zc4 (Nat.le_of_ble_eq_true rfl)) (t11 (by omega) e2 (zaA ?_))
  refine zy_rstore_n rfl rfl rfl ?_
  refine zy_rload_n rfl rfl rfl ?_
  refine zy_rstore_n rfl rfl (zput_ok (L' := [some (.ref y0), some (va_rf p3.1), some (va_rf p3.1), none, none]) rfl (zcl_X (j := 1) rfl (zn2_rf _)) rfl) ?_
  refine zx_iconst (v := 0) rfl rfl rfl ?_
  refine zx_istore_n rfl rfl (zput_ok (L' := [some (.ref y0), some (va_rf p3.1), some (va_rf p3.1), some (.int 0), none]) rfl (zcl_X (j := 2) rfl (zn2_rf _)) rfl) ?_
  exact tf10_10 hd  n (l0 := y0) (l1 := p3.1) (l2 := p3.1) (l3 := 0) rfl hF q
def f64 (n : Nat)  (y0 : Nat) (y1 : Option Nat) (h : zH) : Option (Unit × zH) :=
  (f5 n h.1.length (nO h 4 12)).bind fun p2 =>
  (pF p2.2 y0 5 0 (.ref h.1.length)).bind fun h3 =>
  (pF h3 y0 5 1 (.int 0)).bind fun h5 =>
  (pF h5 y0 5 2 (.int 0)).bind fun h7 =>
  (pF h7 y0 5 3 (va_rf y1)).bind fun h9 =>
  some ((), h9)
set_option maxRecDepth 20000 in
theorem t64 {d n : Nat} {Q : zRs → zH → Prop}  {y0 : Nat} {y1 : Option Nat} (hd : 4 ≤ d)  {h : zH} {p : (Unit × zH)} (hF : f64 n  y0 y1 h = some p) (q : Q (eV p.1) p.2) : zC d 64 [.ref y0, va_rf y1] h Q := by
  refine zC_of (L := [some (.ref y0), some (va_rf y1)]) (congrArg (List.cons _) ((zsl_rf _ _).trans (congrArg (List.cons _) rfl))) rfl ?_
  unfold f64 at hF
  obtain ⟨d, rfl⟩ : ∃ e, d = e + 1 := ⟨d - 1, by omega⟩
  refine zx_aload_n rfl rfl rfl ?_
  refine zw_obj rfl rfl rfl (Nat.ble_eq_true_of_le (Nat.le_trans (zcat_le _) (Nat.le_of_ble_eq_true rfl))) ?_
  refine zx_aload_n rfl rfl rfl ?_
  refine zy_new rfl rfl ?_
  refine zx_dup rfl rfl rfl ?_
  replace hF := zbnd hF
  obtain ⟨p2, e1, hF⟩ := hF
  refine zx_callF rfl rfl rfl rfl rfl rfl rfl (zc4 (Nat.le_of_ble_eq_true rfl)) (t5 (by omega) e1 (zaV ?_))
  replace hF := zbnd hF
  obtain ⟨h3, e4, hF⟩ := hF
  refine zy_put rfl rfl e4 ?_
  refine zx_aload_n rfl rfl rfl ?_
  refine zx_iconst (v := 0) rfl rfl rfl ?_
  replace hF := zbnd hF
  obtain ⟨h5, e6, hF⟩ := hF
  refine zy_put rfl rfl e6 ?_
  refine zx_aload_n rfl rfl rfl ?_
  refine zx_iconst (v := 0) rfl rfl rfl ?_
  replace hF := zbnd hF
  obtain ⟨h7, e8, hF⟩ := hF
  refine zy_put rfl rfl e8 ?_
  refine zx_aload_n rfl rfl rfl ?_
  refine zy_rload_n rfl rfl rfl ?_
  replace hF := zbnd hF
  obtain ⟨h9, e10, hF⟩ := hF
  refine zy_put rfl rfl e10 ?_
  replace hF := Option.some.inj hF
  subst hF
  exact zx_return rfl rfl rfl q
def f66 (n : Nat)  (y0 : Nat) (h : zH) : Option (Int32 × zH) :=
  (gI h y0 15 0).bind fun x1 =>
  some (x1, h)
set_option maxRecDepth 20000 in
theorem t66 {d n : Nat} {Q : zRs → zH → Prop}  {y0 : Nat} (hd : 0 ≤ d)  {h : zH} {p : (Int32 × zH)} (hF : f66 n  y0 h = some p) (q : Q (eI p.1) p.2) : zC d 66 [.ref y0] h Q := by
  refine zC_of (L := [some (.ref y0)]) rfl rfl ?_
  unfold f66 at hF
  refine zx_aload_n rfl rfl rfl ?_
  replace hF := zbnd hF
  obtain ⟨x1, e2, hF⟩ := hF
  refine zy_getI rfl rfl e2 ?_
  replace hF := Option.some.inj hF
  subst hF
  exact zx_bret rfl rfl rfl rfl q
def f68 (n : Nat)  (y0 : Nat) (h : zH) : Option (Int32 × zH) :=
  (gI h y0 14 2).bind fun x1 =>
  some (x1, h)
set_option maxRecDepth 20000 in
theorem t68 {d n : Nat} {Q : zRs → zH → Prop}  {y0 : Nat} (hd : 0 ≤ d)  {h : zH} {p : (Int32 × zH)} (hF : f68 n  y0 h = some p) (q : Q (eI p.1) p.2) : zC d 68 [.ref y0] h Q := by
  refine zC_of (L := [some (.ref y0)]) rfl rfl ?_
  unfold f68 at hF
  refine zx_aload_n rfl rfl rfl ?_
  replace hF := zbnd hF
  obtain ⟨x1, e2, hF⟩ := hF
  refine zy_getI rfl rfl e2 ?_
  replace hF := Option.some.inj hF
  subst hF
  exact zx_bret rfl rfl rfl rfl q
def b70_16 (n : Nat)   (l0 : Nat) (l1 : Int32) (l2 : Option Nat) (s0 : Int32) (s1 : Nat) (h : zH) : Option ((Unit ⊕ Nat) × zH) :=
  (pF h s1 5 1 (.int s0)).bind fun h1 =>
  l2.bind fun a3 =>
  (gI h1 a3 9 1).bind fun x4 =>
  (pF h1 l0 5 2 (.int x4)).bind fun h6 =>
  some (.inr 18, thH h6)
set_option maxRecDepth 20000 in
theorem tb70_16 {d n : Nat} {Q : zRs → zH → Prop}   {l0 : Nat} {l1 : Int32} {l2 : Option Nat} {s0 : Int32} {s1 : Nat}  (hd : 0 ≤ d)   {h : zH} {p : ((Unit ⊕ Nat) × zH)}  (hF : b70_16 n   l0 l1 l2 s0 s1 h = some p) (q : Q (eVx p.1) p.2) : zW d 70 16 [some (.ref l0), some (.int l1), some (va_rf l2)] [.int s0, .ref s1] h Q := by
  unfold b70_16 at hF
  replace hF := zbnd hF
  obtain ⟨h1, e2, hF⟩ := hF
  refine zy_put rfl rfl e2 ?_
  refine zx_aload_n rfl rfl rfl ?_
  refine zy_rload_n rfl rfl rfl ?_
  replace hF := zbnd hF
  obtain ⟨a3, rfl, hF⟩ := hF
  replace hF := zbnd hF
  obtain ⟨x4, e5, hF⟩ := hF
  refine zy_getI rfl rfl e5 ?_
  replace hF := zbnd hF
  obtain ⟨h6, e7, hF⟩ := hF
  refine zy_put rfl rfl e7 ?_
  replace hF := Option.some.inj hF
  subst hF
  exact zw_throw rfl q
def f70 (n : Nat)  (y0 : Nat) (y1 : Int32) (y2 : Option Nat) (h : zH) : Option ((Unit ⊕ Nat) × zH) :=
  y2.bind fun a1 =>
  (gR h a1 9 0).bind fun x2 =>
  (rEq x2 (some 2)).bind fun b4 =>
  if b4 = true then
    b70_16 n  y0 y1 (some a1) 1 y0 h
  else
    b70_16 n  y0 y1 (some a1) y1 y0 h
set_option maxRecDepth 20000 in
theorem t70 {d n : Nat} {Q : zRs → zH → Prop}  {y0 : Nat} {y1 : Int32} {y2 : Option Nat} (hd : 0 ≤ d)  {h : zH} {p : ((Unit ⊕ Nat) × zH)} (hF : f70 n  y0 y1 y2 h = some p) (q : Q (eVx p.1) p.2) : zC d 70 [.ref y0, .int y1, va_rf y2] h Q := by
  refine zC_of (L := [some (.ref y0), some (.int y1), some (va_rf y2)]) (congrArg (List.cons _) (congrArg (List.cons _) ((zsl_rf _ _).trans (congrArg (List.cons _) rfl)))) rfl ?_
  unfold f70 at hF
  refine zx_aload_n rfl rfl rfl ?_
  refine zy_rload_n rfl rfl rfl ?_
  replace hF := zbnd hF
  obtain ⟨a1, rfl, hF⟩ := hF
  replace hF := zbnd hF
  obtain ⟨x2, e3, hF⟩ := hF
  refine zy_getR rfl rfl e3 ?_
  refine zx_gets rfl rfl rfl ?_
  replace hF := zbnd hF
  obtain ⟨b4, e5, hF⟩ := hF
  refine zy_ane rfl rfl e5 (fun c6 => ?_) (fun c6 => ?_)
  · rw [if_neg (by rw [c6]; exact Bool.false_ne_true)] at hF
    refine zx_iload_n rfl rfl rfl ?_
    exact tb70_16 (l0 := y0) (l1 := y1) (l2 := (some a1)) (s0 := y1) (s1 := y0) hd   hF q
  · rw [if_pos c6] at hF
    refine zx_iconst (v := 1) rfl rfl rfl ?_
    refine zx_goto rfl rfl ?_
    exact tb70_16 (l0 := y0) (l1 := y1) (l2 := (some a1)) (s0 := 1) (s1 := y0) hd   hF q
def b71_19 (n : Nat)   (l0 : Nat) (l1 : Option Nat) (l2 : Option Nat) (h : zH) : Option ((Option Nat ⊕ Nat) × zH) :=
  l2.bind fun a1 =>
  (gR h a1 9 5).bind fun x2 =>
  match x2 with
  | none =>
    some (.inl (some a1), h)
  | some a4 =>
    (gR h a1 9 5).bind fun x5 =>
    (pF h l0 5 3 (va_rf x5)).bind fun h7 =>
    some (.inl (some a1), h7)
set_option maxRecDepth 20000 in
theorem tb71_19 {d n : Nat} {Q : zRs → zH → Prop}   {l0 : Nat} {l1 : Option Nat} {l2 : Option Nat}   (hd : 1 ≤ d)   {h : zH} {p : ((Option Nat ⊕ Nat) × zH)}  (hF : b71_19 n   l0 l1 l2 h = some p) (q : Q (eAx p.1) p.2) : zW d 71 19 [some (.ref l0), some (va_rf l1), some (va_rf l2)] [] h Q := by
  unfold b71_19 at hF
  obtain ⟨d, rfl⟩ : ∃ e, d = e + 1 := ⟨d - 1, by omega⟩
  refine zy_rload_n rfl rfl rfl ?_
  replace hF := zbnd hF
  obtain ⟨a1, rfl, hF⟩ := hF
  replace hF := zbnd hF
  obtain ⟨x2, e3, hF⟩ := hF
  refine zy_getR rfl rfl e3 ?_
  cases x2 with
  | none =>
    dsimp only at hF
    refine zx_ifnullN rfl rfl ?_
    refine zx_aload_n rfl rfl rfl ?_
    replace hF := Option.some.inj hF
    subst hF
    exact zy_areturn (r := (some a1)) rfl rfl rfl rfl q
  | some a4 =>
    dsimp only at hF
    refine zx_ifnull rfl rfl ?_
    refine zx_aload_n rfl rfl rfl ?_
    refine zx_aload_n rfl rfl rfl ?_
    replace hF := zbnd hF
    obtain ⟨x5, e6, hF⟩ := hF
    refine zy_getR rfl rfl e6 ?_
    replace hF := zbnd hF
    obtain ⟨h7, e8, hF⟩ := hF
    refine zy_put rfl rfl e8 ?_
    refine zx_aload_n rfl rfl rfl ?_
    replace hF := Option.some.inj hF
    subst hF
    exact zy_areturn (r := (some a1)) rfl rfl rfl rfl q
def f71 (n : Nat)  (y0 : Nat) (y1 : Option Nat) (h : zH) : Option ((Option Nat ⊕ Nat) × zH) :=
  (gR h y0 5 3).bind fun x1 =>
  x1.bind fun a3 =>
  (gR h a3 9 0).bind fun x4 =>
  (rEq x4 y1).bind fun b6 =>
  if b6 = true then
    b71_19 n  y0 y1 (some a3) h
  else
    zgd (isO h y0 5) <|
    (f70 n y0 2 (some a3) h).bind fun p14 => zth p14 (fun r11 h12 =>
      b71_19 n  y0 y1 (some a3) h12)
      (fun x13 h12 =>
      zgd (exOk x13) <| some (.inr x13, h12))
set_option maxRecDepth 20000 in
theorem t71 {d n : Nat} {Q : zRs → zH → Prop}  {y0 : Nat} {y1 : Option Nat} (hd : 1 ≤ d)  {h : zH} {p : ((Option Nat ⊕ Nat) × zH)} (hF : f71 n  y0 y1 h = some p) (q : Q (eAx p.1) p.2) : zC d 71 [.ref y0, va_rf y1] h Q := by
  refine zC_of (L := [some (.ref y0), some (va_rf y1), none]) (congrArg (List.cons _) ((zsl_rf _ _).trans (congrArg (List.cons _) rfl))) rfl ?_
  unfold f71 at hF
  obtain ⟨d, rfl⟩ : ∃ e, d = e + 1 := ⟨d - 1, by omega⟩
  refine zx_aload_n rfl rfl rfl ?_
  replace hF := zbnd hF
  obtain ⟨x1, e2, hF⟩ := hF
  refine zy_getR rfl rfl e2 ?_
  refine zy_rstore_n rfl rfl (zput_ok (L' := [some (.ref y0), some (va_rf y1), some (va_rf x1)]) rfl (zcl_X (j := 1) rfl (zn2_rf _)) rfl) ?_
  refine zy_rload_n rfl rfl rfl ?_
  replace hF := zbnd hF
  obtain ⟨a3, rfl, hF⟩ := hF
  replace hF := zbnd hF
  obtain ⟨x4, e5, hF⟩ := hF
  refine zy_getR rfl rfl e5 ?_
  refine zy_rload_n rfl rfl rfl ?_
  replace hF := zbnd hF
  obtain ⟨b6, e7, hF⟩ := hF
  refine zy_aeq rfl rfl e7 (fun c8 => ?_) (fun c8 => ?_)
  · rw [if_pos c8] at hF
    exact tb71_19 (l0 := y0) (l1 := y1) (l2 := (some a3)) hd   hF q
  · rw [if_neg (by rw [c8]; exact Bool.false_ne_true)] at hF
    refine zx_aload_n rfl rfl rfl ?_
    refine zx_iconst (v := 2) rfl rfl rfl ?_
    refine zx_aload_n rfl rfl rfl ?_
    replace hF := zgd_some hF
    obtain ⟨g9, hF⟩ := hF
    replace hF := zbnd hF
    obtain ⟨⟨r11, h12⟩, e10, hF⟩ := hF
    refine zx_callE rfl rfl rfl rfl (zrcv_isO g9) rfl rfl (zc4 (Nat.le_of_ble_eq_true rfl)) (t70 (by omega) e10 ?_)
    rcases r11 with r11 | x13
    rotate_left 1
    · replace hF := zthH hF
      replace hF := zgd_some hF
      obtain ⟨gx, hF⟩ := hF
      replace hF := Option.some.inj hF
      subst hF
      exact zaX rfl gx q
    replace hF := zthG hF
    refine zaV (x := ()) ?_
    exact tb71_19 (l0 := y0) (l1 := y1) (l2 := (some a3)) hd   hF q
def b69_14 (n : Nat)   (l0 : Nat) (l1 : Int32) (l2 : Int32) (h : zH) : Option ((Unit ⊕ Nat) × zH) :=
  (gR h l0 5 3).bind fun x1 =>
  x1.bind fun a3 =>
  (gR h a3 9 0).bind fun x4 =>
  zgd (isO h l0 5) <|
  (f71 n l0 x4 h).bind fun p11 => zth p11 (fun r8 h9 =>
    some (.inl (), h9))
    (fun x10 h9 =>
    zgd (exOk x10) <| some (.inr x10, h9))
set_option maxRecDepth 20000 in
theorem tb69_14 {d n : Nat} {Q : zRs → zH → Prop}   {l0 : Nat} {l1 : Int32} {l2 : Int32}   (hd : 2 ≤ d)   {h : zH} {p : ((Unit ⊕ Nat) × zH)}  (hF : b69_14 n   l0 l1 l2 h = some p) (q : Q (eVx p.1) p.2) : zW d 69 14 [some (.ref l0), some (.int l1), some (.int l2)] [] h Q := by
  unfold b69_14 at hF
  obtain ⟨d, rfl⟩ : ∃ e, d = e + 1 := ⟨d - 1, by omega⟩
  refine zx_aload_n rfl rfl rfl ?_
  refine zx_aload_n rfl rfl rfl ?_
  replace hF := zbnd hF
  obtain ⟨x1, e2, hF⟩ := hF
  refine zy_getR rfl rfl e2 ?_
  replace hF := zbnd hF
  obtain ⟨a3, rfl, hF⟩ := hF
  replace hF := zbnd hF
  obtain ⟨x4, e5, hF⟩ := hF
  refine zy_getR rfl rfl e5 ?_
  replace hF := zgd_some hF
  obtain ⟨g6, hF⟩ := hF
  replace hF := zbnd hF
  obtain ⟨⟨r8, h9⟩, e7, hF⟩ := hF
  refine zx_callE rfl rfl rfl rfl (zrcv_isO g6) (congrArg (List.cons _) ((zsl_rf _ _).trans (congrArg (List.cons _) rfl))) rfl (zc4 (Nat.le_of_ble_eq_true rfl)) (t71 (by omega) e7 ?_)
  rcases r8 with r8 | x10
  rotate_left 1
  · replace hF := zthH hF
    replace hF := zgd_some hF
    obtain ⟨gx, hF⟩ := hF
    replace hF := Option.some.inj hF
    subst hF
    exact zaX rfl gx q
  replace hF := zthG hF
  refine zaA ?_
  refine zx_pop rfl rfl (zc1_rf _) ?_
  replace hF := Option.some.inj hF
  subst hF
  exact zx_return rfl rfl rfl q
def f69 (n : Nat)  (y0 : Nat) (y1 : Int32) (y2 : Int32) (h : zH) : Option ((Unit ⊕ Nat) × zH) :=
  if y1 < y2 then
    b69_14 n  y0 y1 y2 h
  else
    (gR h y0 5 3).bind fun x2 =>
    zgd (isO h y0 5) <|
    (f70 n y0 5 x2 h).bind fun p9 => zth p9 (fun r6 h7 =>
      b69_14 n  y0 y1 y2 h7)
      (fun x8 h7 =>
      zgd (exOk x8) <| some (.inr x8, h7))
set_option maxRecDepth 20000 in
theorem t69 {d n : Nat} {Q : zRs → zH → Prop}  {y0 : Nat} {y1 : Int32} {y2 : Int32} (hd : 2 ≤ d)  {h : zH} {p : ((Unit ⊕ Nat) × zH)} (hF : f69 n  y0 y1 y2 h = some p) (q : Q (eVx p.1) p.2) : zC d 69 [.ref y0, .int y1, .int y2] h Q := by
  refine zC_of (L := [some (.ref y0), some (.int y1), some (.int y2)]) rfl rfl ?_
  unfold f69 at hF
  obtain ⟨d, rfl⟩ : ∃ e, d = e + 1 := ⟨d - 1, by omega⟩
  refine zx_iload_n rfl rfl rfl ?_
  refine zx_iload_n rfl rfl rfl ?_
  refine zx_ic_lt rfl rfl (fun c1 => ?_) (fun c1 => ?_)
  · rw [if_pos c1] at hF
    exact tb69_14 (l0 := y0) (l1 := y1) (l2 := y2) hd   hF q
  · rw [if_neg c1] at hF
    refine zx_aload_n rfl rfl rfl ?_
    refine zx_iconst (v := 5) rfl rfl rfl ?_
    refine zx_aload_n rfl rfl rfl ?_
    replace hF := zbnd hF
    obtain ⟨x2, e3, hF⟩ := hF
    refine zy_getR rfl rfl e3 ?_
    replace hF := zgd_some hF
    obtain ⟨g4, hF⟩ := hF
    replace hF := zbnd hF
    obtain ⟨⟨r6, h7⟩, e5, hF⟩ := hF
    refine zx_callE rfl rfl rfl rfl (zrcv_isO g4) (congrArg (List.cons _) (congrArg (List.cons _) ((zsl_rf _ _).trans (congrArg (List.cons _) rfl)))) rfl (zc4 (Nat.le_of_ble_eq_true rfl)) (t70 (by omega) e5 ?_)
    rcases r6 with r6 | x8
    rotate_left 1
    · replace hF := zthH hF
      replace hF := zgd_some hF
      obtain ⟨gx, hF⟩ := hF
      replace hF := Option.some.inj hF
      subst hF
      exact zaX rfl gx q
    replace hF := zthG hF
    refine zaV (x := ()) ?_
    exact tb69_14 (l0 := y0) (l1 := y1) (l2 := y2) hd   hF q
def f75 (n : Nat)  (y0 : Int32) (y1 : Int32) (h : zH) : Option (Int32 × zH) :=
  (f63 n y0 y1 h).bind fun p2 =>
  some (p2.1, p2.2)
set_option maxRecDepth 20000 in
theorem t75 {d n : Nat} {Q : zRs → zH → Prop}  {y0 : Int32} {y1 : Int32} (hd : 1 ≤ d)  {h : zH} {p : (Int32 × zH)} (hF : f75 n  y0 y1 h = some p) (q : Q (eI p.1) p.2) : zC d 75 [.int y0, .int y1] h Q := by
  refine zC_of (L := [some (.int y0), some (.int y1)]) rfl rfl ?_
  unfold f75 at hF
  obtain ⟨d, rfl⟩ : ∃ e, d = e + 1 := ⟨d - 1, by omega⟩
  refine zx_iload_n rfl rfl rfl ?_
  refine zx_iload_n rfl rfl rfl ?_
  refine zx_null rfl rfl ?_
  replace hF := zbnd hF
  obtain ⟨p2, e1, hF⟩ := hF
  refine zx_callE rfl rfl rfl rfl rfl rfl rfl (zc4 (Nat.le_of_ble_eq_true rfl)) (t63n (by omega) e1 (zaI ?_))
  replace hF := Option.some.inj hF
  subst hF
  exact zx_bret rfl rfl rfl rfl q
def f76 (n : Nat)  (y0 : Nat) (y1 : Int32) (h : zH) : Option (Option Nat × zH) :=
  (gR h y0 14 1).bind fun x1 =>
  x1.bind fun a3 =>
  (aR h a3 y1).bind fun x4 =>
  some (x4, h)
set_option maxRecDepth 20000 in
theorem t76 {d n : Nat} {Q : zRs → zH → Prop}  {y0 : Nat} {y1 : Int32} (hd : 0 ≤ d)  {h : zH} {p : (Option Nat × zH)} (hF : f76 n  y0 y1 h = some p) (q : Q (eA p.1) p.2) : zC d 76 [.ref y0, .int y1] h Q := by
  refine zC_of (L := [some (.ref y0), some (.int y1)]) rfl rfl ?_
  unfold f76 at hF
  refine zx_aload_n rfl rfl rfl ?_
  replace hF := zbnd hF
  obtain ⟨x1, e2, hF⟩ := hF
  refine zy_getR rfl rfl e2 ?_
  refine zx_iload_n rfl rfl rfl ?_
  replace hF := zbnd hF
  obtain ⟨a3, rfl, hF⟩ := hF
  replace hF := zbnd hF
  obtain ⟨x4, e5, hF⟩ := hF
  refine zy_aR rfl rfl e5 ?_
  replace hF := Option.some.inj hF
  subst hF
  exact zy_areturn (r := x4) rfl rfl rfl rfl q
def f74 (n : Nat)  (y0 : Nat) (y1 : Int32) (h : zH) : Option (Option Nat × zH) :=
  (gI h y0 14 2).bind fun x1 =>
  (f75 n y1 x1 h).bind fun p4 =>
  zgd (isO p4.2 y0 14) <|
  (f76 n y0 y1 p4.2).bind fun p7 =>
  some (p7.1, p7.2)
set_option maxRecDepth 20000 in
theorem t74 {d n : Nat} {Q : zRs → zH → Prop}  {y0 : Nat} {y1 : Int32} (hd : 2 ≤ d)  {h : zH} {p : (Option Nat × zH)} (hF : f74 n  y0 y1 h = some p) (q : Q (eA p.1) p.2) : zC d 74 [.ref y0, .int y1] h Q := by
  refine zC_of (L := [some (.ref y0), some (.int y1)]) rfl rfl ?_
  unfold f74 at hF
  obtain ⟨d, rfl⟩ : ∃ e, d = e + 1 := ⟨d - 1, by omega⟩
  refine zx_iload_n rfl rfl rfl ?_
  refine zx_aload_n rfl rfl rfl ?_
  replace hF := zbnd hF
  obtain ⟨x1, e2, hF⟩ := hF
  refine zy_getI rfl rfl e2 ?_
  replace hF := zbnd hF
  obtain ⟨p4, e3, hF⟩ := hF
  refine zx_callE rfl rfl rfl rfl rfl rfl rfl (zc4 (Nat.le_of_ble_eq_true rfl)) (t75 (by omega) e3 (zaI ?_))
  refine zx_pop rfl rfl rfl ?_
  refine zx_aload_n rfl rfl rfl ?_
  refine zx_iload_n rfl rfl rfl ?_
  replace hF := zgd_some hF
  obtain ⟨g5, hF⟩ := hF
  replace hF := zbnd hF
  obtain ⟨p7, e6, hF⟩ := hF
  refine zx_callE rfl rfl rfl rfl (zrcv_isO g5) rfl rfl (zc4 (Nat.le_of_ble_eq_true rfl)) (t76 (by omega) e6 (zaA ?_))
  replace hF := Option.some.inj hF
  subst hF
  exact zy_areturn (r := p7.1) rfl rfl rfl rfl q
def b73_2 (n : Nat)  (r2 : Option Nat → Option Nat → Int32 → zH → Option (Int32 × zH)) (l0 : Option Nat) (l1 : Option Nat) (l2 : Int32) (h : zH) : Option (Int32 × zH) :=
  l0.bind fun a1 =>
  zgd (isO h a1 14) <|
  (f68 n a1 h).bind fun p4 =>
  if p4.1 ≤ l2 then
    some ((-1), p4.2)
  else
    zgd (isO p4.2 a1 14) <|
    (f74 n a1 l2 p4.2).bind fun p8 =>
    zgd (kC p8.2 p8.1 9 0) <|
    p8.1.bind fun a10 =>
    (gR p8.2 a10 9 3).bind fun x12 =>
    x12.bind fun a14 =>
    zgd (isO p8.2 a14 12) <|
    (f29 n a14 l1 p8.2).bind fun p17 =>
    if p17.1 = 0 then
      r2 (some a1) l1 (l2 + 1) p17.2
    else
      some (l2, p17.2)
set_option maxRecDepth 20000 in
theorem tb73_2 {d n : Nat} {Q : zRs → zH → Prop}  {r2 : Option Nat → Option Nat → Int32 → zH → Option (Int32 × zH)} {l0 : Option Nat} {l1 : Option Nat} {l2 : Int32}   (hd : 3 ≤ d)  (hr2 : ∀ {l0 : Option Nat} {l1 : Option Nat} {l2 : Int32}   {h : zH} {p : (Int32 × zH)}, r2 l0 l1 l2 h = some p → Q (eI p.1) p.2 → zW d 73 2 [some (va_rf l0), some (va_rf l1), some (.int l2)] [] h Q) {h : zH} {p : (Int32 × zH)}  (hF : b73_2 n  r2 l0 l1 l2 h = some p) (q : Q (eI p.1) p.2) : zW d 73 2 [some (va_rf l0), some (va_rf l1), some (.int l2)] [] h Q := by
  unfold b73_2 at hF
  obtain ⟨d, rfl⟩ : ∃ e, d = e + 1 := ⟨d - 1, by omega⟩
  refine zx_iload_n rfl rfl rfl ?_
  refine zy_rload_n rfl rfl rfl ?_
  replace hF := zbnd hF
  obtain ⟨a1, rfl, hF⟩ := hF
  replace hF := zgd_some hF
  obtain ⟨g2, hF⟩ := hF
  replace hF := zbnd hF
  obtain ⟨p4, e3, hF⟩ := hF
  refine zx_callE rfl rfl rfl rfl (zrcv_isO g2) rfl rfl (zc4 (Nat.le_of_ble_eq_true rfl)) (t68 (by omega) e3 (zaI ?_))
  refine zx_ic_ge rfl rfl (fun c5 => ?_) (fun c5 => ?_)
  · rw [if_pos c5] at hF
    refine zx_iconst (v := (-1)) rfl rfl rfl ?_
    replace hF := Option.some.inj hF
    subst hF
    exact zx_bret rfl rfl rfl rfl q
  · rw [if_neg c5] at hF
    refine zx_aload_n rfl rfl rfl ?_
    refine zx_iload_n rfl rfl rfl ?_
    replace hF := zgd_some hF
    obtain ⟨g6, hF⟩ := hF
    replace hF := zbnd hF
    obtain ⟨p8, e7, hF⟩ := hF
    refine zx_callE rfl rfl rfl rfl (zrcv_isO g6) rfl rfl (zc4 (Nat.le_of_ble_eq_true rfl)) (t74 (by omega) e7 (zaA ?_))
    replace hF := zgd_some hF
    obtain ⟨g9, hF⟩ := hF
    refine zy_cast (r := p8.1) rfl rfl g9 ?_
    replace hF := zbnd hF
    obtain ⟨a10, e11, hF⟩ := hF
    rw [e11]
    replace hF := zbnd hF
    obtain ⟨x12, e13, hF⟩ := hF
    refine zy_getR rfl rfl e13 ?_
    refine zy_rload_n rfl rfl rfl ?_
    replace hF := zbnd hF
    obtain ⟨a14, rfl, hF⟩ := hF
    replace hF := zgd_some hF
    obtain ⟨g15, hF⟩ := hF
    replace hF := zbnd hF
    obtain ⟨p17, e16, hF⟩ := hF
    refine zx_callE rfl rfl rfl rfl (zrcv_isO g15) (congrArg (List.cons _) ((zsl_rf _ _).trans (congrArg (List.cons _) rfl))) rfl (zc4 (Nat.le_of_ble_eq_true rfl)) (t29 (by omega) e16 (zaI ?_))
    refine zx_if_eq rfl rfl (fun c18 => ?_) (fun c18 => ?_)
    · rw [if_pos c18] at hF
      refine zx_iinc (w := 1) rfl rfl rfl rfl (zput_ok (L' := [some (.ref a1), some (va_rf l1), some (.int (l2 + 1))]) rfl (zcl_X (j := 1) rfl (zn2_rf _)) rfl) ?_
      refine zx_goto rfl rfl ?_
      exact hr2  hF q
    · rw [if_neg c18] at hF
      refine zx_iload_n rfl rfl rfl ?_
      replace hF := Option.some.inj hF
      subst hF
      exact zx_bret rfl rfl rfl rfl q
def f73_2 (n : Nat)   (k : Nat) : Option Nat → Option Nat → Int32 → zH → Option (Int32 × zH) := Nat.rec (fun _ _ _ _ => none) (fun _ ih => b73_2 n  ih) k
theorem tf73_2 {d n : Nat} {Q : zRs → zH → Prop}   (hd : 3 ≤ d)   (k : Nat) : ∀ {l0 : Option Nat} {l1 : Option Nat} {l2 : Int32}   {h : zH} {p : (Int32 × zH)}, f73_2 n   k l0 l1 l2 h = some p → Q (eI p.1) p.2 → zW d 73 2 [some (va_rf l0), some (va_rf l1), some (.int l2)] [] h Q := by
  induction k with
  | zero => intros; rename_i hF _; cases hF
  | succ k ih => intros; rename_i  hF q; exact tb73_2 (n := n) hd  ih  hF q
def f73 (n : Nat)  (y0 : Option Nat) (y1 : Option Nat) (h : zH) : Option (Int32 × zH) :=
  f73_2 n  n y0 y1 0 h
set_option maxRecDepth 20000 in
theorem t73 {d n : Nat} {Q : zRs → zH → Prop}  {y0 : Option Nat} {y1 : Option Nat} (hd : 3 ≤ d)  {h : zH} {p : (Int32 × zH)} (hF : f73 n  y0 y1 h = some p) (q : Q (eI p.1) p.2) : zC d 73 [va_rf y0, va_rf y1] h Q := by
  refine zC_of (L := [some (va_rf y0), some (va_rf y1), none]) ((zsl_rf _ _).trans (congrArg (List.cons _) ((zsl_rf _ _).trans (congrArg (List.cons _) rfl)))) rfl ?_
  unfold f73 at hF
  obtain ⟨d, rfl⟩ : ∃ e, d = e + 1 := ⟨d - 1, by omega⟩
  refine zx_iconst (v := 0) rfl rfl rfl ?_
  refine zx_istore_n rfl rfl (zput_ok (L' := [some (va_rf y0), some (va_rf y1), some (.int 0)]) rfl (zcl_X (j := 1) rfl (zn2_rf _)) rfl) ?_
  exact tf73_2 hd  n (l0 := y0) (l1 := y1) (l2 := 0)  hF q
def f72 (n : Nat)  (y0 : Nat) (y1 : Option Nat) (h : zH) : Option ((Option Nat ⊕ Nat) × zH) :=
  zgd (isO h y0 5) <|
  (f71 n y0 (some 3) h).bind fun p6 => zth p6 (fun r3 h4 =>
    r3.bind fun a7 =>
    (gR h4 a7 9 3).bind fun x8 =>
    (f73 n y1 x8 h4).bind fun p11 =>
    if p11.1 = (-1) then
      some (.inl (some a7), p11.2)
    else
      zgd (isO p11.2 y0 5) <|
      (f70 n y0 3 (some a7) p11.2).bind fun p18 => zth p18 (fun r15 h16 =>
        some (.inl (some a7), h16))
        (fun x17 h16 =>
        zgd (exOk x17) <| some (.inr x17, h16)))
    (fun x5 h4 =>
    zgd (exOk x5) <| some (.inr x5, h4))
set_option maxRecDepth 20000 in
theorem t72 {d n : Nat} {Q : zRs → zH → Prop}  {y0 : Nat} {y1 : Option Nat} (hd : 4 ≤ d)  {h : zH} {p : ((Option Nat ⊕ Nat) × zH)} (hF : f72 n  y0 y1 h = some p) (q : Q (eAx p.1) p.2) : zC d 72 [.ref y0, va_rf y1] h Q := by
  refine zC_of (L := [some (.ref y0), some (va_rf y1), none]) (congrArg (List.cons _) ((zsl_rf _ _).trans (congrArg (List.cons _) rfl))) rfl ?_
  unfold f72 at hF
  obtain ⟨d, rfl⟩ : ∃ e, d = e + 1 := ⟨d - 1, by omega⟩
  refine zx_aload_n rfl rfl rfl ?_
  refine zx_gets rfl rfl rfl ?_
  replace hF := zgd_some hF
  obtain ⟨g1, hF⟩ := hF
  replace hF := zbnd hF
  obtain ⟨⟨r3, h4⟩, e2, hF⟩ := hF
  refine zx_callE rfl rfl rfl rfl (zrcv_isO g1) rfl rfl (zc4 (Nat.le_of_ble_eq_true rfl)) (t71 (by omega) e2 ?_)
  rcases r3 with r3 | x5
  rotate_left 1
  · replace hF := zthH hF
    replace hF := zgd_some hF
    obtain ⟨gx, hF⟩ := hF
    replace hF := Option.some.inj hF
    subst hF
    exact zaX rfl gx q
  replace hF := zthG hF
  refine zaA ?_
  refine zy_rstore_n rfl rfl (zput_ok (L' := [some (.ref y0), some (va_rf y1), some (va_rf r3)]) rfl (zcl_X (j := 1) rfl (zn2_rf _)) rfl) ?_
  refine zy_rload_n rfl rfl rfl ?_
  refine zy_rload_n rfl rfl rfl ?_
  replace hF := zbnd hF
  obtain ⟨a7, rfl, hF⟩ := hF
  replace hF := zbnd hF
  obtain ⟨x8, e9, hF⟩ := hF
  refine zy_getR rfl rfl e9 ?_
  replace hF := zbnd hF
  obtain ⟨p11, e10, hF⟩ := hF
  refine zx_callF rfl rfl rfl rfl rfl ((zsl_rf _ _).trans (congrArg (List.cons _) ((zsl_rf _ _).trans (congrArg (List.cons _) rfl)))) rfl (zc4 (Nat.le_of_ble_eq_true rfl)) (t73 (by omega) e10 (zaI ?_))
  refine zx_iconst (v := (-1)) rfl rfl rfl ?_
  refine zx_ic_eq rfl rfl (fun c12 => ?_) (fun c12 => ?_)
  · rw [if_pos c12] at hF
    refine zx_aload_n rfl rfl rfl ?_
    replace hF := Option.some.inj hF
    subst hF
    exact zy_areturn (r := (some a7)) rfl rfl rfl rfl q
  · rw [if_neg c12] at hF
    refine zx_aload_n rfl rfl rfl ?_
    refine zx_iconst (v := 3) rfl rfl rfl ?_
    refine zx_aload_n rfl rfl rfl ?_
    replace hF := zgd_some hF
    obtain ⟨g13, hF⟩ := hF
    replace hF := zbnd hF
    obtain ⟨⟨r15, h16⟩, e14, hF⟩ := hF
    refine zx_callE rfl rfl rfl rfl (zrcv_isO g13) rfl rfl (zc4 (Nat.le_of_ble_eq_true rfl)) (t70 (by omega) e14 ?_)
    rcases r15 with r15 | x17
    rotate_left 1
    · replace hF := zthH hF
      replace hF := zgd_some hF
      obtain ⟨gx, hF⟩ := hF
      replace hF := Option.some.inj hF
      subst hF
      exact zaX rfl gx q
    replace hF := zthG hF
    refine zaV (x := ()) ?_
    refine zx_aload_n rfl rfl rfl ?_
    replace hF := Option.some.inj hF
    subst hF
    exact zy_areturn (r := (some a7)) rfl rfl rfl rfl q
def f80 (n : Nat)  (y0 : Nat) (y1 : Option Nat) (h : zH) : Option (Unit × zH) :=
  (pF h y0 3 1 (.null)).bind fun h1 =>
  (pF h1 y0 3 2 (.null)).bind fun h3 =>
  (pF h3 y0 3 3 (.int (-1))).bind fun h5 =>
  (pF h5 y0 3 4 (.null)).bind fun h7 =>
  (pF h7 y0 3 5 (.null)).bind fun h9 =>
  (pF h9 y0 3 0 (va_rf y1)).bind fun h11 =>
  some ((), h11)
set_option maxRecDepth 20000 in
theorem t80 {d n : Nat} {Q : zRs → zH → Prop}  {y0 : Nat} {y1 : Option Nat} (hd : 0 ≤ d)  {h : zH} {p : (Unit × zH)} (hF : f80 n  y0 y1 h = some p) (q : Q (eV p.1) p.2) : zC d 80 [.ref y0, va_rf y1] h Q := by
  refine zC_of (L := [some (.ref y0), some (va_rf y1)]) (congrArg (List.cons _) ((zsl_rf _ _).trans (congrArg (List.cons _) rfl))) rfl ?_
  unfold f80 at hF
  refine zx_aload_n rfl rfl rfl ?_
  refine zw_obj rfl rfl rfl (Nat.ble_eq_true_of_le (Nat.le_trans (zcat_le _) (Nat.le_of_ble_eq_true rfl))) ?_
  refine zx_aload_n rfl rfl rfl ?_
  refine zx_null rfl rfl ?_
  replace hF := zbnd hF
  obtain ⟨h1, e2, hF⟩ := hF
  refine zy_put rfl rfl e2 ?_
  refine zx_aload_n rfl rfl rfl ?_
  refine zx_null rfl rfl ?_
  replace hF := zbnd hF
  obtain ⟨h3, e4, hF⟩ := hF
  refine zy_put rfl rfl e4 ?_
  refine zx_aload_n rfl rfl rfl ?_
  refine zx_iconst (v := (-1)) rfl rfl rfl ?_
  replace hF := zbnd hF
  obtain ⟨h5, e6, hF⟩ := hF
  refine zy_put rfl rfl e6 ?_
  refine zx_aload_n rfl rfl rfl ?_
  refine zx_null rfl rfl ?_
  replace hF := zbnd hF
  obtain ⟨h7, e8, hF⟩ := hF
  refine zy_put rfl rfl e8 ?_
  refine zx_aload_n rfl rfl rfl ?_
  refine zx_null rfl rfl ?_
  replace hF := zbnd hF
  obtain ⟨h9, e10, hF⟩ := hF
  refine zy_put rfl rfl e10 ?_
  refine zx_aload_n rfl rfl rfl ?_
  refine zy_rload_n rfl rfl rfl ?_
  replace hF := zbnd hF
  obtain ⟨h11, e12, hF⟩ := hF
  refine zy_put rfl rfl e12 ?_
  replace hF := Option.some.inj hF
  subst hF
  exact zx_return rfl rfl rfl q
def b79_19 (n : Nat)   (l0 : Nat) (l1 : Option Nat) (l2 : Option Nat) (h : zH) : Option ((Option Nat ⊕ Nat) × zH) :=
  (gR h l0 5 0).bind fun x1 =>
  x1.bind fun a3 =>
  (gI h a3 4 9).bind fun x4 =>
  (pF h a3 4 9 (.int (x4 + 1))).bind fun h6 =>
  (f80 n h6.1.length l1 (nO h6 3 6)).bind fun p9 =>
  some (.inl (some h6.1.length), p9.2)
set_option maxRecDepth 20000 in
theorem tb79_19 {d n : Nat} {Q : zRs → zH → Prop}   {l0 : Nat} {l1 : Option Nat} {l2 : Option Nat}   (hd : 1 ≤ d)   {h : zH} {p : ((Option Nat ⊕ Nat) × zH)}  (hF : b79_19 n   l0 l1 l2 h = some p) (q : Q (eAx p.1) p.2) : zW d 79 19 [some (.ref l0), some (va_rf l1), some (va_rf l2)] [] h Q := by
  unfold b79_19 at hF
  obtain ⟨d, rfl⟩ : ∃ e, d = e + 1 := ⟨d - 1, by omega⟩
  refine zx_aload_n rfl rfl rfl ?_
  replace hF := zbnd hF
  obtain ⟨x1, e2, hF⟩ := hF
  refine zy_getR rfl rfl e2 ?_
  refine zx_dup rfl rfl (zc1_rf _) ?_
  replace hF := zbnd hF
  obtain ⟨a3, rfl, hF⟩ := hF
  replace hF := zbnd hF
  obtain ⟨x4, e5, hF⟩ := hF
  refine zy_getI rfl rfl e5 ?_
  refine zx_iconst (v := 1) rfl rfl rfl ?_
  refine zx_iadd rfl rfl ?_
  replace hF := zbnd hF
  obtain ⟨h6, e7, hF⟩ := hF
  refine zy_put rfl rfl e7 ?_
  refine zy_new rfl rfl ?_
  refine zx_dup rfl rfl rfl ?_
  refine zy_rload_n rfl rfl rfl ?_
  replace hF := zbnd hF
  obtain ⟨p9, e8, hF⟩ := hF
  refine zx_callF rfl rfl rfl rfl rfl (congrArg (List.cons _) ((zsl_rf _ _).trans (congrArg (List.cons _) rfl))) rfl (zc4 (Nat.le_of_ble_eq_true rfl)) (t80 (by omega) e8 (zaV ?_))
  replace hF := Option.some.inj hF
  subst hF
  exact zy_areturn (r := (some h6.1.length)) rfl rfl rfl rfl q
def f79 (n : Nat)  (y0 : Nat) (y1 : Option Nat) (y2 : Option Nat) (h : zH) : Option ((Option Nat ⊕ Nat) × zH) :=
  (gR h y0 5 0).bind fun x1 =>
  x1.bind fun a3 =>
  (gI h a3 4 9).bind fun x4 =>
  if x4 < 400 then
    b79_19 n  y0 y1 y2 h
  else
    zgd (isO h y0 5) <|
    (f70 n y0 5 y2 h).bind fun p12 => zth p12 (fun r9 h10 =>
      b79_19 n  y0 y1 y2 h10)
      (fun x11 h10 =>
      zgd (exOk x11) <| some (.inr x11, h10))
set_option maxRecDepth 20000 in
theorem t79 {d n : Nat} {Q : zRs → zH → Prop}  {y0 : Nat} {y1 : Option Nat} {y2 : Option Nat} (hd : 1 ≤ d)  {h : zH} {p : ((Option Nat ⊕ Nat) × zH)} (hF : f79 n  y0 y1 y2 h = some p) (q : Q (eAx p.1) p.2) : zC d 79 [.ref y0, va_rf y1, va_rf y2] h Q := by
  refine zC_of (L := [some (.ref y0), some (va_rf y1), some (va_rf y2)]) (congrArg (List.cons _) ((zsl_rf _ _).trans (congrArg (List.cons _) ((zsl_rf _ _).trans (congrArg (List.cons _) rfl))))) rfl ?_
  unfold f79 at hF
  obtain ⟨d, rfl⟩ : ∃ e, d = e + 1 := ⟨d - 1, by omega⟩
  refine zx_aload_n rfl rfl rfl ?_
  replace hF := zbnd hF
  obtain ⟨x1, e2, hF⟩ := hF
  refine zy_getR rfl rfl e2 ?_
  replace hF := zbnd hF
  obtain ⟨a3, rfl, hF⟩ := hF
  replace hF := zbnd hF
  obtain ⟨x4, e5, hF⟩ := hF
  refine zy_getI rfl rfl e5 ?_
  refine zx_sipush (v := 400) rfl rfl rfl ?_
  refine zx_ic_lt rfl rfl (fun c6 => ?_) (fun c6 => ?_)
  · rw [if_pos c6] at hF
    exact tb79_19 (l0 := y0) (l1 := y1) (l2 := y2) hd   hF q
  · rw [if_neg c6] at hF
    refine zx_aload_n rfl rfl rfl ?_
    refine zx_iconst (v := 5) rfl rfl rfl ?_
    refine zy_rload_n rfl rfl rfl ?_
    replace hF := zgd_some hF
    obtain ⟨g7, hF⟩ := hF
    replace hF := zbnd hF
    obtain ⟨⟨r9, h10⟩, e8, hF⟩ := hF
    refine zx_callE rfl rfl rfl rfl (zrcv_isO g7) (congrArg (List.cons _) (congrArg (List.cons _) ((zsl_rf _ _).trans (congrArg (List.cons _) rfl)))) rfl (zc4 (Nat.le_of_ble_eq_true rfl)) (t70 (by omega) e8 ?_)
    rcases r9 with r9 | x11
    rotate_left 1
    · replace hF := zthH hF
      replace hF := zgd_some hF
      obtain ⟨gx, hF⟩ := hF
      replace hF := Option.some.inj hF
      subst hF
      exact zaX rfl gx q
    replace hF := zthG hF
    refine zaV (x := ()) ?_
    exact tb79_19 (l0 := y0) (l1 := y1) (l2 := y2) hd   hF q
def f81 (n : Nat)  (y0 : Nat) (y1 : Option Nat) (h : zH) : Option ((Int32 ⊕ Nat) × zH) :=
  zgd (isO h y0 5) <|
  (f71 n y0 (some 3) h).bind fun p6 => zth p6 (fun r3 h4 =>
    r3.bind fun a7 =>
    (gR h4 a7 9 3).bind fun x8 =>
    (f73 n y1 x8 h4).bind fun p11 =>
    if p11.1 = (-1) then
      zgd (isO p11.2 y0 5) <|
      (f70 n y0 3 (some a7) p11.2).bind fun p18 => zth p18 (fun r15 h16 =>
        some (.inl p11.1, h16))
        (fun x17 h16 =>
        zgd (exOk x17) <| some (.inr x17, h16))
    else
      some (.inl p11.1, p11.2))
    (fun x5 h4 =>
    zgd (exOk x5) <| some (.inr x5, h4))
set_option maxRecDepth 20000 in
theorem t81 {d n : Nat} {Q : zRs → zH → Prop}  {y0 : Nat} {y1 : Option Nat} (hd : 4 ≤ d)  {h : zH} {p : ((Int32 ⊕ Nat) × zH)} (hF : f81 n  y0 y1 h = some p) (q : Q (eIx p.1) p.2) : zC d 81 [.ref y0, va_rf y1] h Q := by
  refine zC_of (L := [some (.ref y0), some (va_rf y1), none, none]) (congrArg (List.cons _) ((zsl_rf _ _).trans (congrArg (List.cons _) rfl))) rfl ?_
  unfold f81 at hF
  obtain ⟨d, rfl⟩ : ∃ e, d = e + 1 := ⟨d - 1, by omega⟩
  refine zx_aload_n rfl rfl rfl ?_
  refine zx_gets rfl rfl rfl ?_
  replace hF := zgd_some hF
  obtain ⟨g1, hF⟩ := hF
  replace hF := zbnd hF
  obtain ⟨⟨r3, h4⟩, e2, hF⟩ := hF
  refine zx_callE rfl rfl rfl rfl (zrcv_isO g1) rfl rfl (zc4 (Nat.le_of_ble_eq_true rfl)) (t71 (by omega) e2 ?_)
  rcases r3 with r3 | x5
  rotate_left 1
  · replace hF := zthH hF
    replace hF := zgd_some hF
    obtain ⟨gx, hF⟩ := hF
    replace hF := Option.some.inj hF
    subst hF
    exact zaX rfl gx q
  replace hF := zthG hF
  refine zaA ?_
  refine zy_rstore_n rfl rfl (zput_ok (L' := [some (.ref y0), some (va_rf y1), some (va_rf r3), none]) rfl (zcl_X (j := 1) rfl (zn2_rf _)) rfl) ?_
  refine zy_rload_n rfl rfl rfl ?_
  refine zy_rload_n rfl rfl rfl ?_
  replace hF := zbnd hF
  obtain ⟨a7, rfl, hF⟩ := hF
  replace hF := zbnd hF
  obtain ⟨x8, e9, hF⟩ := hF
  refine zy_getR rfl rfl e9 ?_
  replace hF := zbnd hF
  obtain ⟨p11, e10, hF⟩ := hF
  refine zx_callF rfl rfl rfl rfl rfl ((zsl_rf _ _).trans (congrArg (List.cons _) ((zsl_rf _ _).trans (congrArg (List.cons _) rfl)))) rfl (zc4 (Nat.le_of_ble_eq_true rfl)) (t73 (by omega) e10 (zaI ?_))
  refine zx_istore_n rfl rfl rfl ?_
  refine zx_iload_n rfl rfl rfl ?_
  refine zx_iconst (v := (-1)) rfl rfl rfl ?_
  refine zx_ic_ne rfl rfl (fun c12 => ?_) (fun c12 => ?_)
  · rw [if_neg c12] at hF
    refine zx_iload_n rfl rfl rfl ?_
    replace hF := Option.some.inj hF
    subst hF
    exact zx_bret rfl rfl rfl rfl q
  · rw [if_pos c12] at hF
    refine zx_aload_n rfl rfl rfl ?_
    refine zx_iconst (v := 3) rfl rfl rfl ?_
    refine zx_aload_n rfl rfl rfl ?_
    replace hF := zgd_some hF
    obtain ⟨g13, hF⟩ := hF
    replace hF := zbnd hF
    obtain ⟨⟨r15, h16⟩, e14, hF⟩ := hF
    refine zx_callE rfl rfl rfl rfl (zrcv_isO g13) rfl rfl (zc4 (Nat.le_of_ble_eq_true rfl)) (t70 (by omega) e14 ?_)
    rcases r15 with r15 | x17
    rotate_left 1
    · replace hF := zthH hF
      replace hF := zgd_some hF
      obtain ⟨gx, hF⟩ := hF
      replace hF := Option.some.inj hF
      subst hF
      exact zaX rfl gx q
    replace hF := zthG hF
    refine zaV (x := ()) ?_
    refine zx_iload_n rfl rfl rfl ?_
    replace hF := Option.some.inj hF
    subst hF
    exact zx_bret rfl rfl rfl rfl q
def f82 (n : Nat)  (y0 : Nat) (h : zH) : Option ((Option Nat ⊕ Nat) × zH) :=
  zgd (isO h y0 5) <|
  (f71 n y0 (some 3) h).bind fun p6 => zth p6 (fun r3 h4 =>
    (gR h4 y0 5 3).bind fun x7 =>
    x7.bind fun a9 =>
    (gR h4 a9 9 0).bind fun x10 =>
    zgd (isO h4 y0 5) <|
    (f79 n y0 x10 r3 h4).bind fun p17 => zth p17 (fun r14 h15 =>
      r14.bind fun a18 =>
      (pF h15 a18 3 1 (va_rf r3)).bind fun h19 =>
      some (.inl (some a18), h19))
      (fun x16 h15 =>
      zgd (exOk x16) <| some (.inr x16, h15)))
    (fun x5 h4 =>
    zgd (exOk x5) <| some (.inr x5, h4))
set_option maxRecDepth 20000 in
theorem t82 {d n : Nat} {Q : zRs → zH → Prop}  {y0 : Nat} (hd : 2 ≤ d)  {h : zH} {p : ((Option Nat ⊕ Nat) × zH)} (hF : f82 n  y0 h = some p) (q : Q (eAx p.1) p.2) : zC d 82 [.ref y0] h Q := by
  refine zC_of (L := [some (.ref y0), none, none]) rfl rfl ?_
  unfold f82 at hF
  obtain ⟨d, rfl⟩ : ∃ e, d = e + 1 := ⟨d - 1, by omega⟩
  refine zx_aload_n rfl rfl rfl ?_
  refine zx_gets rfl rfl rfl ?_
  replace hF := zgd_some hF
  obtain ⟨g1, hF⟩ := hF
  replace hF := zbnd hF
  obtain ⟨⟨r3, h4⟩, e2, hF⟩ := hF
  refine zx_callE rfl rfl rfl rfl (zrcv_isO g1) rfl rfl (zc4 (Nat.le_of_ble_eq_true rfl)) (t71 (by omega) e2 ?_)
  rcases r3 with r3 | x5
  rotate_left 1
  · replace hF := zthH hF
    replace hF := zgd_some hF
    obtain ⟨gx, hF⟩ := hF
    replace hF := Option.some.inj hF
    subst hF
    exact zaX rfl gx q
  replace hF := zthG hF
  refine zaA ?_
  refine zy_rstore_n rfl rfl rfl ?_
  refine zx_aload_n rfl rfl rfl ?_
  refine zx_aload_n rfl rfl rfl ?_
  replace hF := zbnd hF
  obtain ⟨x7, e8, hF⟩ := hF
  refine zy_getR rfl rfl e8 ?_
  replace hF := zbnd hF
  obtain ⟨a9, rfl, hF⟩ := hF
  replace hF := zbnd hF
  obtain ⟨x10, e11, hF⟩ := hF
  refine zy_getR rfl rfl e11 ?_
  refine zy_rload_n rfl rfl rfl ?_
  replace hF := zgd_some hF
  obtain ⟨g12, hF⟩ := hF
  replace hF := zbnd hF
  obtain ⟨⟨r14, h15⟩, e13, hF⟩ := hF
  refine zx_callE rfl rfl rfl rfl (zrcv_isO g12) (congrArg (List.cons _) ((zsl_rf _ _).trans (congrArg (List.cons _) ((zsl_rf _ _).trans (congrArg (List.cons _) rfl))))) rfl (zc4 (Nat.le_of_ble_eq_true rfl)) (t79 (by omega) e13 ?_)
  rcases r14 with r14 | x16
  rotate_left 1
  · replace hF := zthH hF
    replace hF := zgd_some hF
    obtain ⟨gx, hF⟩ := hF
    replace hF := Option.some.inj hF
    subst hF
    exact zaX rfl gx q
  replace hF := zthG hF
  refine zaA ?_
  refine zy_rstore_n rfl rfl (zput_ok (L' := [some (.ref y0), some (va_rf r3), some (va_rf r14)]) rfl (zcl_X (j := 1) rfl (zn2_rf _)) rfl) ?_
  refine zy_rload_n rfl rfl rfl ?_
  refine zy_rload_n rfl rfl rfl ?_
  replace hF := zbnd hF
  obtain ⟨a18, rfl, hF⟩ := hF
  replace hF := zbnd hF
  obtain ⟨h19, e20, hF⟩ := hF
  refine zy_put rfl rfl e20 ?_
  refine zx_aload_n rfl rfl rfl ?_
  replace hF := Option.some.inj hF
  subst hF
  exact zy_areturn (r := (some a18)) rfl rfl rfl rfl q
def f84 (n : Nat)  (y0 : Nat) (h : zH) : Option (Option Nat × zH) :=
  (gR h y0 5 3).bind fun x1 =>
  x1.bind fun a3 =>
  (gR h a3 9 0).bind fun x4 =>
  (rEq x4 (some 4)).bind fun b6 =>
  if b6 = true then
    some ((some 4), h)
  else
    some ((some 5), h)
set_option maxRecDepth 20000 in
theorem t84 {d n : Nat} {Q : zRs → zH → Prop}  {y0 : Nat} (hd : 0 ≤ d)  {h : zH} {p : (Option Nat × zH)} (hF : f84 n  y0 h = some p) (q : Q (eA p.1) p.2) : zC d 84 [.ref y0] h Q := by
  refine zC_of (L := [some (.ref y0)]) rfl rfl ?_
  unfold f84 at hF
  refine zx_aload_n rfl rfl rfl ?_
  replace hF := zbnd hF
  obtain ⟨x1, e2, hF⟩ := hF
  refine zy_getR rfl rfl e2 ?_
  replace hF := zbnd hF
  obtain ⟨a3, rfl, hF⟩ := hF
  replace hF := zbnd hF
  obtain ⟨x4, e5, hF⟩ := hF
  refine zy_getR rfl rfl e5 ?_
  refine zx_gets rfl rfl rfl ?_
  replace hF := zbnd hF
  obtain ⟨b6, e7, hF⟩ := hF
  refine zy_ane rfl rfl e7 (fun c8 => ?_) (fun c8 => ?_)
  · rw [if_neg (by rw [c8]; exact Bool.false_ne_true)] at hF
    refine zx_gets rfl rfl rfl ?_
    replace hF := Option.some.inj hF
    subst hF
    exact zy_areturn (r := (some 5)) rfl rfl rfl rfl q
  · rw [if_pos c8] at hF
    refine zx_gets rfl rfl rfl ?_
    refine zx_goto rfl rfl ?_
    replace hF := Option.some.inj hF
    subst hF
    exact zy_areturn (r := (some 4)) rfl rfl rfl rfl q
def b83_116 (n : Nat)   (l0 : Nat) (l1 : Option Nat) (l2 : Option Nat) (l3 : Int32) (h : zH) : Option ((Unit ⊕ Nat) × zH) :=
  zgd (isO h l0 5) <|
  (f71 n l0 (some 9) h).bind fun p6 => zth p6 (fun r3 h4 =>
    some (.inl (), h4))
    (fun x5 h4 =>
    zgd (exOk x5) <| some (.inr x5, h4))
set_option maxRecDepth 20000 in
theorem tb83_116 {d n : Nat} {Q : zRs → zH → Prop}   {l0 : Nat} {l1 : Option Nat} {l2 : Option Nat} {l3 : Int32}  {x4 : Option Value} {x5 : Option Value} (hd : 2 ≤ d)   {h : zH} {p : ((Unit ⊕ Nat) × zH)} (hx4 : zn2 x4 = true) (hx5 : zn2 x5 = true) (hF : b83_116 n   l0 l1 l2 l3 h = some p) (q : Q (eVx p.1) p.2) : zW d 83 116 [some (.ref l0), some (va_rf l1), some (va_rf l2), some (.int l3), x4, x5] [] h Q := by
  unfold b83_116 at hF
  obtain ⟨d, rfl⟩ : ∃ e, d = e + 1 := ⟨d - 1, by omega⟩
  refine zx_aload_n rfl rfl rfl ?_
  refine zx_gets rfl rfl rfl ?_
  replace hF := zgd_some hF
  obtain ⟨g1, hF⟩ := hF
  replace hF := zbnd hF
  obtain ⟨⟨r3, h4⟩, e2, hF⟩ := hF
  refine zx_callE rfl rfl rfl rfl (zrcv_isO g1) rfl rfl (zc4 (Nat.le_of_ble_eq_true rfl)) (t71 (by omega) e2 ?_)
  rcases r3 with r3 | x5
  rotate_left 1
  · replace hF := zthH hF
    replace hF := zgd_some hF
    obtain ⟨gx, hF⟩ := hF
    replace hF := Option.some.inj hF
    subst hF
    exact zaX rfl gx q
  replace hF := zthG hF
  refine zaA ?_
  refine zx_pop rfl rfl (zc1_rf _) ?_
  replace hF := Option.some.inj hF
  subst hF
  exact zx_return rfl rfl rfl q
def b83_107 (n : Nat)  (r32 : Nat → Option Nat → Option Nat → Int32 → zH → Option ((Unit ⊕ Nat) × zH)) (l0 : Nat) (l1 : Option Nat) (l2 : Option Nat) (l3 : Int32) (l4 : Option Nat) (l5 : Option Nat) (h : zH) : Option ((Unit ⊕ Nat) × zH) :=
  r32 l0 l1 l5 (l3 + 1) h
set_option maxRecDepth 20000 in
theorem tb83_107 {d n : Nat} {Q : zRs → zH → Prop}  {r32 : Nat → Option Nat → Option Nat → Int32 → zH → Option ((Unit ⊕ Nat) × zH)} {l0 : Nat} {l1 : Option Nat} {l2 : Option Nat} {l3 : Int32} {l4 : Option Nat} {l5 : Option Nat}   (hd : 2 ≤ d)  (hr32 : ∀ {l0 : Nat} {l1 : Option Nat} {l2 : Option Nat} {l3 : Int32}  {x4 : Option Value} {x5 : Option Value} {h : zH} {p : ((Unit ⊕ Nat) × zH)}, zn2 x4 = true → zn2 x5 = true → r32 l0 l1 l2 l3 h = some p → Q (eVx p.1) p.2 → zW d 83 32 [some (.ref l0), some (va_rf l1), some (va_rf l2), some (.int l3), x4, x5] [] h Q) {h : zH} {p : ((Unit ⊕ Nat) × zH)}  (hF : b83_107 n  r32 l0 l1 l2 l3 l4 l5 h = some p) (q : Q (eVx p.1) p.2) : zW d 83 107 [some (.ref l0), some (va_rf l1), some (va_rf l2), some (.int l3), some (va_rf l4), some (va_rf l5)] [] h Q := by
  unfold b83_107 at hF
  obtain ⟨d, rfl⟩ : ∃ e, d = e + 1 := ⟨d - 1, by omega⟩
  refine zy_rload rfl rfl rfl ?_
  refine zy_rstore_n rfl rfl (zput_ok (L' := [some (.ref l0), some (va_rf l1), some (va_rf l5), some (.int l3), some (va_rf l4), some (va_rf l5)]) rfl (zcl_X (j := 1) rfl (zn2_rf _)) rfl) ?_
  refine zx_iinc (w := 1) rfl rfl rfl rfl (zput_ok (L' := [some (.ref l0), some (va_rf l1), some (va_rf l5), some (.int (l3 + 1)), some (va_rf l4), some (va_rf l5)]) rfl (zcl_X (j := 2) rfl (zn2_rf _)) rfl) ?_
  refine zx_goto rfl rfl ?_
  exact hr32 (zn2_rf _) (zn2_rf _) hF q
def b83_32 (n : Nat)  (r32 : Nat → Option Nat → Option Nat → Int32 → zH → Option ((Unit ⊕ Nat) × zH)) (l0 : Nat) (l1 : Option Nat) (l2 : Option Nat) (l3 : Int32) (h : zH) : Option ((Unit ⊕ Nat) × zH) :=
  if (400 : Int32) < l3 then
    b83_116 n  l0 l1 l2 l3 h
  else
    (gR h l0 5 3).bind fun x2 =>
    x2.bind fun a4 =>
    (gR h a4 9 0).bind fun x5 =>
    (rEq x5 (some 11)).bind fun b7 =>
    if b7 = true then
      zgd (isO h l0 5) <|
      (f71 n l0 (some 11) h).bind fun p15 => zth p15 (fun r12 h13 =>
        zgd (isO h13 l0 5) <|
        (f84 n l0 h13).bind fun p18 =>
        zgd (isO p18.2 l0 5) <|
        (f71 n l0 p18.1 p18.2).bind fun p24 => zth p24 (fun r21 h22 =>
          zgd (isO h22 l0 5) <|
          (f79 n l0 (some 42) r21 h22).bind fun p30 => zth p30 (fun r27 h28 =>
            r27.bind fun a31 =>
            (pF h28 a31 3 2 (va_rf r21)).bind fun h32 =>
            match l2 with
            | none =>
              l1.bind fun a35 =>
              (pF h32 a35 3 4 (.ref a31)).bind fun h36 =>
              b83_107 n r32 l0 (some a35) none l3 r21 (some a31) h36
            | some a34 =>
              (pF h32 a34 3 5 (.ref a31)).bind fun h38 =>
              b83_107 n r32 l0 l1 (some a34) l3 r21 (some a31) h38)
            (fun x29 h28 =>
            zgd (exOk x29) <| some (.inr x29, h28)))
          (fun x23 h22 =>
          zgd (exOk x23) <| some (.inr x23, h22)))
        (fun x14 h13 =>
        zgd (exOk x14) <| some (.inr x14, h13))
    else
      b83_116 n  l0 l1 l2 l3 h
set_option maxRecDepth 20000 in
theorem tb83_32 {d n : Nat} {Q : zRs → zH → Prop}  {r32 : Nat → Option Nat → Option Nat → Int32 → zH → Option ((Unit ⊕ Nat) × zH)} {l0 : Nat} {l1 : Option Nat} {l2 : Option Nat} {l3 : Int32}  {x4 : Option Value} {x5 : Option Value} (hd : 2 ≤ d)  (hr32 : ∀ {l0 : Nat} {l1 : Option Nat} {l2 : Option Nat} {l3 : Int32}  {x4 : Option Value} {x5 : Option Value} {h : zH} {p : ((Unit ⊕ Nat) × zH)}, zn2 x4 = true → zn2 x5 = true → r32 l0 l1 l2 l3 h = some p → Q (eVx p.1) p.2 → zW d 83 32 [some (.ref l0), some (va_rf l1), some (va_rf l2), some (.int l3), x4, x5] [] h Q) {h : zH} {p : ((Unit ⊕ Nat) × zH)} (hx4 : zn2 x4 = true) (hx5 : zn2 x5 = true) (hF : b83_32 n  r32 l0 l1 l2 l3 h = some p) (q : Q (eVx p.1) p.2) : zW d 83 32 [some (.ref l0), some (va_rf l1), some (va_rf l2), some (.int l3), x4, x5] [] h Q := by
  unfold b83_32 at hF
  obtain ⟨d, rfl⟩ : ∃ e, d = e + 1 := ⟨d - 1, by omega⟩
  refine zx_iload_n rfl rfl rfl ?_
  refine zx_sipush (v := 400) rfl rfl rfl ?_
  refine zx_ic_gt rfl rfl (fun c1 => ?_) (fun c1 => ?_)
  · rw [if_pos c1] at hF
    exact tb83_116 (l0 := l0) (l1 := l1) (l2 := l2) (l3 := l3) hd  hx4 hx5 hF q
  · rw [if_neg c1] at hF
    refine zx_aload_n rfl rfl rfl ?_
    replace hF := zbnd hF
    obtain ⟨x2, e3, hF⟩ := hF
    refine zy_getR rfl rfl e3 ?_
    replace hF := zbnd hF
    obtain ⟨a4, rfl, hF⟩ := hF
    replace hF := zbnd hF
    obtain ⟨x5, e6, hF⟩ := hF
    refine zy_getR rfl rfl e6 ?_
    refine zx_gets rfl rfl rfl ?_
    replace hF := zbnd hF
    obtain ⟨b7, e8, hF⟩ := hF
    refine zy_ane rfl rfl e8 (fun c9 => ?_) (fun c9 => ?_)
    · rw [if_neg (by rw [c9]; exact Bool.false_ne_true)] at hF
      exact tb83_116 (l0 := l0) (l1 := l1) (l2 := l2) (l3 := l3) hd  hx4 hx5 hF q
    · rw [if_pos c9] at hF
      refine zx_aload_n rfl rfl rfl ?_
      refine zx_gets rfl rfl rfl ?_
      replace hF := zgd_some hF
      obtain ⟨g10, hF⟩ := hF
      replace hF := zbnd hF
      obtain ⟨⟨r12, h13⟩, e11, hF⟩ := hF
      refine zx_callE rfl rfl rfl rfl (zrcv_isO g10) rfl rfl (zc4 (Nat.le_of_ble_eq_true rfl)) (t71 (by omega) e11 ?_)
      rcases r12 with r12 | x14
      rotate_left 1
      · replace hF := zthH hF
        replace hF := zgd_some hF
        obtain ⟨gx, hF⟩ := hF
        replace hF := Option.some.inj hF
        subst hF
        exact zaX rfl gx q
      replace hF := zthG hF
      refine zaA ?_
      refine zx_pop rfl rfl (zc1_rf _) ?_
      refine zx_aload_n rfl rfl rfl ?_
      refine zx_aload_n rfl rfl rfl ?_
      replace hF := zgd_some hF
      obtain ⟨g16, hF⟩ := hF
      replace hF := zbnd hF
      obtain ⟨p18, e17, hF⟩ := hF
      refine zx_callE rfl rfl rfl rfl (zrcv_isO g16) rfl rfl (zc4 (Nat.le_of_ble_eq_true rfl)) (t84 (by omega) e17 (zaA ?_))
      replace hF := zgd_some hF
      obtain ⟨g19, hF⟩ := hF
      replace hF := zbnd hF
      obtain ⟨⟨r21, h22⟩, e20, hF⟩ := hF
      refine zx_callE rfl rfl rfl rfl (zrcv_isO g19) (congrArg (List.cons _) ((zsl_rf _ _).trans (congrArg (List.cons _) rfl))) rfl (zc4 (Nat.le_of_ble_eq_true rfl)) (t71 (by omega) e20 ?_)
      rcases r21 with r21 | x23
      rotate_left 1
      · replace hF := zthH hF
        replace hF := zgd_some hF
        obtain ⟨gx, hF⟩ := hF
        replace hF := Option.some.inj hF
        subst hF
        exact zaX rfl gx q
      replace hF := zthG hF
      refine zaA ?_
      refine zy_rstore rfl rfl rfl ?_
      refine zx_aload_n rfl rfl rfl ?_
      refine zx_gets rfl rfl rfl ?_
      refine zy_rload rfl rfl rfl ?_
      replace hF := zgd_some hF
      obtain ⟨g25, hF⟩ := hF
      replace hF := zbnd hF
      obtain ⟨⟨r27, h28⟩, e26, hF⟩ := hF
      refine zx_callE rfl rfl rfl rfl (zrcv_isO g25) (congrArg (List.cons _) (congrArg (List.cons _) ((zsl_rf _ _).trans (congrArg (List.cons _) rfl)))) rfl (zc4 (Nat.le_of_ble_eq_true rfl)) (t79 (by omega) e26 ?_)
      rcases r27 with r27 | x29
      rotate_left 1
      · replace hF := zthH hF
        replace hF := zgd_some hF
        obtain ⟨gx, hF⟩ := hF
        replace hF := Option.some.inj hF
        subst hF
        exact zaX rfl gx q
      replace hF := zthG hF
      refine zaA ?_
      refine zy_rstore rfl rfl (zput_ok (L' := [some (.ref l0), some (va_rf l1), some (va_rf l2), some (.int l3), some (va_rf r21), some (va_rf r27)]) rfl (zcl_X (j := 4) rfl (zn2_rf _)) rfl) ?_
      refine zy_rload rfl rfl rfl ?_
      refine zy_rload rfl rfl rfl ?_
      replace hF := zbnd hF
      obtain ⟨a31, rfl, hF⟩ := hF
      replace hF := zbnd hF
      obtain ⟨h32, e33, hF⟩ := hF
      refine zy_put rfl rfl e33 ?_
      refine zy_rload_n rfl rfl rfl ?_
      cases l2 with
      | none =>
        dsimp only at hF
        refine zx_ifnnN rfl rfl ?_
        refine zy_rload_n rfl rfl rfl ?_
        refine zx_aload rfl rfl rfl ?_
        replace hF := zbnd hF
        obtain ⟨a35, rfl, hF⟩ := hF
        replace hF := zbnd hF
        obtain ⟨h36, e37, hF⟩ := hF
        refine zy_put rfl rfl e37 ?_
        refine zx_goto rfl rfl ?_
        exact tb83_107 (l0 := l0) (l1 := (some a35)) (l2 := none) (l3 := l3) (l4 := r21) (l5 := (some a31)) hd hr32  hF q
      | some a34 =>
        dsimp only at hF
        refine zx_ifnn rfl rfl ?_
        refine zx_aload_n rfl rfl rfl ?_
        refine zx_aload rfl rfl rfl ?_
        replace hF := zbnd hF
        obtain ⟨h38, e39, hF⟩ := hF
        refine zy_put rfl rfl e39 ?_
        exact tb83_107 (l0 := l0) (l1 := l1) (l2 := (some a34)) (l3 := l3) (l4 := r21) (l5 := (some a31)) hd hr32  hF q
def f83_32 (n : Nat)   (k : Nat) : Nat → Option Nat → Option Nat → Int32 → zH → Option ((Unit ⊕ Nat) × zH) := Nat.rec (fun _ _ _ _ _ => none) (fun _ ih => b83_32 n  ih) k
theorem tf83_32 {d n : Nat} {Q : zRs → zH → Prop}   (hd : 2 ≤ d)   (k : Nat) : ∀ {l0 : Nat} {l1 : Option Nat} {l2 : Option Nat} {l3 : Int32}  {x4 : Option Value} {x5 : Option Value} {h : zH} {p : ((Unit ⊕ Nat) × zH)}, zn2 x4 = true → zn2 x5 = true → f83_32 n   k l0 l1 l2 l3 h = some p → Q (eVx p.1) p.2 → zW d 83 32 [some (.ref l0), some (va_rf l1), some (va_rf l2), some (.int l3), x4, x5] [] h Q := by
  induction k with
  | zero => intros; rename_i hF _; cases hF
  | succ k ih => intros; rename_i hx4 hx5 hF q; exact tb83_32 (n := n) hd  ih hx4 hx5 hF q
def f83 (n : Nat)  (y0 : Nat) (y1 : Option Nat) (h : zH) : Option ((Unit ⊕ Nat) × zH) :=
  zgd (isO h y0 5) <|
  (f71 n y0 (some 42) h).bind fun p6 => zth p6 (fun r3 h4 =>
    zgd (isO h4 y0 5) <|
    (f71 n y0 (some 8) h4).bind fun p12 => zth p12 (fun r9 h10 =>
      zgd (isO h10 y0 5) <|
      (f84 n y0 h10).bind fun p15 =>
      zgd (isO p15.2 y0 5) <|
      (f71 n y0 p15.1 p15.2).bind fun p21 => zth p21 (fun r18 h19 =>
        y1.bind fun a22 =>
        (pF h19 a22 3 2 (va_rf r18)).bind fun h23 =>
        f83_32 n  n y0 (some a22) none 0 h23)
        (fun x20 h19 =>
        zgd (exOk x20) <| some (.inr x20, h19)))
      (fun x11 h10 =>
      zgd (exOk x11) <| some (.inr x11, h10)))
    (fun x5 h4 =>
    zgd (exOk x5) <| some (.inr x5, h4))
set_option maxRecDepth 20000 in
theorem t83 {d n : Nat} {Q : zRs → zH → Prop}  {y0 : Nat} {y1 : Option Nat} (hd : 2 ≤ d)  {h : zH} {p : ((Unit ⊕ Nat) × zH)} (hF : f83 n  y0 y1 h = some p) (q : Q (eVx p.1) p.2) : zC d 83 [.ref y0, va_rf y1] h Q := by
  refine zC_of (L := [some (.ref y0), some (va_rf y1), none, none, none, none]) (congrArg (List.cons _) ((zsl_rf _ _).trans (congrArg (List.cons _) rfl))) rfl ?_
  unfold f83 at hF
  obtain ⟨d, rfl⟩ : ∃ e, d = e + 1 := ⟨d - 1, by omega⟩
  refine zx_aload_n rfl rfl rfl ?_
  refine zx_gets rfl rfl rfl ?_
  replace hF := zgd_some hF
  obtain ⟨g1, hF⟩ := hF
  replace hF := zbnd hF
  obtain ⟨⟨r3, h4⟩, e2, hF⟩ := hF
  refine zx_callE rfl rfl rfl rfl (zrcv_isO g1) rfl rfl (zc4 (Nat.le_of_ble_eq_true rfl)) (t71 (by omega) e2 ?_)
  rcases r3 with r3 | x5
  rotate_left 1
  · replace hF := zthH hF
    replace hF := zgd_some hF
    obtain ⟨gx, hF⟩ := hF
    replace hF := Option.some.inj hF
    subst hF
    exact zaX rfl gx q
  replace hF := zthG hF
  refine zaA ?_
  refine zx_pop rfl rfl (zc1_rf _) ?_
  refine zx_aload_n rfl rfl rfl ?_
  refine zx_gets rfl rfl rfl ?_
  replace hF := zgd_some hF
  obtain ⟨g7, hF⟩ := hF
  replace hF := zbnd hF
  obtain ⟨⟨r9, h10⟩, e8, hF⟩ := hF
  refine zx_callE rfl rfl rfl rfl (zrcv_isO g7) rfl rfl (zc4 (Nat.le_of_ble_eq_true rfl)) (t71 (by omega) e8 ?_)
  rcases r9 with r9 | x11
  rotate_left 1
  · replace hF := zthH hF
    replace hF := zgd_some hF
    obtain ⟨gx, hF⟩ := hF
    replace hF := Option.some.inj hF
    subst hF
    exact zaX rfl gx q
  replace hF := zthG hF
  refine zaA ?_
  refine zx_pop rfl rfl (zc1_rf _) ?_
  refine zy_rload_n rfl rfl rfl ?_
  refine zx_aload_n rfl rfl rfl ?_
  refine zx_aload_n rfl rfl rfl ?_
  replace hF := zgd_some hF
  obtain ⟨g13, hF⟩ := hF
  replace hF := zbnd hF
  obtain ⟨p15, e14, hF⟩ := hF
  refine zx_callE rfl rfl rfl rfl (zrcv_isO g13) rfl rfl (zc4 (Nat.le_of_ble_eq_true rfl)) (t84 (by omega) e14 (zaA ?_))
  replace hF := zgd_some hF
  obtain ⟨g16, hF⟩ := hF
  replace hF := zbnd hF
  obtain ⟨⟨r18, h19⟩, e17, hF⟩ := hF
  refine zx_callE rfl rfl rfl rfl (zrcv_isO g16) (congrArg (List.cons _) ((zsl_rf _ _).trans (congrArg (List.cons _) rfl))) rfl (zc4 (Nat.le_of_ble_eq_true rfl)) (t71 (by omega) e17 ?_)
  rcases r18 with r18 | x20
  rotate_left 1
  · replace hF := zthH hF
    replace hF := zgd_some hF
    obtain ⟨gx, hF⟩ := hF
    replace hF := Option.some.inj hF
    subst hF
    exact zaX rfl gx q
  replace hF := zthG hF
  refine zaA ?_
  replace hF := zbnd hF
  obtain ⟨a22, rfl, hF⟩ := hF
  replace hF := zbnd hF
  obtain ⟨h23, e24, hF⟩ := hF
  refine zy_put rfl rfl e24 ?_
  refine zx_null rfl rfl ?_
  refine zx_nstore_n rfl rfl rfl ?_
  refine zx_iconst (v := 0) rfl rfl rfl ?_
  refine zx_istore_n rfl rfl rfl ?_
  exact tf83_32 hd  n (l0 := y0) (l1 := (some a22)) (l2 := none) (l3 := 0) rfl rfl hF q
def f85 (n : Nat)  (y0 : Nat) (y1 : Option Nat) (h : zH) : Option ((Unit ⊕ Nat) × zH) :=
  y1.bind fun a1 =>
  (gR h a1 3 0).bind fun x2 =>
  x2.bind fun a4 =>
  zgd (isO h a4 15) <|
  (f66 n a4 h).bind fun p7 =>
  (aI p7.2 45 p7.1).bind fun x8 =>
  if x8 = 4 then
    zgd (isO p7.2 y0 5) <|
    (f71 n y0 (some 43) p7.2).bind fun p16 => zth p16 (fun r13 h14 =>
      some (.inl (), h14))
      (fun x15 h14 =>
      zgd (exOk x15) <| some (.inr x15, h14))
  else
  if x8 = 5 then
    zgd (isO p7.2 y0 5) <|
    (f71 n y0 (some 36) p7.2).bind fun p23 => zth p23 (fun r20 h21 =>
      zgd (isO h21 y0 5) <|
      (f84 n y0 h21).bind fun p26 =>
      zgd (isO p26.2 y0 5) <|
      (f71 n y0 p26.1 p26.2).bind fun p32 => zth p32 (fun r29 h30 =>
        (pF h30 a1 3 2 (va_rf r29)).bind fun h33 =>
        some (.inl (), h33))
        (fun x31 h30 =>
        zgd (exOk x31) <| some (.inr x31, h30)))
      (fun x22 h21 =>
      zgd (exOk x22) <| some (.inr x22, h21))
  else
  if x8 = 6 then
    (gR p7.2 a1 3 0).bind fun x36 =>
    zgd (isO p7.2 y0 5) <|
    (f71 n y0 x36 p7.2).bind fun p43 => zth p43 (fun r40 h41 =>
      zgd (isO h41 y0 5) <|
      (f71 n y0 (some 4) h41).bind fun p49 => zth p49 (fun r46 h47 =>
        (pF h47 a1 3 2 (va_rf r46)).bind fun h50 =>
        some (.inl (), h50))
        (fun x48 h47 =>
        zgd (exOk x48) <| some (.inr x48, h47)))
      (fun x42 h41 =>
      zgd (exOk x42) <| some (.inr x42, h41))
  else
  if x8 = 7 then
    (gR p7.2 a1 3 0).bind fun x53 =>
    zgd (isO p7.2 y0 5) <|
    (f71 n y0 x53 p7.2).bind fun p60 => zth p60 (fun r57 h58 =>
      zgd (isO h58 y0 5) <|
      (f71 n y0 (some 4) h58).bind fun p66 => zth p66 (fun r63 h64 =>
        (pF h64 a1 3 2 (va_rf r63)).bind fun h67 =>
        some (.inl (), h67))
        (fun x65 h64 =>
        zgd (exOk x65) <| some (.inr x65, h64)))
      (fun x59 h58 =>
      zgd (exOk x59) <| some (.inr x59, h58))
  else
  if x8 = 8 then
    (gR p7.2 a1 3 0).bind fun x70 =>
    zgd (isO p7.2 y0 5) <|
    (f71 n y0 x70 p7.2).bind fun p77 => zth p77 (fun r74 h75 =>
      zgd (isO h75 y0 5) <|
      (f71 n y0 (some 5) h75).bind fun p83 => zth p83 (fun r80 h81 =>
        (pF h81 a1 3 2 (va_rf r80)).bind fun h84 =>
        some (.inl (), h84))
        (fun x82 h81 =>
        zgd (exOk x82) <| some (.inr x82, h81)))
      (fun x76 h75 =>
      zgd (exOk x76) <| some (.inr x76, h75))
  else
  if x8 = 9 then
    (gR p7.2 a1 3 0).bind fun x87 =>
    zgd (isO p7.2 y0 5) <|
    (f71 n y0 x87 p7.2).bind fun p94 => zth p94 (fun r91 h92 =>
      zgd (isO h92 y0 5) <|
      (f71 n y0 (some 5) h92).bind fun p100 => zth p100 (fun r97 h98 =>
        (pF h98 a1 3 2 (va_rf r97)).bind fun h101 =>
        some (.inl (), h101))
        (fun x99 h98 =>
        zgd (exOk x99) <| some (.inr x99, h98)))
      (fun x93 h92 =>
      zgd (exOk x93) <| some (.inr x93, h92))
  else
  if x8 = 10 then
    (gR p7.2 a1 3 0).bind fun x104 =>
    zgd (isO p7.2 y0 5) <|
    (f71 n y0 x104 p7.2).bind fun p111 => zth p111 (fun r108 h109 =>
      zgd (isO h109 y0 5) <|
      (f71 n y0 (some 5) h109).bind fun p117 => zth p117 (fun r114 h115 =>
        (pF h115 a1 3 2 (va_rf r114)).bind fun h118 =>
        some (.inl (), h118))
        (fun x116 h115 =>
        zgd (exOk x116) <| some (.inr x116, h115)))
      (fun x110 h109 =>
      zgd (exOk x110) <| some (.inr x110, h109))
  else
  (gR p7.2 y0 5 3).bind fun x120 =>
  zgd (isO p7.2 y0 5) <|
  (f70 n y0 2 x120 p7.2).bind fun p127 => zth p127 (fun r124 h125 =>
    some (.inl (), h125))
    (fun x126 h125 =>
    zgd (exOk x126) <| some (.inr x126, h125))
set_option maxRecDepth 20000 in
theorem t85 {d n : Nat} {Q : zRs → zH → Prop}  {y0 : Nat} {y1 : Option Nat} (hd : 2 ≤ d)  {h : zH} {p : ((Unit ⊕ Nat) × zH)} (hF : f85 n  y0 y1 h = some p) (q : Q (eVx p.1) p.2) : zC d 85 [.ref y0, va_rf y1] h Q := by
  refine zC_of (L := [some (.ref y0), some (va_rf y1)]) (congrArg (List.cons _) ((zsl_rf _ _).trans (congrArg (List.cons _) rfl))) rfl ?_
  unfold f85 at hF
  obtain ⟨d, rfl⟩ : ∃ e, d = e + 1 := ⟨d - 1, by omega⟩
  refine zx_gets rfl rfl rfl ?_
  refine zy_rload_n rfl rfl rfl ?_
  replace hF := zbnd hF
  obtain ⟨a1, rfl, hF⟩ := hF
  replace hF := zbnd hF
  obtain ⟨x2, e3, hF⟩ := hF
  refine zy_getR rfl rfl e3 ?_
  replace hF := zbnd hF
  obtain ⟨a4, rfl, hF⟩ := hF
  replace hF := zgd_some hF
  obtain ⟨g5, hF⟩ := hF
  replace hF := zbnd hF
  obtain ⟨p7, e6, hF⟩ := hF
  refine zx_callF rfl rfl rfl rfl (zrcv_isO g5) rfl rfl (zc4 (Nat.le_of_ble_eq_true rfl)) (t66 (by omega) e6 (zaI ?_))
  replace hF := zbnd hF
  obtain ⟨x8, e9, hF⟩ := hF
  refine zy_aI rfl rfl e9 ?_
  by_cases c10 : x8 = 4
  · rw [if_pos c10] at hF
    refine zw_switch rfl rfl (t := 52) (by rw [c10]; rfl) ?_
    refine zx_aload_n rfl rfl rfl ?_
    refine zx_gets rfl rfl rfl ?_
    replace hF := zgd_some hF
    obtain ⟨g11, hF⟩ := hF
    replace hF := zbnd hF
    obtain ⟨⟨r13, h14⟩, e12, hF⟩ := hF
    refine zx_callE rfl rfl rfl rfl (zrcv_isO g11) rfl rfl (zc4 (Nat.le_of_ble_eq_true rfl)) (t71 (by omega) e12 ?_)
    rcases r13 with r13 | x15
    rotate_left 1
    · replace hF := zthH hF
      replace hF := zgd_some hF
      obtain ⟨gx, hF⟩ := hF
      replace hF := Option.some.inj hF
      subst hF
      exact zaX rfl gx q
    replace hF := zthG hF
    refine zaA ?_
    refine zx_pop rfl rfl (zc1_rf _) ?_
    refine zx_goto rfl rfl ?_
    replace hF := Option.some.inj hF
    subst hF
    exact zx_return rfl rfl rfl q
  rw [if_neg c10] at hF
  by_cases c17 : x8 = 5
  · rw [if_pos c17] at hF
    refine zw_switch rfl rfl (t := 63) (by rw [c17]; rfl) ?_
    refine zx_aload_n rfl rfl rfl ?_
    refine zx_gets rfl rfl rfl ?_
    replace hF := zgd_some hF
    obtain ⟨g18, hF⟩ := hF
    replace hF := zbnd hF
    obtain ⟨⟨r20, h21⟩, e19, hF⟩ := hF
    refine zx_callE rfl rfl rfl rfl (zrcv_isO g18) rfl rfl (zc4 (Nat.le_of_ble_eq_true rfl)) (t71 (by omega) e19 ?_)
    rcases r20 with r20 | x22
    rotate_left 1
    · replace hF := zthH hF
      replace hF := zgd_some hF
      obtain ⟨gx, hF⟩ := hF
      replace hF := Option.some.inj hF
      subst hF
      exact zaX rfl gx q
    replace hF := zthG hF
    refine zaA ?_
    refine zx_pop rfl rfl (zc1_rf _) ?_
    refine zx_aload_n rfl rfl rfl ?_
    refine zx_aload_n rfl rfl rfl ?_
    refine zx_aload_n rfl rfl rfl ?_
    replace hF := zgd_some hF
    obtain ⟨g24, hF⟩ := hF
    replace hF := zbnd hF
    obtain ⟨p26, e25, hF⟩ := hF
    refine zx_callE rfl rfl rfl rfl (zrcv_isO g24) rfl rfl (zc4 (Nat.le_of_ble_eq_true rfl)) (t84 (by omega) e25 (zaA ?_))
    replace hF := zgd_some hF
    obtain ⟨g27, hF⟩ := hF
    replace hF := zbnd hF
    obtain ⟨⟨r29, h30⟩, e28, hF⟩ := hF
    refine zx_callE rfl rfl rfl rfl (zrcv_isO g27) (congrArg (List.cons _) ((zsl_rf _ _).trans (congrArg (List.cons _) rfl))) rfl (zc4 (Nat.le_of_ble_eq_true rfl)) (t71 (by omega) e28 ?_)
    rcases r29 with r29 | x31
    rotate_left 1
    · replace hF := zthH hF
      replace hF := zgd_some hF
      obtain ⟨gx, hF⟩ := hF
      replace hF := Option.some.inj hF
      subst hF
      exact zaX rfl gx q
    replace hF := zthG hF
    refine zaA ?_
    replace hF := zbnd hF
    obtain ⟨h33, e34, hF⟩ := hF
    refine zy_put rfl rfl e34 ?_
    refine zx_goto rfl rfl ?_
    replace hF := Option.some.inj hF
    subst hF
    exact zx_return rfl rfl rfl q
  rw [if_neg c17] at hF
  by_cases c35 : x8 = 6
  · rw [if_pos c35] at hF
    refine zw_switch rfl rfl (t := 86) (by rw [c35]; rfl) ?_
    refine zx_aload_n rfl rfl rfl ?_
    refine zx_aload_n rfl rfl rfl ?_
    replace hF := zbnd hF
    obtain ⟨x36, e37, hF⟩ := hF
    refine zy_getR rfl rfl e37 ?_
    replace hF := zgd_some hF
    obtain ⟨g38, hF⟩ := hF
    replace hF := zbnd hF
    obtain ⟨⟨r40, h41⟩, e39, hF⟩ := hF
    refine zx_callE rfl rfl rfl rfl (zrcv_isO g38) (congrArg (List.cons _) ((zsl_rf _ _).trans (congrArg (List.cons _) rfl))) rfl (zc4 (Nat.le_of_ble_eq_true rfl)) (t71 (by omega) e39 ?_)
    rcases r40 with r40 | x42
    rotate_left 1
    · replace hF := zthH hF
      replace hF := zgd_some hF
      obtain ⟨gx, hF⟩ := hF
      replace hF := Option.some.inj hF
      subst hF
      exact zaX rfl gx q
    replace hF := zthG hF
    refine zaA ?_
    refine zx_pop rfl rfl (zc1_rf _) ?_
    refine zx_aload_n rfl rfl rfl ?_
    refine zx_aload_n rfl rfl rfl ?_
    refine zx_gets rfl rfl rfl ?_
    replace hF := zgd_some hF
    obtain ⟨g44, hF⟩ := hF
    replace hF := zbnd hF
    obtain ⟨⟨r46, h47⟩, e45, hF⟩ := hF
    refine zx_callE rfl rfl rfl rfl (zrcv_isO g44) rfl rfl (zc4 (Nat.le_of_ble_eq_true rfl)) (t71 (by omega) e45 ?_)
    rcases r46 with r46 | x48
    rotate_left 1
    · replace hF := zthH hF
      replace hF := zgd_some hF
      obtain ⟨gx, hF⟩ := hF
      replace hF := Option.some.inj hF
      subst hF
      exact zaX rfl gx q
    replace hF := zthG hF
    refine zaA ?_
    replace hF := zbnd hF
    obtain ⟨h50, e51, hF⟩ := hF
    refine zy_put rfl rfl e51 ?_
    refine zx_goto rfl rfl ?_
    replace hF := Option.some.inj hF
    subst hF
    exact zx_return rfl rfl rfl q
  rw [if_neg c35] at hF
  by_cases c52 : x8 = 7
  · rw [if_pos c52] at hF
    refine zw_switch rfl rfl (t := 86) (by rw [c52]; rfl) ?_
    refine zx_aload_n rfl rfl rfl ?_
    refine zx_aload_n rfl rfl rfl ?_
    replace hF := zbnd hF
    obtain ⟨x53, e54, hF⟩ := hF
    refine zy_getR rfl rfl e54 ?_
    replace hF := zgd_some hF
    obtain ⟨g55, hF⟩ := hF
    replace hF := zbnd hF
    obtain ⟨⟨r57, h58⟩, e56, hF⟩ := hF
    refine zx_callE rfl rfl rfl rfl (zrcv_isO g55) (congrArg (List.cons _) ((zsl_rf _ _).trans (congrArg (List.cons _) rfl))) rfl (zc4 (Nat.le_of_ble_eq_true rfl)) (t71 (by omega) e56 ?_)
    rcases r57 with r57 | x59
    rotate_left 1
    · replace hF := zthH hF
      replace hF := zgd_some hF
      obtain ⟨gx, hF⟩ := hF
      replace hF := Option.some.inj hF
      subst hF
      exact zaX rfl gx q
    replace hF := zthG hF
    refine zaA ?_
    refine zx_pop rfl rfl (zc1_rf _) ?_
    refine zx_aload_n rfl rfl rfl ?_
    refine zx_aload_n rfl rfl rfl ?_
    refine zx_gets rfl rfl rfl ?_
    replace hF := zgd_some hF
    obtain ⟨g61, hF⟩ := hF
    replace hF := zbnd hF
    obtain ⟨⟨r63, h64⟩, e62, hF⟩ := hF
    refine zx_callE rfl rfl rfl rfl (zrcv_isO g61) rfl rfl (zc4 (Nat.le_of_ble_eq_true rfl)) (t71 (by omega) e62 ?_)
    rcases r63 with r63 | x65
    rotate_left 1
    · replace hF := zthH hF
      replace hF := zgd_some hF
      obtain ⟨gx, hF⟩ := hF
      replace hF := Option.some.inj hF
      subst hF
      exact zaX rfl gx q
    replace hF := zthG hF
    refine zaA ?_
    replace hF := zbnd hF
    obtain ⟨h67, e68, hF⟩ := hF
    refine zy_put rfl rfl e68 ?_
    refine zx_goto rfl rfl ?_
    replace hF := Option.some.inj hF
    subst hF
    exact zx_return rfl rfl rfl q
  rw [if_neg c52] at hF
  by_cases c69 : x8 = 8
  · rw [if_pos c69] at hF
    refine zw_switch rfl rfl (t := 109) (by rw [c69]; rfl) ?_
    refine zx_aload_n rfl rfl rfl ?_
    refine zx_aload_n rfl rfl rfl ?_
    replace hF := zbnd hF
    obtain ⟨x70, e71, hF⟩ := hF
    refine zy_getR rfl rfl e71 ?_
    replace hF := zgd_some hF
    obtain ⟨g72, hF⟩ := hF
    replace hF := zbnd hF
    obtain ⟨⟨r74, h75⟩, e73, hF⟩ := hF
    refine zx_callE rfl rfl rfl rfl (zrcv_isO g72) (congrArg (List.cons _) ((zsl_rf _ _).trans (congrArg (List.cons _) rfl))) rfl (zc4 (Nat.le_of_ble_eq_true rfl)) (t71 (by omega) e73 ?_)
    rcases r74 with r74 | x76
    rotate_left 1
    · replace hF := zthH hF
      replace hF := zgd_some hF
      obtain ⟨gx, hF⟩ := hF
      replace hF := Option.some.inj hF
      subst hF
      exact zaX rfl gx q
    replace hF := zthG hF
    refine zaA ?_
    refine zx_pop rfl rfl (zc1_rf _) ?_
    refine zx_aload_n rfl rfl rfl ?_
    refine zx_aload_n rfl rfl rfl ?_
    refine zx_gets rfl rfl rfl ?_
    replace hF := zgd_some hF
    obtain ⟨g78, hF⟩ := hF
    replace hF := zbnd hF
    obtain ⟨⟨r80, h81⟩, e79, hF⟩ := hF
    refine zx_callE rfl rfl rfl rfl (zrcv_isO g78) rfl rfl (zc4 (Nat.le_of_ble_eq_true rfl)) (t71 (by omega) e79 ?_)
    rcases r80 with r80 | x82
    rotate_left 1
    · replace hF := zthH hF
      replace hF := zgd_some hF
      obtain ⟨gx, hF⟩ := hF
      replace hF := Option.some.inj hF
      subst hF
      exact zaX rfl gx q
    replace hF := zthG hF
    refine zaA ?_
    replace hF := zbnd hF
    obtain ⟨h84, e85, hF⟩ := hF
    refine zy_put rfl rfl e85 ?_
    refine zx_goto rfl rfl ?_
    replace hF := Option.some.inj hF
    subst hF
    exact zx_return rfl rfl rfl q
  rw [if_neg c69] at hF
  by_cases c86 : x8 = 9
  · rw [if_pos c86] at hF
    refine zw_switch rfl rfl (t := 109) (by rw [c86]; rfl) ?_
    refine zx_aload_n rfl rfl rfl ?_
    refine zx_aload_n rfl rfl rfl ?_
    replace hF := zbnd hF
    obtain ⟨x87, e88, hF⟩ := hF
    refine zy_getR rfl rfl e88 ?_
    replace hF := zgd_some hF
    obtain ⟨g89, hF⟩ := hF
    replace hF := zbnd hF
    obtain ⟨⟨r91, h92⟩, e90, hF⟩ := hF
    refine zx_callE rfl rfl rfl rfl (zrcv_isO g89) (congrArg (List.cons _) ((zsl_rf _ _).trans (congrArg (List.cons _) rfl))) rfl (zc4 (Nat.le_of_ble_eq_true rfl)) (t71 (by omega) e90 ?_)
    rcases r91 with r91 | x93
    rotate_left 1
    · replace hF := zthH hF
      replace hF := zgd_some hF
      obtain ⟨gx, hF⟩ := hF
      replace hF := Option.some.inj hF
      subst hF
      exact zaX rfl gx q
    replace hF := zthG hF
    refine zaA ?_
    refine zx_pop rfl rfl (zc1_rf _) ?_
    refine zx_aload_n rfl rfl rfl ?_
    refine zx_aload_n rfl rfl rfl ?_
    refine zx_gets rfl rfl rfl ?_
    replace hF := zgd_some hF
    obtain ⟨g95, hF⟩ := hF
    replace hF := zbnd hF
    obtain ⟨⟨r97, h98⟩, e96, hF⟩ := hF
    refine zx_callE rfl rfl rfl rfl (zrcv_isO g95) rfl rfl (zc4 (Nat.le_of_ble_eq_true rfl)) (t71 (by omega) e96 ?_)
    rcases r97 with r97 | x99
    rotate_left 1
    · replace hF := zthH hF
      replace hF := zgd_some hF
      obtain ⟨gx, hF⟩ := hF
      replace hF := Option.some.inj hF
      subst hF
      exact zaX rfl gx q
    replace hF := zthG hF
    refine zaA ?_
    replace hF := zbnd hF
    obtain ⟨h101, e102, hF⟩ := hF
    refine zy_put rfl rfl e102 ?_
    refine zx_goto rfl rfl ?_
    replace hF := Option.some.inj hF
    subst hF
    exact zx_return rfl rfl rfl q
  rw [if_neg c86] at hF
  by_cases c103 : x8 = 10
  · rw [if_pos c103] at hF
    refine zw_switch rfl rfl (t := 109) (by rw [c103]; rfl) ?_
    refine zx_aload_n rfl rfl rfl ?_
    refine zx_aload_n rfl rfl rfl ?_
    replace hF := zbnd hF
    obtain ⟨x104, e105, hF⟩ := hF
    refine zy_getR rfl rfl e105 ?_
    replace hF := zgd_some hF
    obtain ⟨g106, hF⟩ := hF
    replace hF := zbnd hF
    obtain ⟨⟨r108, h109⟩, e107, hF⟩ := hF
    refine zx_callE rfl rfl rfl rfl (zrcv_isO g106) (congrArg (List.cons _) ((zsl_rf _ _).trans (congrArg (List.cons _) rfl))) rfl (zc4 (Nat.le_of_ble_eq_true rfl)) (t71 (by omega) e107 ?_)
    rcases r108 with r108 | x110
    rotate_left 1
    · replace hF := zthH hF
      replace hF := zgd_some hF
      obtain ⟨gx, hF⟩ := hF
      replace hF := Option.some.inj hF
      subst hF
      exact zaX rfl gx q
    replace hF := zthG hF
    refine zaA ?_
    refine zx_pop rfl rfl (zc1_rf _) ?_
    refine zx_aload_n rfl rfl rfl ?_
    refine zx_aload_n rfl rfl rfl ?_
    refine zx_gets rfl rfl rfl ?_
    replace hF := zgd_some hF
    obtain ⟨g112, hF⟩ := hF
    replace hF := zbnd hF
    obtain ⟨⟨r114, h115⟩, e113, hF⟩ := hF
    refine zx_callE rfl rfl rfl rfl (zrcv_isO g112) rfl rfl (zc4 (Nat.le_of_ble_eq_true rfl)) (t71 (by omega) e113 ?_)
    rcases r114 with r114 | x116
    rotate_left 1
    · replace hF := zthH hF
      replace hF := zgd_some hF
      obtain ⟨gx, hF⟩ := hF
      replace hF := Option.some.inj hF
      subst hF
      exact zaX rfl gx q
    replace hF := zthG hF
    refine zaA ?_
    replace hF := zbnd hF
    obtain ⟨h118, e119, hF⟩ := hF
    refine zy_put rfl rfl e119 ?_
    refine zx_goto rfl rfl ?_
    replace hF := Option.some.inj hF
    subst hF
    exact zx_return rfl rfl rfl q
  rw [if_neg c103] at hF
  have zc10 := zne c10 (z := 4) (by decide)
  have zc17 := zne c17 (z := 5) (by decide)
  have zc35 := zne c35 (z := 6) (by decide)
  have zc52 := zne c52 (z := 7) (by decide)
  have zc69 := zne c69 (z := 8) (by decide)
  have zc86 := zne c86 (z := 9) (by decide)
  have zc103 := zne c103 (z := 10) (by decide)
  refine zw_switch rfl rfl (t := 132) (zsw_d (by omega) (by decide) (by decide)) ?_
  refine zx_aload_n rfl rfl rfl ?_
  refine zx_iconst (v := 2) rfl rfl rfl ?_
  refine zx_aload_n rfl rfl rfl ?_
  replace hF := zbnd hF
  obtain ⟨x120, e121, hF⟩ := hF
  refine zy_getR rfl rfl e121 ?_
  replace hF := zgd_some hF
  obtain ⟨g122, hF⟩ := hF
  replace hF := zbnd hF
  obtain ⟨⟨r124, h125⟩, e123, hF⟩ := hF
  refine zx_callE rfl rfl rfl rfl (zrcv_isO g122) (congrArg (List.cons _) (congrArg (List.cons _) ((zsl_rf _ _).trans (congrArg (List.cons _) rfl)))) rfl (zc4 (Nat.le_of_ble_eq_true rfl)) (t70 (by omega) e123 ?_)
  rcases r124 with r124 | x126
  rotate_left 1
  · replace hF := zthH hF
    replace hF := zgd_some hF
    obtain ⟨gx, hF⟩ := hF
    replace hF := Option.some.inj hF
    subst hF
    exact zaX rfl gx q
  replace hF := zthG hF
  refine zaV (x := ()) ?_
  replace hF := Option.some.inj hF
  subst hF
  exact zx_return rfl rfl rfl q
def b77_108 (n : Nat) (g77 : Nat → Option Nat → Int32 → zH → Option ((Option Nat ⊕ Nat) × zH)) (g78 : Nat → Int32 → zH → Option ((Option Nat ⊕ Nat) × zH)) (r60 : Nat → Option Nat → Int32 → Option Nat → Option Nat → Option Nat → Int32 → zH → Option ((Option Nat ⊕ Nat) × zH)) (l0 : Nat) (l1 : Option Nat) (l2 : Int32) (l3 : Option Nat) (l4 : Option Nat) (l5 : Option Nat) (l6 : Int32) (s0 : Option Nat) (h : zH) : Option ((Option Nat ⊕ Nat) × zH) :=
  l5.bind fun a1 =>
  (pF h a1 3 5 (va_rf s0)).bind fun h2 =>
  r60 l0 l1 l2 l3 l4 s0 (l6 + 1) h2
set_option maxRecDepth 20000 in
theorem tb77_108 {d n : Nat} {dk : Nat} {Q : zRs → zH → Prop} {g77 : Nat → Option Nat → Int32 → zH → Option ((Option Nat ⊕ Nat) × zH)} {g78 : Nat → Int32 → zH → Option ((Option Nat ⊕ Nat) × zH)} {r60 : Nat → Option Nat → Int32 → Option Nat → Option Nat → Option Nat → Int32 → zH → Option ((Option Nat ⊕ Nat) × zH)} {l0 : Nat} {l1 : Option Nat} {l2 : Int32} {l3 : Option Nat} {l4 : Option Nat} {l5 : Option Nat} {l6 : Int32} {s0 : Option Nat} {x7 : Option Value} (hd : 5 ≤ d ∧ dk + 1 ≤ d) (hg77 : ∀ {d' : Nat}, dk ≤ d' → ∀ {y0 : Nat} {y1 : Option Nat} {y2 : Int32} {h : zH} {p : ((Option Nat ⊕ Nat) × zH)} {Q : zRs → zH → Prop}, g77 y0 y1 y2 h = some p → Q (eAx p.1) p.2 → zC d' 77 [.ref y0, va_rf y1, .int y2] h Q) (hg78 : ∀ {d' : Nat}, dk ≤ d' → ∀ {y0 : Nat} {y1 : Int32} {h : zH} {p : ((Option Nat ⊕ Nat) × zH)} {Q : zRs → zH → Prop}, g78 y0 y1 h = some p → Q (eAx p.1) p.2 → zC d' 78 [.ref y0, .int y1] h Q) (hr60 : ∀ {l0 : Nat} {l1 : Option Nat} {l2 : Int32} {l3 : Option Nat} {l4 : Option Nat} {l5 : Option Nat} {l6 : Int32}  {x7 : Option Value} {h : zH} {p : ((Option Nat ⊕ Nat) × zH)}, zn2 x7 = true → r60 l0 l1 l2 l3 l4 l5 l6 h = some p → Q (eAx p.1) p.2 → zW d 77 60 [some (.ref l0), some (va_rf l1), some (.int l2), some (va_rf l3), some (va_rf l4), some (va_rf l5), some (.int l6), x7] [] h Q) {h : zH} {p : ((Option Nat ⊕ Nat) × zH)} (hx7 : zn2 x7 = true) (hF : b77_108 n g77 g78 r60 l0 l1 l2 l3 l4 l5 l6 s0 h = some p) (q : Q (eAx p.1) p.2) : zW d 77 108 [some (.ref l0), some (va_rf l1), some (.int l2), some (va_rf l3), some (va_rf l4), some (va_rf l5), some (.int l6), x7] [va_rf s0] h Q := by
  unfold b77_108 at hF
  obtain ⟨d, rfl⟩ : ∃ e, d = e + 1 := ⟨d - 1, by omega⟩
  refine zy_rstore rfl rfl rfl ?_
  refine zy_rload rfl rfl rfl ?_
  refine zy_rload rfl rfl rfl ?_
  replace hF := zbnd hF
  obtain ⟨a1, rfl, hF⟩ := hF
  replace hF := zbnd hF
  obtain ⟨h2, e3, hF⟩ := hF
  refine zy_put rfl rfl e3 ?_
  refine zy_rload rfl rfl rfl ?_
  refine zy_rstore rfl rfl (zput_ok (L' := [some (.ref l0), some (va_rf l1), some (.int l2), some (va_rf l3), some (va_rf l4), some (va_rf s0), some (.int l6), some (va_rf s0)]) rfl (zcl_X (j := 4) rfl (zn2_rf _)) rfl) ?_
  refine zx_iinc (w := 1) rfl rfl rfl rfl (zput_ok (L' := [some (.ref l0), some (va_rf l1), some (.int l2), some (va_rf l3), some (va_rf l4), some (va_rf s0), some (.int (l6 + 1)), some (va_rf s0)]) rfl (zcl_X (j := 5) rfl (zn2_rf _)) rfl) ?_
  refine zx_goto rfl rfl ?_
  exact hr60 (zn2_rf _) hF q
def b77_60 (n : Nat) (g77 : Nat → Option Nat → Int32 → zH → Option ((Option Nat ⊕ Nat) × zH)) (g78 : Nat → Int32 → zH → Option ((Option Nat ⊕ Nat) × zH)) (r60 : Nat → Option Nat → Int32 → Option Nat → Option Nat → Option Nat → Int32 → zH → Option ((Option Nat ⊕ Nat) × zH)) (l0 : Nat) (l1 : Option Nat) (l2 : Int32) (l3 : Option Nat) (l4 : Option Nat) (l5 : Option Nat) (l6 : Int32) (h : zH) : Option ((Option Nat ⊕ Nat) × zH) :=
  if (400 : Int32) < l6 then
    some (.inl l4, h)
  else
    (gR h l0 5 3).bind fun x2 =>
    x2.bind fun a4 =>
    (gR h a4 9 0).bind fun x5 =>
    (rEq x5 l1).bind fun b7 =>
    if b7 = true then
      zgd (isO h l0 5) <|
      (f71 n l0 l1 h).bind fun p15 => zth p15 (fun r12 h13 =>
        (rEq l1 (some 32)).bind fun b16 =>
        if b16 = true then
          zgd (isO h13 l0 5) <|
          (g77 l0 (some 33) l2 h13).bind fun p24 => zth p24 (fun r21 h22 =>
            b77_108 n g77 g78 r60 l0 l1 l2 l3 l4 l5 l6 r21 h22)
            (fun x23 h22 =>
            zgd (exOk x23) <| some (.inr x23, h22))
        else
          zgd (isO h13 l0 5) <|
          (g78 l0 l2 h13).bind fun p30 => zth p30 (fun r27 h28 =>
            b77_108 n g77 g78 r60 l0 l1 l2 l3 l4 l5 l6 r27 h28)
            (fun x29 h28 =>
            zgd (exOk x29) <| some (.inr x29, h28)))
        (fun x14 h13 =>
        zgd (exOk x14) <| some (.inr x14, h13))
    else
      some (.inl l4, h)
set_option maxRecDepth 20000 in
theorem tb77_60 {d n : Nat} {dk : Nat} {Q : zRs → zH → Prop} {g77 : Nat → Option Nat → Int32 → zH → Option ((Option Nat ⊕ Nat) × zH)} {g78 : Nat → Int32 → zH → Option ((Option Nat ⊕ Nat) × zH)} {r60 : Nat → Option Nat → Int32 → Option Nat → Option Nat → Option Nat → Int32 → zH → Option ((Option Nat ⊕ Nat) × zH)} {l0 : Nat} {l1 : Option Nat} {l2 : Int32} {l3 : Option Nat} {l4 : Option Nat} {l5 : Option Nat} {l6 : Int32}  {x7 : Option Value} (hd : 5 ≤ d ∧ dk + 1 ≤ d) (hg77 : ∀ {d' : Nat}, dk ≤ d' → ∀ {y0 : Nat} {y1 : Option Nat} {y2 : Int32} {h : zH} {p : ((Option Nat ⊕ Nat) × zH)} {Q : zRs → zH → Prop}, g77 y0 y1 y2 h = some p → Q (eAx p.1) p.2 → zC d' 77 [.ref y0, va_rf y1, .int y2] h Q) (hg78 : ∀ {d' : Nat}, dk ≤ d' → ∀ {y0 : Nat} {y1 : Int32} {h : zH} {p : ((Option Nat ⊕ Nat) × zH)} {Q : zRs → zH → Prop}, g78 y0 y1 h = some p → Q (eAx p.1) p.2 → zC d' 78 [.ref y0, .int y1] h Q) (hr60 : ∀ {l0 : Nat} {l1 : Option Nat} {l2 : Int32} {l3 : Option Nat} {l4 : Option Nat} {l5 : Option Nat} {l6 : Int32}  {x7 : Option Value} {h : zH} {p : ((Option Nat ⊕ Nat) × zH)}, zn2 x7 = true → r60 l0 l1 l2 l3 l4 l5 l6 h = some p → Q (eAx p.1) p.2 → zW d 77 60 [some (.ref l0), some (va_rf l1), some (.int l2), some (va_rf l3), some (va_rf l4), some (va_rf l5), some (.int l6), x7] [] h Q) {h : zH} {p : ((Option Nat ⊕ Nat) × zH)} (hx7 : zn2 x7 = true) (hF : b77_60 n g77 g78 r60 l0 l1 l2 l3 l4 l5 l6 h = some p) (q : Q (eAx p.1) p.2) : zW d 77 60 [some (.ref l0), some (va_rf l1), some (.int l2), some (va_rf l3), some (va_rf l4), some (va_rf l5), some (.int l6), x7] [] h Q := by
  unfold b77_60 at hF
  obtain ⟨d, rfl⟩ : ∃ e, d = e + 1 := ⟨d - 1, by omega⟩
  refine zx_iload rfl rfl rfl ?_
  refine zx_sipush (v := 400) rfl rfl rfl ?_
  refine zx_ic_gt rfl rfl (fun c1 => ?_) (fun c1 => ?_)
  · rw [if_pos c1] at hF
    refine zy_rload rfl rfl rfl ?_
    replace hF := Option.some.inj hF
    subst hF
    exact zy_areturn (r := l4) rfl rfl rfl rfl q
  · rw [if_neg c1] at hF
    refine zx_aload_n rfl rfl rfl ?_
    replace hF := zbnd hF
    obtain ⟨x2, e3, hF⟩ := hF
    refine zy_getR rfl rfl e3 ?_
    replace hF := zbnd hF
    obtain ⟨a4, rfl, hF⟩ := hF
    replace hF := zbnd hF
    obtain ⟨x5, e6, hF⟩ := hF
    refine zy_getR rfl rfl e6 ?_
    refine zy_rload_n rfl rfl rfl ?_
    replace hF := zbnd hF
    obtain ⟨b7, e8, hF⟩ := hF
    refine zy_ane rfl rfl e8 (fun c9 => ?_) (fun c9 => ?_)
    · rw [if_neg (by rw [c9]; exact Bool.false_ne_true)] at hF
      refine zy_rload rfl rfl rfl ?_
      replace hF := Option.some.inj hF
      subst hF
      exact zy_areturn (r := l4) rfl rfl rfl rfl q
    · rw [if_pos c9] at hF
      refine zx_aload_n rfl rfl rfl ?_
      refine zy_rload_n rfl rfl rfl ?_
      replace hF := zgd_some hF
      obtain ⟨g10, hF⟩ := hF
      replace hF := zbnd hF
      obtain ⟨⟨r12, h13⟩, e11, hF⟩ := hF
      refine zx_callE rfl rfl rfl rfl (zrcv_isO g10) (congrArg (List.cons _) ((zsl_rf _ _).trans (congrArg (List.cons _) rfl))) rfl (zc4 (Nat.le_of_ble_eq_true rfl)) (t71 (by omega) e11 ?_)
      rcases r12 with r12 | x14
      rotate_left 1
      · replace hF := zthH hF
        replace hF := zgd_some hF
        obtain ⟨gx, hF⟩ := hF
        replace hF := Option.some.inj hF
        subst hF
        exact zaX rfl gx q
      replace hF := zthG hF
      refine zaA ?_
      refine zx_pop rfl rfl (zc1_rf _) ?_
      refine zy_rload_n rfl rfl rfl ?_
      refine zx_gets rfl rfl rfl ?_
      replace hF := zbnd hF
      obtain ⟨b16, e17, hF⟩ := hF
      refine zy_ane rfl rfl e17 (fun c18 => ?_) (fun c18 => ?_)
      · rw [if_neg (by rw [c18]; exact Bool.false_ne_true)] at hF
        refine zx_aload_n rfl rfl rfl ?_
        refine zx_iload_n rfl rfl rfl ?_
        replace hF := zgd_some hF
        obtain ⟨g25, hF⟩ := hF
        replace hF := zbnd hF
        obtain ⟨⟨r27, h28⟩, e26, hF⟩ := hF
        refine zx_callE rfl rfl rfl rfl (zrcv_isO g25) rfl rfl (zc4 (Nat.le_of_ble_eq_true rfl)) (hg78 (by omega) e26 ?_)
        rcases r27 with r27 | x29
        rotate_left 1
        · replace hF := zthH hF
          replace hF := zgd_some hF
          obtain ⟨gx, hF⟩ := hF
          replace hF := Option.some.inj hF
          subst hF
          exact zaX rfl gx q
        replace hF := zthG hF
        refine zaA ?_
        exact tb77_108 (l0 := l0) (l1 := l1) (l2 := l2) (l3 := l3) (l4 := l4) (l5 := l5) (l6 := l6) (s0 := r27) hd hg77 hg78 hr60 hx7 hF q
      · rw [if_pos c18] at hF
        refine zx_aload_n rfl rfl rfl ?_
        refine zx_gets rfl rfl rfl ?_
        refine zx_iload_n rfl rfl rfl ?_
        replace hF := zgd_some hF
        obtain ⟨g19, hF⟩ := hF
        replace hF := zbnd hF
        obtain ⟨⟨r21, h22⟩, e20, hF⟩ := hF
        refine zx_callE rfl rfl rfl rfl (zrcv_isO g19) rfl rfl (zc4 (Nat.le_of_ble_eq_true rfl)) (hg77 (by omega) e20 ?_)
        rcases r21 with r21 | x23
        rotate_left 1
        · replace hF := zthH hF
          replace hF := zgd_some hF
          obtain ⟨gx, hF⟩ := hF
          replace hF := Option.some.inj hF
          subst hF
          exact zaX rfl gx q
        replace hF := zthG hF
        refine zaA ?_
        refine zx_goto rfl rfl ?_
        exact tb77_108 (l0 := l0) (l1 := l1) (l2 := l2) (l3 := l3) (l4 := l4) (l5 := l5) (l6 := l6) (s0 := r21) hd hg77 hg78 hr60 hx7 hF q
def f77_60 (n : Nat) (g77 : Nat → Option Nat → Int32 → zH → Option ((Option Nat ⊕ Nat) × zH)) (g78 : Nat → Int32 → zH → Option ((Option Nat ⊕ Nat) × zH))  (k : Nat) : Nat → Option Nat → Int32 → Option Nat → Option Nat → Option Nat → Int32 → zH → Option ((Option Nat ⊕ Nat) × zH) := Nat.rec (fun _ _ _ _ _ _ _ _ => none) (fun _ ih => b77_60 n g77 g78 ih) k
theorem tf77_60 {d n : Nat} {dk : Nat} {Q : zRs → zH → Prop} {g77 : Nat → Option Nat → Int32 → zH → Option ((Option Nat ⊕ Nat) × zH)} {g78 : Nat → Int32 → zH → Option ((Option Nat ⊕ Nat) × zH)}  (hd : 5 ≤ d ∧ dk + 1 ≤ d) (hg77 : ∀ {d' : Nat}, dk ≤ d' → ∀ {y0 : Nat} {y1 : Option Nat} {y2 : Int32} {h : zH} {p : ((Option Nat ⊕ Nat) × zH)} {Q : zRs → zH → Prop}, g77 y0 y1 y2 h = some p → Q (eAx p.1) p.2 → zC d' 77 [.ref y0, va_rf y1, .int y2] h Q) (hg78 : ∀ {d' : Nat}, dk ≤ d' → ∀ {y0 : Nat} {y1 : Int32} {h : zH} {p : ((Option Nat ⊕ Nat) × zH)} {Q : zRs → zH → Prop}, g78 y0 y1 h = some p → Q (eAx p.1) p.2 → zC d' 78 [.ref y0, .int y1] h Q)  (k : Nat) : ∀ {l0 : Nat} {l1 : Option Nat} {l2 : Int32} {l3 : Option Nat} {l4 : Option Nat} {l5 : Option Nat} {l6 : Int32}  {x7 : Option Value} {h : zH} {p : ((Option Nat ⊕ Nat) × zH)}, zn2 x7 = true → f77_60 n g77 g78  k l0 l1 l2 l3 l4 l5 l6 h = some p → Q (eAx p.1) p.2 → zW d 77 60 [some (.ref l0), some (va_rf l1), some (.int l2), some (va_rf l3), some (va_rf l4), some (va_rf l5), some (.int l6), x7] [] h Q := by
  induction k with
  | zero => intros; rename_i hF _; cases hF
  | succ k ih => intros; rename_i hx7 hF q; exact tb77_60 (n := n) hd hg77 hg78 ih hx7 hF q
def b77_23 (n : Nat) (g77 : Nat → Option Nat → Int32 → zH → Option ((Option Nat ⊕ Nat) × zH)) (g78 : Nat → Int32 → zH → Option ((Option Nat ⊕ Nat) × zH))  (l0 : Nat) (l1 : Option Nat) (l2 : Int32) (s0 : Option Nat) (h : zH) : Option ((Option Nat ⊕ Nat) × zH) :=
  (gR h l0 5 3).bind fun x1 =>
  x1.bind fun a3 =>
  (gR h a3 9 0).bind fun x4 =>
  (rEq x4 l1).bind fun b6 =>
  if b6 = true then
    (gR h l0 5 3).bind fun x9 =>
    zgd (isO h l0 5) <|
    (f79 n l0 l1 x9 h).bind fun p16 => zth p16 (fun r13 h14 =>
      r13.bind fun a17 =>
      (pF h14 a17 3 4 (va_rf s0)).bind fun h18 =>
      f77_60 n g77 g78 n l0 l1 l2 s0 (some a17) s0 0 h18)
      (fun x15 h14 =>
      zgd (exOk x15) <| some (.inr x15, h14))
  else
    some (.inl s0, h)
set_option maxRecDepth 20000 in
theorem tb77_23 {d n : Nat} {dk : Nat} {Q : zRs → zH → Prop} {g77 : Nat → Option Nat → Int32 → zH → Option ((Option Nat ⊕ Nat) × zH)} {g78 : Nat → Int32 → zH → Option ((Option Nat ⊕ Nat) × zH)}  {l0 : Nat} {l1 : Option Nat} {l2 : Int32} {s0 : Option Nat} {x3 : Option Value} {x4 : Option Value} {x5 : Option Value} {x6 : Option Value} {x7 : Option Value} (hd : 5 ≤ d ∧ dk + 1 ≤ d) (hg77 : ∀ {d' : Nat}, dk ≤ d' → ∀ {y0 : Nat} {y1 : Option Nat} {y2 : Int32} {h : zH} {p : ((Option Nat ⊕ Nat) × zH)} {Q : zRs → zH → Prop}, g77 y0 y1 y2 h = some p → Q (eAx p.1) p.2 → zC d' 77 [.ref y0, va_rf y1, .int y2] h Q) (hg78 : ∀ {d' : Nat}, dk ≤ d' → ∀ {y0 : Nat} {y1 : Int32} {h : zH} {p : ((Option Nat ⊕ Nat) × zH)} {Q : zRs → zH → Prop}, g78 y0 y1 h = some p → Q (eAx p.1) p.2 → zC d' 78 [.ref y0, .int y1] h Q)  {h : zH} {p : ((Option Nat ⊕ Nat) × zH)} (hx3 : zn2 x3 = true) (hx4 : zn2 x4 = true) (hx5 : zn2 x5 = true) (hx6 : zn2 x6 = true) (hx7 : zn2 x7 = true) (hF : b77_23 n g77 g78  l0 l1 l2 s0 h = some p) (q : Q (eAx p.1) p.2) : zW d 77 23 [some (.ref l0), some (va_rf l1), some (.int l2), x3, x4, x5, x6, x7] [va_rf s0] h Q := by
  unfold b77_23 at hF
  obtain ⟨d, rfl⟩ : ∃ e, d = e + 1 := ⟨d - 1, by omega⟩
  refine zy_rstore_n rfl rfl rfl ?_
  refine zx_aload_n rfl rfl rfl ?_
  replace hF := zbnd hF
  obtain ⟨x1, e2, hF⟩ := hF
  refine zy_getR rfl rfl e2 ?_
  replace hF := zbnd hF
  obtain ⟨a3, rfl, hF⟩ := hF
  replace hF := zbnd hF
  obtain ⟨x4, e5, hF⟩ := hF
  refine zy_getR rfl rfl e5 ?_
  refine zy_rload_n rfl rfl rfl ?_
  replace hF := zbnd hF
  obtain ⟨b6, e7, hF⟩ := hF
  refine zy_aeq rfl rfl e7 (fun c8 => ?_) (fun c8 => ?_)
  · rw [if_pos c8] at hF
    refine zx_aload_n rfl rfl rfl ?_
    refine zy_rload_n rfl rfl rfl ?_
    refine zx_aload_n rfl rfl rfl ?_
    replace hF := zbnd hF
    obtain ⟨x9, e10, hF⟩ := hF
    refine zy_getR rfl rfl e10 ?_
    replace hF := zgd_some hF
    obtain ⟨g11, hF⟩ := hF
    replace hF := zbnd hF
    obtain ⟨⟨r13, h14⟩, e12, hF⟩ := hF
    refine zx_callE rfl rfl rfl rfl (zrcv_isO g11) (congrArg (List.cons _) ((zsl_rf _ _).trans (congrArg (List.cons _) ((zsl_rf _ _).trans (congrArg (List.cons _) rfl))))) rfl (zc4 (Nat.le_of_ble_eq_true rfl)) (t79 (by omega) e12 ?_)
    rcases r13 with r13 | x15
    rotate_left 1
    · replace hF := zthH hF
      replace hF := zgd_some hF
      obtain ⟨gx, hF⟩ := hF
      replace hF := Option.some.inj hF
      subst hF
      exact zaX rfl gx q
    replace hF := zthG hF
    refine zaA ?_
    refine zy_rstore rfl rfl (zput_ok (L' := [some (.ref l0), some (va_rf l1), some (.int l2), some (va_rf s0), some (va_rf r13), x5, x6, x7]) rfl (zcl_X (j := 3) rfl (zn2_rf _)) rfl) ?_
    refine zy_rload rfl rfl rfl ?_
    refine zy_rload_n rfl rfl rfl ?_
    replace hF := zbnd hF
    obtain ⟨a17, rfl, hF⟩ := hF
    replace hF := zbnd hF
    obtain ⟨h18, e19, hF⟩ := hF
    refine zy_put rfl rfl e19 ?_
    refine zy_rload_n rfl rfl rfl ?_
    refine zy_rstore rfl rfl rfl ?_
    refine zx_iconst (v := 0) rfl rfl rfl ?_
    refine zx_istore rfl rfl (zput_ok (L' := [some (.ref l0), some (va_rf l1), some (.int l2), some (va_rf s0), some (.ref a17), some (va_rf s0), some (.int 0), x7]) rfl (zcl_X (j := 5) rfl (zn2_rf _)) rfl) ?_
    exact tf77_60 hd hg77 hg78 n (l0 := l0) (l1 := l1) (l2 := l2) (l3 := s0) (l4 := (some a17)) (l5 := s0) (l6 := 0) hx7 hF q
  · rw [if_neg (by rw [c8]; exact Bool.false_ne_true)] at hF
    refine zy_rload_n rfl rfl rfl ?_
    replace hF := Option.some.inj hF
    subst hF
    exact zy_areturn (r := s0) rfl rfl rfl rfl q
def b77 (n : Nat) (g77 : Nat → Option Nat → Int32 → zH → Option ((Option Nat ⊕ Nat) × zH)) (g78 : Nat → Int32 → zH → Option ((Option Nat ⊕ Nat) × zH)) (y0 : Nat) (y1 : Option Nat) (y2 : Int32) (h : zH) : Option ((Option Nat ⊕ Nat) × zH) :=
  (rEq y1 (some 32)).bind fun b1 =>
  if b1 = true then
    zgd (isO h y0 5) <|
    (g77 y0 (some 33) y2 h).bind fun p9 => zth p9 (fun r6 h7 =>
      b77_23 n g77 g78 y0 y1 y2 r6 h7)
      (fun x8 h7 =>
      zgd (exOk x8) <| some (.inr x8, h7))
  else
    zgd (isO h y0 5) <|
    (g78 y0 y2 h).bind fun p15 => zth p15 (fun r12 h13 =>
      b77_23 n g77 g78 y0 y1 y2 r12 h13)
      (fun x14 h13 =>
      zgd (exOk x14) <| some (.inr x14, h13))
set_option maxRecDepth 20000 in
theorem tb77 {d n : Nat} {dk : Nat} {Q : zRs → zH → Prop} {g77 : Nat → Option Nat → Int32 → zH → Option ((Option Nat ⊕ Nat) × zH)} {g78 : Nat → Int32 → zH → Option ((Option Nat ⊕ Nat) × zH)} {y0 : Nat} {y1 : Option Nat} {y2 : Int32} (hd : 5 ≤ d ∧ dk + 1 ≤ d) (hg77 : ∀ {d' : Nat}, dk ≤ d' → ∀ {y0 : Nat} {y1 : Option Nat} {y2 : Int32} {h : zH} {p : ((Option Nat ⊕ Nat) × zH)} {Q : zRs → zH → Prop}, g77 y0 y1 y2 h = some p → Q (eAx p.1) p.2 → zC d' 77 [.ref y0, va_rf y1, .int y2] h Q) (hg78 : ∀ {d' : Nat}, dk ≤ d' → ∀ {y0 : Nat} {y1 : Int32} {h : zH} {p : ((Option Nat ⊕ Nat) × zH)} {Q : zRs → zH → Prop}, g78 y0 y1 h = some p → Q (eAx p.1) p.2 → zC d' 78 [.ref y0, .int y1] h Q) {h : zH} {p : ((Option Nat ⊕ Nat) × zH)} (hF : b77 n g77 g78 y0 y1 y2 h = some p) (q : Q (eAx p.1) p.2) : zC d 77 [.ref y0, va_rf y1, .int y2] h Q := by
  refine zC_of (L := [some (.ref y0), some (va_rf y1), some (.int y2), none, none, none, none, none]) (congrArg (List.cons _) ((zsl_rf _ _).trans (congrArg (List.cons _) rfl))) rfl ?_
  unfold b77 at hF
  obtain ⟨d, rfl⟩ : ∃ e, d = e + 1 := ⟨d - 1, by omega⟩
  refine zy_rload_n rfl rfl rfl ?_
  refine zx_gets rfl rfl rfl ?_
  replace hF := zbnd hF
  obtain ⟨b1, e2, hF⟩ := hF
  refine zy_ane rfl rfl e2 (fun c3 => ?_) (fun c3 => ?_)
  · rw [if_neg (by rw [c3]; exact Bool.false_ne_true)] at hF
    refine zx_aload_n rfl rfl rfl ?_
    refine zx_iload_n rfl rfl rfl ?_
    replace hF := zgd_some hF
    obtain ⟨g10, hF⟩ := hF
    replace hF := zbnd hF
    obtain ⟨⟨r12, h13⟩, e11, hF⟩ := hF
    refine zx_callE rfl rfl rfl rfl (zrcv_isO g10) rfl rfl (zc4 (Nat.le_of_ble_eq_true rfl)) (hg78 (by omega) e11 ?_)
    rcases r12 with r12 | x14
    rotate_left 1
    · replace hF := zthH hF
      replace hF := zgd_some hF
      obtain ⟨gx, hF⟩ := hF
      replace hF := Option.some.inj hF
      subst hF
      exact zaX rfl gx q
    replace hF := zthG hF
    refine zaA ?_
    exact tb77_23 (l0 := y0) (l1 := y1) (l2 := y2) (s0 := r12) hd hg77 hg78 rfl rfl rfl rfl rfl hF q
  · rw [if_pos c3] at hF
    refine zx_aload_n rfl rfl rfl ?_
    refine zx_gets rfl rfl rfl ?_
    refine zx_iload_n rfl rfl rfl ?_
    replace hF := zgd_some hF
    obtain ⟨g4, hF⟩ := hF
    replace hF := zbnd hF
    obtain ⟨⟨r6, h7⟩, e5, hF⟩ := hF
    refine zx_callE rfl rfl rfl rfl (zrcv_isO g4) rfl rfl (zc4 (Nat.le_of_ble_eq_true rfl)) (hg77 (by omega) e5 ?_)
    rcases r6 with r6 | x8
    rotate_left 1
    · replace hF := zthH hF
      replace hF := zgd_some hF
      obtain ⟨gx, hF⟩ := hF
      replace hF := Option.some.inj hF
      subst hF
      exact zaX rfl gx q
    replace hF := zthG hF
    refine zaA ?_
    refine zx_goto rfl rfl ?_
    exact tb77_23 (l0 := y0) (l1 := y1) (l2 := y2) (s0 := r6) hd hg77 hg78 rfl rfl rfl rfl rfl hF q
def b78_122 (n : Nat) (g77 : Nat → Option Nat → Int32 → zH → Option ((Option Nat ⊕ Nat) × zH)) (g78 : Nat → Int32 → zH → Option ((Option Nat ⊕ Nat) × zH))  (l0 : Nat) (l1 : Int32) (l2 : Option Nat) (h : zH) : Option ((Option Nat ⊕ Nat) × zH) :=
  zgd (isO h l0 5) <|
  (f71 n l0 l2 h).bind fun p6 => zth p6 (fun r3 h4 =>
    zgd (isO h4 l0 5) <|
    (f79 n l0 l2 r3 h4).bind fun p12 => zth p12 (fun r9 h10 =>
      some (.inl r9, h10))
      (fun x11 h10 =>
      zgd (exOk x11) <| some (.inr x11, h10)))
    (fun x5 h4 =>
    zgd (exOk x5) <| some (.inr x5, h4))
set_option maxRecDepth 20000 in
theorem tb78_122 {d n : Nat} {dk : Nat} {Q : zRs → zH → Prop} {g77 : Nat → Option Nat → Int32 → zH → Option ((Option Nat ⊕ Nat) × zH)} {g78 : Nat → Int32 → zH → Option ((Option Nat ⊕ Nat) × zH)}  {l0 : Nat} {l1 : Int32} {l2 : Option Nat}  {x3 : Option Value} (hd : 5 ≤ d ∧ dk + 1 ≤ d) (hg77 : ∀ {d' : Nat}, dk ≤ d' → ∀ {y0 : Nat} {y1 : Option Nat} {y2 : Int32} {h : zH} {p : ((Option Nat ⊕ Nat) × zH)} {Q : zRs → zH → Prop}, g77 y0 y1 y2 h = some p → Q (eAx p.1) p.2 → zC d' 77 [.ref y0, va_rf y1, .int y2] h Q) (hg78 : ∀ {d' : Nat}, dk ≤ d' → ∀ {y0 : Nat} {y1 : Int32} {h : zH} {p : ((Option Nat ⊕ Nat) × zH)} {Q : zRs → zH → Prop}, g78 y0 y1 h = some p → Q (eAx p.1) p.2 → zC d' 78 [.ref y0, .int y1] h Q)  {h : zH} {p : ((Option Nat ⊕ Nat) × zH)} (hx3 : zn2 x3 = true) (hF : b78_122 n g77 g78  l0 l1 l2 h = some p) (q : Q (eAx p.1) p.2) : zW d 78 122 [some (.ref l0), some (.int l1), some (va_rf l2), x3] [] h Q := by
  unfold b78_122 at hF
  obtain ⟨d, rfl⟩ : ∃ e, d = e + 1 := ⟨d - 1, by omega⟩
  refine zx_aload_n rfl rfl rfl ?_
  refine zy_rload_n rfl rfl rfl ?_
  refine zx_aload_n rfl rfl rfl ?_
  refine zy_rload_n rfl rfl rfl ?_
  replace hF := zgd_some hF
  obtain ⟨g1, hF⟩ := hF
  replace hF := zbnd hF
  obtain ⟨⟨r3, h4⟩, e2, hF⟩ := hF
  refine zx_callE rfl rfl rfl rfl (zrcv_isO g1) (congrArg (List.cons _) ((zsl_rf _ _).trans (congrArg (List.cons _) rfl))) rfl (zc4 (Nat.le_of_ble_eq_true rfl)) (t71 (by omega) e2 ?_)
  rcases r3 with r3 | x5
  rotate_left 1
  · replace hF := zthH hF
    replace hF := zgd_some hF
    obtain ⟨gx, hF⟩ := hF
    replace hF := Option.some.inj hF
    subst hF
    exact zaX rfl gx q
  replace hF := zthG hF
  refine zaA ?_
  replace hF := zgd_some hF
  obtain ⟨g7, hF⟩ := hF
  replace hF := zbnd hF
  obtain ⟨⟨r9, h10⟩, e8, hF⟩ := hF
  refine zx_callE rfl rfl rfl rfl (zrcv_isO g7) (congrArg (List.cons _) ((zsl_rf _ _).trans (congrArg (List.cons _) ((zsl_rf _ _).trans (congrArg (List.cons _) rfl))))) rfl (zc4 (Nat.le_of_ble_eq_true rfl)) (t79 (by omega) e8 ?_)
  rcases r9 with r9 | x11
  rotate_left 1
  · replace hF := zthH hF
    replace hF := zgd_some hF
    obtain ⟨gx, hF⟩ := hF
    replace hF := Option.some.inj hF
    subst hF
    exact zaX rfl gx q
  replace hF := zthG hF
  refine zaA ?_
  replace hF := Option.some.inj hF
  subst hF
  exact zy_areturn (r := r9) rfl rfl rfl rfl q
def b78_37 (n : Nat) (g77 : Nat → Option Nat → Int32 → zH → Option ((Option Nat ⊕ Nat) × zH)) (g78 : Nat → Int32 → zH → Option ((Option Nat ⊕ Nat) × zH))  (l0 : Nat) (l1 : Int32) (l2 : Option Nat) (h : zH) : Option ((Option Nat ⊕ Nat) × zH) :=
  (rEq l2 (some 8)).bind fun b1 =>
  if b1 = true then
    zgd (isO h l0 5) <|
    (f71 n l0 (some 8) h).bind fun p9 => zth p9 (fun r6 h7 =>
      zgd (isO h7 l0 5) <|
      (g77 l0 (some 32) (l1 + 1) h7).bind fun p15 => zth p15 (fun r12 h13 =>
        zgd (isO h13 l0 5) <|
        (f71 n l0 (some 9) h13).bind fun p21 => zth p21 (fun r18 h19 =>
          some (.inl r12, h19))
          (fun x20 h19 =>
          zgd (exOk x20) <| some (.inr x20, h19)))
        (fun x14 h13 =>
        zgd (exOk x14) <| some (.inr x14, h13)))
      (fun x8 h7 =>
      zgd (exOk x8) <| some (.inr x8, h7))
  else
    (rEq l2 (some 31)).bind fun b22 =>
    if b22 = true then
      zgd (isO h l0 5) <|
      (f71 n l0 (some 31) h).bind fun p30 => zth p30 (fun r27 h28 =>
        zgd (isO h28 l0 5) <|
        (f79 n l0 (some 31) r27 h28).bind fun p36 => zth p36 (fun r33 h34 =>
          zgd (isO h34 l0 5) <|
          (g78 l0 (l1 + 1) h34).bind fun p42 => zth p42 (fun r39 h40 =>
            r33.bind fun a43 =>
            (pF h40 a43 3 4 (va_rf r39)).bind fun h44 =>
            some (.inl (some a43), h44))
            (fun x41 h40 =>
            zgd (exOk x41) <| some (.inr x41, h40)))
          (fun x35 h34 =>
          zgd (exOk x35) <| some (.inr x35, h34)))
        (fun x29 h28 =>
        zgd (exOk x29) <| some (.inr x29, h28))
    else
      (rEq l2 (some 34)).bind fun b46 =>
      if b46 = true then
        b78_122 n g77 g78 l0 l1 l2 h
      else
        (rEq l2 (some 35)).bind fun b49 =>
        if b49 = true then
          b78_122 n g77 g78 l0 l1 l2 h
        else
          (rEq l2 (some 30)).bind fun b52 =>
          if b52 = true then
            zgd (isO h l0 5) <|
            (f71 n l0 (some 30) h).bind fun p60 => zth p60 (fun r57 h58 =>
              zgd (isO h58 l0 5) <|
              (f79 n l0 (some 30) r57 h58).bind fun p66 => zth p66 (fun r63 h64 =>
                (gR h64 l0 5 0).bind fun x67 =>
                x67.bind fun a69 =>
                (gR h64 a69 4 0).bind fun x70 =>
                zgd (isO h64 l0 5) <|
                (f81 n l0 x70 h64).bind fun p77 => zth p77 (fun r74 h75 =>
                  r63.bind fun a78 =>
                  (pF h75 a78 3 3 (.int r74)).bind fun h79 =>
                  some (.inl (some a78), h79))
                  (fun x76 h75 =>
                  zgd (exOk x76) <| some (.inr x76, h75)))
                (fun x65 h64 =>
                zgd (exOk x65) <| some (.inr x65, h64)))
              (fun x59 h58 =>
              zgd (exOk x59) <| some (.inr x59, h58))
          else
            zgd (isO h l0 5) <|
            (f82 n l0 h).bind fun p86 => zth p86 (fun r83 h84 =>
              r83.bind fun a87 =>
              (gR h84 a87 3 0).bind fun x88 =>
              (rEq x88 (some 42)).bind fun b90 =>
              if b90 = true then
                zgd (isO h84 l0 5) <|
                (f83 n l0 (some a87) h84).bind fun p98 => zth p98 (fun r95 h96 =>
                  some (.inl (some a87), h96))
                  (fun x97 h96 =>
                  zgd (exOk x97) <| some (.inr x97, h96))
              else
                zgd (isO h84 l0 5) <|
                (f85 n l0 (some a87) h84).bind fun p104 => zth p104 (fun r101 h102 =>
                  some (.inl (some a87), h102))
                  (fun x103 h102 =>
                  zgd (exOk x103) <| some (.inr x103, h102)))
              (fun x85 h84 =>
              zgd (exOk x85) <| some (.inr x85, h84))
set_option maxRecDepth 20000 in
theorem tb78_37 {d n : Nat} {dk : Nat} {Q : zRs → zH → Prop} {g77 : Nat → Option Nat → Int32 → zH → Option ((Option Nat ⊕ Nat) × zH)} {g78 : Nat → Int32 → zH → Option ((Option Nat ⊕ Nat) × zH)}  {l0 : Nat} {l1 : Int32} {l2 : Option Nat}  {x3 : Option Value} (hd : 5 ≤ d ∧ dk + 1 ≤ d) (hg77 : ∀ {d' : Nat}, dk ≤ d' → ∀ {y0 : Nat} {y1 : Option Nat} {y2 : Int32} {h : zH} {p : ((Option Nat ⊕ Nat) × zH)} {Q : zRs → zH → Prop}, g77 y0 y1 y2 h = some p → Q (eAx p.1) p.2 → zC d' 77 [.ref y0, va_rf y1, .int y2] h Q) (hg78 : ∀ {d' : Nat}, dk ≤ d' → ∀ {y0 : Nat} {y1 : Int32} {h : zH} {p : ((Option Nat ⊕ Nat) × zH)} {Q : zRs → zH → Prop}, g78 y0 y1 h = some p → Q (eAx p.1) p.2 → zC d' 78 [.ref y0, .int y1] h Q)  {h : zH} {p : ((Option Nat ⊕ Nat) × zH)} (hx3 : zn2 x3 = true) (hF : b78_37 n g77 g78  l0 l1 l2 h = some p) (q : Q (eAx p.1) p.2) : zW d 78 37 [some (.ref l0), some (.int l1), some (va_rf l2), x3] [] h Q := by
  unfold b78_37 at hF
  obtain ⟨d, rfl⟩ : ∃ e, d = e + 1 := ⟨d - 1, by omega⟩
  refine zy_rload_n rfl rfl rfl ?_
  refine zx_gets rfl rfl rfl ?_
  replace hF := zbnd hF
  obtain ⟨b1, e2, hF⟩ := hF
  refine zy_ane rfl rfl e2 (fun c3 => ?_) (fun c3 => ?_)
  · rw [if_neg (by rw [c3]; exact Bool.false_ne_true)] at hF
    refine zy_rload_n rfl rfl rfl ?_
    refine zx_gets rfl rfl rfl ?_
    replace hF := zbnd hF
    obtain ⟨b22, e23, hF⟩ := hF
    refine zy_ane rfl rfl e23 (fun c24 => ?_) (fun c24 => ?_)
    · rw [if_neg (by rw [c24]; exact Bool.false_ne_true)] at hF
      refine zy_rload_n rfl rfl rfl ?_
      refine zx_gets rfl rfl rfl ?_
      replace hF := zbnd hF
      obtain ⟨b46, e47, hF⟩ := hF
      refine zy_aeq rfl rfl e47 (fun c48 => ?_) (fun c48 => ?_)
      · rw [if_pos c48] at hF
        exact tb78_122 (l0 := l0) (l1 := l1) (l2 := l2) hd hg77 hg78 hx3 hF q
      · rw [if_neg (by rw [c48]; exact Bool.false_ne_true)] at hF
        refine zy_rload_n rfl rfl rfl ?_
        refine zx_gets rfl rfl rfl ?_
        replace hF := zbnd hF
        obtain ⟨b49, e50, hF⟩ := hF
        refine zy_ane rfl rfl e50 (fun c51 => ?_) (fun c51 => ?_)
        · rw [if_neg (by rw [c51]; exact Bool.false_ne_true)] at hF
          refine zy_rload_n rfl rfl rfl ?_
          refine zx_gets rfl rfl rfl ?_
          replace hF := zbnd hF
          obtain ⟨b52, e53, hF⟩ := hF
          refine zy_ane rfl rfl e53 (fun c54 => ?_) (fun c54 => ?_)
          · rw [if_neg (by rw [c54]; exact Bool.false_ne_true)] at hF
            refine zx_aload_n rfl rfl rfl ?_
            replace hF := zgd_some hF
            obtain ⟨g81, hF⟩ := hF
            replace hF := zbnd hF
            obtain ⟨⟨r83, h84⟩, e82, hF⟩ := hF
            refine zx_callE rfl rfl rfl rfl (zrcv_isO g81) rfl rfl (zc4 (Nat.le_of_ble_eq_true rfl)) (t82 (by omega) e82 ?_)
            rcases r83 with r83 | x85
            rotate_left 1
            · replace hF := zthH hF
              replace hF := zgd_some hF
              obtain ⟨gx, hF⟩ := hF
              replace hF := Option.some.inj hF
              subst hF
              exact zaX rfl gx q
            replace hF := zthG hF
            refine zaA ?_
            refine zy_rstore_n rfl rfl (zput_ok (L' := [some (.ref l0), some (.int l1), some (va_rf l2), some (va_rf r83)]) rfl (zcl_X (j := 2) rfl (zn2_rf _)) rfl) ?_
            refine zy_rload_n rfl rfl rfl ?_
            replace hF := zbnd hF
            obtain ⟨a87, rfl, hF⟩ := hF
            replace hF := zbnd hF
            obtain ⟨x88, e89, hF⟩ := hF
            refine zy_getR rfl rfl e89 ?_
            refine zx_gets rfl rfl rfl ?_
            replace hF := zbnd hF
            obtain ⟨b90, e91, hF⟩ := hF
            refine zy_ane rfl rfl e91 (fun c92 => ?_) (fun c92 => ?_)
            · rw [if_neg (by rw [c92]; exact Bool.false_ne_true)] at hF
              refine zx_aload_n rfl rfl rfl ?_
              refine zx_aload_n rfl rfl rfl ?_
              replace hF := zgd_some hF
              obtain ⟨g99, hF⟩ := hF
              replace hF := zbnd hF
              obtain ⟨⟨r101, h102⟩, e100, hF⟩ := hF
              refine zx_callE rfl rfl rfl rfl (zrcv_isO g99) rfl rfl (zc4 (Nat.le_of_ble_eq_true rfl)) (t85 (by omega) e100 ?_)
              rcases r101 with r101 | x103
              rotate_left 1
              · replace hF := zthH hF
                replace hF := zgd_some hF
                obtain ⟨gx, hF⟩ := hF
                replace hF := Option.some.inj hF
                subst hF
                exact zaX rfl gx q
              replace hF := zthG hF
              refine zaV (x := ()) ?_
              refine zx_aload_n rfl rfl rfl ?_
              replace hF := Option.some.inj hF
              subst hF
              exact zy_areturn (r := (some a87)) rfl rfl rfl rfl q
            · rw [if_pos c92] at hF
              refine zx_aload_n rfl rfl rfl ?_
              refine zx_aload_n rfl rfl rfl ?_
              replace hF := zgd_some hF
              obtain ⟨g93, hF⟩ := hF
              replace hF := zbnd hF
              obtain ⟨⟨r95, h96⟩, e94, hF⟩ := hF
              refine zx_callE rfl rfl rfl rfl (zrcv_isO g93) rfl rfl (zc4 (Nat.le_of_ble_eq_true rfl)) (t83 (by omega) e94 ?_)
              rcases r95 with r95 | x97
              rotate_left 1
              · replace hF := zthH hF
                replace hF := zgd_some hF
                obtain ⟨gx, hF⟩ := hF
                replace hF := Option.some.inj hF
                subst hF
                exact zaX rfl gx q
              replace hF := zthG hF
              refine zaV (x := ()) ?_
              refine zx_goto rfl rfl ?_
              refine zx_aload_n rfl rfl rfl ?_
              replace hF := Option.some.inj hF
              subst hF
              exact zy_areturn (r := (some a87)) rfl rfl rfl rfl q
          · rw [if_pos c54] at hF
            refine zx_aload_n rfl rfl rfl ?_
            refine zx_gets rfl rfl rfl ?_
            refine zx_aload_n rfl rfl rfl ?_
            refine zx_gets rfl rfl rfl ?_
            replace hF := zgd_some hF
            obtain ⟨g55, hF⟩ := hF
            replace hF := zbnd hF
            obtain ⟨⟨r57, h58⟩, e56, hF⟩ := hF
            refine zx_callE rfl rfl rfl rfl (zrcv_isO g55) rfl rfl (zc4 (Nat.le_of_ble_eq_true rfl)) (t71 (by omega) e56 ?_)
            rcases r57 with r57 | x59
            rotate_left 1
            · replace hF := zthH hF
              replace hF := zgd_some hF
              obtain ⟨gx, hF⟩ := hF
              replace hF := Option.some.inj hF
              subst hF
              exact zaX rfl gx q
            replace hF := zthG hF
            refine zaA ?_
            replace hF := zgd_some hF
            obtain ⟨g61, hF⟩ := hF
            replace hF := zbnd hF
            obtain ⟨⟨r63, h64⟩, e62, hF⟩ := hF
            refine zx_callE rfl rfl rfl rfl (zrcv_isO g61) (congrArg (List.cons _) (congrArg (List.cons _) ((zsl_rf _ _).trans (congrArg (List.cons _) rfl)))) rfl (zc4 (Nat.le_of_ble_eq_true rfl)) (t79 (by omega) e62 ?_)
            rcases r63 with r63 | x65
            rotate_left 1
            · replace hF := zthH hF
              replace hF := zgd_some hF
              obtain ⟨gx, hF⟩ := hF
              replace hF := Option.some.inj hF
              subst hF
              exact zaX rfl gx q
            replace hF := zthG hF
            refine zaA ?_
            refine zy_rstore_n rfl rfl (zput_ok (L' := [some (.ref l0), some (.int l1), some (va_rf l2), some (va_rf r63)]) rfl (zcl_X (j := 2) rfl (zn2_rf _)) rfl) ?_
            refine zy_rload_n rfl rfl rfl ?_
            refine zx_aload_n rfl rfl rfl ?_
            refine zx_aload_n rfl rfl rfl ?_
            replace hF := zbnd hF
            obtain ⟨x67, e68, hF⟩ := hF
            refine zy_getR rfl rfl e68 ?_
            replace hF := zbnd hF
            obtain ⟨a69, rfl, hF⟩ := hF
            replace hF := zbnd hF
            obtain ⟨x70, e71, hF⟩ := hF
            refine zy_getR rfl rfl e71 ?_
            replace hF := zgd_some hF
            obtain ⟨g72, hF⟩ := hF
            replace hF := zbnd hF
            obtain ⟨⟨r74, h75⟩, e73, hF⟩ := hF
            refine zx_callE rfl rfl rfl rfl (zrcv_isO g72) (congrArg (List.cons _) ((zsl_rf _ _).trans (congrArg (List.cons _) rfl))) rfl (zc4 (Nat.le_of_ble_eq_true rfl)) (t81 (by omega) e73 ?_)
            rcases r74 with r74 | x76
            rotate_left 1
            · replace hF := zthH hF
              replace hF := zgd_some hF
              obtain ⟨gx, hF⟩ := hF
              replace hF := Option.some.inj hF
              subst hF
              exact zaX rfl gx q
            replace hF := zthG hF
            refine zaI ?_
            replace hF := zbnd hF
            obtain ⟨a78, rfl, hF⟩ := hF
            replace hF := zbnd hF
            obtain ⟨h79, e80, hF⟩ := hF
            refine zy_put rfl rfl e80 ?_
            refine zx_aload_n rfl rfl rfl ?_
            replace hF := Option.some.inj hF
            subst hF
            exact zy_areturn (r := (some a78)) rfl rfl rfl rfl q
        · rw [if_pos c51] at hF
          exact tb78_122 (l0 := l0) (l1 := l1) (l2 := l2) hd hg77 hg78 hx3 hF q
    · rw [if_pos c24] at hF
      refine zx_aload_n rfl rfl rfl ?_
      refine zx_gets rfl rfl rfl ?_
      refine zx_aload_n rfl rfl rfl ?_
      refine zx_gets rfl rfl rfl ?_
      replace hF := zgd_some hF
      obtain ⟨g25, hF⟩ := hF
      replace hF := zbnd hF
      obtain ⟨⟨r27, h28⟩, e26, hF⟩ := hF
      refine zx_callE rfl rfl rfl rfl (zrcv_isO g25) rfl rfl (zc4 (Nat.le_of_ble_eq_true rfl)) (t71 (by omega) e26 ?_)
      rcases r27 with r27 | x29
      rotate_left 1
      · replace hF := zthH hF
        replace hF := zgd_some hF
        obtain ⟨gx, hF⟩ := hF
        replace hF := Option.some.inj hF
        subst hF
        exact zaX rfl gx q
      replace hF := zthG hF
      refine zaA ?_
      replace hF := zgd_some hF
      obtain ⟨g31, hF⟩ := hF
      replace hF := zbnd hF
      obtain ⟨⟨r33, h34⟩, e32, hF⟩ := hF
      refine zx_callE rfl rfl rfl rfl (zrcv_isO g31) (congrArg (List.cons _) (congrArg (List.cons _) ((zsl_rf _ _).trans (congrArg (List.cons _) rfl)))) rfl (zc4 (Nat.le_of_ble_eq_true rfl)) (t79 (by omega) e32 ?_)
      rcases r33 with r33 | x35
      rotate_left 1
      · replace hF := zthH hF
        replace hF := zgd_some hF
        obtain ⟨gx, hF⟩ := hF
        replace hF := Option.some.inj hF
        subst hF
        exact zaX rfl gx q
      replace hF := zthG hF
      refine zaA ?_
      refine zy_rstore_n rfl rfl (zput_ok (L' := [some (.ref l0), some (.int l1), some (va_rf l2), some (va_rf r33)]) rfl (zcl_X (j := 2) rfl (zn2_rf _)) rfl) ?_
      refine zy_rload_n rfl rfl rfl ?_
      refine zx_aload_n rfl rfl rfl ?_
      refine zx_iload_n rfl rfl rfl ?_
      refine zx_iconst (v := 1) rfl rfl rfl ?_
      refine zx_iadd rfl rfl ?_
      replace hF := zgd_some hF
      obtain ⟨g37, hF⟩ := hF
      replace hF := zbnd hF
      obtain ⟨⟨r39, h40⟩, e38, hF⟩ := hF
      refine zx_callE rfl rfl rfl rfl (zrcv_isO g37) rfl rfl (zc4 (Nat.le_of_ble_eq_true rfl)) (hg78 (by omega) e38 ?_)
      rcases r39 with r39 | x41
      rotate_left 1
      · replace hF := zthH hF
        replace hF := zgd_some hF
        obtain ⟨gx, hF⟩ := hF
        replace hF := Option.some.inj hF
        subst hF
        exact zaX rfl gx q
      replace hF := zthG hF
      refine zaA ?_
      replace hF := zbnd hF
      obtain ⟨a43, rfl, hF⟩ := hF
      replace hF := zbnd hF
      obtain ⟨h44, e45, hF⟩ := hF
      refine zy_put rfl rfl e45 ?_
      refine zx_aload_n rfl rfl rfl ?_
      replace hF := Option.some.inj hF
      subst hF
      exact zy_areturn (r := (some a43)) rfl rfl rfl rfl q
  · rw [if_pos c3] at hF
    refine zx_aload_n rfl rfl rfl ?_
    refine zx_gets rfl rfl rfl ?_
    replace hF := zgd_some hF
    obtain ⟨g4, hF⟩ := hF
    replace hF := zbnd hF
    obtain ⟨⟨r6, h7⟩, e5, hF⟩ := hF
    refine zx_callE rfl rfl rfl rfl (zrcv_isO g4) rfl rfl (zc4 (Nat.le_of_ble_eq_true rfl)) (t71 (by omega) e5 ?_)
    rcases r6 with r6 | x8
    rotate_left 1
    · replace hF := zthH hF
      replace hF := zgd_some hF
      obtain ⟨gx, hF⟩ := hF
      replace hF := Option.some.inj hF
      subst hF
      exact zaX rfl gx q
    replace hF := zthG hF
    refine zaA ?_
    refine zx_pop rfl rfl (zc1_rf _) ?_
    refine zx_aload_n rfl rfl rfl ?_
    refine zx_gets rfl rfl rfl ?_
    refine zx_iload_n rfl rfl rfl ?_
    refine zx_iconst (v := 1) rfl rfl rfl ?_
    refine zx_iadd rfl rfl ?_
    replace hF := zgd_some hF
    obtain ⟨g10, hF⟩ := hF
    replace hF := zbnd hF
    obtain ⟨⟨r12, h13⟩, e11, hF⟩ := hF
    refine zx_callE rfl rfl rfl rfl (zrcv_isO g10) rfl rfl (zc4 (Nat.le_of_ble_eq_true rfl)) (hg77 (by omega) e11 ?_)
    rcases r12 with r12 | x14
    rotate_left 1
    · replace hF := zthH hF
      replace hF := zgd_some hF
      obtain ⟨gx, hF⟩ := hF
      replace hF := Option.some.inj hF
      subst hF
      exact zaX rfl gx q
    replace hF := zthG hF
    refine zaA ?_
    refine zy_rstore_n rfl rfl (zput_ok (L' := [some (.ref l0), some (.int l1), some (va_rf l2), some (va_rf r12)]) rfl (zcl_X (j := 2) rfl (zn2_rf _)) rfl) ?_
    refine zx_aload_n rfl rfl rfl ?_
    refine zx_gets rfl rfl rfl ?_
    replace hF := zgd_some hF
    obtain ⟨g16, hF⟩ := hF
    replace hF := zbnd hF
    obtain ⟨⟨r18, h19⟩, e17, hF⟩ := hF
    refine zx_callE rfl rfl rfl rfl (zrcv_isO g16) rfl rfl (zc4 (Nat.le_of_ble_eq_true rfl)) (t71 (by omega) e17 ?_)
    rcases r18 with r18 | x20
    rotate_left 1
    · replace hF := zthH hF
      replace hF := zgd_some hF
      obtain ⟨gx, hF⟩ := hF
      replace hF := Option.some.inj hF
      subst hF
      exact zaX rfl gx q
    replace hF := zthG hF
    refine zaA ?_
    refine zx_pop rfl rfl (zc1_rf _) ?_
    refine zy_rload_n rfl rfl rfl ?_
    replace hF := Option.some.inj hF
    subst hF
    exact zy_areturn (r := r12) rfl rfl rfl rfl q
def b78_22 (n : Nat) (g77 : Nat → Option Nat → Int32 → zH → Option ((Option Nat ⊕ Nat) × zH)) (g78 : Nat → Int32 → zH → Option ((Option Nat ⊕ Nat) × zH))  (l0 : Nat) (l1 : Int32) (l2 : Option Nat) (h : zH) : Option ((Option Nat ⊕ Nat) × zH) :=
  if l1 < 20 then
    b78_37 n g77 g78 l0 l1 l2 h
  else
    (gR h l0 5 3).bind fun x2 =>
    zgd (isO h l0 5) <|
    (f70 n l0 5 x2 h).bind fun p9 => zth p9 (fun r6 h7 =>
      b78_37 n g77 g78 l0 l1 l2 h7)
      (fun x8 h7 =>
      zgd (exOk x8) <| some (.inr x8, h7))
set_option maxRecDepth 20000 in
theorem tb78_22 {d n : Nat} {dk : Nat} {Q : zRs → zH → Prop} {g77 : Nat → Option Nat → Int32 → zH → Option ((Option Nat ⊕ Nat) × zH)} {g78 : Nat → Int32 → zH → Option ((Option Nat ⊕ Nat) × zH)}  {l0 : Nat} {l1 : Int32} {l2 : Option Nat}  {x3 : Option Value} (hd : 5 ≤ d ∧ dk + 1 ≤ d) (hg77 : ∀ {d' : Nat}, dk ≤ d' → ∀ {y0 : Nat} {y1 : Option Nat} {y2 : Int32} {h : zH} {p : ((Option Nat ⊕ Nat) × zH)} {Q : zRs → zH → Prop}, g77 y0 y1 y2 h = some p → Q (eAx p.1) p.2 → zC d' 77 [.ref y0, va_rf y1, .int y2] h Q) (hg78 : ∀ {d' : Nat}, dk ≤ d' → ∀ {y0 : Nat} {y1 : Int32} {h : zH} {p : ((Option Nat ⊕ Nat) × zH)} {Q : zRs → zH → Prop}, g78 y0 y1 h = some p → Q (eAx p.1) p.2 → zC d' 78 [.ref y0, .int y1] h Q)  {h : zH} {p : ((Option Nat ⊕ Nat) × zH)} (hx3 : zn2 x3 = true) (hF : b78_22 n g77 g78  l0 l1 l2 h = some p) (q : Q (eAx p.1) p.2) : zW d 78 22 [some (.ref l0), some (.int l1), some (va_rf l2), x3] [] h Q := by
  unfold b78_22 at hF
  obtain ⟨d, rfl⟩ : ∃ e, d = e + 1 := ⟨d - 1, by omega⟩
  refine zx_iload_n rfl rfl rfl ?_
  refine zx_bipush (v := 20) rfl rfl rfl ?_
  refine zx_ic_lt rfl rfl (fun c1 => ?_) (fun c1 => ?_)
  · rw [if_pos c1] at hF
    exact tb78_37 (l0 := l0) (l1 := l1) (l2 := l2) hd hg77 hg78 hx3 hF q
  · rw [if_neg c1] at hF
    refine zx_aload_n rfl rfl rfl ?_
    refine zx_iconst (v := 5) rfl rfl rfl ?_
    refine zx_aload_n rfl rfl rfl ?_
    replace hF := zbnd hF
    obtain ⟨x2, e3, hF⟩ := hF
    refine zy_getR rfl rfl e3 ?_
    replace hF := zgd_some hF
    obtain ⟨g4, hF⟩ := hF
    replace hF := zbnd hF
    obtain ⟨⟨r6, h7⟩, e5, hF⟩ := hF
    refine zx_callE rfl rfl rfl rfl (zrcv_isO g4) (congrArg (List.cons _) (congrArg (List.cons _) ((zsl_rf _ _).trans (congrArg (List.cons _) rfl)))) rfl (zc4 (Nat.le_of_ble_eq_true rfl)) (t70 (by omega) e5 ?_)
    rcases r6 with r6 | x8
    rotate_left 1
    · replace hF := zthH hF
      replace hF := zgd_some hF
      obtain ⟨gx, hF⟩ := hF
      replace hF := Option.some.inj hF
      subst hF
      exact zaX rfl gx q
    replace hF := zthG hF
    refine zaV (x := ()) ?_
    exact tb78_37 (l0 := l0) (l1 := l1) (l2 := l2) hd hg77 hg78 hx3 hF q
def b78 (n : Nat) (g77 : Nat → Option Nat → Int32 → zH → Option ((Option Nat ⊕ Nat) × zH)) (g78 : Nat → Int32 → zH → Option ((Option Nat ⊕ Nat) × zH)) (y0 : Nat) (y1 : Int32) (h : zH) : Option ((Option Nat ⊕ Nat) × zH) :=
  (gR h y0 5 3).bind fun x1 =>
  x1.bind fun a3 =>
  (gR h a3 9 0).bind fun x4 =>
  (rEq x4 (some 8)).bind fun b6 =>
  if b6 = true then
    b78_22 n g77 g78 y0 y1 x4 h
  else
    (rEq x4 (some 31)).bind fun b9 =>
    if b9 = true then
      b78_22 n g77 g78 y0 y1 x4 h
    else
      b78_37 n g77 g78 y0 y1 x4 h
set_option maxRecDepth 20000 in
theorem tb78 {d n : Nat} {dk : Nat} {Q : zRs → zH → Prop} {g77 : Nat → Option Nat → Int32 → zH → Option ((Option Nat ⊕ Nat) × zH)} {g78 : Nat → Int32 → zH → Option ((Option Nat ⊕ Nat) × zH)} {y0 : Nat} {y1 : Int32} (hd : 5 ≤ d ∧ dk + 1 ≤ d) (hg77 : ∀ {d' : Nat}, dk ≤ d' → ∀ {y0 : Nat} {y1 : Option Nat} {y2 : Int32} {h : zH} {p : ((Option Nat ⊕ Nat) × zH)} {Q : zRs → zH → Prop}, g77 y0 y1 y2 h = some p → Q (eAx p.1) p.2 → zC d' 77 [.ref y0, va_rf y1, .int y2] h Q) (hg78 : ∀ {d' : Nat}, dk ≤ d' → ∀ {y0 : Nat} {y1 : Int32} {h : zH} {p : ((Option Nat ⊕ Nat) × zH)} {Q : zRs → zH → Prop}, g78 y0 y1 h = some p → Q (eAx p.1) p.2 → zC d' 78 [.ref y0, .int y1] h Q) {h : zH} {p : ((Option Nat ⊕ Nat) × zH)} (hF : b78 n g77 g78 y0 y1 h = some p) (q : Q (eAx p.1) p.2) : zC d 78 [.ref y0, .int y1] h Q := by
  refine zC_of (L := [some (.ref y0), some (.int y1), none, none]) rfl rfl ?_
  unfold b78 at hF
  obtain ⟨d, rfl⟩ : ∃ e, d = e + 1 := ⟨d - 1, by omega⟩
  refine zx_aload_n rfl rfl rfl ?_
  replace hF := zbnd hF
  obtain ⟨x1, e2, hF⟩ := hF
  refine zy_getR rfl rfl e2 ?_
  replace hF := zbnd hF
  obtain ⟨a3, rfl, hF⟩ := hF
  replace hF := zbnd hF
  obtain ⟨x4, e5, hF⟩ := hF
  refine zy_getR rfl rfl e5 ?_
  refine zy_rstore_n rfl rfl rfl ?_
  refine zy_rload_n rfl rfl rfl ?_
  refine zx_gets rfl rfl rfl ?_
  replace hF := zbnd hF
  obtain ⟨b6, e7, hF⟩ := hF
  refine zy_aeq rfl rfl e7 (fun c8 => ?_) (fun c8 => ?_)
  · rw [if_pos c8] at hF
    exact tb78_22 (l0 := y0) (l1 := y1) (l2 := x4) hd hg77 hg78 rfl hF q
  · rw [if_neg (by rw [c8]; exact Bool.false_ne_true)] at hF
    refine zy_rload_n rfl rfl rfl ?_
    refine zx_gets rfl rfl rfl ?_
    replace hF := zbnd hF
    obtain ⟨b9, e10, hF⟩ := hF
    refine zy_ane rfl rfl e10 (fun c11 => ?_) (fun c11 => ?_)
    · rw [if_neg (by rw [c11]; exact Bool.false_ne_true)] at hF
      exact tb78_37 (l0 := y0) (l1 := y1) (l2 := x4) hd hg77 hg78 rfl hF q
    · rw [if_pos c11] at hF
      exact tb78_22 (l0 := y0) (l1 := y1) (l2 := x4) hd hg77 hg78 rfl hF q
def fRP (n k : Nat) : ((Nat → Option Nat → Int32 → zH → Option ((Option Nat ⊕ Nat) × zH)) × (Nat → Int32 → zH → Option ((Option Nat ⊕ Nat) × zH))) := Nat.rec ((fun _ _ _ _ => none), (fun _ _ _ => none)) (fun _ ih => (b77 n ih.1 ih.2, b78 n ih.1 ih.2)) k
def f77 (n k : Nat) : (Nat → Option Nat → Int32 → zH → Option ((Option Nat ⊕ Nat) × zH)) := (fRP n k).1
def f78 (n k : Nat) : (Nat → Int32 → zH → Option ((Option Nat ⊕ Nat) × zH)) := (fRP n k).2
theorem tRP {n : Nat} (k : Nat) : (∀ {d : Nat}, 5 + k ≤ d → ∀ {y0 : Nat} {y1 : Option Nat} {y2 : Int32} {h : zH} {p : ((Option Nat ⊕ Nat) × zH)} {Q : zRs → zH → Prop}, f77 n k y0 y1 y2 h = some p → Q (eAx p.1) p.2 → zC d 77 [.ref y0, va_rf y1, .int y2] h Q) ∧ (∀ {d : Nat}, 5 + k ≤ d → ∀ {y0 : Nat} {y1 : Int32} {h : zH} {p : ((Option Nat ⊕ Nat) × zH)} {Q : zRs → zH → Prop}, f78 n k y0 y1 h = some p → Q (eAx p.1) p.2 → zC d 78 [.ref y0, .int y1] h Q) := by
  induction k with
  | zero =>
    refine ⟨?_, ?_⟩
    · intros; rename_i d hd y0 y1 y2 h p Q hF q; cases hF
    · intros; rename_i d hd y0 y1 h p Q hF q; cases hF
  | succ k ih =>
    refine ⟨?_, ?_⟩
    · intros; rename_i d hd y0 y1 y2 h p Q hF q; exact tb77 (dk := 5 + k) ⟨by omega, by omega⟩ ih.1 ih.2 hF q
    · intros; rename_i d hd y0 y1 h p Q hF q; exact tb78 (dk := 5 + k) ⟨by omega, by omega⟩ ih.1 ih.2 hF q
theorem t77 {n : Nat} (k : Nat) {d : Nat} (hd : 5 + k ≤ d) {y0 : Nat} {y1 : Option Nat} {y2 : Int32} {h : zH} {p : ((Option Nat ⊕ Nat) × zH)} {Q : zRs → zH → Prop} (hF : f77 n k y0 y1 y2 h = some p) (q : Q (eAx p.1) p.2) : zC d 77 [.ref y0, va_rf y1, .int y2] h Q := (tRP k).1 hd hF q
theorem t78 {n : Nat} (k : Nat) {d : Nat} (hd : 5 + k ≤ d) {y0 : Nat} {y1 : Int32} {h : zH} {p : ((Option Nat ⊕ Nat) × zH)} {Q : zRs → zH → Prop} (hF : f78 n k y0 y1 h = some p) (q : Q (eAx p.1) p.2) : zC d 78 [.ref y0, .int y1] h Q := (tRP k).2 hd hF q
def b89_20 (n : Nat)   (l0 : Nat) (l1 : Int32) (l2 : Int32) (h : zH) : Option (Option Nat × zH) :=
  (f41 n l2 (l1 - l2) (l2 >>> (1 &&& 31)) h).bind fun p2 =>
  (gR p2.2 l0 14 1).bind fun x3 =>
  x3.bind fun a7 =>
  (nt1 p2.2 a7 p2.1).bind fun h5 =>
  (pF h5 l0 14 1 (.ref p2.2.1.length)).bind fun h8 =>
  some ((some p2.2.1.length), h8)
set_option maxRecDepth 20000 in
theorem tb89_20 {d n : Nat} {Q : zRs → zH → Prop}   {l0 : Nat} {l1 : Int32} {l2 : Int32}  {x3 : Option Value} (hd : 2 ≤ d)   {h : zH} {p : (Option Nat × zH)} (hx3 : zn2 x3 = true) (hF : b89_20 n   l0 l1 l2 h = some p) (q : Q (eA p.1) p.2) : zW d 89 20 [some (.ref l0), some (.int l1), some (.int l2), x3] [] h Q := by
  unfold b89_20 at hF
  obtain ⟨d, rfl⟩ : ∃ e, d = e + 1 := ⟨d - 1, by omega⟩
  refine zx_iload_n rfl rfl rfl ?_
  refine zx_iload_n rfl rfl rfl ?_
  refine zx_iload_n rfl rfl rfl ?_
  refine zx_isub rfl rfl ?_
  refine zx_iload_n rfl rfl rfl ?_
  refine zx_iconst (v := 1) rfl rfl rfl ?_
  refine zx_ishr rfl rfl ?_
  replace hF := zbnd hF
  obtain ⟨p2, e1, hF⟩ := hF
  refine zx_callE rfl rfl rfl rfl rfl rfl rfl (zc4 (Nat.le_of_ble_eq_true rfl)) (t41 (by omega) e1 (zaI ?_))
  refine zx_istore_n rfl rfl rfl ?_
  refine zx_aload_n rfl rfl rfl ?_
  refine zx_aload_n rfl rfl rfl ?_
  replace hF := zbnd hF
  obtain ⟨x3, e4, hF⟩ := hF
  refine zy_getR rfl rfl e4 ?_
  refine zx_iload_n rfl rfl rfl ?_
  replace hF := zbnd hF
  obtain ⟨a7, rfl, hF⟩ := hF
  replace hF := zbnd hF
  obtain ⟨h5, e6, hF⟩ := hF
  refine zy_nat1 rfl rfl rfl (Nat.ble_eq_true_of_le (Nat.le_trans (zcat_le _) (Nat.le_of_ble_eq_true rfl))) e6 ?_
  refine zx_dup_x1 rfl rfl rfl ?_
  replace hF := zbnd hF
  obtain ⟨h8, e9, hF⟩ := hF
  refine zy_put rfl rfl e9 ?_
  replace hF := Option.some.inj hF
  subst hF
  exact zy_areturn (r := (some p2.2.1.length)) rfl rfl rfl rfl q
def f89 (n : Nat)  (y0 : Nat) (y1 : Int32) (h : zH) : Option (Option Nat × zH) :=
  (gR h y0 14 1).bind fun x1 =>
  x1.bind fun a3 =>
  (aN h a3).bind fun x4 =>
  if (0 : Int32) < x4 then
    b89_20 n  y0 y1 x4 h
  else
    (gR h y0 14 1).bind fun x7 =>
    (rEq x7 (some 48)).bind fun b9 =>
    if b9 = true then
      (f22 n 10 y1 h).bind fun p13 =>
      (nV p13.2 16 p13.1).bind fun h14 =>
      (pF h14 y0 14 1 (.ref p13.2.1.length)).bind fun h16 =>
      some ((some p13.2.1.length), h16)
    else
      b89_20 n  y0 y1 x4 h
set_option maxRecDepth 20000 in
theorem t89 {d n : Nat} {Q : zRs → zH → Prop}  {y0 : Nat} {y1 : Int32} (hd : 2 ≤ d)  {h : zH} {p : (Option Nat × zH)} (hF : f89 n  y0 y1 h = some p) (q : Q (eA p.1) p.2) : zC d 89 [.ref y0, .int y1] h Q := by
  refine zC_of (L := [some (.ref y0), some (.int y1), none, none]) rfl rfl ?_
  unfold f89 at hF
  obtain ⟨d, rfl⟩ : ∃ e, d = e + 1 := ⟨d - 1, by omega⟩
  refine zx_aload_n rfl rfl rfl ?_
  replace hF := zbnd hF
  obtain ⟨x1, e2, hF⟩ := hF
  refine zy_getR rfl rfl e2 ?_
  replace hF := zbnd hF
  obtain ⟨a3, rfl, hF⟩ := hF
  replace hF := zbnd hF
  obtain ⟨x4, e5, hF⟩ := hF
  refine zy_alen rfl rfl e5 ?_
  refine zx_istore_n rfl rfl rfl ?_
  refine zx_iload_n rfl rfl rfl ?_
  refine zx_if_gt rfl rfl (fun c6 => ?_) (fun c6 => ?_)
  · rw [if_pos c6] at hF
    exact tb89_20 (l0 := y0) (l1 := y1) (l2 := x4) hd  rfl hF q
  · rw [if_neg c6] at hF
    refine zx_aload_n rfl rfl rfl ?_
    replace hF := zbnd hF
    obtain ⟨x7, e8, hF⟩ := hF
    refine zy_getR rfl rfl e8 ?_
    refine zx_gets rfl rfl rfl ?_
    replace hF := zbnd hF
    obtain ⟨b9, e10, hF⟩ := hF
    refine zy_aeq rfl rfl e10 (fun c11 => ?_) (fun c11 => ?_)
    · rw [if_pos c11] at hF
      refine zx_aload_n rfl rfl rfl ?_
      refine zx_bipush (v := 10) rfl rfl rfl ?_
      refine zx_iload_n rfl rfl rfl ?_
      replace hF := zbnd hF
      obtain ⟨p13, e12, hF⟩ := hF
      refine zx_callE rfl rfl rfl rfl rfl rfl rfl (zc4 (Nat.le_of_ble_eq_true rfl)) (t22 (by omega) e12 (zaI ?_))
      replace hF := zbnd hF
      obtain ⟨h14, e15, hF⟩ := hF
      refine zy_anewarr rfl rfl e15 ?_
      refine zx_dup_x1 rfl rfl rfl ?_
      replace hF := zbnd hF
      obtain ⟨h16, e17, hF⟩ := hF
      refine zy_put rfl rfl e17 ?_
      replace hF := Option.some.inj hF
      subst hF
      exact zy_areturn (r := (some p13.2.1.length)) rfl rfl rfl rfl q
    · rw [if_neg (by rw [c11]; exact Bool.false_ne_true)] at hF
      exact tb89_20 (l0 := y0) (l1 := y1) (l2 := x4) hd  rfl hF q
def f88 (n : Nat)  (y0 : Nat) (h : zH) : Option (Option Nat × zH) :=
  (gI h y0 14 2).bind fun x1 =>
  zgd (isO h y0 14) <|
  (f89 n y0 (x1 + 1) h).bind fun p5 =>
  some (p5.1, p5.2)
set_option maxRecDepth 20000 in
theorem t88 {d n : Nat} {Q : zRs → zH → Prop}  {y0 : Nat} (hd : 3 ≤ d)  {h : zH} {p : (Option Nat × zH)} (hF : f88 n  y0 h = some p) (q : Q (eA p.1) p.2) : zC d 88 [.ref y0] h Q := by
  refine zC_of (L := [some (.ref y0)]) rfl rfl ?_
  unfold f88 at hF
  obtain ⟨d, rfl⟩ : ∃ e, d = e + 1 := ⟨d - 1, by omega⟩
  refine zx_aload_n rfl rfl rfl ?_
  refine zx_aload_n rfl rfl rfl ?_
  replace hF := zbnd hF
  obtain ⟨x1, e2, hF⟩ := hF
  refine zy_getI rfl rfl e2 ?_
  refine zx_iconst (v := 1) rfl rfl rfl ?_
  refine zx_iadd rfl rfl ?_
  replace hF := zgd_some hF
  obtain ⟨g3, hF⟩ := hF
  replace hF := zbnd hF
  obtain ⟨p5, e4, hF⟩ := hF
  refine zx_callE rfl rfl rfl rfl (zrcv_isO g3) rfl rfl (zc4 (Nat.le_of_ble_eq_true rfl)) (t89 (by omega) e4 (zaA ?_))
  replace hF := Option.some.inj hF
  subst hF
  exact zy_areturn (r := p5.1) rfl rfl rfl rfl q
def b87_11 (n : Nat)   (l0 : Nat) (l1 : Option Nat) (l2 : Option Nat) (l3 : Int32) (h : zH) : Option (Unit × zH) :=
  l2.bind fun a1 =>
  (aS (zsA zasg h.1) h a1 l3 (va_rf l1)).bind fun h2 =>
  (pF h2 l0 14 2 (.int (l3 + 1))).bind fun h4 =>
  some ((), h4)
set_option maxRecDepth 20000 in
theorem tb87_11 {d n : Nat} {Q : zRs → zH → Prop}   {l0 : Nat} {l1 : Option Nat} {l2 : Option Nat} {l3 : Int32}   (hd : 4 ≤ d)   {h : zH} {p : (Unit × zH)}  (hF : b87_11 n   l0 l1 l2 l3 h = some p) (q : Q (eV p.1) p.2) : zW d 87 11 [some (.ref l0), some (va_rf l1), some (va_rf l2), some (.int l3)] [] h Q := by
  unfold b87_11 at hF
  obtain ⟨d, rfl⟩ : ∃ e, d = e + 1 := ⟨d - 1, by omega⟩
  refine zy_rload_n rfl rfl rfl ?_
  refine zx_iload_n rfl rfl rfl ?_
  refine zy_rload_n rfl rfl rfl ?_
  replace hF := zbnd hF
  obtain ⟨a1, rfl, hF⟩ := hF
  replace hF := zbnd hF
  obtain ⟨h2, e3, hF⟩ := hF
  refine zy_sR rfl rfl e3 ?_
  refine zx_aload_n rfl rfl rfl ?_
  refine zx_iload_n rfl rfl rfl ?_
  refine zx_iconst (v := 1) rfl rfl rfl ?_
  refine zx_iadd rfl rfl ?_
  replace hF := zbnd hF
  obtain ⟨h4, e5, hF⟩ := hF
  refine zy_put rfl rfl e5 ?_
  replace hF := Option.some.inj hF
  subst hF
  exact zx_return rfl rfl rfl q
def f87 (n : Nat)  (y0 : Nat) (y1 : Option Nat) (y2 : Option Nat) (y3 : Int32) (h : zH) : Option (Unit × zH) :=
  y2.bind fun a1 =>
  (aN h a1).bind fun x2 =>
  if y3 = x2 then
    zgd (isO h y0 14) <|
    (f88 n y0 h).bind fun p7 =>
    b87_11 n  y0 y1 p7.1 y3 p7.2
  else
    b87_11 n  y0 y1 (some a1) y3 h
set_option maxRecDepth 20000 in
theorem t87 {d n : Nat} {Q : zRs → zH → Prop}  {y0 : Nat} {y1 : Option Nat} {y2 : Option Nat} {y3 : Int32} (hd : 4 ≤ d)  {h : zH} {p : (Unit × zH)} (hF : f87 n  y0 y1 y2 y3 h = some p) (q : Q (eV p.1) p.2) : zC d 87 [.ref y0, va_rf y1, va_rf y2, .int y3] h Q := by
  refine zC_of (L := [some (.ref y0), some (va_rf y1), some (va_rf y2), some (.int y3)]) (congrArg (List.cons _) ((zsl_rf _ _).trans (congrArg (List.cons _) ((zsl_rf _ _).trans (congrArg (List.cons _) rfl))))) rfl ?_
  unfold f87 at hF
  obtain ⟨d, rfl⟩ : ∃ e, d = e + 1 := ⟨d - 1, by omega⟩
  refine zx_iload_n rfl rfl rfl ?_
  refine zy_rload_n rfl rfl rfl ?_
  replace hF := zbnd hF
  obtain ⟨a1, rfl, hF⟩ := hF
  replace hF := zbnd hF
  obtain ⟨x2, e3, hF⟩ := hF
  refine zy_alen rfl rfl e3 ?_
  refine zx_ic_ne rfl rfl (fun c4 => ?_) (fun c4 => ?_)
  · rw [if_neg c4] at hF
    exact tb87_11 (l0 := y0) (l1 := y1) (l2 := (some a1)) (l3 := y3) hd   hF q
  · rw [if_pos c4] at hF
    refine zx_aload_n rfl rfl rfl ?_
    replace hF := zgd_some hF
    obtain ⟨g5, hF⟩ := hF
    replace hF := zbnd hF
    obtain ⟨p7, e6, hF⟩ := hF
    refine zx_callE rfl rfl rfl rfl (zrcv_isO g5) rfl rfl (zc4 (Nat.le_of_ble_eq_true rfl)) (t88 (by omega) e6 (zaA ?_))
    refine zy_rstore_n rfl rfl (zput_ok (L' := [some (.ref y0), some (va_rf y1), some (va_rf p7.1), some (.int y3)]) rfl (zcl_X (j := 1) rfl (zn2_rf _)) rfl) ?_
    exact tb87_11 (l0 := y0) (l1 := y1) (l2 := p7.1) (l3 := y3) hd   hF q
def f86 (n : Nat)  (y0 : Nat) (y1 : Option Nat) (h : zH) : Option (Int32 × zH) :=
  (gI h y0 14 0).bind fun x1 =>
  (pF h y0 14 0 (.int (x1 + 1))).bind fun h3 =>
  (gR h3 y0 14 1).bind fun x5 =>
  (gI h3 y0 14 2).bind fun x7 =>
  zgd (isO h3 y0 14) <|
  (f87 n y0 y1 x5 x7 h3).bind fun p11 =>
  some (1, p11.2)
set_option maxRecDepth 20000 in
theorem t86 {d n : Nat} {Q : zRs → zH → Prop}  {y0 : Nat} {y1 : Option Nat} (hd : 5 ≤ d)  {h : zH} {p : (Int32 × zH)} (hF : f86 n  y0 y1 h = some p) (q : Q (eI p.1) p.2) : zC d 86 [.ref y0, va_rf y1] h Q := by
  refine zC_of (L := [some (.ref y0), some (va_rf y1)]) (congrArg (List.cons _) ((zsl_rf _ _).trans (congrArg (List.cons _) rfl))) rfl ?_
  unfold f86 at hF
  obtain ⟨d, rfl⟩ : ∃ e, d = e + 1 := ⟨d - 1, by omega⟩
  refine zx_aload_n rfl rfl rfl ?_
  refine zx_dup rfl rfl rfl ?_
  replace hF := zbnd hF
  obtain ⟨x1, e2, hF⟩ := hF
  refine zy_getI rfl rfl e2 ?_
  refine zx_iconst (v := 1) rfl rfl rfl ?_
  refine zx_iadd rfl rfl ?_
  replace hF := zbnd hF
  obtain ⟨h3, e4, hF⟩ := hF
  refine zy_put rfl rfl e4 ?_
  refine zx_aload_n rfl rfl rfl ?_
  refine zy_rload_n rfl rfl rfl ?_
  refine zx_aload_n rfl rfl rfl ?_
  replace hF := zbnd hF
  obtain ⟨x5, e6, hF⟩ := hF
  refine zy_getR rfl rfl e6 ?_
  refine zx_aload_n rfl rfl rfl ?_
  replace hF := zbnd hF
  obtain ⟨x7, e8, hF⟩ := hF
  refine zy_getI rfl rfl e8 ?_
  replace hF := zgd_some hF
  obtain ⟨g9, hF⟩ := hF
  replace hF := zbnd hF
  obtain ⟨p11, e10, hF⟩ := hF
  refine zx_callE rfl rfl rfl rfl (zrcv_isO g9) (congrArg (List.cons _) ((zsl_rf _ _).trans (congrArg (List.cons _) ((zsl_rf _ _).trans (congrArg (List.cons _) rfl))))) rfl (zc4 (Nat.le_of_ble_eq_true rfl)) (t87 (by omega) e10 (zaV ?_))
  refine zx_iconst (v := 1) rfl rfl rfl ?_
  replace hF := Option.some.inj hF
  subst hF
  exact zx_bret rfl rfl rfl rfl q
def f67 (n : Nat)  (y0 : Nat) (h : zH) : Option ((Unit ⊕ Nat) × zH) :=
  (gR h y0 5 0).bind fun x1 =>
  x1.bind fun a3 =>
  (gR h a3 4 3).bind fun x4 =>
  x4.bind fun a6 =>
  zgd (isO h a6 14) <|
  (f68 n a6 h).bind fun p9 =>
  zgd (isO p9.2 y0 5) <|
  (f69 n y0 p9.1 12 p9.2).bind fun p15 => zth p15 (fun r12 h13 =>
    (gR h13 y0 5 0).bind fun x16 =>
    x16.bind fun a18 =>
    (gR h13 a18 4 0).bind fun x19 =>
    zgd (isO h13 y0 5) <|
    (f72 n y0 x19 h13).bind fun p26 => zth p26 (fun r23 h24 =>
      zgd (isO h24 y0 5) <|
      (f71 n y0 (some 13) h24).bind fun p32 => zth p32 (fun r29 h30 =>
        zgd (isO h30 y0 5) <|
        (f77 n 64 y0 (some 32) 0 h30).bind fun p38 => zth p38 (fun r35 h36 =>
          zgd (isO h36 y0 5) <|
          (f71 n y0 (some 10) h36).bind fun p44 => zth p44 (fun r41 h42 =>
            (gR h42 y0 5 0).bind fun x45 =>
            x45.bind fun a47 =>
            (gR h42 a47 4 0).bind fun x48 =>
            x48.bind fun a50 =>
            zgd (isO h42 a50 14) <|
            (f86 n a50 r23 h42).bind fun p53 =>
            (gR p53.2 y0 5 0).bind fun x54 =>
            x54.bind fun a56 =>
            (gR p53.2 a56 4 3).bind fun x57 =>
            x57.bind fun a59 =>
            zgd (isO p53.2 a59 14) <|
            (f86 n a59 r35 p53.2).bind fun p62 =>
            some (.inl (), p62.2))
            (fun x43 h42 =>
            zgd (exOk x43) <| some (.inr x43, h42)))
          (fun x37 h36 =>
          zgd (exOk x37) <| some (.inr x37, h36)))
        (fun x31 h30 =>
        zgd (exOk x31) <| some (.inr x31, h30)))
      (fun x25 h24 =>
      zgd (exOk x25) <| some (.inr x25, h24)))
    (fun x14 h13 =>
    zgd (exOk x14) <| some (.inr x14, h13))
set_option maxRecDepth 20000 in
theorem t67 {d n : Nat} {Q : zRs → zH → Prop}  {y0 : Nat} (hd : 70 ≤ d)  {h : zH} {p : ((Unit ⊕ Nat) × zH)} (hF : f67 n  y0 h = some p) (q : Q (eVx p.1) p.2) : zC d 67 [.ref y0] h Q := by
  refine zC_of (L := [some (.ref y0), none, none]) rfl rfl ?_
  unfold f67 at hF
  obtain ⟨d, rfl⟩ : ∃ e, d = e + 1 := ⟨d - 1, by omega⟩
  refine zx_aload_n rfl rfl rfl ?_
  refine zx_aload_n rfl rfl rfl ?_
  replace hF := zbnd hF
  obtain ⟨x1, e2, hF⟩ := hF
  refine zy_getR rfl rfl e2 ?_
  replace hF := zbnd hF
  obtain ⟨a3, rfl, hF⟩ := hF
  replace hF := zbnd hF
  obtain ⟨x4, e5, hF⟩ := hF
  refine zy_getR rfl rfl e5 ?_
  replace hF := zbnd hF
  obtain ⟨a6, rfl, hF⟩ := hF
  replace hF := zgd_some hF
  obtain ⟨g7, hF⟩ := hF
  replace hF := zbnd hF
  obtain ⟨p9, e8, hF⟩ := hF
  refine zx_callE rfl rfl rfl rfl (zrcv_isO g7) rfl rfl (zc4 (Nat.le_of_ble_eq_true rfl)) (t68 (by omega) e8 (zaI ?_))
  refine zx_bipush (v := 12) rfl rfl rfl ?_
  replace hF := zgd_some hF
  obtain ⟨g10, hF⟩ := hF
  replace hF := zbnd hF
  obtain ⟨⟨r12, h13⟩, e11, hF⟩ := hF
  refine zx_callE rfl rfl rfl rfl (zrcv_isO g10) rfl rfl (zc4 (Nat.le_of_ble_eq_true rfl)) (t69 (by omega) e11 ?_)
  rcases r12 with r12 | x14
  rotate_left 1
  · replace hF := zthH hF
    replace hF := zgd_some hF
    obtain ⟨gx, hF⟩ := hF
    replace hF := Option.some.inj hF
    subst hF
    exact zaX rfl gx q
  replace hF := zthG hF
  refine zaV (x := ()) ?_
  refine zx_aload_n rfl rfl rfl ?_
  refine zx_aload_n rfl rfl rfl ?_
  replace hF := zbnd hF
  obtain ⟨x16, e17, hF⟩ := hF
  refine zy_getR rfl rfl e17 ?_
  replace hF := zbnd hF
  obtain ⟨a18, rfl, hF⟩ := hF
  replace hF := zbnd hF
  obtain ⟨x19, e20, hF⟩ := hF
  refine zy_getR rfl rfl e20 ?_
  replace hF := zgd_some hF
  obtain ⟨g21, hF⟩ := hF
  replace hF := zbnd hF
  obtain ⟨⟨r23, h24⟩, e22, hF⟩ := hF
  refine zx_callE rfl rfl rfl rfl (zrcv_isO g21) (congrArg (List.cons _) ((zsl_rf _ _).trans (congrArg (List.cons _) rfl))) rfl (zc4 (Nat.le_of_ble_eq_true rfl)) (t72 (by omega) e22 ?_)
  rcases r23 with r23 | x25
  rotate_left 1
  · replace hF := zthH hF
    replace hF := zgd_some hF
    obtain ⟨gx, hF⟩ := hF
    replace hF := Option.some.inj hF
    subst hF
    exact zaX rfl gx q
  replace hF := zthG hF
  refine zaA ?_
  refine zy_rstore_n rfl rfl rfl ?_
  refine zx_aload_n rfl rfl rfl ?_
  refine zx_gets rfl rfl rfl ?_
  replace hF := zgd_some hF
  obtain ⟨g27, hF⟩ := hF
  replace hF := zbnd hF
  obtain ⟨⟨r29, h30⟩, e28, hF⟩ := hF
  refine zx_callE rfl rfl rfl rfl (zrcv_isO g27) rfl rfl (zc4 (Nat.le_of_ble_eq_true rfl)) (t71 (by omega) e28 ?_)
  rcases r29 with r29 | x31
  rotate_left 1
  · replace hF := zthH hF
    replace hF := zgd_some hF
    obtain ⟨gx, hF⟩ := hF
    replace hF := Option.some.inj hF
    subst hF
    exact zaX rfl gx q
  replace hF := zthG hF
  refine zaA ?_
  refine zx_pop rfl rfl (zc1_rf _) ?_
  refine zx_aload_n rfl rfl rfl ?_
  refine zx_gets rfl rfl rfl ?_
  refine zx_iconst (v := 0) rfl rfl rfl ?_
  replace hF := zgd_some hF
  obtain ⟨g33, hF⟩ := hF
  replace hF := zbnd hF
  obtain ⟨⟨r35, h36⟩, e34, hF⟩ := hF
  refine zx_callE rfl rfl rfl rfl (zrcv_isO g33) rfl rfl (zc4 (Nat.le_of_ble_eq_true rfl)) (t77 64 (by omega) e34 ?_)
  rcases r35 with r35 | x37
  rotate_left 1
  · replace hF := zthH hF
    replace hF := zgd_some hF
    obtain ⟨gx, hF⟩ := hF
    replace hF := Option.some.inj hF
    subst hF
    exact zaX rfl gx q
  replace hF := zthG hF
  refine zaA ?_
  refine zy_rstore_n rfl rfl (zput_ok (L' := [some (.ref y0), some (va_rf r23), some (va_rf r35)]) rfl (zcl_X (j := 1) rfl (zn2_rf _)) rfl) ?_
  refine zx_aload_n rfl rfl rfl ?_
  refine zx_gets rfl rfl rfl ?_
  replace hF := zgd_some hF
  obtain ⟨g39, hF⟩ := hF
  replace hF := zbnd hF
  obtain ⟨⟨r41, h42⟩, e40, hF⟩ := hF
  refine zx_callE rfl rfl rfl rfl (zrcv_isO g39) rfl rfl (zc4 (Nat.le_of_ble_eq_true rfl)) (t71 (by omega) e40 ?_)
  rcases r41 with r41 | x43
  rotate_left 1
  · replace hF := zthH hF
    replace hF := zgd_some hF
    obtain ⟨gx, hF⟩ := hF
    replace hF := Option.some.inj hF
    subst hF
    exact zaX rfl gx q
  replace hF := zthG hF
  refine zaA ?_
  refine zx_pop rfl rfl (zc1_rf _) ?_
  refine zx_aload_n rfl rfl rfl ?_
  replace hF := zbnd hF
  obtain ⟨x45, e46, hF⟩ := hF
  refine zy_getR rfl rfl e46 ?_
  replace hF := zbnd hF
  obtain ⟨a47, rfl, hF⟩ := hF
  replace hF := zbnd hF
  obtain ⟨x48, e49, hF⟩ := hF
  refine zy_getR rfl rfl e49 ?_
  refine zy_rload_n rfl rfl rfl ?_
  replace hF := zbnd hF
  obtain ⟨a50, rfl, hF⟩ := hF
  replace hF := zgd_some hF
  obtain ⟨g51, hF⟩ := hF
  replace hF := zbnd hF
  obtain ⟨p53, e52, hF⟩ := hF
  refine zx_callE rfl rfl rfl rfl (zrcv_isO g51) (congrArg (List.cons _) ((zsl_rf _ _).trans (congrArg (List.cons _) rfl))) rfl (zc4 (Nat.le_of_ble_eq_true rfl)) (t86 (by omega) e52 (zaI ?_))
  refine zx_pop rfl rfl rfl ?_
  refine zx_aload_n rfl rfl rfl ?_
  replace hF := zbnd hF
  obtain ⟨x54, e55, hF⟩ := hF
  refine zy_getR rfl rfl e55 ?_
  replace hF := zbnd hF
  obtain ⟨a56, rfl, hF⟩ := hF
  replace hF := zbnd hF
  obtain ⟨x57, e58, hF⟩ := hF
  refine zy_getR rfl rfl e58 ?_
  refine zy_rload_n rfl rfl rfl ?_
  replace hF := zbnd hF
  obtain ⟨a59, rfl, hF⟩ := hF
  replace hF := zgd_some hF
  obtain ⟨g60, hF⟩ := hF
  replace hF := zbnd hF
  obtain ⟨p62, e61, hF⟩ := hF
  refine zx_callE rfl rfl rfl rfl (zrcv_isO g60) (congrArg (List.cons _) ((zsl_rf _ _).trans (congrArg (List.cons _) rfl))) rfl (zc4 (Nat.le_of_ble_eq_true rfl)) (t86 (by omega) e61 (zaI ?_))
  refine zx_pop rfl rfl rfl ?_
  replace hF := Option.some.inj hF
  subst hF
  exact zx_return rfl rfl rfl q
def f92 (n : Nat)  (y0 : Nat) (y1 : Option Nat) (y2 : Option Nat) (y3 : Int32) (h : zH) : Option (Unit × zH) :=
  (pF h y0 7 4 (.int 0)).bind fun h1 =>
  (pF h1 y0 7 0 (va_rf y1)).bind fun h3 =>
  (pF h3 y0 7 1 (va_rf y2)).bind fun h5 =>
  (f22 n 0 y3 h5).bind fun p8 =>
  (nA p8.2 0 p8.1).bind fun h9 =>
  (pF h9 y0 7 2 (.ref p8.2.1.length)).bind fun h11 =>
  (f22 n 0 y3 h11).bind fun p14 =>
  (nA p14.2 0 p14.1).bind fun h15 =>
  (pF h15 y0 7 3 (.ref p14.2.1.length)).bind fun h17 =>
  some ((), h17)
set_option maxRecDepth 20000 in
theorem t92 {d n : Nat} {Q : zRs → zH → Prop}  {y0 : Nat} {y1 : Option Nat} {y2 : Option Nat} {y3 : Int32} (hd : 1 ≤ d)  {h : zH} {p : (Unit × zH)} (hF : f92 n  y0 y1 y2 y3 h = some p) (q : Q (eV p.1) p.2) : zC d 92 [.ref y0, va_rf y1, va_rf y2, .int y3] h Q := by
  refine zC_of (L := [some (.ref y0), some (va_rf y1), some (va_rf y2), some (.int y3)]) (congrArg (List.cons _) ((zsl_rf _ _).trans (congrArg (List.cons _) ((zsl_rf _ _).trans (congrArg (List.cons _) rfl))))) rfl ?_
  unfold f92 at hF
  obtain ⟨d, rfl⟩ : ∃ e, d = e + 1 := ⟨d - 1, by omega⟩
  refine zx_aload_n rfl rfl rfl ?_
  refine zw_obj rfl rfl rfl (Nat.ble_eq_true_of_le (Nat.le_trans (zcat_le _) (Nat.le_of_ble_eq_true rfl))) ?_
  refine zx_aload_n rfl rfl rfl ?_
  refine zx_iconst (v := 0) rfl rfl rfl ?_
  replace hF := zbnd hF
  obtain ⟨h1, e2, hF⟩ := hF
  refine zy_put rfl rfl e2 ?_
  refine zx_aload_n rfl rfl rfl ?_
  refine zy_rload_n rfl rfl rfl ?_
  replace hF := zbnd hF
  obtain ⟨h3, e4, hF⟩ := hF
  refine zy_put rfl rfl e4 ?_
  refine zx_aload_n rfl rfl rfl ?_
  refine zy_rload_n rfl rfl rfl ?_
  replace hF := zbnd hF
  obtain ⟨h5, e6, hF⟩ := hF
  refine zy_put rfl rfl e6 ?_
  refine zx_aload_n rfl rfl rfl ?_
  refine zx_iconst (v := 0) rfl rfl rfl ?_
  refine zx_iload_n rfl rfl rfl ?_
  replace hF := zbnd hF
  obtain ⟨p8, e7, hF⟩ := hF
  refine zx_callE rfl rfl rfl rfl rfl rfl rfl (zc4 (Nat.le_of_ble_eq_true rfl)) (t22 (by omega) e7 (zaI ?_))
  replace hF := zbnd hF
  obtain ⟨h9, e10, hF⟩ := hF
  refine zy_newarr rfl rfl rfl e10 ?_
  replace hF := zbnd hF
  obtain ⟨h11, e12, hF⟩ := hF
  refine zy_put rfl rfl e12 ?_
  refine zx_aload_n rfl rfl rfl ?_
  refine zx_iconst (v := 0) rfl rfl rfl ?_
  refine zx_iload_n rfl rfl rfl ?_
  replace hF := zbnd hF
  obtain ⟨p14, e13, hF⟩ := hF
  refine zx_callE rfl rfl rfl rfl rfl rfl rfl (zc4 (Nat.le_of_ble_eq_true rfl)) (t22 (by omega) e13 (zaI ?_))
  replace hF := zbnd hF
  obtain ⟨h15, e16, hF⟩ := hF
  refine zy_newarr rfl rfl rfl e16 ?_
  replace hF := zbnd hF
  obtain ⟨h17, e18, hF⟩ := hF
  refine zy_put rfl rfl e18 ?_
  replace hF := Option.some.inj hF
  subst hF
  exact zx_return rfl rfl rfl q
def f91 (n : Nat)  (y0 : Nat) (y1 : Int32) (h : zH) : Option (Unit × zH) :=
  (pF h y0 0 0 (.ref 16)).bind fun h1 =>
  (f6 n h1.1.length (nO h1 14 3)).bind fun p4 =>
  (pF p4.2 y0 0 1 (.ref h1.1.length)).bind fun h5 =>
  (f6 n h5.1.length (nO h5 14 3)).bind fun p8 =>
  (pF p8.2 y0 0 2 (.ref h5.1.length)).bind fun h9 =>
  (f6 n h9.1.length (nO h9 14 3)).bind fun p12 =>
  (pF p12.2 y0 0 3 (.ref h9.1.length)).bind fun h13 =>
  (nA h13 0 4).bind fun h15 =>
  (pF h15 y0 0 4 (.ref h13.1.length)).bind fun h17 =>
  (nA h17 0 4).bind fun h19 =>
  (pF h19 y0 0 5 (.ref h17.1.length)).bind fun h21 =>
  (f92 n h21.1.length none none 1 (nO h21 7 5)).bind fun p24 =>
  (pF p24.2 y0 0 6 (.ref h21.1.length)).bind fun h25 =>
  (pF h25 y0 0 7 (.int 0)).bind fun h27 =>
  (pF h27 y0 0 8 (.int y1)).bind fun h29 =>
  (pF h29 y0 0 9 (.int y1)).bind fun h31 =>
  some ((), h31)
set_option maxRecDepth 20000 in
theorem t91 {d n : Nat} {Q : zRs → zH → Prop}  {y0 : Nat} {y1 : Int32} (hd : 3 ≤ d)  {h : zH} {p : (Unit × zH)} (hF : f91 n  y0 y1 h = some p) (q : Q (eV p.1) p.2) : zC d 91 [.ref y0, .int y1] h Q := by
  refine zC_of (L := [some (.ref y0), some (.int y1)]) rfl rfl ?_
  unfold f91 at hF
  obtain ⟨d, rfl⟩ : ∃ e, d = e + 1 := ⟨d - 1, by omega⟩
  refine zx_aload_n rfl rfl rfl ?_
  refine zw_obj rfl rfl rfl (Nat.ble_eq_true_of_le (Nat.le_trans (zcat_le _) (Nat.le_of_ble_eq_true rfl))) ?_
  refine zx_aload_n rfl rfl rfl ?_
  refine zx_gets rfl rfl rfl ?_
  replace hF := zbnd hF
  obtain ⟨h1, e2, hF⟩ := hF
  refine zy_put rfl rfl e2 ?_
  refine zx_aload_n rfl rfl rfl ?_
  refine zy_new rfl rfl ?_
  refine zx_dup rfl rfl rfl ?_
  replace hF := zbnd hF
  obtain ⟨p4, e3, hF⟩ := hF
  refine zx_callF rfl rfl rfl rfl rfl rfl rfl (zc4 (Nat.le_of_ble_eq_true rfl)) (t6 (by omega) e3 (zaV ?_))
  replace hF := zbnd hF
  obtain ⟨h5, e6, hF⟩ := hF
  refine zy_put rfl rfl e6 ?_
  refine zx_aload_n rfl rfl rfl ?_
  refine zy_new rfl rfl ?_
  refine zx_dup rfl rfl rfl ?_
  replace hF := zbnd hF
  obtain ⟨p8, e7, hF⟩ := hF
  refine zx_callF rfl rfl rfl rfl rfl rfl rfl (zc4 (Nat.le_of_ble_eq_true rfl)) (t6 (by omega) e7 (zaV ?_))
  replace hF := zbnd hF
  obtain ⟨h9, e10, hF⟩ := hF
  refine zy_put rfl rfl e10 ?_
  refine zx_aload_n rfl rfl rfl ?_
  refine zy_new rfl rfl ?_
  refine zx_dup rfl rfl rfl ?_
  replace hF := zbnd hF
  obtain ⟨p12, e11, hF⟩ := hF
  refine zx_callF rfl rfl rfl rfl rfl rfl rfl (zc4 (Nat.le_of_ble_eq_true rfl)) (t6 (by omega) e11 (zaV ?_))
  replace hF := zbnd hF
  obtain ⟨h13, e14, hF⟩ := hF
  refine zy_put rfl rfl e14 ?_
  refine zx_aload_n rfl rfl rfl ?_
  refine zx_iconst (v := 4) rfl rfl rfl ?_
  replace hF := zbnd hF
  obtain ⟨h15, e16, hF⟩ := hF
  refine zy_newarr rfl rfl rfl e16 ?_
  replace hF := zbnd hF
  obtain ⟨h17, e18, hF⟩ := hF
  refine zy_put rfl rfl e18 ?_
  refine zx_aload_n rfl rfl rfl ?_
  refine zx_iconst (v := 4) rfl rfl rfl ?_
  replace hF := zbnd hF
  obtain ⟨h19, e20, hF⟩ := hF
  refine zy_newarr rfl rfl rfl e20 ?_
  replace hF := zbnd hF
  obtain ⟨h21, e22, hF⟩ := hF
  refine zy_put rfl rfl e22 ?_
  refine zx_aload_n rfl rfl rfl ?_
  refine zy_new rfl rfl ?_
  refine zx_dup rfl rfl rfl ?_
  refine zx_null rfl rfl ?_
  refine zx_null rfl rfl ?_
  refine zx_iconst (v := 1) rfl rfl rfl ?_
  replace hF := zbnd hF
  obtain ⟨p24, e23, hF⟩ := hF
  refine zx_callF rfl rfl rfl rfl rfl rfl rfl (zc4 (Nat.le_of_ble_eq_true rfl)) (t92 (by omega) e23 (zaV ?_))
  replace hF := zbnd hF
  obtain ⟨h25, e26, hF⟩ := hF
  refine zy_put rfl rfl e26 ?_
  refine zx_aload_n rfl rfl rfl ?_
  refine zx_iconst (v := 0) rfl rfl rfl ?_
  replace hF := zbnd hF
  obtain ⟨h27, e28, hF⟩ := hF
  refine zy_put rfl rfl e28 ?_
  refine zx_aload_n rfl rfl rfl ?_
  refine zx_iload_n rfl rfl rfl ?_
  replace hF := zbnd hF
  obtain ⟨h29, e30, hF⟩ := hF
  refine zy_put rfl rfl e30 ?_
  refine zx_aload_n rfl rfl rfl ?_
  refine zx_iload_n rfl rfl rfl ?_
  replace hF := zbnd hF
  obtain ⟨h31, e32, hF⟩ := hF
  refine zy_put rfl rfl e32 ?_
  replace hF := Option.some.inj hF
  subst hF
  exact zx_return rfl rfl rfl q
end ZDEC

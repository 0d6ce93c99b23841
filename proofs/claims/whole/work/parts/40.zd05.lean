/-! THE PROGRAM AS FUNCTIONS, 5 (written by a program of the verifier's) -/
section ZDEC
def f183 (n : Nat)  (y0 : Nat) (h : zH) : Option (Int32 × zH) :=
  (gI h y0 11 0).bind fun x1 =>
  some (x1, h)
set_option maxRecDepth 20000 in
theorem t183 {d n : Nat} {Q : zRs → zH → Prop}  {y0 : Nat} (hd : 0 ≤ d)  {h : zH} {p : (Int32 × zH)} (hF : f183 n  y0 h = some p) (q : Q (eI p.1) p.2) : zC d 183 [.ref y0] h Q := by
  refine zC_of (L := [some (.ref y0)]) rfl rfl ?_
  unfold f183 at hF
  refine zx_aload_n rfl rfl rfl ?_
  replace hF := zbnd hF
  obtain ⟨x1, e2, hF⟩ := hF
  refine zy_getI rfl rfl e2 ?_
  replace hF := Option.some.inj hF
  subst hF
  exact zx_bret rfl rfl rfl rfl q
def b185_10 (n : Nat)   (l0 : Nat) (l1 : Int32) (s0 : Int32) (s1 : Nat) (h : zH) : Option (Int32 × zH) :=
  (pF h s1 11 0 (.int s0)).bind fun h1 =>
  zgd (zrtn .boolean l1) <|
  some (l1, h1)
set_option maxRecDepth 20000 in
theorem tb185_10 {d n : Nat} {Q : zRs → zH → Prop}   {l0 : Nat} {l1 : Int32} {s0 : Int32} {s1 : Nat}  (hd : 0 ≤ d)   {h : zH} {p : (Int32 × zH)}  (hF : b185_10 n   l0 l1 s0 s1 h = some p) (q : Q (eI p.1) p.2) : zW d 185 10 [some (.ref l0), some (.int l1)] [.int s0, .ref s1] h Q := by
  unfold b185_10 at hF
  replace hF := zbnd hF
  obtain ⟨h1, e2, hF⟩ := hF
  refine zy_put rfl rfl e2 ?_
  refine zx_iload_n rfl rfl rfl ?_
  replace hF := zgd_some hF
  obtain ⟨g3, hF⟩ := hF
  replace hF := Option.some.inj hF
  subst hF
  exact zx_bret rfl rfl rfl g3 q
def f185 (n : Nat)  (y0 : Nat) (y1 : Int32) (h : zH) : Option (Int32 × zH) :=
  if y1 = 0 then
    b185_10 n  y0 y1 1 y0 h
  else
    b185_10 n  y0 y1 0 y0 h
set_option maxRecDepth 20000 in
theorem t185 {d n : Nat} {Q : zRs → zH → Prop}  {y0 : Nat} {y1 : Int32} (hd : 0 ≤ d)  {h : zH} {p : (Int32 × zH)} (hF : f185 n  y0 y1 h = some p) (q : Q (eI p.1) p.2) : zC d 185 [.ref y0, .int y1] h Q := by
  refine zC_of (L := [some (.ref y0), some (.int y1)]) rfl rfl ?_
  unfold f185 at hF
  refine zx_aload_n rfl rfl rfl ?_
  refine zx_iload_n rfl rfl rfl ?_
  refine zx_if_eq rfl rfl (fun c1 => ?_) (fun c1 => ?_)
  · rw [if_pos c1] at hF
    refine zx_iconst (v := 1) rfl rfl rfl ?_
    exact tb185_10 (l0 := y0) (l1 := y1) (s0 := 1) (s1 := y0) hd   hF q
  · rw [if_neg c1] at hF
    refine zx_iconst (v := 0) rfl rfl rfl ?_
    refine zx_goto rfl rfl ?_
    exact tb185_10 (l0 := y0) (l1 := y1) (s0 := 0) (s1 := y0) hd   hF q
def b184_83 (n : Nat)  (r30 : Nat → Int32 → Int32 → Int32 → Int32 → Int32 → Int32 → zH → Option (Int32 × zH)) (l0 : Nat) (l1 : Int32) (l2 : Int32) (l3 : Int32) (l4 : Int32) (l5 : Int32) (l6 : Int32) (s0 : Int32) (h : zH) : Option (Int32 × zH) :=
  (gR h l0 11 1).bind fun x1 =>
  (gI h l0 11 2).bind fun x3 =>
  x1.bind fun a5 =>
  (aS zsB h a5 x3 (.int ((s0 >>> ((24 - (8 * (l6 - l6 / 4 * 4))) &&& 31)).toInt8.toInt32))).bind fun h6 =>
  (gI h6 l0 11 2).bind fun x8 =>
  (pF h6 l0 11 2 (.int (x8 + 1))).bind fun h10 =>
  r30 l0 l1 l2 l3 l4 l5 (l6 + 1) h10
set_option maxRecDepth 20000 in
theorem tb184_83 {d n : Nat} {Q : zRs → zH → Prop}  {r30 : Nat → Int32 → Int32 → Int32 → Int32 → Int32 → Int32 → zH → Option (Int32 × zH)} {l0 : Nat} {l1 : Int32} {l2 : Int32} {l3 : Int32} {l4 : Int32} {l5 : Int32} {l6 : Int32} {s0 : Int32} {x7 : Option Value} (hd : 1 ≤ d)  (hr30 : ∀ {l0 : Nat} {l1 : Int32} {l2 : Int32} {l3 : Int32} {l4 : Int32} {l5 : Int32} {l6 : Int32}  {x7 : Option Value} {h : zH} {p : (Int32 × zH)}, zn2 x7 = true → r30 l0 l1 l2 l3 l4 l5 l6 h = some p → Q (eI p.1) p.2 → zW d 184 30 [some (.ref l0), some (.int l1), some (.int l2), some (.int l3), some (.int l4), some (.int l5), some (.int l6), x7] [] h Q) {h : zH} {p : (Int32 × zH)} (hx7 : zn2 x7 = true) (hF : b184_83 n  r30 l0 l1 l2 l3 l4 l5 l6 s0 h = some p) (q : Q (eI p.1) p.2) : zW d 184 83 [some (.ref l0), some (.int l1), some (.int l2), some (.int l3), some (.int l4), some (.int l5), some (.int l6), x7] [.int s0] h Q := by
  unfold b184_83 at hF
  obtain ⟨d, rfl⟩ : ∃ e, d = e + 1 := ⟨d - 1, by omega⟩
  refine zx_istore rfl rfl rfl ?_
  refine zx_aload_n rfl rfl rfl ?_
  replace hF := zbnd hF
  obtain ⟨x1, e2, hF⟩ := hF
  refine zy_getR rfl rfl e2 ?_
  refine zx_aload_n rfl rfl rfl ?_
  replace hF := zbnd hF
  obtain ⟨x3, e4, hF⟩ := hF
  refine zy_getI rfl rfl e4 ?_
  refine zx_iload rfl rfl rfl ?_
  refine zx_bipush (v := 24) rfl rfl rfl ?_
  refine zx_bipush (v := 8) rfl rfl rfl ?_
  refine zx_iload rfl rfl rfl ?_
  refine zx_iconst (v := 4) rfl rfl rfl ?_
  refine zx_irem rfl rfl (by decide) ?_
  refine zx_imul rfl rfl ?_
  refine zx_isub rfl rfl ?_
  refine zx_ishr rfl rfl ?_
  refine zx_i2b rfl rfl ?_
  replace hF := zbnd hF
  obtain ⟨a5, rfl, hF⟩ := hF
  replace hF := zbnd hF
  obtain ⟨h6, e7, hF⟩ := hF
  refine zy_sB rfl rfl e7 ?_
  refine zx_aload_n rfl rfl rfl ?_
  refine zx_dup rfl rfl rfl ?_
  replace hF := zbnd hF
  obtain ⟨x8, e9, hF⟩ := hF
  refine zy_getI rfl rfl e9 ?_
  refine zx_iconst (v := 1) rfl rfl rfl ?_
  refine zx_iadd rfl rfl ?_
  replace hF := zbnd hF
  obtain ⟨h10, e11, hF⟩ := hF
  refine zy_put rfl rfl e11 ?_
  refine zx_iinc (w := 1) rfl rfl rfl rfl rfl ?_
  refine zx_goto rfl rfl ?_
  exact hr30 rfl hF q
def b184_30 (n : Nat)  (r30 : Nat → Int32 → Int32 → Int32 → Int32 → Int32 → Int32 → zH → Option (Int32 × zH)) (l0 : Nat) (l1 : Int32) (l2 : Int32) (l3 : Int32) (l4 : Int32) (l5 : Int32) (l6 : Int32) (h : zH) : Option (Int32 × zH) :=
  if (20 : Int32) ≤ l6 then
    (gI h l0 11 2).bind fun x2 =>
    some (x2, h)
  else
    if (4 : Int32) ≤ l6 then
      if (8 : Int32) ≤ l6 then
        if (12 : Int32) ≤ l6 then
          if (16 : Int32) ≤ l6 then
            b184_83 n r30 l0 l1 l2 l3 l4 l5 l6 l5 h
          else
            b184_83 n r30 l0 l1 l2 l3 l4 l5 l6 l4 h
        else
          b184_83 n r30 l0 l1 l2 l3 l4 l5 l6 l3 h
      else
        b184_83 n r30 l0 l1 l2 l3 l4 l5 l6 l2 h
    else
      b184_83 n r30 l0 l1 l2 l3 l4 l5 l6 l1 h
set_option maxRecDepth 20000 in
theorem tb184_30 {d n : Nat} {Q : zRs → zH → Prop}  {r30 : Nat → Int32 → Int32 → Int32 → Int32 → Int32 → Int32 → zH → Option (Int32 × zH)} {l0 : Nat} {l1 : Int32} {l2 : Int32} {l3 : Int32} {l4 : Int32} {l5 : Int32} {l6 : Int32}  {x7 : Option Value} (hd : 1 ≤ d)  (hr30 : ∀ {l0 : Nat} {l1 : Int32} {l2 : Int32} {l3 : Int32} {l4 : Int32} {l5 : Int32} {l6 : Int32}  {x7 : Option Value} {h : zH} {p : (Int32 × zH)}, zn2 x7 = true → r30 l0 l1 l2 l3 l4 l5 l6 h = some p → Q (eI p.1) p.2 → zW d 184 30 [some (.ref l0), some (.int l1), some (.int l2), some (.int l3), some (.int l4), some (.int l5), some (.int l6), x7] [] h Q) {h : zH} {p : (Int32 × zH)} (hx7 : zn2 x7 = true) (hF : b184_30 n  r30 l0 l1 l2 l3 l4 l5 l6 h = some p) (q : Q (eI p.1) p.2) : zW d 184 30 [some (.ref l0), some (.int l1), some (.int l2), some (.int l3), some (.int l4), some (.int l5), some (.int l6), x7] [] h Q := by
  unfold b184_30 at hF
  obtain ⟨d, rfl⟩ : ∃ e, d = e + 1 := ⟨d - 1, by omega⟩
  refine zx_iload rfl rfl rfl ?_
  refine zx_bipush (v := 20) rfl rfl rfl ?_
  refine zx_ic_ge rfl rfl (fun c1 => ?_) (fun c1 => ?_)
  · rw [if_pos c1] at hF
    refine zx_aload_n rfl rfl rfl ?_
    replace hF := zbnd hF
    obtain ⟨x2, e3, hF⟩ := hF
    refine zy_getI rfl rfl e3 ?_
    replace hF := Option.some.inj hF
    subst hF
    exact zx_bret rfl rfl rfl rfl q
  · rw [if_neg c1] at hF
    refine zx_iload rfl rfl rfl ?_
    refine zx_iconst (v := 4) rfl rfl rfl ?_
    refine zx_ic_ge rfl rfl (fun c4 => ?_) (fun c4 => ?_)
    · rw [if_pos c4] at hF
      refine zx_iload rfl rfl rfl ?_
      refine zx_bipush (v := 8) rfl rfl rfl ?_
      refine zx_ic_ge rfl rfl (fun c5 => ?_) (fun c5 => ?_)
      · rw [if_pos c5] at hF
        refine zx_iload rfl rfl rfl ?_
        refine zx_bipush (v := 12) rfl rfl rfl ?_
        refine zx_ic_ge rfl rfl (fun c6 => ?_) (fun c6 => ?_)
        · rw [if_pos c6] at hF
          refine zx_iload rfl rfl rfl ?_
          refine zx_bipush (v := 16) rfl rfl rfl ?_
          refine zx_ic_ge rfl rfl (fun c7 => ?_) (fun c7 => ?_)
          · rw [if_pos c7] at hF
            refine zx_iload rfl rfl rfl ?_
            exact tb184_83 (l0 := l0) (l1 := l1) (l2 := l2) (l3 := l3) (l4 := l4) (l5 := l5) (l6 := l6) (s0 := l5) hd hr30 hx7 hF q
          · rw [if_neg c7] at hF
            refine zx_iload rfl rfl rfl ?_
            refine zx_goto rfl rfl ?_
            exact tb184_83 (l0 := l0) (l1 := l1) (l2 := l2) (l3 := l3) (l4 := l4) (l5 := l5) (l6 := l6) (s0 := l4) hd hr30 hx7 hF q
        · rw [if_neg c6] at hF
          refine zx_iload_n rfl rfl rfl ?_
          refine zx_goto rfl rfl ?_
          exact tb184_83 (l0 := l0) (l1 := l1) (l2 := l2) (l3 := l3) (l4 := l4) (l5 := l5) (l6 := l6) (s0 := l3) hd hr30 hx7 hF q
      · rw [if_neg c5] at hF
        refine zx_iload_n rfl rfl rfl ?_
        refine zx_goto rfl rfl ?_
        exact tb184_83 (l0 := l0) (l1 := l1) (l2 := l2) (l3 := l3) (l4 := l4) (l5 := l5) (l6 := l6) (s0 := l2) hd hr30 hx7 hF q
    · rw [if_neg c4] at hF
      refine zx_iload_n rfl rfl rfl ?_
      refine zx_goto rfl rfl ?_
      exact tb184_83 (l0 := l0) (l1 := l1) (l2 := l2) (l3 := l3) (l4 := l4) (l5 := l5) (l6 := l6) (s0 := l1) hd hr30 hx7 hF q
def f184_30 (n : Nat)   (k : Nat) : Nat → Int32 → Int32 → Int32 → Int32 → Int32 → Int32 → zH → Option (Int32 × zH) := Nat.rec (fun _ _ _ _ _ _ _ _ => none) (fun _ ih => b184_30 n  ih) k
theorem tf184_30 {d n : Nat} {Q : zRs → zH → Prop}   (hd : 1 ≤ d)   (k : Nat) : ∀ {l0 : Nat} {l1 : Int32} {l2 : Int32} {l3 : Int32} {l4 : Int32} {l5 : Int32} {l6 : Int32}  {x7 : Option Value} {h : zH} {p : (Int32 × zH)}, zn2 x7 = true → f184_30 n   k l0 l1 l2 l3 l4 l5 l6 h = some p → Q (eI p.1) p.2 → zW d 184 30 [some (.ref l0), some (.int l1), some (.int l2), some (.int l3), some (.int l4), some (.int l5), some (.int l6), x7] [] h Q := by
  induction k with
  | zero => intros; rename_i hF _; cases hF
  | succ k ih => intros; rename_i hx7 hF q; exact tb184_30 (n := n) hd  ih hx7 hF q
def b184_19 (n : Nat)   (l0 : Nat) (l1 : Int32) (l2 : Int32) (l3 : Int32) (l4 : Int32) (l5 : Int32) (s0 : Int32) (s1 : Nat) (h : zH) : Option (Int32 × zH) :=
  zgd (isO h s1 11) <|
  (f185 n s1 s0 h).bind fun p3 =>
  if p3.1 = 0 then
    some (0, p3.2)
  else
    f184_30 n  n l0 l1 l2 l3 l4 l5 0 p3.2
set_option maxRecDepth 20000 in
theorem tb184_19 {d n : Nat} {Q : zRs → zH → Prop}   {l0 : Nat} {l1 : Int32} {l2 : Int32} {l3 : Int32} {l4 : Int32} {l5 : Int32} {s0 : Int32} {s1 : Nat} {x6 : Option Value} {x7 : Option Value} (hd : 1 ≤ d)   {h : zH} {p : (Int32 × zH)} (hx6 : zn2 x6 = true) (hx7 : zn2 x7 = true) (hF : b184_19 n   l0 l1 l2 l3 l4 l5 s0 s1 h = some p) (q : Q (eI p.1) p.2) : zW d 184 19 [some (.ref l0), some (.int l1), some (.int l2), some (.int l3), some (.int l4), some (.int l5), x6, x7] [.int s0, .ref s1] h Q := by
  unfold b184_19 at hF
  obtain ⟨d, rfl⟩ : ∃ e, d = e + 1 := ⟨d - 1, by omega⟩
  replace hF := zgd_some hF
  obtain ⟨g1, hF⟩ := hF
  replace hF := zbnd hF
  obtain ⟨p3, e2, hF⟩ := hF
  refine zx_callE rfl rfl rfl rfl (zrcv_isO g1) rfl rfl (zc4 (Nat.le_of_ble_eq_true rfl)) (t185 (by omega) e2 (zaI ?_))
  refine zx_if_ne rfl rfl (fun c4 => ?_) (fun c4 => ?_)
  · rw [if_neg c4] at hF
    refine zx_iconst (v := 0) rfl rfl rfl ?_
    refine zx_istore rfl rfl rfl ?_
    exact tf184_30 hd  n (l0 := l0) (l1 := l1) (l2 := l2) (l3 := l3) (l4 := l4) (l5 := l5) (l6 := 0) hx7 hF q
  · rw [if_pos c4] at hF
    refine zx_iconst (v := 0) rfl rfl rfl ?_
    replace hF := Option.some.inj hF
    subst hF
    exact zx_bret rfl rfl rfl rfl q
def f184 (n : Nat)  (y0 : Nat) (y1 : Int32) (y2 : Int32) (y3 : Int32) (y4 : Int32) (y5 : Int32) (h : zH) : Option (Int32 × zH) :=
  (gI h y0 11 2).bind fun x1 =>
  if (6000 : Int32) < (x1 + 20) then
    b184_19 n  y0 y1 y2 y3 y4 y5 0 y0 h
  else
    b184_19 n  y0 y1 y2 y3 y4 y5 1 y0 h
set_option maxRecDepth 20000 in
theorem t184 {d n : Nat} {Q : zRs → zH → Prop}  {y0 : Nat} {y1 : Int32} {y2 : Int32} {y3 : Int32} {y4 : Int32} {y5 : Int32} (hd : 1 ≤ d)  {h : zH} {p : (Int32 × zH)} (hF : f184 n  y0 y1 y2 y3 y4 y5 h = some p) (q : Q (eI p.1) p.2) : zC d 184 [.ref y0, .int y1, .int y2, .int y3, .int y4, .int y5] h Q := by
  refine zC_of (L := [some (.ref y0), some (.int y1), some (.int y2), some (.int y3), some (.int y4), some (.int y5), none, none]) rfl rfl ?_
  unfold f184 at hF
  obtain ⟨d, rfl⟩ : ∃ e, d = e + 1 := ⟨d - 1, by omega⟩
  refine zx_aload_n rfl rfl rfl ?_
  refine zx_aload_n rfl rfl rfl ?_
  replace hF := zbnd hF
  obtain ⟨x1, e2, hF⟩ := hF
  refine zy_getI rfl rfl e2 ?_
  refine zx_bipush (v := 20) rfl rfl rfl ?_
  refine zx_iadd rfl rfl ?_
  refine zx_sipush (v := 6000) rfl rfl rfl ?_
  refine zx_ic_gt rfl rfl (fun c3 => ?_) (fun c3 => ?_)
  · rw [if_pos c3] at hF
    refine zx_iconst (v := 0) rfl rfl rfl ?_
    exact tb184_19 (l0 := y0) (l1 := y1) (l2 := y2) (l3 := y3) (l4 := y4) (l5 := y5) (s0 := 0) (s1 := y0) hd  rfl rfl hF q
  · rw [if_neg c3] at hF
    refine zx_iconst (v := 1) rfl rfl rfl ?_
    refine zx_goto rfl rfl ?_
    exact tb184_19 (l0 := y0) (l1 := y1) (l2 := y2) (l3 := y3) (l4 := y4) (l5 := y5) (s0 := 1) (s1 := y0) hd  rfl rfl hF q
def f187 (n : Nat)  (y0 : Int32) (y1 : Int32) (y2 : Int32) (h : zH) : Option (Int32 × zH) :=
  if y0 < y1 then
    some (0, h)
  else
    if y2 < y0 then
      some (0, h)
    else
      some (1, h)
set_option maxRecDepth 20000 in
theorem t187 {d n : Nat} {Q : zRs → zH → Prop}  {y0 : Int32} {y1 : Int32} {y2 : Int32} (hd : 0 ≤ d)  {h : zH} {p : (Int32 × zH)} (hF : f187 n  y0 y1 y2 h = some p) (q : Q (eI p.1) p.2) : zC d 187 [.int y0, .int y1, .int y2] h Q := by
  refine zC_of (L := [some (.int y0), some (.int y1), some (.int y2)]) rfl rfl ?_
  unfold f187 at hF
  refine zx_iload_n rfl rfl rfl ?_
  refine zx_iload_n rfl rfl rfl ?_
  refine zx_ic_lt rfl rfl (fun c1 => ?_) (fun c1 => ?_)
  · rw [if_pos c1] at hF
    refine zx_iconst (v := 0) rfl rfl rfl ?_
    replace hF := Option.some.inj hF
    subst hF
    exact zx_bret rfl rfl rfl rfl q
  · rw [if_neg c1] at hF
    refine zx_iload_n rfl rfl rfl ?_
    refine zx_iload_n rfl rfl rfl ?_
    refine zx_ic_gt rfl rfl (fun c2 => ?_) (fun c2 => ?_)
    · rw [if_pos c2] at hF
      refine zx_iconst (v := 0) rfl rfl rfl ?_
      replace hF := Option.some.inj hF
      subst hF
      exact zx_bret rfl rfl rfl rfl q
    · rw [if_neg c2] at hF
      refine zx_iconst (v := 1) rfl rfl rfl ?_
      refine zx_goto rfl rfl ?_
      replace hF := Option.some.inj hF
      subst hF
      exact zx_bret rfl rfl rfl rfl q
def b186_25 (n : Nat)   (l0 : Nat) (l1 : Int32) (s0 : Int32) (s1 : Nat) (h : zH) : Option (Unit × zH) :=
  (pF h s1 11 2 (.int s0)).bind fun h1 =>
  some ((), h1)
set_option maxRecDepth 20000 in
theorem tb186_25 {d n : Nat} {Q : zRs → zH → Prop}   {l0 : Nat} {l1 : Int32} {s0 : Int32} {s1 : Nat}  (hd : 1 ≤ d)   {h : zH} {p : (Unit × zH)}  (hF : b186_25 n   l0 l1 s0 s1 h = some p) (q : Q (eV p.1) p.2) : zW d 186 25 [some (.ref l0), some (.int l1)] [.int s0, .ref s1] h Q := by
  unfold b186_25 at hF
  obtain ⟨d, rfl⟩ : ∃ e, d = e + 1 := ⟨d - 1, by omega⟩
  replace hF := zbnd hF
  obtain ⟨h1, e2, hF⟩ := hF
  refine zy_put rfl rfl e2 ?_
  replace hF := Option.some.inj hF
  subst hF
  exact zx_return rfl rfl rfl q
def f186 (n : Nat)  (y0 : Nat) (y1 : Int32) (h : zH) : Option (Unit × zH) :=
  (gI h y0 11 2).bind fun x1 =>
  (f187 n y1 0 x1 h).bind fun p4 =>
  zgd (isO p4.2 y0 11) <|
  (f185 n y0 p4.1 p4.2).bind fun p7 =>
  if p7.1 = 0 then
    (gI p7.2 y0 11 2).bind fun x9 =>
    b186_25 n  y0 y1 x9 y0 p7.2
  else
    b186_25 n  y0 y1 y1 y0 p7.2
set_option maxRecDepth 20000 in
theorem t186 {d n : Nat} {Q : zRs → zH → Prop}  {y0 : Nat} {y1 : Int32} (hd : 1 ≤ d)  {h : zH} {p : (Unit × zH)} (hF : f186 n  y0 y1 h = some p) (q : Q (eV p.1) p.2) : zC d 186 [.ref y0, .int y1] h Q := by
  refine zC_of (L := [some (.ref y0), some (.int y1)]) rfl rfl ?_
  unfold f186 at hF
  obtain ⟨d, rfl⟩ : ∃ e, d = e + 1 := ⟨d - 1, by omega⟩
  refine zx_aload_n rfl rfl rfl ?_
  refine zx_aload_n rfl rfl rfl ?_
  refine zx_iload_n rfl rfl rfl ?_
  refine zx_iconst (v := 0) rfl rfl rfl ?_
  refine zx_aload_n rfl rfl rfl ?_
  replace hF := zbnd hF
  obtain ⟨x1, e2, hF⟩ := hF
  refine zy_getI rfl rfl e2 ?_
  replace hF := zbnd hF
  obtain ⟨p4, e3, hF⟩ := hF
  refine zx_callE rfl rfl rfl rfl rfl rfl rfl (zc4 (Nat.le_of_ble_eq_true rfl)) (t187 (by omega) e3 (zaI ?_))
  replace hF := zgd_some hF
  obtain ⟨g5, hF⟩ := hF
  replace hF := zbnd hF
  obtain ⟨p7, e6, hF⟩ := hF
  refine zx_callE rfl rfl rfl rfl (zrcv_isO g5) rfl rfl (zc4 (Nat.le_of_ble_eq_true rfl)) (t185 (by omega) e6 (zaI ?_))
  refine zx_if_eq rfl rfl (fun c8 => ?_) (fun c8 => ?_)
  · rw [if_pos c8] at hF
    refine zx_aload_n rfl rfl rfl ?_
    replace hF := zbnd hF
    obtain ⟨x9, e10, hF⟩ := hF
    refine zy_getI rfl rfl e10 ?_
    exact tb186_25 (l0 := y0) (l1 := y1) (s0 := x9) (s1 := y0) hd   hF q
  · rw [if_neg c8] at hF
    refine zx_iload_n rfl rfl rfl ?_
    refine zx_goto rfl rfl ?_
    exact tb186_25 (l0 := y0) (l1 := y1) (s0 := y1) (s1 := y0) hd   hF q
def f191 (n : Nat)  (y0 : Nat) (y1 : Int32) (h : zH) : Option (Int32 × zH) :=
  (gI h y0 11 2).bind fun x1 =>
  if x1 ≤ y1 then
    some ((-1), h)
  else
    (gR h y0 11 1).bind fun x4 =>
    x4.bind fun a6 =>
    (aB h a6 y1).bind fun x7 =>
    some ((x7 &&& 255), h)
set_option maxRecDepth 20000 in
theorem t191 {d n : Nat} {Q : zRs → zH → Prop}  {y0 : Nat} {y1 : Int32} (hd : 0 ≤ d)  {h : zH} {p : (Int32 × zH)} (hF : f191 n  y0 y1 h = some p) (q : Q (eI p.1) p.2) : zC d 191 [.ref y0, .int y1] h Q := by
  refine zC_of (L := [some (.ref y0), some (.int y1)]) rfl rfl ?_
  unfold f191 at hF
  refine zx_iload_n rfl rfl rfl ?_
  refine zx_aload_n rfl rfl rfl ?_
  replace hF := zbnd hF
  obtain ⟨x1, e2, hF⟩ := hF
  refine zy_getI rfl rfl e2 ?_
  refine zx_ic_ge rfl rfl (fun c3 => ?_) (fun c3 => ?_)
  · rw [if_pos c3] at hF
    refine zx_iconst (v := (-1)) rfl rfl rfl ?_
    replace hF := Option.some.inj hF
    subst hF
    exact zx_bret rfl rfl rfl rfl q
  · rw [if_neg c3] at hF
    refine zx_aload_n rfl rfl rfl ?_
    replace hF := zbnd hF
    obtain ⟨x4, e5, hF⟩ := hF
    refine zy_getR rfl rfl e5 ?_
    refine zx_iload_n rfl rfl rfl ?_
    replace hF := zbnd hF
    obtain ⟨a6, rfl, hF⟩ := hF
    replace hF := zbnd hF
    obtain ⟨x7, e8, hF⟩ := hF
    refine zy_aB rfl rfl e8 ?_
    refine zx_sipush (v := 255) rfl rfl rfl ?_
    refine zx_iand rfl rfl ?_
    refine zx_goto rfl rfl ?_
    replace hF := Option.some.inj hF
    subst hF
    exact zx_bret rfl rfl rfl rfl q
def f192 (n : Nat)  (y0 : Int32) (h : zH) : Option (Int32 × zH) :=
  (f187 n y0 97 122 h).bind fun p2 =>
  if p2.1 = 0 then
    (f187 n y0 65 90 p2.2).bind fun p5 =>
    if p5.1 = 0 then
      some (0, p5.2)
    else
      some (1, p5.2)
  else
    some (1, p2.2)
set_option maxRecDepth 20000 in
theorem t192 {d n : Nat} {Q : zRs → zH → Prop}  {y0 : Int32} (hd : 1 ≤ d)  {h : zH} {p : (Int32 × zH)} (hF : f192 n  y0 h = some p) (q : Q (eI p.1) p.2) : zC d 192 [.int y0] h Q := by
  refine zC_of (L := [some (.int y0)]) rfl rfl ?_
  unfold f192 at hF
  obtain ⟨d, rfl⟩ : ∃ e, d = e + 1 := ⟨d - 1, by omega⟩
  refine zx_iload_n rfl rfl rfl ?_
  refine zx_bipush (v := 97) rfl rfl rfl ?_
  refine zx_bipush (v := 122) rfl rfl rfl ?_
  replace hF := zbnd hF
  obtain ⟨p2, e1, hF⟩ := hF
  refine zx_callE rfl rfl rfl rfl rfl rfl rfl (zc4 (Nat.le_of_ble_eq_true rfl)) (t187 (by omega) e1 (zaI ?_))
  refine zx_if_ne rfl rfl (fun c3 => ?_) (fun c3 => ?_)
  · rw [if_neg c3] at hF
    refine zx_iconst (v := 1) rfl rfl rfl ?_
    refine zx_goto rfl rfl ?_
    replace hF := Option.some.inj hF
    subst hF
    exact zx_bret rfl rfl rfl rfl q
  · rw [if_pos c3] at hF
    refine zx_iload_n rfl rfl rfl ?_
    refine zx_bipush (v := 65) rfl rfl rfl ?_
    refine zx_bipush (v := 90) rfl rfl rfl ?_
    replace hF := zbnd hF
    obtain ⟨p5, e4, hF⟩ := hF
    refine zx_callE rfl rfl rfl rfl rfl rfl rfl (zc4 (Nat.le_of_ble_eq_true rfl)) (t187 (by omega) e4 (zaI ?_))
    refine zx_if_eq rfl rfl (fun c6 => ?_) (fun c6 => ?_)
    · rw [if_pos c6] at hF
      refine zx_iconst (v := 0) rfl rfl rfl ?_
      replace hF := Option.some.inj hF
      subst hF
      exact zx_bret rfl rfl rfl rfl q
    · rw [if_neg c6] at hF
      refine zx_iconst (v := 1) rfl rfl rfl ?_
      refine zx_goto rfl rfl ?_
      replace hF := Option.some.inj hF
      subst hF
      exact zx_bret rfl rfl rfl rfl q
def f194 (n : Nat)  (y0 : Int32) (h : zH) : Option (Int32 × zH) :=
  (f187 n y0 48 57 h).bind fun p2 =>
  zgd (zrtn .boolean p2.1) <|
  some (p2.1, p2.2)
set_option maxRecDepth 20000 in
theorem t194 {d n : Nat} {Q : zRs → zH → Prop}  {y0 : Int32} (hd : 1 ≤ d)  {h : zH} {p : (Int32 × zH)} (hF : f194 n  y0 h = some p) (q : Q (eI p.1) p.2) : zC d 194 [.int y0] h Q := by
  refine zC_of (L := [some (.int y0)]) rfl rfl ?_
  unfold f194 at hF
  obtain ⟨d, rfl⟩ : ∃ e, d = e + 1 := ⟨d - 1, by omega⟩
  refine zx_iload_n rfl rfl rfl ?_
  refine zx_bipush (v := 48) rfl rfl rfl ?_
  refine zx_bipush (v := 57) rfl rfl rfl ?_
  replace hF := zbnd hF
  obtain ⟨p2, e1, hF⟩ := hF
  refine zx_callE rfl rfl rfl rfl rfl rfl rfl (zc4 (Nat.le_of_ble_eq_true rfl)) (t187 (by omega) e1 (zaI ?_))
  replace hF := zgd_some hF
  obtain ⟨g3, hF⟩ := hF
  replace hF := Option.some.inj hF
  subst hF
  exact zx_bret rfl rfl rfl g3 q
def f193 (n : Nat)  (y0 : Int32) (h : zH) : Option (Int32 × zH) :=
  (f192 n y0 h).bind fun p2 =>
  if p2.1 = 0 then
    (f194 n y0 p2.2).bind fun p5 =>
    if p5.1 = 0 then
      if y0 = 95 then
        some (1, p5.2)
      else
        some (0, p5.2)
    else
      some (1, p5.2)
  else
    some (1, p2.2)
set_option maxRecDepth 20000 in
theorem t193 {d n : Nat} {Q : zRs → zH → Prop}  {y0 : Int32} (hd : 2 ≤ d)  {h : zH} {p : (Int32 × zH)} (hF : f193 n  y0 h = some p) (q : Q (eI p.1) p.2) : zC d 193 [.int y0] h Q := by
  refine zC_of (L := [some (.int y0)]) rfl rfl ?_
  unfold f193 at hF
  obtain ⟨d, rfl⟩ : ∃ e, d = e + 1 := ⟨d - 1, by omega⟩
  refine zx_iload_n rfl rfl rfl ?_
  replace hF := zbnd hF
  obtain ⟨p2, e1, hF⟩ := hF
  refine zx_callE rfl rfl rfl rfl rfl rfl rfl (zc4 (Nat.le_of_ble_eq_true rfl)) (t192 (by omega) e1 (zaI ?_))
  refine zx_if_ne rfl rfl (fun c3 => ?_) (fun c3 => ?_)
  · rw [if_neg c3] at hF
    refine zx_iconst (v := 1) rfl rfl rfl ?_
    refine zx_goto rfl rfl ?_
    replace hF := Option.some.inj hF
    subst hF
    exact zx_bret rfl rfl rfl rfl q
  · rw [if_pos c3] at hF
    refine zx_iload_n rfl rfl rfl ?_
    replace hF := zbnd hF
    obtain ⟨p5, e4, hF⟩ := hF
    refine zx_callE rfl rfl rfl rfl rfl rfl rfl (zc4 (Nat.le_of_ble_eq_true rfl)) (t194 (by omega) e4 (zaI ?_))
    refine zx_if_ne rfl rfl (fun c6 => ?_) (fun c6 => ?_)
    · rw [if_neg c6] at hF
      refine zx_iconst (v := 1) rfl rfl rfl ?_
      refine zx_goto rfl rfl ?_
      replace hF := Option.some.inj hF
      subst hF
      exact zx_bret rfl rfl rfl rfl q
    · rw [if_pos c6] at hF
      refine zx_iload_n rfl rfl rfl ?_
      refine zx_bipush (v := 95) rfl rfl rfl ?_
      refine zx_ic_ne rfl rfl (fun c7 => ?_) (fun c7 => ?_)
      · rw [if_neg c7] at hF
        refine zx_iconst (v := 0) rfl rfl rfl ?_
        replace hF := Option.some.inj hF
        subst hF
        exact zx_bret rfl rfl rfl rfl q
      · rw [if_pos c7] at hF
        refine zx_iconst (v := 1) rfl rfl rfl ?_
        refine zx_goto rfl rfl ?_
        replace hF := Option.some.inj hF
        subst hF
        exact zx_bret rfl rfl rfl rfl q
def f196 (n : Nat)  (y0 : Nat) (y1 : Int32) (y2 : Int32) (h : zH) : Option (Unit × zH) :=
  (gI h y0 11 73).bind fun x1 =>
  if x1 = (-1) then
    (pF h y0 11 73 (.int y2)).bind fun h4 =>
    (pF h4 y0 11 64 (.int y1)).bind fun h6 =>
    some ((), h6)
  else
    some ((), h)
set_option maxRecDepth 20000 in
theorem t196 {d n : Nat} {Q : zRs → zH → Prop}  {y0 : Nat} {y1 : Int32} {y2 : Int32} (hd : 0 ≤ d)  {h : zH} {p : (Unit × zH)} (hF : f196 n  y0 y1 y2 h = some p) (q : Q (eV p.1) p.2) : zC d 196 [.ref y0, .int y1, .int y2] h Q := by
  refine zC_of (L := [some (.ref y0), some (.int y1), some (.int y2)]) rfl rfl ?_
  unfold f196 at hF
  refine zx_aload_n rfl rfl rfl ?_
  replace hF := zbnd hF
  obtain ⟨x1, e2, hF⟩ := hF
  refine zy_getI rfl rfl e2 ?_
  refine zx_iconst (v := (-1)) rfl rfl rfl ?_
  refine zx_ic_ne rfl rfl (fun c3 => ?_) (fun c3 => ?_)
  · rw [if_neg c3] at hF
    replace hF := Option.some.inj hF
    subst hF
    exact zx_return rfl rfl rfl q
  · rw [if_pos c3] at hF
    refine zx_aload_n rfl rfl rfl ?_
    refine zx_iload_n rfl rfl rfl ?_
    replace hF := zbnd hF
    obtain ⟨h4, e5, hF⟩ := hF
    refine zy_put rfl rfl e5 ?_
    refine zx_aload_n rfl rfl rfl ?_
    refine zx_iload_n rfl rfl rfl ?_
    replace hF := zbnd hF
    obtain ⟨h6, e7, hF⟩ := hF
    refine zy_put rfl rfl e7 ?_
    replace hF := Option.some.inj hF
    subst hF
    exact zx_return rfl rfl rfl q
def f195 (n : Nat)  (y0 : Nat) (y1 : Int32) (h : zH) : Option (Unit × zH) :=
  (gI h y0 11 70).bind fun x1 =>
  zgd (isO h y0 11) <|
  (f196 n y0 y1 x1 h).bind fun p5 =>
  some ((), p5.2)
set_option maxRecDepth 20000 in
theorem t195 {d n : Nat} {Q : zRs → zH → Prop}  {y0 : Nat} {y1 : Int32} (hd : 1 ≤ d)  {h : zH} {p : (Unit × zH)} (hF : f195 n  y0 y1 h = some p) (q : Q (eV p.1) p.2) : zC d 195 [.ref y0, .int y1] h Q := by
  refine zC_of (L := [some (.ref y0), some (.int y1)]) rfl rfl ?_
  unfold f195 at hF
  obtain ⟨d, rfl⟩ : ∃ e, d = e + 1 := ⟨d - 1, by omega⟩
  refine zx_aload_n rfl rfl rfl ?_
  refine zx_iload_n rfl rfl rfl ?_
  refine zx_aload_n rfl rfl rfl ?_
  replace hF := zbnd hF
  obtain ⟨x1, e2, hF⟩ := hF
  refine zy_getI rfl rfl e2 ?_
  replace hF := zgd_some hF
  obtain ⟨g3, hF⟩ := hF
  replace hF := zbnd hF
  obtain ⟨p5, e4, hF⟩ := hF
  refine zx_callE rfl rfl rfl rfl (zrcv_isO g3) rfl rfl (zc4 (Nat.le_of_ble_eq_true rfl)) (t196 (by omega) e4 (zaV ?_))
  replace hF := Option.some.inj hF
  subst hF
  exact zx_return rfl rfl rfl q
def b197_114 (n : Nat)   (l0 : Nat) (l1 : Int32) (l2 : Int32) (s0 : Int32) (s1 : Nat) (h : zH) : Option (Unit × zH) :=
  (pF h s1 11 72 (.int s0)).bind fun h1 =>
  (pF h1 l0 11 71 (.int 0)).bind fun h3 =>
  (gI h3 l0 11 68).bind fun x5 =>
  zgd (isO h3 l0 11) <|
  (f191 n l0 x5 h3).bind fun p9 =>
  (f193 n p9.1 p9.2).bind fun p11 =>
  if p11.1 = 0 then
    some ((), p11.2)
  else
    zgd (isO p11.2 l0 11) <|
    (f195 n l0 1 p11.2).bind fun p15 =>
    some ((), p15.2)
set_option maxRecDepth 20000 in
theorem tb197_114 {d n : Nat} {Q : zRs → zH → Prop}   {l0 : Nat} {l1 : Int32} {l2 : Int32} {s0 : Int32} {s1 : Nat}  (hd : 3 ≤ d)   {h : zH} {p : (Unit × zH)}  (hF : b197_114 n   l0 l1 l2 s0 s1 h = some p) (q : Q (eV p.1) p.2) : zW d 197 114 [some (.ref l0), some (.int l1), some (.int l2)] [.int s0, .ref s1] h Q := by
  unfold b197_114 at hF
  obtain ⟨d, rfl⟩ : ∃ e, d = e + 1 := ⟨d - 1, by omega⟩
  replace hF := zbnd hF
  obtain ⟨h1, e2, hF⟩ := hF
  refine zy_put rfl rfl e2 ?_
  refine zx_aload_n rfl rfl rfl ?_
  refine zx_iconst (v := 0) rfl rfl rfl ?_
  replace hF := zbnd hF
  obtain ⟨h3, e4, hF⟩ := hF
  refine zy_put rfl rfl e4 ?_
  refine zx_aload_n rfl rfl rfl ?_
  refine zx_aload_n rfl rfl rfl ?_
  replace hF := zbnd hF
  obtain ⟨x5, e6, hF⟩ := hF
  refine zy_getI rfl rfl e6 ?_
  replace hF := zgd_some hF
  obtain ⟨g7, hF⟩ := hF
  replace hF := zbnd hF
  obtain ⟨p9, e8, hF⟩ := hF
  refine zx_callE rfl rfl rfl rfl (zrcv_isO g7) rfl rfl (zc4 (Nat.le_of_ble_eq_true rfl)) (t191 (by omega) e8 (zaI ?_))
  replace hF := zbnd hF
  obtain ⟨p11, e10, hF⟩ := hF
  refine zx_callE rfl rfl rfl rfl rfl rfl rfl (zc4 (Nat.le_of_ble_eq_true rfl)) (t193 (by omega) e10 (zaI ?_))
  refine zx_if_eq rfl rfl (fun c12 => ?_) (fun c12 => ?_)
  · rw [if_pos c12] at hF
    replace hF := Option.some.inj hF
    subst hF
    exact zx_return rfl rfl rfl q
  · rw [if_neg c12] at hF
    refine zx_aload_n rfl rfl rfl ?_
    refine zx_iconst (v := 1) rfl rfl rfl ?_
    replace hF := zgd_some hF
    obtain ⟨g13, hF⟩ := hF
    replace hF := zbnd hF
    obtain ⟨p15, e14, hF⟩ := hF
    refine zx_callE rfl rfl rfl rfl (zrcv_isO g13) rfl rfl (zc4 (Nat.le_of_ble_eq_true rfl)) (t195 (by omega) e14 (zaV ?_))
    replace hF := Option.some.inj hF
    subst hF
    exact zx_return rfl rfl rfl q
def b197_97 (n : Nat)   (l0 : Nat) (l1 : Int32) (l2 : Int32) (h : zH) : Option (Unit × zH) :=
  if l1 = 0 then
    (gI h l0 11 72).bind fun x2 =>
    b197_114 n  l0 l1 l2 x2 l0 h
  else
    (gI h l0 11 72).bind fun x4 =>
    b197_114 n  l0 l1 l2 (-x4) l0 h
set_option maxRecDepth 20000 in
theorem tb197_97 {d n : Nat} {Q : zRs → zH → Prop}   {l0 : Nat} {l1 : Int32} {l2 : Int32}   (hd : 3 ≤ d)   {h : zH} {p : (Unit × zH)}  (hF : b197_97 n   l0 l1 l2 h = some p) (q : Q (eV p.1) p.2) : zW d 197 97 [some (.ref l0), some (.int l1), some (.int l2)] [] h Q := by
  unfold b197_97 at hF
  obtain ⟨d, rfl⟩ : ∃ e, d = e + 1 := ⟨d - 1, by omega⟩
  refine zx_aload_n rfl rfl rfl ?_
  refine zx_iload_n rfl rfl rfl ?_
  refine zx_if_eq rfl rfl (fun c1 => ?_) (fun c1 => ?_)
  · rw [if_pos c1] at hF
    refine zx_aload_n rfl rfl rfl ?_
    replace hF := zbnd hF
    obtain ⟨x2, e3, hF⟩ := hF
    refine zy_getI rfl rfl e3 ?_
    exact tb197_114 (l0 := l0) (l1 := l1) (l2 := l2) (s0 := x2) (s1 := l0) hd   hF q
  · rw [if_neg c1] at hF
    refine zx_aload_n rfl rfl rfl ?_
    replace hF := zbnd hF
    obtain ⟨x4, e5, hF⟩ := hF
    refine zy_getI rfl rfl e5 ?_
    refine zx_ineg rfl rfl ?_
    refine zx_goto rfl rfl ?_
    exact tb197_114 (l0 := l0) (l1 := l1) (l2 := l2) (s0 := (-x4)) (s1 := l0) hd   hF q
def b197_36 (n : Nat)  (r36 : Nat → Int32 → Int32 → zH → Option (Unit × zH)) (l0 : Nat) (l1 : Int32) (l2 : Int32) (h : zH) : Option (Unit × zH) :=
  (gI h l0 11 68).bind fun x1 =>
  zgd (isO h l0 11) <|
  (f191 n l0 x1 h).bind fun p5 =>
  (f194 n p5.1 p5.2).bind fun p7 =>
  if p7.1 = 0 then
    b197_97 n  l0 l1 l2 p7.2
  else
    (gI p7.2 l0 11 68).bind fun x9 =>
    if (9 : Int32) ≤ (x9 - l2) then
      b197_97 n  l0 l1 l2 p7.2
    else
      (gI p7.2 l0 11 72).bind fun x12 =>
      (gI p7.2 l0 11 68).bind fun x14 =>
      zgd (isO p7.2 l0 11) <|
      (f191 n l0 x14 p7.2).bind fun p18 =>
      (pF p18.2 l0 11 72 (.int (((10 * x12) + p18.1) - 48))).bind fun h19 =>
      (gI h19 l0 11 68).bind fun x21 =>
      (pF h19 l0 11 68 (.int (x21 + 1))).bind fun h23 =>
      r36 l0 l1 l2 h23
set_option maxRecDepth 20000 in
theorem tb197_36 {d n : Nat} {Q : zRs → zH → Prop}  {r36 : Nat → Int32 → Int32 → zH → Option (Unit × zH)} {l0 : Nat} {l1 : Int32} {l2 : Int32}   (hd : 3 ≤ d)  (hr36 : ∀ {l0 : Nat} {l1 : Int32} {l2 : Int32}   {h : zH} {p : (Unit × zH)}, r36 l0 l1 l2 h = some p → Q (eV p.1) p.2 → zW d 197 36 [some (.ref l0), some (.int l1), some (.int l2)] [] h Q) {h : zH} {p : (Unit × zH)}  (hF : b197_36 n  r36 l0 l1 l2 h = some p) (q : Q (eV p.1) p.2) : zW d 197 36 [some (.ref l0), some (.int l1), some (.int l2)] [] h Q := by
  unfold b197_36 at hF
  obtain ⟨d, rfl⟩ : ∃ e, d = e + 1 := ⟨d - 1, by omega⟩
  refine zx_aload_n rfl rfl rfl ?_
  refine zx_aload_n rfl rfl rfl ?_
  replace hF := zbnd hF
  obtain ⟨x1, e2, hF⟩ := hF
  refine zy_getI rfl rfl e2 ?_
  replace hF := zgd_some hF
  obtain ⟨g3, hF⟩ := hF
  replace hF := zbnd hF
  obtain ⟨p5, e4, hF⟩ := hF
  refine zx_callE rfl rfl rfl rfl (zrcv_isO g3) rfl rfl (zc4 (Nat.le_of_ble_eq_true rfl)) (t191 (by omega) e4 (zaI ?_))
  replace hF := zbnd hF
  obtain ⟨p7, e6, hF⟩ := hF
  refine zx_callE rfl rfl rfl rfl rfl rfl rfl (zc4 (Nat.le_of_ble_eq_true rfl)) (t194 (by omega) e6 (zaI ?_))
  refine zx_if_eq rfl rfl (fun c8 => ?_) (fun c8 => ?_)
  · rw [if_pos c8] at hF
    exact tb197_97 (l0 := l0) (l1 := l1) (l2 := l2) hd   hF q
  · rw [if_neg c8] at hF
    refine zx_aload_n rfl rfl rfl ?_
    replace hF := zbnd hF
    obtain ⟨x9, e10, hF⟩ := hF
    refine zy_getI rfl rfl e10 ?_
    refine zx_iload_n rfl rfl rfl ?_
    refine zx_isub rfl rfl ?_
    refine zx_bipush (v := 9) rfl rfl rfl ?_
    refine zx_ic_ge rfl rfl (fun c11 => ?_) (fun c11 => ?_)
    · rw [if_pos c11] at hF
      exact tb197_97 (l0 := l0) (l1 := l1) (l2 := l2) hd   hF q
    · rw [if_neg c11] at hF
      refine zx_aload_n rfl rfl rfl ?_
      refine zx_bipush (v := 10) rfl rfl rfl ?_
      refine zx_aload_n rfl rfl rfl ?_
      replace hF := zbnd hF
      obtain ⟨x12, e13, hF⟩ := hF
      refine zy_getI rfl rfl e13 ?_
      refine zx_imul rfl rfl ?_
      refine zx_aload_n rfl rfl rfl ?_
      refine zx_aload_n rfl rfl rfl ?_
      replace hF := zbnd hF
      obtain ⟨x14, e15, hF⟩ := hF
      refine zy_getI rfl rfl e15 ?_
      replace hF := zgd_some hF
      obtain ⟨g16, hF⟩ := hF
      replace hF := zbnd hF
      obtain ⟨p18, e17, hF⟩ := hF
      refine zx_callE rfl rfl rfl rfl (zrcv_isO g16) rfl rfl (zc4 (Nat.le_of_ble_eq_true rfl)) (t191 (by omega) e17 (zaI ?_))
      refine zx_iadd rfl rfl ?_
      refine zx_bipush (v := 48) rfl rfl rfl ?_
      refine zx_isub rfl rfl ?_
      replace hF := zbnd hF
      obtain ⟨h19, e20, hF⟩ := hF
      refine zy_put rfl rfl e20 ?_
      refine zx_aload_n rfl rfl rfl ?_
      refine zx_dup rfl rfl rfl ?_
      replace hF := zbnd hF
      obtain ⟨x21, e22, hF⟩ := hF
      refine zy_getI rfl rfl e22 ?_
      refine zx_iconst (v := 1) rfl rfl rfl ?_
      refine zx_iadd rfl rfl ?_
      replace hF := zbnd hF
      obtain ⟨h23, e24, hF⟩ := hF
      refine zy_put rfl rfl e24 ?_
      refine zx_goto rfl rfl ?_
      exact hr36  hF q
def f197_36 (n : Nat)   (k : Nat) : Nat → Int32 → Int32 → zH → Option (Unit × zH) := Nat.rec (fun _ _ _ _ => none) (fun _ ih => b197_36 n  ih) k
theorem tf197_36 {d n : Nat} {Q : zRs → zH → Prop}   (hd : 3 ≤ d)   (k : Nat) : ∀ {l0 : Nat} {l1 : Int32} {l2 : Int32}   {h : zH} {p : (Unit × zH)}, f197_36 n   k l0 l1 l2 h = some p → Q (eV p.1) p.2 → zW d 197 36 [some (.ref l0), some (.int l1), some (.int l2)] [] h Q := by
  induction k with
  | zero => intros; rename_i hF _; cases hF
  | succ k ih => intros; rename_i  hF q; exact tb197_36 (n := n) hd  ih  hF q
def b197_23 (n : Nat)   (l0 : Nat) (l1 : Int32) (s0 : Int32) (s1 : Nat) (h : zH) : Option (Unit × zH) :=
  (pF h s1 11 68 (.int s0)).bind fun h1 =>
  (gI h1 l0 11 68).bind fun x3 =>
  (pF h1 l0 11 72 (.int 0)).bind fun h5 =>
  f197_36 n  n l0 l1 x3 h5
set_option maxRecDepth 20000 in
theorem tb197_23 {d n : Nat} {Q : zRs → zH → Prop}   {l0 : Nat} {l1 : Int32} {s0 : Int32} {s1 : Nat} {x2 : Option Value} (hd : 3 ≤ d)   {h : zH} {p : (Unit × zH)} (hx2 : zn2 x2 = true) (hF : b197_23 n   l0 l1 s0 s1 h = some p) (q : Q (eV p.1) p.2) : zW d 197 23 [some (.ref l0), some (.int l1), x2] [.int s0, .ref s1] h Q := by
  unfold b197_23 at hF
  obtain ⟨d, rfl⟩ : ∃ e, d = e + 1 := ⟨d - 1, by omega⟩
  replace hF := zbnd hF
  obtain ⟨h1, e2, hF⟩ := hF
  refine zy_put rfl rfl e2 ?_
  refine zx_aload_n rfl rfl rfl ?_
  replace hF := zbnd hF
  obtain ⟨x3, e4, hF⟩ := hF
  refine zy_getI rfl rfl e4 ?_
  refine zx_istore_n rfl rfl rfl ?_
  refine zx_aload_n rfl rfl rfl ?_
  refine zx_iconst (v := 0) rfl rfl rfl ?_
  replace hF := zbnd hF
  obtain ⟨h5, e6, hF⟩ := hF
  refine zy_put rfl rfl e6 ?_
  exact tf197_36 hd  n (l0 := l0) (l1 := l1) (l2 := x3)  hF q
def f197 (n : Nat)  (y0 : Nat) (y1 : Int32) (h : zH) : Option (Unit × zH) :=
  (pF h y0 11 69 (.int 2)).bind fun h1 =>
  if y1 = 0 then
    (gI h1 y0 11 68).bind fun x4 =>
    b197_23 n  y0 y1 x4 y0 h1
  else
    (gI h1 y0 11 68).bind fun x6 =>
    b197_23 n  y0 y1 (x6 + 1) y0 h1
set_option maxRecDepth 20000 in
theorem t197 {d n : Nat} {Q : zRs → zH → Prop}  {y0 : Nat} {y1 : Int32} (hd : 3 ≤ d)  {h : zH} {p : (Unit × zH)} (hF : f197 n  y0 y1 h = some p) (q : Q (eV p.1) p.2) : zC d 197 [.ref y0, .int y1] h Q := by
  refine zC_of (L := [some (.ref y0), some (.int y1), none]) rfl rfl ?_
  unfold f197 at hF
  obtain ⟨d, rfl⟩ : ∃ e, d = e + 1 := ⟨d - 1, by omega⟩
  refine zx_aload_n rfl rfl rfl ?_
  refine zx_iconst (v := 2) rfl rfl rfl ?_
  replace hF := zbnd hF
  obtain ⟨h1, e2, hF⟩ := hF
  refine zy_put rfl rfl e2 ?_
  refine zx_aload_n rfl rfl rfl ?_
  refine zx_iload_n rfl rfl rfl ?_
  refine zx_if_eq rfl rfl (fun c3 => ?_) (fun c3 => ?_)
  · rw [if_pos c3] at hF
    refine zx_aload_n rfl rfl rfl ?_
    replace hF := zbnd hF
    obtain ⟨x4, e5, hF⟩ := hF
    refine zy_getI rfl rfl e5 ?_
    exact tb197_23 (l0 := y0) (l1 := y1) (s0 := x4) (s1 := y0) hd  rfl hF q
  · rw [if_neg c3] at hF
    refine zx_aload_n rfl rfl rfl ?_
    replace hF := zbnd hF
    obtain ⟨x6, e7, hF⟩ := hF
    refine zy_getI rfl rfl e7 ?_
    refine zx_iconst (v := 1) rfl rfl rfl ?_
    refine zx_iadd rfl rfl ?_
    refine zx_goto rfl rfl ?_
    exact tb197_23 (l0 := y0) (l1 := y1) (s0 := (x6 + 1)) (s1 := y0) hd  rfl hF q
def b198_108 (n : Nat)   (l0 : Nat) (h : zH) : Option (Unit × zH) :=
  (gI h l0 11 68).bind fun x1 =>
  (pF h l0 11 68 (.int (x1 + 1))).bind fun h3 =>
  some ((), h3)
set_option maxRecDepth 20000 in
theorem tb198_108 {d n : Nat} {Q : zRs → zH → Prop}   {l0 : Nat}   (hd : 2 ≤ d)   {h : zH} {p : (Unit × zH)}  (hF : b198_108 n   l0 h = some p) (q : Q (eV p.1) p.2) : zW d 198 108 [some (.ref l0)] [] h Q := by
  unfold b198_108 at hF
  obtain ⟨d, rfl⟩ : ∃ e, d = e + 1 := ⟨d - 1, by omega⟩
  refine zx_aload_n rfl rfl rfl ?_
  refine zx_dup rfl rfl rfl ?_
  replace hF := zbnd hF
  obtain ⟨x1, e2, hF⟩ := hF
  refine zy_getI rfl rfl e2 ?_
  refine zx_iconst (v := 1) rfl rfl rfl ?_
  refine zx_iadd rfl rfl ?_
  replace hF := zbnd hF
  obtain ⟨h3, e4, hF⟩ := hF
  refine zy_put rfl rfl e4 ?_
  replace hF := Option.some.inj hF
  subst hF
  exact zx_return rfl rfl rfl q
def b198_75 (n : Nat)   (l0 : Nat) (h : zH) : Option (Unit × zH) :=
  (gI h l0 11 68).bind fun x1 =>
  (gI h l0 11 70).bind fun x3 =>
  (pF h l0 11 71 (.int ((x1 - x3) - 1))).bind fun h5 =>
  (gI h5 l0 11 68).bind fun x7 =>
  zgd (isO h5 l0 11) <|
  (f191 n l0 x7 h5).bind fun p11 =>
  if p11.1 = 39 then
    b198_108 n  l0 p11.2
  else
    zgd (isO p11.2 l0 11) <|
    (f195 n l0 1 p11.2).bind fun p15 =>
    b198_108 n  l0 p15.2
set_option maxRecDepth 20000 in
theorem tb198_75 {d n : Nat} {Q : zRs → zH → Prop}   {l0 : Nat}   (hd : 2 ≤ d)   {h : zH} {p : (Unit × zH)}  (hF : b198_75 n   l0 h = some p) (q : Q (eV p.1) p.2) : zW d 198 75 [some (.ref l0)] [] h Q := by
  unfold b198_75 at hF
  obtain ⟨d, rfl⟩ : ∃ e, d = e + 1 := ⟨d - 1, by omega⟩
  refine zx_aload_n rfl rfl rfl ?_
  refine zx_aload_n rfl rfl rfl ?_
  replace hF := zbnd hF
  obtain ⟨x1, e2, hF⟩ := hF
  refine zy_getI rfl rfl e2 ?_
  refine zx_aload_n rfl rfl rfl ?_
  replace hF := zbnd hF
  obtain ⟨x3, e4, hF⟩ := hF
  refine zy_getI rfl rfl e4 ?_
  refine zx_isub rfl rfl ?_
  refine zx_iconst (v := 1) rfl rfl rfl ?_
  refine zx_isub rfl rfl ?_
  replace hF := zbnd hF
  obtain ⟨h5, e6, hF⟩ := hF
  refine zy_put rfl rfl e6 ?_
  refine zx_aload_n rfl rfl rfl ?_
  refine zx_aload_n rfl rfl rfl ?_
  replace hF := zbnd hF
  obtain ⟨x7, e8, hF⟩ := hF
  refine zy_getI rfl rfl e8 ?_
  replace hF := zgd_some hF
  obtain ⟨g9, hF⟩ := hF
  replace hF := zbnd hF
  obtain ⟨p11, e10, hF⟩ := hF
  refine zx_callE rfl rfl rfl rfl (zrcv_isO g9) rfl rfl (zc4 (Nat.le_of_ble_eq_true rfl)) (t191 (by omega) e10 (zaI ?_))
  refine zx_bipush (v := 39) rfl rfl rfl ?_
  refine zx_ic_eq rfl rfl (fun c12 => ?_) (fun c12 => ?_)
  · rw [if_pos c12] at hF
    exact tb198_108 (l0 := l0) hd   hF q
  · rw [if_neg c12] at hF
    refine zx_aload_n rfl rfl rfl ?_
    refine zx_iconst (v := 1) rfl rfl rfl ?_
    replace hF := zgd_some hF
    obtain ⟨g13, hF⟩ := hF
    replace hF := zbnd hF
    obtain ⟨p15, e14, hF⟩ := hF
    refine zx_callE rfl rfl rfl rfl (zrcv_isO g13) rfl rfl (zc4 (Nat.le_of_ble_eq_true rfl)) (t195 (by omega) e14 (zaV ?_))
    exact tb198_108 (l0 := l0) hd   hF q
def b198_15 (n : Nat)  (r15 : Nat → zH → Option (Unit × zH)) (l0 : Nat) (h : zH) : Option (Unit × zH) :=
  (gI h l0 11 68).bind fun x1 =>
  zgd (isO h l0 11) <|
  (f191 n l0 x1 h).bind fun p5 =>
  (f187 n p5.1 32 126 p5.2).bind fun p7 =>
  if p7.1 = 0 then
    b198_75 n  l0 p7.2
  else
    (gI p7.2 l0 11 68).bind fun x9 =>
    zgd (isO p7.2 l0 11) <|
    (f191 n l0 x9 p7.2).bind fun p13 =>
    if p13.1 = 39 then
      b198_75 n  l0 p13.2
    else
      (gI p13.2 l0 11 68).bind fun x15 =>
      (gI p13.2 l0 11 70).bind fun x17 =>
      if (16 : Int32) ≤ ((x15 - x17) - 1) then
        b198_75 n  l0 p13.2
      else
        (gI p13.2 l0 11 68).bind fun x20 =>
        (pF p13.2 l0 11 68 (.int (x20 + 1))).bind fun h22 =>
        r15 l0 h22
set_option maxRecDepth 20000 in
theorem tb198_15 {d n : Nat} {Q : zRs → zH → Prop}  {r15 : Nat → zH → Option (Unit × zH)} {l0 : Nat}   (hd : 2 ≤ d)  (hr15 : ∀ {l0 : Nat}   {h : zH} {p : (Unit × zH)}, r15 l0 h = some p → Q (eV p.1) p.2 → zW d 198 15 [some (.ref l0)] [] h Q) {h : zH} {p : (Unit × zH)}  (hF : b198_15 n  r15 l0 h = some p) (q : Q (eV p.1) p.2) : zW d 198 15 [some (.ref l0)] [] h Q := by
  unfold b198_15 at hF
  obtain ⟨d, rfl⟩ : ∃ e, d = e + 1 := ⟨d - 1, by omega⟩
  refine zx_aload_n rfl rfl rfl ?_
  refine zx_aload_n rfl rfl rfl ?_
  replace hF := zbnd hF
  obtain ⟨x1, e2, hF⟩ := hF
  refine zy_getI rfl rfl e2 ?_
  replace hF := zgd_some hF
  obtain ⟨g3, hF⟩ := hF
  replace hF := zbnd hF
  obtain ⟨p5, e4, hF⟩ := hF
  refine zx_callE rfl rfl rfl rfl (zrcv_isO g3) rfl rfl (zc4 (Nat.le_of_ble_eq_true rfl)) (t191 (by omega) e4 (zaI ?_))
  refine zx_bipush (v := 32) rfl rfl rfl ?_
  refine zx_bipush (v := 126) rfl rfl rfl ?_
  replace hF := zbnd hF
  obtain ⟨p7, e6, hF⟩ := hF
  refine zx_callE rfl rfl rfl rfl rfl rfl rfl (zc4 (Nat.le_of_ble_eq_true rfl)) (t187 (by omega) e6 (zaI ?_))
  refine zx_if_eq rfl rfl (fun c8 => ?_) (fun c8 => ?_)
  · rw [if_pos c8] at hF
    exact tb198_75 (l0 := l0) hd   hF q
  · rw [if_neg c8] at hF
    refine zx_aload_n rfl rfl rfl ?_
    refine zx_aload_n rfl rfl rfl ?_
    replace hF := zbnd hF
    obtain ⟨x9, e10, hF⟩ := hF
    refine zy_getI rfl rfl e10 ?_
    replace hF := zgd_some hF
    obtain ⟨g11, hF⟩ := hF
    replace hF := zbnd hF
    obtain ⟨p13, e12, hF⟩ := hF
    refine zx_callE rfl rfl rfl rfl (zrcv_isO g11) rfl rfl (zc4 (Nat.le_of_ble_eq_true rfl)) (t191 (by omega) e12 (zaI ?_))
    refine zx_bipush (v := 39) rfl rfl rfl ?_
    refine zx_ic_eq rfl rfl (fun c14 => ?_) (fun c14 => ?_)
    · rw [if_pos c14] at hF
      exact tb198_75 (l0 := l0) hd   hF q
    · rw [if_neg c14] at hF
      refine zx_aload_n rfl rfl rfl ?_
      replace hF := zbnd hF
      obtain ⟨x15, e16, hF⟩ := hF
      refine zy_getI rfl rfl e16 ?_
      refine zx_aload_n rfl rfl rfl ?_
      replace hF := zbnd hF
      obtain ⟨x17, e18, hF⟩ := hF
      refine zy_getI rfl rfl e18 ?_
      refine zx_isub rfl rfl ?_
      refine zx_iconst (v := 1) rfl rfl rfl ?_
      refine zx_isub rfl rfl ?_
      refine zx_bipush (v := 16) rfl rfl rfl ?_
      refine zx_ic_ge rfl rfl (fun c19 => ?_) (fun c19 => ?_)
      · rw [if_pos c19] at hF
        exact tb198_75 (l0 := l0) hd   hF q
      · rw [if_neg c19] at hF
        refine zx_aload_n rfl rfl rfl ?_
        refine zx_dup rfl rfl rfl ?_
        replace hF := zbnd hF
        obtain ⟨x20, e21, hF⟩ := hF
        refine zy_getI rfl rfl e21 ?_
        refine zx_iconst (v := 1) rfl rfl rfl ?_
        refine zx_iadd rfl rfl ?_
        replace hF := zbnd hF
        obtain ⟨h22, e23, hF⟩ := hF
        refine zy_put rfl rfl e23 ?_
        refine zx_goto rfl rfl ?_
        exact hr15  hF q
def f198_15 (n : Nat)   (k : Nat) : Nat → zH → Option (Unit × zH) := Nat.rec (fun _ _ => none) (fun _ ih => b198_15 n  ih) k
theorem tf198_15 {d n : Nat} {Q : zRs → zH → Prop}   (hd : 2 ≤ d)   (k : Nat) : ∀ {l0 : Nat}   {h : zH} {p : (Unit × zH)}, f198_15 n   k l0 h = some p → Q (eV p.1) p.2 → zW d 198 15 [some (.ref l0)] [] h Q := by
  induction k with
  | zero => intros; rename_i hF _; cases hF
  | succ k ih => intros; rename_i  hF q; exact tb198_15 (n := n) hd  ih  hF q
def f198 (n : Nat)  (y0 : Nat) (h : zH) : Option (Unit × zH) :=
  (pF h y0 11 69 (.int 3)).bind fun h1 =>
  (gI h1 y0 11 68).bind fun x3 =>
  (pF h1 y0 11 68 (.int (x3 + 1))).bind fun h5 =>
  f198_15 n  n y0 h5
set_option maxRecDepth 20000 in
theorem t198 {d n : Nat} {Q : zRs → zH → Prop}  {y0 : Nat} (hd : 2 ≤ d)  {h : zH} {p : (Unit × zH)} (hF : f198 n  y0 h = some p) (q : Q (eV p.1) p.2) : zC d 198 [.ref y0] h Q := by
  refine zC_of (L := [some (.ref y0)]) rfl rfl ?_
  unfold f198 at hF
  obtain ⟨d, rfl⟩ : ∃ e, d = e + 1 := ⟨d - 1, by omega⟩
  refine zx_aload_n rfl rfl rfl ?_
  refine zx_iconst (v := 3) rfl rfl rfl ?_
  replace hF := zbnd hF
  obtain ⟨h1, e2, hF⟩ := hF
  refine zy_put rfl rfl e2 ?_
  refine zx_aload_n rfl rfl rfl ?_
  refine zx_dup rfl rfl rfl ?_
  replace hF := zbnd hF
  obtain ⟨x3, e4, hF⟩ := hF
  refine zy_getI rfl rfl e4 ?_
  refine zx_iconst (v := 1) rfl rfl rfl ?_
  refine zx_iadd rfl rfl ?_
  replace hF := zbnd hF
  obtain ⟨h5, e6, hF⟩ := hF
  refine zy_put rfl rfl e6 ?_
  exact tf198_15 hd  n (l0 := y0)  hF q
def b190_61 (n : Nat)  (r9 : Nat → zH → Option (Unit × zH)) (l0 : Nat) (h : zH) : Option (Unit × zH) :=
  (gI h l0 11 68).bind fun x1 =>
  (pF h l0 11 68 (.int (x1 + 1))).bind fun h3 =>
  r9 l0 h3
set_option maxRecDepth 20000 in
theorem tb190_61 {d n : Nat} {Q : zRs → zH → Prop}  {r9 : Nat → zH → Option (Unit × zH)} {l0 : Nat}  {x1 : Option Value} (hd : 4 ≤ d)  (hr9 : ∀ {l0 : Nat}  {x1 : Option Value} {h : zH} {p : (Unit × zH)}, zn2 x1 = true → r9 l0 h = some p → Q (eV p.1) p.2 → zW d 190 9 [some (.ref l0), x1] [] h Q) {h : zH} {p : (Unit × zH)} (hx1 : zn2 x1 = true) (hF : b190_61 n  r9 l0 h = some p) (q : Q (eV p.1) p.2) : zW d 190 61 [some (.ref l0), x1] [] h Q := by
  unfold b190_61 at hF
  obtain ⟨d, rfl⟩ : ∃ e, d = e + 1 := ⟨d - 1, by omega⟩
  refine zx_aload_n rfl rfl rfl ?_
  refine zx_dup rfl rfl rfl ?_
  replace hF := zbnd hF
  obtain ⟨x1, e2, hF⟩ := hF
  refine zy_getI rfl rfl e2 ?_
  refine zx_iconst (v := 1) rfl rfl rfl ?_
  refine zx_iadd rfl rfl ?_
  replace hF := zbnd hF
  obtain ⟨h3, e4, hF⟩ := hF
  refine zy_put rfl rfl e4 ?_
  refine zx_goto rfl rfl ?_
  exact hr9 hx1 hF q
def b190_214 (n : Nat)   (l0 : Nat) (l1 : Int32) (s0 : Int32) (s1 : Nat) (h : zH) : Option (Unit × zH) :=
  zgd (isO h s1 11) <|
  (f197 n s1 s0 h).bind fun p3 =>
  some ((), p3.2)
set_option maxRecDepth 20000 in
theorem tb190_214 {d n : Nat} {Q : zRs → zH → Prop}   {l0 : Nat} {l1 : Int32} {s0 : Int32} {s1 : Nat}  (hd : 4 ≤ d)   {h : zH} {p : (Unit × zH)}  (hF : b190_214 n   l0 l1 s0 s1 h = some p) (q : Q (eV p.1) p.2) : zW d 190 214 [some (.ref l0), some (.int l1)] [.int s0, .ref s1] h Q := by
  unfold b190_214 at hF
  obtain ⟨d, rfl⟩ : ∃ e, d = e + 1 := ⟨d - 1, by omega⟩
  replace hF := zgd_some hF
  obtain ⟨g1, hF⟩ := hF
  replace hF := zbnd hF
  obtain ⟨p3, e2, hF⟩ := hF
  refine zx_callE rfl rfl rfl rfl (zrcv_isO g1) rfl rfl (zc4 (Nat.le_of_ble_eq_true rfl)) (t197 (by omega) e2 (zaV ?_))
  refine zx_goto rfl rfl ?_
  replace hF := Option.some.inj hF
  subst hF
  exact zx_return rfl rfl rfl q
def b190_202 (n : Nat)   (l0 : Nat) (l1 : Int32) (h : zH) : Option (Unit × zH) :=
  if l1 = 45 then
    b190_214 n  l0 l1 1 l0 h
  else
    b190_214 n  l0 l1 0 l0 h
set_option maxRecDepth 20000 in
theorem tb190_202 {d n : Nat} {Q : zRs → zH → Prop}   {l0 : Nat} {l1 : Int32}   (hd : 4 ≤ d)   {h : zH} {p : (Unit × zH)}  (hF : b190_202 n   l0 l1 h = some p) (q : Q (eV p.1) p.2) : zW d 190 202 [some (.ref l0), some (.int l1)] [] h Q := by
  unfold b190_202 at hF
  obtain ⟨d, rfl⟩ : ∃ e, d = e + 1 := ⟨d - 1, by omega⟩
  refine zx_aload_n rfl rfl rfl ?_
  refine zx_iload_n rfl rfl rfl ?_
  refine zx_bipush (v := 45) rfl rfl rfl ?_
  refine zx_ic_ne rfl rfl (fun c1 => ?_) (fun c1 => ?_)
  · rw [if_neg c1] at hF
    refine zx_iconst (v := 0) rfl rfl rfl ?_
    exact tb190_214 (l0 := l0) (l1 := l1) (s0 := 0) (s1 := l0) hd   hF q
  · rw [if_pos c1] at hF
    refine zx_iconst (v := 1) rfl rfl rfl ?_
    refine zx_goto rfl rfl ?_
    exact tb190_214 (l0 := l0) (l1 := l1) (s0 := 1) (s1 := l0) hd   hF q
def b190_321 (n : Nat)   (l0 : Nat) (l1 : Int32) (h : zH) : Option (Unit × zH) :=
  (pF h l0 11 69 (.int 4)).bind fun h1 =>
  (gI h1 l0 11 68).bind fun x3 =>
  (pF h1 l0 11 68 (.int (x3 + 1))).bind fun h5 =>
  some ((), h5)
set_option maxRecDepth 20000 in
theorem tb190_321 {d n : Nat} {Q : zRs → zH → Prop}   {l0 : Nat} {l1 : Int32}   (hd : 4 ≤ d)   {h : zH} {p : (Unit × zH)}  (hF : b190_321 n   l0 l1 h = some p) (q : Q (eV p.1) p.2) : zW d 190 321 [some (.ref l0), some (.int l1)] [] h Q := by
  unfold b190_321 at hF
  obtain ⟨d, rfl⟩ : ∃ e, d = e + 1 := ⟨d - 1, by omega⟩
  refine zx_aload_n rfl rfl rfl ?_
  refine zx_iconst (v := 4) rfl rfl rfl ?_
  replace hF := zbnd hF
  obtain ⟨h1, e2, hF⟩ := hF
  refine zy_put rfl rfl e2 ?_
  refine zx_aload_n rfl rfl rfl ?_
  refine zx_dup rfl rfl rfl ?_
  replace hF := zbnd hF
  obtain ⟨x3, e4, hF⟩ := hF
  refine zy_getI rfl rfl e4 ?_
  refine zx_iconst (v := 1) rfl rfl rfl ?_
  refine zx_iadd rfl rfl ?_
  replace hF := zbnd hF
  obtain ⟨h5, e6, hF⟩ := hF
  refine zy_put rfl rfl e6 ?_
  refine zx_goto rfl rfl ?_
  replace hF := Option.some.inj hF
  subst hF
  exact zx_return rfl rfl rfl q
def b190_273 (n : Nat)   (l0 : Nat) (l1 : Int32) (h : zH) : Option (Unit × zH) :=
  if l1 = 123 then
    b190_321 n  l0 l1 h
  else
    if l1 = 125 then
      b190_321 n  l0 l1 h
    else
      if l1 = 40 then
        b190_321 n  l0 l1 h
      else
        if l1 = 41 then
          b190_321 n  l0 l1 h
        else
          if l1 = 59 then
            b190_321 n  l0 l1 h
          else
            if l1 = 44 then
              b190_321 n  l0 l1 h
            else
              if l1 = 58 then
                b190_321 n  l0 l1 h
              else
                if l1 = 61 then
                  b190_321 n  l0 l1 h
                else
                  zgd (isO h l0 11) <|
                  (f195 n l0 1 h).bind fun p11 =>
                  some ((), p11.2)
set_option maxRecDepth 20000 in
theorem tb190_273 {d n : Nat} {Q : zRs → zH → Prop}   {l0 : Nat} {l1 : Int32}   (hd : 4 ≤ d)   {h : zH} {p : (Unit × zH)}  (hF : b190_273 n   l0 l1 h = some p) (q : Q (eV p.1) p.2) : zW d 190 273 [some (.ref l0), some (.int l1)] [] h Q := by
  unfold b190_273 at hF
  obtain ⟨d, rfl⟩ : ∃ e, d = e + 1 := ⟨d - 1, by omega⟩
  refine zx_iload_n rfl rfl rfl ?_
  refine zx_bipush (v := 123) rfl rfl rfl ?_
  refine zx_ic_eq rfl rfl (fun c1 => ?_) (fun c1 => ?_)
  · rw [if_pos c1] at hF
    exact tb190_321 (l0 := l0) (l1 := l1) hd   hF q
  · rw [if_neg c1] at hF
    refine zx_iload_n rfl rfl rfl ?_
    refine zx_bipush (v := 125) rfl rfl rfl ?_
    refine zx_ic_eq rfl rfl (fun c2 => ?_) (fun c2 => ?_)
    · rw [if_pos c2] at hF
      exact tb190_321 (l0 := l0) (l1 := l1) hd   hF q
    · rw [if_neg c2] at hF
      refine zx_iload_n rfl rfl rfl ?_
      refine zx_bipush (v := 40) rfl rfl rfl ?_
      refine zx_ic_eq rfl rfl (fun c3 => ?_) (fun c3 => ?_)
      · rw [if_pos c3] at hF
        exact tb190_321 (l0 := l0) (l1 := l1) hd   hF q
      · rw [if_neg c3] at hF
        refine zx_iload_n rfl rfl rfl ?_
        refine zx_bipush (v := 41) rfl rfl rfl ?_
        refine zx_ic_eq rfl rfl (fun c4 => ?_) (fun c4 => ?_)
        · rw [if_pos c4] at hF
          exact tb190_321 (l0 := l0) (l1 := l1) hd   hF q
        · rw [if_neg c4] at hF
          refine zx_iload_n rfl rfl rfl ?_
          refine zx_bipush (v := 59) rfl rfl rfl ?_
          refine zx_ic_eq rfl rfl (fun c5 => ?_) (fun c5 => ?_)
          · rw [if_pos c5] at hF
            exact tb190_321 (l0 := l0) (l1 := l1) hd   hF q
          · rw [if_neg c5] at hF
            refine zx_iload_n rfl rfl rfl ?_
            refine zx_bipush (v := 44) rfl rfl rfl ?_
            refine zx_ic_eq rfl rfl (fun c6 => ?_) (fun c6 => ?_)
            · rw [if_pos c6] at hF
              exact tb190_321 (l0 := l0) (l1 := l1) hd   hF q
            · rw [if_neg c6] at hF
              refine zx_iload_n rfl rfl rfl ?_
              refine zx_bipush (v := 58) rfl rfl rfl ?_
              refine zx_ic_eq rfl rfl (fun c7 => ?_) (fun c7 => ?_)
              · rw [if_pos c7] at hF
                exact tb190_321 (l0 := l0) (l1 := l1) hd   hF q
              · rw [if_neg c7] at hF
                refine zx_iload_n rfl rfl rfl ?_
                refine zx_bipush (v := 61) rfl rfl rfl ?_
                refine zx_ic_ne rfl rfl (fun c8 => ?_) (fun c8 => ?_)
                · rw [if_neg c8] at hF
                  refine zx_aload_n rfl rfl rfl ?_
                  refine zx_iconst (v := 1) rfl rfl rfl ?_
                  replace hF := zgd_some hF
                  obtain ⟨g9, hF⟩ := hF
                  replace hF := zbnd hF
                  obtain ⟨p11, e10, hF⟩ := hF
                  refine zx_callE rfl rfl rfl rfl (zrcv_isO g9) rfl rfl (zc4 (Nat.le_of_ble_eq_true rfl)) (t195 (by omega) e10 (zaV ?_))
                  replace hF := Option.some.inj hF
                  subst hF
                  exact zx_return rfl rfl rfl q
                · rw [if_pos c8] at hF
                  exact tb190_321 (l0 := l0) (l1 := l1) hd   hF q
def b190_220 (n : Nat)   (l0 : Nat) (l1 : Int32) (h : zH) : Option (Unit × zH) :=
  if l1 = 39 then
    zgd (isO h l0 11) <|
    (f198 n l0 h).bind fun p4 =>
    some ((), p4.2)
  else
    if l1 = 45 then
      (gI h l0 11 68).bind fun x6 =>
      zgd (isO h l0 11) <|
      (f191 n l0 (x6 + 1) h).bind fun p10 =>
      if p10.1 = 62 then
        (pF p10.2 l0 11 69 (.int 6)).bind fun h12 =>
        (gI h12 l0 11 68).bind fun x14 =>
        (pF h12 l0 11 68 (.int (x14 + 2))).bind fun h16 =>
        some ((), h16)
      else
        b190_273 n  l0 l1 p10.2
    else
      b190_273 n  l0 l1 h
set_option maxRecDepth 20000 in
theorem tb190_220 {d n : Nat} {Q : zRs → zH → Prop}   {l0 : Nat} {l1 : Int32}   (hd : 4 ≤ d)   {h : zH} {p : (Unit × zH)}  (hF : b190_220 n   l0 l1 h = some p) (q : Q (eV p.1) p.2) : zW d 190 220 [some (.ref l0), some (.int l1)] [] h Q := by
  unfold b190_220 at hF
  obtain ⟨d, rfl⟩ : ∃ e, d = e + 1 := ⟨d - 1, by omega⟩
  refine zx_iload_n rfl rfl rfl ?_
  refine zx_bipush (v := 39) rfl rfl rfl ?_
  refine zx_ic_ne rfl rfl (fun c1 => ?_) (fun c1 => ?_)
  · rw [if_neg c1] at hF
    refine zx_iload_n rfl rfl rfl ?_
    refine zx_bipush (v := 45) rfl rfl rfl ?_
    refine zx_ic_ne rfl rfl (fun c5 => ?_) (fun c5 => ?_)
    · rw [if_neg c5] at hF
      exact tb190_273 (l0 := l0) (l1 := l1) hd   hF q
    · rw [if_pos c5] at hF
      refine zx_aload_n rfl rfl rfl ?_
      refine zx_aload_n rfl rfl rfl ?_
      replace hF := zbnd hF
      obtain ⟨x6, e7, hF⟩ := hF
      refine zy_getI rfl rfl e7 ?_
      refine zx_iconst (v := 1) rfl rfl rfl ?_
      refine zx_iadd rfl rfl ?_
      replace hF := zgd_some hF
      obtain ⟨g8, hF⟩ := hF
      replace hF := zbnd hF
      obtain ⟨p10, e9, hF⟩ := hF
      refine zx_callE rfl rfl rfl rfl (zrcv_isO g8) rfl rfl (zc4 (Nat.le_of_ble_eq_true rfl)) (t191 (by omega) e9 (zaI ?_))
      refine zx_bipush (v := 62) rfl rfl rfl ?_
      refine zx_ic_ne rfl rfl (fun c11 => ?_) (fun c11 => ?_)
      · rw [if_neg c11] at hF
        exact tb190_273 (l0 := l0) (l1 := l1) hd   hF q
      · rw [if_pos c11] at hF
        refine zx_aload_n rfl rfl rfl ?_
        refine zx_bipush (v := 6) rfl rfl rfl ?_
        replace hF := zbnd hF
        obtain ⟨h12, e13, hF⟩ := hF
        refine zy_put rfl rfl e13 ?_
        refine zx_aload_n rfl rfl rfl ?_
        refine zx_aload_n rfl rfl rfl ?_
        replace hF := zbnd hF
        obtain ⟨x14, e15, hF⟩ := hF
        refine zy_getI rfl rfl e15 ?_
        refine zx_iconst (v := 2) rfl rfl rfl ?_
        refine zx_iadd rfl rfl ?_
        replace hF := zbnd hF
        obtain ⟨h16, e17, hF⟩ := hF
        refine zy_put rfl rfl e17 ?_
        refine zx_goto rfl rfl ?_
        replace hF := Option.some.inj hF
        subst hF
        exact zx_return rfl rfl rfl q
  · rw [if_pos c1] at hF
    refine zx_aload_n rfl rfl rfl ?_
    replace hF := zgd_some hF
    obtain ⟨g2, hF⟩ := hF
    replace hF := zbnd hF
    obtain ⟨p4, e3, hF⟩ := hF
    refine zx_callE rfl rfl rfl rfl (zrcv_isO g2) rfl rfl (zc4 (Nat.le_of_ble_eq_true rfl)) (t198 (by omega) e3 (zaV ?_))
    refine zx_goto rfl rfl ?_
    replace hF := Option.some.inj hF
    subst hF
    exact zx_return rfl rfl rfl q
def b190_116 (n : Nat)  (r116 : Nat → Int32 → zH → Option (Unit × zH)) (l0 : Nat) (l1 : Int32) (h : zH) : Option (Unit × zH) :=
  (gI h l0 11 68).bind fun x1 =>
  zgd (isO h l0 11) <|
  (f191 n l0 x1 h).bind fun p5 =>
  (f193 n p5.1 p5.2).bind fun p7 =>
  if p7.1 = 0 then
    (gI p7.2 l0 11 68).bind fun x9 =>
    (gI p7.2 l0 11 70).bind fun x11 =>
    (pF p7.2 l0 11 71 (.int (x9 - x11))).bind fun h13 =>
    (gI h13 l0 11 71).bind fun x15 =>
    if x15 ≤ 16 then
      some ((), h13)
    else
      zgd (isO h13 l0 11) <|
      (f195 n l0 1 h13).bind fun p20 =>
      some ((), p20.2)
  else
    (gI p7.2 l0 11 68).bind fun x21 =>
    (pF p7.2 l0 11 68 (.int (x21 + 1))).bind fun h23 =>
    r116 l0 l1 h23
set_option maxRecDepth 20000 in
theorem tb190_116 {d n : Nat} {Q : zRs → zH → Prop}  {r116 : Nat → Int32 → zH → Option (Unit × zH)} {l0 : Nat} {l1 : Int32}   (hd : 4 ≤ d)  (hr116 : ∀ {l0 : Nat} {l1 : Int32}   {h : zH} {p : (Unit × zH)}, r116 l0 l1 h = some p → Q (eV p.1) p.2 → zW d 190 116 [some (.ref l0), some (.int l1)] [] h Q) {h : zH} {p : (Unit × zH)}  (hF : b190_116 n  r116 l0 l1 h = some p) (q : Q (eV p.1) p.2) : zW d 190 116 [some (.ref l0), some (.int l1)] [] h Q := by
  unfold b190_116 at hF
  obtain ⟨d, rfl⟩ : ∃ e, d = e + 1 := ⟨d - 1, by omega⟩
  refine zx_aload_n rfl rfl rfl ?_
  refine zx_aload_n rfl rfl rfl ?_
  replace hF := zbnd hF
  obtain ⟨x1, e2, hF⟩ := hF
  refine zy_getI rfl rfl e2 ?_
  replace hF := zgd_some hF
  obtain ⟨g3, hF⟩ := hF
  replace hF := zbnd hF
  obtain ⟨p5, e4, hF⟩ := hF
  refine zx_callE rfl rfl rfl rfl (zrcv_isO g3) rfl rfl (zc4 (Nat.le_of_ble_eq_true rfl)) (t191 (by omega) e4 (zaI ?_))
  replace hF := zbnd hF
  obtain ⟨p7, e6, hF⟩ := hF
  refine zx_callE rfl rfl rfl rfl rfl rfl rfl (zc4 (Nat.le_of_ble_eq_true rfl)) (t193 (by omega) e6 (zaI ?_))
  refine zx_if_eq rfl rfl (fun c8 => ?_) (fun c8 => ?_)
  · rw [if_pos c8] at hF
    refine zx_aload_n rfl rfl rfl ?_
    refine zx_aload_n rfl rfl rfl ?_
    replace hF := zbnd hF
    obtain ⟨x9, e10, hF⟩ := hF
    refine zy_getI rfl rfl e10 ?_
    refine zx_aload_n rfl rfl rfl ?_
    replace hF := zbnd hF
    obtain ⟨x11, e12, hF⟩ := hF
    refine zy_getI rfl rfl e12 ?_
    refine zx_isub rfl rfl ?_
    replace hF := zbnd hF
    obtain ⟨h13, e14, hF⟩ := hF
    refine zy_put rfl rfl e14 ?_
    refine zx_aload_n rfl rfl rfl ?_
    replace hF := zbnd hF
    obtain ⟨x15, e16, hF⟩ := hF
    refine zy_getI rfl rfl e16 ?_
    refine zx_bipush (v := 16) rfl rfl rfl ?_
    refine zx_ic_le rfl rfl (fun c17 => ?_) (fun c17 => ?_)
    · rw [if_pos c17] at hF
      replace hF := Option.some.inj hF
      subst hF
      exact zx_return rfl rfl rfl q
    · rw [if_neg c17] at hF
      refine zx_aload_n rfl rfl rfl ?_
      refine zx_iconst (v := 1) rfl rfl rfl ?_
      replace hF := zgd_some hF
      obtain ⟨g18, hF⟩ := hF
      replace hF := zbnd hF
      obtain ⟨p20, e19, hF⟩ := hF
      refine zx_callE rfl rfl rfl rfl (zrcv_isO g18) rfl rfl (zc4 (Nat.le_of_ble_eq_true rfl)) (t195 (by omega) e19 (zaV ?_))
      refine zx_goto rfl rfl ?_
      replace hF := Option.some.inj hF
      subst hF
      exact zx_return rfl rfl rfl q
  · rw [if_neg c8] at hF
    refine zx_aload_n rfl rfl rfl ?_
    refine zx_dup rfl rfl rfl ?_
    replace hF := zbnd hF
    obtain ⟨x21, e22, hF⟩ := hF
    refine zy_getI rfl rfl e22 ?_
    refine zx_iconst (v := 1) rfl rfl rfl ?_
    refine zx_iadd rfl rfl ?_
    replace hF := zbnd hF
    obtain ⟨h23, e24, hF⟩ := hF
    refine zy_put rfl rfl e24 ?_
    refine zx_goto rfl rfl ?_
    exact hr116  hF q
def f190_116 (n : Nat)   (k : Nat) : Nat → Int32 → zH → Option (Unit × zH) := Nat.rec (fun _ _ _ => none) (fun _ ih => b190_116 n  ih) k
theorem tf190_116 {d n : Nat} {Q : zRs → zH → Prop}   (hd : 4 ≤ d)   (k : Nat) : ∀ {l0 : Nat} {l1 : Int32}   {h : zH} {p : (Unit × zH)}, f190_116 n   k l0 l1 h = some p → Q (eV p.1) p.2 → zW d 190 116 [some (.ref l0), some (.int l1)] [] h Q := by
  induction k with
  | zero => intros; rename_i hF _; cases hF
  | succ k ih => intros; rename_i  hF q; exact tb190_116 (n := n) hd  ih  hF q
def b190_9 (n : Nat)  (r9 : Nat → zH → Option (Unit × zH)) (l0 : Nat) (h : zH) : Option (Unit × zH) :=
  (gI h l0 11 68).bind fun x1 =>
  zgd (isO h l0 11) <|
  (f191 n l0 x1 h).bind fun p5 =>
  if p5.1 = 9 then
    b190_61 n r9 l0 p5.2
  else
    (gI p5.2 l0 11 68).bind fun x7 =>
    zgd (isO p5.2 l0 11) <|
    (f191 n l0 x7 p5.2).bind fun p11 =>
    if p11.1 = 10 then
      b190_61 n r9 l0 p11.2
    else
      (gI p11.2 l0 11 68).bind fun x13 =>
      zgd (isO p11.2 l0 11) <|
      (f191 n l0 x13 p11.2).bind fun p17 =>
      if p17.1 = 13 then
        b190_61 n r9 l0 p17.2
      else
        (gI p17.2 l0 11 68).bind fun x19 =>
        zgd (isO p17.2 l0 11) <|
        (f191 n l0 x19 p17.2).bind fun p23 =>
        if p23.1 = 32 then
          b190_61 n r9 l0 p23.2
        else
          (gI p23.2 l0 11 68).bind fun x25 =>
          (pF p23.2 l0 11 70 (.int x25)).bind fun h27 =>
          (gI h27 l0 11 68).bind fun x29 =>
          zgd (isO h27 l0 11) <|
          (f191 n l0 x29 h27).bind fun p33 =>
          if p33.1 = (-1) then
            (pF p33.2 l0 11 69 (.int 5)).bind fun h35 =>
            some ((), h35)
          else
            (f192 n p33.1 p33.2).bind fun p38 =>
            if p38.1 = 0 then
              (f194 n p33.1 p38.2).bind fun p41 =>
              if p41.1 = 0 then
                if p33.1 = 45 then
                  (gI p41.2 l0 11 68).bind fun x44 =>
                  zgd (isO p41.2 l0 11) <|
                  (f191 n l0 (x44 + 1) p41.2).bind fun p48 =>
                  (f194 n p48.1 p48.2).bind fun p50 =>
                  if p50.1 = 0 then
                    b190_220 n  l0 p33.1 p50.2
                  else
                    b190_202 n  l0 p33.1 p50.2
                else
                  b190_220 n  l0 p33.1 p41.2
              else
                b190_202 n  l0 p33.1 p41.2
            else
              (pF p38.2 l0 11 69 (.int 1)).bind fun h52 =>
              f190_116 n  n l0 p33.1 h52
set_option maxRecDepth 20000 in
theorem tb190_9 {d n : Nat} {Q : zRs → zH → Prop}  {r9 : Nat → zH → Option (Unit × zH)} {l0 : Nat}  {x1 : Option Value} (hd : 4 ≤ d)  (hr9 : ∀ {l0 : Nat}  {x1 : Option Value} {h : zH} {p : (Unit × zH)}, zn2 x1 = true → r9 l0 h = some p → Q (eV p.1) p.2 → zW d 190 9 [some (.ref l0), x1] [] h Q) {h : zH} {p : (Unit × zH)} (hx1 : zn2 x1 = true) (hF : b190_9 n  r9 l0 h = some p) (q : Q (eV p.1) p.2) : zW d 190 9 [some (.ref l0), x1] [] h Q := by
  unfold b190_9 at hF
  obtain ⟨d, rfl⟩ : ∃ e, d = e + 1 := ⟨d - 1, by omega⟩
  refine zx_aload_n rfl rfl rfl ?_
  refine zx_aload_n rfl rfl rfl ?_
  replace hF := zbnd hF
  obtain ⟨x1, e2, hF⟩ := hF
  refine zy_getI rfl rfl e2 ?_
  replace hF := zgd_some hF
  obtain ⟨g3, hF⟩ := hF
  replace hF := zbnd hF
  obtain ⟨p5, e4, hF⟩ := hF
  refine zx_callE rfl rfl rfl rfl (zrcv_isO g3) rfl rfl (zc4 (Nat.le_of_ble_eq_true rfl)) (t191 (by omega) e4 (zaI ?_))
  refine zx_bipush (v := 9) rfl rfl rfl ?_
  refine zx_ic_eq rfl rfl (fun c6 => ?_) (fun c6 => ?_)
  · rw [if_pos c6] at hF
    exact tb190_61 (l0 := l0) hd hr9 hx1 hF q
  · rw [if_neg c6] at hF
    refine zx_aload_n rfl rfl rfl ?_
    refine zx_aload_n rfl rfl rfl ?_
    replace hF := zbnd hF
    obtain ⟨x7, e8, hF⟩ := hF
    refine zy_getI rfl rfl e8 ?_
    replace hF := zgd_some hF
    obtain ⟨g9, hF⟩ := hF
    replace hF := zbnd hF
    obtain ⟨p11, e10, hF⟩ := hF
    refine zx_callE rfl rfl rfl rfl (zrcv_isO g9) rfl rfl (zc4 (Nat.le_of_ble_eq_true rfl)) (t191 (by omega) e10 (zaI ?_))
    refine zx_bipush (v := 10) rfl rfl rfl ?_
    refine zx_ic_eq rfl rfl (fun c12 => ?_) (fun c12 => ?_)
    · rw [if_pos c12] at hF
      exact tb190_61 (l0 := l0) hd hr9 hx1 hF q
    · rw [if_neg c12] at hF
      refine zx_aload_n rfl rfl rfl ?_
      refine zx_aload_n rfl rfl rfl ?_
      replace hF := zbnd hF
      obtain ⟨x13, e14, hF⟩ := hF
      refine zy_getI rfl rfl e14 ?_
      replace hF := zgd_some hF
      obtain ⟨g15, hF⟩ := hF
      replace hF := zbnd hF
      obtain ⟨p17, e16, hF⟩ := hF
      refine zx_callE rfl rfl rfl rfl (zrcv_isO g15) rfl rfl (zc4 (Nat.le_of_ble_eq_true rfl)) (t191 (by omega) e16 (zaI ?_))
      refine zx_bipush (v := 13) rfl rfl rfl ?_
      refine zx_ic_eq rfl rfl (fun c18 => ?_) (fun c18 => ?_)
      · rw [if_pos c18] at hF
        exact tb190_61 (l0 := l0) hd hr9 hx1 hF q
      · rw [if_neg c18] at hF
        refine zx_aload_n rfl rfl rfl ?_
        refine zx_aload_n rfl rfl rfl ?_
        replace hF := zbnd hF
        obtain ⟨x19, e20, hF⟩ := hF
        refine zy_getI rfl rfl e20 ?_
        replace hF := zgd_some hF
        obtain ⟨g21, hF⟩ := hF
        replace hF := zbnd hF
        obtain ⟨p23, e22, hF⟩ := hF
        refine zx_callE rfl rfl rfl rfl (zrcv_isO g21) rfl rfl (zc4 (Nat.le_of_ble_eq_true rfl)) (t191 (by omega) e22 (zaI ?_))
        refine zx_bipush (v := 32) rfl rfl rfl ?_
        refine zx_ic_ne rfl rfl (fun c24 => ?_) (fun c24 => ?_)
        · rw [if_neg c24] at hF
          refine zx_aload_n rfl rfl rfl ?_
          refine zx_aload_n rfl rfl rfl ?_
          replace hF := zbnd hF
          obtain ⟨x25, e26, hF⟩ := hF
          refine zy_getI rfl rfl e26 ?_
          replace hF := zbnd hF
          obtain ⟨h27, e28, hF⟩ := hF
          refine zy_put rfl rfl e28 ?_
          refine zx_aload_n rfl rfl rfl ?_
          refine zx_aload_n rfl rfl rfl ?_
          replace hF := zbnd hF
          obtain ⟨x29, e30, hF⟩ := hF
          refine zy_getI rfl rfl e30 ?_
          replace hF := zgd_some hF
          obtain ⟨g31, hF⟩ := hF
          replace hF := zbnd hF
          obtain ⟨p33, e32, hF⟩ := hF
          refine zx_callE rfl rfl rfl rfl (zrcv_isO g31) rfl rfl (zc4 (Nat.le_of_ble_eq_true rfl)) (t191 (by omega) e32 (zaI ?_))
          refine zx_istore_n rfl rfl rfl ?_
          refine zx_iload_n rfl rfl rfl ?_
          refine zx_iconst (v := (-1)) rfl rfl rfl ?_
          refine zx_ic_ne rfl rfl (fun c34 => ?_) (fun c34 => ?_)
          · rw [if_neg c34] at hF
            refine zx_iload_n rfl rfl rfl ?_
            replace hF := zbnd hF
            obtain ⟨p38, e37, hF⟩ := hF
            refine zx_callE rfl rfl rfl rfl rfl rfl rfl (zc4 (Nat.le_of_ble_eq_true rfl)) (t192 (by omega) e37 (zaI ?_))
            refine zx_if_eq rfl rfl (fun c39 => ?_) (fun c39 => ?_)
            · rw [if_pos c39] at hF
              refine zx_iload_n rfl rfl rfl ?_
              replace hF := zbnd hF
              obtain ⟨p41, e40, hF⟩ := hF
              refine zx_callE rfl rfl rfl rfl rfl rfl rfl (zc4 (Nat.le_of_ble_eq_true rfl)) (t194 (by omega) e40 (zaI ?_))
              refine zx_if_ne rfl rfl (fun c42 => ?_) (fun c42 => ?_)
              · rw [if_neg c42] at hF
                exact tb190_202 (l0 := l0) (l1 := p33.1) hd   hF q
              · rw [if_pos c42] at hF
                refine zx_iload_n rfl rfl rfl ?_
                refine zx_bipush (v := 45) rfl rfl rfl ?_
                refine zx_ic_ne rfl rfl (fun c43 => ?_) (fun c43 => ?_)
                · rw [if_neg c43] at hF
                  exact tb190_220 (l0 := l0) (l1 := p33.1) hd   hF q
                · rw [if_pos c43] at hF
                  refine zx_aload_n rfl rfl rfl ?_
                  refine zx_aload_n rfl rfl rfl ?_
                  replace hF := zbnd hF
                  obtain ⟨x44, e45, hF⟩ := hF
                  refine zy_getI rfl rfl e45 ?_
                  refine zx_iconst (v := 1) rfl rfl rfl ?_
                  refine zx_iadd rfl rfl ?_
                  replace hF := zgd_some hF
                  obtain ⟨g46, hF⟩ := hF
                  replace hF := zbnd hF
                  obtain ⟨p48, e47, hF⟩ := hF
                  refine zx_callE rfl rfl rfl rfl (zrcv_isO g46) rfl rfl (zc4 (Nat.le_of_ble_eq_true rfl)) (t191 (by omega) e47 (zaI ?_))
                  replace hF := zbnd hF
                  obtain ⟨p50, e49, hF⟩ := hF
                  refine zx_callE rfl rfl rfl rfl rfl rfl rfl (zc4 (Nat.le_of_ble_eq_true rfl)) (t194 (by omega) e49 (zaI ?_))
                  refine zx_if_eq rfl rfl (fun c51 => ?_) (fun c51 => ?_)
                  · rw [if_pos c51] at hF
                    exact tb190_220 (l0 := l0) (l1 := p33.1) hd   hF q
                  · rw [if_neg c51] at hF
                    exact tb190_202 (l0 := l0) (l1 := p33.1) hd   hF q
            · rw [if_neg c39] at hF
              refine zx_aload_n rfl rfl rfl ?_
              refine zx_iconst (v := 1) rfl rfl rfl ?_
              replace hF := zbnd hF
              obtain ⟨h52, e53, hF⟩ := hF
              refine zy_put rfl rfl e53 ?_
              exact tf190_116 hd  n (l0 := l0) (l1 := p33.1)  hF q
          · rw [if_pos c34] at hF
            refine zx_aload_n rfl rfl rfl ?_
            refine zx_iconst (v := 5) rfl rfl rfl ?_
            replace hF := zbnd hF
            obtain ⟨h35, e36, hF⟩ := hF
            refine zy_put rfl rfl e36 ?_
            refine zx_goto rfl rfl ?_
            replace hF := Option.some.inj hF
            subst hF
            exact zx_return rfl rfl rfl q
        · rw [if_pos c24] at hF
          exact tb190_61 (l0 := l0) hd hr9 hx1 hF q
def f190_9 (n : Nat)   (k : Nat) : Nat → zH → Option (Unit × zH) := Nat.rec (fun _ _ => none) (fun _ ih => b190_9 n  ih) k
theorem tf190_9 {d n : Nat} {Q : zRs → zH → Prop}   (hd : 4 ≤ d)   (k : Nat) : ∀ {l0 : Nat}  {x1 : Option Value} {h : zH} {p : (Unit × zH)}, zn2 x1 = true → f190_9 n   k l0 h = some p → Q (eV p.1) p.2 → zW d 190 9 [some (.ref l0), x1] [] h Q := by
  induction k with
  | zero => intros; rename_i hF _; cases hF
  | succ k ih => intros; rename_i hx1 hF q; exact tb190_9 (n := n) hd  ih hx1 hF q
def f190 (n : Nat)  (y0 : Nat) (h : zH) : Option (Unit × zH) :=
  (gI h y0 11 73).bind fun x1 =>
  if x1 = (-1) then
    f190_9 n  n y0 h
  else
    some ((), h)
set_option maxRecDepth 20000 in
theorem t190 {d n : Nat} {Q : zRs → zH → Prop}  {y0 : Nat} (hd : 4 ≤ d)  {h : zH} {p : (Unit × zH)} (hF : f190 n  y0 h = some p) (q : Q (eV p.1) p.2) : zC d 190 [.ref y0] h Q := by
  refine zC_of (L := [some (.ref y0), none]) rfl rfl ?_
  unfold f190 at hF
  obtain ⟨d, rfl⟩ : ∃ e, d = e + 1 := ⟨d - 1, by omega⟩
  refine zx_aload_n rfl rfl rfl ?_
  replace hF := zbnd hF
  obtain ⟨x1, e2, hF⟩ := hF
  refine zy_getI rfl rfl e2 ?_
  refine zx_iconst (v := (-1)) rfl rfl rfl ?_
  refine zx_ic_eq rfl rfl (fun c3 => ?_) (fun c3 => ?_)
  · rw [if_pos c3] at hF
    exact tf190_9 hd  n (l0 := y0) rfl hF q
  · rw [if_neg c3] at hF
    replace hF := Option.some.inj hF
    subst hF
    exact zx_return rfl rfl rfl q
def b199_129 (n : Nat)  (r7 : Nat → Option Nat → Int32 → Int32 → Int32 → zH → Option (Int32 × zH)) (l0 : Nat) (l1 : Option Nat) (l2 : Int32) (l3 : Int32) (l4 : Int32) (h : zH) : Option (Int32 × zH) :=
  r7 l0 l1 l2 l3 (l4 + 1) h
set_option maxRecDepth 20000 in
theorem tb199_129 {d n : Nat} {Q : zRs → zH → Prop}  {r7 : Nat → Option Nat → Int32 → Int32 → Int32 → zH → Option (Int32 × zH)} {l0 : Nat} {l1 : Option Nat} {l2 : Int32} {l3 : Int32} {l4 : Int32}  {x5 : Option Value} {x6 : Option Value} (hd : 4 ≤ d)  (hr7 : ∀ {l0 : Nat} {l1 : Option Nat} {l2 : Int32} {l3 : Int32} {l4 : Int32}  {x5 : Option Value} {x6 : Option Value} {h : zH} {p : (Int32 × zH)}, zn2 x5 = true → zn2 x6 = true → r7 l0 l1 l2 l3 l4 h = some p → Q (eI p.1) p.2 → zW d 199 7 [some (.ref l0), some (va_rf l1), some (.int l2), some (.int l3), some (.int l4), x5, x6] [] h Q) {h : zH} {p : (Int32 × zH)} (hx5 : zn2 x5 = true) (hx6 : zn2 x6 = true) (hF : b199_129 n  r7 l0 l1 l2 l3 l4 h = some p) (q : Q (eI p.1) p.2) : zW d 199 129 [some (.ref l0), some (va_rf l1), some (.int l2), some (.int l3), some (.int l4), x5, x6] [] h Q := by
  unfold b199_129 at hF
  obtain ⟨d, rfl⟩ : ∃ e, d = e + 1 := ⟨d - 1, by omega⟩
  refine zx_iinc (w := 1) rfl rfl rfl rfl rfl ?_
  refine zx_goto rfl rfl ?_
  exact hr7 hx5 hx6 hF q
def b199_114 (n : Nat)  (r7 : Nat → Option Nat → Int32 → Int32 → Int32 → zH → Option (Int32 × zH)) (l0 : Nat) (l1 : Option Nat) (l2 : Int32) (l3 : Int32) (l4 : Int32) (l5 : Int32) (l6 : Int32) (h : zH) : Option (Int32 × zH) :=
  if l5 = 0 then
    b199_129 n r7 l0 l1 (l2 + 1) (l4 + 1) l4 h
  else
    some (l2, h)
set_option maxRecDepth 20000 in
theorem tb199_114 {d n : Nat} {Q : zRs → zH → Prop}  {r7 : Nat → Option Nat → Int32 → Int32 → Int32 → zH → Option (Int32 × zH)} {l0 : Nat} {l1 : Option Nat} {l2 : Int32} {l3 : Int32} {l4 : Int32} {l5 : Int32} {l6 : Int32}   (hd : 4 ≤ d)  (hr7 : ∀ {l0 : Nat} {l1 : Option Nat} {l2 : Int32} {l3 : Int32} {l4 : Int32}  {x5 : Option Value} {x6 : Option Value} {h : zH} {p : (Int32 × zH)}, zn2 x5 = true → zn2 x6 = true → r7 l0 l1 l2 l3 l4 h = some p → Q (eI p.1) p.2 → zW d 199 7 [some (.ref l0), some (va_rf l1), some (.int l2), some (.int l3), some (.int l4), x5, x6] [] h Q) {h : zH} {p : (Int32 × zH)}  (hF : b199_114 n  r7 l0 l1 l2 l3 l4 l5 l6 h = some p) (q : Q (eI p.1) p.2) : zW d 199 114 [some (.ref l0), some (va_rf l1), some (.int l2), some (.int l3), some (.int l4), some (.int l5), some (.int l6)] [] h Q := by
  unfold b199_114 at hF
  obtain ⟨d, rfl⟩ : ∃ e, d = e + 1 := ⟨d - 1, by omega⟩
  refine zx_iload rfl rfl rfl ?_
  refine zx_if_eq rfl rfl (fun c1 => ?_) (fun c1 => ?_)
  · rw [if_pos c1] at hF
    refine zx_iinc (w := 1) rfl rfl rfl rfl (zput_ok (L' := [some (.ref l0), some (va_rf l1), some (.int (l2 + 1)), some (.int l3), some (.int l4), some (.int l5), some (.int l6)]) rfl (zcl_X (j := 1) rfl (zn2_rf _)) rfl) ?_
    refine zx_iload rfl rfl rfl ?_
    refine zx_iconst (v := 1) rfl rfl rfl ?_
    refine zx_iadd rfl rfl ?_
    refine zx_istore_n rfl rfl rfl ?_
    exact tb199_129 (l0 := l0) (l1 := l1) (l2 := (l2 + 1)) (l3 := (l4 + 1)) (l4 := l4) hd hr7 rfl rfl hF q
  · rw [if_neg c1] at hF
    refine zx_iload_n rfl rfl rfl ?_
    replace hF := Option.some.inj hF
    subst hF
    exact zx_bret rfl rfl rfl rfl q
def b199_106 (n : Nat)  (r7 : Nat → Option Nat → Int32 → Int32 → Int32 → zH → Option (Int32 × zH)) (r65 : Nat → Option Nat → Int32 → Int32 → Int32 → Int32 → Int32 → zH → Option (Int32 × zH)) (l0 : Nat) (l1 : Option Nat) (l2 : Int32) (l3 : Int32) (l4 : Int32) (l5 : Int32) (l6 : Int32) (s0 : Int32) (h : zH) : Option (Int32 × zH) :=
  r65 l0 l1 l2 l3 l4 s0 (l6 + 1) h
set_option maxRecDepth 20000 in
theorem tb199_106 {d n : Nat} {Q : zRs → zH → Prop}  {r7 : Nat → Option Nat → Int32 → Int32 → Int32 → zH → Option (Int32 × zH)} {r65 : Nat → Option Nat → Int32 → Int32 → Int32 → Int32 → Int32 → zH → Option (Int32 × zH)} {l0 : Nat} {l1 : Option Nat} {l2 : Int32} {l3 : Int32} {l4 : Int32} {l5 : Int32} {l6 : Int32} {s0 : Int32}  (hd : 4 ≤ d)  (hr7 : ∀ {l0 : Nat} {l1 : Option Nat} {l2 : Int32} {l3 : Int32} {l4 : Int32}  {x5 : Option Value} {x6 : Option Value} {h : zH} {p : (Int32 × zH)}, zn2 x5 = true → zn2 x6 = true → r7 l0 l1 l2 l3 l4 h = some p → Q (eI p.1) p.2 → zW d 199 7 [some (.ref l0), some (va_rf l1), some (.int l2), some (.int l3), some (.int l4), x5, x6] [] h Q) (hr65 : ∀ {l0 : Nat} {l1 : Option Nat} {l2 : Int32} {l3 : Int32} {l4 : Int32} {l5 : Int32} {l6 : Int32}   {h : zH} {p : (Int32 × zH)}, r65 l0 l1 l2 l3 l4 l5 l6 h = some p → Q (eI p.1) p.2 → zW d 199 65 [some (.ref l0), some (va_rf l1), some (.int l2), some (.int l3), some (.int l4), some (.int l5), some (.int l6)] [] h Q) {h : zH} {p : (Int32 × zH)}  (hF : b199_106 n  r7 r65 l0 l1 l2 l3 l4 l5 l6 s0 h = some p) (q : Q (eI p.1) p.2) : zW d 199 106 [some (.ref l0), some (va_rf l1), some (.int l2), some (.int l3), some (.int l4), some (.int l5), some (.int l6)] [.int s0] h Q := by
  unfold b199_106 at hF
  obtain ⟨d, rfl⟩ : ∃ e, d = e + 1 := ⟨d - 1, by omega⟩
  refine zx_istore rfl rfl rfl ?_
  refine zx_iinc (w := 1) rfl rfl rfl rfl rfl ?_
  refine zx_goto rfl rfl ?_
  exact hr65  hF q
def b199_65 (n : Nat)  (r7 : Nat → Option Nat → Int32 → Int32 → Int32 → zH → Option (Int32 × zH)) (r65 : Nat → Option Nat → Int32 → Int32 → Int32 → Int32 → Int32 → zH → Option (Int32 × zH)) (l0 : Nat) (l1 : Option Nat) (l2 : Int32) (l3 : Int32) (l4 : Int32) (l5 : Int32) (l6 : Int32) (h : zH) : Option (Int32 × zH) :=
  (gI h l0 11 71).bind fun x1 =>
  if x1 ≤ l6 then
    b199_114 n r7 l0 l1 l2 l3 l4 l5 l6 h
  else
    if l5 = 0 then
      b199_114 n r7 l0 l1 l2 l3 l4 l5 l6 h
    else
      (gI h l0 11 70).bind fun x5 =>
      zgd (isO h l0 11) <|
      (f191 n l0 (x5 + l6) h).bind fun p9 =>
      l1.bind fun a10 =>
      zgd (isO p9.2 a10 12) <|
      (f59 n a10 (l3 + l6) p9.2).bind fun p13 =>
      if p9.1 = p13.1 then
        b199_106 n r7 r65 l0 (some a10) l2 l3 l4 l5 l6 1 p13.2
      else
        b199_106 n r7 r65 l0 (some a10) l2 l3 l4 l5 l6 0 p13.2
set_option maxRecDepth 20000 in
theorem tb199_65 {d n : Nat} {Q : zRs → zH → Prop}  {r7 : Nat → Option Nat → Int32 → Int32 → Int32 → zH → Option (Int32 × zH)} {r65 : Nat → Option Nat → Int32 → Int32 → Int32 → Int32 → Int32 → zH → Option (Int32 × zH)} {l0 : Nat} {l1 : Option Nat} {l2 : Int32} {l3 : Int32} {l4 : Int32} {l5 : Int32} {l6 : Int32}   (hd : 4 ≤ d)  (hr7 : ∀ {l0 : Nat} {l1 : Option Nat} {l2 : Int32} {l3 : Int32} {l4 : Int32}  {x5 : Option Value} {x6 : Option Value} {h : zH} {p : (Int32 × zH)}, zn2 x5 = true → zn2 x6 = true → r7 l0 l1 l2 l3 l4 h = some p → Q (eI p.1) p.2 → zW d 199 7 [some (.ref l0), some (va_rf l1), some (.int l2), some (.int l3), some (.int l4), x5, x6] [] h Q) (hr65 : ∀ {l0 : Nat} {l1 : Option Nat} {l2 : Int32} {l3 : Int32} {l4 : Int32} {l5 : Int32} {l6 : Int32}   {h : zH} {p : (Int32 × zH)}, r65 l0 l1 l2 l3 l4 l5 l6 h = some p → Q (eI p.1) p.2 → zW d 199 65 [some (.ref l0), some (va_rf l1), some (.int l2), some (.int l3), some (.int l4), some (.int l5), some (.int l6)] [] h Q) {h : zH} {p : (Int32 × zH)}  (hF : b199_65 n  r7 r65 l0 l1 l2 l3 l4 l5 l6 h = some p) (q : Q (eI p.1) p.2) : zW d 199 65 [some (.ref l0), some (va_rf l1), some (.int l2), some (.int l3), some (.int l4), some (.int l5), some (.int l6)] [] h Q := by
  unfold b199_65 at hF
  obtain ⟨d, rfl⟩ : ∃ e, d = e + 1 := ⟨d - 1, by omega⟩
  refine zx_iload rfl rfl rfl ?_
  refine zx_aload_n rfl rfl rfl ?_
  replace hF := zbnd hF
  obtain ⟨x1, e2, hF⟩ := hF
  refine zy_getI rfl rfl e2 ?_
  refine zx_ic_ge rfl rfl (fun c3 => ?_) (fun c3 => ?_)
  · rw [if_pos c3] at hF
    exact tb199_114 (l0 := l0) (l1 := l1) (l2 := l2) (l3 := l3) (l4 := l4) (l5 := l5) (l6 := l6) hd hr7  hF q
  · rw [if_neg c3] at hF
    refine zx_iload rfl rfl rfl ?_
    refine zx_if_eq rfl rfl (fun c4 => ?_) (fun c4 => ?_)
    · rw [if_pos c4] at hF
      exact tb199_114 (l0 := l0) (l1 := l1) (l2 := l2) (l3 := l3) (l4 := l4) (l5 := l5) (l6 := l6) hd hr7  hF q
    · rw [if_neg c4] at hF
      refine zx_aload_n rfl rfl rfl ?_
      refine zx_aload_n rfl rfl rfl ?_
      replace hF := zbnd hF
      obtain ⟨x5, e6, hF⟩ := hF
      refine zy_getI rfl rfl e6 ?_
      refine zx_iload rfl rfl rfl ?_
      refine zx_iadd rfl rfl ?_
      replace hF := zgd_some hF
      obtain ⟨g7, hF⟩ := hF
      replace hF := zbnd hF
      obtain ⟨p9, e8, hF⟩ := hF
      refine zx_callE rfl rfl rfl rfl (zrcv_isO g7) rfl rfl (zc4 (Nat.le_of_ble_eq_true rfl)) (t191 (by omega) e8 (zaI ?_))
      refine zy_rload_n rfl rfl rfl ?_
      refine zx_iload_n rfl rfl rfl ?_
      refine zx_iload rfl rfl rfl ?_
      refine zx_iadd rfl rfl ?_
      replace hF := zbnd hF
      obtain ⟨a10, rfl, hF⟩ := hF
      replace hF := zgd_some hF
      obtain ⟨g11, hF⟩ := hF
      replace hF := zbnd hF
      obtain ⟨p13, e12, hF⟩ := hF
      refine zx_callE rfl rfl rfl rfl (zrcv_isO g11) rfl rfl (zc4 (Nat.le_of_ble_eq_true rfl)) (t59 (by omega) e12 (zaI ?_))
      refine zx_ic_ne rfl rfl (fun c14 => ?_) (fun c14 => ?_)
      · rw [if_neg c14] at hF
        refine zx_iconst (v := 0) rfl rfl rfl ?_
        exact tb199_106 (l0 := l0) (l1 := (some a10)) (l2 := l2) (l3 := l3) (l4 := l4) (l5 := l5) (l6 := l6) (s0 := 0) hd hr7 hr65  hF q
      · rw [if_pos c14] at hF
        refine zx_iconst (v := 1) rfl rfl rfl ?_
        refine zx_goto rfl rfl ?_
        exact tb199_106 (l0 := l0) (l1 := (some a10)) (l2 := l2) (l3 := l3) (l4 := l4) (l5 := l5) (l6 := l6) (s0 := 1) hd hr7 hr65  hF q
def f199_65 (n : Nat)  (r7 : Nat → Option Nat → Int32 → Int32 → Int32 → zH → Option (Int32 × zH)) (k : Nat) : Nat → Option Nat → Int32 → Int32 → Int32 → Int32 → Int32 → zH → Option (Int32 × zH) := Nat.rec (fun _ _ _ _ _ _ _ _ => none) (fun _ ih => b199_65 n  r7 ih) k
theorem tf199_65 {d n : Nat} {Q : zRs → zH → Prop}  {r7 : Nat → Option Nat → Int32 → Int32 → Int32 → zH → Option (Int32 × zH)} (hd : 4 ≤ d)  (hr7 : ∀ {l0 : Nat} {l1 : Option Nat} {l2 : Int32} {l3 : Int32} {l4 : Int32}  {x5 : Option Value} {x6 : Option Value} {h : zH} {p : (Int32 × zH)}, zn2 x5 = true → zn2 x6 = true → r7 l0 l1 l2 l3 l4 h = some p → Q (eI p.1) p.2 → zW d 199 7 [some (.ref l0), some (va_rf l1), some (.int l2), some (.int l3), some (.int l4), x5, x6] [] h Q) (k : Nat) : ∀ {l0 : Nat} {l1 : Option Nat} {l2 : Int32} {l3 : Int32} {l4 : Int32} {l5 : Int32} {l6 : Int32}   {h : zH} {p : (Int32 × zH)}, f199_65 n  r7 k l0 l1 l2 l3 l4 l5 l6 h = some p → Q (eI p.1) p.2 → zW d 199 65 [some (.ref l0), some (va_rf l1), some (.int l2), some (.int l3), some (.int l4), some (.int l5), some (.int l6)] [] h Q := by
  induction k with
  | zero => intros; rename_i hF _; cases hF
  | succ k ih => intros; rename_i  hF q; exact tb199_65 (n := n) hd  hr7 ih  hF q
def b199_60 (n : Nat)  (r7 : Nat → Option Nat → Int32 → Int32 → Int32 → zH → Option (Int32 × zH)) (l0 : Nat) (l1 : Option Nat) (l2 : Int32) (l3 : Int32) (l4 : Int32) (s0 : Int32) (h : zH) : Option (Int32 × zH) :=
  f199_65 n r7 n l0 l1 l2 l3 l4 s0 0 h
set_option maxRecDepth 20000 in
theorem tb199_60 {d n : Nat} {Q : zRs → zH → Prop}  {r7 : Nat → Option Nat → Int32 → Int32 → Int32 → zH → Option (Int32 × zH)} {l0 : Nat} {l1 : Option Nat} {l2 : Int32} {l3 : Int32} {l4 : Int32} {s0 : Int32} {x5 : Option Value} {x6 : Option Value} (hd : 4 ≤ d)  (hr7 : ∀ {l0 : Nat} {l1 : Option Nat} {l2 : Int32} {l3 : Int32} {l4 : Int32}  {x5 : Option Value} {x6 : Option Value} {h : zH} {p : (Int32 × zH)}, zn2 x5 = true → zn2 x6 = true → r7 l0 l1 l2 l3 l4 h = some p → Q (eI p.1) p.2 → zW d 199 7 [some (.ref l0), some (va_rf l1), some (.int l2), some (.int l3), some (.int l4), x5, x6] [] h Q) {h : zH} {p : (Int32 × zH)} (hx5 : zn2 x5 = true) (hx6 : zn2 x6 = true) (hF : b199_60 n  r7 l0 l1 l2 l3 l4 s0 h = some p) (q : Q (eI p.1) p.2) : zW d 199 60 [some (.ref l0), some (va_rf l1), some (.int l2), some (.int l3), some (.int l4), x5, x6] [.int s0] h Q := by
  unfold b199_60 at hF
  obtain ⟨d, rfl⟩ : ∃ e, d = e + 1 := ⟨d - 1, by omega⟩
  refine zx_istore rfl rfl rfl ?_
  refine zx_iconst (v := 0) rfl rfl rfl ?_
  refine zx_istore rfl rfl rfl ?_
  exact tf199_65 hd hr7 n (l0 := l0) (l1 := l1) (l2 := l2) (l3 := l3) (l4 := l4) (l5 := s0) (l6 := 0)  hF q
def b199_59 (n : Nat)  (r7 : Nat → Option Nat → Int32 → Int32 → Int32 → zH → Option (Int32 × zH)) (l0 : Nat) (l1 : Option Nat) (l2 : Int32) (l3 : Int32) (l4 : Int32) (h : zH) : Option (Int32 × zH) :=
  b199_60 n r7 l0 l1 l2 l3 l4 0 h
set_option maxRecDepth 20000 in
theorem tb199_59 {d n : Nat} {Q : zRs → zH → Prop}  {r7 : Nat → Option Nat → Int32 → Int32 → Int32 → zH → Option (Int32 × zH)} {l0 : Nat} {l1 : Option Nat} {l2 : Int32} {l3 : Int32} {l4 : Int32}  {x5 : Option Value} {x6 : Option Value} (hd : 4 ≤ d)  (hr7 : ∀ {l0 : Nat} {l1 : Option Nat} {l2 : Int32} {l3 : Int32} {l4 : Int32}  {x5 : Option Value} {x6 : Option Value} {h : zH} {p : (Int32 × zH)}, zn2 x5 = true → zn2 x6 = true → r7 l0 l1 l2 l3 l4 h = some p → Q (eI p.1) p.2 → zW d 199 7 [some (.ref l0), some (va_rf l1), some (.int l2), some (.int l3), some (.int l4), x5, x6] [] h Q) {h : zH} {p : (Int32 × zH)} (hx5 : zn2 x5 = true) (hx6 : zn2 x6 = true) (hF : b199_59 n  r7 l0 l1 l2 l3 l4 h = some p) (q : Q (eI p.1) p.2) : zW d 199 59 [some (.ref l0), some (va_rf l1), some (.int l2), some (.int l3), some (.int l4), x5, x6] [] h Q := by
  unfold b199_59 at hF
  obtain ⟨d, rfl⟩ : ∃ e, d = e + 1 := ⟨d - 1, by omega⟩
  refine zx_iconst (v := 0) rfl rfl rfl ?_
  exact tb199_60 (l0 := l0) (l1 := l1) (l2 := l2) (l3 := l3) (l4 := l4) (s0 := 0) hd hr7 hx5 hx6 hF q
def b199_36 (n : Nat)  (r7 : Nat → Option Nat → Int32 → Int32 → Int32 → zH → Option (Int32 × zH)) (l0 : Nat) (l1 : Option Nat) (l2 : Int32) (l3 : Int32) (l4 : Int32) (h : zH) : Option (Int32 × zH) :=
  (gI h l0 11 69).bind fun x1 =>
  if x1 = 1 then
    (gI h l0 11 71).bind fun x4 =>
    if x4 = (l4 - l3) then
      b199_60 n r7 l0 l1 l2 l3 l4 1 h
    else
      b199_59 n r7 l0 l1 l2 l3 l4 h
  else
    b199_59 n r7 l0 l1 l2 l3 l4 h
set_option maxRecDepth 20000 in
theorem tb199_36 {d n : Nat} {Q : zRs → zH → Prop}  {r7 : Nat → Option Nat → Int32 → Int32 → Int32 → zH → Option (Int32 × zH)} {l0 : Nat} {l1 : Option Nat} {l2 : Int32} {l3 : Int32} {l4 : Int32}  {x5 : Option Value} {x6 : Option Value} (hd : 4 ≤ d)  (hr7 : ∀ {l0 : Nat} {l1 : Option Nat} {l2 : Int32} {l3 : Int32} {l4 : Int32}  {x5 : Option Value} {x6 : Option Value} {h : zH} {p : (Int32 × zH)}, zn2 x5 = true → zn2 x6 = true → r7 l0 l1 l2 l3 l4 h = some p → Q (eI p.1) p.2 → zW d 199 7 [some (.ref l0), some (va_rf l1), some (.int l2), some (.int l3), some (.int l4), x5, x6] [] h Q) {h : zH} {p : (Int32 × zH)} (hx5 : zn2 x5 = true) (hx6 : zn2 x6 = true) (hF : b199_36 n  r7 l0 l1 l2 l3 l4 h = some p) (q : Q (eI p.1) p.2) : zW d 199 36 [some (.ref l0), some (va_rf l1), some (.int l2), some (.int l3), some (.int l4), x5, x6] [] h Q := by
  unfold b199_36 at hF
  obtain ⟨d, rfl⟩ : ∃ e, d = e + 1 := ⟨d - 1, by omega⟩
  refine zx_aload_n rfl rfl rfl ?_
  replace hF := zbnd hF
  obtain ⟨x1, e2, hF⟩ := hF
  refine zy_getI rfl rfl e2 ?_
  refine zx_iconst (v := 1) rfl rfl rfl ?_
  refine zx_ic_ne rfl rfl (fun c3 => ?_) (fun c3 => ?_)
  · rw [if_neg c3] at hF
    exact tb199_59 (l0 := l0) (l1 := l1) (l2 := l2) (l3 := l3) (l4 := l4) hd hr7 hx5 hx6 hF q
  · rw [if_pos c3] at hF
    refine zx_aload_n rfl rfl rfl ?_
    replace hF := zbnd hF
    obtain ⟨x4, e5, hF⟩ := hF
    refine zy_getI rfl rfl e5 ?_
    refine zx_iload rfl rfl rfl ?_
    refine zx_iload_n rfl rfl rfl ?_
    refine zx_isub rfl rfl ?_
    refine zx_ic_ne rfl rfl (fun c6 => ?_) (fun c6 => ?_)
    · rw [if_neg c6] at hF
      exact tb199_59 (l0 := l0) (l1 := l1) (l2 := l2) (l3 := l3) (l4 := l4) hd hr7 hx5 hx6 hF q
    · rw [if_pos c6] at hF
      refine zx_iconst (v := 1) rfl rfl rfl ?_
      refine zx_goto rfl rfl ?_
      exact tb199_60 (l0 := l0) (l1 := l1) (l2 := l2) (l3 := l3) (l4 := l4) (s0 := 1) hd hr7 hx5 hx6 hF q
def b199_7 (n : Nat)  (r7 : Nat → Option Nat → Int32 → Int32 → Int32 → zH → Option (Int32 × zH)) (l0 : Nat) (l1 : Option Nat) (l2 : Int32) (l3 : Int32) (l4 : Int32) (h : zH) : Option (Int32 × zH) :=
  l1.bind fun a1 =>
  zgd (isO h a1 12) <|
  (f55 n a1 h).bind fun p4 =>
  if p4.1 < l4 then
    some ((-1), p4.2)
  else
    zgd (isO p4.2 a1 12) <|
    (f55 n a1 p4.2).bind fun p8 =>
    if l4 = p8.1 then
      b199_36 n r7 l0 (some a1) l2 l3 l4 p8.2
    else
      zgd (isO p8.2 a1 12) <|
      (f59 n a1 l4 p8.2).bind fun p12 =>
      if p12.1 = 32 then
        b199_36 n r7 l0 (some a1) l2 l3 l4 p12.2
      else
        b199_129 n r7 l0 (some a1) l2 l3 l4 p12.2
set_option maxRecDepth 20000 in
theorem tb199_7 {d n : Nat} {Q : zRs → zH → Prop}  {r7 : Nat → Option Nat → Int32 → Int32 → Int32 → zH → Option (Int32 × zH)} {l0 : Nat} {l1 : Option Nat} {l2 : Int32} {l3 : Int32} {l4 : Int32}  {x5 : Option Value} {x6 : Option Value} (hd : 4 ≤ d)  (hr7 : ∀ {l0 : Nat} {l1 : Option Nat} {l2 : Int32} {l3 : Int32} {l4 : Int32}  {x5 : Option Value} {x6 : Option Value} {h : zH} {p : (Int32 × zH)}, zn2 x5 = true → zn2 x6 = true → r7 l0 l1 l2 l3 l4 h = some p → Q (eI p.1) p.2 → zW d 199 7 [some (.ref l0), some (va_rf l1), some (.int l2), some (.int l3), some (.int l4), x5, x6] [] h Q) {h : zH} {p : (Int32 × zH)} (hx5 : zn2 x5 = true) (hx6 : zn2 x6 = true) (hF : b199_7 n  r7 l0 l1 l2 l3 l4 h = some p) (q : Q (eI p.1) p.2) : zW d 199 7 [some (.ref l0), some (va_rf l1), some (.int l2), some (.int l3), some (.int l4), x5, x6] [] h Q := by
  unfold b199_7 at hF
  obtain ⟨d, rfl⟩ : ∃ e, d = e + 1 := ⟨d - 1, by omega⟩
  refine zx_iload rfl rfl rfl ?_
  refine zy_rload_n rfl rfl rfl ?_
  replace hF := zbnd hF
  obtain ⟨a1, rfl, hF⟩ := hF
  replace hF := zgd_some hF
  obtain ⟨g2, hF⟩ := hF
  replace hF := zbnd hF
  obtain ⟨p4, e3, hF⟩ := hF
  refine zx_callE rfl rfl rfl rfl (zrcv_isO g2) rfl rfl (zc4 (Nat.le_of_ble_eq_true rfl)) (t55 (by omega) e3 (zaI ?_))
  refine zx_ic_gt rfl rfl (fun c5 => ?_) (fun c5 => ?_)
  · rw [if_pos c5] at hF
    refine zx_iconst (v := (-1)) rfl rfl rfl ?_
    replace hF := Option.some.inj hF
    subst hF
    exact zx_bret rfl rfl rfl rfl q
  · rw [if_neg c5] at hF
    refine zx_iload rfl rfl rfl ?_
    refine zx_aload_n rfl rfl rfl ?_
    replace hF := zgd_some hF
    obtain ⟨g6, hF⟩ := hF
    replace hF := zbnd hF
    obtain ⟨p8, e7, hF⟩ := hF
    refine zx_callE rfl rfl rfl rfl (zrcv_isO g6) rfl rfl (zc4 (Nat.le_of_ble_eq_true rfl)) (t55 (by omega) e7 (zaI ?_))
    refine zx_ic_eq rfl rfl (fun c9 => ?_) (fun c9 => ?_)
    · rw [if_pos c9] at hF
      exact tb199_36 (l0 := l0) (l1 := (some a1)) (l2 := l2) (l3 := l3) (l4 := l4) hd hr7 hx5 hx6 hF q
    · rw [if_neg c9] at hF
      refine zx_aload_n rfl rfl rfl ?_
      refine zx_iload rfl rfl rfl ?_
      replace hF := zgd_some hF
      obtain ⟨g10, hF⟩ := hF
      replace hF := zbnd hF
      obtain ⟨p12, e11, hF⟩ := hF
      refine zx_callE rfl rfl rfl rfl (zrcv_isO g10) rfl rfl (zc4 (Nat.le_of_ble_eq_true rfl)) (t59 (by omega) e11 (zaI ?_))
      refine zx_bipush (v := 32) rfl rfl rfl ?_
      refine zx_ic_ne rfl rfl (fun c13 => ?_) (fun c13 => ?_)
      · rw [if_neg c13] at hF
        exact tb199_129 (l0 := l0) (l1 := (some a1)) (l2 := l2) (l3 := l3) (l4 := l4) hd hr7 hx5 hx6 hF q
      · rw [if_pos c13] at hF
        exact tb199_36 (l0 := l0) (l1 := (some a1)) (l2 := l2) (l3 := l3) (l4 := l4) hd hr7 hx5 hx6 hF q
def f199_7 (n : Nat)   (k : Nat) : Nat → Option Nat → Int32 → Int32 → Int32 → zH → Option (Int32 × zH) := Nat.rec (fun _ _ _ _ _ _ => none) (fun _ ih => b199_7 n  ih) k
theorem tf199_7 {d n : Nat} {Q : zRs → zH → Prop}   (hd : 4 ≤ d)   (k : Nat) : ∀ {l0 : Nat} {l1 : Option Nat} {l2 : Int32} {l3 : Int32} {l4 : Int32}  {x5 : Option Value} {x6 : Option Value} {h : zH} {p : (Int32 × zH)}, zn2 x5 = true → zn2 x6 = true → f199_7 n   k l0 l1 l2 l3 l4 h = some p → Q (eI p.1) p.2 → zW d 199 7 [some (.ref l0), some (va_rf l1), some (.int l2), some (.int l3), some (.int l4), x5, x6] [] h Q := by
  induction k with
  | zero => intros; rename_i hF _; cases hF
  | succ k ih => intros; rename_i hx5 hx6 hF q; exact tb199_7 (n := n) hd  ih hx5 hx6 hF q
def f199 (n : Nat)  (y0 : Nat) (y1 : Option Nat) (h : zH) : Option (Int32 × zH) :=
  f199_7 n  n y0 y1 0 0 0 h
set_option maxRecDepth 20000 in
theorem t199 {d n : Nat} {Q : zRs → zH → Prop}  {y0 : Nat} {y1 : Option Nat} (hd : 4 ≤ d)  {h : zH} {p : (Int32 × zH)} (hF : f199 n  y0 y1 h = some p) (q : Q (eI p.1) p.2) : zC d 199 [.ref y0, va_rf y1] h Q := by
  refine zC_of (L := [some (.ref y0), some (va_rf y1), none, none, none, none, none]) (congrArg (List.cons _) ((zsl_rf _ _).trans (congrArg (List.cons _) rfl))) rfl ?_
  unfold f199 at hF
  obtain ⟨d, rfl⟩ : ∃ e, d = e + 1 := ⟨d - 1, by omega⟩
  refine zx_iconst (v := 0) rfl rfl rfl ?_
  refine zx_istore_n rfl rfl (zput_ok (L' := [some (.ref y0), some (va_rf y1), some (.int 0), none, none, none, none]) rfl (zcl_X (j := 1) rfl (zn2_rf _)) rfl) ?_
  refine zx_iconst (v := 0) rfl rfl rfl ?_
  refine zx_istore_n rfl rfl rfl ?_
  refine zx_iconst (v := 0) rfl rfl rfl ?_
  refine zx_istore rfl rfl rfl ?_
  exact tf199_7 hd  n (l0 := y0) (l1 := y1) (l2 := 0) (l3 := 0) (l4 := 0) rfl rfl hF q
def f200 (n : Nat)  (y0 : Nat) (y1 : Int32) (h : zH) : Option (Unit × zH) :=
  (gI h y0 11 73).bind fun x1 =>
  if x1 = (-1) then
    if y1 = 0 then
      zgd (isO h y0 11) <|
      (f195 n y0 2 h).bind fun p7 =>
      some ((), p7.2)
    else
      some ((), h)
  else
    some ((), h)
set_option maxRecDepth 20000 in
theorem t200 {d n : Nat} {Q : zRs → zH → Prop}  {y0 : Nat} {y1 : Int32} (hd : 2 ≤ d)  {h : zH} {p : (Unit × zH)} (hF : f200 n  y0 y1 h = some p) (q : Q (eV p.1) p.2) : zC d 200 [.ref y0, .int y1] h Q := by
  refine zC_of (L := [some (.ref y0), some (.int y1)]) rfl rfl ?_
  unfold f200 at hF
  obtain ⟨d, rfl⟩ : ∃ e, d = e + 1 := ⟨d - 1, by omega⟩
  refine zx_aload_n rfl rfl rfl ?_
  replace hF := zbnd hF
  obtain ⟨x1, e2, hF⟩ := hF
  refine zy_getI rfl rfl e2 ?_
  refine zx_iconst (v := (-1)) rfl rfl rfl ?_
  refine zx_ic_ne rfl rfl (fun c3 => ?_) (fun c3 => ?_)
  · rw [if_neg c3] at hF
    replace hF := Option.some.inj hF
    subst hF
    exact zx_return rfl rfl rfl q
  · rw [if_pos c3] at hF
    refine zx_iload_n rfl rfl rfl ?_
    refine zx_if_ne rfl rfl (fun c4 => ?_) (fun c4 => ?_)
    · rw [if_neg c4] at hF
      replace hF := Option.some.inj hF
      subst hF
      exact zx_return rfl rfl rfl q
    · rw [if_pos c4] at hF
      refine zx_aload_n rfl rfl rfl ?_
      refine zx_iconst (v := 2) rfl rfl rfl ?_
      replace hF := zgd_some hF
      obtain ⟨g5, hF⟩ := hF
      replace hF := zbnd hF
      obtain ⟨p7, e6, hF⟩ := hF
      refine zx_callE rfl rfl rfl rfl (zrcv_isO g5) rfl rfl (zc4 (Nat.le_of_ble_eq_true rfl)) (t195 (by omega) e6 (zaV ?_))
      replace hF := Option.some.inj hF
      subst hF
      exact zx_return rfl rfl rfl q
def f203 (n : Nat)  (y0 : Nat) (h : zH) : Option (Int32 × zH) :=
  (gI h y0 11 69).bind fun x1 =>
  if x1 = 1 then
    zgd (isO h y0 11) <|
    (f199 n y0 (some 55) h).bind fun p6 =>
    if p6.1 = (-1) then
      some (1, p6.2)
    else
      some (0, p6.2)
  else
    some (0, h)
set_option maxRecDepth 20000 in
theorem t203 {d n : Nat} {Q : zRs → zH → Prop}  {y0 : Nat} (hd : 5 ≤ d)  {h : zH} {p : (Int32 × zH)} (hF : f203 n  y0 h = some p) (q : Q (eI p.1) p.2) : zC d 203 [.ref y0] h Q := by
  refine zC_of (L := [some (.ref y0)]) rfl rfl ?_
  unfold f203 at hF
  obtain ⟨d, rfl⟩ : ∃ e, d = e + 1 := ⟨d - 1, by omega⟩
  refine zx_aload_n rfl rfl rfl ?_
  replace hF := zbnd hF
  obtain ⟨x1, e2, hF⟩ := hF
  refine zy_getI rfl rfl e2 ?_
  refine zx_iconst (v := 1) rfl rfl rfl ?_
  refine zx_ic_ne rfl rfl (fun c3 => ?_) (fun c3 => ?_)
  · rw [if_neg c3] at hF
    refine zx_iconst (v := 0) rfl rfl rfl ?_
    replace hF := Option.some.inj hF
    subst hF
    exact zx_bret rfl rfl rfl rfl q
  · rw [if_pos c3] at hF
    refine zx_aload_n rfl rfl rfl ?_
    refine zx_ldcw rfl rfl rfl ?_
    replace hF := zgd_some hF
    obtain ⟨g4, hF⟩ := hF
    replace hF := zbnd hF
    obtain ⟨p6, e5, hF⟩ := hF
    refine zx_callE rfl rfl rfl rfl (zrcv_isO g4) rfl rfl (zc4 (Nat.le_of_ble_eq_true rfl)) (t199 (by omega) e5 (zaI ?_))
    refine zx_iconst (v := (-1)) rfl rfl rfl ?_
    refine zx_ic_ne rfl rfl (fun c7 => ?_) (fun c7 => ?_)
    · rw [if_neg c7] at hF
      refine zx_iconst (v := 0) rfl rfl rfl ?_
      replace hF := Option.some.inj hF
      subst hF
      exact zx_bret rfl rfl rfl rfl q
    · rw [if_pos c7] at hF
      refine zx_iconst (v := 1) rfl rfl rfl ?_
      refine zx_goto rfl rfl ?_
      replace hF := Option.some.inj hF
      subst hF
      exact zx_bret rfl rfl rfl rfl q
def b205_60 (n : Nat)  (r20 : Nat → Int32 → Int32 → Int32 → Int32 → Int32 → zH → Option (Int32 × zH)) (l0 : Nat) (l1 : Int32) (l2 : Int32) (l3 : Int32) (l4 : Int32) (l5 : Int32) (s0 : Int32) (h : zH) : Option (Int32 × zH) :=
  r20 l0 l1 l2 l3 s0 (l5 + 1) h
set_option maxRecDepth 20000 in
theorem tb205_60 {d n : Nat} {Q : zRs → zH → Prop}  {r20 : Nat → Int32 → Int32 → Int32 → Int32 → Int32 → zH → Option (Int32 × zH)} {l0 : Nat} {l1 : Int32} {l2 : Int32} {l3 : Int32} {l4 : Int32} {l5 : Int32} {s0 : Int32}  (hd : 0 ≤ d)  (hr20 : ∀ {l0 : Nat} {l1 : Int32} {l2 : Int32} {l3 : Int32} {l4 : Int32} {l5 : Int32}   {h : zH} {p : (Int32 × zH)}, r20 l0 l1 l2 l3 l4 l5 h = some p → Q (eI p.1) p.2 → zW d 205 20 [some (.ref l0), some (.int l1), some (.int l2), some (.int l3), some (.int l4), some (.int l5)] [] h Q) {h : zH} {p : (Int32 × zH)}  (hF : b205_60 n  r20 l0 l1 l2 l3 l4 l5 s0 h = some p) (q : Q (eI p.1) p.2) : zW d 205 60 [some (.ref l0), some (.int l1), some (.int l2), some (.int l3), some (.int l4), some (.int l5)] [.int s0] h Q := by
  unfold b205_60 at hF
  refine zx_istore rfl rfl rfl ?_
  refine zx_iinc (w := 1) rfl rfl rfl rfl rfl ?_
  refine zx_goto rfl rfl ?_
  exact hr20  hF q
def b205_20 (n : Nat)  (r20 : Nat → Int32 → Int32 → Int32 → Int32 → Int32 → zH → Option (Int32 × zH)) (l0 : Nat) (l1 : Int32) (l2 : Int32) (l3 : Int32) (l4 : Int32) (l5 : Int32) (h : zH) : Option (Int32 × zH) :=
  if l3 ≤ l5 then
    zgd (zrtn .boolean l4) <|
    some (l4, h)
  else
    if l4 = 0 then
      zgd (zrtn .boolean l4) <|
      some (l4, h)
    else
      (gR h l0 11 7).bind fun x5 =>
      x5.bind fun a7 =>
      (aB h a7 ((16 * l1) + l5)).bind fun x8 =>
      (gR h l0 11 1).bind fun x10 =>
      x10.bind fun a12 =>
      (aB h a12 (l2 + l5)).bind fun x13 =>
      if x8 = x13 then
        b205_60 n r20 l0 l1 l2 l3 l4 l5 1 h
      else
        b205_60 n r20 l0 l1 l2 l3 l4 l5 0 h
set_option maxRecDepth 20000 in
theorem tb205_20 {d n : Nat} {Q : zRs → zH → Prop}  {r20 : Nat → Int32 → Int32 → Int32 → Int32 → Int32 → zH → Option (Int32 × zH)} {l0 : Nat} {l1 : Int32} {l2 : Int32} {l3 : Int32} {l4 : Int32} {l5 : Int32}   (hd : 0 ≤ d)  (hr20 : ∀ {l0 : Nat} {l1 : Int32} {l2 : Int32} {l3 : Int32} {l4 : Int32} {l5 : Int32}   {h : zH} {p : (Int32 × zH)}, r20 l0 l1 l2 l3 l4 l5 h = some p → Q (eI p.1) p.2 → zW d 205 20 [some (.ref l0), some (.int l1), some (.int l2), some (.int l3), some (.int l4), some (.int l5)] [] h Q) {h : zH} {p : (Int32 × zH)}  (hF : b205_20 n  r20 l0 l1 l2 l3 l4 l5 h = some p) (q : Q (eI p.1) p.2) : zW d 205 20 [some (.ref l0), some (.int l1), some (.int l2), some (.int l3), some (.int l4), some (.int l5)] [] h Q := by
  unfold b205_20 at hF
  refine zx_iload rfl rfl rfl ?_
  refine zx_iload_n rfl rfl rfl ?_
  refine zx_ic_ge rfl rfl (fun c1 => ?_) (fun c1 => ?_)
  · rw [if_pos c1] at hF
    refine zx_iload rfl rfl rfl ?_
    replace hF := zgd_some hF
    obtain ⟨g2, hF⟩ := hF
    replace hF := Option.some.inj hF
    subst hF
    exact zx_bret rfl rfl rfl g2 q
  · rw [if_neg c1] at hF
    refine zx_iload rfl rfl rfl ?_
    refine zx_if_eq rfl rfl (fun c3 => ?_) (fun c3 => ?_)
    · rw [if_pos c3] at hF
      refine zx_iload rfl rfl rfl ?_
      replace hF := zgd_some hF
      obtain ⟨g4, hF⟩ := hF
      replace hF := Option.some.inj hF
      subst hF
      exact zx_bret rfl rfl rfl g4 q
    · rw [if_neg c3] at hF
      refine zx_aload_n rfl rfl rfl ?_
      replace hF := zbnd hF
      obtain ⟨x5, e6, hF⟩ := hF
      refine zy_getR rfl rfl e6 ?_
      refine zx_bipush (v := 16) rfl rfl rfl ?_
      refine zx_iload_n rfl rfl rfl ?_
      refine zx_imul rfl rfl ?_
      refine zx_iload rfl rfl rfl ?_
      refine zx_iadd rfl rfl ?_
      replace hF := zbnd hF
      obtain ⟨a7, rfl, hF⟩ := hF
      replace hF := zbnd hF
      obtain ⟨x8, e9, hF⟩ := hF
      refine zy_aB rfl rfl e9 ?_
      refine zx_aload_n rfl rfl rfl ?_
      replace hF := zbnd hF
      obtain ⟨x10, e11, hF⟩ := hF
      refine zy_getR rfl rfl e11 ?_
      refine zx_iload_n rfl rfl rfl ?_
      refine zx_iload rfl rfl rfl ?_
      refine zx_iadd rfl rfl ?_
      replace hF := zbnd hF
      obtain ⟨a12, rfl, hF⟩ := hF
      replace hF := zbnd hF
      obtain ⟨x13, e14, hF⟩ := hF
      refine zy_aB rfl rfl e14 ?_
      refine zx_ic_ne rfl rfl (fun c15 => ?_) (fun c15 => ?_)
      · rw [if_neg c15] at hF
        refine zx_iconst (v := 0) rfl rfl rfl ?_
        exact tb205_60 (l0 := l0) (l1 := l1) (l2 := l2) (l3 := l3) (l4 := l4) (l5 := l5) (s0 := 0) hd hr20  hF q
      · rw [if_pos c15] at hF
        refine zx_iconst (v := 1) rfl rfl rfl ?_
        refine zx_goto rfl rfl ?_
        exact tb205_60 (l0 := l0) (l1 := l1) (l2 := l2) (l3 := l3) (l4 := l4) (l5 := l5) (s0 := 1) hd hr20  hF q
def f205_20 (n : Nat)   (k : Nat) : Nat → Int32 → Int32 → Int32 → Int32 → Int32 → zH → Option (Int32 × zH) := Nat.rec (fun _ _ _ _ _ _ _ => none) (fun _ ih => b205_20 n  ih) k
theorem tf205_20 {d n : Nat} {Q : zRs → zH → Prop}   (hd : 0 ≤ d)   (k : Nat) : ∀ {l0 : Nat} {l1 : Int32} {l2 : Int32} {l3 : Int32} {l4 : Int32} {l5 : Int32}   {h : zH} {p : (Int32 × zH)}, f205_20 n   k l0 l1 l2 l3 l4 l5 h = some p → Q (eI p.1) p.2 → zW d 205 20 [some (.ref l0), some (.int l1), some (.int l2), some (.int l3), some (.int l4), some (.int l5)] [] h Q := by
  induction k with
  | zero => intros; rename_i hF _; cases hF
  | succ k ih => intros; rename_i  hF q; exact tb205_20 (n := n) hd  ih  hF q
def b205_15 (n : Nat)   (l0 : Nat) (l1 : Int32) (l2 : Int32) (l3 : Int32) (s0 : Int32) (h : zH) : Option (Int32 × zH) :=
  f205_20 n  n l0 l1 l2 l3 s0 0 h
set_option maxRecDepth 20000 in
theorem tb205_15 {d n : Nat} {Q : zRs → zH → Prop}   {l0 : Nat} {l1 : Int32} {l2 : Int32} {l3 : Int32} {s0 : Int32} {x4 : Option Value} {x5 : Option Value} (hd : 0 ≤ d)   {h : zH} {p : (Int32 × zH)} (hx4 : zn2 x4 = true) (hx5 : zn2 x5 = true) (hF : b205_15 n   l0 l1 l2 l3 s0 h = some p) (q : Q (eI p.1) p.2) : zW d 205 15 [some (.ref l0), some (.int l1), some (.int l2), some (.int l3), x4, x5] [.int s0] h Q := by
  unfold b205_15 at hF
  refine zx_istore rfl rfl rfl ?_
  refine zx_iconst (v := 0) rfl rfl rfl ?_
  refine zx_istore rfl rfl rfl ?_
  exact tf205_20 hd  n (l0 := l0) (l1 := l1) (l2 := l2) (l3 := l3) (l4 := s0) (l5 := 0)  hF q
def f205 (n : Nat)  (y0 : Nat) (y1 : Int32) (y2 : Int32) (y3 : Int32) (h : zH) : Option (Int32 × zH) :=
  (gR h y0 11 6).bind fun x1 =>
  x1.bind fun a3 =>
  (aI h a3 y1).bind fun x4 =>
  if x4 = y3 then
    b205_15 n  y0 y1 y2 y3 1 h
  else
    b205_15 n  y0 y1 y2 y3 0 h
set_option maxRecDepth 20000 in
theorem t205 {d n : Nat} {Q : zRs → zH → Prop}  {y0 : Nat} {y1 : Int32} {y2 : Int32} {y3 : Int32} (hd : 0 ≤ d)  {h : zH} {p : (Int32 × zH)} (hF : f205 n  y0 y1 y2 y3 h = some p) (q : Q (eI p.1) p.2) : zC d 205 [.ref y0, .int y1, .int y2, .int y3] h Q := by
  refine zC_of (L := [some (.ref y0), some (.int y1), some (.int y2), some (.int y3), none, none]) rfl rfl ?_
  unfold f205 at hF
  refine zx_aload_n rfl rfl rfl ?_
  replace hF := zbnd hF
  obtain ⟨x1, e2, hF⟩ := hF
  refine zy_getR rfl rfl e2 ?_
  refine zx_iload_n rfl rfl rfl ?_
  replace hF := zbnd hF
  obtain ⟨a3, rfl, hF⟩ := hF
  replace hF := zbnd hF
  obtain ⟨x4, e5, hF⟩ := hF
  refine zy_aI rfl rfl e5 ?_
  refine zx_iload_n rfl rfl rfl ?_
  refine zx_ic_ne rfl rfl (fun c6 => ?_) (fun c6 => ?_)
  · rw [if_neg c6] at hF
    refine zx_iconst (v := 0) rfl rfl rfl ?_
    exact tb205_15 (l0 := y0) (l1 := y1) (l2 := y2) (l3 := y3) (s0 := 0) hd  rfl rfl hF q
  · rw [if_pos c6] at hF
    refine zx_iconst (v := 1) rfl rfl rfl ?_
    refine zx_goto rfl rfl ?_
    exact tb205_15 (l0 := y0) (l1 := y1) (l2 := y2) (l3 := y3) (s0 := 1) hd  rfl rfl hF q
def b204_3 (n : Nat)  (r3 : Nat → Option Nat → Int32 → Int32 → Int32 → Int32 → Int32 → zH → Option (Int32 × zH)) (l0 : Nat) (l1 : Option Nat) (l2 : Int32) (l3 : Int32) (l4 : Int32) (l5 : Int32) (l6 : Int32) (h : zH) : Option (Int32 × zH) :=
  if l3 ≤ l6 then
    some ((-1), h)
  else
    l1.bind fun a2 =>
    (aI h a2 (l2 + l6)).bind fun x3 =>
    zgd (isO h l0 11) <|
    (f205 n l0 x3 l4 l5 h).bind fun p7 =>
    if p7.1 = 0 then
      r3 l0 (some a2) l2 l3 l4 l5 (l6 + 1) p7.2
    else
      some (l6, p7.2)
set_option maxRecDepth 20000 in
theorem tb204_3 {d n : Nat} {Q : zRs → zH → Prop}  {r3 : Nat → Option Nat → Int32 → Int32 → Int32 → Int32 → Int32 → zH → Option (Int32 × zH)} {l0 : Nat} {l1 : Option Nat} {l2 : Int32} {l3 : Int32} {l4 : Int32} {l5 : Int32} {l6 : Int32}   (hd : 1 ≤ d)  (hr3 : ∀ {l0 : Nat} {l1 : Option Nat} {l2 : Int32} {l3 : Int32} {l4 : Int32} {l5 : Int32} {l6 : Int32}   {h : zH} {p : (Int32 × zH)}, r3 l0 l1 l2 l3 l4 l5 l6 h = some p → Q (eI p.1) p.2 → zW d 204 3 [some (.ref l0), some (va_rf l1), some (.int l2), some (.int l3), some (.int l4), some (.int l5), some (.int l6)] [] h Q) {h : zH} {p : (Int32 × zH)}  (hF : b204_3 n  r3 l0 l1 l2 l3 l4 l5 l6 h = some p) (q : Q (eI p.1) p.2) : zW d 204 3 [some (.ref l0), some (va_rf l1), some (.int l2), some (.int l3), some (.int l4), some (.int l5), some (.int l6)] [] h Q := by
  unfold b204_3 at hF
  obtain ⟨d, rfl⟩ : ∃ e, d = e + 1 := ⟨d - 1, by omega⟩
  refine zx_iload rfl rfl rfl ?_
  refine zx_iload_n rfl rfl rfl ?_
  refine zx_ic_ge rfl rfl (fun c1 => ?_) (fun c1 => ?_)
  · rw [if_pos c1] at hF
    refine zx_iconst (v := (-1)) rfl rfl rfl ?_
    replace hF := Option.some.inj hF
    subst hF
    exact zx_bret rfl rfl rfl rfl q
  · rw [if_neg c1] at hF
    refine zx_aload_n rfl rfl rfl ?_
    refine zy_rload_n rfl rfl rfl ?_
    refine zx_iload_n rfl rfl rfl ?_
    refine zx_iload rfl rfl rfl ?_
    refine zx_iadd rfl rfl ?_
    replace hF := zbnd hF
    obtain ⟨a2, rfl, hF⟩ := hF
    replace hF := zbnd hF
    obtain ⟨x3, e4, hF⟩ := hF
    refine zy_aI rfl rfl e4 ?_
    refine zx_iload rfl rfl rfl ?_
    refine zx_iload rfl rfl rfl ?_
    replace hF := zgd_some hF
    obtain ⟨g5, hF⟩ := hF
    replace hF := zbnd hF
    obtain ⟨p7, e6, hF⟩ := hF
    refine zx_callE rfl rfl rfl rfl (zrcv_isO g5) rfl rfl (zc4 (Nat.le_of_ble_eq_true rfl)) (t205 (by omega) e6 (zaI ?_))
    refine zx_if_eq rfl rfl (fun c8 => ?_) (fun c8 => ?_)
    · rw [if_pos c8] at hF
      refine zx_iinc (w := 1) rfl rfl rfl rfl rfl ?_
      refine zx_goto rfl rfl ?_
      exact hr3  hF q
    · rw [if_neg c8] at hF
      refine zx_iload rfl rfl rfl ?_
      replace hF := Option.some.inj hF
      subst hF
      exact zx_bret rfl rfl rfl rfl q
def f204_3 (n : Nat)   (k : Nat) : Nat → Option Nat → Int32 → Int32 → Int32 → Int32 → Int32 → zH → Option (Int32 × zH) := Nat.rec (fun _ _ _ _ _ _ _ _ => none) (fun _ ih => b204_3 n  ih) k
theorem tf204_3 {d n : Nat} {Q : zRs → zH → Prop}   (hd : 1 ≤ d)   (k : Nat) : ∀ {l0 : Nat} {l1 : Option Nat} {l2 : Int32} {l3 : Int32} {l4 : Int32} {l5 : Int32} {l6 : Int32}   {h : zH} {p : (Int32 × zH)}, f204_3 n   k l0 l1 l2 l3 l4 l5 l6 h = some p → Q (eI p.1) p.2 → zW d 204 3 [some (.ref l0), some (va_rf l1), some (.int l2), some (.int l3), some (.int l4), some (.int l5), some (.int l6)] [] h Q := by
  induction k with
  | zero => intros; rename_i hF _; cases hF
  | succ k ih => intros; rename_i  hF q; exact tb204_3 (n := n) hd  ih  hF q
def f204 (n : Nat)  (y0 : Nat) (y1 : Option Nat) (y2 : Int32) (y3 : Int32) (y4 : Int32) (y5 : Int32) (h : zH) : Option (Int32 × zH) :=
  f204_3 n  n y0 y1 y2 y3 y4 y5 0 h
set_option maxRecDepth 20000 in
theorem t204 {d n : Nat} {Q : zRs → zH → Prop}  {y0 : Nat} {y1 : Option Nat} {y2 : Int32} {y3 : Int32} {y4 : Int32} {y5 : Int32} (hd : 1 ≤ d)  {h : zH} {p : (Int32 × zH)} (hF : f204 n  y0 y1 y2 y3 y4 y5 h = some p) (q : Q (eI p.1) p.2) : zC d 204 [.ref y0, va_rf y1, .int y2, .int y3, .int y4, .int y5] h Q := by
  refine zC_of (L := [some (.ref y0), some (va_rf y1), some (.int y2), some (.int y3), some (.int y4), some (.int y5), none]) (congrArg (List.cons _) ((zsl_rf _ _).trans (congrArg (List.cons _) rfl))) rfl ?_
  unfold f204 at hF
  obtain ⟨d, rfl⟩ : ∃ e, d = e + 1 := ⟨d - 1, by omega⟩
  refine zx_iconst (v := 0) rfl rfl rfl ?_
  refine zx_istore rfl rfl rfl ?_
  exact tf204_3 hd  n (l0 := y0) (l1 := y1) (l2 := y2) (l3 := y3) (l4 := y4) (l5 := y5) (l6 := 0)  hF q
def b207_10 (n : Nat)  (r10 : Nat → Int32 → Int32 → Int32 → Int32 → zH → Option (Unit × zH)) (l0 : Nat) (l1 : Int32) (l2 : Int32) (l3 : Int32) (l4 : Int32) (h : zH) : Option (Unit × zH) :=
  if l3 ≤ l4 then
    some ((), h)
  else
    (gR h l0 11 7).bind fun x2 =>
    (gR h l0 11 1).bind fun x4 =>
    x4.bind fun a6 =>
    (aB h a6 (l2 + l4)).bind fun x7 =>
    x2.bind fun a9 =>
    (aS zsB h a9 ((16 * l1) + l4) (.int x7)).bind fun h10 =>
    r10 l0 l1 l2 l3 (l4 + 1) h10
set_option maxRecDepth 20000 in
theorem tb207_10 {d n : Nat} {Q : zRs → zH → Prop}  {r10 : Nat → Int32 → Int32 → Int32 → Int32 → zH → Option (Unit × zH)} {l0 : Nat} {l1 : Int32} {l2 : Int32} {l3 : Int32} {l4 : Int32}   (hd : 0 ≤ d)  (hr10 : ∀ {l0 : Nat} {l1 : Int32} {l2 : Int32} {l3 : Int32} {l4 : Int32}   {h : zH} {p : (Unit × zH)}, r10 l0 l1 l2 l3 l4 h = some p → Q (eV p.1) p.2 → zW d 207 10 [some (.ref l0), some (.int l1), some (.int l2), some (.int l3), some (.int l4)] [] h Q) {h : zH} {p : (Unit × zH)}  (hF : b207_10 n  r10 l0 l1 l2 l3 l4 h = some p) (q : Q (eV p.1) p.2) : zW d 207 10 [some (.ref l0), some (.int l1), some (.int l2), some (.int l3), some (.int l4)] [] h Q := by
  unfold b207_10 at hF
  refine zx_iload rfl rfl rfl ?_
  refine zx_iload_n rfl rfl rfl ?_
  refine zx_ic_ge rfl rfl (fun c1 => ?_) (fun c1 => ?_)
  · rw [if_pos c1] at hF
    replace hF := Option.some.inj hF
    subst hF
    exact zx_return rfl rfl rfl q
  · rw [if_neg c1] at hF
    refine zx_aload_n rfl rfl rfl ?_
    replace hF := zbnd hF
    obtain ⟨x2, e3, hF⟩ := hF
    refine zy_getR rfl rfl e3 ?_
    refine zx_bipush (v := 16) rfl rfl rfl ?_
    refine zx_iload_n rfl rfl rfl ?_
    refine zx_imul rfl rfl ?_
    refine zx_iload rfl rfl rfl ?_
    refine zx_iadd rfl rfl ?_
    refine zx_aload_n rfl rfl rfl ?_
    replace hF := zbnd hF
    obtain ⟨x4, e5, hF⟩ := hF
    refine zy_getR rfl rfl e5 ?_
    refine zx_iload_n rfl rfl rfl ?_
    refine zx_iload rfl rfl rfl ?_
    refine zx_iadd rfl rfl ?_
    replace hF := zbnd hF
    obtain ⟨a6, rfl, hF⟩ := hF
    replace hF := zbnd hF
    obtain ⟨x7, e8, hF⟩ := hF
    refine zy_aB rfl rfl e8 ?_
    replace hF := zbnd hF
    obtain ⟨a9, rfl, hF⟩ := hF
    replace hF := zbnd hF
    obtain ⟨h10, e11, hF⟩ := hF
    refine zy_sB rfl rfl e11 ?_
    refine zx_iinc (w := 1) rfl rfl rfl rfl rfl ?_
    refine zx_goto rfl rfl ?_
    exact hr10  hF q
def f207_10 (n : Nat)   (k : Nat) : Nat → Int32 → Int32 → Int32 → Int32 → zH → Option (Unit × zH) := Nat.rec (fun _ _ _ _ _ _ => none) (fun _ ih => b207_10 n  ih) k
theorem tf207_10 {d n : Nat} {Q : zRs → zH → Prop}   (hd : 0 ≤ d)   (k : Nat) : ∀ {l0 : Nat} {l1 : Int32} {l2 : Int32} {l3 : Int32} {l4 : Int32}   {h : zH} {p : (Unit × zH)}, f207_10 n   k l0 l1 l2 l3 l4 h = some p → Q (eV p.1) p.2 → zW d 207 10 [some (.ref l0), some (.int l1), some (.int l2), some (.int l3), some (.int l4)] [] h Q := by
  induction k with
  | zero => intros; rename_i hF _; cases hF
  | succ k ih => intros; rename_i  hF q; exact tb207_10 (n := n) hd  ih  hF q
def f207 (n : Nat)  (y0 : Nat) (y1 : Int32) (y2 : Int32) (y3 : Int32) (h : zH) : Option (Unit × zH) :=
  (gR h y0 11 6).bind fun x1 =>
  x1.bind fun a3 =>
  (aS zsI h a3 y1 (.int y3)).bind fun h4 =>
  f207_10 n  n y0 y1 y2 y3 0 h4
set_option maxRecDepth 20000 in
theorem t207 {d n : Nat} {Q : zRs → zH → Prop}  {y0 : Nat} {y1 : Int32} {y2 : Int32} {y3 : Int32} (hd : 0 ≤ d)  {h : zH} {p : (Unit × zH)} (hF : f207 n  y0 y1 y2 y3 h = some p) (q : Q (eV p.1) p.2) : zC d 207 [.ref y0, .int y1, .int y2, .int y3] h Q := by
  refine zC_of (L := [some (.ref y0), some (.int y1), some (.int y2), some (.int y3), none]) rfl rfl ?_
  unfold f207 at hF
  refine zx_aload_n rfl rfl rfl ?_
  replace hF := zbnd hF
  obtain ⟨x1, e2, hF⟩ := hF
  refine zy_getR rfl rfl e2 ?_
  refine zx_iload_n rfl rfl rfl ?_
  refine zx_iload_n rfl rfl rfl ?_
  replace hF := zbnd hF
  obtain ⟨a3, rfl, hF⟩ := hF
  replace hF := zbnd hF
  obtain ⟨h4, e5, hF⟩ := hF
  refine zy_sI rfl rfl e5 ?_
  refine zx_iconst (v := 0) rfl rfl rfl ?_
  refine zx_istore rfl rfl rfl ?_
  exact tf207_10 hd  n (l0 := y0) (l1 := y1) (l2 := y2) (l3 := y3) (l4 := 0)  hF q
def b206_55 (n : Nat)   (l0 : Nat) (l1 : Int32) (s0 : Int32) (s1 : Int32) (s2 : Nat) (h : zH) : Option (Int32 × zH) :=
  (gI h l0 11 71).bind fun x1 =>
  zgd (isO h s2 11) <|
  (f207 n s2 s1 s0 x1 h).bind fun p5 =>
  some (l1, p5.2)
set_option maxRecDepth 20000 in
theorem tb206_55 {d n : Nat} {Q : zRs → zH → Prop}   {l0 : Nat} {l1 : Int32} {s0 : Int32} {s1 : Int32} {s2 : Nat}  (hd : 1 ≤ d)   {h : zH} {p : (Int32 × zH)}  (hF : b206_55 n   l0 l1 s0 s1 s2 h = some p) (q : Q (eI p.1) p.2) : zW d 206 55 [some (.ref l0), some (.int l1)] [.int s0, .int s1, .ref s2] h Q := by
  unfold b206_55 at hF
  obtain ⟨d, rfl⟩ : ∃ e, d = e + 1 := ⟨d - 1, by omega⟩
  refine zx_aload_n rfl rfl rfl ?_
  replace hF := zbnd hF
  obtain ⟨x1, e2, hF⟩ := hF
  refine zy_getI rfl rfl e2 ?_
  replace hF := zgd_some hF
  obtain ⟨g3, hF⟩ := hF
  replace hF := zbnd hF
  obtain ⟨p5, e4, hF⟩ := hF
  refine zx_callE rfl rfl rfl rfl (zrcv_isO g3) rfl rfl (zc4 (Nat.le_of_ble_eq_true rfl)) (t207 (by omega) e4 (zaV ?_))
  refine zx_iload_n rfl rfl rfl ?_
  replace hF := Option.some.inj hF
  subst hF
  exact zx_bret rfl rfl rfl rfl q
def f206 (n : Nat)  (y0 : Nat) (h : zH) : Option (Int32 × zH) :=
  (gI h y0 11 4).bind fun x1 =>
  (gR h y0 11 5).bind fun x3 =>
  (gI h y0 11 4).bind fun x5 =>
  x3.bind fun a7 =>
  (aI h a7 x5).bind fun x8 =>
  (gR h y0 11 5).bind fun x10 =>
  (gI h y0 11 4).bind fun x12 =>
  x10.bind fun a14 =>
  (aI h a14 x12).bind fun x15 =>
  (aS zsI h a14 x12 (.int (x15 + 1))).bind fun h17 =>
  (gI h17 y0 11 69).bind fun x19 =>
  if x19 = 3 then
    (gI h17 y0 11 70).bind fun x22 =>
    b206_55 n  y0 ((1500 * x1) + x8) (x22 + 1) ((1500 * x1) + x8) y0 h17
  else
    (gI h17 y0 11 70).bind fun x24 =>
    b206_55 n  y0 ((1500 * x1) + x8) x24 ((1500 * x1) + x8) y0 h17
set_option maxRecDepth 20000 in
theorem t206 {d n : Nat} {Q : zRs → zH → Prop}  {y0 : Nat} (hd : 1 ≤ d)  {h : zH} {p : (Int32 × zH)} (hF : f206 n  y0 h = some p) (q : Q (eI p.1) p.2) : zC d 206 [.ref y0] h Q := by
  refine zC_of (L := [some (.ref y0), none]) rfl rfl ?_
  unfold f206 at hF
  obtain ⟨d, rfl⟩ : ∃ e, d = e + 1 := ⟨d - 1, by omega⟩
  refine zx_sipush (v := 1500) rfl rfl rfl ?_
  refine zx_aload_n rfl rfl rfl ?_
  replace hF := zbnd hF
  obtain ⟨x1, e2, hF⟩ := hF
  refine zy_getI rfl rfl e2 ?_
  refine zx_imul rfl rfl ?_
  refine zx_aload_n rfl rfl rfl ?_
  replace hF := zbnd hF
  obtain ⟨x3, e4, hF⟩ := hF
  refine zy_getR rfl rfl e4 ?_
  refine zx_aload_n rfl rfl rfl ?_
  replace hF := zbnd hF
  obtain ⟨x5, e6, hF⟩ := hF
  refine zy_getI rfl rfl e6 ?_
  replace hF := zbnd hF
  obtain ⟨a7, rfl, hF⟩ := hF
  replace hF := zbnd hF
  obtain ⟨x8, e9, hF⟩ := hF
  refine zy_aI rfl rfl e9 ?_
  refine zx_iadd rfl rfl ?_
  refine zx_istore_n rfl rfl rfl ?_
  refine zx_aload_n rfl rfl rfl ?_
  replace hF := zbnd hF
  obtain ⟨x10, e11, hF⟩ := hF
  refine zy_getR rfl rfl e11 ?_
  refine zx_aload_n rfl rfl rfl ?_
  replace hF := zbnd hF
  obtain ⟨x12, e13, hF⟩ := hF
  refine zy_getI rfl rfl e13 ?_
  refine zx_dup2 rfl rfl (by rw [zc1_rf]; rfl) ?_
  replace hF := zbnd hF
  obtain ⟨a14, rfl, hF⟩ := hF
  replace hF := zbnd hF
  obtain ⟨x15, e16, hF⟩ := hF
  refine zy_aI rfl rfl e16 ?_
  refine zx_iconst (v := 1) rfl rfl rfl ?_
  refine zx_iadd rfl rfl ?_
  replace hF := zbnd hF
  obtain ⟨h17, e18, hF⟩ := hF
  refine zy_sI rfl rfl e18 ?_
  refine zx_aload_n rfl rfl rfl ?_
  refine zx_iload_n rfl rfl rfl ?_
  refine zx_aload_n rfl rfl rfl ?_
  replace hF := zbnd hF
  obtain ⟨x19, e20, hF⟩ := hF
  refine zy_getI rfl rfl e20 ?_
  refine zx_iconst (v := 3) rfl rfl rfl ?_
  refine zx_ic_ne rfl rfl (fun c21 => ?_) (fun c21 => ?_)
  · rw [if_neg c21] at hF
    refine zx_aload_n rfl rfl rfl ?_
    replace hF := zbnd hF
    obtain ⟨x24, e25, hF⟩ := hF
    refine zy_getI rfl rfl e25 ?_
    exact tb206_55 (l0 := y0) (l1 := ((1500 * x1) + x8)) (s0 := x24) (s1 := ((1500 * x1) + x8)) (s2 := y0) hd   hF q
  · rw [if_pos c21] at hF
    refine zx_aload_n rfl rfl rfl ?_
    replace hF := zbnd hF
    obtain ⟨x22, e23, hF⟩ := hF
    refine zy_getI rfl rfl e23 ?_
    refine zx_iconst (v := 1) rfl rfl rfl ?_
    refine zx_iadd rfl rfl ?_
    refine zx_goto rfl rfl ?_
    exact tb206_55 (l0 := y0) (l1 := ((1500 * x1) + x8)) (s0 := (x22 + 1)) (s1 := ((1500 * x1) + x8)) (s2 := y0) hd   hF q
def b202_40 (n : Nat)   (l0 : Nat) (l1 : Option Nat) (l2 : Int32) (l3 : Int32) (h : zH) : Option (Int32 × zH) :=
  (gI h l0 11 73).bind fun x1 =>
  if x1 = (-1) then
    zgd (isO h l0 11) <|
    (f206 n l0 h).bind fun p6 =>
    zgd (isO p6.2 l0 11) <|
    (f190 n l0 p6.2).bind fun p9 =>
    some (p6.1, p9.2)
  else
    some (0, h)
set_option maxRecDepth 20000 in
theorem tb202_40 {d n : Nat} {Q : zRs → zH → Prop}   {l0 : Nat} {l1 : Option Nat} {l2 : Int32} {l3 : Int32}  {x4 : Option Value} (hd : 6 ≤ d)   {h : zH} {p : (Int32 × zH)} (hx4 : zn2 x4 = true) (hF : b202_40 n   l0 l1 l2 l3 h = some p) (q : Q (eI p.1) p.2) : zW d 202 40 [some (.ref l0), some (va_rf l1), some (.int l2), some (.int l3), x4] [] h Q := by
  unfold b202_40 at hF
  obtain ⟨d, rfl⟩ : ∃ e, d = e + 1 := ⟨d - 1, by omega⟩
  refine zx_aload_n rfl rfl rfl ?_
  replace hF := zbnd hF
  obtain ⟨x1, e2, hF⟩ := hF
  refine zy_getI rfl rfl e2 ?_
  refine zx_iconst (v := (-1)) rfl rfl rfl ?_
  refine zx_ic_eq rfl rfl (fun c3 => ?_) (fun c3 => ?_)
  · rw [if_pos c3] at hF
    refine zx_aload_n rfl rfl rfl ?_
    replace hF := zgd_some hF
    obtain ⟨g4, hF⟩ := hF
    replace hF := zbnd hF
    obtain ⟨p6, e5, hF⟩ := hF
    refine zx_callE rfl rfl rfl rfl (zrcv_isO g4) rfl rfl (zc4 (Nat.le_of_ble_eq_true rfl)) (t206 (by omega) e5 (zaI ?_))
    refine zx_istore rfl rfl rfl ?_
    refine zx_aload_n rfl rfl rfl ?_
    replace hF := zgd_some hF
    obtain ⟨g7, hF⟩ := hF
    replace hF := zbnd hF
    obtain ⟨p9, e8, hF⟩ := hF
    refine zx_callE rfl rfl rfl rfl (zrcv_isO g7) rfl rfl (zc4 (Nat.le_of_ble_eq_true rfl)) (t190 (by omega) e8 (zaV ?_))
    refine zx_iload rfl rfl rfl ?_
    replace hF := Option.some.inj hF
    subst hF
    exact zx_bret rfl rfl rfl rfl q
  · rw [if_neg c3] at hF
    refine zx_iconst (v := 0) rfl rfl rfl ?_
    replace hF := Option.some.inj hF
    subst hF
    exact zx_bret rfl rfl rfl rfl q
def f202 (n : Nat)  (y0 : Nat) (y1 : Option Nat) (y2 : Int32) (y3 : Int32) (h : zH) : Option (Int32 × zH) :=
  zgd (isO h y0 11) <|
  (f203 n y0 h).bind fun p3 =>
  zgd (isO p3.2 y0 11) <|
  (f200 n y0 p3.1 p3.2).bind fun p6 =>
  (gI p6.2 y0 11 73).bind fun x7 =>
  if x7 = (-1) then
    (gI p6.2 y0 11 70).bind fun x10 =>
    (gI p6.2 y0 11 71).bind fun x12 =>
    zgd (isO p6.2 y0 11) <|
    (f204 n y0 y1 y2 y3 x10 x12 p6.2).bind fun p16 =>
    if p16.1 = (-1) then
      b202_40 n  y0 y1 y2 y3 p16.2
    else
      zgd (isO p16.2 y0 11) <|
      (f195 n y0 3 p16.2).bind fun p20 =>
      b202_40 n  y0 y1 y2 y3 p20.2
  else
    b202_40 n  y0 y1 y2 y3 p6.2
set_option maxRecDepth 20000 in
theorem t202 {d n : Nat} {Q : zRs → zH → Prop}  {y0 : Nat} {y1 : Option Nat} {y2 : Int32} {y3 : Int32} (hd : 6 ≤ d)  {h : zH} {p : (Int32 × zH)} (hF : f202 n  y0 y1 y2 y3 h = some p) (q : Q (eI p.1) p.2) : zC d 202 [.ref y0, va_rf y1, .int y2, .int y3] h Q := by
  refine zC_of (L := [some (.ref y0), some (va_rf y1), some (.int y2), some (.int y3), none]) (congrArg (List.cons _) ((zsl_rf _ _).trans (congrArg (List.cons _) rfl))) rfl ?_
  unfold f202 at hF
  obtain ⟨d, rfl⟩ : ∃ e, d = e + 1 := ⟨d - 1, by omega⟩
  refine zx_aload_n rfl rfl rfl ?_
  refine zx_aload_n rfl rfl rfl ?_
  replace hF := zgd_some hF
  obtain ⟨g1, hF⟩ := hF
  replace hF := zbnd hF
  obtain ⟨p3, e2, hF⟩ := hF
  refine zx_callE rfl rfl rfl rfl (zrcv_isO g1) rfl rfl (zc4 (Nat.le_of_ble_eq_true rfl)) (t203 (by omega) e2 (zaI ?_))
  replace hF := zgd_some hF
  obtain ⟨g4, hF⟩ := hF
  replace hF := zbnd hF
  obtain ⟨p6, e5, hF⟩ := hF
  refine zx_callE rfl rfl rfl rfl (zrcv_isO g4) rfl rfl (zc4 (Nat.le_of_ble_eq_true rfl)) (t200 (by omega) e5 (zaV ?_))
  refine zx_aload_n rfl rfl rfl ?_
  replace hF := zbnd hF
  obtain ⟨x7, e8, hF⟩ := hF
  refine zy_getI rfl rfl e8 ?_
  refine zx_iconst (v := (-1)) rfl rfl rfl ?_
  refine zx_ic_ne rfl rfl (fun c9 => ?_) (fun c9 => ?_)
  · rw [if_neg c9] at hF
    exact tb202_40 (l0 := y0) (l1 := y1) (l2 := y2) (l3 := y3) hd  rfl hF q
  · rw [if_pos c9] at hF
    refine zx_aload_n rfl rfl rfl ?_
    refine zy_rload_n rfl rfl rfl ?_
    refine zx_iload_n rfl rfl rfl ?_
    refine zx_iload_n rfl rfl rfl ?_
    refine zx_aload_n rfl rfl rfl ?_
    replace hF := zbnd hF
    obtain ⟨x10, e11, hF⟩ := hF
    refine zy_getI rfl rfl e11 ?_
    refine zx_aload_n rfl rfl rfl ?_
    replace hF := zbnd hF
    obtain ⟨x12, e13, hF⟩ := hF
    refine zy_getI rfl rfl e13 ?_
    replace hF := zgd_some hF
    obtain ⟨g14, hF⟩ := hF
    replace hF := zbnd hF
    obtain ⟨p16, e15, hF⟩ := hF
    refine zx_callE rfl rfl rfl rfl (zrcv_isO g14) (congrArg (List.cons _) ((zsl_rf _ _).trans (congrArg (List.cons _) rfl))) rfl (zc4 (Nat.le_of_ble_eq_true rfl)) (t204 (by omega) e15 (zaI ?_))
    refine zx_iconst (v := (-1)) rfl rfl rfl ?_
    refine zx_ic_eq rfl rfl (fun c17 => ?_) (fun c17 => ?_)
    · rw [if_pos c17] at hF
      exact tb202_40 (l0 := y0) (l1 := y1) (l2 := y2) (l3 := y3) hd  rfl hF q
    · rw [if_neg c17] at hF
      refine zx_aload_n rfl rfl rfl ?_
      refine zx_iconst (v := 3) rfl rfl rfl ?_
      replace hF := zgd_some hF
      obtain ⟨g18, hF⟩ := hF
      replace hF := zbnd hF
      obtain ⟨p20, e19, hF⟩ := hF
      refine zx_callE rfl rfl rfl rfl (zrcv_isO g18) rfl rfl (zc4 (Nat.le_of_ble_eq_true rfl)) (t195 (by omega) e19 (zaV ?_))
      exact tb202_40 (l0 := y0) (l1 := y1) (l2 := y2) (l3 := y3) hd  rfl hF q
def f209 (n : Nat)  (y0 : Nat) (y1 : Int32) (h : zH) : Option (Int32 × zH) :=
  (gI h y0 11 69).bind fun x1 =>
  if x1 = 4 then
    (gI h y0 11 70).bind fun x4 =>
    zgd (isO h y0 11) <|
    (f191 n y0 x4 h).bind fun p8 =>
    if p8.1 = y1 then
      some (1, p8.2)
    else
      some (0, p8.2)
  else
    some (0, h)
set_option maxRecDepth 20000 in
theorem t209 {d n : Nat} {Q : zRs → zH → Prop}  {y0 : Nat} {y1 : Int32} (hd : 1 ≤ d)  {h : zH} {p : (Int32 × zH)} (hF : f209 n  y0 y1 h = some p) (q : Q (eI p.1) p.2) : zC d 209 [.ref y0, .int y1] h Q := by
  refine zC_of (L := [some (.ref y0), some (.int y1)]) rfl rfl ?_
  unfold f209 at hF
  obtain ⟨d, rfl⟩ : ∃ e, d = e + 1 := ⟨d - 1, by omega⟩
  refine zx_aload_n rfl rfl rfl ?_
  replace hF := zbnd hF
  obtain ⟨x1, e2, hF⟩ := hF
  refine zy_getI rfl rfl e2 ?_
  refine zx_iconst (v := 4) rfl rfl rfl ?_
  refine zx_ic_ne rfl rfl (fun c3 => ?_) (fun c3 => ?_)
  · rw [if_neg c3] at hF
    refine zx_iconst (v := 0) rfl rfl rfl ?_
    replace hF := Option.some.inj hF
    subst hF
    exact zx_bret rfl rfl rfl rfl q
  · rw [if_pos c3] at hF
    refine zx_aload_n rfl rfl rfl ?_
    refine zx_aload_n rfl rfl rfl ?_
    replace hF := zbnd hF
    obtain ⟨x4, e5, hF⟩ := hF
    refine zy_getI rfl rfl e5 ?_
    replace hF := zgd_some hF
    obtain ⟨g6, hF⟩ := hF
    replace hF := zbnd hF
    obtain ⟨p8, e7, hF⟩ := hF
    refine zx_callE rfl rfl rfl rfl (zrcv_isO g6) rfl rfl (zc4 (Nat.le_of_ble_eq_true rfl)) (t191 (by omega) e7 (zaI ?_))
    refine zx_iload_n rfl rfl rfl ?_
    refine zx_ic_ne rfl rfl (fun c9 => ?_) (fun c9 => ?_)
    · rw [if_neg c9] at hF
      refine zx_iconst (v := 0) rfl rfl rfl ?_
      replace hF := Option.some.inj hF
      subst hF
      exact zx_bret rfl rfl rfl rfl q
    · rw [if_pos c9] at hF
      refine zx_iconst (v := 1) rfl rfl rfl ?_
      refine zx_goto rfl rfl ?_
      replace hF := Option.some.inj hF
      subst hF
      exact zx_bret rfl rfl rfl rfl q
def f208 (n : Nat)  (y0 : Nat) (y1 : Int32) (h : zH) : Option (Unit × zH) :=
  zgd (isO h y0 11) <|
  (f209 n y0 y1 h).bind fun p3 =>
  zgd (isO p3.2 y0 11) <|
  (f200 n y0 p3.1 p3.2).bind fun p6 =>
  zgd (isO p6.2 y0 11) <|
  (f190 n y0 p6.2).bind fun p9 =>
  some ((), p9.2)
set_option maxRecDepth 20000 in
theorem t208 {d n : Nat} {Q : zRs → zH → Prop}  {y0 : Nat} {y1 : Int32} (hd : 5 ≤ d)  {h : zH} {p : (Unit × zH)} (hF : f208 n  y0 y1 h = some p) (q : Q (eV p.1) p.2) : zC d 208 [.ref y0, .int y1] h Q := by
  refine zC_of (L := [some (.ref y0), some (.int y1)]) rfl rfl ?_
  unfold f208 at hF
  obtain ⟨d, rfl⟩ : ∃ e, d = e + 1 := ⟨d - 1, by omega⟩
  refine zx_aload_n rfl rfl rfl ?_
  refine zx_aload_n rfl rfl rfl ?_
  refine zx_iload_n rfl rfl rfl ?_
  replace hF := zgd_some hF
  obtain ⟨g1, hF⟩ := hF
  replace hF := zbnd hF
  obtain ⟨p3, e2, hF⟩ := hF
  refine zx_callE rfl rfl rfl rfl (zrcv_isO g1) rfl rfl (zc4 (Nat.le_of_ble_eq_true rfl)) (t209 (by omega) e2 (zaI ?_))
  replace hF := zgd_some hF
  obtain ⟨g4, hF⟩ := hF
  replace hF := zbnd hF
  obtain ⟨p6, e5, hF⟩ := hF
  refine zx_callE rfl rfl rfl rfl (zrcv_isO g4) rfl rfl (zc4 (Nat.le_of_ble_eq_true rfl)) (t200 (by omega) e5 (zaV ?_))
  refine zx_aload_n rfl rfl rfl ?_
  replace hF := zgd_some hF
  obtain ⟨g7, hF⟩ := hF
  replace hF := zbnd hF
  obtain ⟨p9, e8, hF⟩ := hF
  refine zx_callE rfl rfl rfl rfl (zrcv_isO g7) rfl rfl (zc4 (Nat.le_of_ble_eq_true rfl)) (t190 (by omega) e8 (zaV ?_))
  replace hF := Option.some.inj hF
  subst hF
  exact zx_return rfl rfl rfl q
def f211 (n : Nat)  (y0 : Nat) (y1 : Int32) (h : zH) : Option (Unit × zH) :=
  (gR h y0 11 77).bind fun x1 =>
  (gI h y0 11 75).bind fun x3 =>
  x1.bind fun a5 =>
  (aS zsI h a5 x3 (.int y1)).bind fun h6 =>
  (gR h6 y0 11 78).bind fun x8 =>
  (gI h6 y0 11 75).bind fun x10 =>
  x8.bind fun a12 =>
  (aS zsI h6 a12 x10 (.int (-1))).bind fun h13 =>
  (gR h13 y0 11 79).bind fun x15 =>
  (gI h13 y0 11 75).bind fun x17 =>
  x15.bind fun a19 =>
  (aS zsI h13 a19 x17 (.int (-1))).bind fun h20 =>
  (gR h20 y0 11 80).bind fun x22 =>
  (gI h20 y0 11 75).bind fun x24 =>
  x22.bind fun a26 =>
  (aS zsI h20 a26 x24 (.int (-1))).bind fun h27 =>
  (gR h27 y0 11 81).bind fun x29 =>
  (gI h27 y0 11 75).bind fun x31 =>
  x29.bind fun a33 =>
  (aS zsI h27 a33 x31 (.int (-1))).bind fun h34 =>
  (gI h34 y0 11 75).bind fun x36 =>
  (pF h34 y0 11 75 (.int (x36 + 1))).bind fun h38 =>
  some ((), h38)
set_option maxRecDepth 20000 in
theorem t211 {d n : Nat} {Q : zRs → zH → Prop}  {y0 : Nat} {y1 : Int32} (hd : 0 ≤ d)  {h : zH} {p : (Unit × zH)} (hF : f211 n  y0 y1 h = some p) (q : Q (eV p.1) p.2) : zC d 211 [.ref y0, .int y1] h Q := by
  refine zC_of (L := [some (.ref y0), some (.int y1)]) rfl rfl ?_
  unfold f211 at hF
  refine zx_aload_n rfl rfl rfl ?_
  replace hF := zbnd hF
  obtain ⟨x1, e2, hF⟩ := hF
  refine zy_getR rfl rfl e2 ?_
  refine zx_aload_n rfl rfl rfl ?_
  replace hF := zbnd hF
  obtain ⟨x3, e4, hF⟩ := hF
  refine zy_getI rfl rfl e4 ?_
  refine zx_iload_n rfl rfl rfl ?_
  replace hF := zbnd hF
  obtain ⟨a5, rfl, hF⟩ := hF
  replace hF := zbnd hF
  obtain ⟨h6, e7, hF⟩ := hF
  refine zy_sI rfl rfl e7 ?_
  refine zx_aload_n rfl rfl rfl ?_
  replace hF := zbnd hF
  obtain ⟨x8, e9, hF⟩ := hF
  refine zy_getR rfl rfl e9 ?_
  refine zx_aload_n rfl rfl rfl ?_
  replace hF := zbnd hF
  obtain ⟨x10, e11, hF⟩ := hF
  refine zy_getI rfl rfl e11 ?_
  refine zx_iconst (v := (-1)) rfl rfl rfl ?_
  replace hF := zbnd hF
  obtain ⟨a12, rfl, hF⟩ := hF
  replace hF := zbnd hF
  obtain ⟨h13, e14, hF⟩ := hF
  refine zy_sI rfl rfl e14 ?_
  refine zx_aload_n rfl rfl rfl ?_
  replace hF := zbnd hF
  obtain ⟨x15, e16, hF⟩ := hF
  refine zy_getR rfl rfl e16 ?_
  refine zx_aload_n rfl rfl rfl ?_
  replace hF := zbnd hF
  obtain ⟨x17, e18, hF⟩ := hF
  refine zy_getI rfl rfl e18 ?_
  refine zx_iconst (v := (-1)) rfl rfl rfl ?_
  replace hF := zbnd hF
  obtain ⟨a19, rfl, hF⟩ := hF
  replace hF := zbnd hF
  obtain ⟨h20, e21, hF⟩ := hF
  refine zy_sI rfl rfl e21 ?_
  refine zx_aload_n rfl rfl rfl ?_
  replace hF := zbnd hF
  obtain ⟨x22, e23, hF⟩ := hF
  refine zy_getR rfl rfl e23 ?_
  refine zx_aload_n rfl rfl rfl ?_
  replace hF := zbnd hF
  obtain ⟨x24, e25, hF⟩ := hF
  refine zy_getI rfl rfl e25 ?_
  refine zx_iconst (v := (-1)) rfl rfl rfl ?_
  replace hF := zbnd hF
  obtain ⟨a26, rfl, hF⟩ := hF
  replace hF := zbnd hF
  obtain ⟨h27, e28, hF⟩ := hF
  refine zy_sI rfl rfl e28 ?_
  refine zx_aload_n rfl rfl rfl ?_
  replace hF := zbnd hF
  obtain ⟨x29, e30, hF⟩ := hF
  refine zy_getR rfl rfl e30 ?_
  refine zx_aload_n rfl rfl rfl ?_
  replace hF := zbnd hF
  obtain ⟨x31, e32, hF⟩ := hF
  refine zy_getI rfl rfl e32 ?_
  refine zx_iconst (v := (-1)) rfl rfl rfl ?_
  replace hF := zbnd hF
  obtain ⟨a33, rfl, hF⟩ := hF
  replace hF := zbnd hF
  obtain ⟨h34, e35, hF⟩ := hF
  refine zy_sI rfl rfl e35 ?_
  refine zx_aload_n rfl rfl rfl ?_
  refine zx_dup rfl rfl rfl ?_
  replace hF := zbnd hF
  obtain ⟨x36, e37, hF⟩ := hF
  refine zy_getI rfl rfl e37 ?_
  refine zx_iconst (v := 1) rfl rfl rfl ?_
  refine zx_iadd rfl rfl ?_
  replace hF := zbnd hF
  obtain ⟨h38, e39, hF⟩ := hF
  refine zy_put rfl rfl e39 ?_
  replace hF := Option.some.inj hF
  subst hF
  exact zx_return rfl rfl rfl q
def f213 (n : Nat)  (y0 : Nat) (y1 : Option Nat) (h : zH) : Option (Int32 × zH) :=
  zgd (isO h y0 11) <|
  (f199 n y0 y1 h).bind fun p3 =>
  if p3.1 = 0 then
    some (1, p3.2)
  else
    some (0, p3.2)
set_option maxRecDepth 20000 in
theorem t213 {d n : Nat} {Q : zRs → zH → Prop}  {y0 : Nat} {y1 : Option Nat} (hd : 5 ≤ d)  {h : zH} {p : (Int32 × zH)} (hF : f213 n  y0 y1 h = some p) (q : Q (eI p.1) p.2) : zC d 213 [.ref y0, va_rf y1] h Q := by
  refine zC_of (L := [some (.ref y0), some (va_rf y1)]) (congrArg (List.cons _) ((zsl_rf _ _).trans (congrArg (List.cons _) rfl))) rfl ?_
  unfold f213 at hF
  obtain ⟨d, rfl⟩ : ∃ e, d = e + 1 := ⟨d - 1, by omega⟩
  refine zx_aload_n rfl rfl rfl ?_
  refine zy_rload_n rfl rfl rfl ?_
  replace hF := zgd_some hF
  obtain ⟨g1, hF⟩ := hF
  replace hF := zbnd hF
  obtain ⟨p3, e2, hF⟩ := hF
  refine zx_callE rfl rfl rfl rfl (zrcv_isO g1) (congrArg (List.cons _) ((zsl_rf _ _).trans (congrArg (List.cons _) rfl))) rfl (zc4 (Nat.le_of_ble_eq_true rfl)) (t199 (by omega) e2 (zaI ?_))
  refine zx_if_ne rfl rfl (fun c4 => ?_) (fun c4 => ?_)
  · rw [if_neg c4] at hF
    refine zx_iconst (v := 0) rfl rfl rfl ?_
    replace hF := Option.some.inj hF
    subst hF
    exact zx_bret rfl rfl rfl rfl q
  · rw [if_pos c4] at hF
    refine zx_iconst (v := 1) rfl rfl rfl ?_
    refine zx_goto rfl rfl ?_
    replace hF := Option.some.inj hF
    subst hF
    exact zx_bret rfl rfl rfl rfl q
def b214_22 (n : Nat)   (l0 : Nat) (h : zH) : Option (Unit × zH) :=
  (gI h l0 11 76).bind fun x1 =>
  (pF h l0 11 76 (.int (x1 + 1))).bind fun h3 =>
  some ((), h3)
set_option maxRecDepth 20000 in
theorem tb214_22 {d n : Nat} {Q : zRs → zH → Prop}   {l0 : Nat}   (hd : 2 ≤ d)   {h : zH} {p : (Unit × zH)}  (hF : b214_22 n   l0 h = some p) (q : Q (eV p.1) p.2) : zW d 214 22 [some (.ref l0)] [] h Q := by
  unfold b214_22 at hF
  obtain ⟨d, rfl⟩ : ∃ e, d = e + 1 := ⟨d - 1, by omega⟩
  refine zx_aload_n rfl rfl rfl ?_
  refine zx_dup rfl rfl rfl ?_
  replace hF := zbnd hF
  obtain ⟨x1, e2, hF⟩ := hF
  refine zy_getI rfl rfl e2 ?_
  refine zx_iconst (v := 1) rfl rfl rfl ?_
  refine zx_iadd rfl rfl ?_
  replace hF := zbnd hF
  obtain ⟨h3, e4, hF⟩ := hF
  refine zy_put rfl rfl e4 ?_
  replace hF := Option.some.inj hF
  subst hF
  exact zx_return rfl rfl rfl q
def f214 (n : Nat)  (y0 : Nat) (h : zH) : Option (Unit × zH) :=
  (gI h y0 11 73).bind fun x1 =>
  if x1 = (-1) then
    (gI h y0 11 76).bind fun x4 =>
    if x4 = 20 then
      zgd (isO h y0 11) <|
      (f195 n y0 5 h).bind fun p9 =>
      b214_22 n  y0 p9.2
    else
      b214_22 n  y0 h
  else
    b214_22 n  y0 h
set_option maxRecDepth 20000 in
theorem t214 {d n : Nat} {Q : zRs → zH → Prop}  {y0 : Nat} (hd : 2 ≤ d)  {h : zH} {p : (Unit × zH)} (hF : f214 n  y0 h = some p) (q : Q (eV p.1) p.2) : zC d 214 [.ref y0] h Q := by
  refine zC_of (L := [some (.ref y0)]) rfl rfl ?_
  unfold f214 at hF
  obtain ⟨d, rfl⟩ : ∃ e, d = e + 1 := ⟨d - 1, by omega⟩
  refine zx_aload_n rfl rfl rfl ?_
  replace hF := zbnd hF
  obtain ⟨x1, e2, hF⟩ := hF
  refine zy_getI rfl rfl e2 ?_
  refine zx_iconst (v := (-1)) rfl rfl rfl ?_
  refine zx_ic_ne rfl rfl (fun c3 => ?_) (fun c3 => ?_)
  · rw [if_neg c3] at hF
    exact tb214_22 (l0 := y0) hd   hF q
  · rw [if_pos c3] at hF
    refine zx_aload_n rfl rfl rfl ?_
    replace hF := zbnd hF
    obtain ⟨x4, e5, hF⟩ := hF
    refine zy_getI rfl rfl e5 ?_
    refine zx_bipush (v := 20) rfl rfl rfl ?_
    refine zx_ic_ne rfl rfl (fun c6 => ?_) (fun c6 => ?_)
    · rw [if_neg c6] at hF
      exact tb214_22 (l0 := y0) hd   hF q
    · rw [if_pos c6] at hF
      refine zx_aload_n rfl rfl rfl ?_
      refine zx_iconst (v := 5) rfl rfl rfl ?_
      replace hF := zgd_some hF
      obtain ⟨g7, hF⟩ := hF
      replace hF := zbnd hF
      obtain ⟨p9, e8, hF⟩ := hF
      refine zx_callE rfl rfl rfl rfl (zrcv_isO g7) rfl rfl (zc4 (Nat.le_of_ble_eq_true rfl)) (t195 (by omega) e8 (zaV ?_))
      exact tb214_22 (l0 := y0) hd   hF q
def b215_28 (n : Nat)   (l0 : Nat) (l1 : Int32) (h : zH) : Option (Int32 × zH) :=
  (gI h l0 11 73).bind fun x1 =>
  if x1 = (-1) then
    (gI h l0 11 4).bind fun x4 =>
    (gR h l0 11 53).bind fun x6 =>
    (gI h l0 11 4).bind fun x8 =>
    x6.bind fun a10 =>
    (aI h a10 x8).bind fun x11 =>
    (gR h l0 11 53).bind fun x13 =>
    (gI h l0 11 4).bind fun x15 =>
    x13.bind fun a17 =>
    (aI h a17 x15).bind fun x18 =>
    (aS zsI h a17 x15 (.int (x18 + 1))).bind fun h20 =>
    (gR h20 l0 11 54).bind fun x22 =>
    x22.bind fun a24 =>
    (aS zsI h20 a24 ((400 * x4) + x11) (.int l1)).bind fun h25 =>
    (gR h25 l0 11 55).bind fun x27 =>
    x27.bind fun a29 =>
    (aS zsI h25 a29 ((400 * x4) + x11) (.int (-1))).bind fun h30 =>
    (gR h30 l0 11 56).bind fun x32 =>
    x32.bind fun a34 =>
    (aS zsB h30 a34 ((400 * x4) + x11) (.int 0)).bind fun h35 =>
    (gR h35 l0 11 57).bind fun x37 =>
    x37.bind fun a39 =>
    (aS zsI h35 a39 ((400 * x4) + x11) (.int 0)).bind fun h40 =>
    (gR h40 l0 11 58).bind fun x42 =>
    x42.bind fun a44 =>
    (aS zsI h40 a44 ((400 * x4) + x11) (.int (-1))).bind fun h45 =>
    (gR h45 l0 11 59).bind fun x47 =>
    x47.bind fun a49 =>
    (aS zsI h45 a49 ((400 * x4) + x11) (.int (-1))).bind fun h50 =>
    (gR h50 l0 11 60).bind fun x52 =>
    x52.bind fun a54 =>
    (aS zsI h50 a54 ((400 * x4) + x11) (.int (-1))).bind fun h55 =>
    (gI h55 l0 11 4).bind fun x57 =>
    some ((((400 * x4) + x11) - (400 * x57)), h55)
  else
    some (0, h)
set_option maxRecDepth 20000 in
theorem tb215_28 {d n : Nat} {Q : zRs → zH → Prop}   {l0 : Nat} {l1 : Int32}  {x2 : Option Value} (hd : 2 ≤ d)   {h : zH} {p : (Int32 × zH)} (hx2 : zn2 x2 = true) (hF : b215_28 n   l0 l1 h = some p) (q : Q (eI p.1) p.2) : zW d 215 28 [some (.ref l0), some (.int l1), x2] [] h Q := by
  unfold b215_28 at hF
  obtain ⟨d, rfl⟩ : ∃ e, d = e + 1 := ⟨d - 1, by omega⟩
  refine zx_aload_n rfl rfl rfl ?_
  replace hF := zbnd hF
  obtain ⟨x1, e2, hF⟩ := hF
  refine zy_getI rfl rfl e2 ?_
  refine zx_iconst (v := (-1)) rfl rfl rfl ?_
  refine zx_ic_eq rfl rfl (fun c3 => ?_) (fun c3 => ?_)
  · rw [if_pos c3] at hF
    refine zx_sipush (v := 400) rfl rfl rfl ?_
    refine zx_aload_n rfl rfl rfl ?_
    replace hF := zbnd hF
    obtain ⟨x4, e5, hF⟩ := hF
    refine zy_getI rfl rfl e5 ?_
    refine zx_imul rfl rfl ?_
    refine zx_aload_n rfl rfl rfl ?_
    replace hF := zbnd hF
    obtain ⟨x6, e7, hF⟩ := hF
    refine zy_getR rfl rfl e7 ?_
    refine zx_aload_n rfl rfl rfl ?_
    replace hF := zbnd hF
    obtain ⟨x8, e9, hF⟩ := hF
    refine zy_getI rfl rfl e9 ?_
    replace hF := zbnd hF
    obtain ⟨a10, rfl, hF⟩ := hF
    replace hF := zbnd hF
    obtain ⟨x11, e12, hF⟩ := hF
    refine zy_aI rfl rfl e12 ?_
    refine zx_iadd rfl rfl ?_
    refine zx_istore_n rfl rfl rfl ?_
    refine zx_aload_n rfl rfl rfl ?_
    replace hF := zbnd hF
    obtain ⟨x13, e14, hF⟩ := hF
    refine zy_getR rfl rfl e14 ?_
    refine zx_aload_n rfl rfl rfl ?_
    replace hF := zbnd hF
    obtain ⟨x15, e16, hF⟩ := hF
    refine zy_getI rfl rfl e16 ?_
    refine zx_dup2 rfl rfl (by rw [zc1_rf]; rfl) ?_
    replace hF := zbnd hF
    obtain ⟨a17, rfl, hF⟩ := hF
    replace hF := zbnd hF
    obtain ⟨x18, e19, hF⟩ := hF
    refine zy_aI rfl rfl e19 ?_
    refine zx_iconst (v := 1) rfl rfl rfl ?_
    refine zx_iadd rfl rfl ?_
    replace hF := zbnd hF
    obtain ⟨h20, e21, hF⟩ := hF
    refine zy_sI rfl rfl e21 ?_
    refine zx_aload_n rfl rfl rfl ?_
    replace hF := zbnd hF
    obtain ⟨x22, e23, hF⟩ := hF
    refine zy_getR rfl rfl e23 ?_
    refine zx_iload_n rfl rfl rfl ?_
    refine zx_iload_n rfl rfl rfl ?_
    replace hF := zbnd hF
    obtain ⟨a24, rfl, hF⟩ := hF
    replace hF := zbnd hF
    obtain ⟨h25, e26, hF⟩ := hF
    refine zy_sI rfl rfl e26 ?_
    refine zx_aload_n rfl rfl rfl ?_
    replace hF := zbnd hF
    obtain ⟨x27, e28, hF⟩ := hF
    refine zy_getR rfl rfl e28 ?_
    refine zx_iload_n rfl rfl rfl ?_
    refine zx_iconst (v := (-1)) rfl rfl rfl ?_
    replace hF := zbnd hF
    obtain ⟨a29, rfl, hF⟩ := hF
    replace hF := zbnd hF
    obtain ⟨h30, e31, hF⟩ := hF
    refine zy_sI rfl rfl e31 ?_
    refine zx_aload_n rfl rfl rfl ?_
    replace hF := zbnd hF
    obtain ⟨x32, e33, hF⟩ := hF
    refine zy_getR rfl rfl e33 ?_
    refine zx_iload_n rfl rfl rfl ?_
    refine zx_iconst (v := 0) rfl rfl rfl ?_
    replace hF := zbnd hF
    obtain ⟨a34, rfl, hF⟩ := hF
    replace hF := zbnd hF
    obtain ⟨h35, e36, hF⟩ := hF
    refine zy_sB rfl rfl e36 ?_
    refine zx_aload_n rfl rfl rfl ?_
    replace hF := zbnd hF
    obtain ⟨x37, e38, hF⟩ := hF
    refine zy_getR rfl rfl e38 ?_
    refine zx_iload_n rfl rfl rfl ?_
    refine zx_iconst (v := 0) rfl rfl rfl ?_
    replace hF := zbnd hF
    obtain ⟨a39, rfl, hF⟩ := hF
    replace hF := zbnd hF
    obtain ⟨h40, e41, hF⟩ := hF
    refine zy_sI rfl rfl e41 ?_
    refine zx_aload_n rfl rfl rfl ?_
    replace hF := zbnd hF
    obtain ⟨x42, e43, hF⟩ := hF
    refine zy_getR rfl rfl e43 ?_
    refine zx_iload_n rfl rfl rfl ?_
    refine zx_iconst (v := (-1)) rfl rfl rfl ?_
    replace hF := zbnd hF
    obtain ⟨a44, rfl, hF⟩ := hF
    replace hF := zbnd hF
    obtain ⟨h45, e46, hF⟩ := hF
    refine zy_sI rfl rfl e46 ?_
    refine zx_aload_n rfl rfl rfl ?_
    replace hF := zbnd hF
    obtain ⟨x47, e48, hF⟩ := hF
    refine zy_getR rfl rfl e48 ?_
    refine zx_iload_n rfl rfl rfl ?_
    refine zx_iconst (v := (-1)) rfl rfl rfl ?_
    replace hF := zbnd hF
    obtain ⟨a49, rfl, hF⟩ := hF
    replace hF := zbnd hF
    obtain ⟨h50, e51, hF⟩ := hF
    refine zy_sI rfl rfl e51 ?_
    refine zx_aload_n rfl rfl rfl ?_
    replace hF := zbnd hF
    obtain ⟨x52, e53, hF⟩ := hF
    refine zy_getR rfl rfl e53 ?_
    refine zx_iload_n rfl rfl rfl ?_
    refine zx_iconst (v := (-1)) rfl rfl rfl ?_
    replace hF := zbnd hF
    obtain ⟨a54, rfl, hF⟩ := hF
    replace hF := zbnd hF
    obtain ⟨h55, e56, hF⟩ := hF
    refine zy_sI rfl rfl e56 ?_
    refine zx_iload_n rfl rfl rfl ?_
    refine zx_sipush (v := 400) rfl rfl rfl ?_
    refine zx_aload_n rfl rfl rfl ?_
    replace hF := zbnd hF
    obtain ⟨x57, e58, hF⟩ := hF
    refine zy_getI rfl rfl e58 ?_
    refine zx_imul rfl rfl ?_
    refine zx_isub rfl rfl ?_
    replace hF := Option.some.inj hF
    subst hF
    exact zx_bret rfl rfl rfl rfl q
  · rw [if_neg c3] at hF
    refine zx_iconst (v := 0) rfl rfl rfl ?_
    replace hF := Option.some.inj hF
    subst hF
    exact zx_bret rfl rfl rfl rfl q
def f215 (n : Nat)  (y0 : Nat) (y1 : Int32) (h : zH) : Option (Int32 × zH) :=
  (gI h y0 11 73).bind fun x1 =>
  if x1 = (-1) then
    (gR h y0 11 53).bind fun x4 =>
    (gI h y0 11 4).bind fun x6 =>
    x4.bind fun a8 =>
    (aI h a8 x6).bind fun x9 =>
    if x9 = 400 then
      zgd (isO h y0 11) <|
      (f195 n y0 5 h).bind fun p14 =>
      b215_28 n  y0 y1 p14.2
    else
      b215_28 n  y0 y1 h
  else
    b215_28 n  y0 y1 h
set_option maxRecDepth 20000 in
theorem t215 {d n : Nat} {Q : zRs → zH → Prop}  {y0 : Nat} {y1 : Int32} (hd : 2 ≤ d)  {h : zH} {p : (Int32 × zH)} (hF : f215 n  y0 y1 h = some p) (q : Q (eI p.1) p.2) : zC d 215 [.ref y0, .int y1] h Q := by
  refine zC_of (L := [some (.ref y0), some (.int y1), none]) rfl rfl ?_
  unfold f215 at hF
  obtain ⟨d, rfl⟩ : ∃ e, d = e + 1 := ⟨d - 1, by omega⟩
  refine zx_aload_n rfl rfl rfl ?_
  replace hF := zbnd hF
  obtain ⟨x1, e2, hF⟩ := hF
  refine zy_getI rfl rfl e2 ?_
  refine zx_iconst (v := (-1)) rfl rfl rfl ?_
  refine zx_ic_ne rfl rfl (fun c3 => ?_) (fun c3 => ?_)
  · rw [if_neg c3] at hF
    exact tb215_28 (l0 := y0) (l1 := y1) hd  rfl hF q
  · rw [if_pos c3] at hF
    refine zx_aload_n rfl rfl rfl ?_
    replace hF := zbnd hF
    obtain ⟨x4, e5, hF⟩ := hF
    refine zy_getR rfl rfl e5 ?_
    refine zx_aload_n rfl rfl rfl ?_
    replace hF := zbnd hF
    obtain ⟨x6, e7, hF⟩ := hF
    refine zy_getI rfl rfl e7 ?_
    replace hF := zbnd hF
    obtain ⟨a8, rfl, hF⟩ := hF
    replace hF := zbnd hF
    obtain ⟨x9, e10, hF⟩ := hF
    refine zy_aI rfl rfl e10 ?_
    refine zx_sipush (v := 400) rfl rfl rfl ?_
    refine zx_ic_ne rfl rfl (fun c11 => ?_) (fun c11 => ?_)
    · rw [if_neg c11] at hF
      exact tb215_28 (l0 := y0) (l1 := y1) hd  rfl hF q
    · rw [if_pos c11] at hF
      refine zx_aload_n rfl rfl rfl ?_
      refine zx_iconst (v := 5) rfl rfl rfl ?_
      replace hF := zgd_some hF
      obtain ⟨g12, hF⟩ := hF
      replace hF := zbnd hF
      obtain ⟨p14, e13, hF⟩ := hF
      refine zx_callE rfl rfl rfl rfl (zrcv_isO g12) rfl rfl (zc4 (Nat.le_of_ble_eq_true rfl)) (t195 (by omega) e13 (zaV ?_))
      exact tb215_28 (l0 := y0) (l1 := y1) hd  rfl hF q
end ZDEC
